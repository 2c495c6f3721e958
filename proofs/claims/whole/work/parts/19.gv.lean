section GVR
variable {l : Launch} {sc : Nat × (Nat → Int32)} {Mt : gl_M} {pc : Nat} {ls st : List Value} {M : gl_N} {Q : Option Value → gl_N → Prop}
theorem gv_goto {a : Int} {t : Nat} (ht : (pc : Int) + a = (t : Int)) (hd : decode Mt.2.1 pc = .ok (.goto a, 3)) (K : gv l sc Mt t ls st M Q) : gv l sc Mt pc ls st M Q := gl_r_goto ht hd K
theorem gv_icmp_eq {a : Int} {t : Nat} {x y : Int32} (ht : (pc : Int) + a = (t : Int)) (hd : decode Mt.2.1 pc = .ok (.if_icmp .eq a, 3)) (Kt : x = y → gv l sc Mt t ls st M Q) (Kf : ¬ x = y → gv l sc Mt (pc + 3) ls st M Q) : gv l sc Mt pc ls (.int y :: .int x :: st) M Q := gl_r_icmp_eq ht hd Kt Kf
theorem gv_if_eq {a : Int} {t : Nat} {x : Int32} (ht : (pc : Int) + a = (t : Int)) (hd : decode Mt.2.1 pc = .ok (.ifCond .eq a, 3)) (Kt : x = 0 → gv l sc Mt t ls st M Q) (Kf : ¬ x = 0 → gv l sc Mt (pc + 3) ls st M Q) : gv l sc Mt pc ls (.int x :: st) M Q := gl_r_if_eq ht hd Kt Kf
theorem gv_icmp_ne {a : Int} {t : Nat} {x y : Int32} (ht : (pc : Int) + a = (t : Int)) (hd : decode Mt.2.1 pc = .ok (.if_icmp .ne a, 3)) (Kt : ¬ x = y → gv l sc Mt t ls st M Q) (Kf : x = y → gv l sc Mt (pc + 3) ls st M Q) : gv l sc Mt pc ls (.int y :: .int x :: st) M Q := gl_r_icmp_ne ht hd Kt Kf
theorem gv_if_ne {a : Int} {t : Nat} {x : Int32} (ht : (pc : Int) + a = (t : Int)) (hd : decode Mt.2.1 pc = .ok (.ifCond .ne a, 3)) (Kt : ¬ x = 0 → gv l sc Mt t ls st M Q) (Kf : x = 0 → gv l sc Mt (pc + 3) ls st M Q) : gv l sc Mt pc ls (.int x :: st) M Q := gl_r_if_ne ht hd Kt Kf
theorem gv_icmp_lt {a : Int} {t : Nat} {x y : Int32} (ht : (pc : Int) + a = (t : Int)) (hd : decode Mt.2.1 pc = .ok (.if_icmp .lt a, 3)) (Kt : x < y → gv l sc Mt t ls st M Q) (Kf : ¬ x < y → gv l sc Mt (pc + 3) ls st M Q) : gv l sc Mt pc ls (.int y :: .int x :: st) M Q := gl_r_icmp_lt ht hd Kt Kf
theorem gv_if_lt {a : Int} {t : Nat} {x : Int32} (ht : (pc : Int) + a = (t : Int)) (hd : decode Mt.2.1 pc = .ok (.ifCond .lt a, 3)) (Kt : x < 0 → gv l sc Mt t ls st M Q) (Kf : ¬ x < 0 → gv l sc Mt (pc + 3) ls st M Q) : gv l sc Mt pc ls (.int x :: st) M Q := gl_r_if_lt ht hd Kt Kf
theorem gv_icmp_ge {a : Int} {t : Nat} {x y : Int32} (ht : (pc : Int) + a = (t : Int)) (hd : decode Mt.2.1 pc = .ok (.if_icmp .ge a, 3)) (Kt : y ≤ x → gv l sc Mt t ls st M Q) (Kf : ¬ y ≤ x → gv l sc Mt (pc + 3) ls st M Q) : gv l sc Mt pc ls (.int y :: .int x :: st) M Q := gl_r_icmp_ge ht hd Kt Kf
theorem gv_if_ge {a : Int} {t : Nat} {x : Int32} (ht : (pc : Int) + a = (t : Int)) (hd : decode Mt.2.1 pc = .ok (.ifCond .ge a, 3)) (Kt : 0 ≤ x → gv l sc Mt t ls st M Q) (Kf : ¬ 0 ≤ x → gv l sc Mt (pc + 3) ls st M Q) : gv l sc Mt pc ls (.int x :: st) M Q := gl_r_if_ge ht hd Kt Kf
theorem gv_icmp_gt {a : Int} {t : Nat} {x y : Int32} (ht : (pc : Int) + a = (t : Int)) (hd : decode Mt.2.1 pc = .ok (.if_icmp .gt a, 3)) (Kt : y < x → gv l sc Mt t ls st M Q) (Kf : ¬ y < x → gv l sc Mt (pc + 3) ls st M Q) : gv l sc Mt pc ls (.int y :: .int x :: st) M Q := gl_r_icmp_gt ht hd Kt Kf
theorem gv_if_gt {a : Int} {t : Nat} {x : Int32} (ht : (pc : Int) + a = (t : Int)) (hd : decode Mt.2.1 pc = .ok (.ifCond .gt a, 3)) (Kt : 0 < x → gv l sc Mt t ls st M Q) (Kf : ¬ 0 < x → gv l sc Mt (pc + 3) ls st M Q) : gv l sc Mt pc ls (.int x :: st) M Q := gl_r_if_gt ht hd Kt Kf
theorem gv_icmp_le {a : Int} {t : Nat} {x y : Int32} (ht : (pc : Int) + a = (t : Int)) (hd : decode Mt.2.1 pc = .ok (.if_icmp .le a, 3)) (Kt : x ≤ y → gv l sc Mt t ls st M Q) (Kf : ¬ x ≤ y → gv l sc Mt (pc + 3) ls st M Q) : gv l sc Mt pc ls (.int y :: .int x :: st) M Q := gl_r_icmp_le ht hd Kt Kf
theorem gv_if_le {a : Int} {t : Nat} {x : Int32} (ht : (pc : Int) + a = (t : Int)) (hd : decode Mt.2.1 pc = .ok (.ifCond .le a, 3)) (Kt : x ≤ 0 → gv l sc Mt t ls st M Q) (Kf : ¬ x ≤ 0 → gv l sc Mt (pc + 3) ls st M Q) : gv l sc Mt pc ls (.int x :: st) M Q := gl_r_if_le ht hd Kt Kf
/-- fewer locals are known -/
def gl_wk : List Value → List Value → Prop
  | [], [] => True
  | v :: r, w :: r' => (w = v ∨ gl_is w = false) ∧ gl_wk r r'
  | _, _ => False
theorem gl_wk_spec : ∀ (ls ls' : List Value), gl_wk ls ls' → ls.length = ls'.length ∧ ∀ (i : Nat) (v : Value), ls'[i]? = some v → gl_is v = true → ls[i]? = some v := by
  intro ls
  induction ls with
  | nil =>
    intro ls' h
    cases ls' with
    | nil => exact ⟨rfl, fun i v hi _ => hi⟩
    | cons w r => exact h.elim
  | cons u r ih =>
    intro ls' h
    cases ls' with
    | nil => exact h.elim
    | cons w r' =>
      obtain ⟨h1, h2⟩ := h
      obtain ⟨h3, h4⟩ := ih r' h2
      refine ⟨by simp [h3], fun i v hi hv => ?_⟩
      cases i with
      | zero =>
        cases hi
        rcases h1 with rfl | h1
        · rfl
        · rw [h1] at hv; cases hv
      | succ i => exact h4 i v hi hv
theorem gv_weak {ls' : List Value} (hw : gl_wk ls ls') (K : gv l sc Mt pc ls' st M Q) : gv l sc Mt pc ls st M Q := by
  intro base b D cI cB p e R s m args below meth c H locs cells slots A QW C W0 S0 hc hs hL fin
  obtain ⟨h1, h2⟩ := gl_wk_spec _ _ hw
  refine K base b D cI cB p e R s m args below meth c H locs cells slots A QW C W0 S0 hc hs ⟨⟨hL.1.1, hL.1.2.1, fun q hq => hL.1.2.2 q ?_⟩, by rw [← h1]; exact hL.2⟩ fin
  obtain ⟨v, g1, g2, g3⟩ := gl_lv_mem.mp hq
  exact gl_lv_mem.mpr ⟨v, h2 _ _ g1 g2, g2, g3⟩
theorem gv_table {dflt lo hi : Int} {offs : Array Int} {len : Nat} {x : Int32} {off : Int} {t : Nat} (hd : decode Mt.2.1 pc = .ok (.tableswitch dflt lo hi offs, len)) (h1 : ¬ x.toInt < lo) (h2 : ¬ hi < x.toInt) (ho : offs[(x.toInt - lo).toNat]? = some off) (ht : (pc : Int) + off = (t : Int)) (K : gv l sc Mt t ls st M Q) : gv l sc Mt pc ls (.int x :: st) M Q := by
  intro base b D cI cB p e R s m args below meth c H locs cells slots A QW C W0 S0 hc hs hL fin
  exact lv_tableIn C.1 C.2.1 hd h1 h2 ho ht (K base b D cI cB p e R s m args below meth c H locs cells slots A QW C W0 S0 hc hs hL fin)
theorem gv_tableD {dflt lo hi : Int} {offs : Array Int} {len : Nat} {x : Int32} {t : Nat} (hd : decode Mt.2.1 pc = .ok (.tableswitch dflt lo hi offs, len)) (h1 : x.toInt < lo ∨ hi < x.toInt) (ht : (pc : Int) + dflt = (t : Int)) (K : gv l sc Mt t ls st M Q) : gv l sc Mt pc ls (.int x :: st) M Q := by
  intro base b D cI cB p e R s m args below meth c H locs cells slots A QW C W0 S0 hc hs hL fin
  exact lv_tableOut C.1 C.2.1 hd h1 ht (K base b D cI cB p e R s m args below meth c H locs cells slots A QW C W0 S0 hc hs hL fin)
theorem gr_mono {av : List Value} {Q' : Option Value → gl_N → Prop} (h : gr l sc Mt av M Q) (hQ : ∀ r M', Q r M' → Q' r M') : gr l sc Mt av M Q' := by
  intro base b D cI cB p e ha hc hk s m args below hf hap hP hK
  obtain ⟨t, o, h1, h2, h3, h4, h5⟩ := h base b D cI cB p e ha hc hk s m args below hf hap hP hK
  obtain ⟨r, h', g1, ⟨M', g2, g3⟩, g4, g5⟩ := h4
  exact ⟨t, o, h1, h2, h3, ⟨r, h', g1, ⟨M', g2, hQ _ _ g3⟩, g4, g5⟩, h5⟩
theorem gl_swout (n : Nat) {x : Int32} (hn : n ≤ 100) (h : ∀ i : Nat, i < n → ¬ x = Int32.ofNat i) : x.toInt < 0 ∨ ((n : Int) - 1) < x.toInt := by
  rcases Int.lt_or_le x.toInt 0 with h0 | h0
  · exact Or.inl h0
  · refine Or.inr (Int.lt_of_not_ge fun hc => ?_)
    have hlt : x.toInt.toNat < n := by omega
    refine h x.toInt.toNat hlt (Int32.toInt_inj.mp ?_)
    rw [Int32.toInt_ofNat_of_lt (by omega)]
    omega
end GVR

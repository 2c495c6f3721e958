section SP2
variable {WY : sp_WY} {PR : sp_PR} {l : Launch} {sc : Nat × (Nat → Int32)}
theorem sp_lt {n N : Nat} (hn : n ≤ 100000) (hN : N ≤ 100000) : nI n < nI N ↔ n < N := nI_ltI (by omega) (by omega)
theorem sp_le {n N : Nat} (hn : n ≤ 100000) (hN : N ≤ 100000) : nI n ≤ nI N ↔ n ≤ N := nI_leI (by omega) (by omega)
theorem sp_eq {n N : Nat} (hn : n ≤ 100000) (hN : N ≤ 100000) : nI n = nI N ↔ n = N := nI_eq (by omega) (by omega)
theorem sp_updeq (f g : Nat → Int32) (n : Nat) (x : Int32) {P : Int32 → Prop} (h : ∀ j, j < n → g j = f j ∧ P (f j)) (hx : P x) : ∀ j, j < n + 1 → upd g n x j = upd f n x j ∧ P (upd f n x j) := by
  intro j hj
  by_cases e : j = n
  · subst e; simp only [upd, if_true]; exact ⟨trivial, hx⟩
  · simp only [upd, if_neg e]; exact h j (by omega)
theorem s_type (x : Int32) : sp_S WY PR l sc m_X10_type m_X11_type [.int x] := by
  rintro ch M hch ⟨⟨n, hn, ha, hc, hj⟩, h2, h3, h4, h5, h6, h7⟩
  refine e_X10_type l sc M _ x ?_
  refine r_within (fun c1 c2 => ⟨1, rfl, fun _ => ⟨fun hlt => ?_, fun hlt => ?_⟩, fun h => absurd h (by decide)⟩) (fun c => ⟨0, rfl, fun h => absurd rfl h, fun _ => ?_⟩)
  · have hn' : n < 130 := by rw [ha] at hlt; exact (sp_lt (by omega) (by omega)).mp hlt
    refine e_X7_add l sc M _ x ⟨by rw [ha]; exact sp_vp hn' (by omega), rfl, _, rfl, ?_⟩
    refine e_X11_type l sc _ _ x ?_
    refine r_in (fun _ _ => ⟨1, rfl, fun _ => ⟨fun hne => ?_, fun he => ?_⟩, fun h => absurd h (by decide)⟩) (fun c => absurd ⟨c1, c2⟩ c)
    · refine ⟨by show vp_in (M 42 18) 130; rw [hc]; exact sp_vp hn' (by omega), ?_, ⟨n + 1, hn', ?_, ?_, ?_⟩, h2, h3, h4, h5, h6.on, h7⟩
      · show some (Value.int (M 42 18 + 1)) = some (Value.int (M 1 1 + 1))
        rw [hc, ha]
      · show M 1 1 + 1 = nI (n + 1)
        rw [ha]; exact nI_1 n
      · show M 42 18 + 1 = nI (n + 1)
        rw [hc]; exact nI_1 n
      · show ∀ j, j < n + 1 → upd (M 54) (M 42 18).toNatClampNeg x j = upd (M 2) (M 1 1).toNatClampNeg x j ∧ 0 ≤ upd (M 2) (M 1 1).toNatClampNeg x j ∧ upd (M 2) (M 1 1).toNatClampNeg x j ≤ 255
        rw [hc, ha, sp_cl (by omega)]
        exact sp_updeq (P := fun y => 0 ≤ y ∧ y ≤ 255) _ _ n x hj ⟨c1, c2⟩
    · exfalso
      have he : M 42 18 = nI 130 := he
      rw [hc] at he
      exact absurd ((sp_eq (by omega) (by omega)).mp he) (by omega)
  · have hn' : n = 130 := by
      rw [ha] at hlt
      have := mt (sp_lt (n := n) (N := 130) (by omega) (by omega)).mpr hlt
      omega
    refine ⟨_, rfl, e_X11_type l sc _ _ x ?_⟩
    refine r_in (fun _ _ => ⟨1, rfl, fun _ => ⟨fun hne => absurd ?_ hne, fun he => ⟨rfl, ⟨n, hn, ha, hc, hj⟩, h2, h3, h4, h5, h6.on, h7⟩⟩, fun h => absurd h (by decide)⟩) (fun c => absurd ⟨c1, c2⟩ c)
    show M 42 18 = nI 130
    rw [hc, hn']
  · refine ⟨_, rfl, e_X11_type l sc _ _ x ?_⟩
    exact r_in (fun c1 c2 => absurd ⟨c1, c2⟩ c) (fun c => ⟨0, rfl, fun h => absurd rfl h, fun _ => ⟨rfl, ⟨n, hn, ha, hc, hj⟩, h2, h3, h4, h5, h6.on, h7⟩⟩)
theorem s_clear : sp_S WY PR l sc m_X10_clear m_X11_clear [] := by
  rintro ch M hch ⟨⟨n, hn, ha, hc, hj⟩, h2, h3, h4, h5, h6, h7⟩
  refine e_X10_clear l sc M _ ⟨_, rfl, ?_⟩
  refine e_X11_clear l sc _ _ ⟨?_, ⟨0, Nat.zero_le _, rfl, rfl, fun j hj => absurd hj (Nat.not_lt_zero _)⟩, h2, h3, h4, h5, h6.on, h7⟩
  show some (Value.int (M 42 18)) = some (Value.int (M 1 1))
  rw [ha, hc]
theorem s_forget : sp_S WY PR l sc m_X10_forget m_X11_forget [] := by
  rintro ch M hch ⟨h1, h2, h3, h4, ⟨n, hn, ha, hc, hj⟩, h6, h7⟩
  refine e_X10_forget l sc M _ ⟨_, rfl, ?_⟩
  refine e_X11_forget l sc _ _ ⟨?_, h1, h2, h3, h4, ⟨0, Nat.zero_le _, rfl, rfl, fun j hj => absurd hj (Nat.not_lt_zero _)⟩, h6.on, h7⟩
  show some (Value.int (M 42 15)) = some (Value.int (M 29 2))
  rw [ha, hc]
theorem s_count (x : Int32) : sp_S WY PR l sc m_X10_count m_X11_count [.int x] := by
  rintro ch M hch ⟨h1, h2, h3, h4, h5, h6, h7⟩
  have hI : sp_I WY PR (ch + 1) (gl_u2 M 42 0 0) := ⟨h1, h2, h3, h4, h5, h6.on, h7⟩
  obtain ⟨n1, -, a1, b1, -⟩ := h1
  obtain ⟨n2, -, a2, b2, -⟩ := h2
  obtain ⟨n3, p3, -, ⟨o3, -, -, a3, -⟩, b3, -⟩ := h3
  obtain ⟨n5, -, a5, b5, -⟩ := h5
  obtain ⟨B, -, hC, hR, -⟩ := h7
  refine e_X10_count l sc M _ x ⟨fun e => ?_, fun e => ?_, fun e => ?_, fun e => ?_, fun e => ?_, fun e => ?_, fun e0 e1 e2 e3 e4 e5 => ?_⟩
  · refine ⟨_, rfl, e_X11_count l sc M _ x ⟨fun _ => ⟨by rw [hC.1, hR.1], hI⟩, fun q => ?_, fun q => ?_, fun q => ?_, fun q => ?_, fun q => ?_, fun q => absurd e q⟩⟩ <;> (rw [e] at q; exact absurd q (by decide))
  · refine ⟨_, rfl, e_X11_count l sc M _ x ⟨fun q => ?_, fun _ => ⟨by rw [hC.2.1, hR.2.1], hI⟩, fun q => ?_, fun q => ?_, fun q => ?_, fun q => ?_, fun _ q => absurd e q⟩⟩ <;> (rw [e] at q; exact absurd q (by decide))
  · refine ⟨_, rfl, e_X11_count l sc M _ x ⟨fun q => ?_, fun q => ?_, fun _ => ⟨by rw [a2, b2], hI⟩, fun q => ?_, fun q => ?_, fun q => ?_, fun _ _ q => absurd e q⟩⟩ <;> (rw [e] at q; exact absurd q (by decide))
  · refine ⟨_, rfl, e_X11_count l sc M _ x ⟨fun q => ?_, fun q => ?_, fun q => ?_, fun _ => ⟨by rw [a5, b5], hI⟩, fun q => ?_, fun q => ?_, fun _ _ _ q => absurd e q⟩⟩ <;> (rw [e] at q; exact absurd q (by decide))
  · refine ⟨_, rfl, e_X11_count l sc M _ x ⟨fun q => ?_, fun q => ?_, fun q => ?_, fun q => ?_, fun _ => ⟨by rw [a1, b1], hI⟩, fun q => ?_, fun _ _ _ _ q => absurd e q⟩⟩ <;> (rw [e] at q; exact absurd q (by decide))
  · refine ⟨_, rfl, e_X11_count l sc M _ x ⟨fun q => ?_, fun q => ?_, fun q => ?_, fun q => ?_, fun q => ?_, fun _ => ⟨by rw [a3, b3], hI⟩, fun _ _ _ _ _ q => absurd e q⟩⟩ <;> (rw [e] at q; exact absurd q (by decide))
  · exact ⟨_, rfl, e_X11_count l sc M _ x ⟨fun q => absurd q e0, fun q => absurd q e1, fun q => absurd q e2, fun q => absurd q e3, fun q => absurd q e4, fun q => absurd q e5, fun _ _ _ _ _ _ => ⟨rfl, hI⟩⟩⟩
theorem sp_01 {x : Int32} (h0 : 0 ≤ x) (h1 : x ≤ 1) : x = 0 ∨ x = 1 := by
  have a := Int32.le_iff_toInt_le.mp h0
  have b := Int32.le_iff_toInt_le.mp h1
  have c : x.toInt = 0 ∨ x.toInt = 1 := by
    have e0 : (0 : Int32).toInt = 0 := rfl
    have e1 : (1 : Int32).toInt = 1 := rfl
    omega
  rcases c with c | c
  · exact Or.inl (Int32.toInt_inj.mp c)
  · exact Or.inr (Int32.toInt_inj.mp c)
theorem s_sees (x y : Int32) : sp_S WY PR l sc m_X10_sees m_X11_sees [.int x, .int y] := by
  rintro ch M hch ⟨h1, h2, h3, h4, ⟨n, hn, ha, hc, hj⟩, h6, h7⟩
  have h5 : sp_Sn (M 29 2) (M 30) (M 31) (M 42 15) (M 52) (M 53) := ⟨n, hn, ha, hc, hj⟩
  refine e_X10_sees l sc M _ x y ?_
  refine r_within (fun c1 c2 => ⟨1, rfl, fun h => absurd h (by decide), fun _ => ?_⟩) (fun c => ⟨0, rfl, fun _ => ?_, fun h => absurd rfl h⟩)
  · refine r_within (fun d1 d2 => ⟨1, rfl, fun _ => ⟨fun hlt => ?_, fun hlt => ?_⟩, fun h => absurd h (by decide)⟩) (fun d => ⟨0, rfl, fun h => absurd rfl h, fun _ => ?_⟩)
    · have hn' : n < 8 := by rw [ha] at hlt; exact (sp_lt (by omega) (by omega)).mp hlt
      refine e_X5_add l sc M _ x y ⟨by rw [ha]; exact ⟨sp_vp hn' (by omega), sp_vp hn' (by omega)⟩, rfl, _, rfl, ?_⟩
      refine e_X11_sees l sc _ _ x y ?_
      refine r_in (fun _ _ => ⟨1, rfl, fun h => absurd h (by decide), fun _ => ?_⟩) (fun c => absurd ⟨c1, c2⟩ c)
      refine r_in (fun _ _ => ⟨1, rfl, fun _ => ⟨fun hne => ?_, fun he => ?_⟩, fun h => absurd h (by decide)⟩) (fun c => absurd ⟨d1, d2⟩ c)
      · refine ⟨by show vp_in (M 42 15) 8 ∧ vp_in (M 42 15) 8; rw [hc]; exact ⟨sp_vp hn' (by omega), sp_vp hn' (by omega)⟩, ?_, h1, h2, h3, h4, ⟨n + 1, hn', ?_, ?_, ?_⟩, h6.on, h7⟩
        · show some (Value.int (M 42 15 + 1)) = some (Value.int (M 29 2 + 1))
          rw [hc, ha]
        · show M 29 2 + 1 = nI (n + 1)
          rw [ha]; exact nI_1 n
        · show M 42 15 + 1 = nI (n + 1)
          rw [hc]; exact nI_1 n
        · show ∀ j, j < n + 1 → upd (M 52) (M 42 15).toNatClampNeg x j = upd (M 30) (M 29 2).toNatClampNeg x j ∧ upd (M 53) (M 42 15).toNatClampNeg y j = upd (M 31) (M 29 2).toNatClampNeg y j ∧ 0 ≤ upd (M 30) (M 29 2).toNatClampNeg x j ∧ upd (M 30) (M 29 2).toNatClampNeg x j ≤ 120 ∧ (upd (M 31) (M 29 2).toNatClampNeg y j = 0 ∨ upd (M 31) (M 29 2).toNatClampNeg y j = 1)
          rw [hc, ha, sp_cl (by omega)]
          intro j hjn
          by_cases e : j = n
          · subst e; simp only [upd, if_true]; exact ⟨trivial, trivial, c1, c2, sp_01 d1 d2⟩
          · simp only [upd, if_neg e]; exact hj j (by omega)
      · exfalso
        have he : M 42 15 = nI 8 := he
        rw [hc] at he
        exact absurd ((sp_eq (by omega) (by omega)).mp he) (by omega)
    · have hn' : n = 8 := by
        rw [ha] at hlt
        have := mt (sp_lt (n := n) (N := 8) (by omega) (by omega)).mpr hlt
        omega
      refine ⟨_, rfl, e_X11_sees l sc _ _ x y ?_⟩
      refine r_in (fun _ _ => ⟨1, rfl, fun h => absurd h (by decide), fun _ => ?_⟩) (fun c => absurd ⟨c1, c2⟩ c)
      refine r_in (fun _ _ => ⟨1, rfl, fun _ => ⟨fun hne => absurd ?_ hne, fun he => ⟨rfl, h1, h2, h3, h4, h5, h6.on, h7⟩⟩, fun h => absurd h (by decide)⟩) (fun c => absurd ⟨d1, d2⟩ c)
      show M 42 15 = nI 8
      rw [hc, hn']
    · refine ⟨_, rfl, e_X11_sees l sc _ _ x y ?_⟩
      refine r_in (fun _ _ => ⟨1, rfl, fun h => absurd h (by decide), fun _ => ?_⟩) (fun c => absurd ⟨c1, c2⟩ c)
      exact r_in (fun d1 d2 => absurd ⟨d1, d2⟩ d) (fun _ => ⟨0, rfl, fun h => absurd rfl h, fun _ => ⟨rfl, h1, h2, h3, h4, h5, h6.on, h7⟩⟩)
  · refine ⟨_, rfl, e_X11_sees l sc _ _ x y ?_⟩
    exact r_in (fun c1 c2 => absurd ⟨c1, c2⟩ c) (fun _ => ⟨0, rfl, fun _ => ⟨rfl, h1, h2, h3, h4, h5, h6.on, h7⟩, fun h => absurd rfl h⟩)
end SP2
section SP3
variable {WY : sp_WY} {PR : sp_PR} {l : Launch} {sc : Nat × (Nat → Int32)} {M : gl_N} {Q : Option Value → gl_N → Prop}
theorem sp_of {x : Int32} (h : ¬ x < 0) : ∃ j : Nat, j < 2147483648 ∧ x = nI j := nI_of h
/-- a place of the tune, class and reference -/
theorem r_isPlace {n : Nat} (hn : n ≤ 16) (ha : M 20 1 = nI n) {x : Int32} (K1 : ∀ k, k < n → x = nI k → Q (some (.int 1)) M) (K0 : (∀ k, k < n → ¬ x = nI k) → Q (some (.int 0)) M) : gr l sc m_X8_isPlace [.ref 20, .int x] M Q := by
  refine e_X8_isPlace l sc M Q x ⟨fun h => K0 (fun k hk e => ?_), fun h => ⟨fun h2 => K0 (fun k hk e => ?_), fun h2 => ?_⟩⟩
  · rw [e] at h; exact nI_pos (by omega) h
  · rw [e, ha] at h2; have := (sp_le (by omega) (by omega)).mp h2; omega
  · obtain ⟨k, hk, e⟩ := sp_of h
    rw [e, ha] at h2
    have : ¬ n ≤ k := fun q => h2 ((nI_leI (by omega) (by omega)).mpr q)
    exact K1 k (by omega) e
theorem sp_sub1 {n : Nat} (h : 1 ≤ n) : nI n - 1 = nI (n - 1) := by
  obtain ⟨m, rfl⟩ : ∃ m, n = m + 1 := ⟨n - 1, by omega⟩
  exact nI_pred m
theorem r_isNote {n : Nat} (hn : n ≤ 16) (ha : M 48 0 = nI n) {x : Int32} (K1 : ∀ k, k < n → x = nI k → Q (some (.int 1)) M) (K0 : (∀ k, k < n → ¬ x = nI k) → Q (some (.int 0)) M) : gr l sc m_X11_isNote [.ref 42, .int x] M Q := by
  refine e_X11_isNote l sc M Q x ?_
  rw [ha]
  refine r_in (fun c1 c2 => ⟨1, rfl, Or.inr rfl, ?_⟩) (fun c => ⟨0, rfl, Or.inl rfl, K0 (fun k hk e => c ?_)⟩)
  · obtain ⟨k, hk, e⟩ := sp_of (Int32.not_lt.mpr c1)
    rcases Nat.eq_zero_or_pos n with h0 | h0
    · exfalso
      rw [h0, e] at c2
      have a := Int32.le_iff_toInt_le.mp c2
      rw [nI_toInt (by omega)] at a
      have b : (nI 0 - 1).toInt = -1 := rfl
      omega
    · rw [sp_sub1 h0, e] at c2
      have := (nI_leI (by omega) (by omega)).mp c2
      exact K1 k (by omega) e
  · rw [e, sp_sub1 (by omega)]
    exact ⟨nI_pos' (by omega), (sp_le (by omega) (by omega)).mpr (by omega)⟩
theorem s_note (x : Int32) : sp_S WY PR l sc m_X10_note m_X11_note [.int x] := by
  rintro ch M hch ⟨h1, ⟨n, hn, ha, hc, hj⟩, h3, h4, h5, h6, h7⟩
  have hI : sp_I WY PR (ch + 1) (gl_u2 M 42 0 0) := ⟨h1, ⟨n, hn, ha, hc, hj⟩, h3, h4, h5, h6.on, h7⟩
  refine e_X10_note l sc M _ x ?_
  refine r_isPlace hn ha (fun k hk e => ⟨1, rfl, fun h => absurd h (by decide), fun _ => ?_⟩) (fun hno => ⟨0, rfl, fun _ => ?_, fun h => absurd rfl h⟩)
  · subst e
    refine ⟨sp_vp (by omega) (by omega), _, rfl, e_X11_note l sc _ _ _ ?_⟩
    refine r_isNote (M := gl_u2 M 42 0 0) (n := n) hn hc (fun k' hk' e' => ⟨1, rfl, fun h => absurd h (by decide), fun _ => ?_⟩) (fun hno => absurd rfl (hno k hk))
    have e1 : (1 : Int32) + nI k = nI (1 + k) := nI_add 1 k
    refine ⟨by rw [e1]; exact sp_vp (by omega) (by omega), ?_, hI⟩
    show some (Value.int (M 48 (1 + nI k).toNatClampNeg)) = some (Value.int (M 21 (nI k).toNatClampNeg))
    rw [e1, sp_cl (by omega), sp_cl (by omega), (hj k hk).1]
  · refine ⟨_, rfl, e_X11_note l sc _ _ _ ?_⟩
    exact r_isNote (M := gl_u2 M 42 0 0) (n := n) hn hc (fun k' hk' e' => absurd e' (hno k' hk')) (fun _ => ⟨0, rfl, fun _ => ⟨rfl, hI⟩, fun h => absurd rfl h⟩)
end SP3

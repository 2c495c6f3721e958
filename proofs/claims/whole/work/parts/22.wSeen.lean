set_option maxHeartbeats 400000 in
set_option maxRecDepth 20000 in
theorem w_X5_add_0 (l : Launch) (sc : Nat × (Nat → Int32)) (M : gl_N) (Q : Option Value → gl_N → Prop) (x1 x2 : Int32)
  (h : (vp_in (M 29 2) 8 ∧ vp_in (M 29 2) 8) ∧ (Q none (gl_u2 (gl_u2 (gl_u2 M 30 (Int32.toNatClampNeg (M 29 2)) x1) 31 (Int32.toNatClampNeg (M 29 2)) x2) 29 2 ((M 29 2) + 1)))) : gv l sc m_X5_add 0 [.ref 29, .int x1, .int x2] [] M Q := by
  obtain ⟨hp, h⟩ := h
  refine gv_seg ok_X5_add 0 18 (Ps := [vp_in (M 29 2) 8, vp_in (M 29 2) 8]) (pc' := 30) (ls' := [.ref 29, .int x1, .int x2]) (st' := []) (M2 := (gl_u2 (gl_u2 (gl_u2 M 30 (Int32.toNatClampNeg (M 29 2)) x1) 31 (Int32.toNatClampNeg (M 29 2)) x2) 29 2 ((M 29 2) + 1))) rfl ⟨hp.1, hp.2⟩ ?_
  exact gv_retV (gl_dec ok_X5_add 18 30 (.return_) 1 rfl) rfl h
theorem e_X5_add (l : Launch) (sc : Nat × (Nat → Int32)) (M : gl_N) (Q : Option Value → gl_N → Prop) (x1 x2 : Int32)
  (h : (vp_in (M 29 2) 8 ∧ vp_in (M 29 2) 8) ∧ (Q none (gl_u2 (gl_u2 (gl_u2 M 30 (Int32.toNatClampNeg (M 29 2)) x1) 31 (Int32.toNatClampNeg (M 29 2)) x2) 29 2 ((M 29 2) + 1)))) : gr l sc m_X5_add [.ref 29, .int x1, .int x2] M Q :=
  gr_of (by decide +kernel) (Nat.le_of_ble_eq_true rfl) (List.forall_mem_cons.mpr ⟨rfl, (List.forall_mem_cons.mpr ⟨rfl, (List.forall_mem_cons.mpr ⟨rfl, (fun _ h => absurd h List.not_mem_nil)⟩)⟩)⟩) (w_X5_add_0 l sc M Q x1 x2 h)
set_option maxHeartbeats 400000 in
set_option maxRecDepth 20000 in
theorem w_X5_agreesWith_0 (l : Launch) (sc : Nat × (Nat → Int32)) (M : gl_N) (Q : Option Value → gl_N → Prop) (x2 : Int32)
  (h : gv l sc m_X5_agreesWith 2 [.ref 29, .ref 12, .int x2, .int 0, .float 0] [] M Q) : gv l sc m_X5_agreesWith 0 [.ref 29, .ref 12, .int x2, .float 0, .float 0] [] M Q := by
  refine gv_seg ok_X5_agreesWith 0 2 (Ps := []) (pc' := 2) (ls' := [.ref 29, .ref 12, .int x2, .int 0, .float 0]) (st' := []) (M2 := M) rfl trivial ?_
  exact h
theorem e_X5_agreesWith (l : Launch) (sc : Nat × (Nat → Int32)) (M : gl_N) (Q : Option Value → gl_N → Prop) (x2 : Int32)
  (h : gv l sc m_X5_agreesWith 2 [.ref 29, .ref 12, .int x2, .int 0, .float 0] [] M Q) : gr l sc m_X5_agreesWith [.ref 29, .ref 12, .int x2] M Q :=
  gr_of (by decide +kernel) (Nat.le_of_ble_eq_true rfl) (List.forall_mem_cons.mpr ⟨rfl, (List.forall_mem_cons.mpr ⟨rfl, (List.forall_mem_cons.mpr ⟨rfl, (fun _ h => absurd h List.not_mem_nil)⟩)⟩)⟩) (w_X5_agreesWith_0 l sc M Q x2 h)
set_option maxHeartbeats 400000 in
set_option maxRecDepth 20000 in
theorem w_X5_agreesWith_2 (l : Launch) (sc : Nat × (Nat → Int32)) (M : gl_N) (Q : Option Value → gl_N → Prop) (x2 x3 : Int32)
  (h : ((M 29 2) ≤ x3 → Q (some (.int 1)) M) ∧ (¬ (M 29 2) ≤ x3 → (vp_in x3 8) ∧ (gr l sc m_X0_partsWith [.ref 12, .int x2, .int (M 30 (Int32.toNatClampNeg x3))] M (fun r1 M2 => ∃ v3 : Int32, r1 = some (.int v3) ∧ ((v3 ≤ 0 → (vp_in x3 8) ∧ ((0 = (M2 31 (Int32.toNatClampNeg x3)) → gv l sc m_X5_agreesWith 2 [.ref 29, .ref 12, .int x2, .int (x3 + 1), .float 0] [] M2 Q) ∧ (¬ 0 = (M2 31 (Int32.toNatClampNeg x3)) → Q (some (.int 0)) M2))) ∧ (¬ v3 ≤ 0 → (vp_in x3 8) ∧ ((1 = (M2 31 (Int32.toNatClampNeg x3)) → gv l sc m_X5_agreesWith 2 [.ref 29, .ref 12, .int x2, .int (x3 + 1), .float 0] [] M2 Q) ∧ (¬ 1 = (M2 31 (Int32.toNatClampNeg x3)) → Q (some (.int 0)) M2)))))))) : gv l sc m_X5_agreesWith 2 [.ref 29, .ref 12, .int x2, .int x3, .float 0] [] M Q := by
  refine gv_seg ok_X5_agreesWith 2 3 (Ps := []) (pc' := 7) (ls' := [.ref 29, .ref 12, .int x2, .int x3, .float 0]) (st' := [.int (M 29 2), .int x3]) (M2 := M) rfl trivial ?_
  refine gv_icmp_ge (t := 50) (by decide) (gl_dec ok_X5_agreesWith 5 7 (.if_icmp .ge 43) 3 rfl) (fun c => ?_) (fun c => ?_)
  · replace h := h.1 c
    refine gv_seg ok_X5_agreesWith 28 1 (Ps := []) (pc' := 51) (ls' := [.ref 29, .ref 12, .int x2, .int x3, .float 0]) (st' := [.int 1]) (M2 := M) rfl trivial ?_
    exact gv_retZ (gl_dec ok_X5_agreesWith 29 51 (.ireturn) 1 rfl) rfl (by decide) h
  · replace h := h.2 c
    obtain ⟨hp, h⟩ := h
    refine gv_seg ok_X5_agreesWith 6 6 (Ps := [vp_in x3 8]) (pc' := 18) (ls' := [.ref 29, .ref 12, .int x2, .int x3, .float 0]) (st' := [.int (M 30 (Int32.toNatClampNeg x3)), .int x2, .ref 12]) (M2 := M) rfl hp ?_
    refine gv_vcall (M' := m_X0_partsWith) (o := 12) (ci := 0) (As := [.int x2, .int (M 30 (Int32.toNatClampNeg x3))]) (st := []) (gl_dec ok_X5_agreesWith 12 18 (.invokevirtual 22) 3 rfl) (gl_lnk ok_X5_agreesWith 12 rfl rfl) mw_X0_partsWith iw_X0_partsWith lw_X0_partsWith ⟨by decide, by decide⟩ rfl rfl rfl ⟨rfl, Nat.le_of_ble_eq_true rfl⟩ h (fun r1 M2 hq => ?_)
    obtain ⟨v3, rfl, h⟩ := hq
    change gv l sc m_X5_agreesWith 21 [.ref 29, .ref 12, .int x2, .int x3, .float 0] [.int v3] M2 Q
    refine gv_if_le (t := 28) (by decide) (gl_dec ok_X5_agreesWith 13 21 (.ifCond .le 7) 3 rfl) (fun c => ?_) (fun c => ?_)
    · replace h := h.1 c
      obtain ⟨hp, h⟩ := h
      refine gv_seg ok_X5_agreesWith 16 7 (Ps := [vp_in x3 8]) (pc' := 39) (ls' := [.ref 29, .ref 12, .int x2, .int x3, .int 0]) (st' := [.int (M2 31 (Int32.toNatClampNeg x3)), .int 0]) (M2 := M2) rfl hp ?_
      refine gv_icmp_eq (t := 44) (by decide) (gl_dec ok_X5_agreesWith 23 39 (.if_icmp .eq 5) 3 rfl) (fun c => ?_) (fun c => ?_)
      · replace h := h.1 c
        refine gv_seg ok_X5_agreesWith 26 1 (Ps := []) (pc' := 47) (ls' := [.ref 29, .ref 12, .int x2, .int (x3 + 1), .int 0]) (st' := []) (M2 := M2) rfl trivial ?_
        refine gv_goto (t := 2) (by decide) (gl_dec ok_X5_agreesWith 27 47 (.goto (-45)) 3 rfl) ?_
        exact gv_weak (ls' := [.ref 29, .ref 12, .int x2, .int (x3 + 1), .float 0]) ⟨Or.inl rfl, ⟨Or.inl rfl, ⟨Or.inl rfl, ⟨Or.inl rfl, ⟨Or.inr rfl, trivial⟩⟩⟩⟩⟩ h
      · replace h := h.2 c
        refine gv_seg ok_X5_agreesWith 24 1 (Ps := []) (pc' := 43) (ls' := [.ref 29, .ref 12, .int x2, .int x3, .int 0]) (st' := [.int 0]) (M2 := M2) rfl trivial ?_
        exact gv_retZ (gl_dec ok_X5_agreesWith 25 43 (.ireturn) 1 rfl) rfl (by decide) h
    · replace h := h.2 c
      refine gv_seg ok_X5_agreesWith 14 1 (Ps := []) (pc' := 25) (ls' := [.ref 29, .ref 12, .int x2, .int x3, .float 0]) (st' := [.int 1]) (M2 := M2) rfl trivial ?_
      refine gv_goto (t := 29) (by decide) (gl_dec ok_X5_agreesWith 15 25 (.goto 4) 3 rfl) ?_
      obtain ⟨hp, h⟩ := h
      refine gv_seg ok_X5_agreesWith 17 6 (Ps := [vp_in x3 8]) (pc' := 39) (ls' := [.ref 29, .ref 12, .int x2, .int x3, .int 1]) (st' := [.int (M2 31 (Int32.toNatClampNeg x3)), .int 1]) (M2 := M2) rfl hp ?_
      refine gv_icmp_eq (t := 44) (by decide) (gl_dec ok_X5_agreesWith 23 39 (.if_icmp .eq 5) 3 rfl) (fun c => ?_) (fun c => ?_)
      · replace h := h.1 c
        refine gv_seg ok_X5_agreesWith 26 1 (Ps := []) (pc' := 47) (ls' := [.ref 29, .ref 12, .int x2, .int (x3 + 1), .int 1]) (st' := []) (M2 := M2) rfl trivial ?_
        refine gv_goto (t := 2) (by decide) (gl_dec ok_X5_agreesWith 27 47 (.goto (-45)) 3 rfl) ?_
        exact gv_weak (ls' := [.ref 29, .ref 12, .int x2, .int (x3 + 1), .float 0]) ⟨Or.inl rfl, ⟨Or.inl rfl, ⟨Or.inl rfl, ⟨Or.inl rfl, ⟨Or.inr rfl, trivial⟩⟩⟩⟩⟩ h
      · replace h := h.2 c
        refine gv_seg ok_X5_agreesWith 24 1 (Ps := []) (pc' := 43) (ls' := [.ref 29, .ref 12, .int x2, .int x3, .int 1]) (st' := [.int 0]) (M2 := M2) rfl trivial ?_
        exact gv_retZ (gl_dec ok_X5_agreesWith 25 43 (.ireturn) 1 rfl) rfl (by decide) h

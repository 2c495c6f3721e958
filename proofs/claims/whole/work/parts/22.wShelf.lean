set_option maxHeartbeats 400000 in
set_option maxRecDepth 20000 in
theorem w_X6_dropAll_0 (l : Launch) (sc : Nat × (Nat → Int32)) (M : gl_N) (Q : Option Value → gl_N → Prop)
  (h : gr l sc m_J_fill [.ref 27, .int (-1)] M (fun r1 M2 => r1 = none ∧ (Q none M2))) : gv l sc m_X6_dropAll 0 [.ref 26] [] M Q := by
  refine gv_seg ok_X6_dropAll 0 3 (Ps := []) (pc' := 5) (ls' := [.ref 26]) (st' := [.int (-1), .ref 27]) (M2 := M) rfl trivial ?_
  refine gv_scall (M' := m_J_fill) (As := [.ref 27, .int (-1)]) (st := []) (gl_dec ok_X6_dropAll 3 5 (.invokestatic 18) 3 rfl) (gl_lnkS ok_X6_dropAll 3 rfl rfl) mw_J_fill sw_J_fill ⟨by decide, by decide⟩ ⟨rfl, Nat.le_of_ble_eq_true rfl⟩ h (fun r1 M2 hq => ?_)
  obtain ⟨rfl, h⟩ := hq
  change gv l sc m_X6_dropAll 8 [.ref 26] [] M2 Q
  exact gv_retV (gl_dec ok_X6_dropAll 4 8 (.return_) 1 rfl) rfl h
theorem e_X6_dropAll (l : Launch) (sc : Nat × (Nat → Int32)) (M : gl_N) (Q : Option Value → gl_N → Prop)
  (h : gr l sc m_J_fill [.ref 27, .int (-1)] M (fun r1 M2 => r1 = none ∧ (Q none M2))) : gr l sc m_X6_dropAll [.ref 26] M Q :=
  gr_of (by decide +kernel) (Nat.le_of_ble_eq_true rfl) (List.forall_mem_cons.mpr ⟨rfl, (fun _ h => absurd h List.not_mem_nil)⟩) (w_X6_dropAll_0 l sc M Q h)
set_option maxHeartbeats 400000 in
set_option maxRecDepth 20000 in
theorem w_X6_isKept_0 (l : Launch) (sc : Nat × (Nat → Int32)) (M : gl_N) (Q : Option Value → gl_N → Prop) (x1 : Int32)
  (h : (vp_in x1 2) ∧ (((M 27 (Int32.toNatClampNeg x1)) = (-1) → Q (some (.int 0)) M) ∧ (¬ (M 27 (Int32.toNatClampNeg x1)) = (-1) → Q (some (.int 1)) M))) : gv l sc m_X6_isKept 0 [.ref 26, .int x1] [] M Q := by
  obtain ⟨hp, h⟩ := h
  refine gv_seg ok_X6_isKept 0 5 (Ps := [vp_in x1 2]) (pc' := 7) (ls' := [.ref 26, .int x1]) (st' := [.int (-1), .int (M 27 (Int32.toNatClampNeg x1))]) (M2 := M) rfl hp ?_
  refine gv_icmp_eq (t := 14) (by decide) (gl_dec ok_X6_isKept 5 7 (.if_icmp .eq 7) 3 rfl) (fun c => ?_) (fun c => ?_)
  · replace h := h.1 c
    refine gv_seg ok_X6_isKept 8 1 (Ps := []) (pc' := 15) (ls' := [.ref 26, .int x1]) (st' := [.int 0]) (M2 := M) rfl trivial ?_
    exact gv_retZ (gl_dec ok_X6_isKept 9 15 (.ireturn) 1 rfl) rfl (by decide) h
  · replace h := h.2 c
    refine gv_seg ok_X6_isKept 6 1 (Ps := []) (pc' := 11) (ls' := [.ref 26, .int x1]) (st' := [.int 1]) (M2 := M) rfl trivial ?_
    refine gv_goto (t := 15) (by decide) (gl_dec ok_X6_isKept 7 11 (.goto 4) 3 rfl) ?_
    exact gv_retZ (gl_dec ok_X6_isKept 9 15 (.ireturn) 1 rfl) rfl (by decide) h
theorem e_X6_isKept (l : Launch) (sc : Nat × (Nat → Int32)) (M : gl_N) (Q : Option Value → gl_N → Prop) (x1 : Int32)
  (h : (vp_in x1 2) ∧ (((M 27 (Int32.toNatClampNeg x1)) = (-1) → Q (some (.int 0)) M) ∧ (¬ (M 27 (Int32.toNatClampNeg x1)) = (-1) → Q (some (.int 1)) M))) : gr l sc m_X6_isKept [.ref 26, .int x1] M Q :=
  gr_of (by decide +kernel) (Nat.le_of_ble_eq_true rfl) (List.forall_mem_cons.mpr ⟨rfl, (List.forall_mem_cons.mpr ⟨rfl, (fun _ h => absurd h List.not_mem_nil)⟩)⟩) (w_X6_isKept_0 l sc M Q x1 h)
set_option maxHeartbeats 400000 in
set_option maxRecDepth 20000 in
theorem w_X6_put_p_0 (l : Launch) (sc : Nat × (Nat → Int32)) (M : gl_N) (Q : Option Value → gl_N → Prop) (x1 : Int32)
  (h : (vp_in x1 10 ∧ ¬ ((x1 * 16) : Int32) < 0 ∧ ¬ ((M 20 1) : Int32) < 0 ∧ 0 + (Int32.toNatClampNeg (M 20 1)) ≤ 16 ∧ (Int32.toNatClampNeg (x1 * 16)) + (Int32.toNatClampNeg (M 20 1)) ≤ 160) ∧ (Q none (gl_u1 (gl_u2 M 24 (Int32.toNatClampNeg x1) (M 20 1)) 25 (va_cpy (M 21) (M 25) 0 (Int32.toNatClampNeg (x1 * 16)) (Int32.toNatClampNeg (M 20 1)))))) : gv l sc m_X6_put 0 [.ref 23, .int x1, .ref 20] [] M Q := by
  obtain ⟨hp, h⟩ := h
  refine gv_seg ok_X6_put 0 17 (Ps := [vp_in x1 10, ¬ (0 : Int32) < 0, ¬ ((x1 * 16) : Int32) < 0, ¬ ((M 20 1) : Int32) < 0, 0 + (Int32.toNatClampNeg (M 20 1)) ≤ 16, (Int32.toNatClampNeg (x1 * 16)) + (Int32.toNatClampNeg (M 20 1)) ≤ 160]) (pc' := 30) (ls' := [.ref 23, .int x1, .ref 20]) (st' := []) (M2 := (gl_u1 (gl_u2 M 24 (Int32.toNatClampNeg x1) (M 20 1)) 25 (va_cpy (M 21) (M 25) 0 (Int32.toNatClampNeg (x1 * 16)) (Int32.toNatClampNeg (M 20 1))))) rfl ⟨hp.1, (show ¬ (0 : Int32) < 0 by decide), hp.2.1, hp.2.2.1, hp.2.2.2.1, hp.2.2.2.2⟩ ?_
  exact gv_retV (gl_dec ok_X6_put 17 30 (.return_) 1 rfl) rfl h
theorem e_X6_put_p (l : Launch) (sc : Nat × (Nat → Int32)) (M : gl_N) (Q : Option Value → gl_N → Prop) (x1 : Int32)
  (h : (vp_in x1 10 ∧ ¬ ((x1 * 16) : Int32) < 0 ∧ ¬ ((M 20 1) : Int32) < 0 ∧ 0 + (Int32.toNatClampNeg (M 20 1)) ≤ 16 ∧ (Int32.toNatClampNeg (x1 * 16)) + (Int32.toNatClampNeg (M 20 1)) ≤ 160) ∧ (Q none (gl_u1 (gl_u2 M 24 (Int32.toNatClampNeg x1) (M 20 1)) 25 (va_cpy (M 21) (M 25) 0 (Int32.toNatClampNeg (x1 * 16)) (Int32.toNatClampNeg (M 20 1)))))) : gr l sc m_X6_put [.ref 23, .int x1, .ref 20] M Q :=
  gr_of (by decide +kernel) (Nat.le_of_ble_eq_true rfl) (List.forall_mem_cons.mpr ⟨rfl, (List.forall_mem_cons.mpr ⟨rfl, (List.forall_mem_cons.mpr ⟨rfl, (fun _ h => absurd h List.not_mem_nil)⟩)⟩)⟩) (w_X6_put_p_0 l sc M Q x1 h)
set_option maxHeartbeats 400000 in
set_option maxRecDepth 20000 in
theorem w_X6_put_i_0 (l : Launch) (sc : Nat × (Nat → Int32)) (M : gl_N) (Q : Option Value → gl_N → Prop) (x1 : Int32)
  (h : (vp_in x1 2 ∧ ¬ ((x1 * 16) : Int32) < 0 ∧ ¬ ((M 20 1) : Int32) < 0 ∧ 0 + (Int32.toNatClampNeg (M 20 1)) ≤ 16 ∧ (Int32.toNatClampNeg (x1 * 16)) + (Int32.toNatClampNeg (M 20 1)) ≤ 32) ∧ (Q none (gl_u1 (gl_u2 M 27 (Int32.toNatClampNeg x1) (M 20 1)) 28 (va_cpy (M 21) (M 28) 0 (Int32.toNatClampNeg (x1 * 16)) (Int32.toNatClampNeg (M 20 1)))))) : gv l sc m_X6_put 0 [.ref 26, .int x1, .ref 20] [] M Q := by
  obtain ⟨hp, h⟩ := h
  refine gv_seg ok_X6_put 0 17 (Ps := [vp_in x1 2, ¬ (0 : Int32) < 0, ¬ ((x1 * 16) : Int32) < 0, ¬ ((M 20 1) : Int32) < 0, 0 + (Int32.toNatClampNeg (M 20 1)) ≤ 16, (Int32.toNatClampNeg (x1 * 16)) + (Int32.toNatClampNeg (M 20 1)) ≤ 32]) (pc' := 30) (ls' := [.ref 26, .int x1, .ref 20]) (st' := []) (M2 := (gl_u1 (gl_u2 M 27 (Int32.toNatClampNeg x1) (M 20 1)) 28 (va_cpy (M 21) (M 28) 0 (Int32.toNatClampNeg (x1 * 16)) (Int32.toNatClampNeg (M 20 1))))) rfl ⟨hp.1, (show ¬ (0 : Int32) < 0 by decide), hp.2.1, hp.2.2.1, hp.2.2.2.1, hp.2.2.2.2⟩ ?_
  exact gv_retV (gl_dec ok_X6_put 17 30 (.return_) 1 rfl) rfl h
theorem e_X6_put_i (l : Launch) (sc : Nat × (Nat → Int32)) (M : gl_N) (Q : Option Value → gl_N → Prop) (x1 : Int32)
  (h : (vp_in x1 2 ∧ ¬ ((x1 * 16) : Int32) < 0 ∧ ¬ ((M 20 1) : Int32) < 0 ∧ 0 + (Int32.toNatClampNeg (M 20 1)) ≤ 16 ∧ (Int32.toNatClampNeg (x1 * 16)) + (Int32.toNatClampNeg (M 20 1)) ≤ 32) ∧ (Q none (gl_u1 (gl_u2 M 27 (Int32.toNatClampNeg x1) (M 20 1)) 28 (va_cpy (M 21) (M 28) 0 (Int32.toNatClampNeg (x1 * 16)) (Int32.toNatClampNeg (M 20 1)))))) : gr l sc m_X6_put [.ref 26, .int x1, .ref 20] M Q :=
  gr_of (by decide +kernel) (Nat.le_of_ble_eq_true rfl) (List.forall_mem_cons.mpr ⟨rfl, (List.forall_mem_cons.mpr ⟨rfl, (List.forall_mem_cons.mpr ⟨rfl, (fun _ h => absurd h List.not_mem_nil)⟩)⟩)⟩) (w_X6_put_i_0 l sc M Q x1 h)
set_option maxHeartbeats 400000 in
set_option maxRecDepth 20000 in
theorem w_X6_giveTo_p_0 (l : Launch) (sc : Nat × (Nat → Int32)) (M : gl_N) (Q : Option Value → gl_N → Prop) (x2 : Int32)
  (h : (vp_in x2 10 ∧ ¬ ((x2 * 16) : Int32) < 0 ∧ ¬ ((M 24 (Int32.toNatClampNeg x2)) : Int32) < 0 ∧ (Int32.toNatClampNeg (x2 * 16)) + (Int32.toNatClampNeg (M 24 (Int32.toNatClampNeg x2))) ≤ 160 ∧ 0 + (Int32.toNatClampNeg (M 24 (Int32.toNatClampNeg x2))) ≤ 16) ∧ (Q none (gl_u2 (gl_u1 (gl_u2 M 20 1 (M 24 (Int32.toNatClampNeg x2))) 21 (va_cpy (M 25) (M 21) (Int32.toNatClampNeg (x2 * 16)) 0 (Int32.toNatClampNeg (M 24 (Int32.toNatClampNeg x2))))) 20 2 ((M 20 2) + 1)))) : gv l sc m_X6_giveTo 0 [.ref 23, .ref 20, .int x2] [] M Q := by
  obtain ⟨hp, h⟩ := h
  refine gv_seg ok_X6_giveTo 0 23 (Ps := [vp_in x2 10, ¬ ((x2 * 16) : Int32) < 0, ¬ (0 : Int32) < 0, ¬ ((M 24 (Int32.toNatClampNeg x2)) : Int32) < 0, (Int32.toNatClampNeg (x2 * 16)) + (Int32.toNatClampNeg (M 24 (Int32.toNatClampNeg x2))) ≤ 160, 0 + (Int32.toNatClampNeg (M 24 (Int32.toNatClampNeg x2))) ≤ 16]) (pc' := 40) (ls' := [.ref 23, .ref 20, .int x2]) (st' := []) (M2 := (gl_u2 (gl_u1 (gl_u2 M 20 1 (M 24 (Int32.toNatClampNeg x2))) 21 (va_cpy (M 25) (M 21) (Int32.toNatClampNeg (x2 * 16)) 0 (Int32.toNatClampNeg (M 24 (Int32.toNatClampNeg x2))))) 20 2 ((M 20 2) + 1))) rfl ⟨hp.1, hp.2.1, (show ¬ (0 : Int32) < 0 by decide), hp.2.2.1, hp.2.2.2.1, hp.2.2.2.2⟩ ?_
  exact gv_retV (gl_dec ok_X6_giveTo 23 40 (.return_) 1 rfl) rfl h
theorem e_X6_giveTo_p (l : Launch) (sc : Nat × (Nat → Int32)) (M : gl_N) (Q : Option Value → gl_N → Prop) (x2 : Int32)
  (h : (vp_in x2 10 ∧ ¬ ((x2 * 16) : Int32) < 0 ∧ ¬ ((M 24 (Int32.toNatClampNeg x2)) : Int32) < 0 ∧ (Int32.toNatClampNeg (x2 * 16)) + (Int32.toNatClampNeg (M 24 (Int32.toNatClampNeg x2))) ≤ 160 ∧ 0 + (Int32.toNatClampNeg (M 24 (Int32.toNatClampNeg x2))) ≤ 16) ∧ (Q none (gl_u2 (gl_u1 (gl_u2 M 20 1 (M 24 (Int32.toNatClampNeg x2))) 21 (va_cpy (M 25) (M 21) (Int32.toNatClampNeg (x2 * 16)) 0 (Int32.toNatClampNeg (M 24 (Int32.toNatClampNeg x2))))) 20 2 ((M 20 2) + 1)))) : gr l sc m_X6_giveTo [.ref 23, .ref 20, .int x2] M Q :=
  gr_of (by decide +kernel) (Nat.le_of_ble_eq_true rfl) (List.forall_mem_cons.mpr ⟨rfl, (List.forall_mem_cons.mpr ⟨rfl, (List.forall_mem_cons.mpr ⟨rfl, (fun _ h => absurd h List.not_mem_nil)⟩)⟩)⟩) (w_X6_giveTo_p_0 l sc M Q x2 h)
set_option maxHeartbeats 400000 in
set_option maxRecDepth 20000 in
theorem w_X6_giveTo_i_0 (l : Launch) (sc : Nat × (Nat → Int32)) (M : gl_N) (Q : Option Value → gl_N → Prop) (x2 : Int32)
  (h : (vp_in x2 2 ∧ ¬ ((x2 * 16) : Int32) < 0 ∧ ¬ ((M 27 (Int32.toNatClampNeg x2)) : Int32) < 0 ∧ (Int32.toNatClampNeg (x2 * 16)) + (Int32.toNatClampNeg (M 27 (Int32.toNatClampNeg x2))) ≤ 32 ∧ 0 + (Int32.toNatClampNeg (M 27 (Int32.toNatClampNeg x2))) ≤ 16) ∧ (Q none (gl_u2 (gl_u1 (gl_u2 M 20 1 (M 27 (Int32.toNatClampNeg x2))) 21 (va_cpy (M 28) (M 21) (Int32.toNatClampNeg (x2 * 16)) 0 (Int32.toNatClampNeg (M 27 (Int32.toNatClampNeg x2))))) 20 2 ((M 20 2) + 1)))) : gv l sc m_X6_giveTo 0 [.ref 26, .ref 20, .int x2] [] M Q := by
  obtain ⟨hp, h⟩ := h
  refine gv_seg ok_X6_giveTo 0 23 (Ps := [vp_in x2 2, ¬ ((x2 * 16) : Int32) < 0, ¬ (0 : Int32) < 0, ¬ ((M 27 (Int32.toNatClampNeg x2)) : Int32) < 0, (Int32.toNatClampNeg (x2 * 16)) + (Int32.toNatClampNeg (M 27 (Int32.toNatClampNeg x2))) ≤ 32, 0 + (Int32.toNatClampNeg (M 27 (Int32.toNatClampNeg x2))) ≤ 16]) (pc' := 40) (ls' := [.ref 26, .ref 20, .int x2]) (st' := []) (M2 := (gl_u2 (gl_u1 (gl_u2 M 20 1 (M 27 (Int32.toNatClampNeg x2))) 21 (va_cpy (M 28) (M 21) (Int32.toNatClampNeg (x2 * 16)) 0 (Int32.toNatClampNeg (M 27 (Int32.toNatClampNeg x2))))) 20 2 ((M 20 2) + 1))) rfl ⟨hp.1, hp.2.1, (show ¬ (0 : Int32) < 0 by decide), hp.2.2.1, hp.2.2.2.1, hp.2.2.2.2⟩ ?_
  exact gv_retV (gl_dec ok_X6_giveTo 23 40 (.return_) 1 rfl) rfl h
theorem e_X6_giveTo_i (l : Launch) (sc : Nat × (Nat → Int32)) (M : gl_N) (Q : Option Value → gl_N → Prop) (x2 : Int32)
  (h : (vp_in x2 2 ∧ ¬ ((x2 * 16) : Int32) < 0 ∧ ¬ ((M 27 (Int32.toNatClampNeg x2)) : Int32) < 0 ∧ (Int32.toNatClampNeg (x2 * 16)) + (Int32.toNatClampNeg (M 27 (Int32.toNatClampNeg x2))) ≤ 32 ∧ 0 + (Int32.toNatClampNeg (M 27 (Int32.toNatClampNeg x2))) ≤ 16) ∧ (Q none (gl_u2 (gl_u1 (gl_u2 M 20 1 (M 27 (Int32.toNatClampNeg x2))) 21 (va_cpy (M 28) (M 21) (Int32.toNatClampNeg (x2 * 16)) 0 (Int32.toNatClampNeg (M 27 (Int32.toNatClampNeg x2))))) 20 2 ((M 20 2) + 1)))) : gr l sc m_X6_giveTo [.ref 26, .ref 20, .int x2] M Q :=
  gr_of (by decide +kernel) (Nat.le_of_ble_eq_true rfl) (List.forall_mem_cons.mpr ⟨rfl, (List.forall_mem_cons.mpr ⟨rfl, (List.forall_mem_cons.mpr ⟨rfl, (fun _ h => absurd h List.not_mem_nil)⟩)⟩)⟩) (w_X6_giveTo_i_0 l sc M Q x2 h)

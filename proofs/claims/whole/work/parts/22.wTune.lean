set_option maxHeartbeats 400000 in
set_option maxRecDepth 20000 in
theorem w_X8_isPlace_0 (l : Launch) (sc : Nat × (Nat → Int32)) (M : gl_N) (Q : Option Value → gl_N → Prop) (x1 : Int32)
  (h : (x1 < 0 → Q (some (.int 0)) M) ∧ (¬ x1 < 0 → ((M 20 1) ≤ x1 → Q (some (.int 0)) M) ∧ (¬ (M 20 1) ≤ x1 → Q (some (.int 1)) M))) : gv l sc m_X8_isPlace 0 [.ref 20, .int x1] [] M Q := by
  refine gv_seg ok_X8_isPlace 0 1 (Ps := []) (pc' := 1) (ls' := [.ref 20, .int x1]) (st' := [.int x1]) (M2 := M) rfl trivial ?_
  refine gv_if_lt (t := 16) (by decide) (gl_dec ok_X8_isPlace 1 1 (.ifCond .lt 15) 3 rfl) (fun c => ?_) (fun c => ?_)
  · replace h := h.1 c
    refine gv_seg ok_X8_isPlace 8 1 (Ps := []) (pc' := 17) (ls' := [.ref 20, .int x1]) (st' := [.int 0]) (M2 := M) rfl trivial ?_
    exact gv_retZ (gl_dec ok_X8_isPlace 9 17 (.ireturn) 1 rfl) rfl (by decide) h
  · replace h := h.2 c
    refine gv_seg ok_X8_isPlace 2 3 (Ps := []) (pc' := 9) (ls' := [.ref 20, .int x1]) (st' := [.int (M 20 1), .int x1]) (M2 := M) rfl trivial ?_
    refine gv_icmp_ge (t := 16) (by decide) (gl_dec ok_X8_isPlace 5 9 (.if_icmp .ge 7) 3 rfl) (fun c => ?_) (fun c => ?_)
    · replace h := h.1 c
      refine gv_seg ok_X8_isPlace 8 1 (Ps := []) (pc' := 17) (ls' := [.ref 20, .int x1]) (st' := [.int 0]) (M2 := M) rfl trivial ?_
      exact gv_retZ (gl_dec ok_X8_isPlace 9 17 (.ireturn) 1 rfl) rfl (by decide) h
    · replace h := h.2 c
      refine gv_seg ok_X8_isPlace 6 1 (Ps := []) (pc' := 13) (ls' := [.ref 20, .int x1]) (st' := [.int 1]) (M2 := M) rfl trivial ?_
      refine gv_goto (t := 17) (by decide) (gl_dec ok_X8_isPlace 7 13 (.goto 4) 3 rfl) ?_
      exact gv_retZ (gl_dec ok_X8_isPlace 9 17 (.ireturn) 1 rfl) rfl (by decide) h
theorem e_X8_isPlace (l : Launch) (sc : Nat × (Nat → Int32)) (M : gl_N) (Q : Option Value → gl_N → Prop) (x1 : Int32)
  (h : (x1 < 0 → Q (some (.int 0)) M) ∧ (¬ x1 < 0 → ((M 20 1) ≤ x1 → Q (some (.int 0)) M) ∧ (¬ (M 20 1) ≤ x1 → Q (some (.int 1)) M))) : gr l sc m_X8_isPlace [.ref 20, .int x1] M Q :=
  gr_of (by decide +kernel) (Nat.le_of_ble_eq_true rfl) (List.forall_mem_cons.mpr ⟨rfl, (List.forall_mem_cons.mpr ⟨rfl, (fun _ h => absurd h List.not_mem_nil)⟩)⟩) (w_X8_isPlace_0 l sc M Q x1 h)
set_option maxHeartbeats 400000 in
set_option maxRecDepth 20000 in
theorem w_X8_dropNotes_0 (l : Launch) (sc : Nat × (Nat → Int32)) (M : gl_N) (Q : Option Value → gl_N → Prop)
  (h : Q none (gl_u2 (gl_u2 M 20 1 0) 20 2 ((M 20 2) + 1))) : gv l sc m_X8_dropNotes 0 [.ref 20] [] M Q := by
  refine gv_seg ok_X8_dropNotes 0 9 (Ps := []) (pc' := 15) (ls' := [.ref 20]) (st' := []) (M2 := (gl_u2 (gl_u2 M 20 1 0) 20 2 ((M 20 2) + 1))) rfl trivial ?_
  exact gv_retV (gl_dec ok_X8_dropNotes 9 15 (.return_) 1 rfl) rfl h
theorem e_X8_dropNotes (l : Launch) (sc : Nat × (Nat → Int32)) (M : gl_N) (Q : Option Value → gl_N → Prop)
  (h : Q none (gl_u2 (gl_u2 M 20 1 0) 20 2 ((M 20 2) + 1))) : gr l sc m_X8_dropNotes [.ref 20] M Q :=
  gr_of (by decide +kernel) (Nat.le_of_ble_eq_true rfl) (List.forall_mem_cons.mpr ⟨rfl, (fun _ h => absurd h List.not_mem_nil)⟩) (w_X8_dropNotes_0 l sc M Q h)
set_option maxHeartbeats 400000 in
set_option maxRecDepth 20000 in
theorem w_X8_append_0 (l : Launch) (sc : Nat × (Nat → Int32)) (M : gl_N) (Q : Option Value → gl_N → Prop) (x1 : Int32)
  (h : (vp_in (M 20 1) 16) ∧ (Q none (gl_u2 (gl_u2 (gl_u2 M 21 (Int32.toNatClampNeg (M 20 1)) x1) 20 1 ((M 20 1) + 1)) 20 2 ((M 20 2) + 1)))) : gv l sc m_X8_append 0 [.ref 20, .int x1] [] M Q := by
  obtain ⟨hp, h⟩ := h
  refine gv_seg ok_X8_append 0 18 (Ps := [vp_in (M 20 1) 16]) (pc' := 30) (ls' := [.ref 20, .int x1]) (st' := []) (M2 := (gl_u2 (gl_u2 (gl_u2 M 21 (Int32.toNatClampNeg (M 20 1)) x1) 20 1 ((M 20 1) + 1)) 20 2 ((M 20 2) + 1))) rfl hp ?_
  exact gv_retV (gl_dec ok_X8_append 18 30 (.return_) 1 rfl) rfl h
theorem e_X8_append (l : Launch) (sc : Nat × (Nat → Int32)) (M : gl_N) (Q : Option Value → gl_N → Prop) (x1 : Int32)
  (h : (vp_in (M 20 1) 16) ∧ (Q none (gl_u2 (gl_u2 (gl_u2 M 21 (Int32.toNatClampNeg (M 20 1)) x1) 20 1 ((M 20 1) + 1)) 20 2 ((M 20 2) + 1)))) : gr l sc m_X8_append [.ref 20, .int x1] M Q :=
  gr_of (by decide +kernel) (Nat.le_of_ble_eq_true rfl) (List.forall_mem_cons.mpr ⟨rfl, (List.forall_mem_cons.mpr ⟨rfl, (fun _ h => absurd h List.not_mem_nil)⟩)⟩) (w_X8_append_0 l sc M Q x1 h)
set_option maxHeartbeats 400000 in
set_option maxRecDepth 20000 in
theorem w_X8_removeLast_0 (l : Launch) (sc : Nat × (Nat → Int32)) (M : gl_N) (Q : Option Value → gl_N → Prop)
  (h : (vp_in ((M 20 1) - 1) 16) ∧ (Q (some (.int (M 21 (Int32.toNatClampNeg ((M 20 1) - 1))))) (gl_u2 (gl_u2 M 20 1 ((M 20 1) - 1)) 20 2 ((M 20 2) + 1)))) : gv l sc m_X8_removeLast 0 [.ref 20] [] M Q := by
  obtain ⟨hp, h⟩ := h
  refine gv_seg ok_X8_removeLast 0 17 (Ps := [vp_in ((M 20 1) - 1) 16]) (pc' := 29) (ls' := [.ref 20]) (st' := [.int (M 21 (Int32.toNatClampNeg ((M 20 1) - 1)))]) (M2 := (gl_u2 (gl_u2 M 20 1 ((M 20 1) - 1)) 20 2 ((M 20 2) + 1))) rfl hp ?_
  exact gv_retI (gl_dec ok_X8_removeLast 17 29 (.ireturn) 1 rfl) rfl h
theorem e_X8_removeLast (l : Launch) (sc : Nat × (Nat → Int32)) (M : gl_N) (Q : Option Value → gl_N → Prop)
  (h : (vp_in ((M 20 1) - 1) 16) ∧ (Q (some (.int (M 21 (Int32.toNatClampNeg ((M 20 1) - 1))))) (gl_u2 (gl_u2 M 20 1 ((M 20 1) - 1)) 20 2 ((M 20 2) + 1)))) : gr l sc m_X8_removeLast [.ref 20] M Q :=
  gr_of (by decide +kernel) (Nat.le_of_ble_eq_true rfl) (List.forall_mem_cons.mpr ⟨rfl, (fun _ h => absurd h List.not_mem_nil)⟩) (w_X8_removeLast_0 l sc M Q h)
set_option maxHeartbeats 400000 in
set_option maxRecDepth 20000 in
theorem w_X8_replace_0 (l : Launch) (sc : Nat × (Nat → Int32)) (M : gl_N) (Q : Option Value → gl_N → Prop) (x1 x2 : Int32)
  (h : (vp_in x1 16 ∧ vp_in x1 16) ∧ (Q (some (.int (M 21 (Int32.toNatClampNeg x1)))) (gl_u2 (gl_u2 M 21 (Int32.toNatClampNeg x1) x2) 20 2 ((M 20 2) + 1)))) : gv l sc m_X8_replace 0 [.ref 20, .int x1, .int x2, .float 0] [] M Q := by
  obtain ⟨hp, h⟩ := h
  refine gv_seg ok_X8_replace 0 17 (Ps := [vp_in x1 16, vp_in x1 16]) (pc' := 25) (ls' := [.ref 20, .int x1, .int x2, .int (M 21 (Int32.toNatClampNeg x1))]) (st' := [.int (M 21 (Int32.toNatClampNeg x1))]) (M2 := (gl_u2 (gl_u2 M 21 (Int32.toNatClampNeg x1) x2) 20 2 ((M 20 2) + 1))) rfl ⟨hp.1, hp.2⟩ ?_
  exact gv_retI (gl_dec ok_X8_replace 17 25 (.ireturn) 1 rfl) rfl h
theorem e_X8_replace (l : Launch) (sc : Nat × (Nat → Int32)) (M : gl_N) (Q : Option Value → gl_N → Prop) (x1 x2 : Int32)
  (h : (vp_in x1 16 ∧ vp_in x1 16) ∧ (Q (some (.int (M 21 (Int32.toNatClampNeg x1)))) (gl_u2 (gl_u2 M 21 (Int32.toNatClampNeg x1) x2) 20 2 ((M 20 2) + 1)))) : gr l sc m_X8_replace [.ref 20, .int x1, .int x2] M Q :=
  gr_of (by decide +kernel) (Nat.le_of_ble_eq_true rfl) (List.forall_mem_cons.mpr ⟨rfl, (List.forall_mem_cons.mpr ⟨rfl, (List.forall_mem_cons.mpr ⟨rfl, (fun _ h => absurd h List.not_mem_nil)⟩)⟩)⟩) (w_X8_replace_0 l sc M Q x1 x2 h)
set_option maxHeartbeats 400000 in
set_option maxRecDepth 20000 in
theorem w_X8_canShift_0 (l : Launch) (sc : Nat × (Nat → Int32)) (M : gl_N) (Q : Option Value → gl_N → Prop) (x1 : Int32)
  (h : gv l sc m_X8_canShift 2 [.ref 20, .int x1, .int 0] [] M Q) : gv l sc m_X8_canShift 0 [.ref 20, .int x1, .float 0] [] M Q := by
  refine gv_seg ok_X8_canShift 0 2 (Ps := []) (pc' := 2) (ls' := [.ref 20, .int x1, .int 0]) (st' := []) (M2 := M) rfl trivial ?_
  exact h
theorem e_X8_canShift (l : Launch) (sc : Nat × (Nat → Int32)) (M : gl_N) (Q : Option Value → gl_N → Prop) (x1 : Int32)
  (h : gv l sc m_X8_canShift 2 [.ref 20, .int x1, .int 0] [] M Q) : gr l sc m_X8_canShift [.ref 20, .int x1] M Q :=
  gr_of (by decide +kernel) (Nat.le_of_ble_eq_true rfl) (List.forall_mem_cons.mpr ⟨rfl, (List.forall_mem_cons.mpr ⟨rfl, (fun _ h => absurd h List.not_mem_nil)⟩)⟩) (w_X8_canShift_0 l sc M Q x1 h)
set_option maxHeartbeats 400000 in
set_option maxRecDepth 20000 in
theorem w_X8_canShift_2 (l : Launch) (sc : Nat × (Nat → Int32)) (M : gl_N) (Q : Option Value → gl_N → Prop) (x1 x2 : Int32)
  (h : ((M 20 1) ≤ x2 → Q (some (.int 1)) M) ∧ (¬ (M 20 1) ≤ x2 → (vp_in x2 16) ∧ (gr l sc m_X10_within [.int ((M 21 (Int32.toNatClampNeg x2)) + x1), .int 0, .int 60] M (fun r1 M2 => ∃ v3 : Int32, r1 = some (.int v3) ∧ ((¬ v3 = 0 → gv l sc m_X8_canShift 2 [.ref 20, .int x1, .int (x2 + 1)] [] M2 Q) ∧ (v3 = 0 → Q (some (.int 0)) M2)))))) : gv l sc m_X8_canShift 2 [.ref 20, .int x1, .int x2] [] M Q := by
  refine gv_seg ok_X8_canShift 2 3 (Ps := []) (pc' := 7) (ls' := [.ref 20, .int x1, .int x2]) (st' := [.int (M 20 1), .int x2]) (M2 := M) rfl trivial ?_
  refine gv_icmp_ge (t := 35) (by decide) (gl_dec ok_X8_canShift 5 7 (.if_icmp .ge 28) 3 rfl) (fun c => ?_) (fun c => ?_)
  · replace h := h.1 c
    refine gv_seg ok_X8_canShift 20 1 (Ps := []) (pc' := 36) (ls' := [.ref 20, .int x1, .int x2]) (st' := [.int 1]) (M2 := M) rfl trivial ?_
    exact gv_retZ (gl_dec ok_X8_canShift 21 36 (.ireturn) 1 rfl) rfl (by decide) h
  · replace h := h.2 c
    obtain ⟨hp, h⟩ := h
    refine gv_seg ok_X8_canShift 6 8 (Ps := [vp_in x2 16]) (pc' := 21) (ls' := [.ref 20, .int x1, .int x2]) (st' := [.int 60, .int 0, .int ((M 21 (Int32.toNatClampNeg x2)) + x1)]) (M2 := M) rfl hp ?_
    refine gv_scall (M' := m_X10_within) (As := [.int ((M 21 (Int32.toNatClampNeg x2)) + x1), .int 0, .int 60]) (st := []) (gl_dec ok_X8_canShift 14 21 (.invokestatic 22) 3 rfl) (gl_lnkS ok_X8_canShift 14 rfl rfl) mw_X10_within sw_X10_within ⟨by decide, by decide⟩ ⟨rfl, Nat.le_of_ble_eq_true rfl⟩ h (fun r1 M2 hq => ?_)
    obtain ⟨v3, rfl, h⟩ := hq
    change gv l sc m_X8_canShift 24 [.ref 20, .int x1, .int x2] [.int v3] M2 Q
    refine gv_if_ne (t := 29) (by decide) (gl_dec ok_X8_canShift 15 24 (.ifCond .ne 5) 3 rfl) (fun c => ?_) (fun c => ?_)
    · replace h := h.1 c
      refine gv_seg ok_X8_canShift 18 1 (Ps := []) (pc' := 32) (ls' := [.ref 20, .int x1, .int (x2 + 1)]) (st' := []) (M2 := M2) rfl trivial ?_
      refine gv_goto (t := 2) (by decide) (gl_dec ok_X8_canShift 19 32 (.goto (-30)) 3 rfl) ?_
      exact h
    · replace h := h.2 c
      refine gv_seg ok_X8_canShift 16 1 (Ps := []) (pc' := 28) (ls' := [.ref 20, .int x1, .int x2]) (st' := [.int 0]) (M2 := M2) rfl trivial ?_
      exact gv_retZ (gl_dec ok_X8_canShift 17 28 (.ireturn) 1 rfl) rfl (by decide) h
set_option maxHeartbeats 400000 in
set_option maxRecDepth 20000 in
theorem w_X8_shift_0 (l : Launch) (sc : Nat × (Nat → Int32)) (M : gl_N) (Q : Option Value → gl_N → Prop) (x1 : Int32)
  (h : gv l sc m_X8_shift 2 [.ref 20, .int x1, .int 0] [] M Q) : gv l sc m_X8_shift 0 [.ref 20, .int x1, .float 0] [] M Q := by
  refine gv_seg ok_X8_shift 0 2 (Ps := []) (pc' := 2) (ls' := [.ref 20, .int x1, .int 0]) (st' := []) (M2 := M) rfl trivial ?_
  exact h
theorem e_X8_shift (l : Launch) (sc : Nat × (Nat → Int32)) (M : gl_N) (Q : Option Value → gl_N → Prop) (x1 : Int32)
  (h : gv l sc m_X8_shift 2 [.ref 20, .int x1, .int 0] [] M Q) : gr l sc m_X8_shift [.ref 20, .int x1] M Q :=
  gr_of (by decide +kernel) (Nat.le_of_ble_eq_true rfl) (List.forall_mem_cons.mpr ⟨rfl, (List.forall_mem_cons.mpr ⟨rfl, (fun _ h => absurd h List.not_mem_nil)⟩)⟩) (w_X8_shift_0 l sc M Q x1 h)
set_option maxHeartbeats 400000 in
set_option maxRecDepth 20000 in
theorem w_X8_shift_2 (l : Launch) (sc : Nat × (Nat → Int32)) (M : gl_N) (Q : Option Value → gl_N → Prop) (x1 x2 : Int32)
  (h : ((M 20 1) ≤ x2 → Q none (gl_u2 M 20 2 ((M 20 2) + 1))) ∧ (¬ (M 20 1) ≤ x2 → (vp_in x2 16 ∧ vp_in x2 16) ∧ (gv l sc m_X8_shift 2 [.ref 20, .int x1, .int (x2 + 1)] [] (gl_u2 M 21 (Int32.toNatClampNeg x2) ((M 21 (Int32.toNatClampNeg x2)) + x1)) Q))) : gv l sc m_X8_shift 2 [.ref 20, .int x1, .int x2] [] M Q := by
  refine gv_seg ok_X8_shift 2 3 (Ps := []) (pc' := 7) (ls' := [.ref 20, .int x1, .int x2]) (st' := [.int (M 20 1), .int x2]) (M2 := M) rfl trivial ?_
  refine gv_icmp_ge (t := 26) (by decide) (gl_dec ok_X8_shift 5 7 (.if_icmp .ge 19) 3 rfl) (fun c => ?_) (fun c => ?_)
  · replace h := h.1 c
    refine gv_seg ok_X8_shift 16 6 (Ps := []) (pc' := 36) (ls' := [.ref 20, .int x1, .int x2]) (st' := []) (M2 := (gl_u2 M 20 2 ((M 20 2) + 1))) rfl trivial ?_
    exact gv_retV (gl_dec ok_X8_shift 22 36 (.return_) 1 rfl) rfl h
  · replace h := h.2 c
    obtain ⟨hp, h⟩ := h
    refine gv_seg ok_X8_shift 6 9 (Ps := [vp_in x2 16, vp_in x2 16]) (pc' := 23) (ls' := [.ref 20, .int x1, .int (x2 + 1)]) (st' := []) (M2 := (gl_u2 M 21 (Int32.toNatClampNeg x2) ((M 21 (Int32.toNatClampNeg x2)) + x1))) rfl ⟨hp.1, hp.2⟩ ?_
    refine gv_goto (t := 2) (by decide) (gl_dec ok_X8_shift 15 23 (.goto (-21)) 3 rfl) ?_
    exact h

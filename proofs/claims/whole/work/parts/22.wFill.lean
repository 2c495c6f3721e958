set_option maxHeartbeats 400000 in
set_option maxRecDepth 20000 in
theorem w_J_fill_27_0 (l : Launch) (sc : Nat × (Nat → Int32)) (M : gl_N) (Q : Option Value → gl_N → Prop) (x1 : Int32)
  (h : gv l sc m_J_fill 5 [.ref 27, .int x1, .int 0, .int 2] [] M Q) : gv l sc m_J_fill 0 [.ref 27, .int x1, .float 0, .float 0] [] M Q := by
  refine gv_seg ok_J_fill 0 5 (Ps := []) (pc' := 5) (ls' := [.ref 27, .int x1, .int 0, .int 2]) (st' := []) (M2 := M) rfl trivial ?_
  exact h
theorem e_J_fill_27 (l : Launch) (sc : Nat × (Nat → Int32)) (M : gl_N) (Q : Option Value → gl_N → Prop) (x1 : Int32)
  (h : gv l sc m_J_fill 5 [.ref 27, .int x1, .int 0, .int 2] [] M Q) : gr l sc m_J_fill [.ref 27, .int x1] M Q :=
  gr_of (by decide +kernel) (Nat.le_of_ble_eq_true rfl) (List.forall_mem_cons.mpr ⟨rfl, (List.forall_mem_cons.mpr ⟨rfl, (fun _ h => absurd h List.not_mem_nil)⟩)⟩) (w_J_fill_27_0 l sc M Q x1 h)
set_option maxHeartbeats 400000 in
set_option maxRecDepth 20000 in
theorem w_J_fill_27_5 (l : Launch) (sc : Nat × (Nat → Int32)) (M : gl_N) (Q : Option Value → gl_N → Prop) (x1 x2 x3 : Int32)
  (h : (x3 ≤ x2 → Q none M) ∧ (¬ x3 ≤ x2 → (vp_in x2 2) ∧ (gv l sc m_J_fill 5 [.ref 27, .int x1, .int (x2 + 1), .int x3] [] (gl_u2 M 27 (Int32.toNatClampNeg x2) x1) Q))) : gv l sc m_J_fill 5 [.ref 27, .int x1, .int x2, .int x3] [] M Q := by
  refine gv_seg ok_J_fill 5 2 (Ps := []) (pc' := 7) (ls' := [.ref 27, .int x1, .int x2, .int x3]) (st' := [.int x3, .int x2]) (M2 := M) rfl trivial ?_
  refine gv_icmp_ge (t := 20) (by decide) (gl_dec ok_J_fill 7 7 (.if_icmp .ge 13) 3 rfl) (fun c => ?_) (fun c => ?_)
  · replace h := h.1 c
    exact gv_retV (gl_dec ok_J_fill 14 20 (.return_) 1 rfl) rfl h
  · replace h := h.2 c
    obtain ⟨hp, h⟩ := h
    refine gv_seg ok_J_fill 8 5 (Ps := [vp_in x2 2]) (pc' := 17) (ls' := [.ref 27, .int x1, .int (x2 + 1), .int x3]) (st' := []) (M2 := (gl_u2 M 27 (Int32.toNatClampNeg x2) x1)) rfl hp ?_
    refine gv_goto (t := 5) (by decide) (gl_dec ok_J_fill 13 17 (.goto (-12)) 3 rfl) ?_
    exact h
set_option maxHeartbeats 400000 in
set_option maxRecDepth 20000 in
theorem w_J_fill_33_0 (l : Launch) (sc : Nat × (Nat → Int32)) (M : gl_N) (Q : Option Value → gl_N → Prop) (x1 : Int32)
  (h : gv l sc m_J_fill 5 [.ref 33, .int x1, .int 0, .int 144] [] M Q) : gv l sc m_J_fill 0 [.ref 33, .int x1, .float 0, .float 0] [] M Q := by
  refine gv_seg ok_J_fill 0 5 (Ps := []) (pc' := 5) (ls' := [.ref 33, .int x1, .int 0, .int 144]) (st' := []) (M2 := M) rfl trivial ?_
  exact h
theorem e_J_fill_33 (l : Launch) (sc : Nat × (Nat → Int32)) (M : gl_N) (Q : Option Value → gl_N → Prop) (x1 : Int32)
  (h : gv l sc m_J_fill 5 [.ref 33, .int x1, .int 0, .int 144] [] M Q) : gr l sc m_J_fill [.ref 33, .int x1] M Q :=
  gr_of (by decide +kernel) (Nat.le_of_ble_eq_true rfl) (List.forall_mem_cons.mpr ⟨rfl, (List.forall_mem_cons.mpr ⟨rfl, (fun _ h => absurd h List.not_mem_nil)⟩)⟩) (w_J_fill_33_0 l sc M Q x1 h)
set_option maxHeartbeats 400000 in
set_option maxRecDepth 20000 in
theorem w_J_fill_33_5 (l : Launch) (sc : Nat × (Nat → Int32)) (M : gl_N) (Q : Option Value → gl_N → Prop) (x1 x2 x3 : Int32)
  (h : (x3 ≤ x2 → Q none M) ∧ (¬ x3 ≤ x2 → (vp_in x2 144) ∧ (gv l sc m_J_fill 5 [.ref 33, .int x1, .int (x2 + 1), .int x3] [] (gl_u2 M 33 (Int32.toNatClampNeg x2) x1) Q))) : gv l sc m_J_fill 5 [.ref 33, .int x1, .int x2, .int x3] [] M Q := by
  refine gv_seg ok_J_fill 5 2 (Ps := []) (pc' := 7) (ls' := [.ref 33, .int x1, .int x2, .int x3]) (st' := [.int x3, .int x2]) (M2 := M) rfl trivial ?_
  refine gv_icmp_ge (t := 20) (by decide) (gl_dec ok_J_fill 7 7 (.if_icmp .ge 13) 3 rfl) (fun c => ?_) (fun c => ?_)
  · replace h := h.1 c
    exact gv_retV (gl_dec ok_J_fill 14 20 (.return_) 1 rfl) rfl h
  · replace h := h.2 c
    obtain ⟨hp, h⟩ := h
    refine gv_seg ok_J_fill 8 5 (Ps := [vp_in x2 144]) (pc' := 17) (ls' := [.ref 33, .int x1, .int (x2 + 1), .int x3]) (st' := []) (M2 := (gl_u2 M 33 (Int32.toNatClampNeg x2) x1)) rfl hp ?_
    refine gv_goto (t := 5) (by decide) (gl_dec ok_J_fill 13 17 (.goto (-12)) 3 rfl) ?_
    exact h
set_option maxHeartbeats 400000 in
set_option maxRecDepth 20000 in
theorem w_J_fill_37_0 (l : Launch) (sc : Nat × (Nat → Int32)) (M : gl_N) (Q : Option Value → gl_N → Prop) (x1 : Int32)
  (h : gv l sc m_J_fill 5 [.ref 37, .int x1, .int 0, .int 486] [] M Q) : gv l sc m_J_fill 0 [.ref 37, .int x1, .float 0, .float 0] [] M Q := by
  refine gv_seg ok_J_fill 0 5 (Ps := []) (pc' := 5) (ls' := [.ref 37, .int x1, .int 0, .int 486]) (st' := []) (M2 := M) rfl trivial ?_
  exact h
theorem e_J_fill_37 (l : Launch) (sc : Nat × (Nat → Int32)) (M : gl_N) (Q : Option Value → gl_N → Prop) (x1 : Int32)
  (h : gv l sc m_J_fill 5 [.ref 37, .int x1, .int 0, .int 486] [] M Q) : gr l sc m_J_fill [.ref 37, .int x1] M Q :=
  gr_of (by decide +kernel) (Nat.le_of_ble_eq_true rfl) (List.forall_mem_cons.mpr ⟨rfl, (List.forall_mem_cons.mpr ⟨rfl, (fun _ h => absurd h List.not_mem_nil)⟩)⟩) (w_J_fill_37_0 l sc M Q x1 h)
set_option maxHeartbeats 400000 in
set_option maxRecDepth 20000 in
theorem w_J_fill_37_5 (l : Launch) (sc : Nat × (Nat → Int32)) (M : gl_N) (Q : Option Value → gl_N → Prop) (x1 x2 x3 : Int32)
  (h : (x3 ≤ x2 → Q none M) ∧ (¬ x3 ≤ x2 → (vp_in x2 486) ∧ (gv l sc m_J_fill 5 [.ref 37, .int x1, .int (x2 + 1), .int x3] [] (gl_u2 M 37 (Int32.toNatClampNeg x2) x1) Q))) : gv l sc m_J_fill 5 [.ref 37, .int x1, .int x2, .int x3] [] M Q := by
  refine gv_seg ok_J_fill 5 2 (Ps := []) (pc' := 7) (ls' := [.ref 37, .int x1, .int x2, .int x3]) (st' := [.int x3, .int x2]) (M2 := M) rfl trivial ?_
  refine gv_icmp_ge (t := 20) (by decide) (gl_dec ok_J_fill 7 7 (.if_icmp .ge 13) 3 rfl) (fun c => ?_) (fun c => ?_)
  · replace h := h.1 c
    exact gv_retV (gl_dec ok_J_fill 14 20 (.return_) 1 rfl) rfl h
  · replace h := h.2 c
    obtain ⟨hp, h⟩ := h
    refine gv_seg ok_J_fill 8 5 (Ps := [vp_in x2 486]) (pc' := 17) (ls' := [.ref 37, .int x1, .int (x2 + 1), .int x3]) (st' := []) (M2 := (gl_u2 M 37 (Int32.toNatClampNeg x2) x1)) rfl hp ?_
    refine gv_goto (t := 5) (by decide) (gl_dec ok_J_fill 13 17 (.goto (-12)) 3 rfl) ?_
    exact h
set_option maxHeartbeats 400000 in
set_option maxRecDepth 20000 in
theorem w_J_fill_41_0 (l : Launch) (sc : Nat × (Nat → Int32)) (M : gl_N) (Q : Option Value → gl_N → Prop) (x1 : Int32)
  (h : gv l sc m_J_fill 5 [.ref 41, .int x1, .int 0, .int 486] [] M Q) : gv l sc m_J_fill 0 [.ref 41, .int x1, .float 0, .float 0] [] M Q := by
  refine gv_seg ok_J_fill 0 5 (Ps := []) (pc' := 5) (ls' := [.ref 41, .int x1, .int 0, .int 486]) (st' := []) (M2 := M) rfl trivial ?_
  exact h
theorem e_J_fill_41 (l : Launch) (sc : Nat × (Nat → Int32)) (M : gl_N) (Q : Option Value → gl_N → Prop) (x1 : Int32)
  (h : gv l sc m_J_fill 5 [.ref 41, .int x1, .int 0, .int 486] [] M Q) : gr l sc m_J_fill [.ref 41, .int x1] M Q :=
  gr_of (by decide +kernel) (Nat.le_of_ble_eq_true rfl) (List.forall_mem_cons.mpr ⟨rfl, (List.forall_mem_cons.mpr ⟨rfl, (fun _ h => absurd h List.not_mem_nil)⟩)⟩) (w_J_fill_41_0 l sc M Q x1 h)
set_option maxHeartbeats 400000 in
set_option maxRecDepth 20000 in
theorem w_J_fill_41_5 (l : Launch) (sc : Nat × (Nat → Int32)) (M : gl_N) (Q : Option Value → gl_N → Prop) (x1 x2 x3 : Int32)
  (h : (x3 ≤ x2 → Q none M) ∧ (¬ x3 ≤ x2 → (vp_in x2 486) ∧ (gv l sc m_J_fill 5 [.ref 41, .int x1, .int (x2 + 1), .int x3] [] (gl_u2 M 41 (Int32.toNatClampNeg x2) x1) Q))) : gv l sc m_J_fill 5 [.ref 41, .int x1, .int x2, .int x3] [] M Q := by
  refine gv_seg ok_J_fill 5 2 (Ps := []) (pc' := 7) (ls' := [.ref 41, .int x1, .int x2, .int x3]) (st' := [.int x3, .int x2]) (M2 := M) rfl trivial ?_
  refine gv_icmp_ge (t := 20) (by decide) (gl_dec ok_J_fill 7 7 (.if_icmp .ge 13) 3 rfl) (fun c => ?_) (fun c => ?_)
  · replace h := h.1 c
    exact gv_retV (gl_dec ok_J_fill 14 20 (.return_) 1 rfl) rfl h
  · replace h := h.2 c
    obtain ⟨hp, h⟩ := h
    refine gv_seg ok_J_fill 8 5 (Ps := [vp_in x2 486]) (pc' := 17) (ls' := [.ref 41, .int x1, .int (x2 + 1), .int x3]) (st' := []) (M2 := (gl_u2 M 41 (Int32.toNatClampNeg x2) x1)) rfl hp ?_
    refine gv_goto (t := 5) (by decide) (gl_dec ok_J_fill 13 17 (.goto (-12)) 3 rfl) ?_
    exact h

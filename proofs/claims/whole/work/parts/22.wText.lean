set_option maxHeartbeats 400000 in
set_option maxRecDepth 20000 in
theorem w_X7_add_0 (l : Launch) (sc : Nat × (Nat → Int32)) (M : gl_N) (Q : Option Value → gl_N → Prop) (x1 : Int32)
  (h : (vp_in (M 1 1) 130) ∧ (Q none (gl_u2 (gl_u2 M 2 (Int32.toNatClampNeg (M 1 1)) x1) 1 1 ((M 1 1) + 1)))) : gv l sc m_X7_add 0 [.ref 1, .int x1] [] M Q := by
  obtain ⟨hp, h⟩ := h
  refine gv_seg ok_X7_add 0 12 (Ps := [vp_in (M 1 1) 130]) (pc' := 20) (ls' := [.ref 1, .int x1]) (st' := []) (M2 := (gl_u2 (gl_u2 M 2 (Int32.toNatClampNeg (M 1 1)) x1) 1 1 ((M 1 1) + 1))) rfl hp ?_
  exact gv_retV (gl_dec ok_X7_add 12 20 (.return_) 1 rfl) rfl h
theorem e_X7_add (l : Launch) (sc : Nat × (Nat → Int32)) (M : gl_N) (Q : Option Value → gl_N → Prop) (x1 : Int32)
  (h : (vp_in (M 1 1) 130) ∧ (Q none (gl_u2 (gl_u2 M 2 (Int32.toNatClampNeg (M 1 1)) x1) 1 1 ((M 1 1) + 1)))) : gr l sc m_X7_add [.ref 1, .int x1] M Q :=
  gr_of (by decide +kernel) (Nat.le_of_ble_eq_true rfl) (List.forall_mem_cons.mpr ⟨rfl, (List.forall_mem_cons.mpr ⟨rfl, (fun _ h => absurd h List.not_mem_nil)⟩)⟩) (w_X7_add_0 l sc M Q x1 h)
set_option maxHeartbeats 400000 in
set_option maxRecDepth 20000 in
theorem w_X7_letterAt_0 (l : Launch) (sc : Nat × (Nat → Int32)) (M : gl_N) (Q : Option Value → gl_N → Prop) (x1 : Int32)
  (h : (x1 < 0 → Q (some (.int (-1))) M) ∧ (¬ x1 < 0 → ((M 1 1) ≤ x1 → Q (some (.int (-1))) M) ∧ (¬ (M 1 1) ≤ x1 → (vp_in x1 130) ∧ (Q (some (.int (M 2 (Int32.toNatClampNeg x1)))) M)))) : gv l sc m_X7_letterAt 0 [.ref 1, .int x1] [] M Q := by
  refine gv_seg ok_X7_letterAt 0 1 (Ps := []) (pc' := 1) (ls' := [.ref 1, .int x1]) (st' := [.int x1]) (M2 := M) rfl trivial ?_
  refine gv_if_lt (t := 21) (by decide) (gl_dec ok_X7_letterAt 1 1 (.ifCond .lt 20) 3 rfl) (fun c => ?_) (fun c => ?_)
  · replace h := h.1 c
    refine gv_seg ok_X7_letterAt 11 1 (Ps := []) (pc' := 22) (ls' := [.ref 1, .int x1]) (st' := [.int (-1)]) (M2 := M) rfl trivial ?_
    exact gv_retI (gl_dec ok_X7_letterAt 12 22 (.ireturn) 1 rfl) rfl h
  · replace h := h.2 c
    refine gv_seg ok_X7_letterAt 2 3 (Ps := []) (pc' := 9) (ls' := [.ref 1, .int x1]) (st' := [.int (M 1 1), .int x1]) (M2 := M) rfl trivial ?_
    refine gv_icmp_ge (t := 21) (by decide) (gl_dec ok_X7_letterAt 5 9 (.if_icmp .ge 12) 3 rfl) (fun c => ?_) (fun c => ?_)
    · replace h := h.1 c
      refine gv_seg ok_X7_letterAt 11 1 (Ps := []) (pc' := 22) (ls' := [.ref 1, .int x1]) (st' := [.int (-1)]) (M2 := M) rfl trivial ?_
      exact gv_retI (gl_dec ok_X7_letterAt 12 22 (.ireturn) 1 rfl) rfl h
    · replace h := h.2 c
      obtain ⟨hp, h⟩ := h
      refine gv_seg ok_X7_letterAt 6 4 (Ps := [vp_in x1 130]) (pc' := 18) (ls' := [.ref 1, .int x1]) (st' := [.int (M 2 (Int32.toNatClampNeg x1))]) (M2 := M) rfl hp ?_
      refine gv_goto (t := 22) (by decide) (gl_dec ok_X7_letterAt 10 18 (.goto 4) 3 rfl) ?_
      exact gv_retI (gl_dec ok_X7_letterAt 12 22 (.ireturn) 1 rfl) rfl h
theorem e_X7_letterAt (l : Launch) (sc : Nat × (Nat → Int32)) (M : gl_N) (Q : Option Value → gl_N → Prop) (x1 : Int32)
  (h : (x1 < 0 → Q (some (.int (-1))) M) ∧ (¬ x1 < 0 → ((M 1 1) ≤ x1 → Q (some (.int (-1))) M) ∧ (¬ (M 1 1) ≤ x1 → (vp_in x1 130) ∧ (Q (some (.int (M 2 (Int32.toNatClampNeg x1)))) M)))) : gr l sc m_X7_letterAt [.ref 1, .int x1] M Q :=
  gr_of (by decide +kernel) (Nat.le_of_ble_eq_true rfl) (List.forall_mem_cons.mpr ⟨rfl, (List.forall_mem_cons.mpr ⟨rfl, (fun _ h => absurd h List.not_mem_nil)⟩)⟩) (w_X7_letterAt_0 l sc M Q x1 h)

set_option maxHeartbeats 400000 in
set_option maxRecDepth 20000 in
theorem w_X11_in_0 (l : Launch) (sc : Nat × (Nat → Int32)) (M : gl_N) (Q : Option Value → gl_N → Prop) (x0 x1 x2 : Int32)
  (h : (x0 < x1 → Q (some (.int 0)) M) ∧ (¬ x0 < x1 → (x2 < x0 → Q (some (.int 0)) M) ∧ (¬ x2 < x0 → Q (some (.int 1)) M))) : gv l sc m_X11_in 0 [.int x0, .int x1, .int x2] [] M Q := by
  refine gv_seg ok_X11_in 0 2 (Ps := []) (pc' := 2) (ls' := [.int x0, .int x1, .int x2]) (st' := [.int x1, .int x0]) (M2 := M) rfl trivial ?_
  refine gv_icmp_lt (t := 14) (by decide) (gl_dec ok_X11_in 2 2 (.if_icmp .lt 12) 3 rfl) (fun c => ?_) (fun c => ?_)
  · replace h := h.1 c
    refine gv_seg ok_X11_in 8 1 (Ps := []) (pc' := 15) (ls' := [.int x0, .int x1, .int x2]) (st' := [.int 0]) (M2 := M) rfl trivial ?_
    exact gv_retZ (gl_dec ok_X11_in 9 15 (.ireturn) 1 rfl) rfl (by decide) h
  · replace h := h.2 c
    refine gv_seg ok_X11_in 3 2 (Ps := []) (pc' := 7) (ls' := [.int x0, .int x1, .int x2]) (st' := [.int x2, .int x0]) (M2 := M) rfl trivial ?_
    refine gv_icmp_gt (t := 14) (by decide) (gl_dec ok_X11_in 5 7 (.if_icmp .gt 7) 3 rfl) (fun c => ?_) (fun c => ?_)
    · replace h := h.1 c
      refine gv_seg ok_X11_in 8 1 (Ps := []) (pc' := 15) (ls' := [.int x0, .int x1, .int x2]) (st' := [.int 0]) (M2 := M) rfl trivial ?_
      exact gv_retZ (gl_dec ok_X11_in 9 15 (.ireturn) 1 rfl) rfl (by decide) h
    · replace h := h.2 c
      refine gv_seg ok_X11_in 6 1 (Ps := []) (pc' := 11) (ls' := [.int x0, .int x1, .int x2]) (st' := [.int 1]) (M2 := M) rfl trivial ?_
      refine gv_goto (t := 15) (by decide) (gl_dec ok_X11_in 7 11 (.goto 4) 3 rfl) ?_
      exact gv_retZ (gl_dec ok_X11_in 9 15 (.ireturn) 1 rfl) rfl (by decide) h
theorem e_X11_in (l : Launch) (sc : Nat × (Nat → Int32)) (M : gl_N) (Q : Option Value → gl_N → Prop) (x0 x1 x2 : Int32)
  (h : (x0 < x1 → Q (some (.int 0)) M) ∧ (¬ x0 < x1 → (x2 < x0 → Q (some (.int 0)) M) ∧ (¬ x2 < x0 → Q (some (.int 1)) M))) : gr l sc m_X11_in [.int x0, .int x1, .int x2] M Q :=
  gr_of (by decide +kernel) (Nat.le_of_ble_eq_true rfl) (List.forall_mem_cons.mpr ⟨rfl, (List.forall_mem_cons.mpr ⟨rfl, (List.forall_mem_cons.mpr ⟨rfl, (fun _ h => absurd h List.not_mem_nil)⟩)⟩)⟩) (w_X11_in_0 l sc M Q x0 x1 x2 h)
set_option maxHeartbeats 400000 in
set_option maxRecDepth 20000 in
theorem w_X11_isScale_0 (l : Launch) (sc : Nat × (Nat → Int32)) (M : gl_N) (Q : Option Value → gl_N → Prop) (x1 : Int32)
  (h : gr l sc m_X11_in [.int x1, .int 0, .int ((24 * (M 42 2)) - 1)] M (fun r1 M2 => ∃ v3 : Int32, r1 = some (.int v3) ∧ ((v3 = 0 ∨ v3 = 1) ∧ Q (some (.int v3)) M2))) : gv l sc m_X11_isScale 0 [.ref 42, .int x1] [] M Q := by
  refine gv_seg ok_X11_isScale 0 8 (Ps := []) (pc' := 11) (ls' := [.ref 42, .int x1]) (st' := [.int ((24 * (M 42 2)) - 1), .int 0, .int x1]) (M2 := M) rfl trivial ?_
  refine gv_scall (M' := m_X11_in) (As := [.int x1, .int 0, .int ((24 * (M 42 2)) - 1)]) (st := []) (gl_dec ok_X11_isScale 8 11 (.invokestatic 69) 3 rfl) (gl_lnkS ok_X11_isScale 8 rfl rfl) mw_X11_in sw_X11_in ⟨by decide, by decide⟩ ⟨rfl, Nat.le_of_ble_eq_true rfl⟩ h (fun r1 M2 hq => ?_)
  obtain ⟨v3, rfl, h⟩ := hq
  change gv l sc m_X11_isScale 14 [.ref 42, .int x1] [.int v3] M2 Q
  exact gv_retZ (gl_dec ok_X11_isScale 9 14 (.ireturn) 1 rfl) rfl h.1 h.2
theorem e_X11_isScale (l : Launch) (sc : Nat × (Nat → Int32)) (M : gl_N) (Q : Option Value → gl_N → Prop) (x1 : Int32)
  (h : gr l sc m_X11_in [.int x1, .int 0, .int ((24 * (M 42 2)) - 1)] M (fun r1 M2 => ∃ v3 : Int32, r1 = some (.int v3) ∧ ((v3 = 0 ∨ v3 = 1) ∧ Q (some (.int v3)) M2))) : gr l sc m_X11_isScale [.ref 42, .int x1] M Q :=
  gr_of (by decide +kernel) (Nat.le_of_ble_eq_true rfl) (List.forall_mem_cons.mpr ⟨rfl, (List.forall_mem_cons.mpr ⟨rfl, (fun _ h => absurd h List.not_mem_nil)⟩)⟩) (w_X11_isScale_0 l sc M Q x1 h)
set_option maxHeartbeats 400000 in
set_option maxRecDepth 20000 in
theorem w_X11_isNote_0 (l : Launch) (sc : Nat × (Nat → Int32)) (M : gl_N) (Q : Option Value → gl_N → Prop) (x1 : Int32)
  (h : gr l sc m_X11_in [.int x1, .int 0, .int ((M 48 0) - 1)] M (fun r1 M2 => ∃ v3 : Int32, r1 = some (.int v3) ∧ ((v3 = 0 ∨ v3 = 1) ∧ Q (some (.int v3)) M2))) : gv l sc m_X11_isNote 0 [.ref 42, .int x1] [] M Q := by
  refine gv_seg ok_X11_isNote 0 8 (Ps := [vp_in 0 17]) (pc' := 10) (ls' := [.ref 42, .int x1]) (st' := [.int ((M 48 0) - 1), .int 0, .int x1]) (M2 := M) rfl (show vp_in 0 17 by unfold vp_in; decide) ?_
  refine gv_scall (M' := m_X11_in) (As := [.int x1, .int 0, .int ((M 48 0) - 1)]) (st := []) (gl_dec ok_X11_isNote 8 10 (.invokestatic 69) 3 rfl) (gl_lnkS ok_X11_isNote 8 rfl rfl) mw_X11_in sw_X11_in ⟨by decide, by decide⟩ ⟨rfl, Nat.le_of_ble_eq_true rfl⟩ h (fun r1 M2 hq => ?_)
  obtain ⟨v3, rfl, h⟩ := hq
  change gv l sc m_X11_isNote 13 [.ref 42, .int x1] [.int v3] M2 Q
  exact gv_retZ (gl_dec ok_X11_isNote 9 13 (.ireturn) 1 rfl) rfl h.1 h.2
theorem e_X11_isNote (l : Launch) (sc : Nat × (Nat → Int32)) (M : gl_N) (Q : Option Value → gl_N → Prop) (x1 : Int32)
  (h : gr l sc m_X11_in [.int x1, .int 0, .int ((M 48 0) - 1)] M (fun r1 M2 => ∃ v3 : Int32, r1 = some (.int v3) ∧ ((v3 = 0 ∨ v3 = 1) ∧ Q (some (.int v3)) M2))) : gr l sc m_X11_isNote [.ref 42, .int x1] M Q :=
  gr_of (by decide +kernel) (Nat.le_of_ble_eq_true rfl) (List.forall_mem_cons.mpr ⟨rfl, (List.forall_mem_cons.mpr ⟨rfl, (fun _ h => absurd h List.not_mem_nil)⟩)⟩) (w_X11_isNote_0 l sc M Q x1 h)
set_option maxHeartbeats 400000 in
set_option maxRecDepth 20000 in
theorem w_X11_type_0 (l : Launch) (sc : Nat × (Nat → Int32)) (M : gl_N) (Q : Option Value → gl_N → Prop) (x1 : Int32)
  (h : gr l sc m_X11_in [.int x1, .int 0, .int 255] (gl_u2 M 42 0 0) (fun r1 M2 => ∃ v3 : Int32, r1 = some (.int v3) ∧ ((¬ v3 = 0 → (¬ (M2 42 18) = 130 → (vp_in (M2 42 18) 130) ∧ (Q (some (.int ((M2 42 18) + 1))) (gl_u2 (gl_u2 M2 54 (Int32.toNatClampNeg (M2 42 18)) x1) 42 18 ((M2 42 18) + 1)))) ∧ ((M2 42 18) = 130 → Q (some (.int (-3))) M2)) ∧ (v3 = 0 → Q (some (.int (-1))) M2)))) : gv l sc m_X11_type 0 [.ref 42, .int x1] [] M Q := by
  refine gv_seg ok_X11_type 0 6 (Ps := []) (pc' := 10) (ls' := [.ref 42, .int x1]) (st' := [.int 255, .int 0, .int x1]) (M2 := (gl_u2 M 42 0 0)) rfl trivial ?_
  refine gv_scall (M' := m_X11_in) (As := [.int x1, .int 0, .int 255]) (st := []) (gl_dec ok_X11_type 6 10 (.invokestatic 69) 3 rfl) (gl_lnkS ok_X11_type 6 rfl rfl) mw_X11_in sw_X11_in ⟨by decide, by decide⟩ ⟨rfl, Nat.le_of_ble_eq_true rfl⟩ h (fun r1 M2 hq => ?_)
  obtain ⟨v3, rfl, h⟩ := hq
  change gv l sc m_X11_type 13 [.ref 42, .int x1] [.int v3] M2 Q
  refine gv_if_ne (t := 18) (by decide) (gl_dec ok_X11_type 7 13 (.ifCond .ne 5) 3 rfl) (fun c => ?_) (fun c => ?_)
  · replace h := h.1 c
    refine gv_seg ok_X11_type 10 3 (Ps := []) (pc' := 25) (ls' := [.ref 42, .int x1]) (st' := [.int 130, .int (M2 42 18)]) (M2 := M2) rfl trivial ?_
    refine gv_icmp_ne (t := 31) (by decide) (gl_dec ok_X11_type 13 25 (.if_icmp .ne 6) 3 rfl) (fun c => ?_) (fun c => ?_)
    · replace h := h.1 c
      obtain ⟨hp, h⟩ := h
      refine gv_seg ok_X11_type 16 14 (Ps := [vp_in (M2 42 18) 130]) (pc' := 55) (ls' := [.ref 42, .int x1]) (st' := [.int ((M2 42 18) + 1)]) (M2 := (gl_u2 (gl_u2 M2 54 (Int32.toNatClampNeg (M2 42 18)) x1) 42 18 ((M2 42 18) + 1))) rfl hp ?_
      exact gv_retI (gl_dec ok_X11_type 30 55 (.ireturn) 1 rfl) rfl h
    · replace h := h.2 c
      refine gv_seg ok_X11_type 14 1 (Ps := []) (pc' := 30) (ls' := [.ref 42, .int x1]) (st' := [.int (-3)]) (M2 := M2) rfl trivial ?_
      exact gv_retI (gl_dec ok_X11_type 15 30 (.ireturn) 1 rfl) rfl h
  · replace h := h.2 c
    refine gv_seg ok_X11_type 8 1 (Ps := []) (pc' := 17) (ls' := [.ref 42, .int x1]) (st' := [.int (-1)]) (M2 := M2) rfl trivial ?_
    exact gv_retI (gl_dec ok_X11_type 9 17 (.ireturn) 1 rfl) rfl h
theorem e_X11_type (l : Launch) (sc : Nat × (Nat → Int32)) (M : gl_N) (Q : Option Value → gl_N → Prop) (x1 : Int32)
  (h : gr l sc m_X11_in [.int x1, .int 0, .int 255] (gl_u2 M 42 0 0) (fun r1 M2 => ∃ v3 : Int32, r1 = some (.int v3) ∧ ((¬ v3 = 0 → (¬ (M2 42 18) = 130 → (vp_in (M2 42 18) 130) ∧ (Q (some (.int ((M2 42 18) + 1))) (gl_u2 (gl_u2 M2 54 (Int32.toNatClampNeg (M2 42 18)) x1) 42 18 ((M2 42 18) + 1)))) ∧ ((M2 42 18) = 130 → Q (some (.int (-3))) M2)) ∧ (v3 = 0 → Q (some (.int (-1))) M2)))) : gr l sc m_X11_type [.ref 42, .int x1] M Q :=
  gr_of (by decide +kernel) (Nat.le_of_ble_eq_true rfl) (List.forall_mem_cons.mpr ⟨rfl, (List.forall_mem_cons.mpr ⟨rfl, (fun _ h => absurd h List.not_mem_nil)⟩)⟩) (w_X11_type_0 l sc M Q x1 h)
set_option maxHeartbeats 400000 in
set_option maxRecDepth 20000 in
theorem w_X11_clear_0 (l : Launch) (sc : Nat × (Nat → Int32)) (M : gl_N) (Q : Option Value → gl_N → Prop)
  (h : Q (some (.int (M 42 18))) (gl_u2 (gl_u2 M 42 0 0) 42 18 0)) : gv l sc m_X11_clear 0 [.ref 42, .float 0] [] M Q := by
  refine gv_seg ok_X11_clear 0 10 (Ps := []) (pc' := 16) (ls' := [.ref 42, .int (M 42 18)]) (st' := [.int (M 42 18)]) (M2 := (gl_u2 (gl_u2 M 42 0 0) 42 18 0)) rfl trivial ?_
  exact gv_retI (gl_dec ok_X11_clear 10 16 (.ireturn) 1 rfl) rfl h
theorem e_X11_clear (l : Launch) (sc : Nat × (Nat → Int32)) (M : gl_N) (Q : Option Value → gl_N → Prop)
  (h : Q (some (.int (M 42 18))) (gl_u2 (gl_u2 M 42 0 0) 42 18 0)) : gr l sc m_X11_clear [.ref 42] M Q :=
  gr_of (by decide +kernel) (Nat.le_of_ble_eq_true rfl) (List.forall_mem_cons.mpr ⟨rfl, (fun _ h => absurd h List.not_mem_nil)⟩) (w_X11_clear_0 l sc M Q h)
set_option maxHeartbeats 400000 in
set_option maxRecDepth 20000 in
theorem w_X11_isFigure_0 (l : Launch) (sc : Nat × (Nat → Int32)) (M : gl_N) (Q : Option Value → gl_N → Prop) (x1 : Int32)
  (h : ((M 42 18) ≤ x1 → Q (some (.int 0)) M) ∧ (¬ (M 42 18) ≤ x1 → (vp_in x1 130) ∧ (gr l sc m_X11_in [.int (M 54 (Int32.toNatClampNeg x1)), .int 48, .int 57] M (fun r1 M2 => ∃ v3 : Int32, r1 = some (.int v3) ∧ ((v3 = 0 → Q (some (.int 0)) M2) ∧ (¬ v3 = 0 → Q (some (.int 1)) M2)))))) : gv l sc m_X11_isFigure 0 [.ref 42, .int x1] [] M Q := by
  refine gv_seg ok_X11_isFigure 0 3 (Ps := []) (pc' := 5) (ls' := [.ref 42, .int x1]) (st' := [.int (M 42 18), .int x1]) (M2 := M) rfl trivial ?_
  refine gv_icmp_ge (t := 28) (by decide) (gl_dec ok_X11_isFigure 3 5 (.if_icmp .ge 23) 3 rfl) (fun c => ?_) (fun c => ?_)
  · replace h := h.1 c
    refine gv_seg ok_X11_isFigure 14 1 (Ps := []) (pc' := 29) (ls' := [.ref 42, .int x1]) (st' := [.int 0]) (M2 := M) rfl trivial ?_
    exact gv_retZ (gl_dec ok_X11_isFigure 15 29 (.ireturn) 1 rfl) rfl (by decide) h
  · replace h := h.2 c
    obtain ⟨hp, h⟩ := h
    refine gv_seg ok_X11_isFigure 4 6 (Ps := [vp_in x1 130]) (pc' := 18) (ls' := [.ref 42, .int x1]) (st' := [.int 57, .int 48, .int (M 54 (Int32.toNatClampNeg x1))]) (M2 := M) rfl hp ?_
    refine gv_scall (M' := m_X11_in) (As := [.int (M 54 (Int32.toNatClampNeg x1)), .int 48, .int 57]) (st := []) (gl_dec ok_X11_isFigure 10 18 (.invokestatic 69) 3 rfl) (gl_lnkS ok_X11_isFigure 10 rfl rfl) mw_X11_in sw_X11_in ⟨by decide, by decide⟩ ⟨rfl, Nat.le_of_ble_eq_true rfl⟩ h (fun r1 M2 hq => ?_)
    obtain ⟨v3, rfl, h⟩ := hq
    change gv l sc m_X11_isFigure 21 [.ref 42, .int x1] [.int v3] M2 Q
    refine gv_if_eq (t := 28) (by decide) (gl_dec ok_X11_isFigure 11 21 (.ifCond .eq 7) 3 rfl) (fun c => ?_) (fun c => ?_)
    · replace h := h.1 c
      refine gv_seg ok_X11_isFigure 14 1 (Ps := []) (pc' := 29) (ls' := [.ref 42, .int x1]) (st' := [.int 0]) (M2 := M2) rfl trivial ?_
      exact gv_retZ (gl_dec ok_X11_isFigure 15 29 (.ireturn) 1 rfl) rfl (by decide) h
    · replace h := h.2 c
      refine gv_seg ok_X11_isFigure 12 1 (Ps := []) (pc' := 25) (ls' := [.ref 42, .int x1]) (st' := [.int 1]) (M2 := M2) rfl trivial ?_
      refine gv_goto (t := 29) (by decide) (gl_dec ok_X11_isFigure 13 25 (.goto 4) 3 rfl) ?_
      exact gv_retZ (gl_dec ok_X11_isFigure 15 29 (.ireturn) 1 rfl) rfl (by decide) h
theorem e_X11_isFigure (l : Launch) (sc : Nat × (Nat → Int32)) (M : gl_N) (Q : Option Value → gl_N → Prop) (x1 : Int32)
  (h : ((M 42 18) ≤ x1 → Q (some (.int 0)) M) ∧ (¬ (M 42 18) ≤ x1 → (vp_in x1 130) ∧ (gr l sc m_X11_in [.int (M 54 (Int32.toNatClampNeg x1)), .int 48, .int 57] M (fun r1 M2 => ∃ v3 : Int32, r1 = some (.int v3) ∧ ((v3 = 0 → Q (some (.int 0)) M2) ∧ (¬ v3 = 0 → Q (some (.int 1)) M2)))))) : gr l sc m_X11_isFigure [.ref 42, .int x1] M Q :=
  gr_of (by decide +kernel) (Nat.le_of_ble_eq_true rfl) (List.forall_mem_cons.mpr ⟨rfl, (List.forall_mem_cons.mpr ⟨rfl, (fun _ h => absurd h List.not_mem_nil)⟩)⟩) (w_X11_isFigure_0 l sc M Q x1 h)
set_option maxHeartbeats 400000 in
set_option maxRecDepth 20000 in
theorem w_X11_takes_0 (l : Launch) (sc : Nat × (Nat → Int32)) (M : gl_N) (Q : Option Value → gl_N → Prop)
  (h : ((M 42 18) ≤ (M 42 20) → ((M 42 18) ≤ (M 42 20) → gr l sc m_X11_isFigure [.ref 42, .int (M 42 20)] (gl_u2 (gl_u2 M 42 21 (M 42 20)) 42 22 (-1)) (fun r1 M2 => ∃ v3 : Int32, r1 = some (.int v3) ∧ ((¬ v3 = 0 → gv l sc m_X11_takes 111 [.ref 42] [] M2 Q) ∧ (v3 = 0 → ((M2 42 18) ≤ (M2 42 20) → Q none (gl_u2 M2 42 20 ((M2 42 20) + 0))) ∧ (¬ (M2 42 18) ≤ (M2 42 20) → Q none (gl_u2 M2 42 20 ((M2 42 20) + 1))))))) ∧ (¬ (M 42 18) ≤ (M 42 20) → (vp_in (M 42 20) 130) ∧ (gr l sc m_X11_isFigure [.ref 42, .int (M 42 20)] (gl_u2 (gl_u2 M 42 21 (M 42 20)) 42 22 (M 54 (Int32.toNatClampNeg (M 42 20)))) (fun r4 M5 => ∃ v6 : Int32, r4 = some (.int v6) ∧ ((¬ v6 = 0 → gv l sc m_X11_takes 111 [.ref 42] [] M5 Q) ∧ (v6 = 0 → ((M5 42 18) ≤ (M5 42 20) → Q none (gl_u2 M5 42 20 ((M5 42 20) + 0))) ∧ (¬ (M5 42 18) ≤ (M5 42 20) → Q none (gl_u2 M5 42 20 ((M5 42 20) + 1))))))))) ∧ (¬ (M 42 18) ≤ (M 42 20) → (vp_in (M 42 20) 130) ∧ ((¬ (M 54 (Int32.toNatClampNeg (M 42 20))) = 32 → ((M 42 18) ≤ (M 42 20) → gr l sc m_X11_isFigure [.ref 42, .int (M 42 20)] (gl_u2 (gl_u2 M 42 21 (M 42 20)) 42 22 (-1)) (fun r7 M8 => ∃ v9 : Int32, r7 = some (.int v9) ∧ ((¬ v9 = 0 → gv l sc m_X11_takes 111 [.ref 42] [] M8 Q) ∧ (v9 = 0 → ((M8 42 18) ≤ (M8 42 20) → Q none (gl_u2 M8 42 20 ((M8 42 20) + 0))) ∧ (¬ (M8 42 18) ≤ (M8 42 20) → Q none (gl_u2 M8 42 20 ((M8 42 20) + 1))))))) ∧ (¬ (M 42 18) ≤ (M 42 20) → (vp_in (M 42 20) 130) ∧ (gr l sc m_X11_isFigure [.ref 42, .int (M 42 20)] (gl_u2 (gl_u2 M 42 21 (M 42 20)) 42 22 (M 54 (Int32.toNatClampNeg (M 42 20)))) (fun r10 M11 => ∃ v12 : Int32, r10 = some (.int v12) ∧ ((¬ v12 = 0 → gv l sc m_X11_takes 111 [.ref 42] [] M11 Q) ∧ (v12 = 0 → ((M11 42 18) ≤ (M11 42 20) → Q none (gl_u2 M11 42 20 ((M11 42 20) + 0))) ∧ (¬ (M11 42 18) ≤ (M11 42 20) → Q none (gl_u2 M11 42 20 ((M11 42 20) + 1))))))))) ∧ ((M 54 (Int32.toNatClampNeg (M 42 20))) = 32 → gv l sc m_X11_takes 0 [.ref 42] [] (gl_u2 M 42 20 ((M 42 20) + 1)) Q)))) : gv l sc m_X11_takes 0 [.ref 42] [] M Q := by
  refine gv_seg ok_X11_takes 0 4 (Ps := []) (pc' := 8) (ls' := [.ref 42]) (st' := [.int (M 42 18), .int (M 42 20)]) (M2 := M) rfl trivial ?_
  refine gv_icmp_ge (t := 38) (by decide) (gl_dec ok_X11_takes 4 8 (.if_icmp .ge 30) 3 rfl) (fun c => ?_) (fun c => ?_)
  · replace h := h.1 c
    refine gv_seg ok_X11_takes 19 9 (Ps := []) (pc' := 55) (ls' := [.ref 42]) (st' := [.int (M 42 18), .int (M 42 20), .ref 42]) (M2 := (gl_u2 M 42 21 (M 42 20))) rfl trivial ?_
    refine gv_icmp_ge (t := 70) (by decide) (gl_dec ok_X11_takes 28 55 (.if_icmp .ge 15) 3 rfl) (fun c => ?_) (fun c => ?_)
    · replace h := h.1 c
      refine gv_seg ok_X11_takes 35 5 (Ps := []) (pc' := 79) (ls' := [.ref 42]) (st' := [.int (M 42 20), .ref 42]) (M2 := (gl_u2 (gl_u2 M 42 21 (M 42 20)) 42 22 (-1))) rfl trivial ?_
      refine gv_vcall (M' := m_X11_isFigure) (o := 42) (ci := 11) (As := [.int (M 42 20)]) (st := []) (gl_dec ok_X11_takes 40 79 (.invokevirtual 85) 3 rfl) (gl_lnk ok_X11_takes 40 rfl rfl) mw_X11_isFigure iw_X11_isFigure lw_X11_isFigure ⟨by decide, by decide⟩ rfl rfl rfl ⟨rfl, Nat.le_of_ble_eq_true rfl⟩ h (fun r1 M2 hq => ?_)
      obtain ⟨v3, rfl, h⟩ := hq
      change gv l sc m_X11_takes 82 [.ref 42] [.int v3] M2 Q
      refine gv_if_ne (t := 111) (by decide) (gl_dec ok_X11_takes 41 82 (.ifCond .ne 29) 3 rfl) (fun c => ?_) (fun c => ?_)
      · replace h := h.1 c
        exact h
      · replace h := h.2 c
        refine gv_seg ok_X11_takes 42 7 (Ps := []) (pc' := 98) (ls' := [.ref 42]) (st' := [.int (M2 42 18), .int (M2 42 20), .int (M2 42 20), .ref 42]) (M2 := M2) rfl trivial ?_
        refine gv_icmp_ge (t := 105) (by decide) (gl_dec ok_X11_takes 49 98 (.if_icmp .ge 7) 3 rfl) (fun c => ?_) (fun c => ?_)
        · replace h := h.1 c
          refine gv_seg ok_X11_takes 52 3 (Ps := []) (pc' := 110) (ls' := [.ref 42]) (st' := []) (M2 := (gl_u2 M2 42 20 ((M2 42 20) + 0))) rfl trivial ?_
          exact gv_retV (gl_dec ok_X11_takes 55 110 (.return_) 1 rfl) rfl h
        · replace h := h.2 c
          refine gv_seg ok_X11_takes 50 1 (Ps := []) (pc' := 102) (ls' := [.ref 42]) (st' := [.int 1, .int (M2 42 20), .ref 42]) (M2 := M2) rfl trivial ?_
          refine gv_goto (t := 106) (by decide) (gl_dec ok_X11_takes 51 102 (.goto 4) 3 rfl) ?_
          refine gv_seg ok_X11_takes 53 2 (Ps := []) (pc' := 110) (ls' := [.ref 42]) (st' := []) (M2 := (gl_u2 M2 42 20 ((M2 42 20) + 1))) rfl trivial ?_
          exact gv_retV (gl_dec ok_X11_takes 55 110 (.return_) 1 rfl) rfl h
    · replace h := h.2 c
      obtain ⟨hp, h⟩ := h
      refine gv_seg ok_X11_takes 29 5 (Ps := [vp_in (M 42 20) 130]) (pc' := 67) (ls' := [.ref 42]) (st' := [.int (M 54 (Int32.toNatClampNeg (M 42 20))), .ref 42]) (M2 := (gl_u2 M 42 21 (M 42 20))) rfl hp ?_
      refine gv_goto (t := 71) (by decide) (gl_dec ok_X11_takes 34 67 (.goto 4) 3 rfl) ?_
      refine gv_seg ok_X11_takes 36 4 (Ps := []) (pc' := 79) (ls' := [.ref 42]) (st' := [.int (M 42 20), .ref 42]) (M2 := (gl_u2 (gl_u2 M 42 21 (M 42 20)) 42 22 (M 54 (Int32.toNatClampNeg (M 42 20))))) rfl trivial ?_
      refine gv_vcall (M' := m_X11_isFigure) (o := 42) (ci := 11) (As := [.int (M 42 20)]) (st := []) (gl_dec ok_X11_takes 40 79 (.invokevirtual 85) 3 rfl) (gl_lnk ok_X11_takes 40 rfl rfl) mw_X11_isFigure iw_X11_isFigure lw_X11_isFigure ⟨by decide, by decide⟩ rfl rfl rfl ⟨rfl, Nat.le_of_ble_eq_true rfl⟩ h (fun r4 M5 hq => ?_)
      obtain ⟨v6, rfl, h⟩ := hq
      change gv l sc m_X11_takes 82 [.ref 42] [.int v6] M5 Q
      refine gv_if_ne (t := 111) (by decide) (gl_dec ok_X11_takes 41 82 (.ifCond .ne 29) 3 rfl) (fun c => ?_) (fun c => ?_)
      · replace h := h.1 c
        exact h
      · replace h := h.2 c
        refine gv_seg ok_X11_takes 42 7 (Ps := []) (pc' := 98) (ls' := [.ref 42]) (st' := [.int (M5 42 18), .int (M5 42 20), .int (M5 42 20), .ref 42]) (M2 := M5) rfl trivial ?_
        refine gv_icmp_ge (t := 105) (by decide) (gl_dec ok_X11_takes 49 98 (.if_icmp .ge 7) 3 rfl) (fun c => ?_) (fun c => ?_)
        · replace h := h.1 c
          refine gv_seg ok_X11_takes 52 3 (Ps := []) (pc' := 110) (ls' := [.ref 42]) (st' := []) (M2 := (gl_u2 M5 42 20 ((M5 42 20) + 0))) rfl trivial ?_
          exact gv_retV (gl_dec ok_X11_takes 55 110 (.return_) 1 rfl) rfl h
        · replace h := h.2 c
          refine gv_seg ok_X11_takes 50 1 (Ps := []) (pc' := 102) (ls' := [.ref 42]) (st' := [.int 1, .int (M5 42 20), .ref 42]) (M2 := M5) rfl trivial ?_
          refine gv_goto (t := 106) (by decide) (gl_dec ok_X11_takes 51 102 (.goto 4) 3 rfl) ?_
          refine gv_seg ok_X11_takes 53 2 (Ps := []) (pc' := 110) (ls' := [.ref 42]) (st' := []) (M2 := (gl_u2 M5 42 20 ((M5 42 20) + 1))) rfl trivial ?_
          exact gv_retV (gl_dec ok_X11_takes 55 110 (.return_) 1 rfl) rfl h
  · replace h := h.2 c
    obtain ⟨hp, h⟩ := h
    refine gv_seg ok_X11_takes 5 6 (Ps := [vp_in (M 42 20) 130]) (pc' := 22) (ls' := [.ref 42]) (st' := [.int 32, .int (M 54 (Int32.toNatClampNeg (M 42 20)))]) (M2 := M) rfl hp ?_
    refine gv_icmp_ne (t := 38) (by decide) (gl_dec ok_X11_takes 11 22 (.if_icmp .ne 16) 3 rfl) (fun c => ?_) (fun c => ?_)
    · replace h := h.1 c
      refine gv_seg ok_X11_takes 19 9 (Ps := []) (pc' := 55) (ls' := [.ref 42]) (st' := [.int (M 42 18), .int (M 42 20), .ref 42]) (M2 := (gl_u2 M 42 21 (M 42 20))) rfl trivial ?_
      refine gv_icmp_ge (t := 70) (by decide) (gl_dec ok_X11_takes 28 55 (.if_icmp .ge 15) 3 rfl) (fun c => ?_) (fun c => ?_)
      · replace h := h.1 c
        refine gv_seg ok_X11_takes 35 5 (Ps := []) (pc' := 79) (ls' := [.ref 42]) (st' := [.int (M 42 20), .ref 42]) (M2 := (gl_u2 (gl_u2 M 42 21 (M 42 20)) 42 22 (-1))) rfl trivial ?_
        refine gv_vcall (M' := m_X11_isFigure) (o := 42) (ci := 11) (As := [.int (M 42 20)]) (st := []) (gl_dec ok_X11_takes 40 79 (.invokevirtual 85) 3 rfl) (gl_lnk ok_X11_takes 40 rfl rfl) mw_X11_isFigure iw_X11_isFigure lw_X11_isFigure ⟨by decide, by decide⟩ rfl rfl rfl ⟨rfl, Nat.le_of_ble_eq_true rfl⟩ h (fun r7 M8 hq => ?_)
        obtain ⟨v9, rfl, h⟩ := hq
        change gv l sc m_X11_takes 82 [.ref 42] [.int v9] M8 Q
        refine gv_if_ne (t := 111) (by decide) (gl_dec ok_X11_takes 41 82 (.ifCond .ne 29) 3 rfl) (fun c => ?_) (fun c => ?_)
        · replace h := h.1 c
          exact h
        · replace h := h.2 c
          refine gv_seg ok_X11_takes 42 7 (Ps := []) (pc' := 98) (ls' := [.ref 42]) (st' := [.int (M8 42 18), .int (M8 42 20), .int (M8 42 20), .ref 42]) (M2 := M8) rfl trivial ?_
          refine gv_icmp_ge (t := 105) (by decide) (gl_dec ok_X11_takes 49 98 (.if_icmp .ge 7) 3 rfl) (fun c => ?_) (fun c => ?_)
          · replace h := h.1 c
            refine gv_seg ok_X11_takes 52 3 (Ps := []) (pc' := 110) (ls' := [.ref 42]) (st' := []) (M2 := (gl_u2 M8 42 20 ((M8 42 20) + 0))) rfl trivial ?_
            exact gv_retV (gl_dec ok_X11_takes 55 110 (.return_) 1 rfl) rfl h
          · replace h := h.2 c
            refine gv_seg ok_X11_takes 50 1 (Ps := []) (pc' := 102) (ls' := [.ref 42]) (st' := [.int 1, .int (M8 42 20), .ref 42]) (M2 := M8) rfl trivial ?_
            refine gv_goto (t := 106) (by decide) (gl_dec ok_X11_takes 51 102 (.goto 4) 3 rfl) ?_
            refine gv_seg ok_X11_takes 53 2 (Ps := []) (pc' := 110) (ls' := [.ref 42]) (st' := []) (M2 := (gl_u2 M8 42 20 ((M8 42 20) + 1))) rfl trivial ?_
            exact gv_retV (gl_dec ok_X11_takes 55 110 (.return_) 1 rfl) rfl h
      · replace h := h.2 c
        obtain ⟨hp, h⟩ := h
        refine gv_seg ok_X11_takes 29 5 (Ps := [vp_in (M 42 20) 130]) (pc' := 67) (ls' := [.ref 42]) (st' := [.int (M 54 (Int32.toNatClampNeg (M 42 20))), .ref 42]) (M2 := (gl_u2 M 42 21 (M 42 20))) rfl hp ?_
        refine gv_goto (t := 71) (by decide) (gl_dec ok_X11_takes 34 67 (.goto 4) 3 rfl) ?_
        refine gv_seg ok_X11_takes 36 4 (Ps := []) (pc' := 79) (ls' := [.ref 42]) (st' := [.int (M 42 20), .ref 42]) (M2 := (gl_u2 (gl_u2 M 42 21 (M 42 20)) 42 22 (M 54 (Int32.toNatClampNeg (M 42 20))))) rfl trivial ?_
        refine gv_vcall (M' := m_X11_isFigure) (o := 42) (ci := 11) (As := [.int (M 42 20)]) (st := []) (gl_dec ok_X11_takes 40 79 (.invokevirtual 85) 3 rfl) (gl_lnk ok_X11_takes 40 rfl rfl) mw_X11_isFigure iw_X11_isFigure lw_X11_isFigure ⟨by decide, by decide⟩ rfl rfl rfl ⟨rfl, Nat.le_of_ble_eq_true rfl⟩ h (fun r10 M11 hq => ?_)
        obtain ⟨v12, rfl, h⟩ := hq
        change gv l sc m_X11_takes 82 [.ref 42] [.int v12] M11 Q
        refine gv_if_ne (t := 111) (by decide) (gl_dec ok_X11_takes 41 82 (.ifCond .ne 29) 3 rfl) (fun c => ?_) (fun c => ?_)
        · replace h := h.1 c
          exact h
        · replace h := h.2 c
          refine gv_seg ok_X11_takes 42 7 (Ps := []) (pc' := 98) (ls' := [.ref 42]) (st' := [.int (M11 42 18), .int (M11 42 20), .int (M11 42 20), .ref 42]) (M2 := M11) rfl trivial ?_
          refine gv_icmp_ge (t := 105) (by decide) (gl_dec ok_X11_takes 49 98 (.if_icmp .ge 7) 3 rfl) (fun c => ?_) (fun c => ?_)
          · replace h := h.1 c
            refine gv_seg ok_X11_takes 52 3 (Ps := []) (pc' := 110) (ls' := [.ref 42]) (st' := []) (M2 := (gl_u2 M11 42 20 ((M11 42 20) + 0))) rfl trivial ?_
            exact gv_retV (gl_dec ok_X11_takes 55 110 (.return_) 1 rfl) rfl h
          · replace h := h.2 c
            refine gv_seg ok_X11_takes 50 1 (Ps := []) (pc' := 102) (ls' := [.ref 42]) (st' := [.int 1, .int (M11 42 20), .ref 42]) (M2 := M11) rfl trivial ?_
            refine gv_goto (t := 106) (by decide) (gl_dec ok_X11_takes 51 102 (.goto 4) 3 rfl) ?_
            refine gv_seg ok_X11_takes 53 2 (Ps := []) (pc' := 110) (ls' := [.ref 42]) (st' := []) (M2 := (gl_u2 M11 42 20 ((M11 42 20) + 1))) rfl trivial ?_
            exact gv_retV (gl_dec ok_X11_takes 55 110 (.return_) 1 rfl) rfl h
    · replace h := h.2 c
      refine gv_seg ok_X11_takes 12 6 (Ps := []) (pc' := 35) (ls' := [.ref 42]) (st' := []) (M2 := (gl_u2 M 42 20 ((M 42 20) + 1))) rfl trivial ?_
      refine gv_goto (t := 0) (by decide) (gl_dec ok_X11_takes 18 35 (.goto (-35)) 3 rfl) ?_
      exact h
theorem e_X11_takes (l : Launch) (sc : Nat × (Nat → Int32)) (M : gl_N) (Q : Option Value → gl_N → Prop)
  (h : ((M 42 18) ≤ (M 42 20) → ((M 42 18) ≤ (M 42 20) → gr l sc m_X11_isFigure [.ref 42, .int (M 42 20)] (gl_u2 (gl_u2 M 42 21 (M 42 20)) 42 22 (-1)) (fun r1 M2 => ∃ v3 : Int32, r1 = some (.int v3) ∧ ((¬ v3 = 0 → gv l sc m_X11_takes 111 [.ref 42] [] M2 Q) ∧ (v3 = 0 → ((M2 42 18) ≤ (M2 42 20) → Q none (gl_u2 M2 42 20 ((M2 42 20) + 0))) ∧ (¬ (M2 42 18) ≤ (M2 42 20) → Q none (gl_u2 M2 42 20 ((M2 42 20) + 1))))))) ∧ (¬ (M 42 18) ≤ (M 42 20) → (vp_in (M 42 20) 130) ∧ (gr l sc m_X11_isFigure [.ref 42, .int (M 42 20)] (gl_u2 (gl_u2 M 42 21 (M 42 20)) 42 22 (M 54 (Int32.toNatClampNeg (M 42 20)))) (fun r4 M5 => ∃ v6 : Int32, r4 = some (.int v6) ∧ ((¬ v6 = 0 → gv l sc m_X11_takes 111 [.ref 42] [] M5 Q) ∧ (v6 = 0 → ((M5 42 18) ≤ (M5 42 20) → Q none (gl_u2 M5 42 20 ((M5 42 20) + 0))) ∧ (¬ (M5 42 18) ≤ (M5 42 20) → Q none (gl_u2 M5 42 20 ((M5 42 20) + 1))))))))) ∧ (¬ (M 42 18) ≤ (M 42 20) → (vp_in (M 42 20) 130) ∧ ((¬ (M 54 (Int32.toNatClampNeg (M 42 20))) = 32 → ((M 42 18) ≤ (M 42 20) → gr l sc m_X11_isFigure [.ref 42, .int (M 42 20)] (gl_u2 (gl_u2 M 42 21 (M 42 20)) 42 22 (-1)) (fun r7 M8 => ∃ v9 : Int32, r7 = some (.int v9) ∧ ((¬ v9 = 0 → gv l sc m_X11_takes 111 [.ref 42] [] M8 Q) ∧ (v9 = 0 → ((M8 42 18) ≤ (M8 42 20) → Q none (gl_u2 M8 42 20 ((M8 42 20) + 0))) ∧ (¬ (M8 42 18) ≤ (M8 42 20) → Q none (gl_u2 M8 42 20 ((M8 42 20) + 1))))))) ∧ (¬ (M 42 18) ≤ (M 42 20) → (vp_in (M 42 20) 130) ∧ (gr l sc m_X11_isFigure [.ref 42, .int (M 42 20)] (gl_u2 (gl_u2 M 42 21 (M 42 20)) 42 22 (M 54 (Int32.toNatClampNeg (M 42 20)))) (fun r10 M11 => ∃ v12 : Int32, r10 = some (.int v12) ∧ ((¬ v12 = 0 → gv l sc m_X11_takes 111 [.ref 42] [] M11 Q) ∧ (v12 = 0 → ((M11 42 18) ≤ (M11 42 20) → Q none (gl_u2 M11 42 20 ((M11 42 20) + 0))) ∧ (¬ (M11 42 18) ≤ (M11 42 20) → Q none (gl_u2 M11 42 20 ((M11 42 20) + 1))))))))) ∧ ((M 54 (Int32.toNatClampNeg (M 42 20))) = 32 → gv l sc m_X11_takes 0 [.ref 42] [] (gl_u2 M 42 20 ((M 42 20) + 1)) Q)))) : gr l sc m_X11_takes [.ref 42] M Q :=
  gr_of (by decide +kernel) (Nat.le_of_ble_eq_true rfl) (List.forall_mem_cons.mpr ⟨rfl, (fun _ h => absurd h List.not_mem_nil)⟩) (w_X11_takes_0 l sc M Q h)
set_option maxHeartbeats 400000 in
set_option maxRecDepth 20000 in
theorem w_X11_takes_111 (l : Launch) (sc : Nat × (Nat → Int32)) (M : gl_N) (Q : Option Value → gl_N → Prop)
  (h : gr l sc m_X11_isFigure [.ref 42, .int (M 42 20)] M (fun r1 M2 => ∃ v3 : Int32, r1 = some (.int v3) ∧ ((v3 = 0 → ((M2 42 20) ≤ ((M2 42 21) + 1) → (vp_in (M2 42 21) 130) ∧ (Q none (gl_u2 M2 42 22 ((1000 + (M2 54 (Int32.toNatClampNeg (M2 42 21)))) - 48)))) ∧ (¬ (M2 42 20) ≤ ((M2 42 21) + 1) → Q none (gl_u2 M2 42 22 2000))) ∧ (¬ v3 = 0 → gv l sc m_X11_takes 111 [.ref 42] [] (gl_u2 M2 42 20 ((M2 42 20) + 1)) Q)))) : gv l sc m_X11_takes 111 [.ref 42] [] M Q := by
  refine gv_seg ok_X11_takes 56 3 (Ps := []) (pc' := 116) (ls' := [.ref 42]) (st' := [.int (M 42 20), .ref 42]) (M2 := M) rfl trivial ?_
  refine gv_vcall (M' := m_X11_isFigure) (o := 42) (ci := 11) (As := [.int (M 42 20)]) (st := []) (gl_dec ok_X11_takes 59 116 (.invokevirtual 85) 3 rfl) (gl_lnk ok_X11_takes 59 rfl rfl) mw_X11_isFigure iw_X11_isFigure lw_X11_isFigure ⟨by decide, by decide⟩ rfl rfl rfl ⟨rfl, Nat.le_of_ble_eq_true rfl⟩ h (fun r1 M2 hq => ?_)
  obtain ⟨v3, rfl, h⟩ := hq
  change gv l sc m_X11_takes 119 [.ref 42] [.int v3] M2 Q
  refine gv_if_eq (t := 135) (by decide) (gl_dec ok_X11_takes 60 119 (.ifCond .eq 16) 3 rfl) (fun c => ?_) (fun c => ?_)
  · replace h := h.1 c
    refine gv_seg ok_X11_takes 68 7 (Ps := []) (pc' := 146) (ls' := [.ref 42]) (st' := [.int ((M2 42 21) + 1), .int (M2 42 20), .ref 42]) (M2 := M2) rfl trivial ?_
    refine gv_icmp_le (t := 155) (by decide) (gl_dec ok_X11_takes 75 146 (.if_icmp .le 9) 3 rfl) (fun c => ?_) (fun c => ?_)
    · replace h := h.1 c
      obtain ⟨hp, h⟩ := h
      refine gv_seg ok_X11_takes 78 10 (Ps := [vp_in (M2 42 21) 130]) (pc' := 174) (ls' := [.ref 42]) (st' := []) (M2 := (gl_u2 M2 42 22 ((1000 + (M2 54 (Int32.toNatClampNeg (M2 42 21)))) - 48))) rfl hp ?_
      exact gv_retV (gl_dec ok_X11_takes 88 174 (.return_) 1 rfl) rfl h
    · replace h := h.2 c
      refine gv_seg ok_X11_takes 76 1 (Ps := []) (pc' := 152) (ls' := [.ref 42]) (st' := [.int 2000, .ref 42]) (M2 := M2) rfl trivial ?_
      refine gv_goto (t := 171) (by decide) (gl_dec ok_X11_takes 77 152 (.goto 19) 3 rfl) ?_
      refine gv_seg ok_X11_takes 87 1 (Ps := []) (pc' := 174) (ls' := [.ref 42]) (st' := []) (M2 := (gl_u2 M2 42 22 2000)) rfl trivial ?_
      exact gv_retV (gl_dec ok_X11_takes 88 174 (.return_) 1 rfl) rfl h
  · replace h := h.2 c
    refine gv_seg ok_X11_takes 61 6 (Ps := []) (pc' := 132) (ls' := [.ref 42]) (st' := []) (M2 := (gl_u2 M2 42 20 ((M2 42 20) + 1))) rfl trivial ?_
    refine gv_goto (t := 111) (by decide) (gl_dec ok_X11_takes 67 132 (.goto (-21)) 3 rfl) ?_
    exact h
set_option maxHeartbeats 400000 in
set_option maxRecDepth 20000 in
theorem w_X11_isNumber_0 (l : Launch) (sc : Nat × (Nat → Int32)) (M : gl_N) (Q : Option Value → gl_N → Prop) (x1 x2 : Int32)
  (h : gr l sc m_X11_in [.int (M 42 22), .int (1000 + x1), .int (1000 + x2)] M (fun r1 M2 => ∃ v3 : Int32, r1 = some (.int v3) ∧ ((v3 = 0 ∨ v3 = 1) ∧ Q (some (.int v3)) M2))) : gv l sc m_X11_isNumber 0 [.ref 42, .int x1, .int x2] [] M Q := by
  refine gv_seg ok_X11_isNumber 0 8 (Ps := []) (pc' := 14) (ls' := [.ref 42, .int x1, .int x2]) (st' := [.int (1000 + x2), .int (1000 + x1), .int (M 42 22)]) (M2 := M) rfl trivial ?_
  refine gv_scall (M' := m_X11_in) (As := [.int (M 42 22), .int (1000 + x1), .int (1000 + x2)]) (st := []) (gl_dec ok_X11_isNumber 8 14 (.invokestatic 69) 3 rfl) (gl_lnkS ok_X11_isNumber 8 rfl rfl) mw_X11_in sw_X11_in ⟨by decide, by decide⟩ ⟨rfl, Nat.le_of_ble_eq_true rfl⟩ h (fun r1 M2 hq => ?_)
  obtain ⟨v3, rfl, h⟩ := hq
  change gv l sc m_X11_isNumber 17 [.ref 42, .int x1, .int x2] [.int v3] M2 Q
  exact gv_retZ (gl_dec ok_X11_isNumber 9 17 (.ireturn) 1 rfl) rfl h.1 h.2
theorem e_X11_isNumber (l : Launch) (sc : Nat × (Nat → Int32)) (M : gl_N) (Q : Option Value → gl_N → Prop) (x1 x2 : Int32)
  (h : gr l sc m_X11_in [.int (M 42 22), .int (1000 + x1), .int (1000 + x2)] M (fun r1 M2 => ∃ v3 : Int32, r1 = some (.int v3) ∧ ((v3 = 0 ∨ v3 = 1) ∧ Q (some (.int v3)) M2))) : gr l sc m_X11_isNumber [.ref 42, .int x1, .int x2] M Q :=
  gr_of (by decide +kernel) (Nat.le_of_ble_eq_true rfl) (List.forall_mem_cons.mpr ⟨rfl, (List.forall_mem_cons.mpr ⟨rfl, (List.forall_mem_cons.mpr ⟨rfl, (fun _ h => absurd h List.not_mem_nil)⟩)⟩)⟩) (w_X11_isNumber_0 l sc M Q x1 x2 h)
set_option maxHeartbeats 400000 in
set_option maxRecDepth 20000 in
theorem w_X11_readsCell_0 (l : Launch) (sc : Nat × (Nat → Int32)) (M : gl_N) (Q : Option Value → gl_N → Prop)
  (h : (¬ (M 42 6) = 6 → gr l sc m_X11_takes [.ref 42] M (fun r1 M2 => r1 = none ∧ (gv l sc m_X11_readsCell 24 [.ref 42, .int (5 * (M 42 6)), .int 0] [] M2 Q))) ∧ ((M 42 6) = 6 → Q (some (.int 0)) M)) : gv l sc m_X11_readsCell 0 [.ref 42, .float 0, .float 0] [] M Q := by
  refine gv_seg ok_X11_readsCell 0 3 (Ps := []) (pc' := 6) (ls' := [.ref 42, .float 0, .float 0]) (st' := [.int 6, .int (M 42 6)]) (M2 := M) rfl trivial ?_
  refine gv_icmp_ne (t := 11) (by decide) (gl_dec ok_X11_readsCell 3 6 (.if_icmp .ne 5) 3 rfl) (fun c => ?_) (fun c => ?_)
  · replace h := h.1 c
    refine gv_seg ok_X11_readsCell 6 8 (Ps := []) (pc' := 21) (ls' := [.ref 42, .int (5 * (M 42 6)), .int 0]) (st' := [.ref 42]) (M2 := M) rfl trivial ?_
    refine gv_vcall (M' := m_X11_takes) (o := 42) (ci := 11) (As := []) (st := []) (gl_dec ok_X11_readsCell 14 21 (.invokevirtual 92) 3 rfl) (gl_lnk ok_X11_readsCell 14 rfl rfl) mw_X11_takes iw_X11_takes lw_X11_takes ⟨by decide, by decide⟩ rfl rfl rfl ⟨rfl, Nat.le_of_ble_eq_true rfl⟩ h (fun r1 M2 hq => ?_)
    obtain ⟨rfl, h⟩ := hq
    change gv l sc m_X11_readsCell 24 [.ref 42, .int (5 * (M 42 6)), .int 0] [] M2 Q
    exact h
  · replace h := h.2 c
    refine gv_seg ok_X11_readsCell 4 1 (Ps := []) (pc' := 10) (ls' := [.ref 42, .float 0, .float 0]) (st' := [.int 0]) (M2 := M) rfl trivial ?_
    exact gv_retZ (gl_dec ok_X11_readsCell 5 10 (.ireturn) 1 rfl) rfl (by decide) h
theorem e_X11_readsCell (l : Launch) (sc : Nat × (Nat → Int32)) (M : gl_N) (Q : Option Value → gl_N → Prop)
  (h : (¬ (M 42 6) = 6 → gr l sc m_X11_takes [.ref 42] M (fun r1 M2 => r1 = none ∧ (gv l sc m_X11_readsCell 24 [.ref 42, .int (5 * (M 42 6)), .int 0] [] M2 Q))) ∧ ((M 42 6) = 6 → Q (some (.int 0)) M)) : gr l sc m_X11_readsCell [.ref 42] M Q :=
  gr_of (by decide +kernel) (Nat.le_of_ble_eq_true rfl) (List.forall_mem_cons.mpr ⟨rfl, (fun _ h => absurd h List.not_mem_nil)⟩) (w_X11_readsCell_0 l sc M Q h)
set_option maxHeartbeats 400000 in
set_option maxRecDepth 20000 in
theorem w_X11_readsCell_24 (l : Launch) (sc : Nat × (Nat → Int32)) (M : gl_N) (Q : Option Value → gl_N → Prop) (x1 x2 : Int32)
  (h : (4 ≤ x2 → (vp_in x1 30) ∧ ((x2 ≤ 0 → (x2 ≤ 0 → Q (some (.int 0)) (gl_u2 (gl_u2 M 46 (Int32.toNatClampNeg x1) x2) 42 6 ((M 42 6) + 0))) ∧ (¬ x2 ≤ 0 → Q (some (.int 1)) (gl_u2 (gl_u2 M 46 (Int32.toNatClampNeg x1) x2) 42 6 ((M 42 6) + 0)))) ∧ (¬ x2 ≤ 0 → (x2 ≤ 0 → Q (some (.int 0)) (gl_u2 (gl_u2 M 46 (Int32.toNatClampNeg x1) x2) 42 6 ((M 42 6) + 1))) ∧ (¬ x2 ≤ 0 → Q (some (.int 1)) (gl_u2 (gl_u2 M 46 (Int32.toNatClampNeg x1) x2) 42 6 ((M 42 6) + 1)))))) ∧ (¬ 4 ≤ x2 → gr l sc m_X11_isNumber [.ref 42, .int 1, .int 4] M (fun r1 M2 => ∃ v3 : Int32, r1 = some (.int v3) ∧ ((v3 = 0 → (vp_in x1 30) ∧ ((x2 ≤ 0 → (x2 ≤ 0 → Q (some (.int 0)) (gl_u2 (gl_u2 M2 46 (Int32.toNatClampNeg x1) x2) 42 6 ((M2 42 6) + 0))) ∧ (¬ x2 ≤ 0 → Q (some (.int 1)) (gl_u2 (gl_u2 M2 46 (Int32.toNatClampNeg x1) x2) 42 6 ((M2 42 6) + 0)))) ∧ (¬ x2 ≤ 0 → (x2 ≤ 0 → Q (some (.int 0)) (gl_u2 (gl_u2 M2 46 (Int32.toNatClampNeg x1) x2) 42 6 ((M2 42 6) + 1))) ∧ (¬ x2 ≤ 0 → Q (some (.int 1)) (gl_u2 (gl_u2 M2 46 (Int32.toNatClampNeg x1) x2) 42 6 ((M2 42 6) + 1)))))) ∧ (¬ v3 = 0 → (vp_in (x1 + (x2 + 1)) 30) ∧ (gr l sc m_X11_takes [.ref 42] (gl_u2 M2 46 (Int32.toNatClampNeg (x1 + (x2 + 1))) ((M2 42 22) - 1000)) (fun r4 M5 => r4 = none ∧ (gv l sc m_X11_readsCell 24 [.ref 42, .int x1, .int (x2 + 1)] [] M5 Q)))))))) : gv l sc m_X11_readsCell 24 [.ref 42, .int x1, .int x2] [] M Q := by
  refine gv_seg ok_X11_readsCell 15 2 (Ps := []) (pc' := 26) (ls' := [.ref 42, .int x1, .int x2]) (st' := [.int 4, .int x2]) (M2 := M) rfl trivial ?_
  refine gv_icmp_ge (t := 64) (by decide) (gl_dec ok_X11_readsCell 17 26 (.if_icmp .ge 38) 3 rfl) (fun c => ?_) (fun c => ?_)
  · replace h := h.1 c
    obtain ⟨hp, h⟩ := h
    refine gv_seg ok_X11_readsCell 37 9 (Ps := [vp_in x1 30]) (pc' := 77) (ls' := [.ref 42, .int x1, .int x2]) (st' := [.int x2, .int (M 42 6), .ref 42]) (M2 := (gl_u2 M 46 (Int32.toNatClampNeg x1) x2)) rfl hp ?_
    refine gv_if_le (t := 84) (by decide) (gl_dec ok_X11_readsCell 46 77 (.ifCond .le 7) 3 rfl) (fun c => ?_) (fun c => ?_)
    · replace h := h.1 c
      refine gv_seg ok_X11_readsCell 49 4 (Ps := []) (pc' := 90) (ls' := [.ref 42, .int x1, .int x2]) (st' := [.int x2]) (M2 := (gl_u2 (gl_u2 M 46 (Int32.toNatClampNeg x1) x2) 42 6 ((M 42 6) + 0))) rfl trivial ?_
      refine gv_if_le (t := 97) (by decide) (gl_dec ok_X11_readsCell 53 90 (.ifCond .le 7) 3 rfl) (fun c => ?_) (fun c => ?_)
      · replace h := h.1 c
        refine gv_seg ok_X11_readsCell 56 1 (Ps := []) (pc' := 98) (ls' := [.ref 42, .int x1, .int x2]) (st' := [.int 0]) (M2 := (gl_u2 (gl_u2 M 46 (Int32.toNatClampNeg x1) x2) 42 6 ((M 42 6) + 0))) rfl trivial ?_
        exact gv_retZ (gl_dec ok_X11_readsCell 57 98 (.ireturn) 1 rfl) rfl (by decide) h
      · replace h := h.2 c
        refine gv_seg ok_X11_readsCell 54 1 (Ps := []) (pc' := 94) (ls' := [.ref 42, .int x1, .int x2]) (st' := [.int 1]) (M2 := (gl_u2 (gl_u2 M 46 (Int32.toNatClampNeg x1) x2) 42 6 ((M 42 6) + 0))) rfl trivial ?_
        refine gv_goto (t := 98) (by decide) (gl_dec ok_X11_readsCell 55 94 (.goto 4) 3 rfl) ?_
        exact gv_retZ (gl_dec ok_X11_readsCell 57 98 (.ireturn) 1 rfl) rfl (by decide) h
    · replace h := h.2 c
      refine gv_seg ok_X11_readsCell 47 1 (Ps := []) (pc' := 81) (ls' := [.ref 42, .int x1, .int x2]) (st' := [.int 1, .int (M 42 6), .ref 42]) (M2 := (gl_u2 M 46 (Int32.toNatClampNeg x1) x2)) rfl trivial ?_
      refine gv_goto (t := 85) (by decide) (gl_dec ok_X11_readsCell 48 81 (.goto 4) 3 rfl) ?_
      refine gv_seg ok_X11_readsCell 50 3 (Ps := []) (pc' := 90) (ls' := [.ref 42, .int x1, .int x2]) (st' := [.int x2]) (M2 := (gl_u2 (gl_u2 M 46 (Int32.toNatClampNeg x1) x2) 42 6 ((M 42 6) + 1))) rfl trivial ?_
      refine gv_if_le (t := 97) (by decide) (gl_dec ok_X11_readsCell 53 90 (.ifCond .le 7) 3 rfl) (fun c => ?_) (fun c => ?_)
      · replace h := h.1 c
        refine gv_seg ok_X11_readsCell 56 1 (Ps := []) (pc' := 98) (ls' := [.ref 42, .int x1, .int x2]) (st' := [.int 0]) (M2 := (gl_u2 (gl_u2 M 46 (Int32.toNatClampNeg x1) x2) 42 6 ((M 42 6) + 1))) rfl trivial ?_
        exact gv_retZ (gl_dec ok_X11_readsCell 57 98 (.ireturn) 1 rfl) rfl (by decide) h
      · replace h := h.2 c
        refine gv_seg ok_X11_readsCell 54 1 (Ps := []) (pc' := 94) (ls' := [.ref 42, .int x1, .int x2]) (st' := [.int 1]) (M2 := (gl_u2 (gl_u2 M 46 (Int32.toNatClampNeg x1) x2) 42 6 ((M 42 6) + 1))) rfl trivial ?_
        refine gv_goto (t := 98) (by decide) (gl_dec ok_X11_readsCell 55 94 (.goto 4) 3 rfl) ?_
        exact gv_retZ (gl_dec ok_X11_readsCell 57 98 (.ireturn) 1 rfl) rfl (by decide) h
  · replace h := h.2 c
    refine gv_seg ok_X11_readsCell 18 3 (Ps := []) (pc' := 32) (ls' := [.ref 42, .int x1, .int x2]) (st' := [.int 4, .int 1, .ref 42]) (M2 := M) rfl trivial ?_
    refine gv_vcall (M' := m_X11_isNumber) (o := 42) (ci := 11) (As := [.int 1, .int 4]) (st := []) (gl_dec ok_X11_readsCell 21 32 (.invokevirtual 95) 3 rfl) (gl_lnk ok_X11_readsCell 21 rfl rfl) mw_X11_isNumber iw_X11_isNumber lw_X11_isNumber ⟨by decide, by decide⟩ rfl rfl rfl ⟨rfl, Nat.le_of_ble_eq_true rfl⟩ h (fun r1 M2 hq => ?_)
    obtain ⟨v3, rfl, h⟩ := hq
    change gv l sc m_X11_readsCell 35 [.ref 42, .int x1, .int x2] [.int v3] M2 Q
    refine gv_if_eq (t := 64) (by decide) (gl_dec ok_X11_readsCell 22 35 (.ifCond .eq 29) 3 rfl) (fun c => ?_) (fun c => ?_)
    · replace h := h.1 c
      obtain ⟨hp, h⟩ := h
      refine gv_seg ok_X11_readsCell 37 9 (Ps := [vp_in x1 30]) (pc' := 77) (ls' := [.ref 42, .int x1, .int x2]) (st' := [.int x2, .int (M2 42 6), .ref 42]) (M2 := (gl_u2 M2 46 (Int32.toNatClampNeg x1) x2)) rfl hp ?_
      refine gv_if_le (t := 84) (by decide) (gl_dec ok_X11_readsCell 46 77 (.ifCond .le 7) 3 rfl) (fun c => ?_) (fun c => ?_)
      · replace h := h.1 c
        refine gv_seg ok_X11_readsCell 49 4 (Ps := []) (pc' := 90) (ls' := [.ref 42, .int x1, .int x2]) (st' := [.int x2]) (M2 := (gl_u2 (gl_u2 M2 46 (Int32.toNatClampNeg x1) x2) 42 6 ((M2 42 6) + 0))) rfl trivial ?_
        refine gv_if_le (t := 97) (by decide) (gl_dec ok_X11_readsCell 53 90 (.ifCond .le 7) 3 rfl) (fun c => ?_) (fun c => ?_)
        · replace h := h.1 c
          refine gv_seg ok_X11_readsCell 56 1 (Ps := []) (pc' := 98) (ls' := [.ref 42, .int x1, .int x2]) (st' := [.int 0]) (M2 := (gl_u2 (gl_u2 M2 46 (Int32.toNatClampNeg x1) x2) 42 6 ((M2 42 6) + 0))) rfl trivial ?_
          exact gv_retZ (gl_dec ok_X11_readsCell 57 98 (.ireturn) 1 rfl) rfl (by decide) h
        · replace h := h.2 c
          refine gv_seg ok_X11_readsCell 54 1 (Ps := []) (pc' := 94) (ls' := [.ref 42, .int x1, .int x2]) (st' := [.int 1]) (M2 := (gl_u2 (gl_u2 M2 46 (Int32.toNatClampNeg x1) x2) 42 6 ((M2 42 6) + 0))) rfl trivial ?_
          refine gv_goto (t := 98) (by decide) (gl_dec ok_X11_readsCell 55 94 (.goto 4) 3 rfl) ?_
          exact gv_retZ (gl_dec ok_X11_readsCell 57 98 (.ireturn) 1 rfl) rfl (by decide) h
      · replace h := h.2 c
        refine gv_seg ok_X11_readsCell 47 1 (Ps := []) (pc' := 81) (ls' := [.ref 42, .int x1, .int x2]) (st' := [.int 1, .int (M2 42 6), .ref 42]) (M2 := (gl_u2 M2 46 (Int32.toNatClampNeg x1) x2)) rfl trivial ?_
        refine gv_goto (t := 85) (by decide) (gl_dec ok_X11_readsCell 48 81 (.goto 4) 3 rfl) ?_
        refine gv_seg ok_X11_readsCell 50 3 (Ps := []) (pc' := 90) (ls' := [.ref 42, .int x1, .int x2]) (st' := [.int x2]) (M2 := (gl_u2 (gl_u2 M2 46 (Int32.toNatClampNeg x1) x2) 42 6 ((M2 42 6) + 1))) rfl trivial ?_
        refine gv_if_le (t := 97) (by decide) (gl_dec ok_X11_readsCell 53 90 (.ifCond .le 7) 3 rfl) (fun c => ?_) (fun c => ?_)
        · replace h := h.1 c
          refine gv_seg ok_X11_readsCell 56 1 (Ps := []) (pc' := 98) (ls' := [.ref 42, .int x1, .int x2]) (st' := [.int 0]) (M2 := (gl_u2 (gl_u2 M2 46 (Int32.toNatClampNeg x1) x2) 42 6 ((M2 42 6) + 1))) rfl trivial ?_
          exact gv_retZ (gl_dec ok_X11_readsCell 57 98 (.ireturn) 1 rfl) rfl (by decide) h
        · replace h := h.2 c
          refine gv_seg ok_X11_readsCell 54 1 (Ps := []) (pc' := 94) (ls' := [.ref 42, .int x1, .int x2]) (st' := [.int 1]) (M2 := (gl_u2 (gl_u2 M2 46 (Int32.toNatClampNeg x1) x2) 42 6 ((M2 42 6) + 1))) rfl trivial ?_
          refine gv_goto (t := 98) (by decide) (gl_dec ok_X11_readsCell 55 94 (.goto 4) 3 rfl) ?_
          exact gv_retZ (gl_dec ok_X11_readsCell 57 98 (.ireturn) 1 rfl) rfl (by decide) h
    · replace h := h.2 c
      obtain ⟨hp, h⟩ := h
      refine gv_seg ok_X11_readsCell 23 12 (Ps := [vp_in (x1 + (x2 + 1)) 30]) (pc' := 58) (ls' := [.ref 42, .int x1, .int (x2 + 1)]) (st' := [.ref 42]) (M2 := (gl_u2 M2 46 (Int32.toNatClampNeg (x1 + (x2 + 1))) ((M2 42 22) - 1000))) rfl hp ?_
      refine gv_vcall (M' := m_X11_takes) (o := 42) (ci := 11) (As := []) (st := []) (gl_dec ok_X11_readsCell 35 58 (.invokevirtual 92) 3 rfl) (gl_lnk ok_X11_readsCell 35 rfl rfl) mw_X11_takes iw_X11_takes lw_X11_takes ⟨by decide, by decide⟩ rfl rfl rfl ⟨rfl, Nat.le_of_ble_eq_true rfl⟩ h (fun r4 M5 hq => ?_)
      obtain ⟨rfl, h⟩ := hq
      change gv l sc m_X11_readsCell 61 [.ref 42, .int x1, .int (x2 + 1)] [] M5 Q
      refine gv_goto (t := 24) (by decide) (gl_dec ok_X11_readsCell 36 61 (.goto (-37)) 3 rfl) ?_
      exact h
set_option maxHeartbeats 400000 in
set_option maxRecDepth 20000 in
theorem w_X11_readsMode_0 (l : Launch) (sc : Nat × (Nat → Int32)) (M : gl_N) (Q : Option Value → gl_N → Prop)
  (h : (¬ (M 42 7) = 6 → gr l sc m_X11_takes [.ref 42] M (fun r1 M2 => r1 = none ∧ (gv l sc m_X11_readsMode 30 [.ref 42, .int (9 * (M 42 7)), .int 0, .int 0, .int 1] [] M2 Q))) ∧ ((M 42 7) = 6 → Q (some (.int 0)) M)) : gv l sc m_X11_readsMode 0 [.ref 42, .float 0, .float 0, .float 0, .float 0] [] M Q := by
  refine gv_seg ok_X11_readsMode 0 3 (Ps := []) (pc' := 6) (ls' := [.ref 42, .float 0, .float 0, .float 0, .float 0]) (st' := [.int 6, .int (M 42 7)]) (M2 := M) rfl trivial ?_
  refine gv_icmp_ne (t := 11) (by decide) (gl_dec ok_X11_readsMode 3 6 (.if_icmp .ne 5) 3 rfl) (fun c => ?_) (fun c => ?_)
  · replace h := h.1 c
    refine gv_seg ok_X11_readsMode 6 12 (Ps := []) (pc' := 27) (ls' := [.ref 42, .int (9 * (M 42 7)), .int 0, .int 0, .int 1]) (st' := [.ref 42]) (M2 := M) rfl trivial ?_
    refine gv_vcall (M' := m_X11_takes) (o := 42) (ci := 11) (As := []) (st := []) (gl_dec ok_X11_readsMode 18 27 (.invokevirtual 92) 3 rfl) (gl_lnk ok_X11_readsMode 18 rfl rfl) mw_X11_takes iw_X11_takes lw_X11_takes ⟨by decide, by decide⟩ rfl rfl rfl ⟨rfl, Nat.le_of_ble_eq_true rfl⟩ h (fun r1 M2 hq => ?_)
    obtain ⟨rfl, h⟩ := hq
    change gv l sc m_X11_readsMode 30 [.ref 42, .int (9 * (M 42 7)), .int 0, .int 0, .int 1] [] M2 Q
    exact h
  · replace h := h.2 c
    refine gv_seg ok_X11_readsMode 4 1 (Ps := []) (pc' := 10) (ls' := [.ref 42, .float 0, .float 0, .float 0, .float 0]) (st' := [.int 0]) (M2 := M) rfl trivial ?_
    exact gv_retZ (gl_dec ok_X11_readsMode 5 10 (.ireturn) 1 rfl) rfl (by decide) h
theorem e_X11_readsMode (l : Launch) (sc : Nat × (Nat → Int32)) (M : gl_N) (Q : Option Value → gl_N → Prop)
  (h : (¬ (M 42 7) = 6 → gr l sc m_X11_takes [.ref 42] M (fun r1 M2 => r1 = none ∧ (gv l sc m_X11_readsMode 30 [.ref 42, .int (9 * (M 42 7)), .int 0, .int 0, .int 1] [] M2 Q))) ∧ ((M 42 7) = 6 → Q (some (.int 0)) M)) : gr l sc m_X11_readsMode [.ref 42] M Q :=
  gr_of (by decide +kernel) (Nat.le_of_ble_eq_true rfl) (List.forall_mem_cons.mpr ⟨rfl, (fun _ h => absurd h List.not_mem_nil)⟩) (w_X11_readsMode_0 l sc M Q h)
set_option maxHeartbeats 400000 in
set_option maxRecDepth 20000 in
theorem w_X11_readsMode_30 (l : Launch) (sc : Nat × (Nat → Int32)) (M : gl_N) (Q : Option Value → gl_N → Prop) (x1 x2 x3 x4 : Int32)
  (h : (x4 = 0 → (vp_in x1 54) ∧ (Q (some (.int 1)) (gl_u2 (gl_u2 M 47 (Int32.toNatClampNeg x1) x2) 42 7 ((M 42 7) + 1)))) ∧ (¬ x4 = 0 → gr l sc m_X11_isNumber [.ref 42, .int 0, .int ((M 42 6) - 1)] M (fun r1 M2 => ∃ v3 : Int32, r1 = some (.int v3) ∧ ((¬ v3 = 0 → (vp_in ((x1 + 1) + (2 * x2)) 54 ∧ vp_in ((x1 + 2) + (2 * x2)) 54) ∧ (gr l sc m_X11_takes [.ref 42] (gl_u2 (gl_u2 M2 47 (Int32.toNatClampNeg ((x1 + 1) + (2 * x2))) x3) 47 (Int32.toNatClampNeg ((x1 + 2) + (2 * x2))) ((M2 42 22) - 1000)) (fun r4 M5 => r4 = none ∧ ((4 ≤ (x2 + 1) → gv l sc m_X11_readsMode 30 [.ref 42, .int x1, .int (x2 + 1), .int x3, .int 0] [] M5 Q) ∧ (¬ 4 ≤ (x2 + 1) → gr l sc m_X11_isNumber [.ref 42, .int 0, .int 3] M5 (fun r6 M7 => ∃ v8 : Int32, r6 = some (.int v8) ∧ ((v8 = 0 → gv l sc m_X11_readsMode 30 [.ref 42, .int x1, .int (x2 + 1), .int x3, .int 0] [] M7 Q) ∧ (¬ v8 = 0 → gr l sc m_X11_takes [.ref 42] M7 (fun r9 M10 => r9 = none ∧ (gv l sc m_X11_readsMode 30 [.ref 42, .int x1, .int (x2 + 1), .int ((M7 42 22) - 1000), .int 1] [] M10 Q)))))))))) ∧ (v3 = 0 → Q (some (.int 0)) M2))))) : gv l sc m_X11_readsMode 30 [.ref 42, .int x1, .int x2, .int x3, .int x4] [] M Q := by
  refine gv_seg ok_X11_readsMode 19 1 (Ps := []) (pc' := 32) (ls' := [.ref 42, .int x1, .int x2, .int x3, .int x4]) (st' := [.int x4]) (M2 := M) rfl trivial ?_
  refine gv_if_eq (t := 133) (by decide) (gl_dec ok_X11_readsMode 20 32 (.ifCond .eq 101) 3 rfl) (fun c => ?_) (fun c => ?_)
  · replace h := h.1 c
    obtain ⟨hp, h⟩ := h
    refine gv_seg ok_X11_readsMode 81 12 (Ps := [vp_in x1 54]) (pc' := 151) (ls' := [.ref 42, .int x1, .int x2, .int x3, .int x4]) (st' := [.int 1]) (M2 := (gl_u2 (gl_u2 M 47 (Int32.toNatClampNeg x1) x2) 42 7 ((M 42 7) + 1))) rfl hp ?_
    exact gv_retZ (gl_dec ok_X11_readsMode 93 151 (.ireturn) 1 rfl) rfl (by decide) h
  · replace h := h.2 c
    refine gv_seg ok_X11_readsMode 21 6 (Ps := []) (pc' := 43) (ls' := [.ref 42, .int x1, .int x2, .int x3, .int x4]) (st' := [.int ((M 42 6) - 1), .int 0, .ref 42]) (M2 := M) rfl trivial ?_
    refine gv_vcall (M' := m_X11_isNumber) (o := 42) (ci := 11) (As := [.int 0, .int ((M 42 6) - 1)]) (st := []) (gl_dec ok_X11_readsMode 27 43 (.invokevirtual 95) 3 rfl) (gl_lnk ok_X11_readsMode 27 rfl rfl) mw_X11_isNumber iw_X11_isNumber lw_X11_isNumber ⟨by decide, by decide⟩ rfl rfl rfl ⟨rfl, Nat.le_of_ble_eq_true rfl⟩ h (fun r1 M2 hq => ?_)
    obtain ⟨v3, rfl, h⟩ := hq
    change gv l sc m_X11_readsMode 46 [.ref 42, .int x1, .int x2, .int x3, .int x4] [.int v3] M2 Q
    refine gv_if_ne (t := 51) (by decide) (gl_dec ok_X11_readsMode 28 46 (.ifCond .ne 5) 3 rfl) (fun c => ?_) (fun c => ?_)
    · replace h := h.1 c
      obtain ⟨hp, h⟩ := h
      refine gv_seg ok_X11_readsMode 31 27 (Ps := [vp_in ((x1 + 1) + (2 * x2)) 54, vp_in ((x1 + 2) + (2 * x2)) 54]) (pc' := 88) (ls' := [.ref 42, .int x1, .int (x2 + 1), .int x3, .int x4]) (st' := [.ref 42]) (M2 := (gl_u2 (gl_u2 M2 47 (Int32.toNatClampNeg ((x1 + 1) + (2 * x2))) x3) 47 (Int32.toNatClampNeg ((x1 + 2) + (2 * x2))) ((M2 42 22) - 1000))) rfl ⟨hp.1, hp.2⟩ ?_
      refine gv_vcall (M' := m_X11_takes) (o := 42) (ci := 11) (As := []) (st := []) (gl_dec ok_X11_readsMode 58 88 (.invokevirtual 92) 3 rfl) (gl_lnk ok_X11_readsMode 58 rfl rfl) mw_X11_takes iw_X11_takes lw_X11_takes ⟨by decide, by decide⟩ rfl rfl rfl ⟨rfl, Nat.le_of_ble_eq_true rfl⟩ h (fun r4 M5 hq => ?_)
      obtain ⟨rfl, h⟩ := hq
      change gv l sc m_X11_readsMode 91 [.ref 42, .int x1, .int (x2 + 1), .int x3, .int x4] [] M5 Q
      refine gv_seg ok_X11_readsMode 59 2 (Ps := []) (pc' := 93) (ls' := [.ref 42, .int x1, .int (x2 + 1), .int x3, .int x4]) (st' := [.int 4, .int (x2 + 1)]) (M2 := M5) rfl trivial ?_
      refine gv_icmp_ge (t := 109) (by decide) (gl_dec ok_X11_readsMode 61 93 (.if_icmp .ge 16) 3 rfl) (fun c => ?_) (fun c => ?_)
      · replace h := h.1 c
        refine gv_seg ok_X11_readsMode 69 3 (Ps := []) (pc' := 114) (ls' := [.ref 42, .int x1, .int (x2 + 1), .int x3, .int 0]) (st' := [.int 0]) (M2 := M5) rfl trivial ?_
        refine gv_if_eq (t := 30) (by decide) (gl_dec ok_X11_readsMode 72 114 (.ifCond .eq (-84)) 3 rfl) (fun _ => ?_) (fun c => absurd c (by decide))
        exact h
      · replace h := h.2 c
        refine gv_seg ok_X11_readsMode 62 3 (Ps := []) (pc' := 99) (ls' := [.ref 42, .int x1, .int (x2 + 1), .int x3, .int x4]) (st' := [.int 3, .int 0, .ref 42]) (M2 := M5) rfl trivial ?_
        refine gv_vcall (M' := m_X11_isNumber) (o := 42) (ci := 11) (As := [.int 0, .int 3]) (st := []) (gl_dec ok_X11_readsMode 65 99 (.invokevirtual 95) 3 rfl) (gl_lnk ok_X11_readsMode 65 rfl rfl) mw_X11_isNumber iw_X11_isNumber lw_X11_isNumber ⟨by decide, by decide⟩ rfl rfl rfl ⟨rfl, Nat.le_of_ble_eq_true rfl⟩ h (fun r6 M7 hq => ?_)
        obtain ⟨v8, rfl, h⟩ := hq
        change gv l sc m_X11_readsMode 102 [.ref 42, .int x1, .int (x2 + 1), .int x3, .int x4] [.int v8] M7 Q
        refine gv_if_eq (t := 109) (by decide) (gl_dec ok_X11_readsMode 66 102 (.ifCond .eq 7) 3 rfl) (fun c => ?_) (fun c => ?_)
        · replace h := h.1 c
          refine gv_seg ok_X11_readsMode 69 3 (Ps := []) (pc' := 114) (ls' := [.ref 42, .int x1, .int (x2 + 1), .int x3, .int 0]) (st' := [.int 0]) (M2 := M7) rfl trivial ?_
          refine gv_if_eq (t := 30) (by decide) (gl_dec ok_X11_readsMode 72 114 (.ifCond .eq (-84)) 3 rfl) (fun _ => ?_) (fun c => absurd c (by decide))
          exact h
        · replace h := h.2 c
          refine gv_seg ok_X11_readsMode 67 1 (Ps := []) (pc' := 106) (ls' := [.ref 42, .int x1, .int (x2 + 1), .int x3, .int x4]) (st' := [.int 1]) (M2 := M7) rfl trivial ?_
          refine gv_goto (t := 110) (by decide) (gl_dec ok_X11_readsMode 68 106 (.goto 4) 3 rfl) ?_
          refine gv_seg ok_X11_readsMode 70 2 (Ps := []) (pc' := 114) (ls' := [.ref 42, .int x1, .int (x2 + 1), .int x3, .int 1]) (st' := [.int 1]) (M2 := M7) rfl trivial ?_
          refine gv_if_eq (t := 30) (by decide) (gl_dec ok_X11_readsMode 72 114 (.ifCond .eq (-84)) 3 rfl) (fun c => absurd c (by decide)) (fun _ => ?_)
          refine gv_seg ok_X11_readsMode 73 6 (Ps := []) (pc' := 127) (ls' := [.ref 42, .int x1, .int (x2 + 1), .int ((M7 42 22) - 1000), .int 1]) (st' := [.ref 42]) (M2 := M7) rfl trivial ?_
          refine gv_vcall (M' := m_X11_takes) (o := 42) (ci := 11) (As := []) (st := []) (gl_dec ok_X11_readsMode 79 127 (.invokevirtual 92) 3 rfl) (gl_lnk ok_X11_readsMode 79 rfl rfl) mw_X11_takes iw_X11_takes lw_X11_takes ⟨by decide, by decide⟩ rfl rfl rfl ⟨rfl, Nat.le_of_ble_eq_true rfl⟩ h (fun r9 M10 hq => ?_)
          obtain ⟨rfl, h⟩ := hq
          change gv l sc m_X11_readsMode 130 [.ref 42, .int x1, .int (x2 + 1), .int ((M7 42 22) - 1000), .int 1] [] M10 Q
          refine gv_goto (t := 30) (by decide) (gl_dec ok_X11_readsMode 80 130 (.goto (-100)) 3 rfl) ?_
          exact h
    · replace h := h.2 c
      refine gv_seg ok_X11_readsMode 29 1 (Ps := []) (pc' := 50) (ls' := [.ref 42, .int x1, .int x2, .int x3, .int x4]) (st' := [.int 0]) (M2 := M2) rfl trivial ?_
      exact gv_retZ (gl_dec ok_X11_readsMode 30 50 (.ireturn) 1 rfl) rfl (by decide) h
set_option maxHeartbeats 400000 in
set_option maxRecDepth 20000 in
theorem w_X11_becomes_0 (l : Launch) (sc : Nat × (Nat → Int32)) (M : gl_N) (Q : Option Value → gl_N → Prop)
  (h : gv l sc m_X11_becomes 18 [.ref 42, .int 0, .float 0, .float 0] [] (gl_u2 (gl_u2 M 42 1 (M 42 6)) 42 2 (M 42 7)) Q) : gv l sc m_X11_becomes 0 [.ref 42, .float 0, .float 0, .float 0] [] M Q := by
  refine gv_seg ok_X11_becomes 0 10 (Ps := []) (pc' := 18) (ls' := [.ref 42, .int 0, .float 0, .float 0]) (st' := []) (M2 := (gl_u2 (gl_u2 M 42 1 (M 42 6)) 42 2 (M 42 7))) rfl trivial ?_
  exact h
theorem e_X11_becomes (l : Launch) (sc : Nat × (Nat → Int32)) (M : gl_N) (Q : Option Value → gl_N → Prop)
  (h : gv l sc m_X11_becomes 18 [.ref 42, .int 0, .float 0, .float 0] [] (gl_u2 (gl_u2 M 42 1 (M 42 6)) 42 2 (M 42 7)) Q) : gr l sc m_X11_becomes [.ref 42] M Q :=
  gr_of (by decide +kernel) (Nat.le_of_ble_eq_true rfl) (List.forall_mem_cons.mpr ⟨rfl, (fun _ h => absurd h List.not_mem_nil)⟩) (w_X11_becomes_0 l sc M Q h)
set_option maxHeartbeats 400000 in
set_option maxRecDepth 20000 in
theorem w_X11_becomes_18 (l : Launch) (sc : Nat × (Nat → Int32)) (M : gl_N) (Q : Option Value → gl_N → Prop) (x1 : Int32)
  (h : (30 ≤ x1 → gv l sc m_X11_becomes 44 [.ref 42, .int 0, .float 0, .float 0] [] M Q) ∧ (¬ 30 ≤ x1 → (vp_in x1 30 ∧ vp_in x1 30) ∧ (gv l sc m_X11_becomes 18 [.ref 42, .int (x1 + 1), .float 0, .float 0] [] (gl_u2 M 43 (Int32.toNatClampNeg x1) (M 46 (Int32.toNatClampNeg x1))) Q))) : gv l sc m_X11_becomes 18 [.ref 42, .int x1, .float 0, .float 0] [] M Q := by
  refine gv_seg ok_X11_becomes 10 2 (Ps := []) (pc' := 21) (ls' := [.ref 42, .int x1, .float 0, .float 0]) (st' := [.int 30, .int x1]) (M2 := M) rfl trivial ?_
  refine gv_icmp_ge (t := 42) (by decide) (gl_dec ok_X11_becomes 12 21 (.if_icmp .ge 21) 3 rfl) (fun c => ?_) (fun c => ?_)
  · replace h := h.1 c
    refine gv_seg ok_X11_becomes 23 2 (Ps := []) (pc' := 44) (ls' := [.ref 42, .int 0, .float 0, .float 0]) (st' := []) (M2 := M) rfl trivial ?_
    exact h
  · replace h := h.2 c
    obtain ⟨hp, h⟩ := h
    refine gv_seg ok_X11_becomes 13 9 (Ps := [vp_in x1 30, vp_in x1 30]) (pc' := 39) (ls' := [.ref 42, .int (x1 + 1), .float 0, .float 0]) (st' := []) (M2 := (gl_u2 M 43 (Int32.toNatClampNeg x1) (M 46 (Int32.toNatClampNeg x1)))) rfl ⟨hp.1, hp.2⟩ ?_
    refine gv_goto (t := 18) (by decide) (gl_dec ok_X11_becomes 22 39 (.goto (-21)) 3 rfl) ?_
    exact h
set_option maxHeartbeats 400000 in
set_option maxRecDepth 20000 in
theorem w_X11_becomes_44 (l : Launch) (sc : Nat × (Nat → Int32)) (M : gl_N) (Q : Option Value → gl_N → Prop) (x1 : Int32)
  (h : (54 ≤ x1 → gv l sc m_X11_becomes 70 [.ref 42, .int 0, .float 0, .float 0] [] M Q) ∧ (¬ 54 ≤ x1 → (vp_in x1 54 ∧ vp_in x1 54) ∧ (gv l sc m_X11_becomes 44 [.ref 42, .int (x1 + 1), .float 0, .float 0] [] (gl_u2 M 44 (Int32.toNatClampNeg x1) (M 47 (Int32.toNatClampNeg x1))) Q))) : gv l sc m_X11_becomes 44 [.ref 42, .int x1, .float 0, .float 0] [] M Q := by
  refine gv_seg ok_X11_becomes 25 2 (Ps := []) (pc' := 47) (ls' := [.ref 42, .int x1, .float 0, .float 0]) (st' := [.int 54, .int x1]) (M2 := M) rfl trivial ?_
  refine gv_icmp_ge (t := 68) (by decide) (gl_dec ok_X11_becomes 27 47 (.if_icmp .ge 21) 3 rfl) (fun c => ?_) (fun c => ?_)
  · replace h := h.1 c
    refine gv_seg ok_X11_becomes 38 2 (Ps := []) (pc' := 70) (ls' := [.ref 42, .int 0, .float 0, .float 0]) (st' := []) (M2 := M) rfl trivial ?_
    exact h
  · replace h := h.2 c
    obtain ⟨hp, h⟩ := h
    refine gv_seg ok_X11_becomes 28 9 (Ps := [vp_in x1 54, vp_in x1 54]) (pc' := 65) (ls' := [.ref 42, .int (x1 + 1), .float 0, .float 0]) (st' := []) (M2 := (gl_u2 M 44 (Int32.toNatClampNeg x1) (M 47 (Int32.toNatClampNeg x1)))) rfl ⟨hp.1, hp.2⟩ ?_
    refine gv_goto (t := 44) (by decide) (gl_dec ok_X11_becomes 37 65 (.goto (-21)) 3 rfl) ?_
    exact h
set_option maxHeartbeats 400000 in
set_option maxRecDepth 20000 in
theorem w_X11_becomes_70 (l : Launch) (sc : Nat × (Nat → Int32)) (M : gl_N) (Q : Option Value → gl_N → Prop) (x1 : Int32)
  (h : ((M 42 2) ≤ x1 → Q none (gl_u2 (gl_u2 (gl_u2 (gl_u2 (gl_u2 M 48 0 0) 42 12 0) 42 15 0) 51 0 (vp_nar .boolean 0)) 51 1 (vp_nar .boolean 0))) ∧ (¬ (M 42 2) ≤ x1 → gv l sc m_X11_becomes 82 [.ref 42, .int x1, .int 0, .int 0] [] M Q)) : gv l sc m_X11_becomes 70 [.ref 42, .int x1, .float 0, .float 0] [] M Q := by
  refine gv_seg ok_X11_becomes 40 3 (Ps := []) (pc' := 75) (ls' := [.ref 42, .int x1, .float 0, .float 0]) (st' := [.int (M 42 2), .int x1]) (M2 := M) rfl trivial ?_
  refine gv_icmp_ge (t := 158) (by decide) (gl_dec ok_X11_becomes 43 75 (.if_icmp .ge 83) 3 rfl) (fun c => ?_) (fun c => ?_)
  · replace h := h.1 c
    refine gv_seg ok_X11_becomes 101 21 (Ps := [vp_in 0 17, vp_in 0 2, vp_in 1 2]) (pc' := 189) (ls' := [.ref 42, .int x1, .float 0, .float 0]) (st' := []) (M2 := (gl_u2 (gl_u2 (gl_u2 (gl_u2 (gl_u2 M 48 0 0) 42 12 0) 42 15 0) 51 0 (vp_nar .boolean 0)) 51 1 (vp_nar .boolean 0))) rfl ⟨(show vp_in 0 17 by unfold vp_in; decide), (show vp_in 0 2 by unfold vp_in; decide), (show vp_in 1 2 by unfold vp_in; decide)⟩ ?_
    exact gv_retV (gl_dec ok_X11_becomes 122 189 (.return_) 1 rfl) rfl h
  · replace h := h.2 c
    refine gv_seg ok_X11_becomes 44 4 (Ps := []) (pc' := 82) (ls' := [.ref 42, .int x1, .int 0, .int 0]) (st' := []) (M2 := M) rfl trivial ?_
    exact h
set_option maxHeartbeats 400000 in
set_option maxRecDepth 20000 in
theorem w_X11_becomes_82 (l : Launch) (sc : Nat × (Nat → Int32)) (M : gl_N) (Q : Option Value → gl_N → Prop) (x1 x2 x3 : Int32)
  (h : (vp_in (9 * x1) 54) ∧ (((M 44 (Int32.toNatClampNeg (9 * x1))) ≤ x3 → gv l sc m_X11_becomes 70 [.ref 42, .int (x1 + 1), .float 0, .float 0] [] M Q) ∧ (¬ (M 44 (Int32.toNatClampNeg (9 * x1))) ≤ x3 → (vp_in (((9 * x1) + 1) + (2 * x3)) 54 ∧ vp_in ((4 * x1) + x3) 24 ∧ vp_in (((9 * x1) + 2) + (2 * x3)) 54) ∧ (gr l sc m_X11_span [.ref 42, .int (M 44 (Int32.toNatClampNeg (((9 * x1) + 2) + (2 * x3))))] (gl_u2 M 45 (Int32.toNatClampNeg ((4 * x1) + x3)) (x2 + (M 44 (Int32.toNatClampNeg (((9 * x1) + 1) + (2 * x3)))))) (fun r1 M2 => ∃ v3 : Int32, r1 = some (.int v3) ∧ (gv l sc m_X11_becomes 82 [.ref 42, .int x1, .int ((x2 + (M 44 (Int32.toNatClampNeg (((9 * x1) + 1) + (2 * x3))))) + v3), .int (x3 + 1)] [] M2 Q)))))) : gv l sc m_X11_becomes 82 [.ref 42, .int x1, .int x2, .int x3] [] M Q := by
  obtain ⟨hp, h⟩ := h
  refine gv_seg ok_X11_becomes 48 7 (Ps := [vp_in (9 * x1) 54]) (pc' := 92) (ls' := [.ref 42, .int x1, .int x2, .int x3]) (st' := [.int (M 44 (Int32.toNatClampNeg (9 * x1))), .int x3]) (M2 := M) rfl hp ?_
  refine gv_icmp_ge (t := 152) (by decide) (gl_dec ok_X11_becomes 55 92 (.if_icmp .ge 60) 3 rfl) (fun c => ?_) (fun c => ?_)
  · replace h := h.1 c
    refine gv_seg ok_X11_becomes 99 1 (Ps := []) (pc' := 155) (ls' := [.ref 42, .int (x1 + 1), .int x2, .int x3]) (st' := []) (M2 := M) rfl trivial ?_
    refine gv_goto (t := 70) (by decide) (gl_dec ok_X11_becomes 100 155 (.goto (-85)) 3 rfl) ?_
    exact gv_weak (ls' := [.ref 42, .int (x1 + 1), .float 0, .float 0]) ⟨Or.inl rfl, ⟨Or.inl rfl, ⟨Or.inr rfl, ⟨Or.inr rfl, trivial⟩⟩⟩⟩ h
  · replace h := h.2 c
    obtain ⟨hp, h⟩ := h
    refine gv_seg ok_X11_becomes 56 38 (Ps := [vp_in (((9 * x1) + 1) + (2 * x3)) 54, vp_in ((4 * x1) + x3) 24, vp_in (((9 * x1) + 2) + (2 * x3)) 54]) (pc' := 141) (ls' := [.ref 42, .int x1, .int (x2 + (M 44 (Int32.toNatClampNeg (((9 * x1) + 1) + (2 * x3))))), .int x3]) (st' := [.int (M 44 (Int32.toNatClampNeg (((9 * x1) + 2) + (2 * x3)))), .ref 42, .int (x2 + (M 44 (Int32.toNatClampNeg (((9 * x1) + 1) + (2 * x3)))))]) (M2 := (gl_u2 M 45 (Int32.toNatClampNeg ((4 * x1) + x3)) (x2 + (M 44 (Int32.toNatClampNeg (((9 * x1) + 1) + (2 * x3))))))) rfl ⟨hp.1, hp.2.1, hp.2.2⟩ ?_
    refine gv_vcall (M' := m_X11_span) (o := 42) (ci := 11) (As := [.int (M 44 (Int32.toNatClampNeg (((9 * x1) + 2) + (2 * x3))))]) (st := [.int (x2 + (M 44 (Int32.toNatClampNeg (((9 * x1) + 1) + (2 * x3)))))]) (gl_dec ok_X11_becomes 94 141 (.invokevirtual 102) 3 rfl) (gl_lnk ok_X11_becomes 94 rfl rfl) mw_X11_span iw_X11_span lw_X11_span ⟨by decide, by decide⟩ rfl rfl rfl ⟨rfl, Nat.le_of_ble_eq_true rfl⟩ h (fun r1 M2 hq => ?_)
    obtain ⟨v3, rfl, h⟩ := hq
    change gv l sc m_X11_becomes 144 [.ref 42, .int x1, .int (x2 + (M 44 (Int32.toNatClampNeg (((9 * x1) + 1) + (2 * x3))))), .int x3] [.int v3, .int (x2 + (M 44 (Int32.toNatClampNeg (((9 * x1) + 1) + (2 * x3)))))] M2 Q
    refine gv_seg ok_X11_becomes 95 3 (Ps := []) (pc' := 149) (ls' := [.ref 42, .int x1, .int ((x2 + (M 44 (Int32.toNatClampNeg (((9 * x1) + 1) + (2 * x3))))) + v3), .int (x3 + 1)]) (st' := []) (M2 := M2) rfl trivial ?_
    refine gv_goto (t := 82) (by decide) (gl_dec ok_X11_becomes 98 149 (.goto (-67)) 3 rfl) ?_
    exact h
set_option maxHeartbeats 400000 in
set_option maxRecDepth 20000 in
theorem w_X11_modes_0 (l : Launch) (sc : Nat × (Nat → Int32)) (M : gl_N) (Q : Option Value → gl_N → Prop)
  (h : gr l sc m_X11_takes [.ref 42] (gl_u2 (gl_u2 (gl_u2 (gl_u2 M 42 0 0) 42 6 0) 42 7 0) 42 20 0) (fun r1 M2 => r1 = none ∧ (gv l sc m_X11_modes 26 [.ref 42, .int 0, .float 0] [] M2 Q))) : gv l sc m_X11_modes 0 [.ref 42, .float 0, .float 0] [] M Q := by
  refine gv_seg ok_X11_modes 0 15 (Ps := []) (pc' := 23) (ls' := [.ref 42, .int 0, .float 0]) (st' := [.ref 42]) (M2 := (gl_u2 (gl_u2 (gl_u2 (gl_u2 M 42 0 0) 42 6 0) 42 7 0) 42 20 0)) rfl trivial ?_
  refine gv_vcall (M' := m_X11_takes) (o := 42) (ci := 11) (As := []) (st := []) (gl_dec ok_X11_modes 15 23 (.invokevirtual 92) 3 rfl) (gl_lnk ok_X11_modes 15 rfl rfl) mw_X11_takes iw_X11_takes lw_X11_takes ⟨by decide, by decide⟩ rfl rfl rfl ⟨rfl, Nat.le_of_ble_eq_true rfl⟩ h (fun r1 M2 hq => ?_)
  obtain ⟨rfl, h⟩ := hq
  change gv l sc m_X11_modes 26 [.ref 42, .int 0, .float 0] [] M2 Q
  exact h
theorem e_X11_modes (l : Launch) (sc : Nat × (Nat → Int32)) (M : gl_N) (Q : Option Value → gl_N → Prop)
  (h : gr l sc m_X11_takes [.ref 42] (gl_u2 (gl_u2 (gl_u2 (gl_u2 M 42 0 0) 42 6 0) 42 7 0) 42 20 0) (fun r1 M2 => r1 = none ∧ (gv l sc m_X11_modes 26 [.ref 42, .int 0, .float 0] [] M2 Q))) : gr l sc m_X11_modes [.ref 42] M Q :=
  gr_of (by decide +kernel) (Nat.le_of_ble_eq_true rfl) (List.forall_mem_cons.mpr ⟨rfl, (fun _ h => absurd h List.not_mem_nil)⟩) (w_X11_modes_0 l sc M Q h)
set_option maxHeartbeats 400000 in
set_option maxRecDepth 20000 in
theorem w_X11_modes_26 (l : Launch) (sc : Nat × (Nat → Int32)) (M : gl_N) (Q : Option Value → gl_N → Prop) (x1 : Int32)
  (h : ((M 42 22) = (-1) → gr l sc m_X11_becomes [.ref 42] M (fun r1 M2 => r1 = none ∧ (Q (some (.int x1)) (gl_u2 M2 42 18 0)))) ∧ (¬ (M 42 22) = (-1) → (¬ (M 42 22) = 99 → (¬ (M 42 22) = 109 → Q (some (.int ((-10) - (M 42 21)))) M) ∧ ((M 42 22) = 109 → gr l sc m_X11_readsMode [.ref 42] M (fun r3 M4 => ∃ v5 : Int32, r3 = some (.int v5) ∧ ((v5 = 0 → Q (some (.int ((-10) - (M4 42 21)))) M4) ∧ (¬ v5 = 0 → ((M4 42 22) = 59 → gr l sc m_X11_takes [.ref 42] M4 (fun r6 M7 => r6 = none ∧ (gv l sc m_X11_modes 26 [.ref 42, .int (x1 + 1), .float 0] [] M7 Q))) ∧ (¬ (M4 42 22) = 59 → Q (some (.int ((-10) - (M4 42 21)))) M4)))))) ∧ ((M 42 22) = 99 → gr l sc m_X11_readsCell [.ref 42] M (fun r8 M9 => ∃ v10 : Int32, r8 = some (.int v10) ∧ ((v10 = 0 → Q (some (.int ((-10) - (M9 42 21)))) M9) ∧ (¬ v10 = 0 → ((M9 42 22) = 59 → gr l sc m_X11_takes [.ref 42] M9 (fun r11 M12 => r11 = none ∧ (gv l sc m_X11_modes 26 [.ref 42, .int (x1 + 1), .float 0] [] M12 Q))) ∧ (¬ (M9 42 22) = 59 → Q (some (.int ((-10) - (M9 42 21)))) M9))))))) : gv l sc m_X11_modes 26 [.ref 42, .int x1, .float 0] [] M Q := by
  refine gv_seg ok_X11_modes 16 3 (Ps := []) (pc' := 31) (ls' := [.ref 42, .int x1, .float 0]) (st' := [.int (-1), .int (M 42 22)]) (M2 := M) rfl trivial ?_
  refine gv_icmp_eq (t := 103) (by decide) (gl_dec ok_X11_modes 19 31 (.if_icmp .eq 72) 3 rfl) (fun c => ?_) (fun c => ?_)
  · replace h := h.1 c
    refine gv_seg ok_X11_modes 53 1 (Ps := []) (pc' := 104) (ls' := [.ref 42, .int x1, .float 0]) (st' := [.ref 42]) (M2 := M) rfl trivial ?_
    refine gv_vcall (M' := m_X11_becomes) (o := 42) (ci := 11) (As := []) (st := []) (gl_dec ok_X11_modes 54 104 (.invokevirtual 119) 3 rfl) (gl_lnk ok_X11_modes 54 rfl rfl) mw_X11_becomes iw_X11_becomes lw_X11_becomes ⟨by decide, by decide⟩ rfl rfl rfl ⟨rfl, Nat.le_of_ble_eq_true rfl⟩ h (fun r1 M2 hq => ?_)
    obtain ⟨rfl, h⟩ := hq
    change gv l sc m_X11_modes 107 [.ref 42, .int x1, .float 0] [] M2 Q
    refine gv_seg ok_X11_modes 55 4 (Ps := []) (pc' := 113) (ls' := [.ref 42, .int x1, .float 0]) (st' := [.int x1]) (M2 := (gl_u2 M2 42 18 0)) rfl trivial ?_
    exact gv_retI (gl_dec ok_X11_modes 59 113 (.ireturn) 1 rfl) rfl h
  · replace h := h.2 c
    refine gv_seg ok_X11_modes 20 3 (Ps := []) (pc' := 40) (ls' := [.ref 42, .int x1, .float 0]) (st' := [.int 99, .int (M 42 22)]) (M2 := M) rfl trivial ?_
    refine gv_icmp_ne (t := 50) (by decide) (gl_dec ok_X11_modes 23 40 (.if_icmp .ne 10) 3 rfl) (fun c => ?_) (fun c => ?_)
    · replace h := h.1 c
      refine gv_seg ok_X11_modes 27 3 (Ps := []) (pc' := 56) (ls' := [.ref 42, .int x1, .float 0]) (st' := [.int 109, .int (M 42 22)]) (M2 := M) rfl trivial ?_
      refine gv_icmp_ne (t := 70) (by decide) (gl_dec ok_X11_modes 30 56 (.if_icmp .ne 14) 3 rfl) (fun c => ?_) (fun c => ?_)
      · replace h := h.1 c
        refine gv_seg ok_X11_modes 36 3 (Ps := []) (pc' := 73) (ls' := [.ref 42, .int x1, .int 0]) (st' := [.int 0]) (M2 := M) rfl trivial ?_
        refine gv_if_eq (t := 85) (by decide) (gl_dec ok_X11_modes 39 73 (.ifCond .eq 12) 3 rfl) (fun _ => ?_) (fun c => absurd c (by decide))
        refine gv_seg ok_X11_modes 44 4 (Ps := []) (pc' := 92) (ls' := [.ref 42, .int x1, .int 0]) (st' := [.int ((-10) - (M 42 21))]) (M2 := M) rfl trivial ?_
        exact gv_retI (gl_dec ok_X11_modes 48 92 (.ireturn) 1 rfl) rfl h
      · replace h := h.2 c
        refine gv_seg ok_X11_modes 31 1 (Ps := []) (pc' := 60) (ls' := [.ref 42, .int x1, .float 0]) (st' := [.ref 42]) (M2 := M) rfl trivial ?_
        refine gv_vcall (M' := m_X11_readsMode) (o := 42) (ci := 11) (As := []) (st := []) (gl_dec ok_X11_modes 32 60 (.invokevirtual 116) 3 rfl) (gl_lnk ok_X11_modes 32 rfl rfl) mw_X11_readsMode iw_X11_readsMode lw_X11_readsMode ⟨by decide, by decide⟩ rfl rfl rfl ⟨rfl, Nat.le_of_ble_eq_true rfl⟩ h (fun r3 M4 hq => ?_)
        obtain ⟨v5, rfl, h⟩ := hq
        change gv l sc m_X11_modes 63 [.ref 42, .int x1, .float 0] [.int v5] M4 Q
        refine gv_if_eq (t := 70) (by decide) (gl_dec ok_X11_modes 33 63 (.ifCond .eq 7) 3 rfl) (fun c => ?_) (fun c => ?_)
        · replace h := h.1 c
          refine gv_seg ok_X11_modes 36 3 (Ps := []) (pc' := 73) (ls' := [.ref 42, .int x1, .int 0]) (st' := [.int 0]) (M2 := M4) rfl trivial ?_
          refine gv_if_eq (t := 85) (by decide) (gl_dec ok_X11_modes 39 73 (.ifCond .eq 12) 3 rfl) (fun _ => ?_) (fun c => absurd c (by decide))
          refine gv_seg ok_X11_modes 44 4 (Ps := []) (pc' := 92) (ls' := [.ref 42, .int x1, .int 0]) (st' := [.int ((-10) - (M4 42 21))]) (M2 := M4) rfl trivial ?_
          exact gv_retI (gl_dec ok_X11_modes 48 92 (.ireturn) 1 rfl) rfl h
        · replace h := h.2 c
          refine gv_seg ok_X11_modes 34 1 (Ps := []) (pc' := 67) (ls' := [.ref 42, .int x1, .float 0]) (st' := [.int 1]) (M2 := M4) rfl trivial ?_
          refine gv_goto (t := 71) (by decide) (gl_dec ok_X11_modes 35 67 (.goto 4) 3 rfl) ?_
          refine gv_seg ok_X11_modes 37 2 (Ps := []) (pc' := 73) (ls' := [.ref 42, .int x1, .int 1]) (st' := [.int 1]) (M2 := M4) rfl trivial ?_
          refine gv_if_eq (t := 85) (by decide) (gl_dec ok_X11_modes 39 73 (.ifCond .eq 12) 3 rfl) (fun c => absurd c (by decide)) (fun _ => ?_)
          refine gv_seg ok_X11_modes 40 3 (Ps := []) (pc' := 82) (ls' := [.ref 42, .int x1, .int 1]) (st' := [.int 59, .int (M4 42 22)]) (M2 := M4) rfl trivial ?_
          refine gv_icmp_eq (t := 93) (by decide) (gl_dec ok_X11_modes 43 82 (.if_icmp .eq 11) 3 rfl) (fun c => ?_) (fun c => ?_)
          · replace h := h.1 c
            refine gv_seg ok_X11_modes 49 2 (Ps := []) (pc' := 97) (ls' := [.ref 42, .int (x1 + 1), .int 1]) (st' := [.ref 42]) (M2 := M4) rfl trivial ?_
            refine gv_vcall (M' := m_X11_takes) (o := 42) (ci := 11) (As := []) (st := []) (gl_dec ok_X11_modes 51 97 (.invokevirtual 92) 3 rfl) (gl_lnk ok_X11_modes 51 rfl rfl) mw_X11_takes iw_X11_takes lw_X11_takes ⟨by decide, by decide⟩ rfl rfl rfl ⟨rfl, Nat.le_of_ble_eq_true rfl⟩ h (fun r6 M7 hq => ?_)
            obtain ⟨rfl, h⟩ := hq
            change gv l sc m_X11_modes 100 [.ref 42, .int (x1 + 1), .int 1] [] M7 Q
            refine gv_goto (t := 26) (by decide) (gl_dec ok_X11_modes 52 100 (.goto (-74)) 3 rfl) ?_
            exact gv_weak (ls' := [.ref 42, .int (x1 + 1), .float 0]) ⟨Or.inl rfl, ⟨Or.inl rfl, ⟨Or.inr rfl, trivial⟩⟩⟩ h
          · replace h := h.2 c
            refine gv_seg ok_X11_modes 44 4 (Ps := []) (pc' := 92) (ls' := [.ref 42, .int x1, .int 1]) (st' := [.int ((-10) - (M4 42 21))]) (M2 := M4) rfl trivial ?_
            exact gv_retI (gl_dec ok_X11_modes 48 92 (.ireturn) 1 rfl) rfl h
    · replace h := h.2 c
      refine gv_seg ok_X11_modes 24 1 (Ps := []) (pc' := 44) (ls' := [.ref 42, .int x1, .float 0]) (st' := [.ref 42]) (M2 := M) rfl trivial ?_
      refine gv_vcall (M' := m_X11_readsCell) (o := 42) (ci := 11) (As := []) (st := []) (gl_dec ok_X11_modes 25 44 (.invokevirtual 112) 3 rfl) (gl_lnk ok_X11_modes 25 rfl rfl) mw_X11_readsCell iw_X11_readsCell lw_X11_readsCell ⟨by decide, by decide⟩ rfl rfl rfl ⟨rfl, Nat.le_of_ble_eq_true rfl⟩ h (fun r8 M9 hq => ?_)
      obtain ⟨v10, rfl, h⟩ := hq
      change gv l sc m_X11_modes 47 [.ref 42, .int x1, .float 0] [.int v10] M9 Q
      refine gv_goto (t := 71) (by decide) (gl_dec ok_X11_modes 26 47 (.goto 24) 3 rfl) ?_
      refine gv_seg ok_X11_modes 37 2 (Ps := []) (pc' := 73) (ls' := [.ref 42, .int x1, .int v10]) (st' := [.int v10]) (M2 := M9) rfl trivial ?_
      refine gv_if_eq (t := 85) (by decide) (gl_dec ok_X11_modes 39 73 (.ifCond .eq 12) 3 rfl) (fun c => ?_) (fun c => ?_)
      · replace h := h.1 c
        refine gv_seg ok_X11_modes 44 4 (Ps := []) (pc' := 92) (ls' := [.ref 42, .int x1, .int v10]) (st' := [.int ((-10) - (M9 42 21))]) (M2 := M9) rfl trivial ?_
        exact gv_retI (gl_dec ok_X11_modes 48 92 (.ireturn) 1 rfl) rfl h
      · replace h := h.2 c
        refine gv_seg ok_X11_modes 40 3 (Ps := []) (pc' := 82) (ls' := [.ref 42, .int x1, .int v10]) (st' := [.int 59, .int (M9 42 22)]) (M2 := M9) rfl trivial ?_
        refine gv_icmp_eq (t := 93) (by decide) (gl_dec ok_X11_modes 43 82 (.if_icmp .eq 11) 3 rfl) (fun c => ?_) (fun c => ?_)
        · replace h := h.1 c
          refine gv_seg ok_X11_modes 49 2 (Ps := []) (pc' := 97) (ls' := [.ref 42, .int (x1 + 1), .int v10]) (st' := [.ref 42]) (M2 := M9) rfl trivial ?_
          refine gv_vcall (M' := m_X11_takes) (o := 42) (ci := 11) (As := []) (st := []) (gl_dec ok_X11_modes 51 97 (.invokevirtual 92) 3 rfl) (gl_lnk ok_X11_modes 51 rfl rfl) mw_X11_takes iw_X11_takes lw_X11_takes ⟨by decide, by decide⟩ rfl rfl rfl ⟨rfl, Nat.le_of_ble_eq_true rfl⟩ h (fun r11 M12 hq => ?_)
          obtain ⟨rfl, h⟩ := hq
          change gv l sc m_X11_modes 100 [.ref 42, .int (x1 + 1), .int v10] [] M12 Q
          refine gv_goto (t := 26) (by decide) (gl_dec ok_X11_modes 52 100 (.goto (-74)) 3 rfl) ?_
          exact gv_weak (ls' := [.ref 42, .int (x1 + 1), .float 0]) ⟨Or.inl rfl, ⟨Or.inl rfl, ⟨Or.inr rfl, trivial⟩⟩⟩ h
        · replace h := h.2 c
          refine gv_seg ok_X11_modes 44 4 (Ps := []) (pc' := 92) (ls' := [.ref 42, .int x1, .int v10]) (st' := [.int ((-10) - (M9 42 21))]) (M2 := M9) rfl trivial ?_
          exact gv_retI (gl_dec ok_X11_modes 48 92 (.ireturn) 1 rfl) rfl h
set_option maxHeartbeats 400000 in
set_option maxRecDepth 20000 in
theorem w_X11_span_0 (l : Launch) (sc : Nat × (Nat → Int32)) (M : gl_N) (Q : Option Value → gl_N → Prop) (x1 : Int32)
  (h : gv l sc m_X11_span 4 [.ref 42, .int x1, .int 0, .int 1] [] M Q) : gv l sc m_X11_span 0 [.ref 42, .int x1, .float 0, .float 0] [] M Q := by
  refine gv_seg ok_X11_span 0 4 (Ps := []) (pc' := 4) (ls' := [.ref 42, .int x1, .int 0, .int 1]) (st' := []) (M2 := M) rfl trivial ?_
  exact h
theorem e_X11_span (l : Launch) (sc : Nat × (Nat → Int32)) (M : gl_N) (Q : Option Value → gl_N → Prop) (x1 : Int32)
  (h : gv l sc m_X11_span 4 [.ref 42, .int x1, .int 0, .int 1] [] M Q) : gr l sc m_X11_span [.ref 42, .int x1] M Q :=
  gr_of (by decide +kernel) (Nat.le_of_ble_eq_true rfl) (List.forall_mem_cons.mpr ⟨rfl, (List.forall_mem_cons.mpr ⟨rfl, (fun _ h => absurd h List.not_mem_nil)⟩)⟩) (w_X11_span_0 l sc M Q x1 h)
set_option maxHeartbeats 400000 in
set_option maxRecDepth 20000 in
theorem w_X11_span_4 (l : Launch) (sc : Nat × (Nat → Int32)) (M : gl_N) (Q : Option Value → gl_N → Prop) (x1 x2 x3 : Int32)
  (h : (vp_in (5 * x1) 30) ∧ (((M 43 (Int32.toNatClampNeg (5 * x1))) < x3 → Q (some (.int x2)) M) ∧ (¬ (M 43 (Int32.toNatClampNeg (5 * x1))) < x3 → (vp_in ((5 * x1) + x3) 30) ∧ (gv l sc m_X11_span 4 [.ref 42, .int x1, .int (x2 + (M 43 (Int32.toNatClampNeg ((5 * x1) + x3)))), .int (x3 + 1)] [] M Q)))) : gv l sc m_X11_span 4 [.ref 42, .int x1, .int x2, .int x3] [] M Q := by
  obtain ⟨hp, h⟩ := h
  refine gv_seg ok_X11_span 4 7 (Ps := [vp_in (5 * x1) 30]) (pc' := 13) (ls' := [.ref 42, .int x1, .int x2, .int x3]) (st' := [.int (M 43 (Int32.toNatClampNeg (5 * x1))), .int x3]) (M2 := M) rfl hp ?_
  refine gv_icmp_gt (t := 35) (by decide) (gl_dec ok_X11_span 11 13 (.if_icmp .gt 22) 3 rfl) (fun c => ?_) (fun c => ?_)
  · replace h := h.1 c
    refine gv_seg ok_X11_span 25 1 (Ps := []) (pc' := 36) (ls' := [.ref 42, .int x1, .int x2, .int x3]) (st' := [.int x2]) (M2 := M) rfl trivial ?_
    exact gv_retI (gl_dec ok_X11_span 26 36 (.ireturn) 1 rfl) rfl h
  · replace h := h.2 c
    obtain ⟨hp, h⟩ := h
    refine gv_seg ok_X11_span 12 12 (Ps := [vp_in ((5 * x1) + x3) 30]) (pc' := 32) (ls' := [.ref 42, .int x1, .int (x2 + (M 43 (Int32.toNatClampNeg ((5 * x1) + x3)))), .int (x3 + 1)]) (st' := []) (M2 := M) rfl hp ?_
    refine gv_goto (t := 4) (by decide) (gl_dec ok_X11_span 24 32 (.goto (-28)) 3 rfl) ?_
    exact h
set_option maxHeartbeats 400000 in
set_option maxRecDepth 20000 in
theorem w_X11_isIn_0 (l : Launch) (sc : Nat × (Nat → Int32)) (M : gl_N) (Q : Option Value → gl_N → Prop) (x1 x2 x3 : Int32)
  (h : (¬ x2 = x3 → gv l sc m_X11_isIn 19 [.ref 42, .int x1, .int x2, .int x3, .int x2, .int 0, .int 1] [] M Q) ∧ (x2 = x3 → gv l sc m_X11_isIn 19 [.ref 42, .int x1, .int x2, .int x3, .int x2, .int 1, .int 1] [] M Q)) : gv l sc m_X11_isIn 0 [.ref 42, .int x1, .int x2, .int x3, .float 0, .float 0, .float 0] [] M Q := by
  refine gv_seg ok_X11_isIn 0 4 (Ps := []) (pc' := 6) (ls' := [.ref 42, .int x1, .int x2, .int x3, .int x2, .float 0, .float 0]) (st' := [.int x3, .int x2]) (M2 := M) rfl trivial ?_
  refine gv_icmp_ne (t := 13) (by decide) (gl_dec ok_X11_isIn 4 6 (.if_icmp .ne 7) 3 rfl) (fun c => ?_) (fun c => ?_)
  · replace h := h.1 c
    refine gv_seg ok_X11_isIn 7 4 (Ps := []) (pc' := 19) (ls' := [.ref 42, .int x1, .int x2, .int x3, .int x2, .int 0, .int 1]) (st' := []) (M2 := M) rfl trivial ?_
    exact h
  · replace h := h.2 c
    refine gv_seg ok_X11_isIn 5 1 (Ps := []) (pc' := 10) (ls' := [.ref 42, .int x1, .int x2, .int x3, .int x2, .float 0, .float 0]) (st' := [.int 1]) (M2 := M) rfl trivial ?_
    refine gv_goto (t := 14) (by decide) (gl_dec ok_X11_isIn 6 10 (.goto 4) 3 rfl) ?_
    refine gv_seg ok_X11_isIn 8 3 (Ps := []) (pc' := 19) (ls' := [.ref 42, .int x1, .int x2, .int x3, .int x2, .int 1, .int 1]) (st' := []) (M2 := M) rfl trivial ?_
    exact h
theorem e_X11_isIn (l : Launch) (sc : Nat × (Nat → Int32)) (M : gl_N) (Q : Option Value → gl_N → Prop) (x1 x2 x3 : Int32)
  (h : (¬ x2 = x3 → gv l sc m_X11_isIn 19 [.ref 42, .int x1, .int x2, .int x3, .int x2, .int 0, .int 1] [] M Q) ∧ (x2 = x3 → gv l sc m_X11_isIn 19 [.ref 42, .int x1, .int x2, .int x3, .int x2, .int 1, .int 1] [] M Q)) : gr l sc m_X11_isIn [.ref 42, .int x1, .int x2, .int x3] M Q :=
  gr_of (by decide +kernel) (Nat.le_of_ble_eq_true rfl) (List.forall_mem_cons.mpr ⟨rfl, (List.forall_mem_cons.mpr ⟨rfl, (List.forall_mem_cons.mpr ⟨rfl, (List.forall_mem_cons.mpr ⟨rfl, (fun _ h => absurd h List.not_mem_nil)⟩)⟩)⟩)⟩) (w_X11_isIn_0 l sc M Q x1 x2 x3 h)
set_option maxHeartbeats 400000 in
set_option maxRecDepth 20000 in
theorem w_X11_isIn_19 (l : Launch) (sc : Nat × (Nat → Int32)) (M : gl_N) (Q : Option Value → gl_N → Prop) (x1 x2 x3 x4 x5 x6 : Int32)
  (h : (vp_in (5 * x1) 30) ∧ (((M 43 (Int32.toNatClampNeg (5 * x1))) < x6 → (x5 = 0 ∨ x5 = 1) ∧ Q (some (.int x5)) M) ∧ (¬ (M 43 (Int32.toNatClampNeg (5 * x1))) < x6 → (vp_in ((5 * x1) + x6) 30) ∧ ((¬ x5 = 0 → gv l sc m_X11_isIn 19 [.ref 42, .int x1, .int x2, .int x3, .int (x4 + (M 43 (Int32.toNatClampNeg ((5 * x1) + x6)))), .int 1, .int (x6 + 1)] [] M Q) ∧ (x5 = 0 → (¬ (x4 + (M 43 (Int32.toNatClampNeg ((5 * x1) + x6)))) = x3 → gv l sc m_X11_isIn 19 [.ref 42, .int x1, .int x2, .int x3, .int (x4 + (M 43 (Int32.toNatClampNeg ((5 * x1) + x6)))), .int 0, .int (x6 + 1)] [] M Q) ∧ ((x4 + (M 43 (Int32.toNatClampNeg ((5 * x1) + x6)))) = x3 → gv l sc m_X11_isIn 19 [.ref 42, .int x1, .int x2, .int x3, .int (x4 + (M 43 (Int32.toNatClampNeg ((5 * x1) + x6)))), .int 1, .int (x6 + 1)] [] M Q)))))) : gv l sc m_X11_isIn 19 [.ref 42, .int x1, .int x2, .int x3, .int x4, .int x5, .int x6] [] M Q := by
  obtain ⟨hp, h⟩ := h
  refine gv_seg ok_X11_isIn 11 7 (Ps := [vp_in (5 * x1) 30]) (pc' := 29) (ls' := [.ref 42, .int x1, .int x2, .int x3, .int x4, .int x5, .int x6]) (st' := [.int (M 43 (Int32.toNatClampNeg (5 * x1))), .int x6]) (M2 := M) rfl hp ?_
  refine gv_icmp_gt (t := 72) (by decide) (gl_dec ok_X11_isIn 18 29 (.if_icmp .gt 43) 3 rfl) (fun c => ?_) (fun c => ?_)
  · replace h := h.1 c
    refine gv_seg ok_X11_isIn 41 1 (Ps := []) (pc' := 74) (ls' := [.ref 42, .int x1, .int x2, .int x3, .int x4, .int x5, .int x6]) (st' := [.int x5]) (M2 := M) rfl trivial ?_
    exact gv_retZ (gl_dec ok_X11_isIn 42 74 (.ireturn) 1 rfl) rfl h.1 h.2
  · replace h := h.2 c
    obtain ⟨hp, h⟩ := h
    refine gv_seg ok_X11_isIn 19 12 (Ps := [vp_in ((5 * x1) + x6) 30]) (pc' := 50) (ls' := [.ref 42, .int x1, .int x2, .int x3, .int (x4 + (M 43 (Int32.toNatClampNeg ((5 * x1) + x6)))), .int x5, .int x6]) (st' := [.int x5]) (M2 := M) rfl hp ?_
    refine gv_if_ne (t := 59) (by decide) (gl_dec ok_X11_isIn 31 50 (.ifCond .ne 9) 3 rfl) (fun c => ?_) (fun c => ?_)
    · replace h := h.1 c
      refine gv_seg ok_X11_isIn 35 1 (Ps := []) (pc' := 60) (ls' := [.ref 42, .int x1, .int x2, .int x3, .int (x4 + (M 43 (Int32.toNatClampNeg ((5 * x1) + x6)))), .int x5, .int x6]) (st' := [.int 1]) (M2 := M) rfl trivial ?_
      refine gv_goto (t := 64) (by decide) (gl_dec ok_X11_isIn 36 60 (.goto 4) 3 rfl) ?_
      refine gv_seg ok_X11_isIn 38 2 (Ps := []) (pc' := 69) (ls' := [.ref 42, .int x1, .int x2, .int x3, .int (x4 + (M 43 (Int32.toNatClampNeg ((5 * x1) + x6)))), .int 1, .int (x6 + 1)]) (st' := []) (M2 := M) rfl trivial ?_
      refine gv_goto (t := 19) (by decide) (gl_dec ok_X11_isIn 40 69 (.goto (-50)) 3 rfl) ?_
      exact h
    · replace h := h.2 c
      refine gv_seg ok_X11_isIn 32 2 (Ps := []) (pc' := 56) (ls' := [.ref 42, .int x1, .int x2, .int x3, .int (x4 + (M 43 (Int32.toNatClampNeg ((5 * x1) + x6)))), .int x5, .int x6]) (st' := [.int x3, .int (x4 + (M 43 (Int32.toNatClampNeg ((5 * x1) + x6))))]) (M2 := M) rfl trivial ?_
      refine gv_icmp_ne (t := 63) (by decide) (gl_dec ok_X11_isIn 34 56 (.if_icmp .ne 7) 3 rfl) (fun c => ?_) (fun c => ?_)
      · replace h := h.1 c
        refine gv_seg ok_X11_isIn 37 3 (Ps := []) (pc' := 69) (ls' := [.ref 42, .int x1, .int x2, .int x3, .int (x4 + (M 43 (Int32.toNatClampNeg ((5 * x1) + x6)))), .int 0, .int (x6 + 1)]) (st' := []) (M2 := M) rfl trivial ?_
        refine gv_goto (t := 19) (by decide) (gl_dec ok_X11_isIn 40 69 (.goto (-50)) 3 rfl) ?_
        exact h
      · replace h := h.2 c
        refine gv_seg ok_X11_isIn 35 1 (Ps := []) (pc' := 60) (ls' := [.ref 42, .int x1, .int x2, .int x3, .int (x4 + (M 43 (Int32.toNatClampNeg ((5 * x1) + x6)))), .int x5, .int x6]) (st' := [.int 1]) (M2 := M) rfl trivial ?_
        refine gv_goto (t := 64) (by decide) (gl_dec ok_X11_isIn 36 60 (.goto 4) 3 rfl) ?_
        refine gv_seg ok_X11_isIn 38 2 (Ps := []) (pc' := 69) (ls' := [.ref 42, .int x1, .int x2, .int x3, .int (x4 + (M 43 (Int32.toNatClampNeg ((5 * x1) + x6)))), .int 1, .int (x6 + 1)]) (st' := []) (M2 := M) rfl trivial ?_
        refine gv_goto (t := 19) (by decide) (gl_dec ok_X11_isIn 40 69 (.goto (-50)) 3 rfl) ?_
        exact h
set_option maxHeartbeats 400000 in
set_option maxRecDepth 20000 in
theorem w_X11_parts_0 (l : Launch) (sc : Nat × (Nat → Int32)) (M : gl_N) (Q : Option Value → gl_N → Prop) (x1 : Int32)
  (h : (vp_in (9 * (x1 / 24)) 54) ∧ (Q (some (.int (M 44 (Int32.toNatClampNeg (9 * (x1 / 24)))))) M)) : gv l sc m_X11_parts 0 [.ref 42, .int x1] [] M Q := by
  obtain ⟨hp, h⟩ := h
  refine gv_seg ok_X11_parts 0 8 (Ps := [¬ (24 : Int32) = 0, vp_in (9 * (x1 / 24)) 54]) (pc' := 12) (ls' := [.ref 42, .int x1]) (st' := [.int (M 44 (Int32.toNatClampNeg (9 * (x1 / 24))))]) (M2 := M) rfl ⟨(show ¬ (24 : Int32) = 0 by decide), hp⟩ ?_
  exact gv_retI (gl_dec ok_X11_parts 8 12 (.ireturn) 1 rfl) rfl h
theorem e_X11_parts (l : Launch) (sc : Nat × (Nat → Int32)) (M : gl_N) (Q : Option Value → gl_N → Prop) (x1 : Int32)
  (h : (vp_in (9 * (x1 / 24)) 54) ∧ (Q (some (.int (M 44 (Int32.toNatClampNeg (9 * (x1 / 24)))))) M)) : gr l sc m_X11_parts [.ref 42, .int x1] M Q :=
  gr_of (by decide +kernel) (Nat.le_of_ble_eq_true rfl) (List.forall_mem_cons.mpr ⟨rfl, (List.forall_mem_cons.mpr ⟨rfl, (fun _ h => absurd h List.not_mem_nil)⟩)⟩) (w_X11_parts_0 l sc M Q x1 h)
set_option maxHeartbeats 400000 in
set_option maxRecDepth 20000 in
theorem w_X11_cellOf_0 (l : Launch) (sc : Nat × (Nat → Int32)) (M : gl_N) (Q : Option Value → gl_N → Prop) (x1 x2 : Int32)
  (h : (vp_in (((9 * (x1 / 24)) + 2) + (2 * x2)) 54) ∧ (Q (some (.int (M 44 (Int32.toNatClampNeg (((9 * (x1 / 24)) + 2) + (2 * x2)))))) M)) : gv l sc m_X11_cellOf 0 [.ref 42, .int x1, .int x2] [] M Q := by
  obtain ⟨hp, h⟩ := h
  refine gv_seg ok_X11_cellOf 0 14 (Ps := [¬ (24 : Int32) = 0, vp_in (((9 * (x1 / 24)) + 2) + (2 * x2)) 54]) (pc' := 18) (ls' := [.ref 42, .int x1, .int x2]) (st' := [.int (M 44 (Int32.toNatClampNeg (((9 * (x1 / 24)) + 2) + (2 * x2))))]) (M2 := M) rfl ⟨(show ¬ (24 : Int32) = 0 by decide), hp⟩ ?_
  exact gv_retI (gl_dec ok_X11_cellOf 14 18 (.ireturn) 1 rfl) rfl h
theorem e_X11_cellOf (l : Launch) (sc : Nat × (Nat → Int32)) (M : gl_N) (Q : Option Value → gl_N → Prop) (x1 x2 : Int32)
  (h : (vp_in (((9 * (x1 / 24)) + 2) + (2 * x2)) 54) ∧ (Q (some (.int (M 44 (Int32.toNatClampNeg (((9 * (x1 / 24)) + 2) + (2 * x2)))))) M)) : gr l sc m_X11_cellOf [.ref 42, .int x1, .int x2] M Q :=
  gr_of (by decide +kernel) (Nat.le_of_ble_eq_true rfl) (List.forall_mem_cons.mpr ⟨rfl, (List.forall_mem_cons.mpr ⟨rfl, (List.forall_mem_cons.mpr ⟨rfl, (fun _ h => absurd h List.not_mem_nil)⟩)⟩)⟩) (w_X11_cellOf_0 l sc M Q x1 x2 h)
set_option maxHeartbeats 400000 in
set_option maxRecDepth 20000 in
theorem w_X11_pitchOf_0 (l : Launch) (sc : Nat × (Nat → Int32)) (M : gl_N) (Q : Option Value → gl_N → Prop) (x1 x2 : Int32)
  (h : (vp_in ((4 * (x1 / 24)) + x2) 24) ∧ (Q (some (.int ((x1 - x1 / 24 * 24) + (M 45 (Int32.toNatClampNeg ((4 * (x1 / 24)) + x2)))))) M)) : gv l sc m_X11_pitchOf 0 [.ref 42, .int x1, .int x2] [] M Q := by
  obtain ⟨hp, h⟩ := h
  refine gv_seg ok_X11_pitchOf 0 14 (Ps := [¬ (24 : Int32) = 0, ¬ (24 : Int32) = 0, vp_in ((4 * (x1 / 24)) + x2) 24]) (pc' := 18) (ls' := [.ref 42, .int x1, .int x2]) (st' := [.int ((x1 - x1 / 24 * 24) + (M 45 (Int32.toNatClampNeg ((4 * (x1 / 24)) + x2))))]) (M2 := M) rfl ⟨(show ¬ (24 : Int32) = 0 by decide), (show ¬ (24 : Int32) = 0 by decide), hp⟩ ?_
  exact gv_retI (gl_dec ok_X11_pitchOf 14 18 (.ireturn) 1 rfl) rfl h
theorem e_X11_pitchOf (l : Launch) (sc : Nat × (Nat → Int32)) (M : gl_N) (Q : Option Value → gl_N → Prop) (x1 x2 : Int32)
  (h : (vp_in ((4 * (x1 / 24)) + x2) 24) ∧ (Q (some (.int ((x1 - x1 / 24 * 24) + (M 45 (Int32.toNatClampNeg ((4 * (x1 / 24)) + x2)))))) M)) : gr l sc m_X11_pitchOf [.ref 42, .int x1, .int x2] M Q :=
  gr_of (by decide +kernel) (Nat.le_of_ble_eq_true rfl) (List.forall_mem_cons.mpr ⟨rfl, (List.forall_mem_cons.mpr ⟨rfl, (List.forall_mem_cons.mpr ⟨rfl, (fun _ h => absurd h List.not_mem_nil)⟩)⟩)⟩) (w_X11_pitchOf_0 l sc M Q x1 x2 h)
set_option maxHeartbeats 400000 in
set_option maxRecDepth 20000 in
theorem w_X11_isInPart_0 (l : Launch) (sc : Nat × (Nat → Int32)) (M : gl_N) (Q : Option Value → gl_N → Prop) (x1 x2 x3 : Int32)
  (h : gr l sc m_X11_cellOf [.ref 42, .int x1, .int x2] M (fun r1 M2 => ∃ v3 : Int32, r1 = some (.int v3) ∧ (gr l sc m_X11_pitchOf [.ref 42, .int x1, .int x2] M2 (fun r4 M5 => ∃ v6 : Int32, r4 = some (.int v6) ∧ (gr l sc m_X11_isIn [.ref 42, .int v3, .int v6, .int x3] M5 (fun r7 M8 => ∃ v9 : Int32, r7 = some (.int v9) ∧ ((v9 = 0 ∨ v9 = 1) ∧ Q (some (.int v9)) M8))))))) : gv l sc m_X11_isInPart 0 [.ref 42, .int x1, .int x2, .int x3] [] M Q := by
  refine gv_seg ok_X11_isInPart 0 4 (Ps := []) (pc' := 4) (ls' := [.ref 42, .int x1, .int x2, .int x3]) (st' := [.int x2, .int x1, .ref 42, .ref 42]) (M2 := M) rfl trivial ?_
  refine gv_vcall (M' := m_X11_cellOf) (o := 42) (ci := 11) (As := [.int x1, .int x2]) (st := [.ref 42]) (gl_dec ok_X11_isInPart 4 4 (.invokevirtual 122) 3 rfl) (gl_lnk ok_X11_isInPart 4 rfl rfl) mw_X11_cellOf iw_X11_cellOf lw_X11_cellOf ⟨by decide, by decide⟩ rfl rfl rfl ⟨rfl, Nat.le_of_ble_eq_true rfl⟩ h (fun r1 M2 hq => ?_)
  obtain ⟨v3, rfl, h⟩ := hq
  change gv l sc m_X11_isInPart 7 [.ref 42, .int x1, .int x2, .int x3] [.int v3, .ref 42] M2 Q
  refine gv_seg ok_X11_isInPart 5 3 (Ps := []) (pc' := 10) (ls' := [.ref 42, .int x1, .int x2, .int x3]) (st' := [.int x2, .int x1, .ref 42, .int v3, .ref 42]) (M2 := M2) rfl trivial ?_
  refine gv_vcall (M' := m_X11_pitchOf) (o := 42) (ci := 11) (As := [.int x1, .int x2]) (st := [.int v3, .ref 42]) (gl_dec ok_X11_isInPart 8 10 (.invokevirtual 126) 3 rfl) (gl_lnk ok_X11_isInPart 8 rfl rfl) mw_X11_pitchOf iw_X11_pitchOf lw_X11_pitchOf ⟨by decide, by decide⟩ rfl rfl rfl ⟨rfl, Nat.le_of_ble_eq_true rfl⟩ h (fun r4 M5 hq => ?_)
  obtain ⟨v6, rfl, h⟩ := hq
  change gv l sc m_X11_isInPart 13 [.ref 42, .int x1, .int x2, .int x3] [.int v6, .int v3, .ref 42] M5 Q
  refine gv_seg ok_X11_isInPart 9 1 (Ps := []) (pc' := 14) (ls' := [.ref 42, .int x1, .int x2, .int x3]) (st' := [.int x3, .int v6, .int v3, .ref 42]) (M2 := M5) rfl trivial ?_
  refine gv_vcall (M' := m_X11_isIn) (o := 42) (ci := 11) (As := [.int v3, .int v6, .int x3]) (st := []) (gl_dec ok_X11_isInPart 10 14 (.invokevirtual 129) 3 rfl) (gl_lnk ok_X11_isInPart 10 rfl rfl) mw_X11_isIn iw_X11_isIn lw_X11_isIn ⟨by decide, by decide⟩ rfl rfl rfl ⟨rfl, Nat.le_of_ble_eq_true rfl⟩ h (fun r7 M8 hq => ?_)
  obtain ⟨v9, rfl, h⟩ := hq
  change gv l sc m_X11_isInPart 17 [.ref 42, .int x1, .int x2, .int x3] [.int v9] M8 Q
  exact gv_retZ (gl_dec ok_X11_isInPart 11 17 (.ireturn) 1 rfl) rfl h.1 h.2
theorem e_X11_isInPart (l : Launch) (sc : Nat × (Nat → Int32)) (M : gl_N) (Q : Option Value → gl_N → Prop) (x1 x2 x3 : Int32)
  (h : gr l sc m_X11_cellOf [.ref 42, .int x1, .int x2] M (fun r1 M2 => ∃ v3 : Int32, r1 = some (.int v3) ∧ (gr l sc m_X11_pitchOf [.ref 42, .int x1, .int x2] M2 (fun r4 M5 => ∃ v6 : Int32, r4 = some (.int v6) ∧ (gr l sc m_X11_isIn [.ref 42, .int v3, .int v6, .int x3] M5 (fun r7 M8 => ∃ v9 : Int32, r7 = some (.int v9) ∧ ((v9 = 0 ∨ v9 = 1) ∧ Q (some (.int v9)) M8))))))) : gr l sc m_X11_isInPart [.ref 42, .int x1, .int x2, .int x3] M Q :=
  gr_of (by decide +kernel) (Nat.le_of_ble_eq_true rfl) (List.forall_mem_cons.mpr ⟨rfl, (List.forall_mem_cons.mpr ⟨rfl, (List.forall_mem_cons.mpr ⟨rfl, (List.forall_mem_cons.mpr ⟨rfl, (fun _ h => absurd h List.not_mem_nil)⟩)⟩)⟩)⟩) (w_X11_isInPart_0 l sc M Q x1 x2 x3 h)
set_option maxHeartbeats 400000 in
set_option maxRecDepth 20000 in
theorem w_X11_sameIn_0 (l : Launch) (sc : Nat × (Nat → Int32)) (M : gl_N) (Q : Option Value → gl_N → Prop) (x1 x2 x3 : Int32)
  (h : gv l sc m_X11_sameIn 3 [.ref 42, .int x1, .int x2, .int x3, .int 0] [] M Q) : gv l sc m_X11_sameIn 0 [.ref 42, .int x1, .int x2, .int x3, .float 0] [] M Q := by
  refine gv_seg ok_X11_sameIn 0 2 (Ps := []) (pc' := 3) (ls' := [.ref 42, .int x1, .int x2, .int x3, .int 0]) (st' := []) (M2 := M) rfl trivial ?_
  exact h
theorem e_X11_sameIn (l : Launch) (sc : Nat × (Nat → Int32)) (M : gl_N) (Q : Option Value → gl_N → Prop) (x1 x2 x3 : Int32)
  (h : gv l sc m_X11_sameIn 3 [.ref 42, .int x1, .int x2, .int x3, .int 0] [] M Q) : gr l sc m_X11_sameIn [.ref 42, .int x1, .int x2, .int x3] M Q :=
  gr_of (by decide +kernel) (Nat.le_of_ble_eq_true rfl) (List.forall_mem_cons.mpr ⟨rfl, (List.forall_mem_cons.mpr ⟨rfl, (List.forall_mem_cons.mpr ⟨rfl, (List.forall_mem_cons.mpr ⟨rfl, (fun _ h => absurd h List.not_mem_nil)⟩)⟩)⟩)⟩) (w_X11_sameIn_0 l sc M Q x1 x2 x3 h)
set_option maxHeartbeats 400000 in
set_option maxRecDepth 20000 in
theorem w_X11_sameIn_3 (l : Launch) (sc : Nat × (Nat → Int32)) (M : gl_N) (Q : Option Value → gl_N → Prop) (x1 x2 x3 x4 : Int32)
  (h : gr l sc m_X11_parts [.ref 42, .int x3] M (fun r1 M2 => ∃ v3 : Int32, r1 = some (.int v3) ∧ ((v3 ≤ x4 → Q (some (.int (-9))) M2) ∧ (¬ v3 ≤ x4 → gr l sc m_X11_cellOf [.ref 42, .int x3, .int x4] M2 (fun r4 M5 => ∃ v6 : Int32, r4 = some (.int v6) ∧ (gr l sc m_X11_cellOf [.ref 42, .int x1, .int x2] M5 (fun r7 M8 => ∃ v9 : Int32, r7 = some (.int v9) ∧ ((¬ v6 = v9 → gv l sc m_X11_sameIn 3 [.ref 42, .int x1, .int x2, .int x3, .int (x4 + 1)] [] M8 Q) ∧ (v6 = v9 → gr l sc m_X11_pitchOf [.ref 42, .int x3, .int x4] M8 (fun r10 M11 => ∃ v12 : Int32, r10 = some (.int v12) ∧ (gr l sc m_X11_pitchOf [.ref 42, .int x1, .int x2] M11 (fun r13 M14 => ∃ v15 : Int32, r13 = some (.int v15) ∧ ((¬ v12 = v15 → gv l sc m_X11_sameIn 3 [.ref 42, .int x1, .int x2, .int x3, .int (x4 + 1)] [] M14 Q) ∧ (v12 = v15 → Q (some (.int x4)) M14)))))))))))))) : gv l sc m_X11_sameIn 3 [.ref 42, .int x1, .int x2, .int x3, .int x4] [] M Q := by
  refine gv_seg ok_X11_sameIn 2 3 (Ps := []) (pc' := 7) (ls' := [.ref 42, .int x1, .int x2, .int x3, .int x4]) (st' := [.int x3, .ref 42, .int x4]) (M2 := M) rfl trivial ?_
  refine gv_vcall (M' := m_X11_parts) (o := 42) (ci := 11) (As := [.int x3]) (st := [.int x4]) (gl_dec ok_X11_sameIn 5 7 (.invokevirtual 132) 3 rfl) (gl_lnk ok_X11_sameIn 5 rfl rfl) mw_X11_parts iw_X11_parts lw_X11_parts ⟨by decide, by decide⟩ rfl rfl rfl ⟨rfl, Nat.le_of_ble_eq_true rfl⟩ h (fun r1 M2 hq => ?_)
  obtain ⟨v3, rfl, h⟩ := hq
  change gv l sc m_X11_sameIn 10 [.ref 42, .int x1, .int x2, .int x3, .int x4] [.int v3, .int x4] M2 Q
  refine gv_icmp_ge (t := 54) (by decide) (gl_dec ok_X11_sameIn 6 10 (.if_icmp .ge 44) 3 rfl) (fun c => ?_) (fun c => ?_)
  · replace h := h.1 c
    refine gv_seg ok_X11_sameIn 29 1 (Ps := []) (pc' := 56) (ls' := [.ref 42, .int x1, .int x2, .int x3, .int x4]) (st' := [.int (-9)]) (M2 := M2) rfl trivial ?_
    exact gv_retI (gl_dec ok_X11_sameIn 30 56 (.ireturn) 1 rfl) rfl h
  · replace h := h.2 c
    refine gv_seg ok_X11_sameIn 7 3 (Ps := []) (pc' := 17) (ls' := [.ref 42, .int x1, .int x2, .int x3, .int x4]) (st' := [.int x4, .int x3, .ref 42]) (M2 := M2) rfl trivial ?_
    refine gv_vcall (M' := m_X11_cellOf) (o := 42) (ci := 11) (As := [.int x3, .int x4]) (st := []) (gl_dec ok_X11_sameIn 10 17 (.invokevirtual 122) 3 rfl) (gl_lnk ok_X11_sameIn 10 rfl rfl) mw_X11_cellOf iw_X11_cellOf lw_X11_cellOf ⟨by decide, by decide⟩ rfl rfl rfl ⟨rfl, Nat.le_of_ble_eq_true rfl⟩ h (fun r4 M5 hq => ?_)
    obtain ⟨v6, rfl, h⟩ := hq
    change gv l sc m_X11_sameIn 20 [.ref 42, .int x1, .int x2, .int x3, .int x4] [.int v6] M5 Q
    refine gv_seg ok_X11_sameIn 11 3 (Ps := []) (pc' := 23) (ls' := [.ref 42, .int x1, .int x2, .int x3, .int x4]) (st' := [.int x2, .int x1, .ref 42, .int v6]) (M2 := M5) rfl trivial ?_
    refine gv_vcall (M' := m_X11_cellOf) (o := 42) (ci := 11) (As := [.int x1, .int x2]) (st := [.int v6]) (gl_dec ok_X11_sameIn 14 23 (.invokevirtual 122) 3 rfl) (gl_lnk ok_X11_sameIn 14 rfl rfl) mw_X11_cellOf iw_X11_cellOf lw_X11_cellOf ⟨by decide, by decide⟩ rfl rfl rfl ⟨rfl, Nat.le_of_ble_eq_true rfl⟩ h (fun r7 M8 hq => ?_)
    obtain ⟨v9, rfl, h⟩ := hq
    change gv l sc m_X11_sameIn 26 [.ref 42, .int x1, .int x2, .int x3, .int x4] [.int v9, .int v6] M8 Q
    refine gv_icmp_ne (t := 48) (by decide) (gl_dec ok_X11_sameIn 15 26 (.if_icmp .ne 22) 3 rfl) (fun c => ?_) (fun c => ?_)
    · replace h := h.1 c
      refine gv_seg ok_X11_sameIn 27 1 (Ps := []) (pc' := 51) (ls' := [.ref 42, .int x1, .int x2, .int x3, .int (x4 + 1)]) (st' := []) (M2 := M8) rfl trivial ?_
      refine gv_goto (t := 3) (by decide) (gl_dec ok_X11_sameIn 28 51 (.goto (-48)) 3 rfl) ?_
      exact h
    · replace h := h.2 c
      refine gv_seg ok_X11_sameIn 16 3 (Ps := []) (pc' := 33) (ls' := [.ref 42, .int x1, .int x2, .int x3, .int x4]) (st' := [.int x4, .int x3, .ref 42]) (M2 := M8) rfl trivial ?_
      refine gv_vcall (M' := m_X11_pitchOf) (o := 42) (ci := 11) (As := [.int x3, .int x4]) (st := []) (gl_dec ok_X11_sameIn 19 33 (.invokevirtual 126) 3 rfl) (gl_lnk ok_X11_sameIn 19 rfl rfl) mw_X11_pitchOf iw_X11_pitchOf lw_X11_pitchOf ⟨by decide, by decide⟩ rfl rfl rfl ⟨rfl, Nat.le_of_ble_eq_true rfl⟩ h (fun r10 M11 hq => ?_)
      obtain ⟨v12, rfl, h⟩ := hq
      change gv l sc m_X11_sameIn 36 [.ref 42, .int x1, .int x2, .int x3, .int x4] [.int v12] M11 Q
      refine gv_seg ok_X11_sameIn 20 3 (Ps := []) (pc' := 39) (ls' := [.ref 42, .int x1, .int x2, .int x3, .int x4]) (st' := [.int x2, .int x1, .ref 42, .int v12]) (M2 := M11) rfl trivial ?_
      refine gv_vcall (M' := m_X11_pitchOf) (o := 42) (ci := 11) (As := [.int x1, .int x2]) (st := [.int v12]) (gl_dec ok_X11_sameIn 23 39 (.invokevirtual 126) 3 rfl) (gl_lnk ok_X11_sameIn 23 rfl rfl) mw_X11_pitchOf iw_X11_pitchOf lw_X11_pitchOf ⟨by decide, by decide⟩ rfl rfl rfl ⟨rfl, Nat.le_of_ble_eq_true rfl⟩ h (fun r13 M14 hq => ?_)
      obtain ⟨v15, rfl, h⟩ := hq
      change gv l sc m_X11_sameIn 42 [.ref 42, .int x1, .int x2, .int x3, .int x4] [.int v15, .int v12] M14 Q
      refine gv_icmp_ne (t := 48) (by decide) (gl_dec ok_X11_sameIn 24 42 (.if_icmp .ne 6) 3 rfl) (fun c => ?_) (fun c => ?_)
      · replace h := h.1 c
        refine gv_seg ok_X11_sameIn 27 1 (Ps := []) (pc' := 51) (ls' := [.ref 42, .int x1, .int x2, .int x3, .int (x4 + 1)]) (st' := []) (M2 := M14) rfl trivial ?_
        refine gv_goto (t := 3) (by decide) (gl_dec ok_X11_sameIn 28 51 (.goto (-48)) 3 rfl) ?_
        exact h
      · replace h := h.2 c
        refine gv_seg ok_X11_sameIn 25 1 (Ps := []) (pc' := 47) (ls' := [.ref 42, .int x1, .int x2, .int x3, .int x4]) (st' := [.int x4]) (M2 := M14) rfl trivial ?_
        exact gv_retI (gl_dec ok_X11_sameIn 26 47 (.ireturn) 1 rfl) rfl h
set_option maxHeartbeats 400000 in
set_option maxRecDepth 20000 in
theorem w_X11_share_0 (l : Launch) (sc : Nat × (Nat → Int32)) (M : gl_N) (Q : Option Value → gl_N → Prop) (x1 x2 : Int32)
  (h : gv l sc m_X11_share 5 [.ref 42, .int x1, .int x2, .int 0, .int 0] [] M Q) : gv l sc m_X11_share 0 [.ref 42, .int x1, .int x2, .float 0, .float 0] [] M Q := by
  refine gv_seg ok_X11_share 0 4 (Ps := []) (pc' := 5) (ls' := [.ref 42, .int x1, .int x2, .int 0, .int 0]) (st' := []) (M2 := M) rfl trivial ?_
  exact h
theorem e_X11_share (l : Launch) (sc : Nat × (Nat → Int32)) (M : gl_N) (Q : Option Value → gl_N → Prop) (x1 x2 : Int32)
  (h : gv l sc m_X11_share 5 [.ref 42, .int x1, .int x2, .int 0, .int 0] [] M Q) : gr l sc m_X11_share [.ref 42, .int x1, .int x2] M Q :=
  gr_of (by decide +kernel) (Nat.le_of_ble_eq_true rfl) (List.forall_mem_cons.mpr ⟨rfl, (List.forall_mem_cons.mpr ⟨rfl, (List.forall_mem_cons.mpr ⟨rfl, (fun _ h => absurd h List.not_mem_nil)⟩)⟩)⟩) (w_X11_share_0 l sc M Q x1 x2 h)
set_option maxHeartbeats 400000 in
set_option maxRecDepth 20000 in
theorem w_X11_share_5 (l : Launch) (sc : Nat × (Nat → Int32)) (M : gl_N) (Q : Option Value → gl_N → Prop) (x1 x2 x3 x4 : Int32)
  (h : gr l sc m_X11_parts [.ref 42, .int x1] M (fun r1 M2 => ∃ v3 : Int32, r1 = some (.int v3) ∧ ((v3 ≤ x4 → (x3 = 0 ∨ x3 = 1) ∧ Q (some (.int x3)) M2) ∧ (¬ v3 ≤ x4 → (¬ x3 = 0 → gv l sc m_X11_share 5 [.ref 42, .int x1, .int x2, .int 1, .int (x4 + 1)] [] M2 Q) ∧ (x3 = 0 → gr l sc m_X11_sameIn [.ref 42, .int x1, .int x4, .int x2] M2 (fun r4 M5 => ∃ v6 : Int32, r4 = some (.int v6) ∧ ((v6 = (-9) → gv l sc m_X11_share 5 [.ref 42, .int x1, .int x2, .int 0, .int (x4 + 1)] [] M5 Q) ∧ (¬ v6 = (-9) → gv l sc m_X11_share 5 [.ref 42, .int x1, .int x2, .int 1, .int (x4 + 1)] [] M5 Q)))))))) : gv l sc m_X11_share 5 [.ref 42, .int x1, .int x2, .int x3, .int x4] [] M Q := by
  refine gv_seg ok_X11_share 4 3 (Ps := []) (pc' := 9) (ls' := [.ref 42, .int x1, .int x2, .int x3, .int x4]) (st' := [.int x1, .ref 42, .int x4]) (M2 := M) rfl trivial ?_
  refine gv_vcall (M' := m_X11_parts) (o := 42) (ci := 11) (As := [.int x1]) (st := [.int x4]) (gl_dec ok_X11_share 7 9 (.invokevirtual 132) 3 rfl) (gl_lnk ok_X11_share 7 rfl rfl) mw_X11_parts iw_X11_parts lw_X11_parts ⟨by decide, by decide⟩ rfl rfl rfl ⟨rfl, Nat.le_of_ble_eq_true rfl⟩ h (fun r1 M2 hq => ?_)
  obtain ⟨v3, rfl, h⟩ := hq
  change gv l sc m_X11_share 12 [.ref 42, .int x1, .int x2, .int x3, .int x4] [.int v3, .int x4] M2 Q
  refine gv_icmp_ge (t := 44) (by decide) (gl_dec ok_X11_share 8 12 (.if_icmp .ge 32) 3 rfl) (fun c => ?_) (fun c => ?_)
  · replace h := h.1 c
    refine gv_seg ok_X11_share 24 1 (Ps := []) (pc' := 45) (ls' := [.ref 42, .int x1, .int x2, .int x3, .int x4]) (st' := [.int x3]) (M2 := M2) rfl trivial ?_
    exact gv_retZ (gl_dec ok_X11_share 25 45 (.ireturn) 1 rfl) rfl h.1 h.2
  · replace h := h.2 c
    refine gv_seg ok_X11_share 9 1 (Ps := []) (pc' := 16) (ls' := [.ref 42, .int x1, .int x2, .int x3, .int x4]) (st' := [.int x3]) (M2 := M2) rfl trivial ?_
    refine gv_if_ne (t := 32) (by decide) (gl_dec ok_X11_share 10 16 (.ifCond .ne 16) 3 rfl) (fun c => ?_) (fun c => ?_)
    · replace h := h.1 c
      refine gv_seg ok_X11_share 18 1 (Ps := []) (pc' := 33) (ls' := [.ref 42, .int x1, .int x2, .int x3, .int x4]) (st' := [.int 1]) (M2 := M2) rfl trivial ?_
      refine gv_goto (t := 37) (by decide) (gl_dec ok_X11_share 19 33 (.goto 4) 3 rfl) ?_
      refine gv_seg ok_X11_share 21 2 (Ps := []) (pc' := 41) (ls' := [.ref 42, .int x1, .int x2, .int 1, .int (x4 + 1)]) (st' := []) (M2 := M2) rfl trivial ?_
      refine gv_goto (t := 5) (by decide) (gl_dec ok_X11_share 23 41 (.goto (-36)) 3 rfl) ?_
      exact h
    · replace h := h.2 c
      refine gv_seg ok_X11_share 11 4 (Ps := []) (pc' := 24) (ls' := [.ref 42, .int x1, .int x2, .int x3, .int x4]) (st' := [.int x2, .int x4, .int x1, .ref 42]) (M2 := M2) rfl trivial ?_
      refine gv_vcall (M' := m_X11_sameIn) (o := 42) (ci := 11) (As := [.int x1, .int x4, .int x2]) (st := []) (gl_dec ok_X11_share 15 24 (.invokevirtual 135) 3 rfl) (gl_lnk ok_X11_share 15 rfl rfl) mw_X11_sameIn iw_X11_sameIn lw_X11_sameIn ⟨by decide, by decide⟩ rfl rfl rfl ⟨rfl, Nat.le_of_ble_eq_true rfl⟩ h (fun r4 M5 hq => ?_)
      obtain ⟨v6, rfl, h⟩ := hq
      change gv l sc m_X11_share 27 [.ref 42, .int x1, .int x2, .int x3, .int x4] [.int v6] M5 Q
      refine gv_seg ok_X11_share 16 1 (Ps := []) (pc' := 29) (ls' := [.ref 42, .int x1, .int x2, .int x3, .int x4]) (st' := [.int (-9), .int v6]) (M2 := M5) rfl trivial ?_
      refine gv_icmp_eq (t := 36) (by decide) (gl_dec ok_X11_share 17 29 (.if_icmp .eq 7) 3 rfl) (fun c => ?_) (fun c => ?_)
      · replace h := h.1 c
        refine gv_seg ok_X11_share 20 3 (Ps := []) (pc' := 41) (ls' := [.ref 42, .int x1, .int x2, .int 0, .int (x4 + 1)]) (st' := []) (M2 := M5) rfl trivial ?_
        refine gv_goto (t := 5) (by decide) (gl_dec ok_X11_share 23 41 (.goto (-36)) 3 rfl) ?_
        exact h
      · replace h := h.2 c
        refine gv_seg ok_X11_share 18 1 (Ps := []) (pc' := 33) (ls' := [.ref 42, .int x1, .int x2, .int x3, .int x4]) (st' := [.int 1]) (M2 := M5) rfl trivial ?_
        refine gv_goto (t := 37) (by decide) (gl_dec ok_X11_share 19 33 (.goto 4) 3 rfl) ?_
        refine gv_seg ok_X11_share 21 2 (Ps := []) (pc' := 41) (ls' := [.ref 42, .int x1, .int x2, .int 1, .int (x4 + 1)]) (st' := []) (M2 := M5) rfl trivial ?_
        refine gv_goto (t := 5) (by decide) (gl_dec ok_X11_share 23 41 (.goto (-36)) 3 rfl) ?_
        exact h
set_option maxHeartbeats 400000 in
set_option maxRecDepth 20000 in
theorem w_X11_cell_0 (l : Launch) (sc : Nat × (Nat → Int32)) (M : gl_N) (Q : Option Value → gl_N → Prop) (x1 x2 : Int32)
  (h : gr l sc m_X11_in [.int x1, .int 0, .int ((M 42 1) - 1)] (gl_u2 M 42 0 0) (fun r1 M2 => ∃ v3 : Int32, r1 = some (.int v3) ∧ ((v3 = 0 → Q (some (.int (-1))) M2) ∧ (¬ v3 = 0 → ((-1) ≤ x2 → (vp_in (5 * x1) 30) ∧ ((0 ≤ x2 → ((M2 43 (Int32.toNatClampNeg (5 * x1))) ≤ x2 → Q (some (.int (-9))) M2) ∧ (¬ (M2 43 (Int32.toNatClampNeg (5 * x1))) ≤ x2 → (vp_in (((5 * x1) + 1) + x2) 30) ∧ (Q (some (.int (M2 43 (Int32.toNatClampNeg (((5 * x1) + 1) + x2))))) M2))) ∧ (¬ 0 ≤ x2 → Q (some (.int (M2 43 (Int32.toNatClampNeg (5 * x1))))) M2))) ∧ (¬ (-1) ≤ x2 → Q (some (.int (-1))) M2))))) : gv l sc m_X11_cell 0 [.ref 42, .int x1, .int x2, .float 0] [] M Q := by
  refine gv_seg ok_X11_cell 0 9 (Ps := []) (pc' := 13) (ls' := [.ref 42, .int x1, .int x2, .float 0]) (st' := [.int ((M 42 1) - 1), .int 0, .int x1]) (M2 := (gl_u2 M 42 0 0)) rfl trivial ?_
  refine gv_scall (M' := m_X11_in) (As := [.int x1, .int 0, .int ((M 42 1) - 1)]) (st := []) (gl_dec ok_X11_cell 9 13 (.invokestatic 69) 3 rfl) (gl_lnkS ok_X11_cell 9 rfl rfl) mw_X11_in sw_X11_in ⟨by decide, by decide⟩ ⟨rfl, Nat.le_of_ble_eq_true rfl⟩ h (fun r1 M2 hq => ?_)
  obtain ⟨v3, rfl, h⟩ := hq
  change gv l sc m_X11_cell 16 [.ref 42, .int x1, .int x2, .float 0] [.int v3] M2 Q
  refine gv_if_eq (t := 24) (by decide) (gl_dec ok_X11_cell 10 16 (.ifCond .eq 8) 3 rfl) (fun c => ?_) (fun c => ?_)
  · replace h := h.1 c
    refine gv_seg ok_X11_cell 14 1 (Ps := []) (pc' := 25) (ls' := [.ref 42, .int x1, .int x2, .float 0]) (st' := [.int (-1)]) (M2 := M2) rfl trivial ?_
    exact gv_retI (gl_dec ok_X11_cell 15 25 (.ireturn) 1 rfl) rfl h
  · replace h := h.2 c
    refine gv_seg ok_X11_cell 11 2 (Ps := []) (pc' := 21) (ls' := [.ref 42, .int x1, .int x2, .float 0]) (st' := [.int (-1), .int x2]) (M2 := M2) rfl trivial ?_
    refine gv_icmp_ge (t := 26) (by decide) (gl_dec ok_X11_cell 13 21 (.if_icmp .ge 5) 3 rfl) (fun c => ?_) (fun c => ?_)
    · replace h := h.1 c
      obtain ⟨hp, h⟩ := h
      refine gv_seg ok_X11_cell 16 8 (Ps := [vp_in (5 * x1) 30]) (pc' := 36) (ls' := [.ref 42, .int x1, .int x2, .int (M2 43 (Int32.toNatClampNeg (5 * x1)))]) (st' := [.int x2]) (M2 := M2) rfl hp ?_
      refine gv_if_ge (t := 43) (by decide) (gl_dec ok_X11_cell 24 36 (.ifCond .ge 7) 3 rfl) (fun c => ?_) (fun c => ?_)
      · replace h := h.1 c
        refine gv_seg ok_X11_cell 27 2 (Ps := []) (pc' := 45) (ls' := [.ref 42, .int x1, .int x2, .int (M2 43 (Int32.toNatClampNeg (5 * x1)))]) (st' := [.int (M2 43 (Int32.toNatClampNeg (5 * x1))), .int x2]) (M2 := M2) rfl trivial ?_
        refine gv_icmp_ge (t := 63) (by decide) (gl_dec ok_X11_cell 29 45 (.if_icmp .ge 18) 3 rfl) (fun c => ?_) (fun c => ?_)
        · replace h := h.1 c
          refine gv_seg ok_X11_cell 41 1 (Ps := []) (pc' := 65) (ls' := [.ref 42, .int x1, .int x2, .int (M2 43 (Int32.toNatClampNeg (5 * x1)))]) (st' := [.int (-9)]) (M2 := M2) rfl trivial ?_
          exact gv_retI (gl_dec ok_X11_cell 42 65 (.ireturn) 1 rfl) rfl h
        · replace h := h.2 c
          obtain ⟨hp, h⟩ := h
          refine gv_seg ok_X11_cell 30 10 (Ps := [vp_in (((5 * x1) + 1) + x2) 30]) (pc' := 60) (ls' := [.ref 42, .int x1, .int x2, .int (M2 43 (Int32.toNatClampNeg (5 * x1)))]) (st' := [.int (M2 43 (Int32.toNatClampNeg (((5 * x1) + 1) + x2)))]) (M2 := M2) rfl hp ?_
          refine gv_goto (t := 65) (by decide) (gl_dec ok_X11_cell 40 60 (.goto 5) 3 rfl) ?_
          exact gv_retI (gl_dec ok_X11_cell 42 65 (.ireturn) 1 rfl) rfl h
      · replace h := h.2 c
        refine gv_seg ok_X11_cell 25 1 (Ps := []) (pc' := 40) (ls' := [.ref 42, .int x1, .int x2, .int (M2 43 (Int32.toNatClampNeg (5 * x1)))]) (st' := [.int (M2 43 (Int32.toNatClampNeg (5 * x1)))]) (M2 := M2) rfl trivial ?_
        refine gv_goto (t := 65) (by decide) (gl_dec ok_X11_cell 26 40 (.goto 25) 3 rfl) ?_
        exact gv_retI (gl_dec ok_X11_cell 42 65 (.ireturn) 1 rfl) rfl h
    · replace h := h.2 c
      refine gv_seg ok_X11_cell 14 1 (Ps := []) (pc' := 25) (ls' := [.ref 42, .int x1, .int x2, .float 0]) (st' := [.int (-1)]) (M2 := M2) rfl trivial ?_
      exact gv_retI (gl_dec ok_X11_cell 15 25 (.ireturn) 1 rfl) rfl h
theorem e_X11_cell (l : Launch) (sc : Nat × (Nat → Int32)) (M : gl_N) (Q : Option Value → gl_N → Prop) (x1 x2 : Int32)
  (h : gr l sc m_X11_in [.int x1, .int 0, .int ((M 42 1) - 1)] (gl_u2 M 42 0 0) (fun r1 M2 => ∃ v3 : Int32, r1 = some (.int v3) ∧ ((v3 = 0 → Q (some (.int (-1))) M2) ∧ (¬ v3 = 0 → ((-1) ≤ x2 → (vp_in (5 * x1) 30) ∧ ((0 ≤ x2 → ((M2 43 (Int32.toNatClampNeg (5 * x1))) ≤ x2 → Q (some (.int (-9))) M2) ∧ (¬ (M2 43 (Int32.toNatClampNeg (5 * x1))) ≤ x2 → (vp_in (((5 * x1) + 1) + x2) 30) ∧ (Q (some (.int (M2 43 (Int32.toNatClampNeg (((5 * x1) + 1) + x2))))) M2))) ∧ (¬ 0 ≤ x2 → Q (some (.int (M2 43 (Int32.toNatClampNeg (5 * x1))))) M2))) ∧ (¬ (-1) ≤ x2 → Q (some (.int (-1))) M2))))) : gr l sc m_X11_cell [.ref 42, .int x1, .int x2] M Q :=
  gr_of (by decide +kernel) (Nat.le_of_ble_eq_true rfl) (List.forall_mem_cons.mpr ⟨rfl, (List.forall_mem_cons.mpr ⟨rfl, (List.forall_mem_cons.mpr ⟨rfl, (fun _ h => absurd h List.not_mem_nil)⟩)⟩)⟩) (w_X11_cell_0 l sc M Q x1 x2 h)
set_option maxHeartbeats 400000 in
set_option maxRecDepth 20000 in
theorem w_X11_part_0 (l : Launch) (sc : Nat × (Nat → Int32)) (M : gl_N) (Q : Option Value → gl_N → Prop) (x1 x2 x3 : Int32)
  (h : gr l sc m_X11_isScale [.ref 42, .int x1] (gl_u2 M 42 0 0) (fun r1 M2 => ∃ v3 : Int32, r1 = some (.int v3) ∧ ((v3 = 0 → Q (some (.int (-1))) M2) ∧ (¬ v3 = 0 → (x2 < (-1) → Q (some (.int (-1))) M2) ∧ (¬ x2 < (-1) → gr l sc m_X11_in [.int x3, .int 0, .int 1] M2 (fun r4 M5 => ∃ v6 : Int32, r4 = some (.int v6) ∧ ((¬ v6 = 0 → (0 ≤ x2 → gr l sc m_X11_parts [.ref 42, .int x1] M5 (fun r7 M8 => ∃ v9 : Int32, r7 = some (.int v9) ∧ ((x2 < v9 → (¬ x3 = 0 → gr l sc m_X11_pitchOf [.ref 42, .int x1, .int x2] M8 (fun r10 M11 => ∃ v12 : Int32, r10 = some (.int v12) ∧ (Q (some (.int v12)) M11))) ∧ (x3 = 0 → gr l sc m_X11_cellOf [.ref 42, .int x1, .int x2] M8 (fun r13 M14 => ∃ v15 : Int32, r13 = some (.int v15) ∧ (Q (some (.int v15)) M14)))) ∧ (¬ x2 < v9 → Q (some (.int (-9))) M8)))) ∧ (¬ 0 ≤ x2 → gr l sc m_X11_parts [.ref 42, .int x1] M5 (fun r16 M17 => ∃ v18 : Int32, r16 = some (.int v18) ∧ (Q (some (.int v18)) M17)))) ∧ (v6 = 0 → Q (some (.int (-1))) M5)))))))) : gv l sc m_X11_part 0 [.ref 42, .int x1, .int x2, .int x3] [] M Q := by
  refine gv_seg ok_X11_part 0 5 (Ps := []) (pc' := 7) (ls' := [.ref 42, .int x1, .int x2, .int x3]) (st' := [.int x1, .ref 42]) (M2 := (gl_u2 M 42 0 0)) rfl trivial ?_
  refine gv_vcall (M' := m_X11_isScale) (o := 42) (ci := 11) (As := [.int x1]) (st := []) (gl_dec ok_X11_part 5 7 (.invokevirtual 139) 3 rfl) (gl_lnk ok_X11_part 5 rfl rfl) mw_X11_isScale iw_X11_isScale lw_X11_isScale ⟨by decide, by decide⟩ rfl rfl rfl ⟨rfl, Nat.le_of_ble_eq_true rfl⟩ h (fun r1 M2 hq => ?_)
  obtain ⟨v3, rfl, h⟩ := hq
  change gv l sc m_X11_part 10 [.ref 42, .int x1, .int x2, .int x3] [.int v3] M2 Q
  refine gv_if_eq (t := 27) (by decide) (gl_dec ok_X11_part 6 10 (.ifCond .eq 17) 3 rfl) (fun c => ?_) (fun c => ?_)
  · replace h := h.1 c
    refine gv_seg ok_X11_part 15 1 (Ps := []) (pc' := 28) (ls' := [.ref 42, .int x1, .int x2, .int x3]) (st' := [.int (-1)]) (M2 := M2) rfl trivial ?_
    exact gv_retI (gl_dec ok_X11_part 16 28 (.ireturn) 1 rfl) rfl h
  · replace h := h.2 c
    refine gv_seg ok_X11_part 7 2 (Ps := []) (pc' := 15) (ls' := [.ref 42, .int x1, .int x2, .int x3]) (st' := [.int (-1), .int x2]) (M2 := M2) rfl trivial ?_
    refine gv_icmp_lt (t := 27) (by decide) (gl_dec ok_X11_part 9 15 (.if_icmp .lt 12) 3 rfl) (fun c => ?_) (fun c => ?_)
    · replace h := h.1 c
      refine gv_seg ok_X11_part 15 1 (Ps := []) (pc' := 28) (ls' := [.ref 42, .int x1, .int x2, .int x3]) (st' := [.int (-1)]) (M2 := M2) rfl trivial ?_
      exact gv_retI (gl_dec ok_X11_part 16 28 (.ireturn) 1 rfl) rfl h
    · replace h := h.2 c
      refine gv_seg ok_X11_part 10 3 (Ps := []) (pc' := 21) (ls' := [.ref 42, .int x1, .int x2, .int x3]) (st' := [.int 1, .int 0, .int x3]) (M2 := M2) rfl trivial ?_
      refine gv_scall (M' := m_X11_in) (As := [.int x3, .int 0, .int 1]) (st := []) (gl_dec ok_X11_part 13 21 (.invokestatic 69) 3 rfl) (gl_lnkS ok_X11_part 13 rfl rfl) mw_X11_in sw_X11_in ⟨by decide, by decide⟩ ⟨rfl, Nat.le_of_ble_eq_true rfl⟩ h (fun r4 M5 hq => ?_)
      obtain ⟨v6, rfl, h⟩ := hq
      change gv l sc m_X11_part 24 [.ref 42, .int x1, .int x2, .int x3] [.int v6] M5 Q
      refine gv_if_ne (t := 29) (by decide) (gl_dec ok_X11_part 14 24 (.ifCond .ne 5) 3 rfl) (fun c => ?_) (fun c => ?_)
      · replace h := h.1 c
        refine gv_seg ok_X11_part 17 1 (Ps := []) (pc' := 30) (ls' := [.ref 42, .int x1, .int x2, .int x3]) (st' := [.int x2]) (M2 := M5) rfl trivial ?_
        refine gv_if_ge (t := 39) (by decide) (gl_dec ok_X11_part 18 30 (.ifCond .ge 9) 3 rfl) (fun c => ?_) (fun c => ?_)
        · replace h := h.1 c
          refine gv_seg ok_X11_part 23 3 (Ps := []) (pc' := 42) (ls' := [.ref 42, .int x1, .int x2, .int x3]) (st' := [.int x1, .ref 42, .int x2]) (M2 := M5) rfl trivial ?_
          refine gv_vcall (M' := m_X11_parts) (o := 42) (ci := 11) (As := [.int x1]) (st := [.int x2]) (gl_dec ok_X11_part 26 42 (.invokevirtual 132) 3 rfl) (gl_lnk ok_X11_part 26 rfl rfl) mw_X11_parts iw_X11_parts lw_X11_parts ⟨by decide, by decide⟩ rfl rfl rfl ⟨rfl, Nat.le_of_ble_eq_true rfl⟩ h (fun r7 M8 hq => ?_)
          obtain ⟨v9, rfl, h⟩ := hq
          change gv l sc m_X11_part 45 [.ref 42, .int x1, .int x2, .int x3] [.int v9, .int x2] M8 Q
          refine gv_icmp_lt (t := 53) (by decide) (gl_dec ok_X11_part 27 45 (.if_icmp .lt 8) 3 rfl) (fun c => ?_) (fun c => ?_)
          · replace h := h.1 c
            refine gv_seg ok_X11_part 30 1 (Ps := []) (pc' := 54) (ls' := [.ref 42, .int x1, .int x2, .int x3]) (st' := [.int x3]) (M2 := M8) rfl trivial ?_
            refine gv_if_ne (t := 66) (by decide) (gl_dec ok_X11_part 31 54 (.ifCond .ne 12) 3 rfl) (fun c => ?_) (fun c => ?_)
            · replace h := h.1 c
              refine gv_seg ok_X11_part 37 3 (Ps := []) (pc' := 69) (ls' := [.ref 42, .int x1, .int x2, .int x3]) (st' := [.int x2, .int x1, .ref 42]) (M2 := M8) rfl trivial ?_
              refine gv_vcall (M' := m_X11_pitchOf) (o := 42) (ci := 11) (As := [.int x1, .int x2]) (st := []) (gl_dec ok_X11_part 40 69 (.invokevirtual 126) 3 rfl) (gl_lnk ok_X11_part 40 rfl rfl) mw_X11_pitchOf iw_X11_pitchOf lw_X11_pitchOf ⟨by decide, by decide⟩ rfl rfl rfl ⟨rfl, Nat.le_of_ble_eq_true rfl⟩ h (fun r10 M11 hq => ?_)
              obtain ⟨v12, rfl, h⟩ := hq
              change gv l sc m_X11_part 72 [.ref 42, .int x1, .int x2, .int x3] [.int v12] M11 Q
              exact gv_retI (gl_dec ok_X11_part 41 72 (.ireturn) 1 rfl) rfl h
            · replace h := h.2 c
              refine gv_seg ok_X11_part 32 3 (Ps := []) (pc' := 60) (ls' := [.ref 42, .int x1, .int x2, .int x3]) (st' := [.int x2, .int x1, .ref 42]) (M2 := M8) rfl trivial ?_
              refine gv_vcall (M' := m_X11_cellOf) (o := 42) (ci := 11) (As := [.int x1, .int x2]) (st := []) (gl_dec ok_X11_part 35 60 (.invokevirtual 122) 3 rfl) (gl_lnk ok_X11_part 35 rfl rfl) mw_X11_cellOf iw_X11_cellOf lw_X11_cellOf ⟨by decide, by decide⟩ rfl rfl rfl ⟨rfl, Nat.le_of_ble_eq_true rfl⟩ h (fun r13 M14 hq => ?_)
              obtain ⟨v15, rfl, h⟩ := hq
              change gv l sc m_X11_part 63 [.ref 42, .int x1, .int x2, .int x3] [.int v15] M14 Q
              refine gv_goto (t := 72) (by decide) (gl_dec ok_X11_part 36 63 (.goto 9) 3 rfl) ?_
              exact gv_retI (gl_dec ok_X11_part 41 72 (.ireturn) 1 rfl) rfl h
          · replace h := h.2 c
            refine gv_seg ok_X11_part 28 1 (Ps := []) (pc' := 50) (ls' := [.ref 42, .int x1, .int x2, .int x3]) (st' := [.int (-9)]) (M2 := M8) rfl trivial ?_
            refine gv_goto (t := 72) (by decide) (gl_dec ok_X11_part 29 50 (.goto 22) 3 rfl) ?_
            exact gv_retI (gl_dec ok_X11_part 41 72 (.ireturn) 1 rfl) rfl h
        · replace h := h.2 c
          refine gv_seg ok_X11_part 19 2 (Ps := []) (pc' := 35) (ls' := [.ref 42, .int x1, .int x2, .int x3]) (st' := [.int x1, .ref 42]) (M2 := M5) rfl trivial ?_
          refine gv_vcall (M' := m_X11_parts) (o := 42) (ci := 11) (As := [.int x1]) (st := []) (gl_dec ok_X11_part 21 35 (.invokevirtual 132) 3 rfl) (gl_lnk ok_X11_part 21 rfl rfl) mw_X11_parts iw_X11_parts lw_X11_parts ⟨by decide, by decide⟩ rfl rfl rfl ⟨rfl, Nat.le_of_ble_eq_true rfl⟩ h (fun r16 M17 hq => ?_)
          obtain ⟨v18, rfl, h⟩ := hq
          change gv l sc m_X11_part 38 [.ref 42, .int x1, .int x2, .int x3] [.int v18] M17 Q
          exact gv_retI (gl_dec ok_X11_part 22 38 (.ireturn) 1 rfl) rfl h
      · replace h := h.2 c
        refine gv_seg ok_X11_part 15 1 (Ps := []) (pc' := 28) (ls' := [.ref 42, .int x1, .int x2, .int x3]) (st' := [.int (-1)]) (M2 := M5) rfl trivial ?_
        exact gv_retI (gl_dec ok_X11_part 16 28 (.ireturn) 1 rfl) rfl h
theorem e_X11_part (l : Launch) (sc : Nat × (Nat → Int32)) (M : gl_N) (Q : Option Value → gl_N → Prop) (x1 x2 x3 : Int32)
  (h : gr l sc m_X11_isScale [.ref 42, .int x1] (gl_u2 M 42 0 0) (fun r1 M2 => ∃ v3 : Int32, r1 = some (.int v3) ∧ ((v3 = 0 → Q (some (.int (-1))) M2) ∧ (¬ v3 = 0 → (x2 < (-1) → Q (some (.int (-1))) M2) ∧ (¬ x2 < (-1) → gr l sc m_X11_in [.int x3, .int 0, .int 1] M2 (fun r4 M5 => ∃ v6 : Int32, r4 = some (.int v6) ∧ ((¬ v6 = 0 → (0 ≤ x2 → gr l sc m_X11_parts [.ref 42, .int x1] M5 (fun r7 M8 => ∃ v9 : Int32, r7 = some (.int v9) ∧ ((x2 < v9 → (¬ x3 = 0 → gr l sc m_X11_pitchOf [.ref 42, .int x1, .int x2] M8 (fun r10 M11 => ∃ v12 : Int32, r10 = some (.int v12) ∧ (Q (some (.int v12)) M11))) ∧ (x3 = 0 → gr l sc m_X11_cellOf [.ref 42, .int x1, .int x2] M8 (fun r13 M14 => ∃ v15 : Int32, r13 = some (.int v15) ∧ (Q (some (.int v15)) M14)))) ∧ (¬ x2 < v9 → Q (some (.int (-9))) M8)))) ∧ (¬ 0 ≤ x2 → gr l sc m_X11_parts [.ref 42, .int x1] M5 (fun r16 M17 => ∃ v18 : Int32, r16 = some (.int v18) ∧ (Q (some (.int v18)) M17)))) ∧ (v6 = 0 → Q (some (.int (-1))) M5)))))))) : gr l sc m_X11_part [.ref 42, .int x1, .int x2, .int x3] M Q :=
  gr_of (by decide +kernel) (Nat.le_of_ble_eq_true rfl) (List.forall_mem_cons.mpr ⟨rfl, (List.forall_mem_cons.mpr ⟨rfl, (List.forall_mem_cons.mpr ⟨rfl, (List.forall_mem_cons.mpr ⟨rfl, (fun _ h => absurd h List.not_mem_nil)⟩)⟩)⟩)⟩) (w_X11_part_0 l sc M Q x1 x2 x3 h)

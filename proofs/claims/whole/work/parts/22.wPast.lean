set_option maxHeartbeats 400000 in
set_option maxRecDepth 20000 in
theorem w_X2_dropAll_0 (l : Launch) (sc : Nat × (Nat → Int32)) (M : gl_N) (Q : Option Value → gl_N → Prop)
  (h : Q none (gl_u2 (gl_u2 M 22 1 0) 22 2 0)) : gv l sc m_X2_dropAll 0 [.ref 22] [] M Q := by
  refine gv_seg ok_X2_dropAll 0 6 (Ps := []) (pc' := 10) (ls' := [.ref 22]) (st' := []) (M2 := (gl_u2 (gl_u2 M 22 1 0) 22 2 0)) rfl trivial ?_
  exact gv_retV (gl_dec ok_X2_dropAll 6 10 (.return_) 1 rfl) rfl h
theorem e_X2_dropAll (l : Launch) (sc : Nat × (Nat → Int32)) (M : gl_N) (Q : Option Value → gl_N → Prop)
  (h : Q none (gl_u2 (gl_u2 M 22 1 0) 22 2 0)) : gr l sc m_X2_dropAll [.ref 22] M Q :=
  gr_of (by decide +kernel) (Nat.le_of_ble_eq_true rfl) (List.forall_mem_cons.mpr ⟨rfl, (fun _ h => absurd h List.not_mem_nil)⟩) (w_X2_dropAll_0 l sc M Q h)
set_option maxHeartbeats 400000 in
set_option maxRecDepth 20000 in
theorem w_X2_remember_0 (l : Launch) (sc : Nat × (Nat → Int32)) (M : gl_N) (Q : Option Value → gl_N → Prop)
  (h : (10 ≤ (M 22 2) → gr l sc m_X6_put [.ref 23, .int ((((((M 22 1) + 1) - ((M 22 1) + 1) / 10 * 10) + (M 22 2)) - 1) - (((((M 22 1) + 1) - ((M 22 1) + 1) / 10 * 10) + (M 22 2)) - 1) / 10 * 10), .ref 20] (gl_u2 M 22 1 (((M 22 1) + 1) - ((M 22 1) + 1) / 10 * 10)) (fun r1 M2 => r1 = none ∧ (Q none M2))) ∧ (¬ 10 ≤ (M 22 2) → gr l sc m_X6_put [.ref 23, .int ((((M 22 1) + ((M 22 2) + 1)) - 1) - (((M 22 1) + ((M 22 2) + 1)) - 1) / 10 * 10), .ref 20] (gl_u2 M 22 2 ((M 22 2) + 1)) (fun r3 M4 => r3 = none ∧ (Q none M4)))) : gv l sc m_X2_remember 0 [.ref 22, .ref 20] [] M Q := by
  refine gv_seg ok_X2_remember 0 3 (Ps := []) (pc' := 6) (ls' := [.ref 22, .ref 20]) (st' := [.int 10, .int (M 22 2)]) (M2 := M) rfl trivial ?_
  refine gv_icmp_ge (t := 22) (by decide) (gl_dec ok_X2_remember 3 6 (.if_icmp .ge 16) 3 rfl) (fun c => ?_) (fun c => ?_)
  · replace h := h.1 c
    refine gv_seg ok_X2_remember 11 20 (Ps := [¬ (10 : Int32) = 0, ¬ (10 : Int32) = 0]) (pc' := 54) (ls' := [.ref 22, .ref 20]) (st' := [.ref 20, .int ((((((M 22 1) + 1) - ((M 22 1) + 1) / 10 * 10) + (M 22 2)) - 1) - (((((M 22 1) + 1) - ((M 22 1) + 1) / 10 * 10) + (M 22 2)) - 1) / 10 * 10), .ref 23]) (M2 := (gl_u2 M 22 1 (((M 22 1) + 1) - ((M 22 1) + 1) / 10 * 10))) rfl ⟨(show ¬ (10 : Int32) = 0 by decide), (show ¬ (10 : Int32) = 0 by decide)⟩ ?_
    refine gv_vcall (M' := m_X6_put) (o := 23) (ci := 6) (As := [.int ((((((M 22 1) + 1) - ((M 22 1) + 1) / 10 * 10) + (M 22 2)) - 1) - (((((M 22 1) + 1) - ((M 22 1) + 1) / 10 * 10) + (M 22 2)) - 1) / 10 * 10), .ref 20]) (st := []) (gl_dec ok_X2_remember 31 54 (.invokevirtual 27) 3 rfl) (gl_lnk ok_X2_remember 31 rfl rfl) mw_X6_put iw_X6_put lw_X6_put ⟨by decide, by decide⟩ rfl rfl rfl ⟨rfl, Nat.le_of_ble_eq_true rfl⟩ h (fun r1 M2 hq => ?_)
    obtain ⟨rfl, h⟩ := hq
    change gv l sc m_X2_remember 57 [.ref 22, .ref 20] [] M2 Q
    exact gv_retV (gl_dec ok_X2_remember 32 57 (.return_) 1 rfl) rfl h
  · replace h := h.2 c
    refine gv_seg ok_X2_remember 4 6 (Ps := []) (pc' := 19) (ls' := [.ref 22, .ref 20]) (st' := []) (M2 := (gl_u2 M 22 2 ((M 22 2) + 1))) rfl trivial ?_
    refine gv_goto (t := 35) (by decide) (gl_dec ok_X2_remember 10 19 (.goto 16) 3 rfl) ?_
    refine gv_seg ok_X2_remember 19 12 (Ps := [¬ (10 : Int32) = 0]) (pc' := 54) (ls' := [.ref 22, .ref 20]) (st' := [.ref 20, .int ((((M 22 1) + ((M 22 2) + 1)) - 1) - (((M 22 1) + ((M 22 2) + 1)) - 1) / 10 * 10), .ref 23]) (M2 := (gl_u2 M 22 2 ((M 22 2) + 1))) rfl (show ¬ (10 : Int32) = 0 by decide) ?_
    refine gv_vcall (M' := m_X6_put) (o := 23) (ci := 6) (As := [.int ((((M 22 1) + ((M 22 2) + 1)) - 1) - (((M 22 1) + ((M 22 2) + 1)) - 1) / 10 * 10), .ref 20]) (st := []) (gl_dec ok_X2_remember 31 54 (.invokevirtual 27) 3 rfl) (gl_lnk ok_X2_remember 31 rfl rfl) mw_X6_put iw_X6_put lw_X6_put ⟨by decide, by decide⟩ rfl rfl rfl ⟨rfl, Nat.le_of_ble_eq_true rfl⟩ h (fun r3 M4 hq => ?_)
    obtain ⟨rfl, h⟩ := hq
    change gv l sc m_X2_remember 57 [.ref 22, .ref 20] [] M4 Q
    exact gv_retV (gl_dec ok_X2_remember 32 57 (.return_) 1 rfl) rfl h
theorem e_X2_remember (l : Launch) (sc : Nat × (Nat → Int32)) (M : gl_N) (Q : Option Value → gl_N → Prop)
  (h : (10 ≤ (M 22 2) → gr l sc m_X6_put [.ref 23, .int ((((((M 22 1) + 1) - ((M 22 1) + 1) / 10 * 10) + (M 22 2)) - 1) - (((((M 22 1) + 1) - ((M 22 1) + 1) / 10 * 10) + (M 22 2)) - 1) / 10 * 10), .ref 20] (gl_u2 M 22 1 (((M 22 1) + 1) - ((M 22 1) + 1) / 10 * 10)) (fun r1 M2 => r1 = none ∧ (Q none M2))) ∧ (¬ 10 ≤ (M 22 2) → gr l sc m_X6_put [.ref 23, .int ((((M 22 1) + ((M 22 2) + 1)) - 1) - (((M 22 1) + ((M 22 2) + 1)) - 1) / 10 * 10), .ref 20] (gl_u2 M 22 2 ((M 22 2) + 1)) (fun r3 M4 => r3 = none ∧ (Q none M4)))) : gr l sc m_X2_remember [.ref 22, .ref 20] M Q :=
  gr_of (by decide +kernel) (Nat.le_of_ble_eq_true rfl) (List.forall_mem_cons.mpr ⟨rfl, (List.forall_mem_cons.mpr ⟨rfl, (fun _ h => absurd h List.not_mem_nil)⟩)⟩) (w_X2_remember_0 l sc M Q h)
set_option maxHeartbeats 400000 in
set_option maxRecDepth 20000 in
theorem w_X2_restore_0 (l : Launch) (sc : Nat × (Nat → Int32)) (M : gl_N) (Q : Option Value → gl_N → Prop)
  (h : gr l sc m_X6_giveTo [.ref 23, .ref 20, .int (((M 22 1) + ((M 22 2) - 1)) - ((M 22 1) + ((M 22 2) - 1)) / 10 * 10)] (gl_u2 M 22 2 ((M 22 2) - 1)) (fun r1 M2 => r1 = none ∧ (Q none M2))) : gv l sc m_X2_restore 0 [.ref 22, .ref 20] [] M Q := by
  refine gv_seg ok_X2_restore 0 16 (Ps := [¬ (10 : Int32) = 0]) (pc' := 27) (ls' := [.ref 22, .ref 20]) (st' := [.int (((M 22 1) + ((M 22 2) - 1)) - ((M 22 1) + ((M 22 2) - 1)) / 10 * 10), .ref 20, .ref 23]) (M2 := (gl_u2 M 22 2 ((M 22 2) - 1))) rfl (show ¬ (10 : Int32) = 0 by decide) ?_
  refine gv_vcall (M' := m_X6_giveTo) (o := 23) (ci := 6) (As := [.ref 20, .int (((M 22 1) + ((M 22 2) - 1)) - ((M 22 1) + ((M 22 2) - 1)) / 10 * 10)]) (st := []) (gl_dec ok_X2_restore 16 27 (.invokevirtual 31) 3 rfl) (gl_lnk ok_X2_restore 16 rfl rfl) mw_X6_giveTo iw_X6_giveTo lw_X6_giveTo ⟨by decide, by decide⟩ rfl rfl rfl ⟨rfl, Nat.le_of_ble_eq_true rfl⟩ h (fun r1 M2 hq => ?_)
  obtain ⟨rfl, h⟩ := hq
  change gv l sc m_X2_restore 30 [.ref 22, .ref 20] [] M2 Q
  exact gv_retV (gl_dec ok_X2_restore 17 30 (.return_) 1 rfl) rfl h
theorem e_X2_restore (l : Launch) (sc : Nat × (Nat → Int32)) (M : gl_N) (Q : Option Value → gl_N → Prop)
  (h : gr l sc m_X6_giveTo [.ref 23, .ref 20, .int (((M 22 1) + ((M 22 2) - 1)) - ((M 22 1) + ((M 22 2) - 1)) / 10 * 10)] (gl_u2 M 22 2 ((M 22 2) - 1)) (fun r1 M2 => r1 = none ∧ (Q none M2))) : gr l sc m_X2_restore [.ref 22, .ref 20] M Q :=
  gr_of (by decide +kernel) (Nat.le_of_ble_eq_true rfl) (List.forall_mem_cons.mpr ⟨rfl, (List.forall_mem_cons.mpr ⟨rfl, (fun _ h => absurd h List.not_mem_nil)⟩)⟩) (w_X2_restore_0 l sc M Q h)

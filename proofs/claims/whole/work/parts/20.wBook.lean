set_option maxHeartbeats 400000 in
set_option maxRecDepth 20000 in
theorem w_X0_dropAll_0 (l : Launch) (sc : Nat × (Nat → Int32)) (M : gl_N) (Q : Option Value → gl_N → Prop)
  (h : Q none (gl_u2 (gl_u2 M 3 0 0) 3 5 0)) : gv l sc m_X0_dropAll 0 [.ref 3] [] M Q := by
  refine gv_seg ok_X0_dropAll 0 6 (Ps := []) (pc' := 10) (ls' := [.ref 3]) (st' := []) (M2 := (gl_u2 (gl_u2 M 3 0 0) 3 5 0)) rfl trivial ?_
  exact gv_retV (gl_dec ok_X0_dropAll 6 10 (.return_) 1 rfl) rfl h
theorem e_X0_dropAll (l : Launch) (sc : Nat × (Nat → Int32)) (M : gl_N) (Q : Option Value → gl_N → Prop)
  (h : Q none (gl_u2 (gl_u2 M 3 0 0) 3 5 0)) : gr l sc m_X0_dropAll [.ref 3] M Q :=
  gr_of (by decide +kernel) (Nat.le_of_ble_eq_true rfl) (List.forall_mem_cons.mpr ⟨rfl, (fun _ h => absurd h List.not_mem_nil)⟩) (w_X0_dropAll_0 l sc M Q h)
set_option maxHeartbeats 400000 in
set_option maxRecDepth 20000 in
theorem w_X0_copyFrom_0 (l : Launch) (sc : Nat × (Nat → Int32)) (M : gl_N) (Q : Option Value → gl_N → Prop)
  (h : gr l sc m_X0_copyRow [.ref 4, .ref 13] (gl_u2 M 12 0 (M 3 0)) (fun r1 M2 => r1 = none ∧ (gr l sc m_X0_copyRow [.ref 5, .ref 14] M2 (fun r3 M4 => r3 = none ∧ (gr l sc m_X0_copyRow [.ref 6, .ref 15] M4 (fun r5 M6 => r5 = none ∧ (gr l sc m_X0_copyRow [.ref 7, .ref 16] M6 (fun r7 M8 => r7 = none ∧ (gr l sc m_X0_copyRow [.ref 8, .ref 17] (gl_u2 M8 12 5 (M8 3 5)) (fun r9 M10 => r9 = none ∧ (gr l sc m_X0_copyRow [.ref 9, .ref 18] M10 (fun r11 M12 => r11 = none ∧ (gr l sc m_X0_copyRow [.ref 10, .ref 19] M12 (fun r13 M14 => r13 = none ∧ (Q none M14))))))))))))))) : gv l sc m_X0_copyFrom 0 [.ref 12, .ref 3] [] M Q := by
  refine gv_seg ok_X0_copyFrom 0 8 (Ps := []) (pc' := 16) (ls' := [.ref 12, .ref 3]) (st' := [.ref 13, .ref 4]) (M2 := (gl_u2 M 12 0 (M 3 0))) rfl trivial ?_
  refine gv_scall (M' := m_X0_copyRow) (As := [.ref 4, .ref 13]) (st := []) (gl_dec ok_X0_copyFrom 8 16 (.invokestatic 40) 3 rfl) (gl_lnkS ok_X0_copyFrom 8 rfl rfl) mw_X0_copyRow sw_X0_copyRow ⟨by decide, by decide⟩ ⟨rfl, Nat.le_of_ble_eq_true rfl⟩ h (fun r1 M2 hq => ?_)
  obtain ⟨rfl, h⟩ := hq
  change gv l sc m_X0_copyFrom 19 [.ref 12, .ref 3] [] M2 Q
  refine gv_seg ok_X0_copyFrom 9 4 (Ps := []) (pc' := 27) (ls' := [.ref 12, .ref 3]) (st' := [.ref 14, .ref 5]) (M2 := M2) rfl trivial ?_
  refine gv_scall (M' := m_X0_copyRow) (As := [.ref 5, .ref 14]) (st := []) (gl_dec ok_X0_copyFrom 13 27 (.invokestatic 40) 3 rfl) (gl_lnkS ok_X0_copyFrom 13 rfl rfl) mw_X0_copyRow sw_X0_copyRow ⟨by decide, by decide⟩ ⟨rfl, Nat.le_of_ble_eq_true rfl⟩ h (fun r3 M4 hq => ?_)
  obtain ⟨rfl, h⟩ := hq
  change gv l sc m_X0_copyFrom 30 [.ref 12, .ref 3] [] M4 Q
  refine gv_seg ok_X0_copyFrom 14 4 (Ps := []) (pc' := 38) (ls' := [.ref 12, .ref 3]) (st' := [.ref 15, .ref 6]) (M2 := M4) rfl trivial ?_
  refine gv_scall (M' := m_X0_copyRow) (As := [.ref 6, .ref 15]) (st := []) (gl_dec ok_X0_copyFrom 18 38 (.invokestatic 40) 3 rfl) (gl_lnkS ok_X0_copyFrom 18 rfl rfl) mw_X0_copyRow sw_X0_copyRow ⟨by decide, by decide⟩ ⟨rfl, Nat.le_of_ble_eq_true rfl⟩ h (fun r5 M6 hq => ?_)
  obtain ⟨rfl, h⟩ := hq
  change gv l sc m_X0_copyFrom 41 [.ref 12, .ref 3] [] M6 Q
  refine gv_seg ok_X0_copyFrom 19 4 (Ps := []) (pc' := 49) (ls' := [.ref 12, .ref 3]) (st' := [.ref 16, .ref 7]) (M2 := M6) rfl trivial ?_
  refine gv_scall (M' := m_X0_copyRow) (As := [.ref 7, .ref 16]) (st := []) (gl_dec ok_X0_copyFrom 23 49 (.invokestatic 40) 3 rfl) (gl_lnkS ok_X0_copyFrom 23 rfl rfl) mw_X0_copyRow sw_X0_copyRow ⟨by decide, by decide⟩ ⟨rfl, Nat.le_of_ble_eq_true rfl⟩ h (fun r7 M8 hq => ?_)
  obtain ⟨rfl, h⟩ := hq
  change gv l sc m_X0_copyFrom 52 [.ref 12, .ref 3] [] M8 Q
  refine gv_seg ok_X0_copyFrom 24 8 (Ps := []) (pc' := 68) (ls' := [.ref 12, .ref 3]) (st' := [.ref 17, .ref 8]) (M2 := (gl_u2 M8 12 5 (M8 3 5))) rfl trivial ?_
  refine gv_scall (M' := m_X0_copyRow) (As := [.ref 8, .ref 17]) (st := []) (gl_dec ok_X0_copyFrom 32 68 (.invokestatic 40) 3 rfl) (gl_lnkS ok_X0_copyFrom 32 rfl rfl) mw_X0_copyRow sw_X0_copyRow ⟨by decide, by decide⟩ ⟨rfl, Nat.le_of_ble_eq_true rfl⟩ h (fun r9 M10 hq => ?_)
  obtain ⟨rfl, h⟩ := hq
  change gv l sc m_X0_copyFrom 71 [.ref 12, .ref 3] [] M10 Q
  refine gv_seg ok_X0_copyFrom 33 4 (Ps := []) (pc' := 79) (ls' := [.ref 12, .ref 3]) (st' := [.ref 18, .ref 9]) (M2 := M10) rfl trivial ?_
  refine gv_scall (M' := m_X0_copyRow) (As := [.ref 9, .ref 18]) (st := []) (gl_dec ok_X0_copyFrom 37 79 (.invokestatic 40) 3 rfl) (gl_lnkS ok_X0_copyFrom 37 rfl rfl) mw_X0_copyRow sw_X0_copyRow ⟨by decide, by decide⟩ ⟨rfl, Nat.le_of_ble_eq_true rfl⟩ h (fun r11 M12 hq => ?_)
  obtain ⟨rfl, h⟩ := hq
  change gv l sc m_X0_copyFrom 82 [.ref 12, .ref 3] [] M12 Q
  refine gv_seg ok_X0_copyFrom 38 4 (Ps := []) (pc' := 90) (ls' := [.ref 12, .ref 3]) (st' := [.ref 19, .ref 10]) (M2 := M12) rfl trivial ?_
  refine gv_scall (M' := m_X0_copyRow) (As := [.ref 10, .ref 19]) (st := []) (gl_dec ok_X0_copyFrom 42 90 (.invokestatic 40) 3 rfl) (gl_lnkS ok_X0_copyFrom 42 rfl rfl) mw_X0_copyRow sw_X0_copyRow ⟨by decide, by decide⟩ ⟨rfl, Nat.le_of_ble_eq_true rfl⟩ h (fun r13 M14 hq => ?_)
  obtain ⟨rfl, h⟩ := hq
  change gv l sc m_X0_copyFrom 93 [.ref 12, .ref 3] [] M14 Q
  exact gv_retV (gl_dec ok_X0_copyFrom 43 93 (.return_) 1 rfl) rfl h
theorem e_X0_copyFrom (l : Launch) (sc : Nat × (Nat → Int32)) (M : gl_N) (Q : Option Value → gl_N → Prop)
  (h : gr l sc m_X0_copyRow [.ref 4, .ref 13] (gl_u2 M 12 0 (M 3 0)) (fun r1 M2 => r1 = none ∧ (gr l sc m_X0_copyRow [.ref 5, .ref 14] M2 (fun r3 M4 => r3 = none ∧ (gr l sc m_X0_copyRow [.ref 6, .ref 15] M4 (fun r5 M6 => r5 = none ∧ (gr l sc m_X0_copyRow [.ref 7, .ref 16] M6 (fun r7 M8 => r7 = none ∧ (gr l sc m_X0_copyRow [.ref 8, .ref 17] (gl_u2 M8 12 5 (M8 3 5)) (fun r9 M10 => r9 = none ∧ (gr l sc m_X0_copyRow [.ref 9, .ref 18] M10 (fun r11 M12 => r11 = none ∧ (gr l sc m_X0_copyRow [.ref 10, .ref 19] M12 (fun r13 M14 => r13 = none ∧ (Q none M14))))))))))))))) : gr l sc m_X0_copyFrom [.ref 12, .ref 3] M Q :=
  gr_of (by decide +kernel) (Nat.le_of_ble_eq_true rfl) (List.forall_mem_cons.mpr ⟨rfl, (List.forall_mem_cons.mpr ⟨rfl, (fun _ h => absurd h List.not_mem_nil)⟩)⟩) (w_X0_copyFrom_0 l sc M Q h)
set_option maxHeartbeats 400000 in
set_option maxRecDepth 20000 in
theorem w_X0_copyRow_4_0 (l : Launch) (sc : Nat × (Nat → Int32)) (M : gl_N) (Q : Option Value → gl_N → Prop)
  (h : Q none (gl_u1 M 13 (va_cpy (M 4) (M 13) 0 0 6))) : gv l sc m_X0_copyRow 0 [.ref 4, .ref 13] [] M Q := by
  refine gv_seg ok_X0_copyRow 0 10 (Ps := [¬ (0 : Int32) < 0, ¬ (0 : Int32) < 0, ¬ (6 : Int32) < 0, 0 + 6 ≤ 6, 0 + 6 ≤ 6]) (pc' := 14) (ls' := [.ref 4, .ref 13]) (st' := []) (M2 := (gl_u1 M 13 (va_cpy (M 4) (M 13) 0 0 6))) rfl ⟨(show ¬ (0 : Int32) < 0 by decide), (show ¬ (0 : Int32) < 0 by decide), (show ¬ (6 : Int32) < 0 by decide), (show 0 + 6 ≤ 6 by decide), (show 0 + 6 ≤ 6 by decide)⟩ ?_
  exact gv_retV (gl_dec ok_X0_copyRow 10 14 (.return_) 1 rfl) rfl h
theorem e_X0_copyRow_4 (l : Launch) (sc : Nat × (Nat → Int32)) (M : gl_N) (Q : Option Value → gl_N → Prop)
  (h : Q none (gl_u1 M 13 (va_cpy (M 4) (M 13) 0 0 6))) : gr l sc m_X0_copyRow [.ref 4, .ref 13] M Q :=
  gr_of (by decide +kernel) (Nat.le_of_ble_eq_true rfl) (List.forall_mem_cons.mpr ⟨rfl, (List.forall_mem_cons.mpr ⟨rfl, (fun _ h => absurd h List.not_mem_nil)⟩)⟩) (w_X0_copyRow_4_0 l sc M Q h)
set_option maxHeartbeats 400000 in
set_option maxRecDepth 20000 in
theorem w_X0_copyRow_5_0 (l : Launch) (sc : Nat × (Nat → Int32)) (M : gl_N) (Q : Option Value → gl_N → Prop)
  (h : Q none (gl_u1 M 14 (va_cpy (M 5) (M 14) 0 0 24))) : gv l sc m_X0_copyRow 0 [.ref 5, .ref 14] [] M Q := by
  refine gv_seg ok_X0_copyRow 0 10 (Ps := [¬ (0 : Int32) < 0, ¬ (0 : Int32) < 0, ¬ (24 : Int32) < 0, 0 + 24 ≤ 24, 0 + 24 ≤ 24]) (pc' := 14) (ls' := [.ref 5, .ref 14]) (st' := []) (M2 := (gl_u1 M 14 (va_cpy (M 5) (M 14) 0 0 24))) rfl ⟨(show ¬ (0 : Int32) < 0 by decide), (show ¬ (0 : Int32) < 0 by decide), (show ¬ (24 : Int32) < 0 by decide), (show 0 + 24 ≤ 24 by decide), (show 0 + 24 ≤ 24 by decide)⟩ ?_
  exact gv_retV (gl_dec ok_X0_copyRow 10 14 (.return_) 1 rfl) rfl h
theorem e_X0_copyRow_5 (l : Launch) (sc : Nat × (Nat → Int32)) (M : gl_N) (Q : Option Value → gl_N → Prop)
  (h : Q none (gl_u1 M 14 (va_cpy (M 5) (M 14) 0 0 24))) : gr l sc m_X0_copyRow [.ref 5, .ref 14] M Q :=
  gr_of (by decide +kernel) (Nat.le_of_ble_eq_true rfl) (List.forall_mem_cons.mpr ⟨rfl, (List.forall_mem_cons.mpr ⟨rfl, (fun _ h => absurd h List.not_mem_nil)⟩)⟩) (w_X0_copyRow_5_0 l sc M Q h)
set_option maxHeartbeats 400000 in
set_option maxRecDepth 20000 in
theorem w_X0_copyRow_6_0 (l : Launch) (sc : Nat × (Nat → Int32)) (M : gl_N) (Q : Option Value → gl_N → Prop)
  (h : Q none (gl_u1 M 15 (va_cpy (M 6) (M 15) 0 0 6))) : gv l sc m_X0_copyRow 0 [.ref 6, .ref 15] [] M Q := by
  refine gv_seg ok_X0_copyRow 0 10 (Ps := [¬ (0 : Int32) < 0, ¬ (0 : Int32) < 0, ¬ (6 : Int32) < 0, 0 + 6 ≤ 6, 0 + 6 ≤ 6]) (pc' := 14) (ls' := [.ref 6, .ref 15]) (st' := []) (M2 := (gl_u1 M 15 (va_cpy (M 6) (M 15) 0 0 6))) rfl ⟨(show ¬ (0 : Int32) < 0 by decide), (show ¬ (0 : Int32) < 0 by decide), (show ¬ (6 : Int32) < 0 by decide), (show 0 + 6 ≤ 6 by decide), (show 0 + 6 ≤ 6 by decide)⟩ ?_
  exact gv_retV (gl_dec ok_X0_copyRow 10 14 (.return_) 1 rfl) rfl h
theorem e_X0_copyRow_6 (l : Launch) (sc : Nat × (Nat → Int32)) (M : gl_N) (Q : Option Value → gl_N → Prop)
  (h : Q none (gl_u1 M 15 (va_cpy (M 6) (M 15) 0 0 6))) : gr l sc m_X0_copyRow [.ref 6, .ref 15] M Q :=
  gr_of (by decide +kernel) (Nat.le_of_ble_eq_true rfl) (List.forall_mem_cons.mpr ⟨rfl, (List.forall_mem_cons.mpr ⟨rfl, (fun _ h => absurd h List.not_mem_nil)⟩)⟩) (w_X0_copyRow_6_0 l sc M Q h)
set_option maxHeartbeats 400000 in
set_option maxRecDepth 20000 in
theorem w_X0_copyRow_7_0 (l : Launch) (sc : Nat × (Nat → Int32)) (M : gl_N) (Q : Option Value → gl_N → Prop)
  (h : Q none (gl_u1 M 16 (va_cpy (M 7) (M 16) 0 0 6))) : gv l sc m_X0_copyRow 0 [.ref 7, .ref 16] [] M Q := by
  refine gv_seg ok_X0_copyRow 0 10 (Ps := [¬ (0 : Int32) < 0, ¬ (0 : Int32) < 0, ¬ (6 : Int32) < 0, 0 + 6 ≤ 6, 0 + 6 ≤ 6]) (pc' := 14) (ls' := [.ref 7, .ref 16]) (st' := []) (M2 := (gl_u1 M 16 (va_cpy (M 7) (M 16) 0 0 6))) rfl ⟨(show ¬ (0 : Int32) < 0 by decide), (show ¬ (0 : Int32) < 0 by decide), (show ¬ (6 : Int32) < 0 by decide), (show 0 + 6 ≤ 6 by decide), (show 0 + 6 ≤ 6 by decide)⟩ ?_
  exact gv_retV (gl_dec ok_X0_copyRow 10 14 (.return_) 1 rfl) rfl h
theorem e_X0_copyRow_7 (l : Launch) (sc : Nat × (Nat → Int32)) (M : gl_N) (Q : Option Value → gl_N → Prop)
  (h : Q none (gl_u1 M 16 (va_cpy (M 7) (M 16) 0 0 6))) : gr l sc m_X0_copyRow [.ref 7, .ref 16] M Q :=
  gr_of (by decide +kernel) (Nat.le_of_ble_eq_true rfl) (List.forall_mem_cons.mpr ⟨rfl, (List.forall_mem_cons.mpr ⟨rfl, (fun _ h => absurd h List.not_mem_nil)⟩)⟩) (w_X0_copyRow_7_0 l sc M Q h)
set_option maxHeartbeats 400000 in
set_option maxRecDepth 20000 in
theorem w_X0_copyRow_8_0 (l : Launch) (sc : Nat × (Nat → Int32)) (M : gl_N) (Q : Option Value → gl_N → Prop)
  (h : Q none (gl_u1 M 17 (va_cpy (M 8) (M 17) 0 0 6))) : gv l sc m_X0_copyRow 0 [.ref 8, .ref 17] [] M Q := by
  refine gv_seg ok_X0_copyRow 0 10 (Ps := [¬ (0 : Int32) < 0, ¬ (0 : Int32) < 0, ¬ (6 : Int32) < 0, 0 + 6 ≤ 6, 0 + 6 ≤ 6]) (pc' := 14) (ls' := [.ref 8, .ref 17]) (st' := []) (M2 := (gl_u1 M 17 (va_cpy (M 8) (M 17) 0 0 6))) rfl ⟨(show ¬ (0 : Int32) < 0 by decide), (show ¬ (0 : Int32) < 0 by decide), (show ¬ (6 : Int32) < 0 by decide), (show 0 + 6 ≤ 6 by decide), (show 0 + 6 ≤ 6 by decide)⟩ ?_
  exact gv_retV (gl_dec ok_X0_copyRow 10 14 (.return_) 1 rfl) rfl h
theorem e_X0_copyRow_8 (l : Launch) (sc : Nat × (Nat → Int32)) (M : gl_N) (Q : Option Value → gl_N → Prop)
  (h : Q none (gl_u1 M 17 (va_cpy (M 8) (M 17) 0 0 6))) : gr l sc m_X0_copyRow [.ref 8, .ref 17] M Q :=
  gr_of (by decide +kernel) (Nat.le_of_ble_eq_true rfl) (List.forall_mem_cons.mpr ⟨rfl, (List.forall_mem_cons.mpr ⟨rfl, (fun _ h => absurd h List.not_mem_nil)⟩)⟩) (w_X0_copyRow_8_0 l sc M Q h)
set_option maxHeartbeats 400000 in
set_option maxRecDepth 20000 in
theorem w_X0_copyRow_9_0 (l : Launch) (sc : Nat × (Nat → Int32)) (M : gl_N) (Q : Option Value → gl_N → Prop)
  (h : Q none (gl_u1 M 18 (va_cpy (M 9) (M 18) 0 0 24))) : gv l sc m_X0_copyRow 0 [.ref 9, .ref 18] [] M Q := by
  refine gv_seg ok_X0_copyRow 0 10 (Ps := [¬ (0 : Int32) < 0, ¬ (0 : Int32) < 0, ¬ (24 : Int32) < 0, 0 + 24 ≤ 24, 0 + 24 ≤ 24]) (pc' := 14) (ls' := [.ref 9, .ref 18]) (st' := []) (M2 := (gl_u1 M 18 (va_cpy (M 9) (M 18) 0 0 24))) rfl ⟨(show ¬ (0 : Int32) < 0 by decide), (show ¬ (0 : Int32) < 0 by decide), (show ¬ (24 : Int32) < 0 by decide), (show 0 + 24 ≤ 24 by decide), (show 0 + 24 ≤ 24 by decide)⟩ ?_
  exact gv_retV (gl_dec ok_X0_copyRow 10 14 (.return_) 1 rfl) rfl h
theorem e_X0_copyRow_9 (l : Launch) (sc : Nat × (Nat → Int32)) (M : gl_N) (Q : Option Value → gl_N → Prop)
  (h : Q none (gl_u1 M 18 (va_cpy (M 9) (M 18) 0 0 24))) : gr l sc m_X0_copyRow [.ref 9, .ref 18] M Q :=
  gr_of (by decide +kernel) (Nat.le_of_ble_eq_true rfl) (List.forall_mem_cons.mpr ⟨rfl, (List.forall_mem_cons.mpr ⟨rfl, (fun _ h => absurd h List.not_mem_nil)⟩)⟩) (w_X0_copyRow_9_0 l sc M Q h)
set_option maxHeartbeats 400000 in
set_option maxRecDepth 20000 in
theorem w_X0_copyRow_10_0 (l : Launch) (sc : Nat × (Nat → Int32)) (M : gl_N) (Q : Option Value → gl_N → Prop)
  (h : Q none (gl_u1 M 19 (va_cpy (M 10) (M 19) 0 0 24))) : gv l sc m_X0_copyRow 0 [.ref 10, .ref 19] [] M Q := by
  refine gv_seg ok_X0_copyRow 0 10 (Ps := [¬ (0 : Int32) < 0, ¬ (0 : Int32) < 0, ¬ (24 : Int32) < 0, 0 + 24 ≤ 24, 0 + 24 ≤ 24]) (pc' := 14) (ls' := [.ref 10, .ref 19]) (st' := []) (M2 := (gl_u1 M 19 (va_cpy (M 10) (M 19) 0 0 24))) rfl ⟨(show ¬ (0 : Int32) < 0 by decide), (show ¬ (0 : Int32) < 0 by decide), (show ¬ (24 : Int32) < 0 by decide), (show 0 + 24 ≤ 24 by decide), (show 0 + 24 ≤ 24 by decide)⟩ ?_
  exact gv_retV (gl_dec ok_X0_copyRow 10 14 (.return_) 1 rfl) rfl h
theorem e_X0_copyRow_10 (l : Launch) (sc : Nat × (Nat → Int32)) (M : gl_N) (Q : Option Value → gl_N → Prop)
  (h : Q none (gl_u1 M 19 (va_cpy (M 10) (M 19) 0 0 24))) : gr l sc m_X0_copyRow [.ref 10, .ref 19] M Q :=
  gr_of (by decide +kernel) (Nat.le_of_ble_eq_true rfl) (List.forall_mem_cons.mpr ⟨rfl, (List.forall_mem_cons.mpr ⟨rfl, (fun _ h => absurd h List.not_mem_nil)⟩)⟩) (w_X0_copyRow_10_0 l sc M Q h)
set_option maxHeartbeats 400000 in
set_option maxRecDepth 20000 in
theorem w_X0_openCell_0 (l : Launch) (sc : Nat × (Nat → Int32)) (M : gl_N) (Q : Option Value → gl_N → Prop)
  (h : (vp_in (M 3 0) 6 ∧ vp_in (M 3 0) 6 ∧ vp_in (M 3 0) 6) ∧ (Q none (gl_u2 (gl_u2 (gl_u2 (gl_u2 M 4 (Int32.toNatClampNeg (M 3 0)) 0) 6 (Int32.toNatClampNeg (M 3 0)) 0) 7 (Int32.toNatClampNeg (M 3 0)) 1) 3 0 ((M 3 0) + 1)))) : gv l sc m_X0_openCell 0 [.ref 3] [] M Q := by
  obtain ⟨hp, h⟩ := h
  refine gv_seg ok_X0_openCell 0 24 (Ps := [vp_in (M 3 0) 6, vp_in (M 3 0) 6, vp_in (M 3 0) 6]) (pc' := 40) (ls' := [.ref 3]) (st' := []) (M2 := (gl_u2 (gl_u2 (gl_u2 (gl_u2 M 4 (Int32.toNatClampNeg (M 3 0)) 0) 6 (Int32.toNatClampNeg (M 3 0)) 0) 7 (Int32.toNatClampNeg (M 3 0)) 1) 3 0 ((M 3 0) + 1))) rfl ⟨hp.1, hp.2.1, hp.2.2⟩ ?_
  exact gv_retV (gl_dec ok_X0_openCell 24 40 (.return_) 1 rfl) rfl h
theorem e_X0_openCell (l : Launch) (sc : Nat × (Nat → Int32)) (M : gl_N) (Q : Option Value → gl_N → Prop)
  (h : (vp_in (M 3 0) 6 ∧ vp_in (M 3 0) 6 ∧ vp_in (M 3 0) 6) ∧ (Q none (gl_u2 (gl_u2 (gl_u2 (gl_u2 M 4 (Int32.toNatClampNeg (M 3 0)) 0) 6 (Int32.toNatClampNeg (M 3 0)) 0) 7 (Int32.toNatClampNeg (M 3 0)) 1) 3 0 ((M 3 0) + 1)))) : gr l sc m_X0_openCell [.ref 3] M Q :=
  gr_of (by decide +kernel) (Nat.le_of_ble_eq_true rfl) (List.forall_mem_cons.mpr ⟨rfl, (fun _ h => absurd h List.not_mem_nil)⟩) (w_X0_openCell_0 l sc M Q h)
set_option maxHeartbeats 400000 in
set_option maxRecDepth 20000 in
theorem w_X0_addStep_0 (l : Launch) (sc : Nat × (Nat → Int32)) (M : gl_N) (Q : Option Value → gl_N → Prop) (x1 : Int32)
  (h : (vp_in ((M 3 0) - 1) 6 ∧ vp_in ((((M 3 0) - 1) * 4) + (M 4 (Int32.toNatClampNeg ((M 3 0) - 1)))) 24 ∧ vp_in ((M 3 0) - 1) 6 ∧ vp_in ((M 3 0) - 1) 6 ∧ vp_in ((M 3 0) - 1) 6 ∧ vp_in ((M 3 0) - 1) 6 ∧ vp_in ((M 3 0) - 1) 6 ∧ vp_in ((M 3 0) - 1) 6 ∧ vp_in ((M 3 0) - 1) 6) ∧ (Q none (gl_u2 (gl_u2 (gl_u2 (gl_u2 M 5 (Int32.toNatClampNeg ((((M 3 0) - 1) * 4) + (M 4 (Int32.toNatClampNeg ((M 3 0) - 1))))) x1) 4 (Int32.toNatClampNeg ((M 3 0) - 1)) ((M 4 (Int32.toNatClampNeg ((M 3 0) - 1))) + 1)) 6 (Int32.toNatClampNeg ((M 3 0) - 1)) ((M 6 (Int32.toNatClampNeg ((M 3 0) - 1))) + x1)) 7 (Int32.toNatClampNeg ((M 3 0) - 1)) ((M 7 (Int32.toNatClampNeg ((M 3 0) - 1))) ||| (1 <<< (((gl_u2 (gl_u2 (gl_u2 M 5 (Int32.toNatClampNeg ((((M 3 0) - 1) * 4) + (M 4 (Int32.toNatClampNeg ((M 3 0) - 1))))) x1) 4 (Int32.toNatClampNeg ((M 3 0) - 1)) ((M 4 (Int32.toNatClampNeg ((M 3 0) - 1))) + 1)) 6 (Int32.toNatClampNeg ((M 3 0) - 1)) ((M 6 (Int32.toNatClampNeg ((M 3 0) - 1))) + x1)) 6 (Int32.toNatClampNeg ((M 3 0) - 1))) &&& 31)))))) : gv l sc m_X0_addStep 0 [.ref 3, .int x1, .float 0] [] M Q := by
  obtain ⟨hp, h⟩ := h
  refine gv_seg ok_X0_addStep 0 46 (Ps := [vp_in ((M 3 0) - 1) 6, vp_in ((((M 3 0) - 1) * 4) + (M 4 (Int32.toNatClampNeg ((M 3 0) - 1)))) 24, vp_in ((M 3 0) - 1) 6, vp_in ((M 3 0) - 1) 6, vp_in ((M 3 0) - 1) 6, vp_in ((M 3 0) - 1) 6, vp_in ((M 3 0) - 1) 6, vp_in ((M 3 0) - 1) 6, vp_in ((M 3 0) - 1) 6]) (pc' := 60) (ls' := [.ref 3, .int x1, .int ((M 3 0) - 1)]) (st' := []) (M2 := (gl_u2 (gl_u2 (gl_u2 (gl_u2 M 5 (Int32.toNatClampNeg ((((M 3 0) - 1) * 4) + (M 4 (Int32.toNatClampNeg ((M 3 0) - 1))))) x1) 4 (Int32.toNatClampNeg ((M 3 0) - 1)) ((M 4 (Int32.toNatClampNeg ((M 3 0) - 1))) + 1)) 6 (Int32.toNatClampNeg ((M 3 0) - 1)) ((M 6 (Int32.toNatClampNeg ((M 3 0) - 1))) + x1)) 7 (Int32.toNatClampNeg ((M 3 0) - 1)) ((M 7 (Int32.toNatClampNeg ((M 3 0) - 1))) ||| (1 <<< (((gl_u2 (gl_u2 (gl_u2 M 5 (Int32.toNatClampNeg ((((M 3 0) - 1) * 4) + (M 4 (Int32.toNatClampNeg ((M 3 0) - 1))))) x1) 4 (Int32.toNatClampNeg ((M 3 0) - 1)) ((M 4 (Int32.toNatClampNeg ((M 3 0) - 1))) + 1)) 6 (Int32.toNatClampNeg ((M 3 0) - 1)) ((M 6 (Int32.toNatClampNeg ((M 3 0) - 1))) + x1)) 6 (Int32.toNatClampNeg ((M 3 0) - 1))) &&& 31))))) rfl ⟨hp.1, hp.2.1, hp.2.2.1, hp.2.2.2.1, hp.2.2.2.2.1, hp.2.2.2.2.2.1, hp.2.2.2.2.2.2.1, hp.2.2.2.2.2.2.2.1, hp.2.2.2.2.2.2.2.2⟩ ?_
  exact gv_retV (gl_dec ok_X0_addStep 46 60 (.return_) 1 rfl) rfl h
theorem e_X0_addStep (l : Launch) (sc : Nat × (Nat → Int32)) (M : gl_N) (Q : Option Value → gl_N → Prop) (x1 : Int32)
  (h : (vp_in ((M 3 0) - 1) 6 ∧ vp_in ((((M 3 0) - 1) * 4) + (M 4 (Int32.toNatClampNeg ((M 3 0) - 1)))) 24 ∧ vp_in ((M 3 0) - 1) 6 ∧ vp_in ((M 3 0) - 1) 6 ∧ vp_in ((M 3 0) - 1) 6 ∧ vp_in ((M 3 0) - 1) 6 ∧ vp_in ((M 3 0) - 1) 6 ∧ vp_in ((M 3 0) - 1) 6 ∧ vp_in ((M 3 0) - 1) 6) ∧ (Q none (gl_u2 (gl_u2 (gl_u2 (gl_u2 M 5 (Int32.toNatClampNeg ((((M 3 0) - 1) * 4) + (M 4 (Int32.toNatClampNeg ((M 3 0) - 1))))) x1) 4 (Int32.toNatClampNeg ((M 3 0) - 1)) ((M 4 (Int32.toNatClampNeg ((M 3 0) - 1))) + 1)) 6 (Int32.toNatClampNeg ((M 3 0) - 1)) ((M 6 (Int32.toNatClampNeg ((M 3 0) - 1))) + x1)) 7 (Int32.toNatClampNeg ((M 3 0) - 1)) ((M 7 (Int32.toNatClampNeg ((M 3 0) - 1))) ||| (1 <<< (((gl_u2 (gl_u2 (gl_u2 M 5 (Int32.toNatClampNeg ((((M 3 0) - 1) * 4) + (M 4 (Int32.toNatClampNeg ((M 3 0) - 1))))) x1) 4 (Int32.toNatClampNeg ((M 3 0) - 1)) ((M 4 (Int32.toNatClampNeg ((M 3 0) - 1))) + 1)) 6 (Int32.toNatClampNeg ((M 3 0) - 1)) ((M 6 (Int32.toNatClampNeg ((M 3 0) - 1))) + x1)) 6 (Int32.toNatClampNeg ((M 3 0) - 1))) &&& 31)))))) : gr l sc m_X0_addStep [.ref 3, .int x1] M Q :=
  gr_of (by decide +kernel) (Nat.le_of_ble_eq_true rfl) (List.forall_mem_cons.mpr ⟨rfl, (List.forall_mem_cons.mpr ⟨rfl, (fun _ h => absurd h List.not_mem_nil)⟩)⟩) (w_X0_addStep_0 l sc M Q x1 h)
set_option maxHeartbeats 400000 in
set_option maxRecDepth 20000 in
theorem w_X0_openMode_0 (l : Launch) (sc : Nat × (Nat → Int32)) (M : gl_N) (Q : Option Value → gl_N → Prop) (x1 : Int32)
  (h : (vp_in ((M 3 5) * 4) 24 ∧ vp_in ((M 3 5) * 4) 24 ∧ vp_in (M 3 5) 6) ∧ (Q none (gl_u2 (gl_u2 (gl_u2 (gl_u2 M 9 (Int32.toNatClampNeg ((M 3 5) * 4)) x1) 10 (Int32.toNatClampNeg ((M 3 5) * 4)) 0) 8 (Int32.toNatClampNeg (M 3 5)) 1) 3 5 ((M 3 5) + 1)))) : gv l sc m_X0_openMode 0 [.ref 3, .int x1] [] M Q := by
  obtain ⟨hp, h⟩ := h
  refine gv_seg ok_X0_openMode 0 28 (Ps := [vp_in ((M 3 5) * 4) 24, vp_in ((M 3 5) * 4) 24, vp_in (M 3 5) 6]) (pc' := 44) (ls' := [.ref 3, .int x1]) (st' := []) (M2 := (gl_u2 (gl_u2 (gl_u2 (gl_u2 M 9 (Int32.toNatClampNeg ((M 3 5) * 4)) x1) 10 (Int32.toNatClampNeg ((M 3 5) * 4)) 0) 8 (Int32.toNatClampNeg (M 3 5)) 1) 3 5 ((M 3 5) + 1))) rfl ⟨hp.1, hp.2.1, hp.2.2⟩ ?_
  exact gv_retV (gl_dec ok_X0_openMode 28 44 (.return_) 1 rfl) rfl h
theorem e_X0_openMode (l : Launch) (sc : Nat × (Nat → Int32)) (M : gl_N) (Q : Option Value → gl_N → Prop) (x1 : Int32)
  (h : (vp_in ((M 3 5) * 4) 24 ∧ vp_in ((M 3 5) * 4) 24 ∧ vp_in (M 3 5) 6) ∧ (Q none (gl_u2 (gl_u2 (gl_u2 (gl_u2 M 9 (Int32.toNatClampNeg ((M 3 5) * 4)) x1) 10 (Int32.toNatClampNeg ((M 3 5) * 4)) 0) 8 (Int32.toNatClampNeg (M 3 5)) 1) 3 5 ((M 3 5) + 1)))) : gr l sc m_X0_openMode [.ref 3, .int x1] M Q :=
  gr_of (by decide +kernel) (Nat.le_of_ble_eq_true rfl) (List.forall_mem_cons.mpr ⟨rfl, (List.forall_mem_cons.mpr ⟨rfl, (fun _ h => absurd h List.not_mem_nil)⟩)⟩) (w_X0_openMode_0 l sc M Q x1 h)
set_option maxHeartbeats 400000 in
set_option maxRecDepth 20000 in
theorem w_X0_addPart_0 (l : Launch) (sc : Nat × (Nat → Int32)) (M : gl_N) (Q : Option Value → gl_N → Prop) (x1 x2 : Int32)
  (h : (vp_in ((M 3 5) - 1) 6 ∧ vp_in ((((M 3 5) - 1) * 4) + (M 8 (Int32.toNatClampNeg ((M 3 5) - 1)))) 24 ∧ vp_in (((((M 3 5) - 1) * 4) + (M 8 (Int32.toNatClampNeg ((M 3 5) - 1)))) - 1) 24 ∧ vp_in (((((M 3 5) - 1) * 4) + (M 8 (Int32.toNatClampNeg ((M 3 5) - 1)))) - 1) 24 ∧ vp_in ((gl_u2 M 9 (Int32.toNatClampNeg ((((M 3 5) - 1) * 4) + (M 8 (Int32.toNatClampNeg ((M 3 5) - 1))))) x2) 9 (Int32.toNatClampNeg (((((M 3 5) - 1) * 4) + (M 8 (Int32.toNatClampNeg ((M 3 5) - 1)))) - 1))) 6 ∧ vp_in ((((M 3 5) - 1) * 4) + (M 8 (Int32.toNatClampNeg ((M 3 5) - 1)))) 24 ∧ vp_in ((M 3 5) - 1) 6 ∧ vp_in ((M 3 5) - 1) 6) ∧ (Q none (gl_u2 (gl_u2 (gl_u2 M 9 (Int32.toNatClampNeg ((((M 3 5) - 1) * 4) + (M 8 (Int32.toNatClampNeg ((M 3 5) - 1))))) x2) 10 (Int32.toNatClampNeg ((((M 3 5) - 1) * 4) + (M 8 (Int32.toNatClampNeg ((M 3 5) - 1))))) (((M 10 (Int32.toNatClampNeg (((((M 3 5) - 1) * 4) + (M 8 (Int32.toNatClampNeg ((M 3 5) - 1)))) - 1))) + (M 6 (Int32.toNatClampNeg ((gl_u2 M 9 (Int32.toNatClampNeg ((((M 3 5) - 1) * 4) + (M 8 (Int32.toNatClampNeg ((M 3 5) - 1))))) x2) 9 (Int32.toNatClampNeg (((((M 3 5) - 1) * 4) + (M 8 (Int32.toNatClampNeg ((M 3 5) - 1)))) - 1)))))) + x1)) 8 (Int32.toNatClampNeg ((M 3 5) - 1)) ((M 8 (Int32.toNatClampNeg ((M 3 5) - 1))) + 1)))) : gv l sc m_X0_addPart 0 [.ref 3, .int x1, .int x2, .float 0, .float 0] [] M Q := by
  obtain ⟨hp, h⟩ := h
  refine gv_seg ok_X0_addPart 0 49 (Ps := [vp_in ((M 3 5) - 1) 6, vp_in ((((M 3 5) - 1) * 4) + (M 8 (Int32.toNatClampNeg ((M 3 5) - 1)))) 24, vp_in (((((M 3 5) - 1) * 4) + (M 8 (Int32.toNatClampNeg ((M 3 5) - 1)))) - 1) 24, vp_in (((((M 3 5) - 1) * 4) + (M 8 (Int32.toNatClampNeg ((M 3 5) - 1)))) - 1) 24, vp_in ((gl_u2 M 9 (Int32.toNatClampNeg ((((M 3 5) - 1) * 4) + (M 8 (Int32.toNatClampNeg ((M 3 5) - 1))))) x2) 9 (Int32.toNatClampNeg (((((M 3 5) - 1) * 4) + (M 8 (Int32.toNatClampNeg ((M 3 5) - 1)))) - 1))) 6, vp_in ((((M 3 5) - 1) * 4) + (M 8 (Int32.toNatClampNeg ((M 3 5) - 1)))) 24, vp_in ((M 3 5) - 1) 6, vp_in ((M 3 5) - 1) 6]) (pc' := 70) (ls' := [.ref 3, .int x1, .int x2, .int ((M 3 5) - 1), .int ((((M 3 5) - 1) * 4) + (M 8 (Int32.toNatClampNeg ((M 3 5) - 1))))]) (st' := []) (M2 := (gl_u2 (gl_u2 (gl_u2 M 9 (Int32.toNatClampNeg ((((M 3 5) - 1) * 4) + (M 8 (Int32.toNatClampNeg ((M 3 5) - 1))))) x2) 10 (Int32.toNatClampNeg ((((M 3 5) - 1) * 4) + (M 8 (Int32.toNatClampNeg ((M 3 5) - 1))))) (((M 10 (Int32.toNatClampNeg (((((M 3 5) - 1) * 4) + (M 8 (Int32.toNatClampNeg ((M 3 5) - 1)))) - 1))) + (M 6 (Int32.toNatClampNeg ((gl_u2 M 9 (Int32.toNatClampNeg ((((M 3 5) - 1) * 4) + (M 8 (Int32.toNatClampNeg ((M 3 5) - 1))))) x2) 9 (Int32.toNatClampNeg (((((M 3 5) - 1) * 4) + (M 8 (Int32.toNatClampNeg ((M 3 5) - 1)))) - 1)))))) + x1)) 8 (Int32.toNatClampNeg ((M 3 5) - 1)) ((M 8 (Int32.toNatClampNeg ((M 3 5) - 1))) + 1))) rfl ⟨hp.1, hp.2.1, hp.2.2.1, hp.2.2.2.1, hp.2.2.2.2.1, hp.2.2.2.2.2.1, hp.2.2.2.2.2.2.1, hp.2.2.2.2.2.2.2⟩ ?_
  exact gv_retV (gl_dec ok_X0_addPart 49 70 (.return_) 1 rfl) rfl h
theorem e_X0_addPart (l : Launch) (sc : Nat × (Nat → Int32)) (M : gl_N) (Q : Option Value → gl_N → Prop) (x1 x2 : Int32)
  (h : (vp_in ((M 3 5) - 1) 6 ∧ vp_in ((((M 3 5) - 1) * 4) + (M 8 (Int32.toNatClampNeg ((M 3 5) - 1)))) 24 ∧ vp_in (((((M 3 5) - 1) * 4) + (M 8 (Int32.toNatClampNeg ((M 3 5) - 1)))) - 1) 24 ∧ vp_in (((((M 3 5) - 1) * 4) + (M 8 (Int32.toNatClampNeg ((M 3 5) - 1)))) - 1) 24 ∧ vp_in ((gl_u2 M 9 (Int32.toNatClampNeg ((((M 3 5) - 1) * 4) + (M 8 (Int32.toNatClampNeg ((M 3 5) - 1))))) x2) 9 (Int32.toNatClampNeg (((((M 3 5) - 1) * 4) + (M 8 (Int32.toNatClampNeg ((M 3 5) - 1)))) - 1))) 6 ∧ vp_in ((((M 3 5) - 1) * 4) + (M 8 (Int32.toNatClampNeg ((M 3 5) - 1)))) 24 ∧ vp_in ((M 3 5) - 1) 6 ∧ vp_in ((M 3 5) - 1) 6) ∧ (Q none (gl_u2 (gl_u2 (gl_u2 M 9 (Int32.toNatClampNeg ((((M 3 5) - 1) * 4) + (M 8 (Int32.toNatClampNeg ((M 3 5) - 1))))) x2) 10 (Int32.toNatClampNeg ((((M 3 5) - 1) * 4) + (M 8 (Int32.toNatClampNeg ((M 3 5) - 1))))) (((M 10 (Int32.toNatClampNeg (((((M 3 5) - 1) * 4) + (M 8 (Int32.toNatClampNeg ((M 3 5) - 1)))) - 1))) + (M 6 (Int32.toNatClampNeg ((gl_u2 M 9 (Int32.toNatClampNeg ((((M 3 5) - 1) * 4) + (M 8 (Int32.toNatClampNeg ((M 3 5) - 1))))) x2) 9 (Int32.toNatClampNeg (((((M 3 5) - 1) * 4) + (M 8 (Int32.toNatClampNeg ((M 3 5) - 1)))) - 1)))))) + x1)) 8 (Int32.toNatClampNeg ((M 3 5) - 1)) ((M 8 (Int32.toNatClampNeg ((M 3 5) - 1))) + 1)))) : gr l sc m_X0_addPart [.ref 3, .int x1, .int x2] M Q :=
  gr_of (by decide +kernel) (Nat.le_of_ble_eq_true rfl) (List.forall_mem_cons.mpr ⟨rfl, (List.forall_mem_cons.mpr ⟨rfl, (List.forall_mem_cons.mpr ⟨rfl, (fun _ h => absurd h List.not_mem_nil)⟩)⟩)⟩) (w_X0_addPart_0 l sc M Q x1 x2 h)
set_option maxHeartbeats 400000 in
set_option maxRecDepth 20000 in
theorem w_X0_stepAt_0 (l : Launch) (sc : Nat × (Nat → Int32)) (M : gl_N) (Q : Option Value → gl_N → Prop) (x1 x2 : Int32)
  (h : (vp_in ((x1 * 4) + x2) 24) ∧ (Q (some (.int (M 14 (Int32.toNatClampNeg ((x1 * 4) + x2))))) M)) : gv l sc m_X0_stepAt 0 [.ref 12, .int x1, .int x2] [] M Q := by
  obtain ⟨hp, h⟩ := h
  refine gv_seg ok_X0_stepAt 0 8 (Ps := [vp_in ((x1 * 4) + x2) 24]) (pc' := 10) (ls' := [.ref 12, .int x1, .int x2]) (st' := [.int (M 14 (Int32.toNatClampNeg ((x1 * 4) + x2)))]) (M2 := M) rfl hp ?_
  exact gv_retI (gl_dec ok_X0_stepAt 8 10 (.ireturn) 1 rfl) rfl h
theorem e_X0_stepAt (l : Launch) (sc : Nat × (Nat → Int32)) (M : gl_N) (Q : Option Value → gl_N → Prop) (x1 x2 : Int32)
  (h : (vp_in ((x1 * 4) + x2) 24) ∧ (Q (some (.int (M 14 (Int32.toNatClampNeg ((x1 * 4) + x2))))) M)) : gr l sc m_X0_stepAt [.ref 12, .int x1, .int x2] M Q :=
  gr_of (by decide +kernel) (Nat.le_of_ble_eq_true rfl) (List.forall_mem_cons.mpr ⟨rfl, (List.forall_mem_cons.mpr ⟨rfl, (List.forall_mem_cons.mpr ⟨rfl, (fun _ h => absurd h List.not_mem_nil)⟩)⟩)⟩) (w_X0_stepAt_0 l sc M Q x1 x2 h)
set_option maxHeartbeats 400000 in
set_option maxRecDepth 20000 in
theorem w_X0_scaleCount_0 (l : Launch) (sc : Nat × (Nat → Int32)) (M : gl_N) (Q : Option Value → gl_N → Prop)
  (h : Q (some (.int ((M 12 5) * 24))) M) : gv l sc m_X0_scaleCount 0 [.ref 12] [] M Q := by
  refine gv_seg ok_X0_scaleCount 0 4 (Ps := []) (pc' := 7) (ls' := [.ref 12]) (st' := [.int ((M 12 5) * 24)]) (M2 := M) rfl trivial ?_
  exact gv_retI (gl_dec ok_X0_scaleCount 4 7 (.ireturn) 1 rfl) rfl h
theorem e_X0_scaleCount (l : Launch) (sc : Nat × (Nat → Int32)) (M : gl_N) (Q : Option Value → gl_N → Prop)
  (h : Q (some (.int ((M 12 5) * 24))) M) : gr l sc m_X0_scaleCount [.ref 12] M Q :=
  gr_of (by decide +kernel) (Nat.le_of_ble_eq_true rfl) (List.forall_mem_cons.mpr ⟨rfl, (fun _ h => absurd h List.not_mem_nil)⟩) (w_X0_scaleCount_0 l sc M Q h)
set_option maxHeartbeats 400000 in
set_option maxRecDepth 20000 in
theorem w_X0_isScale_0 (l : Launch) (sc : Nat × (Nat → Int32)) (M : gl_N) (Q : Option Value → gl_N → Prop) (x1 : Int32)
  (h : (x1 < 0 → Q (some (.int 0)) M) ∧ (¬ x1 < 0 → gr l sc m_X0_scaleCount [.ref 12] M (fun r1 M2 => ∃ v3 : Int32, r1 = some (.int v3) ∧ ((v3 ≤ x1 → Q (some (.int 0)) M2) ∧ (¬ v3 ≤ x1 → Q (some (.int 1)) M2))))) : gv l sc m_X0_isScale 0 [.ref 12, .int x1] [] M Q := by
  refine gv_seg ok_X0_isScale 0 1 (Ps := []) (pc' := 1) (ls' := [.ref 12, .int x1]) (st' := [.int x1]) (M2 := M) rfl trivial ?_
  refine gv_if_lt (t := 16) (by decide) (gl_dec ok_X0_isScale 1 1 (.ifCond .lt 15) 3 rfl) (fun c => ?_) (fun c => ?_)
  · replace h := h.1 c
    refine gv_seg ok_X0_isScale 8 1 (Ps := []) (pc' := 17) (ls' := [.ref 12, .int x1]) (st' := [.int 0]) (M2 := M) rfl trivial ?_
    exact gv_retZ (gl_dec ok_X0_isScale 9 17 (.ireturn) 1 rfl) rfl (by decide) h
  · replace h := h.2 c
    refine gv_seg ok_X0_isScale 2 2 (Ps := []) (pc' := 6) (ls' := [.ref 12, .int x1]) (st' := [.ref 12, .int x1]) (M2 := M) rfl trivial ?_
    refine gv_vcall (M' := m_X0_scaleCount) (o := 12) (ci := 0) (As := []) (st := [.int x1]) (gl_dec ok_X0_isScale 4 6 (.invokevirtual 56) 3 rfl) (gl_lnk ok_X0_isScale 4 rfl rfl) mw_X0_scaleCount iw_X0_scaleCount lw_X0_scaleCount ⟨by decide, by decide⟩ rfl rfl rfl ⟨rfl, Nat.le_of_ble_eq_true rfl⟩ h (fun r1 M2 hq => ?_)
    obtain ⟨v3, rfl, h⟩ := hq
    change gv l sc m_X0_isScale 9 [.ref 12, .int x1] [.int v3, .int x1] M2 Q
    refine gv_icmp_ge (t := 16) (by decide) (gl_dec ok_X0_isScale 5 9 (.if_icmp .ge 7) 3 rfl) (fun c => ?_) (fun c => ?_)
    · replace h := h.1 c
      refine gv_seg ok_X0_isScale 8 1 (Ps := []) (pc' := 17) (ls' := [.ref 12, .int x1]) (st' := [.int 0]) (M2 := M2) rfl trivial ?_
      exact gv_retZ (gl_dec ok_X0_isScale 9 17 (.ireturn) 1 rfl) rfl (by decide) h
    · replace h := h.2 c
      refine gv_seg ok_X0_isScale 6 1 (Ps := []) (pc' := 13) (ls' := [.ref 12, .int x1]) (st' := [.int 1]) (M2 := M2) rfl trivial ?_
      refine gv_goto (t := 17) (by decide) (gl_dec ok_X0_isScale 7 13 (.goto 4) 3 rfl) ?_
      exact gv_retZ (gl_dec ok_X0_isScale 9 17 (.ireturn) 1 rfl) rfl (by decide) h
theorem e_X0_isScale (l : Launch) (sc : Nat × (Nat → Int32)) (M : gl_N) (Q : Option Value → gl_N → Prop) (x1 : Int32)
  (h : (x1 < 0 → Q (some (.int 0)) M) ∧ (¬ x1 < 0 → gr l sc m_X0_scaleCount [.ref 12] M (fun r1 M2 => ∃ v3 : Int32, r1 = some (.int v3) ∧ ((v3 ≤ x1 → Q (some (.int 0)) M2) ∧ (¬ v3 ≤ x1 → Q (some (.int 1)) M2))))) : gr l sc m_X0_isScale [.ref 12, .int x1] M Q :=
  gr_of (by decide +kernel) (Nat.le_of_ble_eq_true rfl) (List.forall_mem_cons.mpr ⟨rfl, (List.forall_mem_cons.mpr ⟨rfl, (fun _ h => absurd h List.not_mem_nil)⟩)⟩) (w_X0_isScale_0 l sc M Q x1 h)
set_option maxHeartbeats 400000 in
set_option maxRecDepth 20000 in
theorem w_X0_partsOf_0 (l : Launch) (sc : Nat × (Nat → Int32)) (M : gl_N) (Q : Option Value → gl_N → Prop) (x1 : Int32)
  (h : (vp_in (x1 / 24) 6) ∧ (Q (some (.int (M 17 (Int32.toNatClampNeg (x1 / 24))))) M)) : gv l sc m_X0_partsOf 0 [.ref 12, .int x1] [] M Q := by
  obtain ⟨hp, h⟩ := h
  refine gv_seg ok_X0_partsOf 0 6 (Ps := [¬ (24 : Int32) = 0, vp_in (x1 / 24) 6]) (pc' := 9) (ls' := [.ref 12, .int x1]) (st' := [.int (M 17 (Int32.toNatClampNeg (x1 / 24)))]) (M2 := M) rfl ⟨(show ¬ (24 : Int32) = 0 by decide), hp⟩ ?_
  exact gv_retI (gl_dec ok_X0_partsOf 6 9 (.ireturn) 1 rfl) rfl h
theorem e_X0_partsOf (l : Launch) (sc : Nat × (Nat → Int32)) (M : gl_N) (Q : Option Value → gl_N → Prop) (x1 : Int32)
  (h : (vp_in (x1 / 24) 6) ∧ (Q (some (.int (M 17 (Int32.toNatClampNeg (x1 / 24))))) M)) : gr l sc m_X0_partsOf [.ref 12, .int x1] M Q :=
  gr_of (by decide +kernel) (Nat.le_of_ble_eq_true rfl) (List.forall_mem_cons.mpr ⟨rfl, (List.forall_mem_cons.mpr ⟨rfl, (fun _ h => absurd h List.not_mem_nil)⟩)⟩) (w_X0_partsOf_0 l sc M Q x1 h)
set_option maxHeartbeats 400000 in
set_option maxRecDepth 20000 in
theorem w_X0_cellAt_0 (l : Launch) (sc : Nat × (Nat → Int32)) (M : gl_N) (Q : Option Value → gl_N → Prop) (x1 x2 : Int32)
  (h : (vp_in (((x1 / 24) * 4) + x2) 24) ∧ (Q (some (.int (M 18 (Int32.toNatClampNeg (((x1 / 24) * 4) + x2))))) M)) : gv l sc m_X0_cellAt 0 [.ref 12, .int x1, .int x2] [] M Q := by
  obtain ⟨hp, h⟩ := h
  refine gv_seg ok_X0_cellAt 0 10 (Ps := [¬ (24 : Int32) = 0, vp_in (((x1 / 24) * 4) + x2) 24]) (pc' := 13) (ls' := [.ref 12, .int x1, .int x2]) (st' := [.int (M 18 (Int32.toNatClampNeg (((x1 / 24) * 4) + x2)))]) (M2 := M) rfl ⟨(show ¬ (24 : Int32) = 0 by decide), hp⟩ ?_
  exact gv_retI (gl_dec ok_X0_cellAt 10 13 (.ireturn) 1 rfl) rfl h
theorem e_X0_cellAt (l : Launch) (sc : Nat × (Nat → Int32)) (M : gl_N) (Q : Option Value → gl_N → Prop) (x1 x2 : Int32)
  (h : (vp_in (((x1 / 24) * 4) + x2) 24) ∧ (Q (some (.int (M 18 (Int32.toNatClampNeg (((x1 / 24) * 4) + x2))))) M)) : gr l sc m_X0_cellAt [.ref 12, .int x1, .int x2] M Q :=
  gr_of (by decide +kernel) (Nat.le_of_ble_eq_true rfl) (List.forall_mem_cons.mpr ⟨rfl, (List.forall_mem_cons.mpr ⟨rfl, (List.forall_mem_cons.mpr ⟨rfl, (fun _ h => absurd h List.not_mem_nil)⟩)⟩)⟩) (w_X0_cellAt_0 l sc M Q x1 x2 h)
set_option maxHeartbeats 400000 in
set_option maxRecDepth 20000 in
theorem w_X0_pitchAt_0 (l : Launch) (sc : Nat × (Nat → Int32)) (M : gl_N) (Q : Option Value → gl_N → Prop) (x1 x2 : Int32)
  (h : (vp_in (((x1 / 24) * 4) + x2) 24) ∧ (Q (some (.int ((x1 - x1 / 24 * 24) + (M 19 (Int32.toNatClampNeg (((x1 / 24) * 4) + x2)))))) M)) : gv l sc m_X0_pitchAt 0 [.ref 12, .int x1, .int x2] [] M Q := by
  obtain ⟨hp, h⟩ := h
  refine gv_seg ok_X0_pitchAt 0 14 (Ps := [¬ (24 : Int32) = 0, ¬ (24 : Int32) = 0, vp_in (((x1 / 24) * 4) + x2) 24]) (pc' := 18) (ls' := [.ref 12, .int x1, .int x2]) (st' := [.int ((x1 - x1 / 24 * 24) + (M 19 (Int32.toNatClampNeg (((x1 / 24) * 4) + x2))))]) (M2 := M) rfl ⟨(show ¬ (24 : Int32) = 0 by decide), (show ¬ (24 : Int32) = 0 by decide), hp⟩ ?_
  exact gv_retI (gl_dec ok_X0_pitchAt 14 18 (.ireturn) 1 rfl) rfl h
theorem e_X0_pitchAt (l : Launch) (sc : Nat × (Nat → Int32)) (M : gl_N) (Q : Option Value → gl_N → Prop) (x1 x2 : Int32)
  (h : (vp_in (((x1 / 24) * 4) + x2) 24) ∧ (Q (some (.int ((x1 - x1 / 24 * 24) + (M 19 (Int32.toNatClampNeg (((x1 / 24) * 4) + x2)))))) M)) : gr l sc m_X0_pitchAt [.ref 12, .int x1, .int x2] M Q :=
  gr_of (by decide +kernel) (Nat.le_of_ble_eq_true rfl) (List.forall_mem_cons.mpr ⟨rfl, (List.forall_mem_cons.mpr ⟨rfl, (List.forall_mem_cons.mpr ⟨rfl, (fun _ h => absurd h List.not_mem_nil)⟩)⟩)⟩) (w_X0_pitchAt_0 l sc M Q x1 x2 h)
set_option maxHeartbeats 400000 in
set_option maxRecDepth 20000 in
theorem w_X0_placedCell_0 (l : Launch) (sc : Nat × (Nat → Int32)) (M : gl_N) (Q : Option Value → gl_N → Prop) (x1 x2 : Int32)
  (h : gr l sc m_X0_cellAt [.ref 12, .int x1, .int x2] M (fun r1 M2 => ∃ v3 : Int32, r1 = some (.int v3) ∧ (gr l sc m_X0_pitchAt [.ref 12, .int x1, .int x2] M2 (fun r4 M5 => ∃ v6 : Int32, r4 = some (.int v6) ∧ (Q (some (.int ((v3 * 81) + v6))) M5))))) : gv l sc m_X0_placedCell 0 [.ref 12, .int x1, .int x2] [] M Q := by
  refine gv_seg ok_X0_placedCell 0 3 (Ps := []) (pc' := 3) (ls' := [.ref 12, .int x1, .int x2]) (st' := [.int x2, .int x1, .ref 12]) (M2 := M) rfl trivial ?_
  refine gv_vcall (M' := m_X0_cellAt) (o := 12) (ci := 0) (As := [.int x1, .int x2]) (st := []) (gl_dec ok_X0_placedCell 3 3 (.invokevirtual 60) 3 rfl) (gl_lnk ok_X0_placedCell 3 rfl rfl) mw_X0_cellAt iw_X0_cellAt lw_X0_cellAt ⟨by decide, by decide⟩ rfl rfl rfl ⟨rfl, Nat.le_of_ble_eq_true rfl⟩ h (fun r1 M2 hq => ?_)
  obtain ⟨v3, rfl, h⟩ := hq
  change gv l sc m_X0_placedCell 6 [.ref 12, .int x1, .int x2] [.int v3] M2 Q
  refine gv_seg ok_X0_placedCell 4 5 (Ps := []) (pc' := 12) (ls' := [.ref 12, .int x1, .int x2]) (st' := [.int x2, .int x1, .ref 12, .int (v3 * 81)]) (M2 := M2) rfl trivial ?_
  refine gv_vcall (M' := m_X0_pitchAt) (o := 12) (ci := 0) (As := [.int x1, .int x2]) (st := [.int (v3 * 81)]) (gl_dec ok_X0_placedCell 9 12 (.invokevirtual 63) 3 rfl) (gl_lnk ok_X0_placedCell 9 rfl rfl) mw_X0_pitchAt iw_X0_pitchAt lw_X0_pitchAt ⟨by decide, by decide⟩ rfl rfl rfl ⟨rfl, Nat.le_of_ble_eq_true rfl⟩ h (fun r4 M5 hq => ?_)
  obtain ⟨v6, rfl, h⟩ := hq
  change gv l sc m_X0_placedCell 15 [.ref 12, .int x1, .int x2] [.int v6, .int (v3 * 81)] M5 Q
  refine gv_seg ok_X0_placedCell 10 1 (Ps := []) (pc' := 16) (ls' := [.ref 12, .int x1, .int x2]) (st' := [.int ((v3 * 81) + v6)]) (M2 := M5) rfl trivial ?_
  exact gv_retI (gl_dec ok_X0_placedCell 11 16 (.ireturn) 1 rfl) rfl h
theorem e_X0_placedCell (l : Launch) (sc : Nat × (Nat → Int32)) (M : gl_N) (Q : Option Value → gl_N → Prop) (x1 x2 : Int32)
  (h : gr l sc m_X0_cellAt [.ref 12, .int x1, .int x2] M (fun r1 M2 => ∃ v3 : Int32, r1 = some (.int v3) ∧ (gr l sc m_X0_pitchAt [.ref 12, .int x1, .int x2] M2 (fun r4 M5 => ∃ v6 : Int32, r4 = some (.int v6) ∧ (Q (some (.int ((v3 * 81) + v6))) M5))))) : gr l sc m_X0_placedCell [.ref 12, .int x1, .int x2] M Q :=
  gr_of (by decide +kernel) (Nat.le_of_ble_eq_true rfl) (List.forall_mem_cons.mpr ⟨rfl, (List.forall_mem_cons.mpr ⟨rfl, (List.forall_mem_cons.mpr ⟨rfl, (fun _ h => absurd h List.not_mem_nil)⟩)⟩)⟩) (w_X0_placedCell_0 l sc M Q x1 x2 h)
set_option maxHeartbeats 400000 in
set_option maxRecDepth 20000 in
theorem w_X0_isIn_0 (l : Launch) (sc : Nat × (Nat → Int32)) (M : gl_N) (Q : Option Value → gl_N → Prop) (x1 x2 x3 : Int32)
  (h : gr l sc m_X0_pitchAt [.ref 12, .int x1, .int x2] M (fun r1 M2 => ∃ v3 : Int32, r1 = some (.int v3) ∧ (gr l sc m_X0_cellAt [.ref 12, .int x1, .int x2] M2 (fun r4 M5 => ∃ v6 : Int32, r4 = some (.int v6) ∧ (((x3 - v3) < 0 → Q (some (.int 0)) M5) ∧ (¬ (x3 - v3) < 0 → (vp_in v6 6) ∧ (((M5 15 (Int32.toNatClampNeg v6)) < (x3 - v3) → Q (some (.int 0)) M5) ∧ (¬ (M5 15 (Int32.toNatClampNeg v6)) < (x3 - v3) → (vp_in v6 6) ∧ ((¬ (((M5 16 (Int32.toNatClampNeg v6)) >>> ((x3 - v3) &&& 31)) &&& 1) = 1 → Q (some (.int 0)) M5) ∧ ((((M5 16 (Int32.toNatClampNeg v6)) >>> ((x3 - v3) &&& 31)) &&& 1) = 1 → Q (some (.int 1)) M5)))))))))) : gv l sc m_X0_isIn 0 [.ref 12, .int x1, .int x2, .int x3, .float 0, .float 0] [] M Q := by
  refine gv_seg ok_X0_isIn 0 4 (Ps := []) (pc' := 4) (ls' := [.ref 12, .int x1, .int x2, .int x3, .float 0, .float 0]) (st' := [.int x2, .int x1, .ref 12, .int x3]) (M2 := M) rfl trivial ?_
  refine gv_vcall (M' := m_X0_pitchAt) (o := 12) (ci := 0) (As := [.int x1, .int x2]) (st := [.int x3]) (gl_dec ok_X0_isIn 4 4 (.invokevirtual 63) 3 rfl) (gl_lnk ok_X0_isIn 4 rfl rfl) mw_X0_pitchAt iw_X0_pitchAt lw_X0_pitchAt ⟨by decide, by decide⟩ rfl rfl rfl ⟨rfl, Nat.le_of_ble_eq_true rfl⟩ h (fun r1 M2 hq => ?_)
  obtain ⟨v3, rfl, h⟩ := hq
  change gv l sc m_X0_isIn 7 [.ref 12, .int x1, .int x2, .int x3, .float 0, .float 0] [.int v3, .int x3] M2 Q
  refine gv_seg ok_X0_isIn 5 5 (Ps := []) (pc' := 13) (ls' := [.ref 12, .int x1, .int x2, .int x3, .int (x3 - v3), .float 0]) (st' := [.int x2, .int x1, .ref 12]) (M2 := M2) rfl trivial ?_
  refine gv_vcall (M' := m_X0_cellAt) (o := 12) (ci := 0) (As := [.int x1, .int x2]) (st := []) (gl_dec ok_X0_isIn 10 13 (.invokevirtual 60) 3 rfl) (gl_lnk ok_X0_isIn 10 rfl rfl) mw_X0_cellAt iw_X0_cellAt lw_X0_cellAt ⟨by decide, by decide⟩ rfl rfl rfl ⟨rfl, Nat.le_of_ble_eq_true rfl⟩ h (fun r4 M5 hq => ?_)
  obtain ⟨v6, rfl, h⟩ := hq
  change gv l sc m_X0_isIn 16 [.ref 12, .int x1, .int x2, .int x3, .int (x3 - v3), .float 0] [.int v6] M5 Q
  refine gv_seg ok_X0_isIn 11 2 (Ps := []) (pc' := 20) (ls' := [.ref 12, .int x1, .int x2, .int x3, .int (x3 - v3), .int v6]) (st' := [.int (x3 - v3)]) (M2 := M5) rfl trivial ?_
  refine gv_if_lt (t := 55) (by decide) (gl_dec ok_X0_isIn 13 20 (.ifCond .lt 35) 3 rfl) (fun c => ?_) (fun c => ?_)
  · replace h := h.1 c
    refine gv_seg ok_X0_isIn 32 1 (Ps := []) (pc' := 56) (ls' := [.ref 12, .int x1, .int x2, .int x3, .int (x3 - v3), .int v6]) (st' := [.int 0]) (M2 := M5) rfl trivial ?_
    exact gv_retZ (gl_dec ok_X0_isIn 33 56 (.ireturn) 1 rfl) rfl (by decide) h
  · replace h := h.2 c
    obtain ⟨hp, h⟩ := h
    refine gv_seg ok_X0_isIn 14 5 (Ps := [vp_in v6 6]) (pc' := 32) (ls' := [.ref 12, .int x1, .int x2, .int x3, .int (x3 - v3), .int v6]) (st' := [.int (M5 15 (Int32.toNatClampNeg v6)), .int (x3 - v3)]) (M2 := M5) rfl hp ?_
    refine gv_icmp_gt (t := 55) (by decide) (gl_dec ok_X0_isIn 19 32 (.if_icmp .gt 23) 3 rfl) (fun c => ?_) (fun c => ?_)
    · replace h := h.1 c
      refine gv_seg ok_X0_isIn 32 1 (Ps := []) (pc' := 56) (ls' := [.ref 12, .int x1, .int x2, .int x3, .int (x3 - v3), .int v6]) (st' := [.int 0]) (M2 := M5) rfl trivial ?_
      exact gv_retZ (gl_dec ok_X0_isIn 33 56 (.ireturn) 1 rfl) rfl (by decide) h
    · replace h := h.2 c
      obtain ⟨hp, h⟩ := h
      refine gv_seg ok_X0_isIn 20 9 (Ps := [vp_in v6 6]) (pc' := 48) (ls' := [.ref 12, .int x1, .int x2, .int x3, .int (x3 - v3), .int v6]) (st' := [.int 1, .int (((M5 16 (Int32.toNatClampNeg v6)) >>> ((x3 - v3) &&& 31)) &&& 1)]) (M2 := M5) rfl hp ?_
      refine gv_icmp_ne (t := 55) (by decide) (gl_dec ok_X0_isIn 29 48 (.if_icmp .ne 7) 3 rfl) (fun c => ?_) (fun c => ?_)
      · replace h := h.1 c
        refine gv_seg ok_X0_isIn 32 1 (Ps := []) (pc' := 56) (ls' := [.ref 12, .int x1, .int x2, .int x3, .int (x3 - v3), .int v6]) (st' := [.int 0]) (M2 := M5) rfl trivial ?_
        exact gv_retZ (gl_dec ok_X0_isIn 33 56 (.ireturn) 1 rfl) rfl (by decide) h
      · replace h := h.2 c
        refine gv_seg ok_X0_isIn 30 1 (Ps := []) (pc' := 52) (ls' := [.ref 12, .int x1, .int x2, .int x3, .int (x3 - v3), .int v6]) (st' := [.int 1]) (M2 := M5) rfl trivial ?_
        refine gv_goto (t := 56) (by decide) (gl_dec ok_X0_isIn 31 52 (.goto 4) 3 rfl) ?_
        exact gv_retZ (gl_dec ok_X0_isIn 33 56 (.ireturn) 1 rfl) rfl (by decide) h
theorem e_X0_isIn (l : Launch) (sc : Nat × (Nat → Int32)) (M : gl_N) (Q : Option Value → gl_N → Prop) (x1 x2 x3 : Int32)
  (h : gr l sc m_X0_pitchAt [.ref 12, .int x1, .int x2] M (fun r1 M2 => ∃ v3 : Int32, r1 = some (.int v3) ∧ (gr l sc m_X0_cellAt [.ref 12, .int x1, .int x2] M2 (fun r4 M5 => ∃ v6 : Int32, r4 = some (.int v6) ∧ (((x3 - v3) < 0 → Q (some (.int 0)) M5) ∧ (¬ (x3 - v3) < 0 → (vp_in v6 6) ∧ (((M5 15 (Int32.toNatClampNeg v6)) < (x3 - v3) → Q (some (.int 0)) M5) ∧ (¬ (M5 15 (Int32.toNatClampNeg v6)) < (x3 - v3) → (vp_in v6 6) ∧ ((¬ (((M5 16 (Int32.toNatClampNeg v6)) >>> ((x3 - v3) &&& 31)) &&& 1) = 1 → Q (some (.int 0)) M5) ∧ ((((M5 16 (Int32.toNatClampNeg v6)) >>> ((x3 - v3) &&& 31)) &&& 1) = 1 → Q (some (.int 1)) M5)))))))))) : gr l sc m_X0_isIn [.ref 12, .int x1, .int x2, .int x3] M Q :=
  gr_of (by decide +kernel) (Nat.le_of_ble_eq_true rfl) (List.forall_mem_cons.mpr ⟨rfl, (List.forall_mem_cons.mpr ⟨rfl, (List.forall_mem_cons.mpr ⟨rfl, (List.forall_mem_cons.mpr ⟨rfl, (fun _ h => absurd h List.not_mem_nil)⟩)⟩)⟩)⟩) (w_X0_isIn_0 l sc M Q x1 x2 x3 h)
set_option maxHeartbeats 400000 in
set_option maxRecDepth 20000 in
theorem w_X0_partsWith_0 (l : Launch) (sc : Nat × (Nat → Int32)) (M : gl_N) (Q : Option Value → gl_N → Prop) (x1 x2 : Int32)
  (h : gv l sc m_X0_partsWith 5 [.ref 12, .int x1, .int x2, .int 0, .int 0] [] M Q) : gv l sc m_X0_partsWith 0 [.ref 12, .int x1, .int x2, .float 0, .float 0] [] M Q := by
  refine gv_seg ok_X0_partsWith 0 4 (Ps := []) (pc' := 5) (ls' := [.ref 12, .int x1, .int x2, .int 0, .int 0]) (st' := []) (M2 := M) rfl trivial ?_
  exact h
theorem e_X0_partsWith (l : Launch) (sc : Nat × (Nat → Int32)) (M : gl_N) (Q : Option Value → gl_N → Prop) (x1 x2 : Int32)
  (h : gv l sc m_X0_partsWith 5 [.ref 12, .int x1, .int x2, .int 0, .int 0] [] M Q) : gr l sc m_X0_partsWith [.ref 12, .int x1, .int x2] M Q :=
  gr_of (by decide +kernel) (Nat.le_of_ble_eq_true rfl) (List.forall_mem_cons.mpr ⟨rfl, (List.forall_mem_cons.mpr ⟨rfl, (List.forall_mem_cons.mpr ⟨rfl, (fun _ h => absurd h List.not_mem_nil)⟩)⟩)⟩) (w_X0_partsWith_0 l sc M Q x1 x2 h)
set_option maxHeartbeats 400000 in
set_option maxRecDepth 20000 in
theorem w_X0_partsWith_5 (l : Launch) (sc : Nat × (Nat → Int32)) (M : gl_N) (Q : Option Value → gl_N → Prop) (x1 x2 x3 x4 : Int32)
  (h : gr l sc m_X0_partsOf [.ref 12, .int x1] M (fun r1 M2 => ∃ v3 : Int32, r1 = some (.int v3) ∧ ((v3 ≤ x4 → Q (some (.int x3)) M2) ∧ (¬ v3 ≤ x4 → gr l sc m_X0_isIn [.ref 12, .int x1, .int x4, .int x2] M2 (fun r4 M5 => ∃ v6 : Int32, r4 = some (.int v6) ∧ ((v6 = 0 → gv l sc m_X0_partsWith 5 [.ref 12, .int x1, .int x2, .int x3, .int (x4 + 1)] [] M5 Q) ∧ (¬ v6 = 0 → gv l sc m_X0_partsWith 5 [.ref 12, .int x1, .int x2, .int (x3 + 1), .int (x4 + 1)] [] M5 Q))))))) : gv l sc m_X0_partsWith 5 [.ref 12, .int x1, .int x2, .int x3, .int x4] [] M Q := by
  refine gv_seg ok_X0_partsWith 4 3 (Ps := []) (pc' := 9) (ls' := [.ref 12, .int x1, .int x2, .int x3, .int x4]) (st' := [.int x1, .ref 12, .int x4]) (M2 := M) rfl trivial ?_
  refine gv_vcall (M' := m_X0_partsOf) (o := 12) (ci := 0) (As := [.int x1]) (st := [.int x4]) (gl_dec ok_X0_partsWith 7 9 (.invokevirtual 66) 3 rfl) (gl_lnk ok_X0_partsWith 7 rfl rfl) mw_X0_partsOf iw_X0_partsOf lw_X0_partsOf ⟨by decide, by decide⟩ rfl rfl rfl ⟨rfl, Nat.le_of_ble_eq_true rfl⟩ h (fun r1 M2 hq => ?_)
  obtain ⟨v3, rfl, h⟩ := hq
  change gv l sc m_X0_partsWith 12 [.ref 12, .int x1, .int x2, .int x3, .int x4] [.int v3, .int x4] M2 Q
  refine gv_icmp_ge (t := 35) (by decide) (gl_dec ok_X0_partsWith 8 12 (.if_icmp .ge 23) 3 rfl) (fun c => ?_) (fun c => ?_)
  · replace h := h.1 c
    refine gv_seg ok_X0_partsWith 18 1 (Ps := []) (pc' := 36) (ls' := [.ref 12, .int x1, .int x2, .int x3, .int x4]) (st' := [.int x3]) (M2 := M2) rfl trivial ?_
    exact gv_retI (gl_dec ok_X0_partsWith 19 36 (.ireturn) 1 rfl) rfl h
  · replace h := h.2 c
    refine gv_seg ok_X0_partsWith 9 4 (Ps := []) (pc' := 20) (ls' := [.ref 12, .int x1, .int x2, .int x3, .int x4]) (st' := [.int x2, .int x4, .int x1, .ref 12]) (M2 := M2) rfl trivial ?_
    refine gv_vcall (M' := m_X0_isIn) (o := 12) (ci := 0) (As := [.int x1, .int x4, .int x2]) (st := []) (gl_dec ok_X0_partsWith 13 20 (.invokevirtual 70) 3 rfl) (gl_lnk ok_X0_partsWith 13 rfl rfl) mw_X0_isIn iw_X0_isIn lw_X0_isIn ⟨by decide, by decide⟩ rfl rfl rfl ⟨rfl, Nat.le_of_ble_eq_true rfl⟩ h (fun r4 M5 hq => ?_)
    obtain ⟨v6, rfl, h⟩ := hq
    change gv l sc m_X0_partsWith 23 [.ref 12, .int x1, .int x2, .int x3, .int x4] [.int v6] M5 Q
    refine gv_if_eq (t := 29) (by decide) (gl_dec ok_X0_partsWith 14 23 (.ifCond .eq 6) 3 rfl) (fun c => ?_) (fun c => ?_)
    · replace h := h.1 c
      refine gv_seg ok_X0_partsWith 16 1 (Ps := []) (pc' := 32) (ls' := [.ref 12, .int x1, .int x2, .int x3, .int (x4 + 1)]) (st' := []) (M2 := M5) rfl trivial ?_
      refine gv_goto (t := 5) (by decide) (gl_dec ok_X0_partsWith 17 32 (.goto (-27)) 3 rfl) ?_
      exact h
    · replace h := h.2 c
      refine gv_seg ok_X0_partsWith 15 2 (Ps := []) (pc' := 32) (ls' := [.ref 12, .int x1, .int x2, .int (x3 + 1), .int (x4 + 1)]) (st' := []) (M2 := M5) rfl trivial ?_
      refine gv_goto (t := 5) (by decide) (gl_dec ok_X0_partsWith 17 32 (.goto (-27)) 3 rfl) ?_
      exact h
set_option maxHeartbeats 400000 in
set_option maxRecDepth 20000 in
theorem w_X0_samePart_0 (l : Launch) (sc : Nat × (Nat → Int32)) (M : gl_N) (Q : Option Value → gl_N → Prop) (x1 x2 x3 : Int32)
  (h : gr l sc m_X0_placedCell [.ref 12, .int x1, .int x2] M (fun r1 M2 => ∃ v3 : Int32, r1 = some (.int v3) ∧ (gv l sc m_X0_samePart 11 [.ref 12, .int x1, .int x2, .int x3, .int v3, .int 0] [] M2 Q))) : gv l sc m_X0_samePart 0 [.ref 12, .int x1, .int x2, .int x3, .float 0, .float 0] [] M Q := by
  refine gv_seg ok_X0_samePart 0 3 (Ps := []) (pc' := 3) (ls' := [.ref 12, .int x1, .int x2, .int x3, .float 0, .float 0]) (st' := [.int x2, .int x1, .ref 12]) (M2 := M) rfl trivial ?_
  refine gv_vcall (M' := m_X0_placedCell) (o := 12) (ci := 0) (As := [.int x1, .int x2]) (st := []) (gl_dec ok_X0_samePart 3 3 (.invokevirtual 74) 3 rfl) (gl_lnk ok_X0_samePart 3 rfl rfl) mw_X0_placedCell iw_X0_placedCell lw_X0_placedCell ⟨by decide, by decide⟩ rfl rfl rfl ⟨rfl, Nat.le_of_ble_eq_true rfl⟩ h (fun r1 M2 hq => ?_)
  obtain ⟨v3, rfl, h⟩ := hq
  change gv l sc m_X0_samePart 6 [.ref 12, .int x1, .int x2, .int x3, .float 0, .float 0] [.int v3] M2 Q
  refine gv_seg ok_X0_samePart 4 3 (Ps := []) (pc' := 11) (ls' := [.ref 12, .int x1, .int x2, .int x3, .int v3, .int 0]) (st' := []) (M2 := M2) rfl trivial ?_
  exact h
theorem e_X0_samePart (l : Launch) (sc : Nat × (Nat → Int32)) (M : gl_N) (Q : Option Value → gl_N → Prop) (x1 x2 x3 : Int32)
  (h : gr l sc m_X0_placedCell [.ref 12, .int x1, .int x2] M (fun r1 M2 => ∃ v3 : Int32, r1 = some (.int v3) ∧ (gv l sc m_X0_samePart 11 [.ref 12, .int x1, .int x2, .int x3, .int v3, .int 0] [] M2 Q))) : gr l sc m_X0_samePart [.ref 12, .int x1, .int x2, .int x3] M Q :=
  gr_of (by decide +kernel) (Nat.le_of_ble_eq_true rfl) (List.forall_mem_cons.mpr ⟨rfl, (List.forall_mem_cons.mpr ⟨rfl, (List.forall_mem_cons.mpr ⟨rfl, (List.forall_mem_cons.mpr ⟨rfl, (fun _ h => absurd h List.not_mem_nil)⟩)⟩)⟩)⟩) (w_X0_samePart_0 l sc M Q x1 x2 x3 h)
set_option maxHeartbeats 400000 in
set_option maxRecDepth 20000 in
theorem w_X0_samePart_11 (l : Launch) (sc : Nat × (Nat → Int32)) (M : gl_N) (Q : Option Value → gl_N → Prop) (x1 x2 x3 x4 x5 : Int32)
  (h : gr l sc m_X0_partsOf [.ref 12, .int x3] M (fun r1 M2 => ∃ v3 : Int32, r1 = some (.int v3) ∧ ((v3 ≤ x5 → Q (some (.int (-1))) M2) ∧ (¬ v3 ≤ x5 → gr l sc m_X0_placedCell [.ref 12, .int x3, .int x5] M2 (fun r4 M5 => ∃ v6 : Int32, r4 = some (.int v6) ∧ ((¬ v6 = x4 → gv l sc m_X0_samePart 11 [.ref 12, .int x1, .int x2, .int x3, .int x4, .int (x5 + 1)] [] M5 Q) ∧ (v6 = x4 → Q (some (.int x5)) M5))))))) : gv l sc m_X0_samePart 11 [.ref 12, .int x1, .int x2, .int x3, .int x4, .int x5] [] M Q := by
  refine gv_seg ok_X0_samePart 7 3 (Ps := []) (pc' := 15) (ls' := [.ref 12, .int x1, .int x2, .int x3, .int x4, .int x5]) (st' := [.int x3, .ref 12, .int x5]) (M2 := M) rfl trivial ?_
  refine gv_vcall (M' := m_X0_partsOf) (o := 12) (ci := 0) (As := [.int x3]) (st := [.int x5]) (gl_dec ok_X0_samePart 10 15 (.invokevirtual 66) 3 rfl) (gl_lnk ok_X0_samePart 10 rfl rfl) mw_X0_partsOf iw_X0_partsOf lw_X0_partsOf ⟨by decide, by decide⟩ rfl rfl rfl ⟨rfl, Nat.le_of_ble_eq_true rfl⟩ h (fun r1 M2 hq => ?_)
  obtain ⟨v3, rfl, h⟩ := hq
  change gv l sc m_X0_samePart 18 [.ref 12, .int x1, .int x2, .int x3, .int x4, .int x5] [.int v3, .int x5] M2 Q
  refine gv_icmp_ge (t := 42) (by decide) (gl_dec ok_X0_samePart 11 18 (.if_icmp .ge 24) 3 rfl) (fun c => ?_) (fun c => ?_)
  · replace h := h.1 c
    refine gv_seg ok_X0_samePart 22 1 (Ps := []) (pc' := 43) (ls' := [.ref 12, .int x1, .int x2, .int x3, .int x4, .int x5]) (st' := [.int (-1)]) (M2 := M2) rfl trivial ?_
    exact gv_retI (gl_dec ok_X0_samePart 23 43 (.ireturn) 1 rfl) rfl h
  · replace h := h.2 c
    refine gv_seg ok_X0_samePart 12 3 (Ps := []) (pc' := 25) (ls' := [.ref 12, .int x1, .int x2, .int x3, .int x4, .int x5]) (st' := [.int x5, .int x3, .ref 12]) (M2 := M2) rfl trivial ?_
    refine gv_vcall (M' := m_X0_placedCell) (o := 12) (ci := 0) (As := [.int x3, .int x5]) (st := []) (gl_dec ok_X0_samePart 15 25 (.invokevirtual 74) 3 rfl) (gl_lnk ok_X0_samePart 15 rfl rfl) mw_X0_placedCell iw_X0_placedCell lw_X0_placedCell ⟨by decide, by decide⟩ rfl rfl rfl ⟨rfl, Nat.le_of_ble_eq_true rfl⟩ h (fun r4 M5 hq => ?_)
    obtain ⟨v6, rfl, h⟩ := hq
    change gv l sc m_X0_samePart 28 [.ref 12, .int x1, .int x2, .int x3, .int x4, .int x5] [.int v6] M5 Q
    refine gv_seg ok_X0_samePart 16 1 (Ps := []) (pc' := 30) (ls' := [.ref 12, .int x1, .int x2, .int x3, .int x4, .int x5]) (st' := [.int x4, .int v6]) (M2 := M5) rfl trivial ?_
    refine gv_icmp_ne (t := 36) (by decide) (gl_dec ok_X0_samePart 17 30 (.if_icmp .ne 6) 3 rfl) (fun c => ?_) (fun c => ?_)
    · replace h := h.1 c
      refine gv_seg ok_X0_samePart 20 1 (Ps := []) (pc' := 39) (ls' := [.ref 12, .int x1, .int x2, .int x3, .int x4, .int (x5 + 1)]) (st' := []) (M2 := M5) rfl trivial ?_
      refine gv_goto (t := 11) (by decide) (gl_dec ok_X0_samePart 21 39 (.goto (-28)) 3 rfl) ?_
      exact h
    · replace h := h.2 c
      refine gv_seg ok_X0_samePart 18 1 (Ps := []) (pc' := 35) (ls' := [.ref 12, .int x1, .int x2, .int x3, .int x4, .int x5]) (st' := [.int x5]) (M2 := M5) rfl trivial ?_
      exact gv_retI (gl_dec ok_X0_samePart 19 35 (.ireturn) 1 rfl) rfl h

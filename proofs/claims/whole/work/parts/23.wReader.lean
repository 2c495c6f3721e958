set_option maxHeartbeats 400000 in
set_option maxRecDepth 20000 in
theorem w_X4_read_0 (l : Launch) (sc : Nat × (Nat → Int32)) (M : gl_N) (Q : Option Value → gl_N → Prop)
  (h : gr l sc m_X0_dropAll [.ref 3] M (fun r1 M2 => r1 = none ∧ (gr l sc m_X4_skipBlanks [.ref 11] (gl_u2 (gl_u2 M2 11 2 0) 11 3 (-1)) (fun r3 M4 => r3 = none ∧ (gv l sc m_X4_read 25 [.ref 11, .int 0, .int 0] [] M4 Q))))) : gv l sc m_X4_read 0 [.ref 11, .float 0, .float 0] [] M Q := by
  refine gv_seg ok_X4_read 0 2 (Ps := []) (pc' := 4) (ls' := [.ref 11, .float 0, .float 0]) (st' := [.ref 3]) (M2 := M) rfl trivial ?_
  refine gv_vcall (M' := m_X0_dropAll) (o := 3) (ci := 0) (As := []) (st := []) (gl_dec ok_X4_read 2 4 (.invokevirtual 26) 3 rfl) (gl_lnk ok_X4_read 2 rfl rfl) mw_X0_dropAll iw_X0_dropAll lw_X0_dropAll ⟨by decide, by decide⟩ rfl rfl rfl ⟨rfl, Nat.le_of_ble_eq_true rfl⟩ h (fun r1 M2 hq => ?_)
  obtain ⟨rfl, h⟩ := hq
  change gv l sc m_X4_read 7 [.ref 11, .float 0, .float 0] [] M2 Q
  refine gv_seg ok_X4_read 3 9 (Ps := []) (pc' := 20) (ls' := [.ref 11, .int 0, .float 0]) (st' := [.ref 11]) (M2 := (gl_u2 (gl_u2 M2 11 2 0) 11 3 (-1))) rfl trivial ?_
  refine gv_vcall (M' := m_X4_skipBlanks) (o := 11) (ci := 4) (As := []) (st := []) (gl_dec ok_X4_read 12 20 (.invokevirtual 31) 3 rfl) (gl_lnk ok_X4_read 12 rfl rfl) mw_X4_skipBlanks iw_X4_skipBlanks lw_X4_skipBlanks ⟨by decide, by decide⟩ rfl rfl rfl ⟨rfl, Nat.le_of_ble_eq_true rfl⟩ h (fun r3 M4 hq => ?_)
  obtain ⟨rfl, h⟩ := hq
  change gv l sc m_X4_read 23 [.ref 11, .int 0, .float 0] [] M4 Q
  refine gv_seg ok_X4_read 13 2 (Ps := []) (pc' := 25) (ls' := [.ref 11, .int 0, .int 0]) (st' := []) (M2 := M4) rfl trivial ?_
  exact h
theorem e_X4_read (l : Launch) (sc : Nat × (Nat → Int32)) (M : gl_N) (Q : Option Value → gl_N → Prop)
  (h : gr l sc m_X0_dropAll [.ref 3] M (fun r1 M2 => r1 = none ∧ (gr l sc m_X4_skipBlanks [.ref 11] (gl_u2 (gl_u2 M2 11 2 0) 11 3 (-1)) (fun r3 M4 => r3 = none ∧ (gv l sc m_X4_read 25 [.ref 11, .int 0, .int 0] [] M4 Q))))) : gr l sc m_X4_read [.ref 11] M Q :=
  gr_of (by decide +kernel) (Nat.le_of_ble_eq_true rfl) (List.forall_mem_cons.mpr ⟨rfl, (fun _ h => absurd h List.not_mem_nil)⟩) (w_X4_read_0 l sc M Q h)
set_option maxHeartbeats 400000 in
set_option maxRecDepth 20000 in
theorem w_X4_read_25 (l : Launch) (sc : Nat × (Nat → Int32)) (M : gl_N) (Q : Option Value → gl_N → Prop) (x1 x2 : Int32)
  (h : (130 ≤ x2 → (¬ (M 11 3) = (-1) → Q (some (.int ((-10) - (M 11 3)))) M) ∧ ((M 11 3) = (-1) → Q (some (.int x1)) M)) ∧ (¬ 130 ≤ x2 → ((M 1 1) ≤ (M 11 2) → (¬ (M 11 3) = (-1) → Q (some (.int ((-10) - (M 11 3)))) M) ∧ ((M 11 3) = (-1) → Q (some (.int x1)) M)) ∧ (¬ (M 1 1) ≤ (M 11 2) → (¬ (M 11 3) = (-1) → (¬ (M 11 3) = (-1) → Q (some (.int ((-10) - (M 11 3)))) M) ∧ ((M 11 3) = (-1) → Q (some (.int x1)) M)) ∧ ((M 11 3) = (-1) → gr l sc m_X4_readItem [.ref 11] M (fun r1 M2 => r1 = none ∧ (gr l sc m_X4_skipBlanks [.ref 11] M2 (fun r3 M4 => r3 = none ∧ (gv l sc m_X4_read 25 [.ref 11, .int (x1 + 1), .int (x2 + 1)] [] M4 Q)))))))) : gv l sc m_X4_read 25 [.ref 11, .int x1, .int x2] [] M Q := by
  refine gv_seg ok_X4_read 15 2 (Ps := []) (pc' := 29) (ls' := [.ref 11, .int x1, .int x2]) (st' := [.int 130, .int x2]) (M2 := M) rfl trivial ?_
  refine gv_icmp_ge (t := 71) (by decide) (gl_dec ok_X4_read 17 29 (.if_icmp .ge 42) 3 rfl) (fun c => ?_) (fun c => ?_)
  · replace h := h.1 c
    refine gv_seg ok_X4_read 35 3 (Ps := []) (pc' := 76) (ls' := [.ref 11, .int x1, .int x2]) (st' := [.int (-1), .int (M 11 3)]) (M2 := M) rfl trivial ?_
    refine gv_icmp_ne (t := 83) (by decide) (gl_dec ok_X4_read 38 76 (.if_icmp .ne 7) 3 rfl) (fun c => ?_) (fun c => ?_)
    · replace h := h.1 c
      refine gv_seg ok_X4_read 41 4 (Ps := []) (pc' := 90) (ls' := [.ref 11, .int x1, .int x2]) (st' := [.int ((-10) - (M 11 3))]) (M2 := M) rfl trivial ?_
      exact gv_retI (gl_dec ok_X4_read 45 90 (.ireturn) 1 rfl) rfl h
    · replace h := h.2 c
      refine gv_seg ok_X4_read 39 1 (Ps := []) (pc' := 80) (ls' := [.ref 11, .int x1, .int x2]) (st' := [.int x1]) (M2 := M) rfl trivial ?_
      refine gv_goto (t := 90) (by decide) (gl_dec ok_X4_read 40 80 (.goto 10) 3 rfl) ?_
      exact gv_retI (gl_dec ok_X4_read 45 90 (.ireturn) 1 rfl) rfl h
  · replace h := h.2 c
    refine gv_seg ok_X4_read 18 5 (Ps := []) (pc' := 43) (ls' := [.ref 11, .int x1, .int x2]) (st' := [.int (M 1 1), .int (M 11 2)]) (M2 := M) rfl trivial ?_
    refine gv_icmp_ge (t := 71) (by decide) (gl_dec ok_X4_read 23 43 (.if_icmp .ge 28) 3 rfl) (fun c => ?_) (fun c => ?_)
    · replace h := h.1 c
      refine gv_seg ok_X4_read 35 3 (Ps := []) (pc' := 76) (ls' := [.ref 11, .int x1, .int x2]) (st' := [.int (-1), .int (M 11 3)]) (M2 := M) rfl trivial ?_
      refine gv_icmp_ne (t := 83) (by decide) (gl_dec ok_X4_read 38 76 (.if_icmp .ne 7) 3 rfl) (fun c => ?_) (fun c => ?_)
      · replace h := h.1 c
        refine gv_seg ok_X4_read 41 4 (Ps := []) (pc' := 90) (ls' := [.ref 11, .int x1, .int x2]) (st' := [.int ((-10) - (M 11 3))]) (M2 := M) rfl trivial ?_
        exact gv_retI (gl_dec ok_X4_read 45 90 (.ireturn) 1 rfl) rfl h
      · replace h := h.2 c
        refine gv_seg ok_X4_read 39 1 (Ps := []) (pc' := 80) (ls' := [.ref 11, .int x1, .int x2]) (st' := [.int x1]) (M2 := M) rfl trivial ?_
        refine gv_goto (t := 90) (by decide) (gl_dec ok_X4_read 40 80 (.goto 10) 3 rfl) ?_
        exact gv_retI (gl_dec ok_X4_read 45 90 (.ireturn) 1 rfl) rfl h
    · replace h := h.2 c
      refine gv_seg ok_X4_read 24 3 (Ps := []) (pc' := 51) (ls' := [.ref 11, .int x1, .int x2]) (st' := [.int (-1), .int (M 11 3)]) (M2 := M) rfl trivial ?_
      refine gv_icmp_ne (t := 71) (by decide) (gl_dec ok_X4_read 27 51 (.if_icmp .ne 20) 3 rfl) (fun c => ?_) (fun c => ?_)
      · replace h := h.1 c
        refine gv_seg ok_X4_read 35 3 (Ps := []) (pc' := 76) (ls' := [.ref 11, .int x1, .int x2]) (st' := [.int (-1), .int (M 11 3)]) (M2 := M) rfl trivial ?_
        refine gv_icmp_ne (t := 83) (by decide) (gl_dec ok_X4_read 38 76 (.if_icmp .ne 7) 3 rfl) (fun c => ?_) (fun c => ?_)
        · replace h := h.1 c
          refine gv_seg ok_X4_read 41 4 (Ps := []) (pc' := 90) (ls' := [.ref 11, .int x1, .int x2]) (st' := [.int ((-10) - (M 11 3))]) (M2 := M) rfl trivial ?_
          exact gv_retI (gl_dec ok_X4_read 45 90 (.ireturn) 1 rfl) rfl h
        · replace h := h.2 c
          refine gv_seg ok_X4_read 39 1 (Ps := []) (pc' := 80) (ls' := [.ref 11, .int x1, .int x2]) (st' := [.int x1]) (M2 := M) rfl trivial ?_
          refine gv_goto (t := 90) (by decide) (gl_dec ok_X4_read 40 80 (.goto 10) 3 rfl) ?_
          exact gv_retI (gl_dec ok_X4_read 45 90 (.ireturn) 1 rfl) rfl h
      · replace h := h.2 c
        refine gv_seg ok_X4_read 28 1 (Ps := []) (pc' := 55) (ls' := [.ref 11, .int x1, .int x2]) (st' := [.ref 11]) (M2 := M) rfl trivial ?_
        refine gv_vcall (M' := m_X4_readItem) (o := 11) (ci := 4) (As := []) (st := []) (gl_dec ok_X4_read 29 55 (.invokevirtual 39) 3 rfl) (gl_lnk ok_X4_read 29 rfl rfl) mw_X4_readItem iw_X4_readItem lw_X4_readItem ⟨by decide, by decide⟩ rfl rfl rfl ⟨rfl, Nat.le_of_ble_eq_true rfl⟩ h (fun r1 M2 hq => ?_)
        obtain ⟨rfl, h⟩ := hq
        change gv l sc m_X4_read 58 [.ref 11, .int x1, .int x2] [] M2 Q
        refine gv_seg ok_X4_read 30 1 (Ps := []) (pc' := 59) (ls' := [.ref 11, .int x1, .int x2]) (st' := [.ref 11]) (M2 := M2) rfl trivial ?_
        refine gv_vcall (M' := m_X4_skipBlanks) (o := 11) (ci := 4) (As := []) (st := []) (gl_dec ok_X4_read 31 59 (.invokevirtual 31) 3 rfl) (gl_lnk ok_X4_read 31 rfl rfl) mw_X4_skipBlanks iw_X4_skipBlanks lw_X4_skipBlanks ⟨by decide, by decide⟩ rfl rfl rfl ⟨rfl, Nat.le_of_ble_eq_true rfl⟩ h (fun r3 M4 hq => ?_)
        obtain ⟨rfl, h⟩ := hq
        change gv l sc m_X4_read 62 [.ref 11, .int x1, .int x2] [] M4 Q
        refine gv_seg ok_X4_read 32 2 (Ps := []) (pc' := 68) (ls' := [.ref 11, .int (x1 + 1), .int (x2 + 1)]) (st' := []) (M2 := M4) rfl trivial ?_
        refine gv_goto (t := 25) (by decide) (gl_dec ok_X4_read 34 68 (.goto (-43)) 3 rfl) ?_
        exact h
set_option maxHeartbeats 400000 in
set_option maxRecDepth 20000 in
theorem w_X4_readItem_0 (l : Launch) (sc : Nat × (Nat → Int32)) (M : gl_N) (Q : Option Value → gl_N → Prop)
  (h : gr l sc m_X7_letterAt [.ref 1, .int (M 11 2)] M (fun r1 M2 => ∃ v3 : Int32, r1 = some (.int v3) ∧ ((¬ v3 = 99 → (¬ v3 = 109 → Q none (gl_u2 M2 11 3 (M2 11 2))) ∧ (v3 = 109 → (6 ≤ (M2 3 5) → Q none (gl_u2 M2 11 3 (M2 11 2))) ∧ (¬ 6 ≤ (M2 3 5) → gr l sc m_X4_readMode [.ref 11] (gl_u2 M2 11 2 ((M2 11 2) + 1)) (fun r4 M5 => r4 = none ∧ (Q none M5))))) ∧ (v3 = 99 → (6 ≤ (M2 3 0) → (¬ v3 = 109 → Q none (gl_u2 M2 11 3 (M2 11 2))) ∧ (v3 = 109 → (6 ≤ (M2 3 5) → Q none (gl_u2 M2 11 3 (M2 11 2))) ∧ (¬ 6 ≤ (M2 3 5) → gr l sc m_X4_readMode [.ref 11] (gl_u2 M2 11 2 ((M2 11 2) + 1)) (fun r6 M7 => r6 = none ∧ (Q none M7))))) ∧ (¬ 6 ≤ (M2 3 0) → gr l sc m_X4_readCell [.ref 11] (gl_u2 M2 11 2 ((M2 11 2) + 1)) (fun r8 M9 => r8 = none ∧ (Q none M9))))))) : gv l sc m_X4_readItem 0 [.ref 11, .float 0] [] M Q := by
  refine gv_seg ok_X4_readItem 0 4 (Ps := []) (pc' := 8) (ls' := [.ref 11, .float 0]) (st' := [.int (M 11 2), .ref 1]) (M2 := M) rfl trivial ?_
  refine gv_vcall (M' := m_X7_letterAt) (o := 1) (ci := 7) (As := [.int (M 11 2)]) (st := []) (gl_dec ok_X4_readItem 4 8 (.invokevirtual 42) 3 rfl) (gl_lnk ok_X4_readItem 4 rfl rfl) mw_X7_letterAt iw_X7_letterAt lw_X7_letterAt ⟨by decide, by decide⟩ rfl rfl rfl ⟨rfl, Nat.le_of_ble_eq_true rfl⟩ h (fun r1 M2 hq => ?_)
  obtain ⟨v3, rfl, h⟩ := hq
  change gv l sc m_X4_readItem 11 [.ref 11, .float 0] [.int v3] M2 Q
  refine gv_seg ok_X4_readItem 5 3 (Ps := []) (pc' := 15) (ls' := [.ref 11, .int v3]) (st' := [.int 99, .int v3]) (M2 := M2) rfl trivial ?_
  refine gv_icmp_ne (t := 47) (by decide) (gl_dec ok_X4_readItem 8 15 (.if_icmp .ne 32) 3 rfl) (fun c => ?_) (fun c => ?_)
  · replace h := h.1 c
    refine gv_seg ok_X4_readItem 23 2 (Ps := []) (pc' := 50) (ls' := [.ref 11, .int v3]) (st' := [.int 109, .int v3]) (M2 := M2) rfl trivial ?_
    refine gv_icmp_ne (t := 82) (by decide) (gl_dec ok_X4_readItem 25 50 (.if_icmp .ne 32) 3 rfl) (fun c => ?_) (fun c => ?_)
    · replace h := h.1 c
      refine gv_seg ok_X4_readItem 40 4 (Ps := []) (pc' := 90) (ls' := [.ref 11, .int v3]) (st' := []) (M2 := (gl_u2 M2 11 3 (M2 11 2))) rfl trivial ?_
      exact gv_retV (gl_dec ok_X4_readItem 44 90 (.return_) 1 rfl) rfl h
    · replace h := h.2 c
      refine gv_seg ok_X4_readItem 26 4 (Ps := []) (pc' := 62) (ls' := [.ref 11, .int v3]) (st' := [.int 6, .int (M2 3 5)]) (M2 := M2) rfl trivial ?_
      refine gv_icmp_ge (t := 82) (by decide) (gl_dec ok_X4_readItem 30 62 (.if_icmp .ge 20) 3 rfl) (fun c => ?_) (fun c => ?_)
      · replace h := h.1 c
        refine gv_seg ok_X4_readItem 40 4 (Ps := []) (pc' := 90) (ls' := [.ref 11, .int v3]) (st' := []) (M2 := (gl_u2 M2 11 3 (M2 11 2))) rfl trivial ?_
        exact gv_retV (gl_dec ok_X4_readItem 44 90 (.return_) 1 rfl) rfl h
      · replace h := h.2 c
        refine gv_seg ok_X4_readItem 31 7 (Ps := []) (pc' := 76) (ls' := [.ref 11, .int v3]) (st' := [.ref 11]) (M2 := (gl_u2 M2 11 2 ((M2 11 2) + 1))) rfl trivial ?_
        refine gv_vcall (M' := m_X4_readMode) (o := 11) (ci := 4) (As := []) (st := []) (gl_dec ok_X4_readItem 38 76 (.invokevirtual 55) 3 rfl) (gl_lnk ok_X4_readItem 38 rfl rfl) mw_X4_readMode iw_X4_readMode lw_X4_readMode ⟨by decide, by decide⟩ rfl rfl rfl ⟨rfl, Nat.le_of_ble_eq_true rfl⟩ h (fun r4 M5 hq => ?_)
        obtain ⟨rfl, h⟩ := hq
        change gv l sc m_X4_readItem 79 [.ref 11, .int v3] [] M5 Q
        refine gv_goto (t := 90) (by decide) (gl_dec ok_X4_readItem 39 79 (.goto 11) 3 rfl) ?_
        exact gv_retV (gl_dec ok_X4_readItem 44 90 (.return_) 1 rfl) rfl h
  · replace h := h.2 c
    refine gv_seg ok_X4_readItem 9 4 (Ps := []) (pc' := 27) (ls' := [.ref 11, .int v3]) (st' := [.int 6, .int (M2 3 0)]) (M2 := M2) rfl trivial ?_
    refine gv_icmp_ge (t := 47) (by decide) (gl_dec ok_X4_readItem 13 27 (.if_icmp .ge 20) 3 rfl) (fun c => ?_) (fun c => ?_)
    · replace h := h.1 c
      refine gv_seg ok_X4_readItem 23 2 (Ps := []) (pc' := 50) (ls' := [.ref 11, .int v3]) (st' := [.int 109, .int v3]) (M2 := M2) rfl trivial ?_
      refine gv_icmp_ne (t := 82) (by decide) (gl_dec ok_X4_readItem 25 50 (.if_icmp .ne 32) 3 rfl) (fun c => ?_) (fun c => ?_)
      · replace h := h.1 c
        refine gv_seg ok_X4_readItem 40 4 (Ps := []) (pc' := 90) (ls' := [.ref 11, .int v3]) (st' := []) (M2 := (gl_u2 M2 11 3 (M2 11 2))) rfl trivial ?_
        exact gv_retV (gl_dec ok_X4_readItem 44 90 (.return_) 1 rfl) rfl h
      · replace h := h.2 c
        refine gv_seg ok_X4_readItem 26 4 (Ps := []) (pc' := 62) (ls' := [.ref 11, .int v3]) (st' := [.int 6, .int (M2 3 5)]) (M2 := M2) rfl trivial ?_
        refine gv_icmp_ge (t := 82) (by decide) (gl_dec ok_X4_readItem 30 62 (.if_icmp .ge 20) 3 rfl) (fun c => ?_) (fun c => ?_)
        · replace h := h.1 c
          refine gv_seg ok_X4_readItem 40 4 (Ps := []) (pc' := 90) (ls' := [.ref 11, .int v3]) (st' := []) (M2 := (gl_u2 M2 11 3 (M2 11 2))) rfl trivial ?_
          exact gv_retV (gl_dec ok_X4_readItem 44 90 (.return_) 1 rfl) rfl h
        · replace h := h.2 c
          refine gv_seg ok_X4_readItem 31 7 (Ps := []) (pc' := 76) (ls' := [.ref 11, .int v3]) (st' := [.ref 11]) (M2 := (gl_u2 M2 11 2 ((M2 11 2) + 1))) rfl trivial ?_
          refine gv_vcall (M' := m_X4_readMode) (o := 11) (ci := 4) (As := []) (st := []) (gl_dec ok_X4_readItem 38 76 (.invokevirtual 55) 3 rfl) (gl_lnk ok_X4_readItem 38 rfl rfl) mw_X4_readMode iw_X4_readMode lw_X4_readMode ⟨by decide, by decide⟩ rfl rfl rfl ⟨rfl, Nat.le_of_ble_eq_true rfl⟩ h (fun r6 M7 hq => ?_)
          obtain ⟨rfl, h⟩ := hq
          change gv l sc m_X4_readItem 79 [.ref 11, .int v3] [] M7 Q
          refine gv_goto (t := 90) (by decide) (gl_dec ok_X4_readItem 39 79 (.goto 11) 3 rfl) ?_
          exact gv_retV (gl_dec ok_X4_readItem 44 90 (.return_) 1 rfl) rfl h
    · replace h := h.2 c
      refine gv_seg ok_X4_readItem 14 7 (Ps := []) (pc' := 41) (ls' := [.ref 11, .int v3]) (st' := [.ref 11]) (M2 := (gl_u2 M2 11 2 ((M2 11 2) + 1))) rfl trivial ?_
      refine gv_vcall (M' := m_X4_readCell) (o := 11) (ci := 4) (As := []) (st := []) (gl_dec ok_X4_readItem 21 41 (.invokevirtual 49) 3 rfl) (gl_lnk ok_X4_readItem 21 rfl rfl) mw_X4_readCell iw_X4_readCell lw_X4_readCell ⟨by decide, by decide⟩ rfl rfl rfl ⟨rfl, Nat.le_of_ble_eq_true rfl⟩ h (fun r8 M9 hq => ?_)
      obtain ⟨rfl, h⟩ := hq
      change gv l sc m_X4_readItem 44 [.ref 11, .int v3] [] M9 Q
      refine gv_goto (t := 90) (by decide) (gl_dec ok_X4_readItem 22 44 (.goto 46) 3 rfl) ?_
      exact gv_retV (gl_dec ok_X4_readItem 44 90 (.return_) 1 rfl) rfl h
theorem e_X4_readItem (l : Launch) (sc : Nat × (Nat → Int32)) (M : gl_N) (Q : Option Value → gl_N → Prop)
  (h : gr l sc m_X7_letterAt [.ref 1, .int (M 11 2)] M (fun r1 M2 => ∃ v3 : Int32, r1 = some (.int v3) ∧ ((¬ v3 = 99 → (¬ v3 = 109 → Q none (gl_u2 M2 11 3 (M2 11 2))) ∧ (v3 = 109 → (6 ≤ (M2 3 5) → Q none (gl_u2 M2 11 3 (M2 11 2))) ∧ (¬ 6 ≤ (M2 3 5) → gr l sc m_X4_readMode [.ref 11] (gl_u2 M2 11 2 ((M2 11 2) + 1)) (fun r4 M5 => r4 = none ∧ (Q none M5))))) ∧ (v3 = 99 → (6 ≤ (M2 3 0) → (¬ v3 = 109 → Q none (gl_u2 M2 11 3 (M2 11 2))) ∧ (v3 = 109 → (6 ≤ (M2 3 5) → Q none (gl_u2 M2 11 3 (M2 11 2))) ∧ (¬ 6 ≤ (M2 3 5) → gr l sc m_X4_readMode [.ref 11] (gl_u2 M2 11 2 ((M2 11 2) + 1)) (fun r6 M7 => r6 = none ∧ (Q none M7))))) ∧ (¬ 6 ≤ (M2 3 0) → gr l sc m_X4_readCell [.ref 11] (gl_u2 M2 11 2 ((M2 11 2) + 1)) (fun r8 M9 => r8 = none ∧ (Q none M9))))))) : gr l sc m_X4_readItem [.ref 11] M Q :=
  gr_of (by decide +kernel) (Nat.le_of_ble_eq_true rfl) (List.forall_mem_cons.mpr ⟨rfl, (fun _ h => absurd h List.not_mem_nil)⟩) (w_X4_readItem_0 l sc M Q h)
set_option maxHeartbeats 400000 in
set_option maxRecDepth 20000 in
theorem w_X4_readCell_0 (l : Launch) (sc : Nat × (Nat → Int32)) (M : gl_N) (Q : Option Value → gl_N → Prop)
  (h : gr l sc m_X0_openCell [.ref 3] M (fun r1 M2 => r1 = none ∧ (gv l sc m_X4_readCell 9 [.ref 11, .int 0, .float 0] [] M2 Q))) : gv l sc m_X4_readCell 0 [.ref 11, .float 0, .float 0] [] M Q := by
  refine gv_seg ok_X4_readCell 0 2 (Ps := []) (pc' := 4) (ls' := [.ref 11, .float 0, .float 0]) (st' := [.ref 3]) (M2 := M) rfl trivial ?_
  refine gv_vcall (M' := m_X0_openCell) (o := 3) (ci := 0) (As := []) (st := []) (gl_dec ok_X4_readCell 2 4 (.invokevirtual 58) 3 rfl) (gl_lnk ok_X4_readCell 2 rfl rfl) mw_X0_openCell iw_X0_openCell lw_X0_openCell ⟨by decide, by decide⟩ rfl rfl rfl ⟨rfl, Nat.le_of_ble_eq_true rfl⟩ h (fun r1 M2 hq => ?_)
  obtain ⟨rfl, h⟩ := hq
  change gv l sc m_X4_readCell 7 [.ref 11, .float 0, .float 0] [] M2 Q
  refine gv_seg ok_X4_readCell 3 2 (Ps := []) (pc' := 9) (ls' := [.ref 11, .int 0, .float 0]) (st' := []) (M2 := M2) rfl trivial ?_
  exact h
theorem e_X4_readCell (l : Launch) (sc : Nat × (Nat → Int32)) (M : gl_N) (Q : Option Value → gl_N → Prop)
  (h : gr l sc m_X0_openCell [.ref 3] M (fun r1 M2 => r1 = none ∧ (gv l sc m_X4_readCell 9 [.ref 11, .int 0, .float 0] [] M2 Q))) : gr l sc m_X4_readCell [.ref 11] M Q :=
  gr_of (by decide +kernel) (Nat.le_of_ble_eq_true rfl) (List.forall_mem_cons.mpr ⟨rfl, (fun _ h => absurd h List.not_mem_nil)⟩) (w_X4_readCell_0 l sc M Q h)
set_option maxHeartbeats 400000 in
set_option maxRecDepth 20000 in
theorem w_X4_readCell_9 (l : Launch) (sc : Nat × (Nat → Int32)) (M : gl_N) (Q : Option Value → gl_N → Prop) (x1 : Int32)
  (h : (4 ≤ x1 → gr l sc m_X4_readEnd [.ref 11] M (fun r1 M2 => r1 = none ∧ (Q none M2))) ∧ (¬ 4 ≤ x1 → (x1 ≤ 0 → gr l sc m_X4_readNumber [.ref 11, .int 1, .int 4] M (fun r3 M4 => ∃ v5 : Int32, r3 = some (.int v5) ∧ ((¬ v5 = (-1) → gr l sc m_X0_addStep [.ref 3, .int v5] M4 (fun r6 M7 => r6 = none ∧ (gv l sc m_X4_readCell 9 [.ref 11, .int (x1 + 1), .float 0] [] M7 Q))) ∧ (v5 = (-1) → Q none M4)))) ∧ (¬ x1 ≤ 0 → gr l sc m_X4_atEnd [.ref 11] M (fun r8 M9 => ∃ v10 : Int32, r8 = some (.int v10) ∧ ((v10 = 0 → gr l sc m_X4_readNumber [.ref 11, .int 1, .int 4] M9 (fun r11 M12 => ∃ v13 : Int32, r11 = some (.int v13) ∧ ((¬ v13 = (-1) → gr l sc m_X0_addStep [.ref 3, .int v13] M12 (fun r14 M15 => r14 = none ∧ (gv l sc m_X4_readCell 9 [.ref 11, .int (x1 + 1), .float 0] [] M15 Q))) ∧ (v13 = (-1) → Q none M12)))) ∧ (¬ v10 = 0 → gr l sc m_X4_readEnd [.ref 11] M9 (fun r16 M17 => r16 = none ∧ (Q none M17)))))))) : gv l sc m_X4_readCell 9 [.ref 11, .int x1, .float 0] [] M Q := by
  refine gv_seg ok_X4_readCell 5 2 (Ps := []) (pc' := 11) (ls' := [.ref 11, .int x1, .float 0]) (st' := [.int 4, .int x1]) (M2 := M) rfl trivial ?_
  refine gv_icmp_ge (t := 55) (by decide) (gl_dec ok_X4_readCell 7 11 (.if_icmp .ge 44) 3 rfl) (fun c => ?_) (fun c => ?_)
  · replace h := h.1 c
    refine gv_seg ok_X4_readCell 29 1 (Ps := []) (pc' := 56) (ls' := [.ref 11, .int x1, .float 0]) (st' := [.ref 11]) (M2 := M) rfl trivial ?_
    refine gv_vcall (M' := m_X4_readEnd) (o := 11) (ci := 4) (As := []) (st := []) (gl_dec ok_X4_readCell 30 56 (.invokevirtual 73) 3 rfl) (gl_lnk ok_X4_readCell 30 rfl rfl) mw_X4_readEnd iw_X4_readEnd lw_X4_readEnd ⟨by decide, by decide⟩ rfl rfl rfl ⟨rfl, Nat.le_of_ble_eq_true rfl⟩ h (fun r1 M2 hq => ?_)
    obtain ⟨rfl, h⟩ := hq
    change gv l sc m_X4_readCell 59 [.ref 11, .int x1, .float 0] [] M2 Q
    exact gv_retV (gl_dec ok_X4_readCell 31 59 (.return_) 1 rfl) rfl h
  · replace h := h.2 c
    refine gv_seg ok_X4_readCell 8 1 (Ps := []) (pc' := 15) (ls' := [.ref 11, .int x1, .float 0]) (st' := [.int x1]) (M2 := M) rfl trivial ?_
    refine gv_if_le (t := 28) (by decide) (gl_dec ok_X4_readCell 9 15 (.ifCond .le 13) 3 rfl) (fun c => ?_) (fun c => ?_)
    · replace h := h.1 c
      refine gv_seg ok_X4_readCell 14 3 (Ps := []) (pc' := 31) (ls' := [.ref 11, .int x1, .float 0]) (st' := [.int 4, .int 1, .ref 11]) (M2 := M) rfl trivial ?_
      refine gv_vcall (M' := m_X4_readNumber) (o := 11) (ci := 4) (As := [.int 1, .int 4]) (st := []) (gl_dec ok_X4_readCell 17 31 (.invokevirtual 65) 3 rfl) (gl_lnk ok_X4_readCell 17 rfl rfl) mw_X4_readNumber iw_X4_readNumber lw_X4_readNumber ⟨by decide, by decide⟩ rfl rfl rfl ⟨rfl, Nat.le_of_ble_eq_true rfl⟩ h (fun r3 M4 hq => ?_)
      obtain ⟨v5, rfl, h⟩ := hq
      change gv l sc m_X4_readCell 34 [.ref 11, .int x1, .float 0] [.int v5] M4 Q
      refine gv_seg ok_X4_readCell 18 3 (Ps := []) (pc' := 37) (ls' := [.ref 11, .int x1, .int v5]) (st' := [.int (-1), .int v5]) (M2 := M4) rfl trivial ?_
      refine gv_icmp_ne (t := 41) (by decide) (gl_dec ok_X4_readCell 21 37 (.if_icmp .ne 4) 3 rfl) (fun c => ?_) (fun c => ?_)
      · replace h := h.1 c
        refine gv_seg ok_X4_readCell 23 3 (Ps := []) (pc' := 46) (ls' := [.ref 11, .int x1, .int v5]) (st' := [.int v5, .ref 3]) (M2 := M4) rfl trivial ?_
        refine gv_vcall (M' := m_X0_addStep) (o := 3) (ci := 0) (As := [.int v5]) (st := []) (gl_dec ok_X4_readCell 26 46 (.invokevirtual 69) 3 rfl) (gl_lnk ok_X4_readCell 26 rfl rfl) mw_X0_addStep iw_X0_addStep lw_X0_addStep ⟨by decide, by decide⟩ rfl rfl rfl ⟨rfl, Nat.le_of_ble_eq_true rfl⟩ h (fun r6 M7 hq => ?_)
        obtain ⟨rfl, h⟩ := hq
        change gv l sc m_X4_readCell 49 [.ref 11, .int x1, .int v5] [] M7 Q
        refine gv_seg ok_X4_readCell 27 1 (Ps := []) (pc' := 52) (ls' := [.ref 11, .int (x1 + 1), .int v5]) (st' := []) (M2 := M7) rfl trivial ?_
        refine gv_goto (t := 9) (by decide) (gl_dec ok_X4_readCell 28 52 (.goto (-43)) 3 rfl) ?_
        exact gv_weak (ls' := [.ref 11, .int (x1 + 1), .float 0]) ⟨Or.inl rfl, ⟨Or.inl rfl, ⟨Or.inr rfl, trivial⟩⟩⟩ h
      · replace h := h.2 c
        exact gv_retV (gl_dec ok_X4_readCell 22 40 (.return_) 1 rfl) rfl h
    · replace h := h.2 c
      refine gv_seg ok_X4_readCell 10 1 (Ps := []) (pc' := 19) (ls' := [.ref 11, .int x1, .float 0]) (st' := [.ref 11]) (M2 := M) rfl trivial ?_
      refine gv_vcall (M' := m_X4_atEnd) (o := 11) (ci := 4) (As := []) (st := []) (gl_dec ok_X4_readCell 11 19 (.invokevirtual 61) 3 rfl) (gl_lnk ok_X4_readCell 11 rfl rfl) mw_X4_atEnd iw_X4_atEnd lw_X4_atEnd ⟨by decide, by decide⟩ rfl rfl rfl ⟨rfl, Nat.le_of_ble_eq_true rfl⟩ h (fun r8 M9 hq => ?_)
      obtain ⟨v10, rfl, h⟩ := hq
      change gv l sc m_X4_readCell 22 [.ref 11, .int x1, .float 0] [.int v10] M9 Q
      refine gv_if_eq (t := 28) (by decide) (gl_dec ok_X4_readCell 12 22 (.ifCond .eq 6) 3 rfl) (fun c => ?_) (fun c => ?_)
      · replace h := h.1 c
        refine gv_seg ok_X4_readCell 14 3 (Ps := []) (pc' := 31) (ls' := [.ref 11, .int x1, .float 0]) (st' := [.int 4, .int 1, .ref 11]) (M2 := M9) rfl trivial ?_
        refine gv_vcall (M' := m_X4_readNumber) (o := 11) (ci := 4) (As := [.int 1, .int 4]) (st := []) (gl_dec ok_X4_readCell 17 31 (.invokevirtual 65) 3 rfl) (gl_lnk ok_X4_readCell 17 rfl rfl) mw_X4_readNumber iw_X4_readNumber lw_X4_readNumber ⟨by decide, by decide⟩ rfl rfl rfl ⟨rfl, Nat.le_of_ble_eq_true rfl⟩ h (fun r11 M12 hq => ?_)
        obtain ⟨v13, rfl, h⟩ := hq
        change gv l sc m_X4_readCell 34 [.ref 11, .int x1, .float 0] [.int v13] M12 Q
        refine gv_seg ok_X4_readCell 18 3 (Ps := []) (pc' := 37) (ls' := [.ref 11, .int x1, .int v13]) (st' := [.int (-1), .int v13]) (M2 := M12) rfl trivial ?_
        refine gv_icmp_ne (t := 41) (by decide) (gl_dec ok_X4_readCell 21 37 (.if_icmp .ne 4) 3 rfl) (fun c => ?_) (fun c => ?_)
        · replace h := h.1 c
          refine gv_seg ok_X4_readCell 23 3 (Ps := []) (pc' := 46) (ls' := [.ref 11, .int x1, .int v13]) (st' := [.int v13, .ref 3]) (M2 := M12) rfl trivial ?_
          refine gv_vcall (M' := m_X0_addStep) (o := 3) (ci := 0) (As := [.int v13]) (st := []) (gl_dec ok_X4_readCell 26 46 (.invokevirtual 69) 3 rfl) (gl_lnk ok_X4_readCell 26 rfl rfl) mw_X0_addStep iw_X0_addStep lw_X0_addStep ⟨by decide, by decide⟩ rfl rfl rfl ⟨rfl, Nat.le_of_ble_eq_true rfl⟩ h (fun r14 M15 hq => ?_)
          obtain ⟨rfl, h⟩ := hq
          change gv l sc m_X4_readCell 49 [.ref 11, .int x1, .int v13] [] M15 Q
          refine gv_seg ok_X4_readCell 27 1 (Ps := []) (pc' := 52) (ls' := [.ref 11, .int (x1 + 1), .int v13]) (st' := []) (M2 := M15) rfl trivial ?_
          refine gv_goto (t := 9) (by decide) (gl_dec ok_X4_readCell 28 52 (.goto (-43)) 3 rfl) ?_
          exact gv_weak (ls' := [.ref 11, .int (x1 + 1), .float 0]) ⟨Or.inl rfl, ⟨Or.inl rfl, ⟨Or.inr rfl, trivial⟩⟩⟩ h
        · replace h := h.2 c
          exact gv_retV (gl_dec ok_X4_readCell 22 40 (.return_) 1 rfl) rfl h
      · replace h := h.2 c
        refine gv_goto (t := 55) (by decide) (gl_dec ok_X4_readCell 13 25 (.goto 30) 3 rfl) ?_
        refine gv_seg ok_X4_readCell 29 1 (Ps := []) (pc' := 56) (ls' := [.ref 11, .int x1, .float 0]) (st' := [.ref 11]) (M2 := M9) rfl trivial ?_
        refine gv_vcall (M' := m_X4_readEnd) (o := 11) (ci := 4) (As := []) (st := []) (gl_dec ok_X4_readCell 30 56 (.invokevirtual 73) 3 rfl) (gl_lnk ok_X4_readCell 30 rfl rfl) mw_X4_readEnd iw_X4_readEnd lw_X4_readEnd ⟨by decide, by decide⟩ rfl rfl rfl ⟨rfl, Nat.le_of_ble_eq_true rfl⟩ h (fun r16 M17 hq => ?_)
        obtain ⟨rfl, h⟩ := hq
        change gv l sc m_X4_readCell 59 [.ref 11, .int x1, .float 0] [] M17 Q
        exact gv_retV (gl_dec ok_X4_readCell 31 59 (.return_) 1 rfl) rfl h
set_option maxHeartbeats 400000 in
set_option maxRecDepth 20000 in
theorem w_X4_readMode_0 (l : Launch) (sc : Nat × (Nat → Int32)) (M : gl_N) (Q : Option Value → gl_N → Prop)
  (h : gr l sc m_X4_readNumber [.ref 11, .int 0, .int ((M 3 0) - 1)] M (fun r1 M2 => ∃ v3 : Int32, r1 = some (.int v3) ∧ ((¬ v3 = (-1) → gr l sc m_X0_openMode [.ref 3, .int v3] M2 (fun r4 M5 => r4 = none ∧ (gv l sc m_X4_readMode 31 [.ref 11, .int v3, .int 1, .float 0] [] M5 Q))) ∧ (v3 = (-1) → Q none M2)))) : gv l sc m_X4_readMode 0 [.ref 11, .float 0, .float 0, .float 0] [] M Q := by
  refine gv_seg ok_X4_readMode 0 7 (Ps := []) (pc' := 11) (ls' := [.ref 11, .float 0, .float 0, .float 0]) (st' := [.int ((M 3 0) - 1), .int 0, .ref 11]) (M2 := M) rfl trivial ?_
  refine gv_vcall (M' := m_X4_readNumber) (o := 11) (ci := 4) (As := [.int 0, .int ((M 3 0) - 1)]) (st := []) (gl_dec ok_X4_readMode 7 11 (.invokevirtual 65) 3 rfl) (gl_lnk ok_X4_readMode 7 rfl rfl) mw_X4_readNumber iw_X4_readNumber lw_X4_readNumber ⟨by decide, by decide⟩ rfl rfl rfl ⟨rfl, Nat.le_of_ble_eq_true rfl⟩ h (fun r1 M2 hq => ?_)
  obtain ⟨v3, rfl, h⟩ := hq
  change gv l sc m_X4_readMode 14 [.ref 11, .float 0, .float 0, .float 0] [.int v3] M2 Q
  refine gv_seg ok_X4_readMode 8 3 (Ps := []) (pc' := 17) (ls' := [.ref 11, .int v3, .float 0, .float 0]) (st' := [.int (-1), .int v3]) (M2 := M2) rfl trivial ?_
  refine gv_icmp_ne (t := 21) (by decide) (gl_dec ok_X4_readMode 11 17 (.if_icmp .ne 4) 3 rfl) (fun c => ?_) (fun c => ?_)
  · replace h := h.1 c
    refine gv_seg ok_X4_readMode 13 3 (Ps := []) (pc' := 26) (ls' := [.ref 11, .int v3, .float 0, .float 0]) (st' := [.int v3, .ref 3]) (M2 := M2) rfl trivial ?_
    refine gv_vcall (M' := m_X0_openMode) (o := 3) (ci := 0) (As := [.int v3]) (st := []) (gl_dec ok_X4_readMode 16 26 (.invokevirtual 76) 3 rfl) (gl_lnk ok_X4_readMode 16 rfl rfl) mw_X0_openMode iw_X0_openMode lw_X0_openMode ⟨by decide, by decide⟩ rfl rfl rfl ⟨rfl, Nat.le_of_ble_eq_true rfl⟩ h (fun r4 M5 hq => ?_)
    obtain ⟨rfl, h⟩ := hq
    change gv l sc m_X4_readMode 29 [.ref 11, .int v3, .float 0, .float 0] [] M5 Q
    refine gv_seg ok_X4_readMode 17 2 (Ps := []) (pc' := 31) (ls' := [.ref 11, .int v3, .int 1, .float 0]) (st' := []) (M2 := M5) rfl trivial ?_
    exact h
  · replace h := h.2 c
    exact gv_retV (gl_dec ok_X4_readMode 12 20 (.return_) 1 rfl) rfl h
theorem e_X4_readMode (l : Launch) (sc : Nat × (Nat → Int32)) (M : gl_N) (Q : Option Value → gl_N → Prop)
  (h : gr l sc m_X4_readNumber [.ref 11, .int 0, .int ((M 3 0) - 1)] M (fun r1 M2 => ∃ v3 : Int32, r1 = some (.int v3) ∧ ((¬ v3 = (-1) → gr l sc m_X0_openMode [.ref 3, .int v3] M2 (fun r4 M5 => r4 = none ∧ (gv l sc m_X4_readMode 31 [.ref 11, .int v3, .int 1, .float 0] [] M5 Q))) ∧ (v3 = (-1) → Q none M2)))) : gr l sc m_X4_readMode [.ref 11] M Q :=
  gr_of (by decide +kernel) (Nat.le_of_ble_eq_true rfl) (List.forall_mem_cons.mpr ⟨rfl, (fun _ h => absurd h List.not_mem_nil)⟩) (w_X4_readMode_0 l sc M Q h)
set_option maxHeartbeats 400000 in
set_option maxRecDepth 20000 in
theorem w_X4_readMode_31 (l : Launch) (sc : Nat × (Nat → Int32)) (M : gl_N) (Q : Option Value → gl_N → Prop) (x1 x2 : Int32)
  (h : (4 ≤ x2 → gr l sc m_X4_readEnd [.ref 11] M (fun r1 M2 => r1 = none ∧ (Q none M2))) ∧ (¬ 4 ≤ x2 → gr l sc m_X4_atEnd [.ref 11] M (fun r3 M4 => ∃ v5 : Int32, r3 = some (.int v5) ∧ ((¬ v5 = 0 → gr l sc m_X4_readEnd [.ref 11] M4 (fun r6 M7 => r6 = none ∧ (Q none M7))) ∧ (v5 = 0 → gr l sc m_X4_readNumber [.ref 11, .int 0, .int 3] M4 (fun r8 M9 => ∃ v10 : Int32, r8 = some (.int v10) ∧ ((¬ v10 = (-1) → gr l sc m_X4_readNumber [.ref 11, .int 0, .int ((M9 3 0) - 1)] M9 (fun r11 M12 => ∃ v13 : Int32, r11 = some (.int v13) ∧ ((¬ v13 = (-1) → gr l sc m_X0_addPart [.ref 3, .int v10, .int v13] M12 (fun r14 M15 => r14 = none ∧ (gv l sc m_X4_readMode 31 [.ref 11, .int v13, .int (x2 + 1), .float 0] [] M15 Q))) ∧ (v13 = (-1) → Q none M12)))) ∧ (v10 = (-1) → Q none M9)))))))) : gv l sc m_X4_readMode 31 [.ref 11, .int x1, .int x2, .float 0] [] M Q := by
  refine gv_seg ok_X4_readMode 19 2 (Ps := []) (pc' := 33) (ls' := [.ref 11, .int x1, .int x2, .float 0]) (st' := [.int 4, .int x2]) (M2 := M) rfl trivial ?_
  refine gv_icmp_ge (t := 92) (by decide) (gl_dec ok_X4_readMode 21 33 (.if_icmp .ge 59) 3 rfl) (fun c => ?_) (fun c => ?_)
  · replace h := h.1 c
    refine gv_seg ok_X4_readMode 54 1 (Ps := []) (pc' := 93) (ls' := [.ref 11, .int x1, .int x2, .float 0]) (st' := [.ref 11]) (M2 := M) rfl trivial ?_
    refine gv_vcall (M' := m_X4_readEnd) (o := 11) (ci := 4) (As := []) (st := []) (gl_dec ok_X4_readMode 55 93 (.invokevirtual 73) 3 rfl) (gl_lnk ok_X4_readMode 55 rfl rfl) mw_X4_readEnd iw_X4_readEnd lw_X4_readEnd ⟨by decide, by decide⟩ rfl rfl rfl ⟨rfl, Nat.le_of_ble_eq_true rfl⟩ h (fun r1 M2 hq => ?_)
    obtain ⟨rfl, h⟩ := hq
    change gv l sc m_X4_readMode 96 [.ref 11, .int x1, .int x2, .float 0] [] M2 Q
    exact gv_retV (gl_dec ok_X4_readMode 56 96 (.return_) 1 rfl) rfl h
  · replace h := h.2 c
    refine gv_seg ok_X4_readMode 22 1 (Ps := []) (pc' := 37) (ls' := [.ref 11, .int x1, .int x2, .float 0]) (st' := [.ref 11]) (M2 := M) rfl trivial ?_
    refine gv_vcall (M' := m_X4_atEnd) (o := 11) (ci := 4) (As := []) (st := []) (gl_dec ok_X4_readMode 23 37 (.invokevirtual 61) 3 rfl) (gl_lnk ok_X4_readMode 23 rfl rfl) mw_X4_atEnd iw_X4_atEnd lw_X4_atEnd ⟨by decide, by decide⟩ rfl rfl rfl ⟨rfl, Nat.le_of_ble_eq_true rfl⟩ h (fun r3 M4 hq => ?_)
    obtain ⟨v5, rfl, h⟩ := hq
    change gv l sc m_X4_readMode 40 [.ref 11, .int x1, .int x2, .float 0] [.int v5] M4 Q
    refine gv_if_ne (t := 92) (by decide) (gl_dec ok_X4_readMode 24 40 (.ifCond .ne 52) 3 rfl) (fun c => ?_) (fun c => ?_)
    · replace h := h.1 c
      refine gv_seg ok_X4_readMode 54 1 (Ps := []) (pc' := 93) (ls' := [.ref 11, .int x1, .int x2, .float 0]) (st' := [.ref 11]) (M2 := M4) rfl trivial ?_
      refine gv_vcall (M' := m_X4_readEnd) (o := 11) (ci := 4) (As := []) (st := []) (gl_dec ok_X4_readMode 55 93 (.invokevirtual 73) 3 rfl) (gl_lnk ok_X4_readMode 55 rfl rfl) mw_X4_readEnd iw_X4_readEnd lw_X4_readEnd ⟨by decide, by decide⟩ rfl rfl rfl ⟨rfl, Nat.le_of_ble_eq_true rfl⟩ h (fun r6 M7 hq => ?_)
      obtain ⟨rfl, h⟩ := hq
      change gv l sc m_X4_readMode 96 [.ref 11, .int x1, .int x2, .float 0] [] M7 Q
      exact gv_retV (gl_dec ok_X4_readMode 56 96 (.return_) 1 rfl) rfl h
    · replace h := h.2 c
      refine gv_seg ok_X4_readMode 25 3 (Ps := []) (pc' := 46) (ls' := [.ref 11, .int x1, .int x2, .float 0]) (st' := [.int 3, .int 0, .ref 11]) (M2 := M4) rfl trivial ?_
      refine gv_vcall (M' := m_X4_readNumber) (o := 11) (ci := 4) (As := [.int 0, .int 3]) (st := []) (gl_dec ok_X4_readMode 28 46 (.invokevirtual 65) 3 rfl) (gl_lnk ok_X4_readMode 28 rfl rfl) mw_X4_readNumber iw_X4_readNumber lw_X4_readNumber ⟨by decide, by decide⟩ rfl rfl rfl ⟨rfl, Nat.le_of_ble_eq_true rfl⟩ h (fun r8 M9 hq => ?_)
      obtain ⟨v10, rfl, h⟩ := hq
      change gv l sc m_X4_readMode 49 [.ref 11, .int x1, .int x2, .float 0] [.int v10] M9 Q
      refine gv_seg ok_X4_readMode 29 3 (Ps := []) (pc' := 52) (ls' := [.ref 11, .int x1, .int x2, .int v10]) (st' := [.int (-1), .int v10]) (M2 := M9) rfl trivial ?_
      refine gv_icmp_ne (t := 56) (by decide) (gl_dec ok_X4_readMode 32 52 (.if_icmp .ne 4) 3 rfl) (fun c => ?_) (fun c => ?_)
      · replace h := h.1 c
        refine gv_seg ok_X4_readMode 34 7 (Ps := []) (pc' := 67) (ls' := [.ref 11, .int x1, .int x2, .int v10]) (st' := [.int ((M9 3 0) - 1), .int 0, .ref 11]) (M2 := M9) rfl trivial ?_
        refine gv_vcall (M' := m_X4_readNumber) (o := 11) (ci := 4) (As := [.int 0, .int ((M9 3 0) - 1)]) (st := []) (gl_dec ok_X4_readMode 41 67 (.invokevirtual 65) 3 rfl) (gl_lnk ok_X4_readMode 41 rfl rfl) mw_X4_readNumber iw_X4_readNumber lw_X4_readNumber ⟨by decide, by decide⟩ rfl rfl rfl ⟨rfl, Nat.le_of_ble_eq_true rfl⟩ h (fun r11 M12 hq => ?_)
        obtain ⟨v13, rfl, h⟩ := hq
        change gv l sc m_X4_readMode 70 [.ref 11, .int x1, .int x2, .int v10] [.int v13] M12 Q
        refine gv_seg ok_X4_readMode 42 3 (Ps := []) (pc' := 73) (ls' := [.ref 11, .int v13, .int x2, .int v10]) (st' := [.int (-1), .int v13]) (M2 := M12) rfl trivial ?_
        refine gv_icmp_ne (t := 77) (by decide) (gl_dec ok_X4_readMode 45 73 (.if_icmp .ne 4) 3 rfl) (fun c => ?_) (fun c => ?_)
        · replace h := h.1 c
          refine gv_seg ok_X4_readMode 47 4 (Ps := []) (pc' := 83) (ls' := [.ref 11, .int v13, .int x2, .int v10]) (st' := [.int v13, .int v10, .ref 3]) (M2 := M12) rfl trivial ?_
          refine gv_vcall (M' := m_X0_addPart) (o := 3) (ci := 0) (As := [.int v10, .int v13]) (st := []) (gl_dec ok_X4_readMode 51 83 (.invokevirtual 79) 3 rfl) (gl_lnk ok_X4_readMode 51 rfl rfl) mw_X0_addPart iw_X0_addPart lw_X0_addPart ⟨by decide, by decide⟩ rfl rfl rfl ⟨rfl, Nat.le_of_ble_eq_true rfl⟩ h (fun r14 M15 hq => ?_)
          obtain ⟨rfl, h⟩ := hq
          change gv l sc m_X4_readMode 86 [.ref 11, .int v13, .int x2, .int v10] [] M15 Q
          refine gv_seg ok_X4_readMode 52 1 (Ps := []) (pc' := 89) (ls' := [.ref 11, .int v13, .int (x2 + 1), .int v10]) (st' := []) (M2 := M15) rfl trivial ?_
          refine gv_goto (t := 31) (by decide) (gl_dec ok_X4_readMode 53 89 (.goto (-58)) 3 rfl) ?_
          exact gv_weak (ls' := [.ref 11, .int v13, .int (x2 + 1), .float 0]) ⟨Or.inl rfl, ⟨Or.inl rfl, ⟨Or.inl rfl, ⟨Or.inr rfl, trivial⟩⟩⟩⟩ h
        · replace h := h.2 c
          exact gv_retV (gl_dec ok_X4_readMode 46 76 (.return_) 1 rfl) rfl h
      · replace h := h.2 c
        exact gv_retV (gl_dec ok_X4_readMode 33 55 (.return_) 1 rfl) rfl h
set_option maxHeartbeats 400000 in
set_option maxRecDepth 20000 in
theorem w_X4_readEnd_0 (l : Launch) (sc : Nat × (Nat → Int32)) (M : gl_N) (Q : Option Value → gl_N → Prop)
  (h : gr l sc m_X4_atEnd [.ref 11] M (fun r1 M2 => ∃ v3 : Int32, r1 = some (.int v3) ∧ ((v3 = 0 → Q none (gl_u2 M2 11 3 (M2 11 2))) ∧ (¬ v3 = 0 → Q none (gl_u2 M2 11 2 ((M2 11 2) + 1)))))) : gv l sc m_X4_readEnd 0 [.ref 11] [] M Q := by
  refine gv_seg ok_X4_readEnd 0 1 (Ps := []) (pc' := 1) (ls' := [.ref 11]) (st' := [.ref 11]) (M2 := M) rfl trivial ?_
  refine gv_vcall (M' := m_X4_atEnd) (o := 11) (ci := 4) (As := []) (st := []) (gl_dec ok_X4_readEnd 1 1 (.invokevirtual 61) 3 rfl) (gl_lnk ok_X4_readEnd 1 rfl rfl) mw_X4_atEnd iw_X4_atEnd lw_X4_atEnd ⟨by decide, by decide⟩ rfl rfl rfl ⟨rfl, Nat.le_of_ble_eq_true rfl⟩ h (fun r1 M2 hq => ?_)
  obtain ⟨v3, rfl, h⟩ := hq
  change gv l sc m_X4_readEnd 4 [.ref 11] [.int v3] M2 Q
  refine gv_if_eq (t := 20) (by decide) (gl_dec ok_X4_readEnd 2 4 (.ifCond .eq 16) 3 rfl) (fun c => ?_) (fun c => ?_)
  · replace h := h.1 c
    refine gv_seg ok_X4_readEnd 10 4 (Ps := []) (pc' := 28) (ls' := [.ref 11]) (st' := []) (M2 := (gl_u2 M2 11 3 (M2 11 2))) rfl trivial ?_
    exact gv_retV (gl_dec ok_X4_readEnd 14 28 (.return_) 1 rfl) rfl h
  · replace h := h.2 c
    refine gv_seg ok_X4_readEnd 3 6 (Ps := []) (pc' := 17) (ls' := [.ref 11]) (st' := []) (M2 := (gl_u2 M2 11 2 ((M2 11 2) + 1))) rfl trivial ?_
    refine gv_goto (t := 28) (by decide) (gl_dec ok_X4_readEnd 9 17 (.goto 11) 3 rfl) ?_
    exact gv_retV (gl_dec ok_X4_readEnd 14 28 (.return_) 1 rfl) rfl h
theorem e_X4_readEnd (l : Launch) (sc : Nat × (Nat → Int32)) (M : gl_N) (Q : Option Value → gl_N → Prop)
  (h : gr l sc m_X4_atEnd [.ref 11] M (fun r1 M2 => ∃ v3 : Int32, r1 = some (.int v3) ∧ ((v3 = 0 → Q none (gl_u2 M2 11 3 (M2 11 2))) ∧ (¬ v3 = 0 → Q none (gl_u2 M2 11 2 ((M2 11 2) + 1)))))) : gr l sc m_X4_readEnd [.ref 11] M Q :=
  gr_of (by decide +kernel) (Nat.le_of_ble_eq_true rfl) (List.forall_mem_cons.mpr ⟨rfl, (fun _ h => absurd h List.not_mem_nil)⟩) (w_X4_readEnd_0 l sc M Q h)
set_option maxHeartbeats 400000 in
set_option maxRecDepth 20000 in
theorem w_X4_atEnd_0 (l : Launch) (sc : Nat × (Nat → Int32)) (M : gl_N) (Q : Option Value → gl_N → Prop)
  (h : gr l sc m_X4_skipBlanks [.ref 11] M (fun r1 M2 => r1 = none ∧ (gr l sc m_X7_letterAt [.ref 1, .int (M2 11 2)] M2 (fun r3 M4 => ∃ v5 : Int32, r3 = some (.int v5) ∧ ((¬ v5 = 59 → Q (some (.int 0)) M4) ∧ (v5 = 59 → Q (some (.int 1)) M4)))))) : gv l sc m_X4_atEnd 0 [.ref 11] [] M Q := by
  refine gv_seg ok_X4_atEnd 0 1 (Ps := []) (pc' := 1) (ls' := [.ref 11]) (st' := [.ref 11]) (M2 := M) rfl trivial ?_
  refine gv_vcall (M' := m_X4_skipBlanks) (o := 11) (ci := 4) (As := []) (st := []) (gl_dec ok_X4_atEnd 1 1 (.invokevirtual 31) 3 rfl) (gl_lnk ok_X4_atEnd 1 rfl rfl) mw_X4_skipBlanks iw_X4_skipBlanks lw_X4_skipBlanks ⟨by decide, by decide⟩ rfl rfl rfl ⟨rfl, Nat.le_of_ble_eq_true rfl⟩ h (fun r1 M2 hq => ?_)
  obtain ⟨rfl, h⟩ := hq
  change gv l sc m_X4_atEnd 4 [.ref 11] [] M2 Q
  refine gv_seg ok_X4_atEnd 2 4 (Ps := []) (pc' := 12) (ls' := [.ref 11]) (st' := [.int (M2 11 2), .ref 1]) (M2 := M2) rfl trivial ?_
  refine gv_vcall (M' := m_X7_letterAt) (o := 1) (ci := 7) (As := [.int (M2 11 2)]) (st := []) (gl_dec ok_X4_atEnd 6 12 (.invokevirtual 42) 3 rfl) (gl_lnk ok_X4_atEnd 6 rfl rfl) mw_X7_letterAt iw_X7_letterAt lw_X7_letterAt ⟨by decide, by decide⟩ rfl rfl rfl ⟨rfl, Nat.le_of_ble_eq_true rfl⟩ h (fun r3 M4 hq => ?_)
  obtain ⟨v5, rfl, h⟩ := hq
  change gv l sc m_X4_atEnd 15 [.ref 11] [.int v5] M4 Q
  refine gv_seg ok_X4_atEnd 7 1 (Ps := []) (pc' := 17) (ls' := [.ref 11]) (st' := [.int 59, .int v5]) (M2 := M4) rfl trivial ?_
  refine gv_icmp_ne (t := 24) (by decide) (gl_dec ok_X4_atEnd 8 17 (.if_icmp .ne 7) 3 rfl) (fun c => ?_) (fun c => ?_)
  · replace h := h.1 c
    refine gv_seg ok_X4_atEnd 11 1 (Ps := []) (pc' := 25) (ls' := [.ref 11]) (st' := [.int 0]) (M2 := M4) rfl trivial ?_
    exact gv_retZ (gl_dec ok_X4_atEnd 12 25 (.ireturn) 1 rfl) rfl (by decide) h
  · replace h := h.2 c
    refine gv_seg ok_X4_atEnd 9 1 (Ps := []) (pc' := 21) (ls' := [.ref 11]) (st' := [.int 1]) (M2 := M4) rfl trivial ?_
    refine gv_goto (t := 25) (by decide) (gl_dec ok_X4_atEnd 10 21 (.goto 4) 3 rfl) ?_
    exact gv_retZ (gl_dec ok_X4_atEnd 12 25 (.ireturn) 1 rfl) rfl (by decide) h
theorem e_X4_atEnd (l : Launch) (sc : Nat × (Nat → Int32)) (M : gl_N) (Q : Option Value → gl_N → Prop)
  (h : gr l sc m_X4_skipBlanks [.ref 11] M (fun r1 M2 => r1 = none ∧ (gr l sc m_X7_letterAt [.ref 1, .int (M2 11 2)] M2 (fun r3 M4 => ∃ v5 : Int32, r3 = some (.int v5) ∧ ((¬ v5 = 59 → Q (some (.int 0)) M4) ∧ (v5 = 59 → Q (some (.int 1)) M4)))))) : gr l sc m_X4_atEnd [.ref 11] M Q :=
  gr_of (by decide +kernel) (Nat.le_of_ble_eq_true rfl) (List.forall_mem_cons.mpr ⟨rfl, (fun _ h => absurd h List.not_mem_nil)⟩) (w_X4_atEnd_0 l sc M Q h)
set_option maxHeartbeats 400000 in
set_option maxRecDepth 20000 in
theorem w_X4_readNumber_0 (l : Launch) (sc : Nat × (Nat → Int32)) (M : gl_N) (Q : Option Value → gl_N → Prop) (x1 x2 : Int32)
  (h : gr l sc m_X4_skipBlanks [.ref 11] M (fun r1 M2 => r1 = none ∧ (gr l sc m_X7_letterAt [.ref 1, .int (M2 11 2)] M2 (fun r3 M4 => ∃ v5 : Int32, r3 = some (.int v5) ∧ (gr l sc m_X4_isFigure [.int v5] M4 (fun r6 M7 => ∃ v8 : Int32, r6 = some (.int v8) ∧ ((v8 = 0 → Q (some (.int (-1))) (gl_u2 M7 11 3 (M7 11 2))) ∧ (¬ v8 = 0 → gr l sc m_X7_letterAt [.ref 1, .int ((M7 11 2) + 1)] M7 (fun r9 M10 => ∃ v11 : Int32, r9 = some (.int v11) ∧ (gr l sc m_X4_isFigure [.int v11] M10 (fun r12 M13 => ∃ v14 : Int32, r12 = some (.int v14) ∧ ((¬ v14 = 0 → Q (some (.int (-1))) (gl_u2 M13 11 3 (M13 11 2))) ∧ (v14 = 0 → gr l sc m_X10_within [.int (v5 - 48), .int x1, .int x2] M13 (fun r15 M16 => ∃ v17 : Int32, r15 = some (.int v17) ∧ ((¬ v17 = 0 → Q (some (.int (v5 - 48))) (gl_u2 M16 11 2 ((M16 11 2) + 1))) ∧ (v17 = 0 → Q (some (.int (-1))) (gl_u2 M16 11 3 (M16 11 2)))))))))))))))))) : gv l sc m_X4_readNumber 0 [.ref 11, .int x1, .int x2, .float 0] [] M Q := by
  refine gv_seg ok_X4_readNumber 0 1 (Ps := []) (pc' := 1) (ls' := [.ref 11, .int x1, .int x2, .float 0]) (st' := [.ref 11]) (M2 := M) rfl trivial ?_
  refine gv_vcall (M' := m_X4_skipBlanks) (o := 11) (ci := 4) (As := []) (st := []) (gl_dec ok_X4_readNumber 1 1 (.invokevirtual 31) 3 rfl) (gl_lnk ok_X4_readNumber 1 rfl rfl) mw_X4_skipBlanks iw_X4_skipBlanks lw_X4_skipBlanks ⟨by decide, by decide⟩ rfl rfl rfl ⟨rfl, Nat.le_of_ble_eq_true rfl⟩ h (fun r1 M2 hq => ?_)
  obtain ⟨rfl, h⟩ := hq
  change gv l sc m_X4_readNumber 4 [.ref 11, .int x1, .int x2, .float 0] [] M2 Q
  refine gv_seg ok_X4_readNumber 2 4 (Ps := []) (pc' := 12) (ls' := [.ref 11, .int x1, .int x2, .float 0]) (st' := [.int (M2 11 2), .ref 1]) (M2 := M2) rfl trivial ?_
  refine gv_vcall (M' := m_X7_letterAt) (o := 1) (ci := 7) (As := [.int (M2 11 2)]) (st := []) (gl_dec ok_X4_readNumber 6 12 (.invokevirtual 42) 3 rfl) (gl_lnk ok_X4_readNumber 6 rfl rfl) mw_X7_letterAt iw_X7_letterAt lw_X7_letterAt ⟨by decide, by decide⟩ rfl rfl rfl ⟨rfl, Nat.le_of_ble_eq_true rfl⟩ h (fun r3 M4 hq => ?_)
  obtain ⟨v5, rfl, h⟩ := hq
  change gv l sc m_X4_readNumber 15 [.ref 11, .int x1, .int x2, .float 0] [.int v5] M4 Q
  refine gv_seg ok_X4_readNumber 7 2 (Ps := []) (pc' := 17) (ls' := [.ref 11, .int x1, .int x2, .int v5]) (st' := [.int v5]) (M2 := M4) rfl trivial ?_
  refine gv_scall (M' := m_X4_isFigure) (As := [.int v5]) (st := []) (gl_dec ok_X4_readNumber 9 17 (.invokestatic 83) 3 rfl) (gl_lnkS ok_X4_readNumber 9 rfl rfl) mw_X4_isFigure sw_X4_isFigure ⟨by decide, by decide⟩ ⟨rfl, Nat.le_of_ble_eq_true rfl⟩ h (fun r6 M7 hq => ?_)
  obtain ⟨v8, rfl, h⟩ := hq
  change gv l sc m_X4_readNumber 20 [.ref 11, .int x1, .int x2, .int v5] [.int v8] M7 Q
  refine gv_if_eq (t := 54) (by decide) (gl_dec ok_X4_readNumber 10 20 (.ifCond .eq 34) 3 rfl) (fun c => ?_) (fun c => ?_)
  · replace h := h.1 c
    refine gv_seg ok_X4_readNumber 27 5 (Ps := []) (pc' := 63) (ls' := [.ref 11, .int x1, .int x2, .int v5]) (st' := [.int (-1)]) (M2 := (gl_u2 M7 11 3 (M7 11 2))) rfl trivial ?_
    exact gv_retI (gl_dec ok_X4_readNumber 32 63 (.ireturn) 1 rfl) rfl h
  · replace h := h.2 c
    refine gv_seg ok_X4_readNumber 11 6 (Ps := []) (pc' := 33) (ls' := [.ref 11, .int x1, .int x2, .int v5]) (st' := [.int ((M7 11 2) + 1), .ref 1]) (M2 := M7) rfl trivial ?_
    refine gv_vcall (M' := m_X7_letterAt) (o := 1) (ci := 7) (As := [.int ((M7 11 2) + 1)]) (st := []) (gl_dec ok_X4_readNumber 17 33 (.invokevirtual 42) 3 rfl) (gl_lnk ok_X4_readNumber 17 rfl rfl) mw_X7_letterAt iw_X7_letterAt lw_X7_letterAt ⟨by decide, by decide⟩ rfl rfl rfl ⟨rfl, Nat.le_of_ble_eq_true rfl⟩ h (fun r9 M10 hq => ?_)
    obtain ⟨v11, rfl, h⟩ := hq
    change gv l sc m_X4_readNumber 36 [.ref 11, .int x1, .int x2, .int v5] [.int v11] M10 Q
    refine gv_scall (M' := m_X4_isFigure) (As := [.int v11]) (st := []) (gl_dec ok_X4_readNumber 18 36 (.invokestatic 83) 3 rfl) (gl_lnkS ok_X4_readNumber 18 rfl rfl) mw_X4_isFigure sw_X4_isFigure ⟨by decide, by decide⟩ ⟨rfl, Nat.le_of_ble_eq_true rfl⟩ h (fun r12 M13 hq => ?_)
    obtain ⟨v14, rfl, h⟩ := hq
    change gv l sc m_X4_readNumber 39 [.ref 11, .int x1, .int x2, .int v5] [.int v14] M13 Q
    refine gv_if_ne (t := 54) (by decide) (gl_dec ok_X4_readNumber 19 39 (.ifCond .ne 15) 3 rfl) (fun c => ?_) (fun c => ?_)
    · replace h := h.1 c
      refine gv_seg ok_X4_readNumber 27 5 (Ps := []) (pc' := 63) (ls' := [.ref 11, .int x1, .int x2, .int v5]) (st' := [.int (-1)]) (M2 := (gl_u2 M13 11 3 (M13 11 2))) rfl trivial ?_
      exact gv_retI (gl_dec ok_X4_readNumber 32 63 (.ireturn) 1 rfl) rfl h
    · replace h := h.2 c
      refine gv_seg ok_X4_readNumber 20 5 (Ps := []) (pc' := 48) (ls' := [.ref 11, .int x1, .int x2, .int v5]) (st' := [.int x2, .int x1, .int (v5 - 48)]) (M2 := M13) rfl trivial ?_
      refine gv_scall (M' := m_X10_within) (As := [.int (v5 - 48), .int x1, .int x2]) (st := []) (gl_dec ok_X4_readNumber 25 48 (.invokestatic 87) 3 rfl) (gl_lnkS ok_X4_readNumber 25 rfl rfl) mw_X10_within sw_X10_within ⟨by decide, by decide⟩ ⟨rfl, Nat.le_of_ble_eq_true rfl⟩ h (fun r15 M16 hq => ?_)
      obtain ⟨v17, rfl, h⟩ := hq
      change gv l sc m_X4_readNumber 51 [.ref 11, .int x1, .int x2, .int v5] [.int v17] M16 Q
      refine gv_if_ne (t := 64) (by decide) (gl_dec ok_X4_readNumber 26 51 (.ifCond .ne 13) 3 rfl) (fun c => ?_) (fun c => ?_)
      · replace h := h.1 c
        refine gv_seg ok_X4_readNumber 33 9 (Ps := []) (pc' := 78) (ls' := [.ref 11, .int x1, .int x2, .int v5]) (st' := [.int (v5 - 48)]) (M2 := (gl_u2 M16 11 2 ((M16 11 2) + 1))) rfl trivial ?_
        exact gv_retI (gl_dec ok_X4_readNumber 42 78 (.ireturn) 1 rfl) rfl h
      · replace h := h.2 c
        refine gv_seg ok_X4_readNumber 27 5 (Ps := []) (pc' := 63) (ls' := [.ref 11, .int x1, .int x2, .int v5]) (st' := [.int (-1)]) (M2 := (gl_u2 M16 11 3 (M16 11 2))) rfl trivial ?_
        exact gv_retI (gl_dec ok_X4_readNumber 32 63 (.ireturn) 1 rfl) rfl h
theorem e_X4_readNumber (l : Launch) (sc : Nat × (Nat → Int32)) (M : gl_N) (Q : Option Value → gl_N → Prop) (x1 x2 : Int32)
  (h : gr l sc m_X4_skipBlanks [.ref 11] M (fun r1 M2 => r1 = none ∧ (gr l sc m_X7_letterAt [.ref 1, .int (M2 11 2)] M2 (fun r3 M4 => ∃ v5 : Int32, r3 = some (.int v5) ∧ (gr l sc m_X4_isFigure [.int v5] M4 (fun r6 M7 => ∃ v8 : Int32, r6 = some (.int v8) ∧ ((v8 = 0 → Q (some (.int (-1))) (gl_u2 M7 11 3 (M7 11 2))) ∧ (¬ v8 = 0 → gr l sc m_X7_letterAt [.ref 1, .int ((M7 11 2) + 1)] M7 (fun r9 M10 => ∃ v11 : Int32, r9 = some (.int v11) ∧ (gr l sc m_X4_isFigure [.int v11] M10 (fun r12 M13 => ∃ v14 : Int32, r12 = some (.int v14) ∧ ((¬ v14 = 0 → Q (some (.int (-1))) (gl_u2 M13 11 3 (M13 11 2))) ∧ (v14 = 0 → gr l sc m_X10_within [.int (v5 - 48), .int x1, .int x2] M13 (fun r15 M16 => ∃ v17 : Int32, r15 = some (.int v17) ∧ ((¬ v17 = 0 → Q (some (.int (v5 - 48))) (gl_u2 M16 11 2 ((M16 11 2) + 1))) ∧ (v17 = 0 → Q (some (.int (-1))) (gl_u2 M16 11 3 (M16 11 2)))))))))))))))))) : gr l sc m_X4_readNumber [.ref 11, .int x1, .int x2] M Q :=
  gr_of (by decide +kernel) (Nat.le_of_ble_eq_true rfl) (List.forall_mem_cons.mpr ⟨rfl, (List.forall_mem_cons.mpr ⟨rfl, (List.forall_mem_cons.mpr ⟨rfl, (fun _ h => absurd h List.not_mem_nil)⟩)⟩)⟩) (w_X4_readNumber_0 l sc M Q x1 x2 h)
set_option maxHeartbeats 400000 in
set_option maxRecDepth 20000 in
theorem w_X4_isFigure_0 (l : Launch) (sc : Nat × (Nat → Int32)) (M : gl_N) (Q : Option Value → gl_N → Prop) (x0 : Int32)
  (h : (x0 < 48 → Q (some (.int 0)) M) ∧ (¬ x0 < 48 → (57 < x0 → Q (some (.int 0)) M) ∧ (¬ 57 < x0 → Q (some (.int 1)) M))) : gv l sc m_X4_isFigure 0 [.int x0] [] M Q := by
  refine gv_seg ok_X4_isFigure 0 2 (Ps := []) (pc' := 3) (ls' := [.int x0]) (st' := [.int 48, .int x0]) (M2 := M) rfl trivial ?_
  refine gv_icmp_lt (t := 16) (by decide) (gl_dec ok_X4_isFigure 2 3 (.if_icmp .lt 13) 3 rfl) (fun c => ?_) (fun c => ?_)
  · replace h := h.1 c
    refine gv_seg ok_X4_isFigure 8 1 (Ps := []) (pc' := 17) (ls' := [.int x0]) (st' := [.int 0]) (M2 := M) rfl trivial ?_
    exact gv_retZ (gl_dec ok_X4_isFigure 9 17 (.ireturn) 1 rfl) rfl (by decide) h
  · replace h := h.2 c
    refine gv_seg ok_X4_isFigure 3 2 (Ps := []) (pc' := 9) (ls' := [.int x0]) (st' := [.int 57, .int x0]) (M2 := M) rfl trivial ?_
    refine gv_icmp_gt (t := 16) (by decide) (gl_dec ok_X4_isFigure 5 9 (.if_icmp .gt 7) 3 rfl) (fun c => ?_) (fun c => ?_)
    · replace h := h.1 c
      refine gv_seg ok_X4_isFigure 8 1 (Ps := []) (pc' := 17) (ls' := [.int x0]) (st' := [.int 0]) (M2 := M) rfl trivial ?_
      exact gv_retZ (gl_dec ok_X4_isFigure 9 17 (.ireturn) 1 rfl) rfl (by decide) h
    · replace h := h.2 c
      refine gv_seg ok_X4_isFigure 6 1 (Ps := []) (pc' := 13) (ls' := [.int x0]) (st' := [.int 1]) (M2 := M) rfl trivial ?_
      refine gv_goto (t := 17) (by decide) (gl_dec ok_X4_isFigure 7 13 (.goto 4) 3 rfl) ?_
      exact gv_retZ (gl_dec ok_X4_isFigure 9 17 (.ireturn) 1 rfl) rfl (by decide) h
theorem e_X4_isFigure (l : Launch) (sc : Nat × (Nat → Int32)) (M : gl_N) (Q : Option Value → gl_N → Prop) (x0 : Int32)
  (h : (x0 < 48 → Q (some (.int 0)) M) ∧ (¬ x0 < 48 → (57 < x0 → Q (some (.int 0)) M) ∧ (¬ 57 < x0 → Q (some (.int 1)) M))) : gr l sc m_X4_isFigure [.int x0] M Q :=
  gr_of (by decide +kernel) (Nat.le_of_ble_eq_true rfl) (List.forall_mem_cons.mpr ⟨rfl, (fun _ h => absurd h List.not_mem_nil)⟩) (w_X4_isFigure_0 l sc M Q x0 h)
set_option maxHeartbeats 400000 in
set_option maxRecDepth 20000 in
theorem w_X4_skipBlanks_0 (l : Launch) (sc : Nat × (Nat → Int32)) (M : gl_N) (Q : Option Value → gl_N → Prop)
  (h : ((M 1 1) ≤ (M 11 2) → Q none M) ∧ (¬ (M 1 1) ≤ (M 11 2) → gr l sc m_X7_letterAt [.ref 1, .int (M 11 2)] M (fun r1 M2 => ∃ v3 : Int32, r1 = some (.int v3) ∧ ((¬ v3 = 32 → Q none M2) ∧ (v3 = 32 → gv l sc m_X4_skipBlanks 0 [.ref 11] [] (gl_u2 M2 11 2 ((M2 11 2) + 1)) Q))))) : gv l sc m_X4_skipBlanks 0 [.ref 11] [] M Q := by
  refine gv_seg ok_X4_skipBlanks 0 5 (Ps := []) (pc' := 11) (ls' := [.ref 11]) (st' := [.int (M 1 1), .int (M 11 2)]) (M2 := M) rfl trivial ?_
  refine gv_icmp_ge (t := 43) (by decide) (gl_dec ok_X4_skipBlanks 5 11 (.if_icmp .ge 32) 3 rfl) (fun c => ?_) (fun c => ?_)
  · replace h := h.1 c
    exact gv_retV (gl_dec ok_X4_skipBlanks 20 43 (.return_) 1 rfl) rfl h
  · replace h := h.2 c
    refine gv_seg ok_X4_skipBlanks 6 4 (Ps := []) (pc' := 22) (ls' := [.ref 11]) (st' := [.int (M 11 2), .ref 1]) (M2 := M) rfl trivial ?_
    refine gv_vcall (M' := m_X7_letterAt) (o := 1) (ci := 7) (As := [.int (M 11 2)]) (st := []) (gl_dec ok_X4_skipBlanks 10 22 (.invokevirtual 42) 3 rfl) (gl_lnk ok_X4_skipBlanks 10 rfl rfl) mw_X7_letterAt iw_X7_letterAt lw_X7_letterAt ⟨by decide, by decide⟩ rfl rfl rfl ⟨rfl, Nat.le_of_ble_eq_true rfl⟩ h (fun r1 M2 hq => ?_)
    obtain ⟨v3, rfl, h⟩ := hq
    change gv l sc m_X4_skipBlanks 25 [.ref 11] [.int v3] M2 Q
    refine gv_seg ok_X4_skipBlanks 11 1 (Ps := []) (pc' := 27) (ls' := [.ref 11]) (st' := [.int 32, .int v3]) (M2 := M2) rfl trivial ?_
    refine gv_icmp_ne (t := 43) (by decide) (gl_dec ok_X4_skipBlanks 12 27 (.if_icmp .ne 16) 3 rfl) (fun c => ?_) (fun c => ?_)
    · replace h := h.1 c
      exact gv_retV (gl_dec ok_X4_skipBlanks 20 43 (.return_) 1 rfl) rfl h
    · replace h := h.2 c
      refine gv_seg ok_X4_skipBlanks 13 6 (Ps := []) (pc' := 40) (ls' := [.ref 11]) (st' := []) (M2 := (gl_u2 M2 11 2 ((M2 11 2) + 1))) rfl trivial ?_
      refine gv_goto (t := 0) (by decide) (gl_dec ok_X4_skipBlanks 19 40 (.goto (-40)) 3 rfl) ?_
      exact h
theorem e_X4_skipBlanks (l : Launch) (sc : Nat × (Nat → Int32)) (M : gl_N) (Q : Option Value → gl_N → Prop)
  (h : ((M 1 1) ≤ (M 11 2) → Q none M) ∧ (¬ (M 1 1) ≤ (M 11 2) → gr l sc m_X7_letterAt [.ref 1, .int (M 11 2)] M (fun r1 M2 => ∃ v3 : Int32, r1 = some (.int v3) ∧ ((¬ v3 = 32 → Q none M2) ∧ (v3 = 32 → gv l sc m_X4_skipBlanks 0 [.ref 11] [] (gl_u2 M2 11 2 ((M2 11 2) + 1)) Q))))) : gr l sc m_X4_skipBlanks [.ref 11] M Q :=
  gr_of (by decide +kernel) (Nat.le_of_ble_eq_true rfl) (List.forall_mem_cons.mpr ⟨rfl, (fun _ h => absurd h List.not_mem_nil)⟩) (w_X4_skipBlanks_0 l sc M Q h)

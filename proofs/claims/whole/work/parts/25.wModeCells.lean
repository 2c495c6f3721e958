set_option maxHeartbeats 400000 in
set_option maxRecDepth 20000 in
theorem w_X10_type_0 (l : Launch) (sc : Nat × (Nat → Int32)) (M : gl_N) (Q : Option Value → gl_N → Prop) (x1 : Int32)
  (h : gr l sc m_X10_within [.int x1, .int 0, .int 255] M (fun r1 M2 => ∃ v3 : Int32, r1 = some (.int v3) ∧ ((¬ v3 = 0 → ((M2 1 1) < 130 → gr l sc m_X7_add [.ref 1, .int x1] M2 (fun r4 M5 => r4 = none ∧ (Q (some (.int (M5 1 1))) M5))) ∧ (¬ (M2 1 1) < 130 → Q (some (.int (-3))) M2)) ∧ (v3 = 0 → Q (some (.int (-1))) M2)))) : gv l sc m_X10_type 0 [.ref 0, .int x1] [] M Q := by
  refine gv_seg ok_X10_type 0 3 (Ps := []) (pc' := 5) (ls' := [.ref 0, .int x1]) (st' := [.int 255, .int 0, .int x1]) (M2 := M) rfl trivial ?_
  refine gv_scall (M' := m_X10_within) (As := [.int x1, .int 0, .int 255]) (st := []) (gl_dec ok_X10_type 3 5 (.invokestatic 83) 3 rfl) (gl_lnkS ok_X10_type 3 rfl rfl) mw_X10_within sw_X10_within ⟨by decide, by decide⟩ ⟨rfl, Nat.le_of_ble_eq_true rfl⟩ h (fun r1 M2 hq => ?_)
  obtain ⟨v3, rfl, h⟩ := hq
  change gv l sc m_X10_type 8 [.ref 0, .int x1] [.int v3] M2 Q
  refine gv_if_ne (t := 13) (by decide) (gl_dec ok_X10_type 4 8 (.ifCond .ne 5) 3 rfl) (fun c => ?_) (fun c => ?_)
  · replace h := h.1 c
    refine gv_seg ok_X10_type 7 4 (Ps := []) (pc' := 23) (ls' := [.ref 0, .int x1]) (st' := [.int 130, .int (M2 1 1)]) (M2 := M2) rfl trivial ?_
    refine gv_icmp_lt (t := 29) (by decide) (gl_dec ok_X10_type 11 23 (.if_icmp .lt 6) 3 rfl) (fun c => ?_) (fun c => ?_)
    · replace h := h.1 c
      refine gv_seg ok_X10_type 14 3 (Ps := []) (pc' := 34) (ls' := [.ref 0, .int x1]) (st' := [.int x1, .ref 1]) (M2 := M2) rfl trivial ?_
      refine gv_vcall (M' := m_X7_add) (o := 1) (ci := 7) (As := [.int x1]) (st := []) (gl_dec ok_X10_type 17 34 (.invokevirtual 91) 3 rfl) (gl_lnk ok_X10_type 17 rfl rfl) mw_X7_add iw_X7_add lw_X7_add ⟨by decide, by decide⟩ rfl rfl rfl ⟨rfl, Nat.le_of_ble_eq_true rfl⟩ h (fun r4 M5 hq => ?_)
      obtain ⟨rfl, h⟩ := hq
      change gv l sc m_X10_type 37 [.ref 0, .int x1] [] M5 Q
      refine gv_seg ok_X10_type 18 3 (Ps := []) (pc' := 44) (ls' := [.ref 0, .int x1]) (st' := [.int (M5 1 1)]) (M2 := M5) rfl trivial ?_
      exact gv_retI (gl_dec ok_X10_type 21 44 (.ireturn) 1 rfl) rfl h
    · replace h := h.2 c
      refine gv_seg ok_X10_type 12 1 (Ps := []) (pc' := 28) (ls' := [.ref 0, .int x1]) (st' := [.int (-3)]) (M2 := M2) rfl trivial ?_
      exact gv_retI (gl_dec ok_X10_type 13 28 (.ireturn) 1 rfl) rfl h
  · replace h := h.2 c
    refine gv_seg ok_X10_type 5 1 (Ps := []) (pc' := 12) (ls' := [.ref 0, .int x1]) (st' := [.int (-1)]) (M2 := M2) rfl trivial ?_
    exact gv_retI (gl_dec ok_X10_type 6 12 (.ireturn) 1 rfl) rfl h
theorem e_X10_type (l : Launch) (sc : Nat × (Nat → Int32)) (M : gl_N) (Q : Option Value → gl_N → Prop) (x1 : Int32)
  (h : gr l sc m_X10_within [.int x1, .int 0, .int 255] M (fun r1 M2 => ∃ v3 : Int32, r1 = some (.int v3) ∧ ((¬ v3 = 0 → ((M2 1 1) < 130 → gr l sc m_X7_add [.ref 1, .int x1] M2 (fun r4 M5 => r4 = none ∧ (Q (some (.int (M5 1 1))) M5))) ∧ (¬ (M2 1 1) < 130 → Q (some (.int (-3))) M2)) ∧ (v3 = 0 → Q (some (.int (-1))) M2)))) : gr l sc m_X10_type [.ref 0, .int x1] M Q :=
  gr_of (by decide +kernel) (Nat.le_of_ble_eq_true rfl) (List.forall_mem_cons.mpr ⟨rfl, (List.forall_mem_cons.mpr ⟨rfl, (fun _ h => absurd h List.not_mem_nil)⟩)⟩) (w_X10_type_0 l sc M Q x1 h)
set_option maxHeartbeats 400000 in
set_option maxRecDepth 20000 in
theorem w_X10_clear_0 (l : Launch) (sc : Nat × (Nat → Int32)) (M : gl_N) (Q : Option Value → gl_N → Prop)
  (h : Q (some (.int (M 1 1))) (gl_u2 M 1 1 0)) : gv l sc m_X10_clear 0 [.ref 0, .float 0] [] M Q := by
  refine gv_seg ok_X10_clear 0 9 (Ps := []) (pc' := 17) (ls' := [.ref 0, .int (M 1 1)]) (st' := [.int (M 1 1)]) (M2 := (gl_u2 M 1 1 0)) rfl trivial ?_
  exact gv_retI (gl_dec ok_X10_clear 9 17 (.ireturn) 1 rfl) rfl h
theorem e_X10_clear (l : Launch) (sc : Nat × (Nat → Int32)) (M : gl_N) (Q : Option Value → gl_N → Prop)
  (h : Q (some (.int (M 1 1))) (gl_u2 M 1 1 0)) : gr l sc m_X10_clear [.ref 0] M Q :=
  gr_of (by decide +kernel) (Nat.le_of_ble_eq_true rfl) (List.forall_mem_cons.mpr ⟨rfl, (fun _ h => absurd h List.not_mem_nil)⟩) (w_X10_clear_0 l sc M Q h)
set_option maxHeartbeats 400000 in
set_option maxRecDepth 20000 in
theorem w_X10_modes_0 (l : Launch) (sc : Nat × (Nat → Int32)) (M : gl_N) (Q : Option Value → gl_N → Prop)
  (h : gr l sc m_X4_read [.ref 11] M (fun r1 M2 => ∃ v3 : Int32, r1 = some (.int v3) ∧ ((0 ≤ v3 → gr l sc m_X0_copyFrom [.ref 12, .ref 3] (gl_u2 M2 1 1 0) (fun r4 M5 => r4 = none ∧ (gr l sc m_X9_dropMeasures [.ref 32] M5 (fun r6 M7 => r6 = none ∧ (gr l sc m_X8_dropNotes [.ref 20] M7 (fun r8 M9 => r8 = none ∧ (gr l sc m_X2_dropAll [.ref 22] M9 (fun r10 M11 => r10 = none ∧ (gr l sc m_X6_dropAll [.ref 26] M11 (fun r12 M13 => r12 = none ∧ (Q (some (.int v3)) (gl_u2 M13 29 2 0)))))))))))) ∧ (¬ 0 ≤ v3 → Q (some (.int v3)) M2)))) : gv l sc m_X10_modes 0 [.ref 0, .float 0] [] M Q := by
  refine gv_seg ok_X10_modes 0 2 (Ps := []) (pc' := 4) (ls' := [.ref 0, .float 0]) (st' := [.ref 11]) (M2 := M) rfl trivial ?_
  refine gv_vcall (M' := m_X4_read) (o := 11) (ci := 4) (As := []) (st := []) (gl_dec ok_X10_modes 2 4 (.invokevirtual 94) 3 rfl) (gl_lnk ok_X10_modes 2 rfl rfl) mw_X4_read iw_X4_read lw_X4_read ⟨by decide, by decide⟩ rfl rfl rfl ⟨rfl, Nat.le_of_ble_eq_true rfl⟩ h (fun r1 M2 hq => ?_)
  obtain ⟨v3, rfl, h⟩ := hq
  change gv l sc m_X10_modes 7 [.ref 0, .float 0] [.int v3] M2 Q
  refine gv_seg ok_X10_modes 3 2 (Ps := []) (pc' := 9) (ls' := [.ref 0, .int v3]) (st' := [.int v3]) (M2 := M2) rfl trivial ?_
  refine gv_if_ge (t := 14) (by decide) (gl_dec ok_X10_modes 5 9 (.ifCond .ge 5) 3 rfl) (fun c => ?_) (fun c => ?_)
  · replace h := h.1 c
    refine gv_seg ok_X10_modes 8 8 (Ps := []) (pc' := 30) (ls' := [.ref 0, .int v3]) (st' := [.ref 3, .ref 12]) (M2 := (gl_u2 M2 1 1 0)) rfl trivial ?_
    refine gv_vcall (M' := m_X0_copyFrom) (o := 12) (ci := 0) (As := [.ref 3]) (st := []) (gl_dec ok_X10_modes 16 30 (.invokevirtual 98) 3 rfl) (gl_lnk ok_X10_modes 16 rfl rfl) mw_X0_copyFrom iw_X0_copyFrom lw_X0_copyFrom ⟨by decide, by decide⟩ rfl rfl rfl ⟨rfl, Nat.le_of_ble_eq_true rfl⟩ h (fun r4 M5 hq => ?_)
    obtain ⟨rfl, h⟩ := hq
    change gv l sc m_X10_modes 33 [.ref 0, .int v3] [] M5 Q
    refine gv_seg ok_X10_modes 17 2 (Ps := []) (pc' := 37) (ls' := [.ref 0, .int v3]) (st' := [.ref 32]) (M2 := M5) rfl trivial ?_
    refine gv_vcall (M' := m_X9_dropMeasures) (o := 32) (ci := 9) (As := []) (st := []) (gl_dec ok_X10_modes 19 37 (.invokevirtual 101) 3 rfl) (gl_lnk ok_X10_modes 19 rfl rfl) mw_X9_dropMeasures iw_X9_dropMeasures lw_X9_dropMeasures ⟨by decide, by decide⟩ rfl rfl rfl ⟨rfl, Nat.le_of_ble_eq_true rfl⟩ h (fun r6 M7 hq => ?_)
    obtain ⟨rfl, h⟩ := hq
    change gv l sc m_X10_modes 40 [.ref 0, .int v3] [] M7 Q
    refine gv_seg ok_X10_modes 20 2 (Ps := []) (pc' := 44) (ls' := [.ref 0, .int v3]) (st' := [.ref 20]) (M2 := M7) rfl trivial ?_
    refine gv_vcall (M' := m_X8_dropNotes) (o := 20) (ci := 8) (As := []) (st := []) (gl_dec ok_X10_modes 22 44 (.invokevirtual 104) 3 rfl) (gl_lnk ok_X10_modes 22 rfl rfl) mw_X8_dropNotes iw_X8_dropNotes lw_X8_dropNotes ⟨by decide, by decide⟩ rfl rfl rfl ⟨rfl, Nat.le_of_ble_eq_true rfl⟩ h (fun r8 M9 hq => ?_)
    obtain ⟨rfl, h⟩ := hq
    change gv l sc m_X10_modes 47 [.ref 0, .int v3] [] M9 Q
    refine gv_seg ok_X10_modes 23 2 (Ps := []) (pc' := 51) (ls' := [.ref 0, .int v3]) (st' := [.ref 22]) (M2 := M9) rfl trivial ?_
    refine gv_vcall (M' := m_X2_dropAll) (o := 22) (ci := 2) (As := []) (st := []) (gl_dec ok_X10_modes 25 51 (.invokevirtual 107) 3 rfl) (gl_lnk ok_X10_modes 25 rfl rfl) mw_X2_dropAll iw_X2_dropAll lw_X2_dropAll ⟨by decide, by decide⟩ rfl rfl rfl ⟨rfl, Nat.le_of_ble_eq_true rfl⟩ h (fun r10 M11 hq => ?_)
    obtain ⟨rfl, h⟩ := hq
    change gv l sc m_X10_modes 54 [.ref 0, .int v3] [] M11 Q
    refine gv_seg ok_X10_modes 26 2 (Ps := []) (pc' := 58) (ls' := [.ref 0, .int v3]) (st' := [.ref 26]) (M2 := M11) rfl trivial ?_
    refine gv_vcall (M' := m_X6_dropAll) (o := 26) (ci := 6) (As := []) (st := []) (gl_dec ok_X10_modes 28 58 (.invokevirtual 110) 3 rfl) (gl_lnk ok_X10_modes 28 rfl rfl) mw_X6_dropAll iw_X6_dropAll lw_X6_dropAll ⟨by decide, by decide⟩ rfl rfl rfl ⟨rfl, Nat.le_of_ble_eq_true rfl⟩ h (fun r12 M13 hq => ?_)
    obtain ⟨rfl, h⟩ := hq
    change gv l sc m_X10_modes 61 [.ref 0, .int v3] [] M13 Q
    refine gv_seg ok_X10_modes 29 5 (Ps := []) (pc' := 70) (ls' := [.ref 0, .int v3]) (st' := [.int v3]) (M2 := (gl_u2 M13 29 2 0)) rfl trivial ?_
    exact gv_retI (gl_dec ok_X10_modes 34 70 (.ireturn) 1 rfl) rfl h
  · replace h := h.2 c
    refine gv_seg ok_X10_modes 6 1 (Ps := []) (pc' := 13) (ls' := [.ref 0, .int v3]) (st' := [.int v3]) (M2 := M2) rfl trivial ?_
    exact gv_retI (gl_dec ok_X10_modes 7 13 (.ireturn) 1 rfl) rfl h
theorem e_X10_modes (l : Launch) (sc : Nat × (Nat → Int32)) (M : gl_N) (Q : Option Value → gl_N → Prop)
  (h : gr l sc m_X4_read [.ref 11] M (fun r1 M2 => ∃ v3 : Int32, r1 = some (.int v3) ∧ ((0 ≤ v3 → gr l sc m_X0_copyFrom [.ref 12, .ref 3] (gl_u2 M2 1 1 0) (fun r4 M5 => r4 = none ∧ (gr l sc m_X9_dropMeasures [.ref 32] M5 (fun r6 M7 => r6 = none ∧ (gr l sc m_X8_dropNotes [.ref 20] M7 (fun r8 M9 => r8 = none ∧ (gr l sc m_X2_dropAll [.ref 22] M9 (fun r10 M11 => r10 = none ∧ (gr l sc m_X6_dropAll [.ref 26] M11 (fun r12 M13 => r12 = none ∧ (Q (some (.int v3)) (gl_u2 M13 29 2 0)))))))))))) ∧ (¬ 0 ≤ v3 → Q (some (.int v3)) M2)))) : gr l sc m_X10_modes [.ref 0] M Q :=
  gr_of (by decide +kernel) (Nat.le_of_ble_eq_true rfl) (List.forall_mem_cons.mpr ⟨rfl, (fun _ h => absurd h List.not_mem_nil)⟩) (w_X10_modes_0 l sc M Q h)
set_option maxHeartbeats 400000 in
set_option maxRecDepth 20000 in
theorem w_X10_cell_0 (l : Launch) (sc : Nat × (Nat → Int32)) (M : gl_N) (Q : Option Value → gl_N → Prop) (x1 x2 : Int32)
  (h : gr l sc m_X10_within [.int x1, .int 0, .int ((M 12 0) - 1)] M (fun r1 M2 => ∃ v3 : Int32, r1 = some (.int v3) ∧ ((v3 = 0 → Q (some (.int (-1))) M2) ∧ (¬ v3 = 0 → ((-1) ≤ x2 → (¬ x2 = (-1) → (vp_in x1 6) ∧ (((M2 13 (Int32.toNatClampNeg x1)) ≤ x2 → Q (some (.int (-9))) M2) ∧ (¬ (M2 13 (Int32.toNatClampNeg x1)) ≤ x2 → gr l sc m_X0_stepAt [.ref 12, .int x1, .int x2] M2 (fun r4 M5 => ∃ v6 : Int32, r4 = some (.int v6) ∧ (Q (some (.int v6)) M5))))) ∧ (x2 = (-1) → (vp_in x1 6) ∧ (Q (some (.int (M2 13 (Int32.toNatClampNeg x1)))) M2))) ∧ (¬ (-1) ≤ x2 → Q (some (.int (-1))) M2))))) : gv l sc m_X10_cell 0 [.ref 0, .int x1, .int x2] [] M Q := by
  refine gv_seg ok_X10_cell 0 7 (Ps := []) (pc' := 11) (ls' := [.ref 0, .int x1, .int x2]) (st' := [.int ((M 12 0) - 1), .int 0, .int x1]) (M2 := M) rfl trivial ?_
  refine gv_scall (M' := m_X10_within) (As := [.int x1, .int 0, .int ((M 12 0) - 1)]) (st := []) (gl_dec ok_X10_cell 7 11 (.invokestatic 83) 3 rfl) (gl_lnkS ok_X10_cell 7 rfl rfl) mw_X10_within sw_X10_within ⟨by decide, by decide⟩ ⟨rfl, Nat.le_of_ble_eq_true rfl⟩ h (fun r1 M2 hq => ?_)
  obtain ⟨v3, rfl, h⟩ := hq
  change gv l sc m_X10_cell 14 [.ref 0, .int x1, .int x2] [.int v3] M2 Q
  refine gv_if_eq (t := 22) (by decide) (gl_dec ok_X10_cell 8 14 (.ifCond .eq 8) 3 rfl) (fun c => ?_) (fun c => ?_)
  · replace h := h.1 c
    refine gv_seg ok_X10_cell 12 1 (Ps := []) (pc' := 23) (ls' := [.ref 0, .int x1, .int x2]) (st' := [.int (-1)]) (M2 := M2) rfl trivial ?_
    exact gv_retI (gl_dec ok_X10_cell 13 23 (.ireturn) 1 rfl) rfl h
  · replace h := h.2 c
    refine gv_seg ok_X10_cell 9 2 (Ps := []) (pc' := 19) (ls' := [.ref 0, .int x1, .int x2]) (st' := [.int (-1), .int x2]) (M2 := M2) rfl trivial ?_
    refine gv_icmp_ge (t := 24) (by decide) (gl_dec ok_X10_cell 11 19 (.if_icmp .ge 5) 3 rfl) (fun c => ?_) (fun c => ?_)
    · replace h := h.1 c
      refine gv_seg ok_X10_cell 14 2 (Ps := []) (pc' := 26) (ls' := [.ref 0, .int x1, .int x2]) (st' := [.int (-1), .int x2]) (M2 := M2) rfl trivial ?_
      refine gv_icmp_ne (t := 39) (by decide) (gl_dec ok_X10_cell 16 26 (.if_icmp .ne 13) 3 rfl) (fun c => ?_) (fun c => ?_)
      · replace h := h.1 c
        obtain ⟨hp, h⟩ := h
        refine gv_seg ok_X10_cell 23 6 (Ps := [vp_in x1 6]) (pc' := 49) (ls' := [.ref 0, .int x1, .int x2]) (st' := [.int (M2 13 (Int32.toNatClampNeg x1)), .int x2]) (M2 := M2) rfl hp ?_
        refine gv_icmp_ge (t := 64) (by decide) (gl_dec ok_X10_cell 29 49 (.if_icmp .ge 15) 3 rfl) (fun c => ?_) (fun c => ?_)
        · replace h := h.1 c
          refine gv_seg ok_X10_cell 36 1 (Ps := []) (pc' := 66) (ls' := [.ref 0, .int x1, .int x2]) (st' := [.int (-9)]) (M2 := M2) rfl trivial ?_
          exact gv_retI (gl_dec ok_X10_cell 37 66 (.ireturn) 1 rfl) rfl h
        · replace h := h.2 c
          refine gv_seg ok_X10_cell 30 4 (Ps := []) (pc' := 58) (ls' := [.ref 0, .int x1, .int x2]) (st' := [.int x2, .int x1, .ref 12]) (M2 := M2) rfl trivial ?_
          refine gv_vcall (M' := m_X0_stepAt) (o := 12) (ci := 0) (As := [.int x1, .int x2]) (st := []) (gl_dec ok_X10_cell 34 58 (.invokevirtual 121) 3 rfl) (gl_lnk ok_X10_cell 34 rfl rfl) mw_X0_stepAt iw_X0_stepAt lw_X0_stepAt ⟨by decide, by decide⟩ rfl rfl rfl ⟨rfl, Nat.le_of_ble_eq_true rfl⟩ h (fun r4 M5 hq => ?_)
          obtain ⟨v6, rfl, h⟩ := hq
          change gv l sc m_X10_cell 61 [.ref 0, .int x1, .int x2] [.int v6] M5 Q
          refine gv_goto (t := 66) (by decide) (gl_dec ok_X10_cell 35 61 (.goto 5) 3 rfl) ?_
          exact gv_retI (gl_dec ok_X10_cell 37 66 (.ireturn) 1 rfl) rfl h
      · replace h := h.2 c
        obtain ⟨hp, h⟩ := h
        refine gv_seg ok_X10_cell 17 5 (Ps := [vp_in x1 6]) (pc' := 38) (ls' := [.ref 0, .int x1, .int x2]) (st' := [.int (M2 13 (Int32.toNatClampNeg x1))]) (M2 := M2) rfl hp ?_
        exact gv_retI (gl_dec ok_X10_cell 22 38 (.ireturn) 1 rfl) rfl h
    · replace h := h.2 c
      refine gv_seg ok_X10_cell 12 1 (Ps := []) (pc' := 23) (ls' := [.ref 0, .int x1, .int x2]) (st' := [.int (-1)]) (M2 := M2) rfl trivial ?_
      exact gv_retI (gl_dec ok_X10_cell 13 23 (.ireturn) 1 rfl) rfl h
theorem e_X10_cell (l : Launch) (sc : Nat × (Nat → Int32)) (M : gl_N) (Q : Option Value → gl_N → Prop) (x1 x2 : Int32)
  (h : gr l sc m_X10_within [.int x1, .int 0, .int ((M 12 0) - 1)] M (fun r1 M2 => ∃ v3 : Int32, r1 = some (.int v3) ∧ ((v3 = 0 → Q (some (.int (-1))) M2) ∧ (¬ v3 = 0 → ((-1) ≤ x2 → (¬ x2 = (-1) → (vp_in x1 6) ∧ (((M2 13 (Int32.toNatClampNeg x1)) ≤ x2 → Q (some (.int (-9))) M2) ∧ (¬ (M2 13 (Int32.toNatClampNeg x1)) ≤ x2 → gr l sc m_X0_stepAt [.ref 12, .int x1, .int x2] M2 (fun r4 M5 => ∃ v6 : Int32, r4 = some (.int v6) ∧ (Q (some (.int v6)) M5))))) ∧ (x2 = (-1) → (vp_in x1 6) ∧ (Q (some (.int (M2 13 (Int32.toNatClampNeg x1)))) M2))) ∧ (¬ (-1) ≤ x2 → Q (some (.int (-1))) M2))))) : gr l sc m_X10_cell [.ref 0, .int x1, .int x2] M Q :=
  gr_of (by decide +kernel) (Nat.le_of_ble_eq_true rfl) (List.forall_mem_cons.mpr ⟨rfl, (List.forall_mem_cons.mpr ⟨rfl, (List.forall_mem_cons.mpr ⟨rfl, (fun _ h => absurd h List.not_mem_nil)⟩)⟩)⟩) (w_X10_cell_0 l sc M Q x1 x2 h)
set_option maxHeartbeats 400000 in
set_option maxRecDepth 20000 in
theorem w_X10_part_0 (l : Launch) (sc : Nat × (Nat → Int32)) (M : gl_N) (Q : Option Value → gl_N → Prop) (x1 x2 x3 : Int32)
  (h : gr l sc m_X0_isScale [.ref 12, .int x1] M (fun r1 M2 => ∃ v3 : Int32, r1 = some (.int v3) ∧ ((v3 = 0 → Q (some (.int (-1))) M2) ∧ (¬ v3 = 0 → (x2 < (-1) → Q (some (.int (-1))) M2) ∧ (¬ x2 < (-1) → gr l sc m_X10_within [.int x3, .int 0, .int 1] M2 (fun r4 M5 => ∃ v6 : Int32, r4 = some (.int v6) ∧ ((¬ v6 = 0 → gr l sc m_X0_partsOf [.ref 12, .int x1] M5 (fun r7 M8 => ∃ v9 : Int32, r7 = some (.int v9) ∧ ((¬ x2 = (-1) → (x2 < v9 → (¬ x3 = 0 → gr l sc m_X0_pitchAt [.ref 12, .int x1, .int x2] M8 (fun r10 M11 => ∃ v12 : Int32, r10 = some (.int v12) ∧ (Q (some (.int v12)) M11))) ∧ (x3 = 0 → gr l sc m_X0_cellAt [.ref 12, .int x1, .int x2] M8 (fun r13 M14 => ∃ v15 : Int32, r13 = some (.int v15) ∧ (Q (some (.int v15)) M14)))) ∧ (¬ x2 < v9 → Q (some (.int (-9))) M8)) ∧ (x2 = (-1) → Q (some (.int v9)) M8)))) ∧ (v6 = 0 → Q (some (.int (-1))) M5)))))))) : gv l sc m_X10_part 0 [.ref 0, .int x1, .int x2, .int x3, .float 0] [] M Q := by
  refine gv_seg ok_X10_part 0 3 (Ps := []) (pc' := 5) (ls' := [.ref 0, .int x1, .int x2, .int x3, .float 0]) (st' := [.int x1, .ref 12]) (M2 := M) rfl trivial ?_
  refine gv_vcall (M' := m_X0_isScale) (o := 12) (ci := 0) (As := [.int x1]) (st := []) (gl_dec ok_X10_part 3 5 (.invokevirtual 125) 3 rfl) (gl_lnk ok_X10_part 3 rfl rfl) mw_X0_isScale iw_X0_isScale lw_X0_isScale ⟨by decide, by decide⟩ rfl rfl rfl ⟨rfl, Nat.le_of_ble_eq_true rfl⟩ h (fun r1 M2 hq => ?_)
  obtain ⟨v3, rfl, h⟩ := hq
  change gv l sc m_X10_part 8 [.ref 0, .int x1, .int x2, .int x3, .float 0] [.int v3] M2 Q
  refine gv_if_eq (t := 25) (by decide) (gl_dec ok_X10_part 4 8 (.ifCond .eq 17) 3 rfl) (fun c => ?_) (fun c => ?_)
  · replace h := h.1 c
    refine gv_seg ok_X10_part 13 1 (Ps := []) (pc' := 26) (ls' := [.ref 0, .int x1, .int x2, .int x3, .float 0]) (st' := [.int (-1)]) (M2 := M2) rfl trivial ?_
    exact gv_retI (gl_dec ok_X10_part 14 26 (.ireturn) 1 rfl) rfl h
  · replace h := h.2 c
    refine gv_seg ok_X10_part 5 2 (Ps := []) (pc' := 13) (ls' := [.ref 0, .int x1, .int x2, .int x3, .float 0]) (st' := [.int (-1), .int x2]) (M2 := M2) rfl trivial ?_
    refine gv_icmp_lt (t := 25) (by decide) (gl_dec ok_X10_part 7 13 (.if_icmp .lt 12) 3 rfl) (fun c => ?_) (fun c => ?_)
    · replace h := h.1 c
      refine gv_seg ok_X10_part 13 1 (Ps := []) (pc' := 26) (ls' := [.ref 0, .int x1, .int x2, .int x3, .float 0]) (st' := [.int (-1)]) (M2 := M2) rfl trivial ?_
      exact gv_retI (gl_dec ok_X10_part 14 26 (.ireturn) 1 rfl) rfl h
    · replace h := h.2 c
      refine gv_seg ok_X10_part 8 3 (Ps := []) (pc' := 19) (ls' := [.ref 0, .int x1, .int x2, .int x3, .float 0]) (st' := [.int 1, .int 0, .int x3]) (M2 := M2) rfl trivial ?_
      refine gv_scall (M' := m_X10_within) (As := [.int x3, .int 0, .int 1]) (st := []) (gl_dec ok_X10_part 11 19 (.invokestatic 83) 3 rfl) (gl_lnkS ok_X10_part 11 rfl rfl) mw_X10_within sw_X10_within ⟨by decide, by decide⟩ ⟨rfl, Nat.le_of_ble_eq_true rfl⟩ h (fun r4 M5 hq => ?_)
      obtain ⟨v6, rfl, h⟩ := hq
      change gv l sc m_X10_part 22 [.ref 0, .int x1, .int x2, .int x3, .float 0] [.int v6] M5 Q
      refine gv_if_ne (t := 27) (by decide) (gl_dec ok_X10_part 12 22 (.ifCond .ne 5) 3 rfl) (fun c => ?_) (fun c => ?_)
      · replace h := h.1 c
        refine gv_seg ok_X10_part 15 3 (Ps := []) (pc' := 32) (ls' := [.ref 0, .int x1, .int x2, .int x3, .float 0]) (st' := [.int x1, .ref 12]) (M2 := M5) rfl trivial ?_
        refine gv_vcall (M' := m_X0_partsOf) (o := 12) (ci := 0) (As := [.int x1]) (st := []) (gl_dec ok_X10_part 18 32 (.invokevirtual 129) 3 rfl) (gl_lnk ok_X10_part 18 rfl rfl) mw_X0_partsOf iw_X0_partsOf lw_X0_partsOf ⟨by decide, by decide⟩ rfl rfl rfl ⟨rfl, Nat.le_of_ble_eq_true rfl⟩ h (fun r7 M8 hq => ?_)
        obtain ⟨v9, rfl, h⟩ := hq
        change gv l sc m_X10_part 35 [.ref 0, .int x1, .int x2, .int x3, .float 0] [.int v9] M8 Q
        refine gv_seg ok_X10_part 19 3 (Ps := []) (pc' := 39) (ls' := [.ref 0, .int x1, .int x2, .int x3, .int v9]) (st' := [.int (-1), .int x2]) (M2 := M8) rfl trivial ?_
        refine gv_icmp_ne (t := 45) (by decide) (gl_dec ok_X10_part 22 39 (.if_icmp .ne 6) 3 rfl) (fun c => ?_) (fun c => ?_)
        · replace h := h.1 c
          refine gv_seg ok_X10_part 25 2 (Ps := []) (pc' := 48) (ls' := [.ref 0, .int x1, .int x2, .int x3, .int v9]) (st' := [.int v9, .int x2]) (M2 := M8) rfl trivial ?_
          refine gv_icmp_lt (t := 54) (by decide) (gl_dec ok_X10_part 27 48 (.if_icmp .lt 6) 3 rfl) (fun c => ?_) (fun c => ?_)
          · replace h := h.1 c
            refine gv_seg ok_X10_part 30 1 (Ps := []) (pc' := 55) (ls' := [.ref 0, .int x1, .int x2, .int x3, .int v9]) (st' := [.int x3]) (M2 := M8) rfl trivial ?_
            refine gv_if_ne (t := 70) (by decide) (gl_dec ok_X10_part 31 55 (.ifCond .ne 15) 3 rfl) (fun c => ?_) (fun c => ?_)
            · replace h := h.1 c
              refine gv_seg ok_X10_part 38 4 (Ps := []) (pc' := 76) (ls' := [.ref 0, .int x1, .int x2, .int x3, .int v9]) (st' := [.int x2, .int x1, .ref 12]) (M2 := M8) rfl trivial ?_
              refine gv_vcall (M' := m_X0_pitchAt) (o := 12) (ci := 0) (As := [.int x1, .int x2]) (st := []) (gl_dec ok_X10_part 42 76 (.invokevirtual 136) 3 rfl) (gl_lnk ok_X10_part 42 rfl rfl) mw_X0_pitchAt iw_X0_pitchAt lw_X0_pitchAt ⟨by decide, by decide⟩ rfl rfl rfl ⟨rfl, Nat.le_of_ble_eq_true rfl⟩ h (fun r10 M11 hq => ?_)
              obtain ⟨v12, rfl, h⟩ := hq
              change gv l sc m_X10_part 79 [.ref 0, .int x1, .int x2, .int x3, .int v9] [.int v12] M11 Q
              exact gv_retI (gl_dec ok_X10_part 43 79 (.ireturn) 1 rfl) rfl h
            · replace h := h.2 c
              refine gv_seg ok_X10_part 32 4 (Ps := []) (pc' := 64) (ls' := [.ref 0, .int x1, .int x2, .int x3, .int v9]) (st' := [.int x2, .int x1, .ref 12]) (M2 := M8) rfl trivial ?_
              refine gv_vcall (M' := m_X0_cellAt) (o := 12) (ci := 0) (As := [.int x1, .int x2]) (st := []) (gl_dec ok_X10_part 36 64 (.invokevirtual 133) 3 rfl) (gl_lnk ok_X10_part 36 rfl rfl) mw_X0_cellAt iw_X0_cellAt lw_X0_cellAt ⟨by decide, by decide⟩ rfl rfl rfl ⟨rfl, Nat.le_of_ble_eq_true rfl⟩ h (fun r13 M14 hq => ?_)
              obtain ⟨v15, rfl, h⟩ := hq
              change gv l sc m_X10_part 67 [.ref 0, .int x1, .int x2, .int x3, .int v9] [.int v15] M14 Q
              refine gv_goto (t := 79) (by decide) (gl_dec ok_X10_part 37 67 (.goto 12) 3 rfl) ?_
              exact gv_retI (gl_dec ok_X10_part 43 79 (.ireturn) 1 rfl) rfl h
          · replace h := h.2 c
            refine gv_seg ok_X10_part 28 1 (Ps := []) (pc' := 53) (ls' := [.ref 0, .int x1, .int x2, .int x3, .int v9]) (st' := [.int (-9)]) (M2 := M8) rfl trivial ?_
            exact gv_retI (gl_dec ok_X10_part 29 53 (.ireturn) 1 rfl) rfl h
        · replace h := h.2 c
          refine gv_seg ok_X10_part 23 1 (Ps := []) (pc' := 44) (ls' := [.ref 0, .int x1, .int x2, .int x3, .int v9]) (st' := [.int v9]) (M2 := M8) rfl trivial ?_
          exact gv_retI (gl_dec ok_X10_part 24 44 (.ireturn) 1 rfl) rfl h
      · replace h := h.2 c
        refine gv_seg ok_X10_part 13 1 (Ps := []) (pc' := 26) (ls' := [.ref 0, .int x1, .int x2, .int x3, .float 0]) (st' := [.int (-1)]) (M2 := M5) rfl trivial ?_
        exact gv_retI (gl_dec ok_X10_part 14 26 (.ireturn) 1 rfl) rfl h
theorem e_X10_part (l : Launch) (sc : Nat × (Nat → Int32)) (M : gl_N) (Q : Option Value → gl_N → Prop) (x1 x2 x3 : Int32)
  (h : gr l sc m_X0_isScale [.ref 12, .int x1] M (fun r1 M2 => ∃ v3 : Int32, r1 = some (.int v3) ∧ ((v3 = 0 → Q (some (.int (-1))) M2) ∧ (¬ v3 = 0 → (x2 < (-1) → Q (some (.int (-1))) M2) ∧ (¬ x2 < (-1) → gr l sc m_X10_within [.int x3, .int 0, .int 1] M2 (fun r4 M5 => ∃ v6 : Int32, r4 = some (.int v6) ∧ ((¬ v6 = 0 → gr l sc m_X0_partsOf [.ref 12, .int x1] M5 (fun r7 M8 => ∃ v9 : Int32, r7 = some (.int v9) ∧ ((¬ x2 = (-1) → (x2 < v9 → (¬ x3 = 0 → gr l sc m_X0_pitchAt [.ref 12, .int x1, .int x2] M8 (fun r10 M11 => ∃ v12 : Int32, r10 = some (.int v12) ∧ (Q (some (.int v12)) M11))) ∧ (x3 = 0 → gr l sc m_X0_cellAt [.ref 12, .int x1, .int x2] M8 (fun r13 M14 => ∃ v15 : Int32, r13 = some (.int v15) ∧ (Q (some (.int v15)) M14)))) ∧ (¬ x2 < v9 → Q (some (.int (-9))) M8)) ∧ (x2 = (-1) → Q (some (.int v9)) M8)))) ∧ (v6 = 0 → Q (some (.int (-1))) M5)))))))) : gr l sc m_X10_part [.ref 0, .int x1, .int x2, .int x3] M Q :=
  gr_of (by decide +kernel) (Nat.le_of_ble_eq_true rfl) (List.forall_mem_cons.mpr ⟨rfl, (List.forall_mem_cons.mpr ⟨rfl, (List.forall_mem_cons.mpr ⟨rfl, (List.forall_mem_cons.mpr ⟨rfl, (fun _ h => absurd h List.not_mem_nil)⟩)⟩)⟩)⟩) (w_X10_part_0 l sc M Q x1 x2 x3 h)
set_option maxHeartbeats 400000 in
set_option maxRecDepth 20000 in
theorem w_X10_plays_0 (l : Launch) (sc : Nat × (Nat → Int32)) (M : gl_N) (Q : Option Value → gl_N → Prop) (x1 : Int32)
  (h : gr l sc m_X10_within [.int x1, .int 0, .int 60] M (fun r1 M2 => ∃ v3 : Int32, r1 = some (.int v3) ∧ ((¬ v3 = 0 → ((M2 20 1) < 16 → gr l sc m_X2_remember [.ref 22, .ref 20] M2 (fun r4 M5 => r4 = none ∧ (gr l sc m_X8_append [.ref 20, .int x1] M5 (fun r6 M7 => r6 = none ∧ (Q (some (.int (M7 20 1))) M7))))) ∧ (¬ (M2 20 1) < 16 → Q (some (.int (-3))) M2)) ∧ (v3 = 0 → Q (some (.int (-1))) M2)))) : gv l sc m_X10_plays 0 [.ref 0, .int x1] [] M Q := by
  refine gv_seg ok_X10_plays 0 3 (Ps := []) (pc' := 4) (ls' := [.ref 0, .int x1]) (st' := [.int 60, .int 0, .int x1]) (M2 := M) rfl trivial ?_
  refine gv_scall (M' := m_X10_within) (As := [.int x1, .int 0, .int 60]) (st := []) (gl_dec ok_X10_plays 3 4 (.invokestatic 83) 3 rfl) (gl_lnkS ok_X10_plays 3 rfl rfl) mw_X10_within sw_X10_within ⟨by decide, by decide⟩ ⟨rfl, Nat.le_of_ble_eq_true rfl⟩ h (fun r1 M2 hq => ?_)
  obtain ⟨v3, rfl, h⟩ := hq
  change gv l sc m_X10_plays 7 [.ref 0, .int x1] [.int v3] M2 Q
  refine gv_if_ne (t := 12) (by decide) (gl_dec ok_X10_plays 4 7 (.ifCond .ne 5) 3 rfl) (fun c => ?_) (fun c => ?_)
  · replace h := h.1 c
    refine gv_seg ok_X10_plays 7 4 (Ps := []) (pc' := 21) (ls' := [.ref 0, .int x1]) (st' := [.int 16, .int (M2 20 1)]) (M2 := M2) rfl trivial ?_
    refine gv_icmp_lt (t := 27) (by decide) (gl_dec ok_X10_plays 11 21 (.if_icmp .lt 6) 3 rfl) (fun c => ?_) (fun c => ?_)
    · replace h := h.1 c
      refine gv_seg ok_X10_plays 14 4 (Ps := []) (pc' := 35) (ls' := [.ref 0, .int x1]) (st' := [.ref 20, .ref 22]) (M2 := M2) rfl trivial ?_
      refine gv_vcall (M' := m_X2_remember) (o := 22) (ci := 2) (As := [.ref 20]) (st := []) (gl_dec ok_X10_plays 18 35 (.invokevirtual 140) 3 rfl) (gl_lnk ok_X10_plays 18 rfl rfl) mw_X2_remember iw_X2_remember lw_X2_remember ⟨by decide, by decide⟩ rfl rfl rfl ⟨rfl, Nat.le_of_ble_eq_true rfl⟩ h (fun r4 M5 hq => ?_)
      obtain ⟨rfl, h⟩ := hq
      change gv l sc m_X10_plays 38 [.ref 0, .int x1] [] M5 Q
      refine gv_seg ok_X10_plays 19 3 (Ps := []) (pc' := 43) (ls' := [.ref 0, .int x1]) (st' := [.int x1, .ref 20]) (M2 := M5) rfl trivial ?_
      refine gv_vcall (M' := m_X8_append) (o := 20) (ci := 8) (As := [.int x1]) (st := []) (gl_dec ok_X10_plays 22 43 (.invokevirtual 144) 3 rfl) (gl_lnk ok_X10_plays 22 rfl rfl) mw_X8_append iw_X8_append lw_X8_append ⟨by decide, by decide⟩ rfl rfl rfl ⟨rfl, Nat.le_of_ble_eq_true rfl⟩ h (fun r6 M7 hq => ?_)
      obtain ⟨rfl, h⟩ := hq
      change gv l sc m_X10_plays 46 [.ref 0, .int x1] [] M7 Q
      refine gv_seg ok_X10_plays 23 3 (Ps := []) (pc' := 53) (ls' := [.ref 0, .int x1]) (st' := [.int (M7 20 1)]) (M2 := M7) rfl trivial ?_
      exact gv_retI (gl_dec ok_X10_plays 26 53 (.ireturn) 1 rfl) rfl h
    · replace h := h.2 c
      refine gv_seg ok_X10_plays 12 1 (Ps := []) (pc' := 26) (ls' := [.ref 0, .int x1]) (st' := [.int (-3)]) (M2 := M2) rfl trivial ?_
      exact gv_retI (gl_dec ok_X10_plays 13 26 (.ireturn) 1 rfl) rfl h
  · replace h := h.2 c
    refine gv_seg ok_X10_plays 5 1 (Ps := []) (pc' := 11) (ls' := [.ref 0, .int x1]) (st' := [.int (-1)]) (M2 := M2) rfl trivial ?_
    exact gv_retI (gl_dec ok_X10_plays 6 11 (.ireturn) 1 rfl) rfl h
theorem e_X10_plays (l : Launch) (sc : Nat × (Nat → Int32)) (M : gl_N) (Q : Option Value → gl_N → Prop) (x1 : Int32)
  (h : gr l sc m_X10_within [.int x1, .int 0, .int 60] M (fun r1 M2 => ∃ v3 : Int32, r1 = some (.int v3) ∧ ((¬ v3 = 0 → ((M2 20 1) < 16 → gr l sc m_X2_remember [.ref 22, .ref 20] M2 (fun r4 M5 => r4 = none ∧ (gr l sc m_X8_append [.ref 20, .int x1] M5 (fun r6 M7 => r6 = none ∧ (Q (some (.int (M7 20 1))) M7))))) ∧ (¬ (M2 20 1) < 16 → Q (some (.int (-3))) M2)) ∧ (v3 = 0 → Q (some (.int (-1))) M2)))) : gr l sc m_X10_plays [.ref 0, .int x1] M Q :=
  gr_of (by decide +kernel) (Nat.le_of_ble_eq_true rfl) (List.forall_mem_cons.mpr ⟨rfl, (List.forall_mem_cons.mpr ⟨rfl, (fun _ h => absurd h List.not_mem_nil)⟩)⟩) (w_X10_plays_0 l sc M Q x1 h)
set_option maxHeartbeats 400000 in
set_option maxRecDepth 20000 in
theorem w_X10_cuts_0 (l : Launch) (sc : Nat × (Nat → Int32)) (M : gl_N) (Q : Option Value → gl_N → Prop)
  (h : (0 < (M 20 1) → gr l sc m_X2_remember [.ref 22, .ref 20] M (fun r1 M2 => r1 = none ∧ (gr l sc m_X8_removeLast [.ref 20] M2 (fun r3 M4 => ∃ v5 : Int32, r3 = some (.int v5) ∧ (Q (some (.int v5)) M4))))) ∧ (¬ 0 < (M 20 1) → Q (some (.int (-2))) M)) : gv l sc m_X10_cuts 0 [.ref 0] [] M Q := by
  refine gv_seg ok_X10_cuts 0 3 (Ps := []) (pc' := 7) (ls' := [.ref 0]) (st' := [.int (M 20 1)]) (M2 := M) rfl trivial ?_
  refine gv_if_gt (t := 13) (by decide) (gl_dec ok_X10_cuts 3 7 (.ifCond .gt 6) 3 rfl) (fun c => ?_) (fun c => ?_)
  · replace h := h.1 c
    refine gv_seg ok_X10_cuts 6 4 (Ps := []) (pc' := 21) (ls' := [.ref 0]) (st' := [.ref 20, .ref 22]) (M2 := M) rfl trivial ?_
    refine gv_vcall (M' := m_X2_remember) (o := 22) (ci := 2) (As := [.ref 20]) (st := []) (gl_dec ok_X10_cuts 10 21 (.invokevirtual 140) 3 rfl) (gl_lnk ok_X10_cuts 10 rfl rfl) mw_X2_remember iw_X2_remember lw_X2_remember ⟨by decide, by decide⟩ rfl rfl rfl ⟨rfl, Nat.le_of_ble_eq_true rfl⟩ h (fun r1 M2 hq => ?_)
    obtain ⟨rfl, h⟩ := hq
    change gv l sc m_X10_cuts 24 [.ref 0] [] M2 Q
    refine gv_seg ok_X10_cuts 11 2 (Ps := []) (pc' := 28) (ls' := [.ref 0]) (st' := [.ref 20]) (M2 := M2) rfl trivial ?_
    refine gv_vcall (M' := m_X8_removeLast) (o := 20) (ci := 8) (As := []) (st := []) (gl_dec ok_X10_cuts 13 28 (.invokevirtual 147) 3 rfl) (gl_lnk ok_X10_cuts 13 rfl rfl) mw_X8_removeLast iw_X8_removeLast lw_X8_removeLast ⟨by decide, by decide⟩ rfl rfl rfl ⟨rfl, Nat.le_of_ble_eq_true rfl⟩ h (fun r3 M4 hq => ?_)
    obtain ⟨v5, rfl, h⟩ := hq
    change gv l sc m_X10_cuts 31 [.ref 0] [.int v5] M4 Q
    exact gv_retI (gl_dec ok_X10_cuts 14 31 (.ireturn) 1 rfl) rfl h
  · replace h := h.2 c
    refine gv_seg ok_X10_cuts 4 1 (Ps := []) (pc' := 12) (ls' := [.ref 0]) (st' := [.int (-2)]) (M2 := M) rfl trivial ?_
    exact gv_retI (gl_dec ok_X10_cuts 5 12 (.ireturn) 1 rfl) rfl h
theorem e_X10_cuts (l : Launch) (sc : Nat × (Nat → Int32)) (M : gl_N) (Q : Option Value → gl_N → Prop)
  (h : (0 < (M 20 1) → gr l sc m_X2_remember [.ref 22, .ref 20] M (fun r1 M2 => r1 = none ∧ (gr l sc m_X8_removeLast [.ref 20] M2 (fun r3 M4 => ∃ v5 : Int32, r3 = some (.int v5) ∧ (Q (some (.int v5)) M4))))) ∧ (¬ 0 < (M 20 1) → Q (some (.int (-2))) M)) : gr l sc m_X10_cuts [.ref 0] M Q :=
  gr_of (by decide +kernel) (Nat.le_of_ble_eq_true rfl) (List.forall_mem_cons.mpr ⟨rfl, (fun _ h => absurd h List.not_mem_nil)⟩) (w_X10_cuts_0 l sc M Q h)
set_option maxHeartbeats 400000 in
set_option maxRecDepth 20000 in
theorem w_X10_mends_0 (l : Launch) (sc : Nat × (Nat → Int32)) (M : gl_N) (Q : Option Value → gl_N → Prop) (x1 x2 : Int32)
  (h : gr l sc m_X8_isPlace [.ref 20, .int x1] M (fun r1 M2 => ∃ v3 : Int32, r1 = some (.int v3) ∧ ((v3 = 0 → Q (some (.int (-1))) M2) ∧ (¬ v3 = 0 → gr l sc m_X10_within [.int x2, .int 0, .int 60] M2 (fun r4 M5 => ∃ v6 : Int32, r4 = some (.int v6) ∧ ((¬ v6 = 0 → (vp_in x1 16) ∧ ((¬ (M5 21 (Int32.toNatClampNeg x1)) = x2 → gr l sc m_X2_remember [.ref 22, .ref 20] M5 (fun r7 M8 => r7 = none ∧ (gr l sc m_X8_replace [.ref 20, .int x1, .int x2] M8 (fun r9 M10 => ∃ v11 : Int32, r9 = some (.int v11) ∧ (Q (some (.int v11)) M10))))) ∧ ((M5 21 (Int32.toNatClampNeg x1)) = x2 → Q (some (.int (-2))) M5))) ∧ (v6 = 0 → Q (some (.int (-1))) M5))))))) : gv l sc m_X10_mends 0 [.ref 0, .int x1, .int x2] [] M Q := by
  refine gv_seg ok_X10_mends 0 3 (Ps := []) (pc' := 5) (ls' := [.ref 0, .int x1, .int x2]) (st' := [.int x1, .ref 20]) (M2 := M) rfl trivial ?_
  refine gv_vcall (M' := m_X8_isPlace) (o := 20) (ci := 8) (As := [.int x1]) (st := []) (gl_dec ok_X10_mends 3 5 (.invokevirtual 150) 3 rfl) (gl_lnk ok_X10_mends 3 rfl rfl) mw_X8_isPlace iw_X8_isPlace lw_X8_isPlace ⟨by decide, by decide⟩ rfl rfl rfl ⟨rfl, Nat.le_of_ble_eq_true rfl⟩ h (fun r1 M2 hq => ?_)
  obtain ⟨v3, rfl, h⟩ := hq
  change gv l sc m_X10_mends 8 [.ref 0, .int x1, .int x2] [.int v3] M2 Q
  refine gv_if_eq (t := 21) (by decide) (gl_dec ok_X10_mends 4 8 (.ifCond .eq 13) 3 rfl) (fun c => ?_) (fun c => ?_)
  · replace h := h.1 c
    refine gv_seg ok_X10_mends 10 1 (Ps := []) (pc' := 22) (ls' := [.ref 0, .int x1, .int x2]) (st' := [.int (-1)]) (M2 := M2) rfl trivial ?_
    exact gv_retI (gl_dec ok_X10_mends 11 22 (.ireturn) 1 rfl) rfl h
  · replace h := h.2 c
    refine gv_seg ok_X10_mends 5 3 (Ps := []) (pc' := 15) (ls' := [.ref 0, .int x1, .int x2]) (st' := [.int 60, .int 0, .int x2]) (M2 := M2) rfl trivial ?_
    refine gv_scall (M' := m_X10_within) (As := [.int x2, .int 0, .int 60]) (st := []) (gl_dec ok_X10_mends 8 15 (.invokestatic 83) 3 rfl) (gl_lnkS ok_X10_mends 8 rfl rfl) mw_X10_within sw_X10_within ⟨by decide, by decide⟩ ⟨rfl, Nat.le_of_ble_eq_true rfl⟩ h (fun r4 M5 hq => ?_)
    obtain ⟨v6, rfl, h⟩ := hq
    change gv l sc m_X10_mends 18 [.ref 0, .int x1, .int x2] [.int v6] M5 Q
    refine gv_if_ne (t := 23) (by decide) (gl_dec ok_X10_mends 9 18 (.ifCond .ne 5) 3 rfl) (fun c => ?_) (fun c => ?_)
    · replace h := h.1 c
      obtain ⟨hp, h⟩ := h
      refine gv_seg ok_X10_mends 12 6 (Ps := [vp_in x1 16]) (pc' := 33) (ls' := [.ref 0, .int x1, .int x2]) (st' := [.int x2, .int (M5 21 (Int32.toNatClampNeg x1))]) (M2 := M5) rfl hp ?_
      refine gv_icmp_ne (t := 39) (by decide) (gl_dec ok_X10_mends 18 33 (.if_icmp .ne 6) 3 rfl) (fun c => ?_) (fun c => ?_)
      · replace h := h.1 c
        refine gv_seg ok_X10_mends 21 4 (Ps := []) (pc' := 47) (ls' := [.ref 0, .int x1, .int x2]) (st' := [.ref 20, .ref 22]) (M2 := M5) rfl trivial ?_
        refine gv_vcall (M' := m_X2_remember) (o := 22) (ci := 2) (As := [.ref 20]) (st := []) (gl_dec ok_X10_mends 25 47 (.invokevirtual 140) 3 rfl) (gl_lnk ok_X10_mends 25 rfl rfl) mw_X2_remember iw_X2_remember lw_X2_remember ⟨by decide, by decide⟩ rfl rfl rfl ⟨rfl, Nat.le_of_ble_eq_true rfl⟩ h (fun r7 M8 hq => ?_)
        obtain ⟨rfl, h⟩ := hq
        change gv l sc m_X10_mends 50 [.ref 0, .int x1, .int x2] [] M8 Q
        refine gv_seg ok_X10_mends 26 4 (Ps := []) (pc' := 56) (ls' := [.ref 0, .int x1, .int x2]) (st' := [.int x2, .int x1, .ref 20]) (M2 := M8) rfl trivial ?_
        refine gv_vcall (M' := m_X8_replace) (o := 20) (ci := 8) (As := [.int x1, .int x2]) (st := []) (gl_dec ok_X10_mends 30 56 (.invokevirtual 156) 3 rfl) (gl_lnk ok_X10_mends 30 rfl rfl) mw_X8_replace iw_X8_replace lw_X8_replace ⟨by decide, by decide⟩ rfl rfl rfl ⟨rfl, Nat.le_of_ble_eq_true rfl⟩ h (fun r9 M10 hq => ?_)
        obtain ⟨v11, rfl, h⟩ := hq
        change gv l sc m_X10_mends 59 [.ref 0, .int x1, .int x2] [.int v11] M10 Q
        exact gv_retI (gl_dec ok_X10_mends 31 59 (.ireturn) 1 rfl) rfl h
      · replace h := h.2 c
        refine gv_seg ok_X10_mends 19 1 (Ps := []) (pc' := 38) (ls' := [.ref 0, .int x1, .int x2]) (st' := [.int (-2)]) (M2 := M5) rfl trivial ?_
        exact gv_retI (gl_dec ok_X10_mends 20 38 (.ireturn) 1 rfl) rfl h
    · replace h := h.2 c
      refine gv_seg ok_X10_mends 10 1 (Ps := []) (pc' := 22) (ls' := [.ref 0, .int x1, .int x2]) (st' := [.int (-1)]) (M2 := M5) rfl trivial ?_
      exact gv_retI (gl_dec ok_X10_mends 11 22 (.ireturn) 1 rfl) rfl h
theorem e_X10_mends (l : Launch) (sc : Nat × (Nat → Int32)) (M : gl_N) (Q : Option Value → gl_N → Prop) (x1 x2 : Int32)
  (h : gr l sc m_X8_isPlace [.ref 20, .int x1] M (fun r1 M2 => ∃ v3 : Int32, r1 = some (.int v3) ∧ ((v3 = 0 → Q (some (.int (-1))) M2) ∧ (¬ v3 = 0 → gr l sc m_X10_within [.int x2, .int 0, .int 60] M2 (fun r4 M5 => ∃ v6 : Int32, r4 = some (.int v6) ∧ ((¬ v6 = 0 → (vp_in x1 16) ∧ ((¬ (M5 21 (Int32.toNatClampNeg x1)) = x2 → gr l sc m_X2_remember [.ref 22, .ref 20] M5 (fun r7 M8 => r7 = none ∧ (gr l sc m_X8_replace [.ref 20, .int x1, .int x2] M8 (fun r9 M10 => ∃ v11 : Int32, r9 = some (.int v11) ∧ (Q (some (.int v11)) M10))))) ∧ ((M5 21 (Int32.toNatClampNeg x1)) = x2 → Q (some (.int (-2))) M5))) ∧ (v6 = 0 → Q (some (.int (-1))) M5))))))) : gr l sc m_X10_mends [.ref 0, .int x1, .int x2] M Q :=
  gr_of (by decide +kernel) (Nat.le_of_ble_eq_true rfl) (List.forall_mem_cons.mpr ⟨rfl, (List.forall_mem_cons.mpr ⟨rfl, (List.forall_mem_cons.mpr ⟨rfl, (fun _ h => absurd h List.not_mem_nil)⟩)⟩)⟩) (w_X10_mends_0 l sc M Q x1 x2 h)
set_option maxHeartbeats 400000 in
set_option maxRecDepth 20000 in
theorem w_X10_moves_0 (l : Launch) (sc : Nat × (Nat → Int32)) (M : gl_N) (Q : Option Value → gl_N → Prop) (x1 : Int32)
  (h : gr l sc m_X10_within [.int x1, .int (-20), .int 20] M (fun r1 M2 => ∃ v3 : Int32, r1 = some (.int v3) ∧ ((v3 = 0 → Q (some (.int (-1))) M2) ∧ (¬ v3 = 0 → gr l sc m_X8_canShift [.ref 20, .int x1] M2 (fun r4 M5 => ∃ v6 : Int32, r4 = some (.int v6) ∧ ((¬ v6 = 0 → ((M5 20 1) = 0 → Q (some (.int (-2))) M5) ∧ (¬ (M5 20 1) = 0 → (¬ x1 = 0 → gr l sc m_X2_remember [.ref 22, .ref 20] M5 (fun r7 M8 => r7 = none ∧ (gr l sc m_X8_shift [.ref 20, .int x1] M8 (fun r9 M10 => r9 = none ∧ (Q (some (.int (M10 20 1))) M10))))) ∧ (x1 = 0 → Q (some (.int (-2))) M5))) ∧ (v6 = 0 → Q (some (.int (-1))) M5))))))) : gv l sc m_X10_moves 0 [.ref 0, .int x1] [] M Q := by
  refine gv_seg ok_X10_moves 0 3 (Ps := []) (pc' := 5) (ls' := [.ref 0, .int x1]) (st' := [.int 20, .int (-20), .int x1]) (M2 := M) rfl trivial ?_
  refine gv_scall (M' := m_X10_within) (As := [.int x1, .int (-20), .int 20]) (st := []) (gl_dec ok_X10_moves 3 5 (.invokestatic 83) 3 rfl) (gl_lnkS ok_X10_moves 3 rfl rfl) mw_X10_within sw_X10_within ⟨by decide, by decide⟩ ⟨rfl, Nat.le_of_ble_eq_true rfl⟩ h (fun r1 M2 hq => ?_)
  obtain ⟨v3, rfl, h⟩ := hq
  change gv l sc m_X10_moves 8 [.ref 0, .int x1] [.int v3] M2 Q
  refine gv_if_eq (t := 22) (by decide) (gl_dec ok_X10_moves 4 8 (.ifCond .eq 14) 3 rfl) (fun c => ?_) (fun c => ?_)
  · replace h := h.1 c
    refine gv_seg ok_X10_moves 10 1 (Ps := []) (pc' := 23) (ls' := [.ref 0, .int x1]) (st' := [.int (-1)]) (M2 := M2) rfl trivial ?_
    exact gv_retI (gl_dec ok_X10_moves 11 23 (.ireturn) 1 rfl) rfl h
  · replace h := h.2 c
    refine gv_seg ok_X10_moves 5 3 (Ps := []) (pc' := 16) (ls' := [.ref 0, .int x1]) (st' := [.int x1, .ref 20]) (M2 := M2) rfl trivial ?_
    refine gv_vcall (M' := m_X8_canShift) (o := 20) (ci := 8) (As := [.int x1]) (st := []) (gl_dec ok_X10_moves 8 16 (.invokevirtual 159) 3 rfl) (gl_lnk ok_X10_moves 8 rfl rfl) mw_X8_canShift iw_X8_canShift lw_X8_canShift ⟨by decide, by decide⟩ rfl rfl rfl ⟨rfl, Nat.le_of_ble_eq_true rfl⟩ h (fun r4 M5 hq => ?_)
    obtain ⟨v6, rfl, h⟩ := hq
    change gv l sc m_X10_moves 19 [.ref 0, .int x1] [.int v6] M5 Q
    refine gv_if_ne (t := 24) (by decide) (gl_dec ok_X10_moves 9 19 (.ifCond .ne 5) 3 rfl) (fun c => ?_) (fun c => ?_)
    · replace h := h.1 c
      refine gv_seg ok_X10_moves 12 3 (Ps := []) (pc' := 31) (ls' := [.ref 0, .int x1]) (st' := [.int (M5 20 1)]) (M2 := M5) rfl trivial ?_
      refine gv_if_eq (t := 38) (by decide) (gl_dec ok_X10_moves 15 31 (.ifCond .eq 7) 3 rfl) (fun c => ?_) (fun c => ?_)
      · replace h := h.1 c
        refine gv_seg ok_X10_moves 18 1 (Ps := []) (pc' := 40) (ls' := [.ref 0, .int x1]) (st' := [.int (-2)]) (M2 := M5) rfl trivial ?_
        exact gv_retI (gl_dec ok_X10_moves 19 40 (.ireturn) 1 rfl) rfl h
      · replace h := h.2 c
        refine gv_seg ok_X10_moves 16 1 (Ps := []) (pc' := 35) (ls' := [.ref 0, .int x1]) (st' := [.int x1]) (M2 := M5) rfl trivial ?_
        refine gv_if_ne (t := 41) (by decide) (gl_dec ok_X10_moves 17 35 (.ifCond .ne 6) 3 rfl) (fun c => ?_) (fun c => ?_)
        · replace h := h.1 c
          refine gv_seg ok_X10_moves 20 4 (Ps := []) (pc' := 49) (ls' := [.ref 0, .int x1]) (st' := [.ref 20, .ref 22]) (M2 := M5) rfl trivial ?_
          refine gv_vcall (M' := m_X2_remember) (o := 22) (ci := 2) (As := [.ref 20]) (st := []) (gl_dec ok_X10_moves 24 49 (.invokevirtual 140) 3 rfl) (gl_lnk ok_X10_moves 24 rfl rfl) mw_X2_remember iw_X2_remember lw_X2_remember ⟨by decide, by decide⟩ rfl rfl rfl ⟨rfl, Nat.le_of_ble_eq_true rfl⟩ h (fun r7 M8 hq => ?_)
          obtain ⟨rfl, h⟩ := hq
          change gv l sc m_X10_moves 52 [.ref 0, .int x1] [] M8 Q
          refine gv_seg ok_X10_moves 25 3 (Ps := []) (pc' := 57) (ls' := [.ref 0, .int x1]) (st' := [.int x1, .ref 20]) (M2 := M8) rfl trivial ?_
          refine gv_vcall (M' := m_X8_shift) (o := 20) (ci := 8) (As := [.int x1]) (st := []) (gl_dec ok_X10_moves 28 57 (.invokevirtual 162) 3 rfl) (gl_lnk ok_X10_moves 28 rfl rfl) mw_X8_shift iw_X8_shift lw_X8_shift ⟨by decide, by decide⟩ rfl rfl rfl ⟨rfl, Nat.le_of_ble_eq_true rfl⟩ h (fun r9 M10 hq => ?_)
          obtain ⟨rfl, h⟩ := hq
          change gv l sc m_X10_moves 60 [.ref 0, .int x1] [] M10 Q
          refine gv_seg ok_X10_moves 29 3 (Ps := []) (pc' := 67) (ls' := [.ref 0, .int x1]) (st' := [.int (M10 20 1)]) (M2 := M10) rfl trivial ?_
          exact gv_retI (gl_dec ok_X10_moves 32 67 (.ireturn) 1 rfl) rfl h
        · replace h := h.2 c
          refine gv_seg ok_X10_moves 18 1 (Ps := []) (pc' := 40) (ls' := [.ref 0, .int x1]) (st' := [.int (-2)]) (M2 := M5) rfl trivial ?_
          exact gv_retI (gl_dec ok_X10_moves 19 40 (.ireturn) 1 rfl) rfl h
    · replace h := h.2 c
      refine gv_seg ok_X10_moves 10 1 (Ps := []) (pc' := 23) (ls' := [.ref 0, .int x1]) (st' := [.int (-1)]) (M2 := M5) rfl trivial ?_
      exact gv_retI (gl_dec ok_X10_moves 11 23 (.ireturn) 1 rfl) rfl h
theorem e_X10_moves (l : Launch) (sc : Nat × (Nat → Int32)) (M : gl_N) (Q : Option Value → gl_N → Prop) (x1 : Int32)
  (h : gr l sc m_X10_within [.int x1, .int (-20), .int 20] M (fun r1 M2 => ∃ v3 : Int32, r1 = some (.int v3) ∧ ((v3 = 0 → Q (some (.int (-1))) M2) ∧ (¬ v3 = 0 → gr l sc m_X8_canShift [.ref 20, .int x1] M2 (fun r4 M5 => ∃ v6 : Int32, r4 = some (.int v6) ∧ ((¬ v6 = 0 → ((M5 20 1) = 0 → Q (some (.int (-2))) M5) ∧ (¬ (M5 20 1) = 0 → (¬ x1 = 0 → gr l sc m_X2_remember [.ref 22, .ref 20] M5 (fun r7 M8 => r7 = none ∧ (gr l sc m_X8_shift [.ref 20, .int x1] M8 (fun r9 M10 => r9 = none ∧ (Q (some (.int (M10 20 1))) M10))))) ∧ (x1 = 0 → Q (some (.int (-2))) M5))) ∧ (v6 = 0 → Q (some (.int (-1))) M5))))))) : gr l sc m_X10_moves [.ref 0, .int x1] M Q :=
  gr_of (by decide +kernel) (Nat.le_of_ble_eq_true rfl) (List.forall_mem_cons.mpr ⟨rfl, (List.forall_mem_cons.mpr ⟨rfl, (fun _ h => absurd h List.not_mem_nil)⟩)⟩) (w_X10_moves_0 l sc M Q x1 h)
set_option maxHeartbeats 400000 in
set_option maxRecDepth 20000 in
theorem w_X10_undo_0 (l : Launch) (sc : Nat × (Nat → Int32)) (M : gl_N) (Q : Option Value → gl_N → Prop)
  (h : (0 < (M 22 2) → gr l sc m_X2_restore [.ref 22, .ref 20] M (fun r1 M2 => r1 = none ∧ (Q (some (.int (M2 22 2))) M2))) ∧ (¬ 0 < (M 22 2) → Q (some (.int (-2))) M)) : gv l sc m_X10_undo 0 [.ref 0] [] M Q := by
  refine gv_seg ok_X10_undo 0 3 (Ps := []) (pc' := 7) (ls' := [.ref 0]) (st' := [.int (M 22 2)]) (M2 := M) rfl trivial ?_
  refine gv_if_gt (t := 13) (by decide) (gl_dec ok_X10_undo 3 7 (.ifCond .gt 6) 3 rfl) (fun c => ?_) (fun c => ?_)
  · replace h := h.1 c
    refine gv_seg ok_X10_undo 6 4 (Ps := []) (pc' := 21) (ls' := [.ref 0]) (st' := [.ref 20, .ref 22]) (M2 := M) rfl trivial ?_
    refine gv_vcall (M' := m_X2_restore) (o := 22) (ci := 2) (As := [.ref 20]) (st := []) (gl_dec ok_X10_undo 10 21 (.invokevirtual 168) 3 rfl) (gl_lnk ok_X10_undo 10 rfl rfl) mw_X2_restore iw_X2_restore lw_X2_restore ⟨by decide, by decide⟩ rfl rfl rfl ⟨rfl, Nat.le_of_ble_eq_true rfl⟩ h (fun r1 M2 hq => ?_)
    obtain ⟨rfl, h⟩ := hq
    change gv l sc m_X10_undo 24 [.ref 0] [] M2 Q
    refine gv_seg ok_X10_undo 11 3 (Ps := []) (pc' := 31) (ls' := [.ref 0]) (st' := [.int (M2 22 2)]) (M2 := M2) rfl trivial ?_
    exact gv_retI (gl_dec ok_X10_undo 14 31 (.ireturn) 1 rfl) rfl h
  · replace h := h.2 c
    refine gv_seg ok_X10_undo 4 1 (Ps := []) (pc' := 12) (ls' := [.ref 0]) (st' := [.int (-2)]) (M2 := M) rfl trivial ?_
    exact gv_retI (gl_dec ok_X10_undo 5 12 (.ireturn) 1 rfl) rfl h
theorem e_X10_undo (l : Launch) (sc : Nat × (Nat → Int32)) (M : gl_N) (Q : Option Value → gl_N → Prop)
  (h : (0 < (M 22 2) → gr l sc m_X2_restore [.ref 22, .ref 20] M (fun r1 M2 => r1 = none ∧ (Q (some (.int (M2 22 2))) M2))) ∧ (¬ 0 < (M 22 2) → Q (some (.int (-2))) M)) : gr l sc m_X10_undo [.ref 0] M Q :=
  gr_of (by decide +kernel) (Nat.le_of_ble_eq_true rfl) (List.forall_mem_cons.mpr ⟨rfl, (fun _ h => absurd h List.not_mem_nil)⟩) (w_X10_undo_0 l sc M Q h)
set_option maxHeartbeats 400000 in
set_option maxRecDepth 20000 in
theorem w_X10_note_0 (l : Launch) (sc : Nat × (Nat → Int32)) (M : gl_N) (Q : Option Value → gl_N → Prop) (x1 : Int32)
  (h : gr l sc m_X8_isPlace [.ref 20, .int x1] M (fun r1 M2 => ∃ v3 : Int32, r1 = some (.int v3) ∧ ((v3 = 0 → Q (some (.int (-1))) M2) ∧ (¬ v3 = 0 → (vp_in x1 16) ∧ (Q (some (.int (M2 21 (Int32.toNatClampNeg x1)))) M2))))) : gv l sc m_X10_note 0 [.ref 0, .int x1] [] M Q := by
  refine gv_seg ok_X10_note 0 3 (Ps := []) (pc' := 5) (ls' := [.ref 0, .int x1]) (st' := [.int x1, .ref 20]) (M2 := M) rfl trivial ?_
  refine gv_vcall (M' := m_X8_isPlace) (o := 20) (ci := 8) (As := [.int x1]) (st := []) (gl_dec ok_X10_note 3 5 (.invokevirtual 150) 3 rfl) (gl_lnk ok_X10_note 3 rfl rfl) mw_X8_isPlace iw_X8_isPlace lw_X8_isPlace ⟨by decide, by decide⟩ rfl rfl rfl ⟨rfl, Nat.le_of_ble_eq_true rfl⟩ h (fun r1 M2 hq => ?_)
  obtain ⟨v3, rfl, h⟩ := hq
  change gv l sc m_X10_note 8 [.ref 0, .int x1] [.int v3] M2 Q
  refine gv_if_eq (t := 23) (by decide) (gl_dec ok_X10_note 4 8 (.ifCond .eq 15) 3 rfl) (fun c => ?_) (fun c => ?_)
  · replace h := h.1 c
    refine gv_seg ok_X10_note 11 1 (Ps := []) (pc' := 24) (ls' := [.ref 0, .int x1]) (st' := [.int (-1)]) (M2 := M2) rfl trivial ?_
    exact gv_retI (gl_dec ok_X10_note 12 24 (.ireturn) 1 rfl) rfl h
  · replace h := h.2 c
    obtain ⟨hp, h⟩ := h
    refine gv_seg ok_X10_note 5 5 (Ps := [vp_in x1 16]) (pc' := 20) (ls' := [.ref 0, .int x1]) (st' := [.int (M2 21 (Int32.toNatClampNeg x1))]) (M2 := M2) rfl hp ?_
    refine gv_goto (t := 24) (by decide) (gl_dec ok_X10_note 10 20 (.goto 4) 3 rfl) ?_
    exact gv_retI (gl_dec ok_X10_note 12 24 (.ireturn) 1 rfl) rfl h
theorem e_X10_note (l : Launch) (sc : Nat × (Nat → Int32)) (M : gl_N) (Q : Option Value → gl_N → Prop) (x1 : Int32)
  (h : gr l sc m_X8_isPlace [.ref 20, .int x1] M (fun r1 M2 => ∃ v3 : Int32, r1 = some (.int v3) ∧ ((v3 = 0 → Q (some (.int (-1))) M2) ∧ (¬ v3 = 0 → (vp_in x1 16) ∧ (Q (some (.int (M2 21 (Int32.toNatClampNeg x1)))) M2))))) : gr l sc m_X10_note [.ref 0, .int x1] M Q :=
  gr_of (by decide +kernel) (Nat.le_of_ble_eq_true rfl) (List.forall_mem_cons.mpr ⟨rfl, (List.forall_mem_cons.mpr ⟨rfl, (fun _ h => absurd h List.not_mem_nil)⟩)⟩) (w_X10_note_0 l sc M Q x1 h)
set_option maxHeartbeats 400000 in
set_option maxRecDepth 20000 in
theorem w_X10_has_0 (l : Launch) (sc : Nat × (Nat → Int32)) (M : gl_N) (Q : Option Value → gl_N → Prop) (x1 x2 : Int32)
  (h : gr l sc m_X0_isScale [.ref 12, .int x1] M (fun r1 M2 => ∃ v3 : Int32, r1 = some (.int v3) ∧ ((v3 = 0 → Q (some (.int (-1))) M2) ∧ (¬ v3 = 0 → gr l sc m_X10_within [.int x2, .int 0, .int 60] M2 (fun r4 M5 => ∃ v6 : Int32, r4 = some (.int v6) ∧ ((¬ v6 = 0 → gr l sc m_X0_partsWith [.ref 12, .int x1, .int x2] M5 (fun r7 M8 => ∃ v9 : Int32, r7 = some (.int v9) ∧ (Q (some (.int v9)) M8))) ∧ (v6 = 0 → Q (some (.int (-1))) M5))))))) : gv l sc m_X10_has 0 [.ref 0, .int x1, .int x2] [] M Q := by
  refine gv_seg ok_X10_has 0 3 (Ps := []) (pc' := 5) (ls' := [.ref 0, .int x1, .int x2]) (st' := [.int x1, .ref 12]) (M2 := M) rfl trivial ?_
  refine gv_vcall (M' := m_X0_isScale) (o := 12) (ci := 0) (As := [.int x1]) (st := []) (gl_dec ok_X10_has 3 5 (.invokevirtual 125) 3 rfl) (gl_lnk ok_X10_has 3 rfl rfl) mw_X0_isScale iw_X0_isScale lw_X0_isScale ⟨by decide, by decide⟩ rfl rfl rfl ⟨rfl, Nat.le_of_ble_eq_true rfl⟩ h (fun r1 M2 hq => ?_)
  obtain ⟨v3, rfl, h⟩ := hq
  change gv l sc m_X10_has 8 [.ref 0, .int x1, .int x2] [.int v3] M2 Q
  refine gv_if_eq (t := 21) (by decide) (gl_dec ok_X10_has 4 8 (.ifCond .eq 13) 3 rfl) (fun c => ?_) (fun c => ?_)
  · replace h := h.1 c
    refine gv_seg ok_X10_has 10 1 (Ps := []) (pc' := 22) (ls' := [.ref 0, .int x1, .int x2]) (st' := [.int (-1)]) (M2 := M2) rfl trivial ?_
    exact gv_retI (gl_dec ok_X10_has 11 22 (.ireturn) 1 rfl) rfl h
  · replace h := h.2 c
    refine gv_seg ok_X10_has 5 3 (Ps := []) (pc' := 15) (ls' := [.ref 0, .int x1, .int x2]) (st' := [.int 60, .int 0, .int x2]) (M2 := M2) rfl trivial ?_
    refine gv_scall (M' := m_X10_within) (As := [.int x2, .int 0, .int 60]) (st := []) (gl_dec ok_X10_has 8 15 (.invokestatic 83) 3 rfl) (gl_lnkS ok_X10_has 8 rfl rfl) mw_X10_within sw_X10_within ⟨by decide, by decide⟩ ⟨rfl, Nat.le_of_ble_eq_true rfl⟩ h (fun r4 M5 hq => ?_)
    obtain ⟨v6, rfl, h⟩ := hq
    change gv l sc m_X10_has 18 [.ref 0, .int x1, .int x2] [.int v6] M5 Q
    refine gv_if_ne (t := 23) (by decide) (gl_dec ok_X10_has 9 18 (.ifCond .ne 5) 3 rfl) (fun c => ?_) (fun c => ?_)
    · replace h := h.1 c
      refine gv_seg ok_X10_has 12 4 (Ps := []) (pc' := 29) (ls' := [.ref 0, .int x1, .int x2]) (st' := [.int x2, .int x1, .ref 12]) (M2 := M5) rfl trivial ?_
      refine gv_vcall (M' := m_X0_partsWith) (o := 12) (ci := 0) (As := [.int x1, .int x2]) (st := []) (gl_dec ok_X10_has 16 29 (.invokevirtual 171) 3 rfl) (gl_lnk ok_X10_has 16 rfl rfl) mw_X0_partsWith iw_X0_partsWith lw_X0_partsWith ⟨by decide, by decide⟩ rfl rfl rfl ⟨rfl, Nat.le_of_ble_eq_true rfl⟩ h (fun r7 M8 hq => ?_)
      obtain ⟨v9, rfl, h⟩ := hq
      change gv l sc m_X10_has 32 [.ref 0, .int x1, .int x2] [.int v9] M8 Q
      exact gv_retI (gl_dec ok_X10_has 17 32 (.ireturn) 1 rfl) rfl h
    · replace h := h.2 c
      refine gv_seg ok_X10_has 10 1 (Ps := []) (pc' := 22) (ls' := [.ref 0, .int x1, .int x2]) (st' := [.int (-1)]) (M2 := M5) rfl trivial ?_
      exact gv_retI (gl_dec ok_X10_has 11 22 (.ireturn) 1 rfl) rfl h
theorem e_X10_has (l : Launch) (sc : Nat × (Nat → Int32)) (M : gl_N) (Q : Option Value → gl_N → Prop) (x1 x2 : Int32)
  (h : gr l sc m_X0_isScale [.ref 12, .int x1] M (fun r1 M2 => ∃ v3 : Int32, r1 = some (.int v3) ∧ ((v3 = 0 → Q (some (.int (-1))) M2) ∧ (¬ v3 = 0 → gr l sc m_X10_within [.int x2, .int 0, .int 60] M2 (fun r4 M5 => ∃ v6 : Int32, r4 = some (.int v6) ∧ ((¬ v6 = 0 → gr l sc m_X0_partsWith [.ref 12, .int x1, .int x2] M5 (fun r7 M8 => ∃ v9 : Int32, r7 = some (.int v9) ∧ (Q (some (.int v9)) M8))) ∧ (v6 = 0 → Q (some (.int (-1))) M5))))))) : gr l sc m_X10_has [.ref 0, .int x1, .int x2] M Q :=
  gr_of (by decide +kernel) (Nat.le_of_ble_eq_true rfl) (List.forall_mem_cons.mpr ⟨rfl, (List.forall_mem_cons.mpr ⟨rfl, (List.forall_mem_cons.mpr ⟨rfl, (fun _ h => absurd h List.not_mem_nil)⟩)⟩)⟩) (w_X10_has_0 l sc M Q x1 x2 h)
set_option maxHeartbeats 400000 in
set_option maxRecDepth 20000 in
theorem w_X10_shares_0 (l : Launch) (sc : Nat × (Nat → Int32)) (M : gl_N) (Q : Option Value → gl_N → Prop) (x1 x2 x3 : Int32)
  (h : gr l sc m_X0_isScale [.ref 12, .int x1] M (fun r1 M2 => ∃ v3 : Int32, r1 = some (.int v3) ∧ ((v3 = 0 → Q (some (.int (-1))) M2) ∧ (¬ v3 = 0 → gr l sc m_X0_isScale [.ref 12, .int x2] M2 (fun r4 M5 => ∃ v6 : Int32, r4 = some (.int v6) ∧ ((v6 = 0 → Q (some (.int (-1))) M5) ∧ (¬ v6 = 0 → ((-1) ≤ x3 → gv l sc m_X10_shares 35 [.ref 0, .int x1, .int x2, .int x3, .int 0, .int 0] [] M5 Q) ∧ (¬ (-1) ≤ x3 → Q (some (.int (-1))) M5)))))))) : gv l sc m_X10_shares 0 [.ref 0, .int x1, .int x2, .int x3, .float 0, .float 0] [] M Q := by
  refine gv_seg ok_X10_shares 0 3 (Ps := []) (pc' := 5) (ls' := [.ref 0, .int x1, .int x2, .int x3, .float 0, .float 0]) (st' := [.int x1, .ref 12]) (M2 := M) rfl trivial ?_
  refine gv_vcall (M' := m_X0_isScale) (o := 12) (ci := 0) (As := [.int x1]) (st := []) (gl_dec ok_X10_shares 3 5 (.invokevirtual 125) 3 rfl) (gl_lnk ok_X10_shares 3 rfl rfl) mw_X0_isScale iw_X0_isScale lw_X0_isScale ⟨by decide, by decide⟩ rfl rfl rfl ⟨rfl, Nat.le_of_ble_eq_true rfl⟩ h (fun r1 M2 hq => ?_)
  obtain ⟨v3, rfl, h⟩ := hq
  change gv l sc m_X10_shares 8 [.ref 0, .int x1, .int x2, .int x3, .float 0, .float 0] [.int v3] M2 Q
  refine gv_if_eq (t := 27) (by decide) (gl_dec ok_X10_shares 4 8 (.ifCond .eq 19) 3 rfl) (fun c => ?_) (fun c => ?_)
  · replace h := h.1 c
    refine gv_seg ok_X10_shares 13 1 (Ps := []) (pc' := 28) (ls' := [.ref 0, .int x1, .int x2, .int x3, .float 0, .float 0]) (st' := [.int (-1)]) (M2 := M2) rfl trivial ?_
    exact gv_retI (gl_dec ok_X10_shares 14 28 (.ireturn) 1 rfl) rfl h
  · replace h := h.2 c
    refine gv_seg ok_X10_shares 5 3 (Ps := []) (pc' := 16) (ls' := [.ref 0, .int x1, .int x2, .int x3, .float 0, .float 0]) (st' := [.int x2, .ref 12]) (M2 := M2) rfl trivial ?_
    refine gv_vcall (M' := m_X0_isScale) (o := 12) (ci := 0) (As := [.int x2]) (st := []) (gl_dec ok_X10_shares 8 16 (.invokevirtual 125) 3 rfl) (gl_lnk ok_X10_shares 8 rfl rfl) mw_X0_isScale iw_X0_isScale lw_X0_isScale ⟨by decide, by decide⟩ rfl rfl rfl ⟨rfl, Nat.le_of_ble_eq_true rfl⟩ h (fun r4 M5 hq => ?_)
    obtain ⟨v6, rfl, h⟩ := hq
    change gv l sc m_X10_shares 19 [.ref 0, .int x1, .int x2, .int x3, .float 0, .float 0] [.int v6] M5 Q
    refine gv_if_eq (t := 27) (by decide) (gl_dec ok_X10_shares 9 19 (.ifCond .eq 8) 3 rfl) (fun c => ?_) (fun c => ?_)
    · replace h := h.1 c
      refine gv_seg ok_X10_shares 13 1 (Ps := []) (pc' := 28) (ls' := [.ref 0, .int x1, .int x2, .int x3, .float 0, .float 0]) (st' := [.int (-1)]) (M2 := M5) rfl trivial ?_
      exact gv_retI (gl_dec ok_X10_shares 14 28 (.ireturn) 1 rfl) rfl h
    · replace h := h.2 c
      refine gv_seg ok_X10_shares 10 2 (Ps := []) (pc' := 24) (ls' := [.ref 0, .int x1, .int x2, .int x3, .float 0, .float 0]) (st' := [.int (-1), .int x3]) (M2 := M5) rfl trivial ?_
      refine gv_icmp_ge (t := 29) (by decide) (gl_dec ok_X10_shares 12 24 (.if_icmp .ge 5) 3 rfl) (fun c => ?_) (fun c => ?_)
      · replace h := h.1 c
        refine gv_seg ok_X10_shares 15 4 (Ps := []) (pc' := 35) (ls' := [.ref 0, .int x1, .int x2, .int x3, .int 0, .int 0]) (st' := []) (M2 := M5) rfl trivial ?_
        exact h
      · replace h := h.2 c
        refine gv_seg ok_X10_shares 13 1 (Ps := []) (pc' := 28) (ls' := [.ref 0, .int x1, .int x2, .int x3, .float 0, .float 0]) (st' := [.int (-1)]) (M2 := M5) rfl trivial ?_
        exact gv_retI (gl_dec ok_X10_shares 14 28 (.ireturn) 1 rfl) rfl h
theorem e_X10_shares (l : Launch) (sc : Nat × (Nat → Int32)) (M : gl_N) (Q : Option Value → gl_N → Prop) (x1 x2 x3 : Int32)
  (h : gr l sc m_X0_isScale [.ref 12, .int x1] M (fun r1 M2 => ∃ v3 : Int32, r1 = some (.int v3) ∧ ((v3 = 0 → Q (some (.int (-1))) M2) ∧ (¬ v3 = 0 → gr l sc m_X0_isScale [.ref 12, .int x2] M2 (fun r4 M5 => ∃ v6 : Int32, r4 = some (.int v6) ∧ ((v6 = 0 → Q (some (.int (-1))) M5) ∧ (¬ v6 = 0 → ((-1) ≤ x3 → gv l sc m_X10_shares 35 [.ref 0, .int x1, .int x2, .int x3, .int 0, .int 0] [] M5 Q) ∧ (¬ (-1) ≤ x3 → Q (some (.int (-1))) M5)))))))) : gr l sc m_X10_shares [.ref 0, .int x1, .int x2, .int x3] M Q :=
  gr_of (by decide +kernel) (Nat.le_of_ble_eq_true rfl) (List.forall_mem_cons.mpr ⟨rfl, (List.forall_mem_cons.mpr ⟨rfl, (List.forall_mem_cons.mpr ⟨rfl, (List.forall_mem_cons.mpr ⟨rfl, (fun _ h => absurd h List.not_mem_nil)⟩)⟩)⟩)⟩) (w_X10_shares_0 l sc M Q x1 x2 x3 h)
set_option maxHeartbeats 400000 in
set_option maxRecDepth 20000 in
theorem w_X10_shares_35 (l : Launch) (sc : Nat × (Nat → Int32)) (M : gl_N) (Q : Option Value → gl_N → Prop) (x1 x2 x3 x4 x5 : Int32)
  (h : gr l sc m_X0_partsOf [.ref 12, .int x1] M (fun r1 M2 => ∃ v3 : Int32, r1 = some (.int v3) ∧ ((v3 ≤ x5 → (¬ x3 = (-1) → Q (some (.int (-9))) M2) ∧ (x3 = (-1) → Q (some (.int x4)) M2)) ∧ (¬ v3 ≤ x5 → gr l sc m_X0_samePart [.ref 12, .int x1, .int x5, .int x2] M2 (fun r4 M5 => ∃ v6 : Int32, r4 = some (.int v6) ∧ ((v6 = (-1) → gv l sc m_X10_shares 35 [.ref 0, .int x1, .int x2, .int x3, .int x4, .int (x5 + 1)] [] M5 Q) ∧ (¬ v6 = (-1) → (¬ x4 = x3 → gv l sc m_X10_shares 35 [.ref 0, .int x1, .int x2, .int x3, .int (x4 + 1), .int (x5 + 1)] [] M5 Q) ∧ (x4 = x3 → Q (some (.int x5)) M5)))))))) : gv l sc m_X10_shares 35 [.ref 0, .int x1, .int x2, .int x3, .int x4, .int x5] [] M Q := by
  refine gv_seg ok_X10_shares 19 4 (Ps := []) (pc' := 42) (ls' := [.ref 0, .int x1, .int x2, .int x3, .int x4, .int x5]) (st' := [.int x1, .ref 12, .int x5]) (M2 := M) rfl trivial ?_
  refine gv_vcall (M' := m_X0_partsOf) (o := 12) (ci := 0) (As := [.int x1]) (st := [.int x5]) (gl_dec ok_X10_shares 23 42 (.invokevirtual 129) 3 rfl) (gl_lnk ok_X10_shares 23 rfl rfl) mw_X0_partsOf iw_X0_partsOf lw_X0_partsOf ⟨by decide, by decide⟩ rfl rfl rfl ⟨rfl, Nat.le_of_ble_eq_true rfl⟩ h (fun r1 M2 hq => ?_)
  obtain ⟨v3, rfl, h⟩ := hq
  change gv l sc m_X10_shares 45 [.ref 0, .int x1, .int x2, .int x3, .int x4, .int x5] [.int v3, .int x5] M2 Q
  refine gv_icmp_ge (t := 81) (by decide) (gl_dec ok_X10_shares 24 45 (.if_icmp .ge 36) 3 rfl) (fun c => ?_) (fun c => ?_)
  · replace h := h.1 c
    refine gv_seg ok_X10_shares 41 2 (Ps := []) (pc' := 83) (ls' := [.ref 0, .int x1, .int x2, .int x3, .int x4, .int x5]) (st' := [.int (-1), .int x3]) (M2 := M2) rfl trivial ?_
    refine gv_icmp_ne (t := 91) (by decide) (gl_dec ok_X10_shares 43 83 (.if_icmp .ne 8) 3 rfl) (fun c => ?_) (fun c => ?_)
    · replace h := h.1 c
      refine gv_seg ok_X10_shares 46 1 (Ps := []) (pc' := 93) (ls' := [.ref 0, .int x1, .int x2, .int x3, .int x4, .int x5]) (st' := [.int (-9)]) (M2 := M2) rfl trivial ?_
      exact gv_retI (gl_dec ok_X10_shares 47 93 (.ireturn) 1 rfl) rfl h
    · replace h := h.2 c
      refine gv_seg ok_X10_shares 44 1 (Ps := []) (pc' := 88) (ls' := [.ref 0, .int x1, .int x2, .int x3, .int x4, .int x5]) (st' := [.int x4]) (M2 := M2) rfl trivial ?_
      refine gv_goto (t := 93) (by decide) (gl_dec ok_X10_shares 45 88 (.goto 5) 3 rfl) ?_
      exact gv_retI (gl_dec ok_X10_shares 47 93 (.ireturn) 1 rfl) rfl h
  · replace h := h.2 c
    refine gv_seg ok_X10_shares 25 5 (Ps := []) (pc' := 56) (ls' := [.ref 0, .int x1, .int x2, .int x3, .int x4, .int x5]) (st' := [.int x2, .int x5, .int x1, .ref 12]) (M2 := M2) rfl trivial ?_
    refine gv_vcall (M' := m_X0_samePart) (o := 12) (ci := 0) (As := [.int x1, .int x5, .int x2]) (st := []) (gl_dec ok_X10_shares 30 56 (.invokevirtual 174) 3 rfl) (gl_lnk ok_X10_shares 30 rfl rfl) mw_X0_samePart iw_X0_samePart lw_X0_samePart ⟨by decide, by decide⟩ rfl rfl rfl ⟨rfl, Nat.le_of_ble_eq_true rfl⟩ h (fun r4 M5 hq => ?_)
    obtain ⟨v6, rfl, h⟩ := hq
    change gv l sc m_X10_shares 59 [.ref 0, .int x1, .int x2, .int x3, .int x4, .int x5] [.int v6] M5 Q
    refine gv_seg ok_X10_shares 31 1 (Ps := []) (pc' := 60) (ls' := [.ref 0, .int x1, .int x2, .int x3, .int x4, .int x5]) (st' := [.int (-1), .int v6]) (M2 := M5) rfl trivial ?_
    refine gv_icmp_eq (t := 75) (by decide) (gl_dec ok_X10_shares 32 60 (.if_icmp .eq 15) 3 rfl) (fun c => ?_) (fun c => ?_)
    · replace h := h.1 c
      refine gv_seg ok_X10_shares 39 1 (Ps := []) (pc' := 78) (ls' := [.ref 0, .int x1, .int x2, .int x3, .int x4, .int (x5 + 1)]) (st' := []) (M2 := M5) rfl trivial ?_
      refine gv_goto (t := 35) (by decide) (gl_dec ok_X10_shares 40 78 (.goto (-43)) 3 rfl) ?_
      exact h
    · replace h := h.2 c
      refine gv_seg ok_X10_shares 33 2 (Ps := []) (pc' := 66) (ls' := [.ref 0, .int x1, .int x2, .int x3, .int x4, .int x5]) (st' := [.int x3, .int x4]) (M2 := M5) rfl trivial ?_
      refine gv_icmp_ne (t := 72) (by decide) (gl_dec ok_X10_shares 35 66 (.if_icmp .ne 6) 3 rfl) (fun c => ?_) (fun c => ?_)
      · replace h := h.1 c
        refine gv_seg ok_X10_shares 38 2 (Ps := []) (pc' := 78) (ls' := [.ref 0, .int x1, .int x2, .int x3, .int (x4 + 1), .int (x5 + 1)]) (st' := []) (M2 := M5) rfl trivial ?_
        refine gv_goto (t := 35) (by decide) (gl_dec ok_X10_shares 40 78 (.goto (-43)) 3 rfl) ?_
        exact h
      · replace h := h.2 c
        refine gv_seg ok_X10_shares 36 1 (Ps := []) (pc' := 71) (ls' := [.ref 0, .int x1, .int x2, .int x3, .int x4, .int x5]) (st' := [.int x5]) (M2 := M5) rfl trivial ?_
        exact gv_retI (gl_dec ok_X10_shares 37 71 (.ireturn) 1 rfl) rfl h
set_option maxHeartbeats 400000 in
set_option maxRecDepth 20000 in
theorem w_X10_way_0 (l : Launch) (sc : Nat × (Nat → Int32)) (M : gl_N) (Q : Option Value → gl_N → Prop) (x1 x2 x3 : Int32)
  (h : gr l sc m_X0_isScale [.ref 12, .int x1] M (fun r1 M2 => ∃ v3 : Int32, r1 = some (.int v3) ∧ ((v3 = 0 → Q (some (.int (-1))) M2) ∧ (¬ v3 = 0 → gr l sc m_X0_isScale [.ref 12, .int x2] M2 (fun r4 M5 => ∃ v6 : Int32, r4 = some (.int v6) ∧ ((v6 = 0 → Q (some (.int (-1))) M5) ∧ (¬ v6 = 0 → ((-1) ≤ x3 → gr l sc m_X9_measureFrom [.ref 32, .int x2] M5 (fun r7 M8 => r7 = none ∧ ((vp_in x1 144) ∧ ((¬ (M8 33 (Int32.toNatClampNeg x1)) = 0 → (¬ x3 = (-1) → ((M8 33 (Int32.toNatClampNeg x1)) ≤ x3 → Q (some (.int (-9))) M8) ∧ (¬ (M8 33 (Int32.toNatClampNeg x1)) ≤ x3 → gr l sc m_X9_walk [.ref 32, .int x1, .int x3] M8 (fun r9 M10 => ∃ v11 : Int32, r9 = some (.int v11) ∧ (Q (some (.int v11)) M10)))) ∧ (x3 = (-1) → Q (some (.int (M8 33 (Int32.toNatClampNeg x1)))) M8)) ∧ ((M8 33 (Int32.toNatClampNeg x1)) = 0 → Q (some (.int (-9))) M8))))) ∧ (¬ (-1) ≤ x3 → Q (some (.int (-1))) M5)))))))) : gv l sc m_X10_way 0 [.ref 0, .int x1, .int x2, .int x3, .float 0] [] M Q := by
  refine gv_seg ok_X10_way 0 3 (Ps := []) (pc' := 5) (ls' := [.ref 0, .int x1, .int x2, .int x3, .float 0]) (st' := [.int x1, .ref 12]) (M2 := M) rfl trivial ?_
  refine gv_vcall (M' := m_X0_isScale) (o := 12) (ci := 0) (As := [.int x1]) (st := []) (gl_dec ok_X10_way 3 5 (.invokevirtual 125) 3 rfl) (gl_lnk ok_X10_way 3 rfl rfl) mw_X0_isScale iw_X0_isScale lw_X0_isScale ⟨by decide, by decide⟩ rfl rfl rfl ⟨rfl, Nat.le_of_ble_eq_true rfl⟩ h (fun r1 M2 hq => ?_)
  obtain ⟨v3, rfl, h⟩ := hq
  change gv l sc m_X10_way 8 [.ref 0, .int x1, .int x2, .int x3, .float 0] [.int v3] M2 Q
  refine gv_if_eq (t := 27) (by decide) (gl_dec ok_X10_way 4 8 (.ifCond .eq 19) 3 rfl) (fun c => ?_) (fun c => ?_)
  · replace h := h.1 c
    refine gv_seg ok_X10_way 13 1 (Ps := []) (pc' := 28) (ls' := [.ref 0, .int x1, .int x2, .int x3, .float 0]) (st' := [.int (-1)]) (M2 := M2) rfl trivial ?_
    exact gv_retI (gl_dec ok_X10_way 14 28 (.ireturn) 1 rfl) rfl h
  · replace h := h.2 c
    refine gv_seg ok_X10_way 5 3 (Ps := []) (pc' := 16) (ls' := [.ref 0, .int x1, .int x2, .int x3, .float 0]) (st' := [.int x2, .ref 12]) (M2 := M2) rfl trivial ?_
    refine gv_vcall (M' := m_X0_isScale) (o := 12) (ci := 0) (As := [.int x2]) (st := []) (gl_dec ok_X10_way 8 16 (.invokevirtual 125) 3 rfl) (gl_lnk ok_X10_way 8 rfl rfl) mw_X0_isScale iw_X0_isScale lw_X0_isScale ⟨by decide, by decide⟩ rfl rfl rfl ⟨rfl, Nat.le_of_ble_eq_true rfl⟩ h (fun r4 M5 hq => ?_)
    obtain ⟨v6, rfl, h⟩ := hq
    change gv l sc m_X10_way 19 [.ref 0, .int x1, .int x2, .int x3, .float 0] [.int v6] M5 Q
    refine gv_if_eq (t := 27) (by decide) (gl_dec ok_X10_way 9 19 (.ifCond .eq 8) 3 rfl) (fun c => ?_) (fun c => ?_)
    · replace h := h.1 c
      refine gv_seg ok_X10_way 13 1 (Ps := []) (pc' := 28) (ls' := [.ref 0, .int x1, .int x2, .int x3, .float 0]) (st' := [.int (-1)]) (M2 := M5) rfl trivial ?_
      exact gv_retI (gl_dec ok_X10_way 14 28 (.ireturn) 1 rfl) rfl h
    · replace h := h.2 c
      refine gv_seg ok_X10_way 10 2 (Ps := []) (pc' := 24) (ls' := [.ref 0, .int x1, .int x2, .int x3, .float 0]) (st' := [.int (-1), .int x3]) (M2 := M5) rfl trivial ?_
      refine gv_icmp_ge (t := 29) (by decide) (gl_dec ok_X10_way 12 24 (.if_icmp .ge 5) 3 rfl) (fun c => ?_) (fun c => ?_)
      · replace h := h.1 c
        refine gv_seg ok_X10_way 15 3 (Ps := []) (pc' := 34) (ls' := [.ref 0, .int x1, .int x2, .int x3, .float 0]) (st' := [.int x2, .ref 32]) (M2 := M5) rfl trivial ?_
        refine gv_vcall (M' := m_X9_measureFrom) (o := 32) (ci := 9) (As := [.int x2]) (st := []) (gl_dec ok_X10_way 18 34 (.invokevirtual 178) 3 rfl) (gl_lnk ok_X10_way 18 rfl rfl) mw_X9_measureFrom iw_X9_measureFrom lw_X9_measureFrom ⟨by decide, by decide⟩ rfl rfl rfl ⟨rfl, Nat.le_of_ble_eq_true rfl⟩ h (fun r7 M8 hq => ?_)
        obtain ⟨rfl, h⟩ := hq
        change gv l sc m_X10_way 37 [.ref 0, .int x1, .int x2, .int x3, .float 0] [] M8 Q
        obtain ⟨hp, h⟩ := h
        refine gv_seg ok_X10_way 19 7 (Ps := [vp_in x1 144]) (pc' := 50) (ls' := [.ref 0, .int x1, .int x2, .int x3, .int (M8 33 (Int32.toNatClampNeg x1))]) (st' := [.int (M8 33 (Int32.toNatClampNeg x1))]) (M2 := M8) rfl hp ?_
        refine gv_if_ne (t := 56) (by decide) (gl_dec ok_X10_way 26 50 (.ifCond .ne 6) 3 rfl) (fun c => ?_) (fun c => ?_)
        · replace h := h.1 c
          refine gv_seg ok_X10_way 29 2 (Ps := []) (pc' := 58) (ls' := [.ref 0, .int x1, .int x2, .int x3, .int (M8 33 (Int32.toNatClampNeg x1))]) (st' := [.int (-1), .int x3]) (M2 := M8) rfl trivial ?_
          refine gv_icmp_ne (t := 64) (by decide) (gl_dec ok_X10_way 31 58 (.if_icmp .ne 6) 3 rfl) (fun c => ?_) (fun c => ?_)
          · replace h := h.1 c
            refine gv_seg ok_X10_way 34 2 (Ps := []) (pc' := 67) (ls' := [.ref 0, .int x1, .int x2, .int x3, .int (M8 33 (Int32.toNatClampNeg x1))]) (st' := [.int (M8 33 (Int32.toNatClampNeg x1)), .int x3]) (M2 := M8) rfl trivial ?_
            refine gv_icmp_ge (t := 82) (by decide) (gl_dec ok_X10_way 36 67 (.if_icmp .ge 15) 3 rfl) (fun c => ?_) (fun c => ?_)
            · replace h := h.1 c
              refine gv_seg ok_X10_way 43 1 (Ps := []) (pc' := 84) (ls' := [.ref 0, .int x1, .int x2, .int x3, .int (M8 33 (Int32.toNatClampNeg x1))]) (st' := [.int (-9)]) (M2 := M8) rfl trivial ?_
              exact gv_retI (gl_dec ok_X10_way 44 84 (.ireturn) 1 rfl) rfl h
            · replace h := h.2 c
              refine gv_seg ok_X10_way 37 4 (Ps := []) (pc' := 76) (ls' := [.ref 0, .int x1, .int x2, .int x3, .int (M8 33 (Int32.toNatClampNeg x1))]) (st' := [.int x3, .int x1, .ref 32]) (M2 := M8) rfl trivial ?_
              refine gv_vcall (M' := m_X9_walk) (o := 32) (ci := 9) (As := [.int x1, .int x3]) (st := []) (gl_dec ok_X10_way 41 76 (.invokevirtual 184) 3 rfl) (gl_lnk ok_X10_way 41 rfl rfl) mw_X9_walk iw_X9_walk lw_X9_walk ⟨by decide, by decide⟩ rfl rfl rfl ⟨rfl, Nat.le_of_ble_eq_true rfl⟩ h (fun r9 M10 hq => ?_)
              obtain ⟨v11, rfl, h⟩ := hq
              change gv l sc m_X10_way 79 [.ref 0, .int x1, .int x2, .int x3, .int (M8 33 (Int32.toNatClampNeg x1))] [.int v11] M10 Q
              refine gv_goto (t := 84) (by decide) (gl_dec ok_X10_way 42 79 (.goto 5) 3 rfl) ?_
              exact gv_retI (gl_dec ok_X10_way 44 84 (.ireturn) 1 rfl) rfl h
          · replace h := h.2 c
            refine gv_seg ok_X10_way 32 1 (Ps := []) (pc' := 63) (ls' := [.ref 0, .int x1, .int x2, .int x3, .int (M8 33 (Int32.toNatClampNeg x1))]) (st' := [.int (M8 33 (Int32.toNatClampNeg x1))]) (M2 := M8) rfl trivial ?_
            exact gv_retI (gl_dec ok_X10_way 33 63 (.ireturn) 1 rfl) rfl h
        · replace h := h.2 c
          refine gv_seg ok_X10_way 27 1 (Ps := []) (pc' := 55) (ls' := [.ref 0, .int x1, .int x2, .int x3, .int (M8 33 (Int32.toNatClampNeg x1))]) (st' := [.int (-9)]) (M2 := M8) rfl trivial ?_
          exact gv_retI (gl_dec ok_X10_way 28 55 (.ireturn) 1 rfl) rfl h
      · replace h := h.2 c
        refine gv_seg ok_X10_way 13 1 (Ps := []) (pc' := 28) (ls' := [.ref 0, .int x1, .int x2, .int x3, .float 0]) (st' := [.int (-1)]) (M2 := M5) rfl trivial ?_
        exact gv_retI (gl_dec ok_X10_way 14 28 (.ireturn) 1 rfl) rfl h
theorem e_X10_way (l : Launch) (sc : Nat × (Nat → Int32)) (M : gl_N) (Q : Option Value → gl_N → Prop) (x1 x2 x3 : Int32)
  (h : gr l sc m_X0_isScale [.ref 12, .int x1] M (fun r1 M2 => ∃ v3 : Int32, r1 = some (.int v3) ∧ ((v3 = 0 → Q (some (.int (-1))) M2) ∧ (¬ v3 = 0 → gr l sc m_X0_isScale [.ref 12, .int x2] M2 (fun r4 M5 => ∃ v6 : Int32, r4 = some (.int v6) ∧ ((v6 = 0 → Q (some (.int (-1))) M5) ∧ (¬ v6 = 0 → ((-1) ≤ x3 → gr l sc m_X9_measureFrom [.ref 32, .int x2] M5 (fun r7 M8 => r7 = none ∧ ((vp_in x1 144) ∧ ((¬ (M8 33 (Int32.toNatClampNeg x1)) = 0 → (¬ x3 = (-1) → ((M8 33 (Int32.toNatClampNeg x1)) ≤ x3 → Q (some (.int (-9))) M8) ∧ (¬ (M8 33 (Int32.toNatClampNeg x1)) ≤ x3 → gr l sc m_X9_walk [.ref 32, .int x1, .int x3] M8 (fun r9 M10 => ∃ v11 : Int32, r9 = some (.int v11) ∧ (Q (some (.int v11)) M10)))) ∧ (x3 = (-1) → Q (some (.int (M8 33 (Int32.toNatClampNeg x1)))) M8)) ∧ ((M8 33 (Int32.toNatClampNeg x1)) = 0 → Q (some (.int (-9))) M8))))) ∧ (¬ (-1) ≤ x3 → Q (some (.int (-1))) M5)))))))) : gr l sc m_X10_way [.ref 0, .int x1, .int x2, .int x3] M Q :=
  gr_of (by decide +kernel) (Nat.le_of_ble_eq_true rfl) (List.forall_mem_cons.mpr ⟨rfl, (List.forall_mem_cons.mpr ⟨rfl, (List.forall_mem_cons.mpr ⟨rfl, (List.forall_mem_cons.mpr ⟨rfl, (fun _ h => absurd h List.not_mem_nil)⟩)⟩)⟩)⟩) (w_X10_way_0 l sc M Q x1 x2 x3 h)
set_option maxHeartbeats 400000 in
set_option maxRecDepth 20000 in
theorem w_X10_farthest_0 (l : Launch) (sc : Nat × (Nat → Int32)) (M : gl_N) (Q : Option Value → gl_N → Prop) (x1 x2 : Int32)
  (h : gr l sc m_X0_isScale [.ref 12, .int x1] M (fun r1 M2 => ∃ v3 : Int32, r1 = some (.int v3) ∧ ((v3 = 0 → Q (some (.int (-1))) M2) ∧ (¬ v3 = 0 → gr l sc m_X10_within [.int x2, .int 0, .int 1] M2 (fun r4 M5 => ∃ v6 : Int32, r4 = some (.int v6) ∧ ((¬ v6 = 0 → gr l sc m_X9_measureFrom [.ref 32, .int x1] M5 (fun r7 M8 => r7 = none ∧ (gr l sc m_X9_mostDistant [.ref 32] M8 (fun r9 M10 => ∃ v11 : Int32, r9 = some (.int v11) ∧ ((¬ x2 = 0 → Q (some (.int v11)) M10) ∧ (x2 = 0 → (vp_in v11 144) ∧ (Q (some (.int (M10 33 (Int32.toNatClampNeg v11)))) M10))))))) ∧ (v6 = 0 → Q (some (.int (-1))) M5))))))) : gv l sc m_X10_farthest 0 [.ref 0, .int x1, .int x2, .float 0] [] M Q := by
  refine gv_seg ok_X10_farthest 0 3 (Ps := []) (pc' := 5) (ls' := [.ref 0, .int x1, .int x2, .float 0]) (st' := [.int x1, .ref 12]) (M2 := M) rfl trivial ?_
  refine gv_vcall (M' := m_X0_isScale) (o := 12) (ci := 0) (As := [.int x1]) (st := []) (gl_dec ok_X10_farthest 3 5 (.invokevirtual 125) 3 rfl) (gl_lnk ok_X10_farthest 3 rfl rfl) mw_X0_isScale iw_X0_isScale lw_X0_isScale ⟨by decide, by decide⟩ rfl rfl rfl ⟨rfl, Nat.le_of_ble_eq_true rfl⟩ h (fun r1 M2 hq => ?_)
  obtain ⟨v3, rfl, h⟩ := hq
  change gv l sc m_X10_farthest 8 [.ref 0, .int x1, .int x2, .float 0] [.int v3] M2 Q
  refine gv_if_eq (t := 20) (by decide) (gl_dec ok_X10_farthest 4 8 (.ifCond .eq 12) 3 rfl) (fun c => ?_) (fun c => ?_)
  · replace h := h.1 c
    refine gv_seg ok_X10_farthest 10 1 (Ps := []) (pc' := 21) (ls' := [.ref 0, .int x1, .int x2, .float 0]) (st' := [.int (-1)]) (M2 := M2) rfl trivial ?_
    exact gv_retI (gl_dec ok_X10_farthest 11 21 (.ireturn) 1 rfl) rfl h
  · replace h := h.2 c
    refine gv_seg ok_X10_farthest 5 3 (Ps := []) (pc' := 14) (ls' := [.ref 0, .int x1, .int x2, .float 0]) (st' := [.int 1, .int 0, .int x2]) (M2 := M2) rfl trivial ?_
    refine gv_scall (M' := m_X10_within) (As := [.int x2, .int 0, .int 1]) (st := []) (gl_dec ok_X10_farthest 8 14 (.invokestatic 83) 3 rfl) (gl_lnkS ok_X10_farthest 8 rfl rfl) mw_X10_within sw_X10_within ⟨by decide, by decide⟩ ⟨rfl, Nat.le_of_ble_eq_true rfl⟩ h (fun r4 M5 hq => ?_)
    obtain ⟨v6, rfl, h⟩ := hq
    change gv l sc m_X10_farthest 17 [.ref 0, .int x1, .int x2, .float 0] [.int v6] M5 Q
    refine gv_if_ne (t := 22) (by decide) (gl_dec ok_X10_farthest 9 17 (.ifCond .ne 5) 3 rfl) (fun c => ?_) (fun c => ?_)
    · replace h := h.1 c
      refine gv_seg ok_X10_farthest 12 3 (Ps := []) (pc' := 27) (ls' := [.ref 0, .int x1, .int x2, .float 0]) (st' := [.int x1, .ref 32]) (M2 := M5) rfl trivial ?_
      refine gv_vcall (M' := m_X9_measureFrom) (o := 32) (ci := 9) (As := [.int x1]) (st := []) (gl_dec ok_X10_farthest 15 27 (.invokevirtual 178) 3 rfl) (gl_lnk ok_X10_farthest 15 rfl rfl) mw_X9_measureFrom iw_X9_measureFrom lw_X9_measureFrom ⟨by decide, by decide⟩ rfl rfl rfl ⟨rfl, Nat.le_of_ble_eq_true rfl⟩ h (fun r7 M8 hq => ?_)
      obtain ⟨rfl, h⟩ := hq
      change gv l sc m_X10_farthest 30 [.ref 0, .int x1, .int x2, .float 0] [] M8 Q
      refine gv_seg ok_X10_farthest 16 2 (Ps := []) (pc' := 34) (ls' := [.ref 0, .int x1, .int x2, .float 0]) (st' := [.ref 32]) (M2 := M8) rfl trivial ?_
      refine gv_vcall (M' := m_X9_mostDistant) (o := 32) (ci := 9) (As := []) (st := []) (gl_dec ok_X10_farthest 18 34 (.invokevirtual 187) 3 rfl) (gl_lnk ok_X10_farthest 18 rfl rfl) mw_X9_mostDistant iw_X9_mostDistant lw_X9_mostDistant ⟨by decide, by decide⟩ rfl rfl rfl ⟨rfl, Nat.le_of_ble_eq_true rfl⟩ h (fun r9 M10 hq => ?_)
      obtain ⟨v11, rfl, h⟩ := hq
      change gv l sc m_X10_farthest 37 [.ref 0, .int x1, .int x2, .float 0] [.int v11] M10 Q
      refine gv_seg ok_X10_farthest 19 2 (Ps := []) (pc' := 39) (ls' := [.ref 0, .int x1, .int x2, .int v11]) (st' := [.int x2]) (M2 := M10) rfl trivial ?_
      refine gv_if_ne (t := 54) (by decide) (gl_dec ok_X10_farthest 21 39 (.ifCond .ne 15) 3 rfl) (fun c => ?_) (fun c => ?_)
      · replace h := h.1 c
        refine gv_seg ok_X10_farthest 28 1 (Ps := []) (pc' := 55) (ls' := [.ref 0, .int x1, .int x2, .int v11]) (st' := [.int v11]) (M2 := M10) rfl trivial ?_
        exact gv_retI (gl_dec ok_X10_farthest 29 55 (.ireturn) 1 rfl) rfl h
      · replace h := h.2 c
        obtain ⟨hp, h⟩ := h
        refine gv_seg ok_X10_farthest 22 5 (Ps := [vp_in v11 144]) (pc' := 51) (ls' := [.ref 0, .int x1, .int x2, .int v11]) (st' := [.int (M10 33 (Int32.toNatClampNeg v11))]) (M2 := M10) rfl hp ?_
        refine gv_goto (t := 55) (by decide) (gl_dec ok_X10_farthest 27 51 (.goto 4) 3 rfl) ?_
        exact gv_retI (gl_dec ok_X10_farthest 29 55 (.ireturn) 1 rfl) rfl h
    · replace h := h.2 c
      refine gv_seg ok_X10_farthest 10 1 (Ps := []) (pc' := 21) (ls' := [.ref 0, .int x1, .int x2, .float 0]) (st' := [.int (-1)]) (M2 := M5) rfl trivial ?_
      exact gv_retI (gl_dec ok_X10_farthest 11 21 (.ireturn) 1 rfl) rfl h
theorem e_X10_farthest (l : Launch) (sc : Nat × (Nat → Int32)) (M : gl_N) (Q : Option Value → gl_N → Prop) (x1 x2 : Int32)
  (h : gr l sc m_X0_isScale [.ref 12, .int x1] M (fun r1 M2 => ∃ v3 : Int32, r1 = some (.int v3) ∧ ((v3 = 0 → Q (some (.int (-1))) M2) ∧ (¬ v3 = 0 → gr l sc m_X10_within [.int x2, .int 0, .int 1] M2 (fun r4 M5 => ∃ v6 : Int32, r4 = some (.int v6) ∧ ((¬ v6 = 0 → gr l sc m_X9_measureFrom [.ref 32, .int x1] M5 (fun r7 M8 => r7 = none ∧ (gr l sc m_X9_mostDistant [.ref 32] M8 (fun r9 M10 => ∃ v11 : Int32, r9 = some (.int v11) ∧ ((¬ x2 = 0 → Q (some (.int v11)) M10) ∧ (x2 = 0 → (vp_in v11 144) ∧ (Q (some (.int (M10 33 (Int32.toNatClampNeg v11)))) M10))))))) ∧ (v6 = 0 → Q (some (.int (-1))) M5))))))) : gr l sc m_X10_farthest [.ref 0, .int x1, .int x2] M Q :=
  gr_of (by decide +kernel) (Nat.le_of_ble_eq_true rfl) (List.forall_mem_cons.mpr ⟨rfl, (List.forall_mem_cons.mpr ⟨rfl, (List.forall_mem_cons.mpr ⟨rfl, (fun _ h => absurd h List.not_mem_nil)⟩)⟩)⟩) (w_X10_farthest_0 l sc M Q x1 x2 h)
set_option maxHeartbeats 400000 in
set_option maxRecDepth 20000 in
theorem w_X10_parse_0 (l : Launch) (sc : Nat × (Nat → Int32)) (M : gl_N) (Q : Option Value → gl_N → Prop) (x1 : Int32)
  (h : gr l sc m_X10_within [.int x1, .int 0, .int 2] M (fun r1 M2 => ∃ v3 : Int32, r1 = some (.int v3) ∧ ((¬ v3 = 0 → gr l sc m_X1_refresh [.ref 35] M2 (fun r4 M5 => r4 = none ∧ ((¬ (M5 35 6) = 0 → (¬ x1 = 0 → (¬ x1 = 1 → Q (some (.int (M5 35 8))) M5) ∧ (x1 = 1 → Q (some (.int (M5 35 7))) M5)) ∧ (x1 = 0 → Q (some (.int (((M5 35 7) * 10) + ((M5 35 8) * 1)))) M5)) ∧ ((M5 35 6) = 0 → Q (some (.int (-9))) M5)))) ∧ (v3 = 0 → Q (some (.int (-1))) M2)))) : gv l sc m_X10_parse 0 [.ref 0, .int x1] [] M Q := by
  refine gv_seg ok_X10_parse 0 3 (Ps := []) (pc' := 3) (ls' := [.ref 0, .int x1]) (st' := [.int 2, .int 0, .int x1]) (M2 := M) rfl trivial ?_
  refine gv_scall (M' := m_X10_within) (As := [.int x1, .int 0, .int 2]) (st := []) (gl_dec ok_X10_parse 3 3 (.invokestatic 83) 3 rfl) (gl_lnkS ok_X10_parse 3 rfl rfl) mw_X10_within sw_X10_within ⟨by decide, by decide⟩ ⟨rfl, Nat.le_of_ble_eq_true rfl⟩ h (fun r1 M2 hq => ?_)
  obtain ⟨v3, rfl, h⟩ := hq
  change gv l sc m_X10_parse 6 [.ref 0, .int x1] [.int v3] M2 Q
  refine gv_if_ne (t := 11) (by decide) (gl_dec ok_X10_parse 4 6 (.ifCond .ne 5) 3 rfl) (fun c => ?_) (fun c => ?_)
  · replace h := h.1 c
    refine gv_seg ok_X10_parse 7 2 (Ps := []) (pc' := 15) (ls' := [.ref 0, .int x1]) (st' := [.ref 35]) (M2 := M2) rfl trivial ?_
    refine gv_vcall (M' := m_X1_refresh) (o := 35) (ci := 1) (As := []) (st := []) (gl_dec ok_X10_parse 9 15 (.invokevirtual 190) 3 rfl) (gl_lnk ok_X10_parse 9 rfl rfl) mw_X1_refresh iw_X1_refresh lw_X1_refresh ⟨by decide, by decide⟩ rfl rfl rfl ⟨rfl, Nat.le_of_ble_eq_true rfl⟩ h (fun r4 M5 hq => ?_)
    obtain ⟨rfl, h⟩ := hq
    change gv l sc m_X10_parse 18 [.ref 0, .int x1] [] M5 Q
    refine gv_seg ok_X10_parse 10 3 (Ps := []) (pc' := 25) (ls' := [.ref 0, .int x1]) (st' := [.int (M5 35 6)]) (M2 := M5) rfl trivial ?_
    refine gv_if_ne (t := 31) (by decide) (gl_dec ok_X10_parse 13 25 (.ifCond .ne 6) 3 rfl) (fun c => ?_) (fun c => ?_)
    · replace h := h.1 c
      refine gv_seg ok_X10_parse 16 1 (Ps := []) (pc' := 32) (ls' := [.ref 0, .int x1]) (st' := [.int x1]) (M2 := M5) rfl trivial ?_
      refine gv_if_ne (t := 56) (by decide) (gl_dec ok_X10_parse 17 32 (.ifCond .ne 24) 3 rfl) (fun c => ?_) (fun c => ?_)
      · replace h := h.1 c
        refine gv_seg ok_X10_parse 30 2 (Ps := []) (pc' := 58) (ls' := [.ref 0, .int x1]) (st' := [.int 1, .int x1]) (M2 := M5) rfl trivial ?_
        refine gv_icmp_ne (t := 71) (by decide) (gl_dec ok_X10_parse 32 58 (.if_icmp .ne 13) 3 rfl) (fun c => ?_) (fun c => ?_)
        · replace h := h.1 c
          refine gv_seg ok_X10_parse 37 3 (Ps := []) (pc' := 78) (ls' := [.ref 0, .int x1]) (st' := [.int (M5 35 8)]) (M2 := M5) rfl trivial ?_
          exact gv_retI (gl_dec ok_X10_parse 40 78 (.ireturn) 1 rfl) rfl h
        · replace h := h.2 c
          refine gv_seg ok_X10_parse 33 3 (Ps := []) (pc' := 68) (ls' := [.ref 0, .int x1]) (st' := [.int (M5 35 7)]) (M2 := M5) rfl trivial ?_
          refine gv_goto (t := 78) (by decide) (gl_dec ok_X10_parse 36 68 (.goto 10) 3 rfl) ?_
          exact gv_retI (gl_dec ok_X10_parse 40 78 (.ireturn) 1 rfl) rfl h
      · replace h := h.2 c
        refine gv_seg ok_X10_parse 18 11 (Ps := []) (pc' := 55) (ls' := [.ref 0, .int x1]) (st' := [.int (((M5 35 7) * 10) + ((M5 35 8) * 1))]) (M2 := M5) rfl trivial ?_
        exact gv_retI (gl_dec ok_X10_parse 29 55 (.ireturn) 1 rfl) rfl h
    · replace h := h.2 c
      refine gv_seg ok_X10_parse 14 1 (Ps := []) (pc' := 30) (ls' := [.ref 0, .int x1]) (st' := [.int (-9)]) (M2 := M5) rfl trivial ?_
      exact gv_retI (gl_dec ok_X10_parse 15 30 (.ireturn) 1 rfl) rfl h
  · replace h := h.2 c
    refine gv_seg ok_X10_parse 5 1 (Ps := []) (pc' := 10) (ls' := [.ref 0, .int x1]) (st' := [.int (-1)]) (M2 := M2) rfl trivial ?_
    exact gv_retI (gl_dec ok_X10_parse 6 10 (.ireturn) 1 rfl) rfl h
theorem e_X10_parse (l : Launch) (sc : Nat × (Nat → Int32)) (M : gl_N) (Q : Option Value → gl_N → Prop) (x1 : Int32)
  (h : gr l sc m_X10_within [.int x1, .int 0, .int 2] M (fun r1 M2 => ∃ v3 : Int32, r1 = some (.int v3) ∧ ((¬ v3 = 0 → gr l sc m_X1_refresh [.ref 35] M2 (fun r4 M5 => r4 = none ∧ ((¬ (M5 35 6) = 0 → (¬ x1 = 0 → (¬ x1 = 1 → Q (some (.int (M5 35 8))) M5) ∧ (x1 = 1 → Q (some (.int (M5 35 7))) M5)) ∧ (x1 = 0 → Q (some (.int (((M5 35 7) * 10) + ((M5 35 8) * 1)))) M5)) ∧ ((M5 35 6) = 0 → Q (some (.int (-9))) M5)))) ∧ (v3 = 0 → Q (some (.int (-1))) M2)))) : gr l sc m_X10_parse [.ref 0, .int x1] M Q :=
  gr_of (by decide +kernel) (Nat.le_of_ble_eq_true rfl) (List.forall_mem_cons.mpr ⟨rfl, (List.forall_mem_cons.mpr ⟨rfl, (fun _ h => absurd h List.not_mem_nil)⟩)⟩) (w_X10_parse_0 l sc M Q x1 h)
set_option maxHeartbeats 400000 in
set_option maxRecDepth 20000 in
theorem w_X10_parsed_0 (l : Launch) (sc : Nat × (Nat → Int32)) (M : gl_N) (Q : Option Value → gl_N → Prop) (x1 x2 : Int32)
  (h : gr l sc m_X8_isPlace [.ref 20, .int x1] M (fun r1 M2 => ∃ v3 : Int32, r1 = some (.int v3) ∧ ((v3 = 0 → Q (some (.int (-1))) M2) ∧ (¬ v3 = 0 → gr l sc m_X10_within [.int x2, .int 0, .int 1] M2 (fun r4 M5 => ∃ v6 : Int32, r4 = some (.int v6) ∧ ((¬ v6 = 0 → gr l sc m_X1_refresh [.ref 35] M5 (fun r7 M8 => r7 = none ∧ ((¬ (M8 35 6) = 0 → (vp_in x1 16) ∧ ((¬ x2 = 0 → gr l sc m_X10_partOfSpot [.int (M8 38 (Int32.toNatClampNeg x1))] M8 (fun r9 M10 => ∃ v11 : Int32, r9 = some (.int v11) ∧ (Q (some (.int v11)) M10))) ∧ (x2 = 0 → gr l sc m_X10_scaleOfSpot [.int (M8 38 (Int32.toNatClampNeg x1))] M8 (fun r12 M13 => ∃ v14 : Int32, r12 = some (.int v14) ∧ (Q (some (.int v14)) M13))))) ∧ ((M8 35 6) = 0 → Q (some (.int (-9))) M8)))) ∧ (v6 = 0 → Q (some (.int (-1))) M5))))))) : gv l sc m_X10_parsed 0 [.ref 0, .int x1, .int x2, .float 0] [] M Q := by
  refine gv_seg ok_X10_parsed 0 3 (Ps := []) (pc' := 5) (ls' := [.ref 0, .int x1, .int x2, .float 0]) (st' := [.int x1, .ref 20]) (M2 := M) rfl trivial ?_
  refine gv_vcall (M' := m_X8_isPlace) (o := 20) (ci := 8) (As := [.int x1]) (st := []) (gl_dec ok_X10_parsed 3 5 (.invokevirtual 150) 3 rfl) (gl_lnk ok_X10_parsed 3 rfl rfl) mw_X8_isPlace iw_X8_isPlace lw_X8_isPlace ⟨by decide, by decide⟩ rfl rfl rfl ⟨rfl, Nat.le_of_ble_eq_true rfl⟩ h (fun r1 M2 hq => ?_)
  obtain ⟨v3, rfl, h⟩ := hq
  change gv l sc m_X10_parsed 8 [.ref 0, .int x1, .int x2, .float 0] [.int v3] M2 Q
  refine gv_if_eq (t := 20) (by decide) (gl_dec ok_X10_parsed 4 8 (.ifCond .eq 12) 3 rfl) (fun c => ?_) (fun c => ?_)
  · replace h := h.1 c
    refine gv_seg ok_X10_parsed 10 1 (Ps := []) (pc' := 21) (ls' := [.ref 0, .int x1, .int x2, .float 0]) (st' := [.int (-1)]) (M2 := M2) rfl trivial ?_
    exact gv_retI (gl_dec ok_X10_parsed 11 21 (.ireturn) 1 rfl) rfl h
  · replace h := h.2 c
    refine gv_seg ok_X10_parsed 5 3 (Ps := []) (pc' := 14) (ls' := [.ref 0, .int x1, .int x2, .float 0]) (st' := [.int 1, .int 0, .int x2]) (M2 := M2) rfl trivial ?_
    refine gv_scall (M' := m_X10_within) (As := [.int x2, .int 0, .int 1]) (st := []) (gl_dec ok_X10_parsed 8 14 (.invokestatic 83) 3 rfl) (gl_lnkS ok_X10_parsed 8 rfl rfl) mw_X10_within sw_X10_within ⟨by decide, by decide⟩ ⟨rfl, Nat.le_of_ble_eq_true rfl⟩ h (fun r4 M5 hq => ?_)
    obtain ⟨v6, rfl, h⟩ := hq
    change gv l sc m_X10_parsed 17 [.ref 0, .int x1, .int x2, .float 0] [.int v6] M5 Q
    refine gv_if_ne (t := 22) (by decide) (gl_dec ok_X10_parsed 9 17 (.ifCond .ne 5) 3 rfl) (fun c => ?_) (fun c => ?_)
    · replace h := h.1 c
      refine gv_seg ok_X10_parsed 12 2 (Ps := []) (pc' := 26) (ls' := [.ref 0, .int x1, .int x2, .float 0]) (st' := [.ref 35]) (M2 := M5) rfl trivial ?_
      refine gv_vcall (M' := m_X1_refresh) (o := 35) (ci := 1) (As := []) (st := []) (gl_dec ok_X10_parsed 14 26 (.invokevirtual 190) 3 rfl) (gl_lnk ok_X10_parsed 14 rfl rfl) mw_X1_refresh iw_X1_refresh lw_X1_refresh ⟨by decide, by decide⟩ rfl rfl rfl ⟨rfl, Nat.le_of_ble_eq_true rfl⟩ h (fun r7 M8 hq => ?_)
      obtain ⟨rfl, h⟩ := hq
      change gv l sc m_X10_parsed 29 [.ref 0, .int x1, .int x2, .float 0] [] M8 Q
      refine gv_seg ok_X10_parsed 15 3 (Ps := []) (pc' := 36) (ls' := [.ref 0, .int x1, .int x2, .float 0]) (st' := [.int (M8 35 6)]) (M2 := M8) rfl trivial ?_
      refine gv_if_ne (t := 42) (by decide) (gl_dec ok_X10_parsed 18 36 (.ifCond .ne 6) 3 rfl) (fun c => ?_) (fun c => ?_)
      · replace h := h.1 c
        obtain ⟨hp, h⟩ := h
        refine gv_seg ok_X10_parsed 21 7 (Ps := [vp_in x1 16]) (pc' := 53) (ls' := [.ref 0, .int x1, .int x2, .int (M8 38 (Int32.toNatClampNeg x1))]) (st' := [.int x2]) (M2 := M8) rfl hp ?_
        refine gv_if_ne (t := 63) (by decide) (gl_dec ok_X10_parsed 28 53 (.ifCond .ne 10) 3 rfl) (fun c => ?_) (fun c => ?_)
        · replace h := h.1 c
          refine gv_seg ok_X10_parsed 32 1 (Ps := []) (pc' := 64) (ls' := [.ref 0, .int x1, .int x2, .int (M8 38 (Int32.toNatClampNeg x1))]) (st' := [.int (M8 38 (Int32.toNatClampNeg x1))]) (M2 := M8) rfl trivial ?_
          refine gv_scall (M' := m_X10_partOfSpot) (As := [.int (M8 38 (Int32.toNatClampNeg x1))]) (st := []) (gl_dec ok_X10_parsed 33 64 (.invokestatic 209) 3 rfl) (gl_lnkS ok_X10_parsed 33 rfl rfl) mw_X10_partOfSpot sw_X10_partOfSpot ⟨by decide, by decide⟩ ⟨rfl, Nat.le_of_ble_eq_true rfl⟩ h (fun r9 M10 hq => ?_)
          obtain ⟨v11, rfl, h⟩ := hq
          change gv l sc m_X10_parsed 67 [.ref 0, .int x1, .int x2, .int (M8 38 (Int32.toNatClampNeg x1))] [.int v11] M10 Q
          exact gv_retI (gl_dec ok_X10_parsed 34 67 (.ireturn) 1 rfl) rfl h
        · replace h := h.2 c
          refine gv_seg ok_X10_parsed 29 1 (Ps := []) (pc' := 57) (ls' := [.ref 0, .int x1, .int x2, .int (M8 38 (Int32.toNatClampNeg x1))]) (st' := [.int (M8 38 (Int32.toNatClampNeg x1))]) (M2 := M8) rfl trivial ?_
          refine gv_scall (M' := m_X10_scaleOfSpot) (As := [.int (M8 38 (Int32.toNatClampNeg x1))]) (st := []) (gl_dec ok_X10_parsed 30 57 (.invokestatic 206) 3 rfl) (gl_lnkS ok_X10_parsed 30 rfl rfl) mw_X10_scaleOfSpot sw_X10_scaleOfSpot ⟨by decide, by decide⟩ ⟨rfl, Nat.le_of_ble_eq_true rfl⟩ h (fun r12 M13 hq => ?_)
          obtain ⟨v14, rfl, h⟩ := hq
          change gv l sc m_X10_parsed 60 [.ref 0, .int x1, .int x2, .int (M8 38 (Int32.toNatClampNeg x1))] [.int v14] M13 Q
          refine gv_goto (t := 67) (by decide) (gl_dec ok_X10_parsed 31 60 (.goto 7) 3 rfl) ?_
          exact gv_retI (gl_dec ok_X10_parsed 34 67 (.ireturn) 1 rfl) rfl h
      · replace h := h.2 c
        refine gv_seg ok_X10_parsed 19 1 (Ps := []) (pc' := 41) (ls' := [.ref 0, .int x1, .int x2, .float 0]) (st' := [.int (-9)]) (M2 := M8) rfl trivial ?_
        exact gv_retI (gl_dec ok_X10_parsed 20 41 (.ireturn) 1 rfl) rfl h
    · replace h := h.2 c
      refine gv_seg ok_X10_parsed 10 1 (Ps := []) (pc' := 21) (ls' := [.ref 0, .int x1, .int x2, .float 0]) (st' := [.int (-1)]) (M2 := M5) rfl trivial ?_
      exact gv_retI (gl_dec ok_X10_parsed 11 21 (.ireturn) 1 rfl) rfl h
theorem e_X10_parsed (l : Launch) (sc : Nat × (Nat → Int32)) (M : gl_N) (Q : Option Value → gl_N → Prop) (x1 x2 : Int32)
  (h : gr l sc m_X8_isPlace [.ref 20, .int x1] M (fun r1 M2 => ∃ v3 : Int32, r1 = some (.int v3) ∧ ((v3 = 0 → Q (some (.int (-1))) M2) ∧ (¬ v3 = 0 → gr l sc m_X10_within [.int x2, .int 0, .int 1] M2 (fun r4 M5 => ∃ v6 : Int32, r4 = some (.int v6) ∧ ((¬ v6 = 0 → gr l sc m_X1_refresh [.ref 35] M5 (fun r7 M8 => r7 = none ∧ ((¬ (M8 35 6) = 0 → (vp_in x1 16) ∧ ((¬ x2 = 0 → gr l sc m_X10_partOfSpot [.int (M8 38 (Int32.toNatClampNeg x1))] M8 (fun r9 M10 => ∃ v11 : Int32, r9 = some (.int v11) ∧ (Q (some (.int v11)) M10))) ∧ (x2 = 0 → gr l sc m_X10_scaleOfSpot [.int (M8 38 (Int32.toNatClampNeg x1))] M8 (fun r12 M13 => ∃ v14 : Int32, r12 = some (.int v14) ∧ (Q (some (.int v14)) M13))))) ∧ ((M8 35 6) = 0 → Q (some (.int (-9))) M8)))) ∧ (v6 = 0 → Q (some (.int (-1))) M5))))))) : gr l sc m_X10_parsed [.ref 0, .int x1, .int x2] M Q :=
  gr_of (by decide +kernel) (Nat.le_of_ble_eq_true rfl) (List.forall_mem_cons.mpr ⟨rfl, (List.forall_mem_cons.mpr ⟨rfl, (List.forall_mem_cons.mpr ⟨rfl, (fun _ h => absurd h List.not_mem_nil)⟩)⟩)⟩) (w_X10_parsed_0 l sc M Q x1 x2 h)
set_option maxHeartbeats 400000 in
set_option maxRecDepth 20000 in
theorem w_X10_reach_0 (l : Launch) (sc : Nat × (Nat → Int32)) (M : gl_N) (Q : Option Value → gl_N → Prop)
  (h : gr l sc m_X1_refresh [.ref 35] M (fun r1 M2 => r1 = none ∧ (Q (some (.int (M2 35 9))) M2))) : gv l sc m_X10_reach 0 [.ref 0] [] M Q := by
  refine gv_seg ok_X10_reach 0 2 (Ps := []) (pc' := 4) (ls' := [.ref 0]) (st' := [.ref 35]) (M2 := M) rfl trivial ?_
  refine gv_vcall (M' := m_X1_refresh) (o := 35) (ci := 1) (As := []) (st := []) (gl_dec ok_X10_reach 2 4 (.invokevirtual 190) 3 rfl) (gl_lnk ok_X10_reach 2 rfl rfl) mw_X1_refresh iw_X1_refresh lw_X1_refresh ⟨by decide, by decide⟩ rfl rfl rfl ⟨rfl, Nat.le_of_ble_eq_true rfl⟩ h (fun r1 M2 hq => ?_)
  obtain ⟨rfl, h⟩ := hq
  change gv l sc m_X10_reach 7 [.ref 0] [] M2 Q
  refine gv_seg ok_X10_reach 3 3 (Ps := []) (pc' := 14) (ls' := [.ref 0]) (st' := [.int (M2 35 9)]) (M2 := M2) rfl trivial ?_
  exact gv_retI (gl_dec ok_X10_reach 6 14 (.ireturn) 1 rfl) rfl h
theorem e_X10_reach (l : Launch) (sc : Nat × (Nat → Int32)) (M : gl_N) (Q : Option Value → gl_N → Prop)
  (h : gr l sc m_X1_refresh [.ref 35] M (fun r1 M2 => r1 = none ∧ (Q (some (.int (M2 35 9))) M2))) : gr l sc m_X10_reach [.ref 0] M Q :=
  gr_of (by decide +kernel) (Nat.le_of_ble_eq_true rfl) (List.forall_mem_cons.mpr ⟨rfl, (fun _ h => absurd h List.not_mem_nil)⟩) (w_X10_reach_0 l sc M Q h)
set_option maxHeartbeats 400000 in
set_option maxRecDepth 20000 in
theorem w_X10_fit_0 (l : Launch) (sc : Nat × (Nat → Int32)) (M : gl_N) (Q : Option Value → gl_N → Prop) (x1 : Int32)
  (h : gr l sc m_X0_isScale [.ref 12, .int x1] M (fun r1 M2 => ∃ v3 : Int32, r1 = some (.int v3) ∧ ((v3 = 0 → Q (some (.int (-1))) M2) ∧ (¬ v3 = 0 → gr l sc m_X10_fitOf [.ref 0, .int x1] M2 (fun r4 M5 => ∃ v6 : Int32, r4 = some (.int v6) ∧ (Q (some (.int v6)) M5)))))) : gv l sc m_X10_fit 0 [.ref 0, .int x1] [] M Q := by
  refine gv_seg ok_X10_fit 0 3 (Ps := []) (pc' := 5) (ls' := [.ref 0, .int x1]) (st' := [.int x1, .ref 12]) (M2 := M) rfl trivial ?_
  refine gv_vcall (M' := m_X0_isScale) (o := 12) (ci := 0) (As := [.int x1]) (st := []) (gl_dec ok_X10_fit 3 5 (.invokevirtual 125) 3 rfl) (gl_lnk ok_X10_fit 3 rfl rfl) mw_X0_isScale iw_X0_isScale lw_X0_isScale ⟨by decide, by decide⟩ rfl rfl rfl ⟨rfl, Nat.le_of_ble_eq_true rfl⟩ h (fun r1 M2 hq => ?_)
  obtain ⟨v3, rfl, h⟩ := hq
  change gv l sc m_X10_fit 8 [.ref 0, .int x1] [.int v3] M2 Q
  refine gv_if_eq (t := 19) (by decide) (gl_dec ok_X10_fit 4 8 (.ifCond .eq 11) 3 rfl) (fun c => ?_) (fun c => ?_)
  · replace h := h.1 c
    refine gv_seg ok_X10_fit 9 1 (Ps := []) (pc' := 20) (ls' := [.ref 0, .int x1]) (st' := [.int (-1)]) (M2 := M2) rfl trivial ?_
    exact gv_retI (gl_dec ok_X10_fit 10 20 (.ireturn) 1 rfl) rfl h
  · replace h := h.2 c
    refine gv_seg ok_X10_fit 5 2 (Ps := []) (pc' := 13) (ls' := [.ref 0, .int x1]) (st' := [.int x1, .ref 0]) (M2 := M2) rfl trivial ?_
    refine gv_vcall (M' := m_X10_fitOf) (o := 0) (ci := 10) (As := [.int x1]) (st := []) (gl_dec ok_X10_fit 7 13 (.invokevirtual 215) 3 rfl) (gl_lnk ok_X10_fit 7 rfl rfl) mw_X10_fitOf iw_X10_fitOf lw_X10_fitOf ⟨by decide, by decide⟩ rfl rfl rfl ⟨rfl, Nat.le_of_ble_eq_true rfl⟩ h (fun r4 M5 hq => ?_)
    obtain ⟨v6, rfl, h⟩ := hq
    change gv l sc m_X10_fit 16 [.ref 0, .int x1] [.int v6] M5 Q
    refine gv_goto (t := 20) (by decide) (gl_dec ok_X10_fit 8 16 (.goto 4) 3 rfl) ?_
    exact gv_retI (gl_dec ok_X10_fit 10 20 (.ireturn) 1 rfl) rfl h
theorem e_X10_fit (l : Launch) (sc : Nat × (Nat → Int32)) (M : gl_N) (Q : Option Value → gl_N → Prop) (x1 : Int32)
  (h : gr l sc m_X0_isScale [.ref 12, .int x1] M (fun r1 M2 => ∃ v3 : Int32, r1 = some (.int v3) ∧ ((v3 = 0 → Q (some (.int (-1))) M2) ∧ (¬ v3 = 0 → gr l sc m_X10_fitOf [.ref 0, .int x1] M2 (fun r4 M5 => ∃ v6 : Int32, r4 = some (.int v6) ∧ (Q (some (.int v6)) M5)))))) : gr l sc m_X10_fit [.ref 0, .int x1] M Q :=
  gr_of (by decide +kernel) (Nat.le_of_ble_eq_true rfl) (List.forall_mem_cons.mpr ⟨rfl, (List.forall_mem_cons.mpr ⟨rfl, (fun _ h => absurd h List.not_mem_nil)⟩)⟩) (w_X10_fit_0 l sc M Q x1 h)
set_option maxHeartbeats 400000 in
set_option maxRecDepth 20000 in
theorem w_X10_home_0 (l : Launch) (sc : Nat × (Nat → Int32)) (M : gl_N) (Q : Option Value → gl_N → Prop)
  (h : gv l sc m_X10_home 7 [.ref 0, .int (-9), .int (-1), .int 0, .float 0] [] M Q) : gv l sc m_X10_home 0 [.ref 0, .float 0, .float 0, .float 0, .float 0] [] M Q := by
  refine gv_seg ok_X10_home 0 6 (Ps := []) (pc' := 7) (ls' := [.ref 0, .int (-9), .int (-1), .int 0, .float 0]) (st' := []) (M2 := M) rfl trivial ?_
  exact h
theorem e_X10_home (l : Launch) (sc : Nat × (Nat → Int32)) (M : gl_N) (Q : Option Value → gl_N → Prop)
  (h : gv l sc m_X10_home 7 [.ref 0, .int (-9), .int (-1), .int 0, .float 0] [] M Q) : gr l sc m_X10_home [.ref 0] M Q :=
  gr_of (by decide +kernel) (Nat.le_of_ble_eq_true rfl) (List.forall_mem_cons.mpr ⟨rfl, (fun _ h => absurd h List.not_mem_nil)⟩) (w_X10_home_0 l sc M Q h)
set_option maxHeartbeats 400000 in
set_option maxRecDepth 20000 in
theorem w_X10_home_7 (l : Launch) (sc : Nat × (Nat → Int32)) (M : gl_N) (Q : Option Value → gl_N → Prop) (x1 x2 x3 : Int32)
  (h : gr l sc m_X0_scaleCount [.ref 12] M (fun r1 M2 => ∃ v3 : Int32, r1 = some (.int v3) ∧ ((v3 ≤ x3 → Q (some (.int x1)) M2) ∧ (¬ v3 ≤ x3 → gr l sc m_X10_fitOf [.ref 0, .int x3] M2 (fun r4 M5 => ∃ v6 : Int32, r4 = some (.int v6) ∧ ((v6 ≤ x2 → gv l sc m_X10_home 7 [.ref 0, .int x1, .int x2, .int (x3 + 1), .float 0] [] M5 Q) ∧ (¬ v6 ≤ x2 → gv l sc m_X10_home 7 [.ref 0, .int x3, .int v6, .int (x3 + 1), .float 0] [] M5 Q))))))) : gv l sc m_X10_home 7 [.ref 0, .int x1, .int x2, .int x3, .float 0] [] M Q := by
  refine gv_seg ok_X10_home 6 3 (Ps := []) (pc' := 12) (ls' := [.ref 0, .int x1, .int x2, .int x3, .float 0]) (st' := [.ref 12, .int x3]) (M2 := M) rfl trivial ?_
  refine gv_vcall (M' := m_X0_scaleCount) (o := 12) (ci := 0) (As := []) (st := [.int x3]) (gl_dec ok_X10_home 9 12 (.invokevirtual 218) 3 rfl) (gl_lnk ok_X10_home 9 rfl rfl) mw_X0_scaleCount iw_X0_scaleCount lw_X0_scaleCount ⟨by decide, by decide⟩ rfl rfl rfl ⟨rfl, Nat.le_of_ble_eq_true rfl⟩ h (fun r1 M2 hq => ?_)
  obtain ⟨v3, rfl, h⟩ := hq
  change gv l sc m_X10_home 15 [.ref 0, .int x1, .int x2, .int x3, .float 0] [.int v3, .int x3] M2 Q
  refine gv_icmp_ge (t := 42) (by decide) (gl_dec ok_X10_home 10 15 (.if_icmp .ge 27) 3 rfl) (fun c => ?_) (fun c => ?_)
  · replace h := h.1 c
    refine gv_seg ok_X10_home 24 1 (Ps := []) (pc' := 43) (ls' := [.ref 0, .int x1, .int x2, .int x3, .float 0]) (st' := [.int x1]) (M2 := M2) rfl trivial ?_
    exact gv_retI (gl_dec ok_X10_home 25 43 (.ireturn) 1 rfl) rfl h
  · replace h := h.2 c
    refine gv_seg ok_X10_home 11 2 (Ps := []) (pc' := 20) (ls' := [.ref 0, .int x1, .int x2, .int x3, .float 0]) (st' := [.int x3, .ref 0]) (M2 := M2) rfl trivial ?_
    refine gv_vcall (M' := m_X10_fitOf) (o := 0) (ci := 10) (As := [.int x3]) (st := []) (gl_dec ok_X10_home 13 20 (.invokevirtual 215) 3 rfl) (gl_lnk ok_X10_home 13 rfl rfl) mw_X10_fitOf iw_X10_fitOf lw_X10_fitOf ⟨by decide, by decide⟩ rfl rfl rfl ⟨rfl, Nat.le_of_ble_eq_true rfl⟩ h (fun r4 M5 hq => ?_)
    obtain ⟨v6, rfl, h⟩ := hq
    change gv l sc m_X10_home 23 [.ref 0, .int x1, .int x2, .int x3, .float 0] [.int v6] M5 Q
    refine gv_seg ok_X10_home 14 3 (Ps := []) (pc' := 28) (ls' := [.ref 0, .int x1, .int x2, .int x3, .int v6]) (st' := [.int x2, .int v6]) (M2 := M5) rfl trivial ?_
    refine gv_icmp_le (t := 36) (by decide) (gl_dec ok_X10_home 17 28 (.if_icmp .le 8) 3 rfl) (fun c => ?_) (fun c => ?_)
    · replace h := h.1 c
      refine gv_seg ok_X10_home 22 1 (Ps := []) (pc' := 39) (ls' := [.ref 0, .int x1, .int x2, .int (x3 + 1), .int v6]) (st' := []) (M2 := M5) rfl trivial ?_
      refine gv_goto (t := 7) (by decide) (gl_dec ok_X10_home 23 39 (.goto (-32)) 3 rfl) ?_
      exact gv_weak (ls' := [.ref 0, .int x1, .int x2, .int (x3 + 1), .float 0]) ⟨Or.inl rfl, ⟨Or.inl rfl, ⟨Or.inl rfl, ⟨Or.inl rfl, ⟨Or.inr rfl, trivial⟩⟩⟩⟩⟩ h
    · replace h := h.2 c
      refine gv_seg ok_X10_home 18 5 (Ps := []) (pc' := 39) (ls' := [.ref 0, .int x3, .int v6, .int (x3 + 1), .int v6]) (st' := []) (M2 := M5) rfl trivial ?_
      refine gv_goto (t := 7) (by decide) (gl_dec ok_X10_home 23 39 (.goto (-32)) 3 rfl) ?_
      exact gv_weak (ls' := [.ref 0, .int x3, .int v6, .int (x3 + 1), .float 0]) ⟨Or.inl rfl, ⟨Or.inl rfl, ⟨Or.inl rfl, ⟨Or.inl rfl, ⟨Or.inr rfl, trivial⟩⟩⟩⟩⟩ h
set_option maxHeartbeats 400000 in
set_option maxRecDepth 20000 in
theorem w_X10_sees_0 (l : Launch) (sc : Nat × (Nat → Int32)) (M : gl_N) (Q : Option Value → gl_N → Prop) (x1 x2 : Int32)
  (h : gr l sc m_X10_within [.int x1, .int 0, .int 120] M (fun r1 M2 => ∃ v3 : Int32, r1 = some (.int v3) ∧ ((v3 = 0 → Q (some (.int (-1))) M2) ∧ (¬ v3 = 0 → gr l sc m_X10_within [.int x2, .int 0, .int 1] M2 (fun r4 M5 => ∃ v6 : Int32, r4 = some (.int v6) ∧ ((¬ v6 = 0 → ((M5 29 2) < 8 → gr l sc m_X5_add [.ref 29, .int x1, .int x2] M5 (fun r7 M8 => r7 = none ∧ (Q (some (.int (M8 29 2))) M8))) ∧ (¬ (M5 29 2) < 8 → Q (some (.int (-3))) M5)) ∧ (v6 = 0 → Q (some (.int (-1))) M5))))))) : gv l sc m_X10_sees 0 [.ref 0, .int x1, .int x2] [] M Q := by
  refine gv_seg ok_X10_sees 0 3 (Ps := []) (pc' := 4) (ls' := [.ref 0, .int x1, .int x2]) (st' := [.int 120, .int 0, .int x1]) (M2 := M) rfl trivial ?_
  refine gv_scall (M' := m_X10_within) (As := [.int x1, .int 0, .int 120]) (st := []) (gl_dec ok_X10_sees 3 4 (.invokestatic 83) 3 rfl) (gl_lnkS ok_X10_sees 3 rfl rfl) mw_X10_within sw_X10_within ⟨by decide, by decide⟩ ⟨rfl, Nat.le_of_ble_eq_true rfl⟩ h (fun r1 M2 hq => ?_)
  obtain ⟨v3, rfl, h⟩ := hq
  change gv l sc m_X10_sees 7 [.ref 0, .int x1, .int x2] [.int v3] M2 Q
  refine gv_if_eq (t := 19) (by decide) (gl_dec ok_X10_sees 4 7 (.ifCond .eq 12) 3 rfl) (fun c => ?_) (fun c => ?_)
  · replace h := h.1 c
    refine gv_seg ok_X10_sees 10 1 (Ps := []) (pc' := 20) (ls' := [.ref 0, .int x1, .int x2]) (st' := [.int (-1)]) (M2 := M2) rfl trivial ?_
    exact gv_retI (gl_dec ok_X10_sees 11 20 (.ireturn) 1 rfl) rfl h
  · replace h := h.2 c
    refine gv_seg ok_X10_sees 5 3 (Ps := []) (pc' := 13) (ls' := [.ref 0, .int x1, .int x2]) (st' := [.int 1, .int 0, .int x2]) (M2 := M2) rfl trivial ?_
    refine gv_scall (M' := m_X10_within) (As := [.int x2, .int 0, .int 1]) (st := []) (gl_dec ok_X10_sees 8 13 (.invokestatic 83) 3 rfl) (gl_lnkS ok_X10_sees 8 rfl rfl) mw_X10_within sw_X10_within ⟨by decide, by decide⟩ ⟨rfl, Nat.le_of_ble_eq_true rfl⟩ h (fun r4 M5 hq => ?_)
    obtain ⟨v6, rfl, h⟩ := hq
    change gv l sc m_X10_sees 16 [.ref 0, .int x1, .int x2] [.int v6] M5 Q
    refine gv_if_ne (t := 21) (by decide) (gl_dec ok_X10_sees 9 16 (.ifCond .ne 5) 3 rfl) (fun c => ?_) (fun c => ?_)
    · replace h := h.1 c
      refine gv_seg ok_X10_sees 12 4 (Ps := []) (pc' := 30) (ls' := [.ref 0, .int x1, .int x2]) (st' := [.int 8, .int (M5 29 2)]) (M2 := M5) rfl trivial ?_
      refine gv_icmp_lt (t := 36) (by decide) (gl_dec ok_X10_sees 16 30 (.if_icmp .lt 6) 3 rfl) (fun c => ?_) (fun c => ?_)
      · replace h := h.1 c
        refine gv_seg ok_X10_sees 19 4 (Ps := []) (pc' := 42) (ls' := [.ref 0, .int x1, .int x2]) (st' := [.int x2, .int x1, .ref 29]) (M2 := M5) rfl trivial ?_
        refine gv_vcall (M' := m_X5_add) (o := 29) (ci := 5) (As := [.int x1, .int x2]) (st := []) (gl_dec ok_X10_sees 23 42 (.invokevirtual 221) 3 rfl) (gl_lnk ok_X10_sees 23 rfl rfl) mw_X5_add iw_X5_add lw_X5_add ⟨by decide, by decide⟩ rfl rfl rfl ⟨rfl, Nat.le_of_ble_eq_true rfl⟩ h (fun r7 M8 hq => ?_)
        obtain ⟨rfl, h⟩ := hq
        change gv l sc m_X10_sees 45 [.ref 0, .int x1, .int x2] [] M8 Q
        refine gv_seg ok_X10_sees 24 3 (Ps := []) (pc' := 52) (ls' := [.ref 0, .int x1, .int x2]) (st' := [.int (M8 29 2)]) (M2 := M8) rfl trivial ?_
        exact gv_retI (gl_dec ok_X10_sees 27 52 (.ireturn) 1 rfl) rfl h
      · replace h := h.2 c
        refine gv_seg ok_X10_sees 17 1 (Ps := []) (pc' := 35) (ls' := [.ref 0, .int x1, .int x2]) (st' := [.int (-3)]) (M2 := M5) rfl trivial ?_
        exact gv_retI (gl_dec ok_X10_sees 18 35 (.ireturn) 1 rfl) rfl h
    · replace h := h.2 c
      refine gv_seg ok_X10_sees 10 1 (Ps := []) (pc' := 20) (ls' := [.ref 0, .int x1, .int x2]) (st' := [.int (-1)]) (M2 := M5) rfl trivial ?_
      exact gv_retI (gl_dec ok_X10_sees 11 20 (.ireturn) 1 rfl) rfl h
theorem e_X10_sees (l : Launch) (sc : Nat × (Nat → Int32)) (M : gl_N) (Q : Option Value → gl_N → Prop) (x1 x2 : Int32)
  (h : gr l sc m_X10_within [.int x1, .int 0, .int 120] M (fun r1 M2 => ∃ v3 : Int32, r1 = some (.int v3) ∧ ((v3 = 0 → Q (some (.int (-1))) M2) ∧ (¬ v3 = 0 → gr l sc m_X10_within [.int x2, .int 0, .int 1] M2 (fun r4 M5 => ∃ v6 : Int32, r4 = some (.int v6) ∧ ((¬ v6 = 0 → ((M5 29 2) < 8 → gr l sc m_X5_add [.ref 29, .int x1, .int x2] M5 (fun r7 M8 => r7 = none ∧ (Q (some (.int (M8 29 2))) M8))) ∧ (¬ (M5 29 2) < 8 → Q (some (.int (-3))) M5)) ∧ (v6 = 0 → Q (some (.int (-1))) M5))))))) : gr l sc m_X10_sees [.ref 0, .int x1, .int x2] M Q :=
  gr_of (by decide +kernel) (Nat.le_of_ble_eq_true rfl) (List.forall_mem_cons.mpr ⟨rfl, (List.forall_mem_cons.mpr ⟨rfl, (List.forall_mem_cons.mpr ⟨rfl, (fun _ h => absurd h List.not_mem_nil)⟩)⟩)⟩) (w_X10_sees_0 l sc M Q x1 x2 h)
set_option maxHeartbeats 400000 in
set_option maxRecDepth 20000 in
theorem w_X10_forget_0 (l : Launch) (sc : Nat × (Nat → Int32)) (M : gl_N) (Q : Option Value → gl_N → Prop)
  (h : Q (some (.int (M 29 2))) (gl_u2 M 29 2 0)) : gv l sc m_X10_forget 0 [.ref 0, .float 0] [] M Q := by
  refine gv_seg ok_X10_forget 0 9 (Ps := []) (pc' := 17) (ls' := [.ref 0, .int (M 29 2)]) (st' := [.int (M 29 2)]) (M2 := (gl_u2 M 29 2 0)) rfl trivial ?_
  exact gv_retI (gl_dec ok_X10_forget 9 17 (.ireturn) 1 rfl) rfl h
theorem e_X10_forget (l : Launch) (sc : Nat × (Nat → Int32)) (M : gl_N) (Q : Option Value → gl_N → Prop)
  (h : Q (some (.int (M 29 2))) (gl_u2 M 29 2 0)) : gr l sc m_X10_forget [.ref 0] M Q :=
  gr_of (by decide +kernel) (Nat.le_of_ble_eq_true rfl) (List.forall_mem_cons.mpr ⟨rfl, (fun _ h => absurd h List.not_mem_nil)⟩) (w_X10_forget_0 l sc M Q h)
set_option maxHeartbeats 400000 in
set_option maxRecDepth 20000 in
theorem w_X10_unseen_0 (l : Launch) (sc : Nat × (Nat → Int32)) (M : gl_N) (Q : Option Value → gl_N → Prop)
  (h : gv l sc m_X10_unseen 4 [.ref 0, .int 0, .int 0] [] M Q) : gv l sc m_X10_unseen 0 [.ref 0, .float 0, .float 0] [] M Q := by
  refine gv_seg ok_X10_unseen 0 4 (Ps := []) (pc' := 4) (ls' := [.ref 0, .int 0, .int 0]) (st' := []) (M2 := M) rfl trivial ?_
  exact h
theorem e_X10_unseen (l : Launch) (sc : Nat × (Nat → Int32)) (M : gl_N) (Q : Option Value → gl_N → Prop)
  (h : gv l sc m_X10_unseen 4 [.ref 0, .int 0, .int 0] [] M Q) : gr l sc m_X10_unseen [.ref 0] M Q :=
  gr_of (by decide +kernel) (Nat.le_of_ble_eq_true rfl) (List.forall_mem_cons.mpr ⟨rfl, (fun _ h => absurd h List.not_mem_nil)⟩) (w_X10_unseen_0 l sc M Q h)
set_option maxHeartbeats 400000 in
set_option maxRecDepth 20000 in
theorem w_X10_unseen_4 (l : Launch) (sc : Nat × (Nat → Int32)) (M : gl_N) (Q : Option Value → gl_N → Prop) (x1 x2 : Int32)
  (h : gr l sc m_X0_scaleCount [.ref 12] M (fun r1 M2 => ∃ v3 : Int32, r1 = some (.int v3) ∧ ((v3 ≤ x2 → Q (some (.int x1)) M2) ∧ (¬ v3 ≤ x2 → gr l sc m_X5_agreesWith [.ref 29, .ref 12, .int x2] M2 (fun r4 M5 => ∃ v6 : Int32, r4 = some (.int v6) ∧ ((v6 = 0 → gv l sc m_X10_unseen 4 [.ref 0, .int x1, .int (x2 + 1)] [] M5 Q) ∧ (¬ v6 = 0 → gv l sc m_X10_unseen 4 [.ref 0, .int (x1 ||| (1 <<< ((x2 / 24) &&& 31))), .int (x2 + 1)] [] M5 Q))))))) : gv l sc m_X10_unseen 4 [.ref 0, .int x1, .int x2] [] M Q := by
  refine gv_seg ok_X10_unseen 4 3 (Ps := []) (pc' := 9) (ls' := [.ref 0, .int x1, .int x2]) (st' := [.ref 12, .int x2]) (M2 := M) rfl trivial ?_
  refine gv_vcall (M' := m_X0_scaleCount) (o := 12) (ci := 0) (As := []) (st := [.int x2]) (gl_dec ok_X10_unseen 7 9 (.invokevirtual 218) 3 rfl) (gl_lnk ok_X10_unseen 7 rfl rfl) mw_X0_scaleCount iw_X0_scaleCount lw_X0_scaleCount ⟨by decide, by decide⟩ rfl rfl rfl ⟨rfl, Nat.le_of_ble_eq_true rfl⟩ h (fun r1 M2 hq => ?_)
  obtain ⟨v3, rfl, h⟩ := hq
  change gv l sc m_X10_unseen 12 [.ref 0, .int x1, .int x2] [.int v3, .int x2] M2 Q
  refine gv_icmp_ge (t := 45) (by decide) (gl_dec ok_X10_unseen 8 12 (.if_icmp .ge 33) 3 rfl) (fun c => ?_) (fun c => ?_)
  · replace h := h.1 c
    refine gv_seg ok_X10_unseen 26 1 (Ps := []) (pc' := 46) (ls' := [.ref 0, .int x1, .int x2]) (st' := [.int x1]) (M2 := M2) rfl trivial ?_
    exact gv_retI (gl_dec ok_X10_unseen 27 46 (.ireturn) 1 rfl) rfl h
  · replace h := h.2 c
    refine gv_seg ok_X10_unseen 9 5 (Ps := []) (pc' := 24) (ls' := [.ref 0, .int x1, .int x2]) (st' := [.int x2, .ref 12, .ref 29]) (M2 := M2) rfl trivial ?_
    refine gv_vcall (M' := m_X5_agreesWith) (o := 29) (ci := 5) (As := [.ref 12, .int x2]) (st := []) (gl_dec ok_X10_unseen 14 24 (.invokevirtual 224) 3 rfl) (gl_lnk ok_X10_unseen 14 rfl rfl) mw_X5_agreesWith iw_X5_agreesWith lw_X5_agreesWith ⟨by decide, by decide⟩ rfl rfl rfl ⟨rfl, Nat.le_of_ble_eq_true rfl⟩ h (fun r4 M5 hq => ?_)
    obtain ⟨v6, rfl, h⟩ := hq
    change gv l sc m_X10_unseen 27 [.ref 0, .int x1, .int x2] [.int v6] M5 Q
    refine gv_if_eq (t := 39) (by decide) (gl_dec ok_X10_unseen 15 27 (.ifCond .eq 12) 3 rfl) (fun c => ?_) (fun c => ?_)
    · replace h := h.1 c
      refine gv_seg ok_X10_unseen 24 1 (Ps := []) (pc' := 42) (ls' := [.ref 0, .int x1, .int (x2 + 1)]) (st' := []) (M2 := M5) rfl trivial ?_
      refine gv_goto (t := 4) (by decide) (gl_dec ok_X10_unseen 25 42 (.goto (-38)) 3 rfl) ?_
      exact h
    · replace h := h.2 c
      refine gv_seg ok_X10_unseen 16 9 (Ps := [¬ (24 : Int32) = 0]) (pc' := 42) (ls' := [.ref 0, .int (x1 ||| (1 <<< ((x2 / 24) &&& 31))), .int (x2 + 1)]) (st' := []) (M2 := M5) rfl (show ¬ (24 : Int32) = 0 by decide) ?_
      refine gv_goto (t := 4) (by decide) (gl_dec ok_X10_unseen 25 42 (.goto (-38)) 3 rfl) ?_
      exact h
set_option maxHeartbeats 400000 in
set_option maxRecDepth 20000 in
theorem w_X10_keep_0 (l : Launch) (sc : Nat × (Nat → Int32)) (M : gl_N) (Q : Option Value → gl_N → Prop) (x1 : Int32)
  (h : gr l sc m_X10_within [.int x1, .int 0, .int 1] M (fun r1 M2 => ∃ v3 : Int32, r1 = some (.int v3) ∧ ((¬ v3 = 0 → gr l sc m_X6_put [.ref 26, .int x1, .ref 20] M2 (fun r4 M5 => r4 = none ∧ (Q (some (.int (M5 20 1))) M5))) ∧ (v3 = 0 → Q (some (.int (-1))) M2)))) : gv l sc m_X10_keep 0 [.ref 0, .int x1] [] M Q := by
  refine gv_seg ok_X10_keep 0 3 (Ps := []) (pc' := 3) (ls' := [.ref 0, .int x1]) (st' := [.int 1, .int 0, .int x1]) (M2 := M) rfl trivial ?_
  refine gv_scall (M' := m_X10_within) (As := [.int x1, .int 0, .int 1]) (st := []) (gl_dec ok_X10_keep 3 3 (.invokestatic 83) 3 rfl) (gl_lnkS ok_X10_keep 3 rfl rfl) mw_X10_within sw_X10_within ⟨by decide, by decide⟩ ⟨rfl, Nat.le_of_ble_eq_true rfl⟩ h (fun r1 M2 hq => ?_)
  obtain ⟨v3, rfl, h⟩ := hq
  change gv l sc m_X10_keep 6 [.ref 0, .int x1] [.int v3] M2 Q
  refine gv_if_ne (t := 11) (by decide) (gl_dec ok_X10_keep 4 6 (.ifCond .ne 5) 3 rfl) (fun c => ?_) (fun c => ?_)
  · replace h := h.1 c
    refine gv_seg ok_X10_keep 7 5 (Ps := []) (pc' := 20) (ls' := [.ref 0, .int x1]) (st' := [.ref 20, .int x1, .ref 26]) (M2 := M2) rfl trivial ?_
    refine gv_vcall (M' := m_X6_put) (o := 26) (ci := 6) (As := [.int x1, .ref 20]) (st := []) (gl_dec ok_X10_keep 12 20 (.invokevirtual 228) 3 rfl) (gl_lnk ok_X10_keep 12 rfl rfl) mw_X6_put iw_X6_put lw_X6_put ⟨by decide, by decide⟩ rfl rfl rfl ⟨rfl, Nat.le_of_ble_eq_true rfl⟩ h (fun r4 M5 hq => ?_)
    obtain ⟨rfl, h⟩ := hq
    change gv l sc m_X10_keep 23 [.ref 0, .int x1] [] M5 Q
    refine gv_seg ok_X10_keep 13 3 (Ps := []) (pc' := 30) (ls' := [.ref 0, .int x1]) (st' := [.int (M5 20 1)]) (M2 := M5) rfl trivial ?_
    exact gv_retI (gl_dec ok_X10_keep 16 30 (.ireturn) 1 rfl) rfl h
  · replace h := h.2 c
    refine gv_seg ok_X10_keep 5 1 (Ps := []) (pc' := 10) (ls' := [.ref 0, .int x1]) (st' := [.int (-1)]) (M2 := M2) rfl trivial ?_
    exact gv_retI (gl_dec ok_X10_keep 6 10 (.ireturn) 1 rfl) rfl h
theorem e_X10_keep (l : Launch) (sc : Nat × (Nat → Int32)) (M : gl_N) (Q : Option Value → gl_N → Prop) (x1 : Int32)
  (h : gr l sc m_X10_within [.int x1, .int 0, .int 1] M (fun r1 M2 => ∃ v3 : Int32, r1 = some (.int v3) ∧ ((¬ v3 = 0 → gr l sc m_X6_put [.ref 26, .int x1, .ref 20] M2 (fun r4 M5 => r4 = none ∧ (Q (some (.int (M5 20 1))) M5))) ∧ (v3 = 0 → Q (some (.int (-1))) M2)))) : gr l sc m_X10_keep [.ref 0, .int x1] M Q :=
  gr_of (by decide +kernel) (Nat.le_of_ble_eq_true rfl) (List.forall_mem_cons.mpr ⟨rfl, (List.forall_mem_cons.mpr ⟨rfl, (fun _ h => absurd h List.not_mem_nil)⟩)⟩) (w_X10_keep_0 l sc M Q x1 h)
set_option maxHeartbeats 400000 in
set_option maxRecDepth 20000 in
theorem w_X10_back_0 (l : Launch) (sc : Nat × (Nat → Int32)) (M : gl_N) (Q : Option Value → gl_N → Prop) (x1 : Int32)
  (h : gr l sc m_X10_within [.int x1, .int 0, .int 1] M (fun r1 M2 => ∃ v3 : Int32, r1 = some (.int v3) ∧ ((¬ v3 = 0 → gr l sc m_X6_isKept [.ref 26, .int x1] M2 (fun r4 M5 => ∃ v6 : Int32, r4 = some (.int v6) ∧ ((¬ v6 = 0 → gr l sc m_X6_giveTo [.ref 26, .ref 20, .int x1] M5 (fun r7 M8 => r7 = none ∧ (gr l sc m_X2_dropAll [.ref 22] M8 (fun r9 M10 => r9 = none ∧ (Q (some (.int (M10 20 1))) M10))))) ∧ (v6 = 0 → Q (some (.int (-2))) M5)))) ∧ (v3 = 0 → Q (some (.int (-1))) M2)))) : gv l sc m_X10_back 0 [.ref 0, .int x1] [] M Q := by
  refine gv_seg ok_X10_back 0 3 (Ps := []) (pc' := 3) (ls' := [.ref 0, .int x1]) (st' := [.int 1, .int 0, .int x1]) (M2 := M) rfl trivial ?_
  refine gv_scall (M' := m_X10_within) (As := [.int x1, .int 0, .int 1]) (st := []) (gl_dec ok_X10_back 3 3 (.invokestatic 83) 3 rfl) (gl_lnkS ok_X10_back 3 rfl rfl) mw_X10_within sw_X10_within ⟨by decide, by decide⟩ ⟨rfl, Nat.le_of_ble_eq_true rfl⟩ h (fun r1 M2 hq => ?_)
  obtain ⟨v3, rfl, h⟩ := hq
  change gv l sc m_X10_back 6 [.ref 0, .int x1] [.int v3] M2 Q
  refine gv_if_ne (t := 11) (by decide) (gl_dec ok_X10_back 4 6 (.ifCond .ne 5) 3 rfl) (fun c => ?_) (fun c => ?_)
  · replace h := h.1 c
    refine gv_seg ok_X10_back 7 3 (Ps := []) (pc' := 16) (ls' := [.ref 0, .int x1]) (st' := [.int x1, .ref 26]) (M2 := M2) rfl trivial ?_
    refine gv_vcall (M' := m_X6_isKept) (o := 26) (ci := 6) (As := [.int x1]) (st := []) (gl_dec ok_X10_back 10 16 (.invokevirtual 232) 3 rfl) (gl_lnk ok_X10_back 10 rfl rfl) mw_X6_isKept iw_X6_isKept lw_X6_isKept ⟨by decide, by decide⟩ rfl rfl rfl ⟨rfl, Nat.le_of_ble_eq_true rfl⟩ h (fun r4 M5 hq => ?_)
    obtain ⟨v6, rfl, h⟩ := hq
    change gv l sc m_X10_back 19 [.ref 0, .int x1] [.int v6] M5 Q
    refine gv_if_ne (t := 25) (by decide) (gl_dec ok_X10_back 11 19 (.ifCond .ne 6) 3 rfl) (fun c => ?_) (fun c => ?_)
    · replace h := h.1 c
      refine gv_seg ok_X10_back 14 5 (Ps := []) (pc' := 34) (ls' := [.ref 0, .int x1]) (st' := [.int x1, .ref 20, .ref 26]) (M2 := M5) rfl trivial ?_
      refine gv_vcall (M' := m_X6_giveTo) (o := 26) (ci := 6) (As := [.ref 20, .int x1]) (st := []) (gl_dec ok_X10_back 19 34 (.invokevirtual 235) 3 rfl) (gl_lnk ok_X10_back 19 rfl rfl) mw_X6_giveTo iw_X6_giveTo lw_X6_giveTo ⟨by decide, by decide⟩ rfl rfl rfl ⟨rfl, Nat.le_of_ble_eq_true rfl⟩ h (fun r7 M8 hq => ?_)
      obtain ⟨rfl, h⟩ := hq
      change gv l sc m_X10_back 37 [.ref 0, .int x1] [] M8 Q
      refine gv_seg ok_X10_back 20 2 (Ps := []) (pc' := 41) (ls' := [.ref 0, .int x1]) (st' := [.ref 22]) (M2 := M8) rfl trivial ?_
      refine gv_vcall (M' := m_X2_dropAll) (o := 22) (ci := 2) (As := []) (st := []) (gl_dec ok_X10_back 22 41 (.invokevirtual 107) 3 rfl) (gl_lnk ok_X10_back 22 rfl rfl) mw_X2_dropAll iw_X2_dropAll lw_X2_dropAll ⟨by decide, by decide⟩ rfl rfl rfl ⟨rfl, Nat.le_of_ble_eq_true rfl⟩ h (fun r9 M10 hq => ?_)
      obtain ⟨rfl, h⟩ := hq
      change gv l sc m_X10_back 44 [.ref 0, .int x1] [] M10 Q
      refine gv_seg ok_X10_back 23 3 (Ps := []) (pc' := 51) (ls' := [.ref 0, .int x1]) (st' := [.int (M10 20 1)]) (M2 := M10) rfl trivial ?_
      exact gv_retI (gl_dec ok_X10_back 26 51 (.ireturn) 1 rfl) rfl h
    · replace h := h.2 c
      refine gv_seg ok_X10_back 12 1 (Ps := []) (pc' := 24) (ls' := [.ref 0, .int x1]) (st' := [.int (-2)]) (M2 := M5) rfl trivial ?_
      exact gv_retI (gl_dec ok_X10_back 13 24 (.ireturn) 1 rfl) rfl h
  · replace h := h.2 c
    refine gv_seg ok_X10_back 5 1 (Ps := []) (pc' := 10) (ls' := [.ref 0, .int x1]) (st' := [.int (-1)]) (M2 := M2) rfl trivial ?_
    exact gv_retI (gl_dec ok_X10_back 6 10 (.ireturn) 1 rfl) rfl h
theorem e_X10_back (l : Launch) (sc : Nat × (Nat → Int32)) (M : gl_N) (Q : Option Value → gl_N → Prop) (x1 : Int32)
  (h : gr l sc m_X10_within [.int x1, .int 0, .int 1] M (fun r1 M2 => ∃ v3 : Int32, r1 = some (.int v3) ∧ ((¬ v3 = 0 → gr l sc m_X6_isKept [.ref 26, .int x1] M2 (fun r4 M5 => ∃ v6 : Int32, r4 = some (.int v6) ∧ ((¬ v6 = 0 → gr l sc m_X6_giveTo [.ref 26, .ref 20, .int x1] M5 (fun r7 M8 => r7 = none ∧ (gr l sc m_X2_dropAll [.ref 22] M8 (fun r9 M10 => r9 = none ∧ (Q (some (.int (M10 20 1))) M10))))) ∧ (v6 = 0 → Q (some (.int (-2))) M5)))) ∧ (v3 = 0 → Q (some (.int (-1))) M2)))) : gr l sc m_X10_back [.ref 0, .int x1] M Q :=
  gr_of (by decide +kernel) (Nat.le_of_ble_eq_true rfl) (List.forall_mem_cons.mpr ⟨rfl, (List.forall_mem_cons.mpr ⟨rfl, (fun _ h => absurd h List.not_mem_nil)⟩)⟩) (w_X10_back_0 l sc M Q x1 h)
set_option maxHeartbeats 400000 in
set_option maxRecDepth 20000 in
theorem w_X10_count_0 (l : Launch) (sc : Nat × (Nat → Int32)) (M : gl_N) (Q : Option Value → gl_N → Prop) (x1 : Int32)
  (h : (x1 = 0 → Q (some (.int (M 12 0))) M) ∧ (x1 = 1 → Q (some (.int (M 12 5))) M) ∧ (x1 = 2 → Q (some (.int (M 20 1))) M) ∧ (x1 = 3 → Q (some (.int (M 29 2))) M) ∧ (x1 = 4 → Q (some (.int (M 1 1))) M) ∧ (x1 = 5 → Q (some (.int (M 22 2))) M) ∧ (¬ x1 = 0 → ¬ x1 = 1 → ¬ x1 = 2 → ¬ x1 = 3 → ¬ x1 = 4 → ¬ x1 = 5 → Q (some (.int (-1))) M)) : gv l sc m_X10_count 0 [.ref 0, .int x1] [] M Q := by
  refine gv_seg ok_X10_count 0 1 (Ps := []) (pc' := 1) (ls' := [.ref 0, .int x1]) (st' := [.int x1]) (M2 := M) rfl trivial ?_
  have hd : decode m_X10_count.2.1 1 = .ok (.tableswitch 87 0 5 #[39, 47, 55, 63, 71, 79], 39) := by decide +kernel
  by_cases c0 : x1 = 0
  · replace h := h.1 c0
    refine gv_table hd (by rw [c0]; decide) (by rw [c0]; decide) (off := 39) (t := 40) (by rw [c0]; rfl) (by decide) ?_
    refine gv_seg ok_X10_count 1 3 (Ps := []) (pc' := 47) (ls' := [.ref 0, .int x1]) (st' := [.int (M 12 0)]) (M2 := M) rfl trivial ?_
    exact gv_retI (gl_dec ok_X10_count 4 47 (.ireturn) 1 rfl) rfl h
  by_cases c1 : x1 = 1
  · replace h := h.2.1 c1
    refine gv_table hd (by rw [c1]; decide) (by rw [c1]; decide) (off := 47) (t := 48) (by rw [c1]; rfl) (by decide) ?_
    refine gv_seg ok_X10_count 5 3 (Ps := []) (pc' := 55) (ls' := [.ref 0, .int x1]) (st' := [.int (M 12 5)]) (M2 := M) rfl trivial ?_
    exact gv_retI (gl_dec ok_X10_count 8 55 (.ireturn) 1 rfl) rfl h
  by_cases c2 : x1 = 2
  · replace h := h.2.2.1 c2
    refine gv_table hd (by rw [c2]; decide) (by rw [c2]; decide) (off := 55) (t := 56) (by rw [c2]; rfl) (by decide) ?_
    refine gv_seg ok_X10_count 9 3 (Ps := []) (pc' := 63) (ls' := [.ref 0, .int x1]) (st' := [.int (M 20 1)]) (M2 := M) rfl trivial ?_
    exact gv_retI (gl_dec ok_X10_count 12 63 (.ireturn) 1 rfl) rfl h
  by_cases c3 : x1 = 3
  · replace h := h.2.2.2.1 c3
    refine gv_table hd (by rw [c3]; decide) (by rw [c3]; decide) (off := 63) (t := 64) (by rw [c3]; rfl) (by decide) ?_
    refine gv_seg ok_X10_count 13 3 (Ps := []) (pc' := 71) (ls' := [.ref 0, .int x1]) (st' := [.int (M 29 2)]) (M2 := M) rfl trivial ?_
    exact gv_retI (gl_dec ok_X10_count 16 71 (.ireturn) 1 rfl) rfl h
  by_cases c4 : x1 = 4
  · replace h := h.2.2.2.2.1 c4
    refine gv_table hd (by rw [c4]; decide) (by rw [c4]; decide) (off := 71) (t := 72) (by rw [c4]; rfl) (by decide) ?_
    refine gv_seg ok_X10_count 17 3 (Ps := []) (pc' := 79) (ls' := [.ref 0, .int x1]) (st' := [.int (M 1 1)]) (M2 := M) rfl trivial ?_
    exact gv_retI (gl_dec ok_X10_count 20 79 (.ireturn) 1 rfl) rfl h
  by_cases c5 : x1 = 5
  · replace h := h.2.2.2.2.2.1 c5
    refine gv_table hd (by rw [c5]; decide) (by rw [c5]; decide) (off := 79) (t := 80) (by rw [c5]; rfl) (by decide) ?_
    refine gv_seg ok_X10_count 21 3 (Ps := []) (pc' := 87) (ls' := [.ref 0, .int x1]) (st' := [.int (M 22 2)]) (M2 := M) rfl trivial ?_
    exact gv_retI (gl_dec ok_X10_count 24 87 (.ireturn) 1 rfl) rfl h
  replace h := h.2.2.2.2.2.2 c0 c1 c2 c3 c4 c5
  refine gv_tableD hd (gl_swout 6 (by decide) (by intro i hi; rcases (show i = 0 ∨ i = 1 ∨ i = 2 ∨ i = 3 ∨ i = 4 ∨ i = 5 by omega) with rfl | rfl | rfl | rfl | rfl | rfl <;> assumption)) (t := 88) (by decide) ?_
  refine gv_seg ok_X10_count 25 1 (Ps := []) (pc' := 89) (ls' := [.ref 0, .int x1]) (st' := [.int (-1)]) (M2 := M) rfl trivial ?_
  exact gv_retI (gl_dec ok_X10_count 26 89 (.ireturn) 1 rfl) rfl h
theorem e_X10_count (l : Launch) (sc : Nat × (Nat → Int32)) (M : gl_N) (Q : Option Value → gl_N → Prop) (x1 : Int32)
  (h : (x1 = 0 → Q (some (.int (M 12 0))) M) ∧ (x1 = 1 → Q (some (.int (M 12 5))) M) ∧ (x1 = 2 → Q (some (.int (M 20 1))) M) ∧ (x1 = 3 → Q (some (.int (M 29 2))) M) ∧ (x1 = 4 → Q (some (.int (M 1 1))) M) ∧ (x1 = 5 → Q (some (.int (M 22 2))) M) ∧ (¬ x1 = 0 → ¬ x1 = 1 → ¬ x1 = 2 → ¬ x1 = 3 → ¬ x1 = 4 → ¬ x1 = 5 → Q (some (.int (-1))) M)) : gr l sc m_X10_count [.ref 0, .int x1] M Q :=
  gr_of (by decide +kernel) (Nat.le_of_ble_eq_true rfl) (List.forall_mem_cons.mpr ⟨rfl, (List.forall_mem_cons.mpr ⟨rfl, (fun _ h => absurd h List.not_mem_nil)⟩)⟩) (w_X10_count_0 l sc M Q x1 h)
set_option maxHeartbeats 400000 in
set_option maxRecDepth 20000 in
theorem w_X10_fitOf_0 (l : Launch) (sc : Nat × (Nat → Int32)) (M : gl_N) (Q : Option Value → gl_N → Prop) (x1 : Int32)
  (h : gv l sc m_X10_fitOf 4 [.ref 0, .int x1, .int 0, .int 0] [] M Q) : gv l sc m_X10_fitOf 0 [.ref 0, .int x1, .float 0, .float 0] [] M Q := by
  refine gv_seg ok_X10_fitOf 0 4 (Ps := []) (pc' := 4) (ls' := [.ref 0, .int x1, .int 0, .int 0]) (st' := []) (M2 := M) rfl trivial ?_
  exact h
theorem e_X10_fitOf (l : Launch) (sc : Nat × (Nat → Int32)) (M : gl_N) (Q : Option Value → gl_N → Prop) (x1 : Int32)
  (h : gv l sc m_X10_fitOf 4 [.ref 0, .int x1, .int 0, .int 0] [] M Q) : gr l sc m_X10_fitOf [.ref 0, .int x1] M Q :=
  gr_of (by decide +kernel) (Nat.le_of_ble_eq_true rfl) (List.forall_mem_cons.mpr ⟨rfl, (List.forall_mem_cons.mpr ⟨rfl, (fun _ h => absurd h List.not_mem_nil)⟩)⟩) (w_X10_fitOf_0 l sc M Q x1 h)
set_option maxHeartbeats 400000 in
set_option maxRecDepth 20000 in
theorem w_X10_fitOf_4 (l : Launch) (sc : Nat × (Nat → Int32)) (M : gl_N) (Q : Option Value → gl_N → Prop) (x1 x2 x3 : Int32)
  (h : ((M 20 1) ≤ x3 → Q (some (.int x2)) M) ∧ (¬ (M 20 1) ≤ x3 → (vp_in x3 16) ∧ (gr l sc m_X0_partsWith [.ref 12, .int x1, .int (M 21 (Int32.toNatClampNeg x3))] M (fun r1 M2 => ∃ v3 : Int32, r1 = some (.int v3) ∧ ((v3 ≤ 0 → gv l sc m_X10_fitOf 4 [.ref 0, .int x1, .int x2, .int (x3 + 1)] [] M2 Q) ∧ (¬ v3 ≤ 0 → gv l sc m_X10_fitOf 4 [.ref 0, .int x1, .int (x2 + 1), .int (x3 + 1)] [] M2 Q)))))) : gv l sc m_X10_fitOf 4 [.ref 0, .int x1, .int x2, .int x3] [] M Q := by
  refine gv_seg ok_X10_fitOf 4 4 (Ps := []) (pc' := 12) (ls' := [.ref 0, .int x1, .int x2, .int x3]) (st' := [.int (M 20 1), .int x3]) (M2 := M) rfl trivial ?_
  refine gv_icmp_ge (t := 44) (by decide) (gl_dec ok_X10_fitOf 8 12 (.if_icmp .ge 32) 3 rfl) (fun c => ?_) (fun c => ?_)
  · replace h := h.1 c
    refine gv_seg ok_X10_fitOf 22 1 (Ps := []) (pc' := 45) (ls' := [.ref 0, .int x1, .int x2, .int x3]) (st' := [.int x2]) (M2 := M) rfl trivial ?_
    exact gv_retI (gl_dec ok_X10_fitOf 23 45 (.ireturn) 1 rfl) rfl h
  · replace h := h.2 c
    obtain ⟨hp, h⟩ := h
    refine gv_seg ok_X10_fitOf 9 8 (Ps := [vp_in x3 16]) (pc' := 29) (ls' := [.ref 0, .int x1, .int x2, .int x3]) (st' := [.int (M 21 (Int32.toNatClampNeg x3)), .int x1, .ref 12]) (M2 := M) rfl hp ?_
    refine gv_vcall (M' := m_X0_partsWith) (o := 12) (ci := 0) (As := [.int x1, .int (M 21 (Int32.toNatClampNeg x3))]) (st := []) (gl_dec ok_X10_fitOf 17 29 (.invokevirtual 171) 3 rfl) (gl_lnk ok_X10_fitOf 17 rfl rfl) mw_X0_partsWith iw_X0_partsWith lw_X0_partsWith ⟨by decide, by decide⟩ rfl rfl rfl ⟨rfl, Nat.le_of_ble_eq_true rfl⟩ h (fun r1 M2 hq => ?_)
    obtain ⟨v3, rfl, h⟩ := hq
    change gv l sc m_X10_fitOf 32 [.ref 0, .int x1, .int x2, .int x3] [.int v3] M2 Q
    refine gv_if_le (t := 38) (by decide) (gl_dec ok_X10_fitOf 18 32 (.ifCond .le 6) 3 rfl) (fun c => ?_) (fun c => ?_)
    · replace h := h.1 c
      refine gv_seg ok_X10_fitOf 20 1 (Ps := []) (pc' := 41) (ls' := [.ref 0, .int x1, .int x2, .int (x3 + 1)]) (st' := []) (M2 := M2) rfl trivial ?_
      refine gv_goto (t := 4) (by decide) (gl_dec ok_X10_fitOf 21 41 (.goto (-37)) 3 rfl) ?_
      exact h
    · replace h := h.2 c
      refine gv_seg ok_X10_fitOf 19 2 (Ps := []) (pc' := 41) (ls' := [.ref 0, .int x1, .int (x2 + 1), .int (x3 + 1)]) (st' := []) (M2 := M2) rfl trivial ?_
      refine gv_goto (t := 4) (by decide) (gl_dec ok_X10_fitOf 21 41 (.goto (-37)) 3 rfl) ?_
      exact h
set_option maxHeartbeats 400000 in
set_option maxRecDepth 20000 in
theorem w_X10_within_0 (l : Launch) (sc : Nat × (Nat → Int32)) (M : gl_N) (Q : Option Value → gl_N → Prop) (x0 x1 x2 : Int32)
  (h : (x0 < x1 → Q (some (.int 0)) M) ∧ (¬ x0 < x1 → (x2 < x0 → Q (some (.int 0)) M) ∧ (¬ x2 < x0 → Q (some (.int 1)) M))) : gv l sc m_X10_within 0 [.int x0, .int x1, .int x2] [] M Q := by
  refine gv_seg ok_X10_within 0 2 (Ps := []) (pc' := 2) (ls' := [.int x0, .int x1, .int x2]) (st' := [.int x1, .int x0]) (M2 := M) rfl trivial ?_
  refine gv_icmp_lt (t := 14) (by decide) (gl_dec ok_X10_within 2 2 (.if_icmp .lt 12) 3 rfl) (fun c => ?_) (fun c => ?_)
  · replace h := h.1 c
    refine gv_seg ok_X10_within 8 1 (Ps := []) (pc' := 15) (ls' := [.int x0, .int x1, .int x2]) (st' := [.int 0]) (M2 := M) rfl trivial ?_
    exact gv_retZ (gl_dec ok_X10_within 9 15 (.ireturn) 1 rfl) rfl (by decide) h
  · replace h := h.2 c
    refine gv_seg ok_X10_within 3 2 (Ps := []) (pc' := 7) (ls' := [.int x0, .int x1, .int x2]) (st' := [.int x2, .int x0]) (M2 := M) rfl trivial ?_
    refine gv_icmp_gt (t := 14) (by decide) (gl_dec ok_X10_within 5 7 (.if_icmp .gt 7) 3 rfl) (fun c => ?_) (fun c => ?_)
    · replace h := h.1 c
      refine gv_seg ok_X10_within 8 1 (Ps := []) (pc' := 15) (ls' := [.int x0, .int x1, .int x2]) (st' := [.int 0]) (M2 := M) rfl trivial ?_
      exact gv_retZ (gl_dec ok_X10_within 9 15 (.ireturn) 1 rfl) rfl (by decide) h
    · replace h := h.2 c
      refine gv_seg ok_X10_within 6 1 (Ps := []) (pc' := 11) (ls' := [.int x0, .int x1, .int x2]) (st' := [.int 1]) (M2 := M) rfl trivial ?_
      refine gv_goto (t := 15) (by decide) (gl_dec ok_X10_within 7 11 (.goto 4) 3 rfl) ?_
      exact gv_retZ (gl_dec ok_X10_within 9 15 (.ireturn) 1 rfl) rfl (by decide) h
theorem e_X10_within (l : Launch) (sc : Nat × (Nat → Int32)) (M : gl_N) (Q : Option Value → gl_N → Prop) (x0 x1 x2 : Int32)
  (h : (x0 < x1 → Q (some (.int 0)) M) ∧ (¬ x0 < x1 → (x2 < x0 → Q (some (.int 0)) M) ∧ (¬ x2 < x0 → Q (some (.int 1)) M))) : gr l sc m_X10_within [.int x0, .int x1, .int x2] M Q :=
  gr_of (by decide +kernel) (Nat.le_of_ble_eq_true rfl) (List.forall_mem_cons.mpr ⟨rfl, (List.forall_mem_cons.mpr ⟨rfl, (List.forall_mem_cons.mpr ⟨rfl, (fun _ h => absurd h List.not_mem_nil)⟩)⟩)⟩) (w_X10_within_0 l sc M Q x0 x1 x2 h)
set_option maxHeartbeats 400000 in
set_option maxRecDepth 20000 in
theorem w_X10_spotOf_0 (l : Launch) (sc : Nat × (Nat → Int32)) (M : gl_N) (Q : Option Value → gl_N → Prop) (x0 x1 : Int32)
  (h : Q (some (.int ((x0 * 4) + x1))) M) : gv l sc m_X10_spotOf 0 [.int x0, .int x1] [] M Q := by
  refine gv_seg ok_X10_spotOf 0 5 (Ps := []) (pc' := 5) (ls' := [.int x0, .int x1]) (st' := [.int ((x0 * 4) + x1)]) (M2 := M) rfl trivial ?_
  exact gv_retI (gl_dec ok_X10_spotOf 5 5 (.ireturn) 1 rfl) rfl h
theorem e_X10_spotOf (l : Launch) (sc : Nat × (Nat → Int32)) (M : gl_N) (Q : Option Value → gl_N → Prop) (x0 x1 : Int32)
  (h : Q (some (.int ((x0 * 4) + x1))) M) : gr l sc m_X10_spotOf [.int x0, .int x1] M Q :=
  gr_of (by decide +kernel) (Nat.le_of_ble_eq_true rfl) (List.forall_mem_cons.mpr ⟨rfl, (List.forall_mem_cons.mpr ⟨rfl, (fun _ h => absurd h List.not_mem_nil)⟩)⟩) (w_X10_spotOf_0 l sc M Q x0 x1 h)
set_option maxHeartbeats 400000 in
set_option maxRecDepth 20000 in
theorem w_X10_scaleOfSpot_0 (l : Launch) (sc : Nat × (Nat → Int32)) (M : gl_N) (Q : Option Value → gl_N → Prop) (x0 : Int32)
  (h : Q (some (.int (x0 / 4))) M) : gv l sc m_X10_scaleOfSpot 0 [.int x0] [] M Q := by
  refine gv_seg ok_X10_scaleOfSpot 0 3 (Ps := [¬ (4 : Int32) = 0]) (pc' := 3) (ls' := [.int x0]) (st' := [.int (x0 / 4)]) (M2 := M) rfl (show ¬ (4 : Int32) = 0 by decide) ?_
  exact gv_retI (gl_dec ok_X10_scaleOfSpot 3 3 (.ireturn) 1 rfl) rfl h
theorem e_X10_scaleOfSpot (l : Launch) (sc : Nat × (Nat → Int32)) (M : gl_N) (Q : Option Value → gl_N → Prop) (x0 : Int32)
  (h : Q (some (.int (x0 / 4))) M) : gr l sc m_X10_scaleOfSpot [.int x0] M Q :=
  gr_of (by decide +kernel) (Nat.le_of_ble_eq_true rfl) (List.forall_mem_cons.mpr ⟨rfl, (fun _ h => absurd h List.not_mem_nil)⟩) (w_X10_scaleOfSpot_0 l sc M Q x0 h)
set_option maxHeartbeats 400000 in
set_option maxRecDepth 20000 in
theorem w_X10_partOfSpot_0 (l : Launch) (sc : Nat × (Nat → Int32)) (M : gl_N) (Q : Option Value → gl_N → Prop) (x0 : Int32)
  (h : Q (some (.int (x0 - x0 / 4 * 4))) M) : gv l sc m_X10_partOfSpot 0 [.int x0] [] M Q := by
  refine gv_seg ok_X10_partOfSpot 0 3 (Ps := [¬ (4 : Int32) = 0]) (pc' := 3) (ls' := [.int x0]) (st' := [.int (x0 - x0 / 4 * 4)]) (M2 := M) rfl (show ¬ (4 : Int32) = 0 by decide) ?_
  exact gv_retI (gl_dec ok_X10_partOfSpot 3 3 (.ireturn) 1 rfl) rfl h
theorem e_X10_partOfSpot (l : Launch) (sc : Nat × (Nat → Int32)) (M : gl_N) (Q : Option Value → gl_N → Prop) (x0 : Int32)
  (h : Q (some (.int (x0 - x0 / 4 * 4))) M) : gr l sc m_X10_partOfSpot [.int x0] M Q :=
  gr_of (by decide +kernel) (Nat.le_of_ble_eq_true rfl) (List.forall_mem_cons.mpr ⟨rfl, (fun _ h => absurd h List.not_mem_nil)⟩) (w_X10_partOfSpot_0 l sc M Q x0 h)

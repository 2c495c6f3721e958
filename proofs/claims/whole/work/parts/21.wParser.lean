set_option maxHeartbeats 400000 in
set_option maxRecDepth 20000 in
theorem w_X1_refresh_0 (l : Launch) (sc : Nat × (Nat → Int32)) (M : gl_N) (Q : Option Value → gl_N → Prop)
  (h : (¬ (M 35 10) = (M 20 2) → gv l sc m_X1_refresh 36 [.ref 35, .int ((M 20 1) - 1)] [] (gl_u2 M 35 10 (M 20 2)) Q) ∧ ((M 35 10) = (M 20 2) → Q none M)) : gv l sc m_X1_refresh 0 [.ref 35, .float 0] [] M Q := by
  refine gv_seg ok_X1_refresh 0 5 (Ps := []) (pc' := 11) (ls' := [.ref 35, .float 0]) (st' := [.int (M 20 2), .int (M 35 10)]) (M2 := M) rfl trivial ?_
  refine gv_icmp_ne (t := 15) (by decide) (gl_dec ok_X1_refresh 5 11 (.if_icmp .ne 4) 3 rfl) (fun c => ?_) (fun c => ?_)
  · replace h := h.1 c
    refine gv_seg ok_X1_refresh 7 11 (Ps := []) (pc' := 36) (ls' := [.ref 35, .int ((M 20 1) - 1)]) (st' := []) (M2 := (gl_u2 M 35 10 (M 20 2))) rfl trivial ?_
    exact h
  · replace h := h.2 c
    exact gv_retV (gl_dec ok_X1_refresh 6 14 (.return_) 1 rfl) rfl h
theorem e_X1_refresh (l : Launch) (sc : Nat × (Nat → Int32)) (M : gl_N) (Q : Option Value → gl_N → Prop)
  (h : (¬ (M 35 10) = (M 20 2) → gv l sc m_X1_refresh 36 [.ref 35, .int ((M 20 1) - 1)] [] (gl_u2 M 35 10 (M 20 2)) Q) ∧ ((M 35 10) = (M 20 2) → Q none M)) : gr l sc m_X1_refresh [.ref 35] M Q :=
  gr_of (by decide +kernel) (Nat.le_of_ble_eq_true rfl) (List.forall_mem_cons.mpr ⟨rfl, (fun _ h => absurd h List.not_mem_nil)⟩) (w_X1_refresh_0 l sc M Q h)
set_option maxHeartbeats 400000 in
set_option maxRecDepth 20000 in
theorem w_X1_refresh_36 (l : Launch) (sc : Nat × (Nat → Int32)) (M : gl_N) (Q : Option Value → gl_N → Prop) (x1 : Int32)
  (h : (x1 < 0 → gr l sc m_X1_choose [.ref 35] M (fun r1 M2 => r1 = none ∧ (((M2 35 6) = 0 → gr l sc m_X3_longest [.ref 39] M2 (fun r3 M4 => ∃ v5 : Int32, r3 = some (.int v5) ∧ (Q none (gl_u2 M4 35 9 v5)))) ∧ (¬ (M2 35 6) = 0 → Q none (gl_u2 M2 35 9 (M2 20 1)))))) ∧ (¬ x1 < 0 → gr l sc m_X1_measureEntries [.ref 35, .int (x1 + 1)] M (fun r6 M7 => r6 = none ∧ (gr l sc m_X1_measureRests [.ref 35, .int x1] M7 (fun r8 M9 => r8 = none ∧ (gv l sc m_X1_refresh 36 [.ref 35, .int (x1 + (-1))] [] M9 Q)))))) : gv l sc m_X1_refresh 36 [.ref 35, .int x1] [] M Q := by
  refine gv_seg ok_X1_refresh 18 1 (Ps := []) (pc' := 37) (ls' := [.ref 35, .int x1]) (st' := [.int x1]) (M2 := M) rfl trivial ?_
  refine gv_if_lt (t := 58) (by decide) (gl_dec ok_X1_refresh 19 37 (.ifCond .lt 21) 3 rfl) (fun c => ?_) (fun c => ?_)
  · replace h := h.1 c
    refine gv_seg ok_X1_refresh 30 1 (Ps := []) (pc' := 59) (ls' := [.ref 35, .int x1]) (st' := [.ref 35]) (M2 := M) rfl trivial ?_
    refine gv_vcall (M' := m_X1_choose) (o := 35) (ci := 1) (As := []) (st := []) (gl_dec ok_X1_refresh 31 59 (.invokevirtual 70) 3 rfl) (gl_lnk ok_X1_refresh 31 rfl rfl) mw_X1_choose iw_X1_choose lw_X1_choose ⟨by decide, by decide⟩ rfl rfl rfl ⟨rfl, Nat.le_of_ble_eq_true rfl⟩ h (fun r1 M2 hq => ?_)
    obtain ⟨rfl, h⟩ := hq
    change gv l sc m_X1_refresh 62 [.ref 35, .int x1] [] M2 Q
    refine gv_seg ok_X1_refresh 32 3 (Ps := []) (pc' := 67) (ls' := [.ref 35, .int x1]) (st' := [.int (M2 35 6), .ref 35]) (M2 := M2) rfl trivial ?_
    refine gv_if_eq (t := 80) (by decide) (gl_dec ok_X1_refresh 35 67 (.ifCond .eq 13) 3 rfl) (fun c => ?_) (fun c => ?_)
    · replace h := h.1 c
      refine gv_seg ok_X1_refresh 40 2 (Ps := []) (pc' := 84) (ls' := [.ref 35, .int x1]) (st' := [.ref 39, .ref 35]) (M2 := M2) rfl trivial ?_
      refine gv_vcall (M' := m_X3_longest) (o := 39) (ci := 3) (As := []) (st := [.ref 35]) (gl_dec ok_X1_refresh 42 84 (.invokevirtual 73) 3 rfl) (gl_lnk ok_X1_refresh 42 rfl rfl) mw_X3_longest iw_X3_longest lw_X3_longest ⟨by decide, by decide⟩ rfl rfl rfl ⟨rfl, Nat.le_of_ble_eq_true rfl⟩ h (fun r3 M4 hq => ?_)
      obtain ⟨v5, rfl, h⟩ := hq
      change gv l sc m_X1_refresh 87 [.ref 35, .int x1] [.int v5, .ref 35] M4 Q
      refine gv_seg ok_X1_refresh 43 1 (Ps := []) (pc' := 90) (ls' := [.ref 35, .int x1]) (st' := []) (M2 := (gl_u2 M4 35 9 v5)) rfl trivial ?_
      exact gv_retV (gl_dec ok_X1_refresh 44 90 (.return_) 1 rfl) rfl h
    · replace h := h.2 c
      refine gv_seg ok_X1_refresh 36 3 (Ps := []) (pc' := 77) (ls' := [.ref 35, .int x1]) (st' := [.int (M2 20 1), .ref 35]) (M2 := M2) rfl trivial ?_
      refine gv_goto (t := 87) (by decide) (gl_dec ok_X1_refresh 39 77 (.goto 10) 3 rfl) ?_
      refine gv_seg ok_X1_refresh 43 1 (Ps := []) (pc' := 90) (ls' := [.ref 35, .int x1]) (st' := []) (M2 := (gl_u2 M2 35 9 (M2 20 1))) rfl trivial ?_
      exact gv_retV (gl_dec ok_X1_refresh 44 90 (.return_) 1 rfl) rfl h
  · replace h := h.2 c
    refine gv_seg ok_X1_refresh 20 4 (Ps := []) (pc' := 44) (ls' := [.ref 35, .int x1]) (st' := [.int (x1 + 1), .ref 35]) (M2 := M) rfl trivial ?_
    refine gv_vcall (M' := m_X1_measureEntries) (o := 35) (ci := 1) (As := [.int (x1 + 1)]) (st := []) (gl_dec ok_X1_refresh 24 44 (.invokevirtual 63) 3 rfl) (gl_lnk ok_X1_refresh 24 rfl rfl) mw_X1_measureEntries iw_X1_measureEntries lw_X1_measureEntries ⟨by decide, by decide⟩ rfl rfl rfl ⟨rfl, Nat.le_of_ble_eq_true rfl⟩ h (fun r6 M7 hq => ?_)
    obtain ⟨rfl, h⟩ := hq
    change gv l sc m_X1_refresh 47 [.ref 35, .int x1] [] M7 Q
    refine gv_seg ok_X1_refresh 25 2 (Ps := []) (pc' := 49) (ls' := [.ref 35, .int x1]) (st' := [.int x1, .ref 35]) (M2 := M7) rfl trivial ?_
    refine gv_vcall (M' := m_X1_measureRests) (o := 35) (ci := 1) (As := [.int x1]) (st := []) (gl_dec ok_X1_refresh 27 49 (.invokevirtual 67) 3 rfl) (gl_lnk ok_X1_refresh 27 rfl rfl) mw_X1_measureRests iw_X1_measureRests lw_X1_measureRests ⟨by decide, by decide⟩ rfl rfl rfl ⟨rfl, Nat.le_of_ble_eq_true rfl⟩ h (fun r8 M9 hq => ?_)
    obtain ⟨rfl, h⟩ := hq
    change gv l sc m_X1_refresh 52 [.ref 35, .int x1] [] M9 Q
    refine gv_seg ok_X1_refresh 28 1 (Ps := []) (pc' := 55) (ls' := [.ref 35, .int (x1 + (-1))]) (st' := []) (M2 := M9) rfl trivial ?_
    refine gv_goto (t := 36) (by decide) (gl_dec ok_X1_refresh 29 55 (.goto (-19)) 3 rfl) ?_
    exact h
set_option maxHeartbeats 400000 in
set_option maxRecDepth 20000 in
theorem w_X1_restAt_0 (l : Launch) (sc : Nat × (Nat → Int32)) (M : gl_N) (Q : Option Value → gl_N → Prop) (x1 x2 : Int32)
  (h : (vp_in ((x1 * 576) + x2) 9216) ∧ (Q (some (.int (M 36 (Int32.toNatClampNeg ((x1 * 576) + x2))))) M)) : gv l sc m_X1_restAt 0 [.ref 35, .int x1, .int x2] [] M Q := by
  obtain ⟨hp, h⟩ := h
  refine gv_seg ok_X1_restAt 0 8 (Ps := [vp_in ((x1 * 576) + x2) 9216]) (pc' := 12) (ls' := [.ref 35, .int x1, .int x2]) (st' := [.int (M 36 (Int32.toNatClampNeg ((x1 * 576) + x2)))]) (M2 := M) rfl hp ?_
  exact gv_retI (gl_dec ok_X1_restAt 8 12 (.ireturn) 1 rfl) rfl h
theorem e_X1_restAt (l : Launch) (sc : Nat × (Nat → Int32)) (M : gl_N) (Q : Option Value → gl_N → Prop) (x1 x2 : Int32)
  (h : (vp_in ((x1 * 576) + x2) 9216) ∧ (Q (some (.int (M 36 (Int32.toNatClampNeg ((x1 * 576) + x2))))) M)) : gr l sc m_X1_restAt [.ref 35, .int x1, .int x2] M Q :=
  gr_of (by decide +kernel) (Nat.le_of_ble_eq_true rfl) (List.forall_mem_cons.mpr ⟨rfl, (List.forall_mem_cons.mpr ⟨rfl, (List.forall_mem_cons.mpr ⟨rfl, (fun _ h => absurd h List.not_mem_nil)⟩)⟩)⟩) (w_X1_restAt_0 l sc M Q x1 x2 h)
set_option maxHeartbeats 400000 in
set_option maxRecDepth 20000 in
theorem w_X1_measureEntries_0 (l : Launch) (sc : Nat × (Nat → Int32)) (M : gl_N) (Q : Option Value → gl_N → Prop) (x1 : Int32)
  (h : (x1 < (M 20 1) → gr l sc m_J_fill [.ref 37, .int 1000000] M (fun r1 M2 => r1 = none ∧ (gv l sc m_X1_measureEntries 23 [.ref 35, .int x1, .int 0, .float 0, .float 0] [] M2 Q))) ∧ (¬ x1 < (M 20 1) → Q none M)) : gv l sc m_X1_measureEntries 0 [.ref 35, .int x1, .float 0, .float 0, .float 0] [] M Q := by
  refine gv_seg ok_X1_measureEntries 0 4 (Ps := []) (pc' := 8) (ls' := [.ref 35, .int x1, .float 0, .float 0, .float 0]) (st' := [.int (M 20 1), .int x1]) (M2 := M) rfl trivial ?_
  refine gv_icmp_lt (t := 12) (by decide) (gl_dec ok_X1_measureEntries 4 8 (.if_icmp .lt 4) 3 rfl) (fun c => ?_) (fun c => ?_)
  · replace h := h.1 c
    refine gv_seg ok_X1_measureEntries 6 3 (Ps := []) (pc' := 18) (ls' := [.ref 35, .int x1, .float 0, .float 0, .float 0]) (st' := [.int 1000000, .ref 37]) (M2 := M) rfl trivial ?_
    refine gv_scall (M' := m_J_fill) (As := [.ref 37, .int 1000000]) (st := []) (gl_dec ok_X1_measureEntries 9 18 (.invokestatic 78) 3 rfl) (gl_lnkS ok_X1_measureEntries 9 rfl rfl) mw_J_fill sw_J_fill ⟨by decide, by decide⟩ ⟨rfl, Nat.le_of_ble_eq_true rfl⟩ h (fun r1 M2 hq => ?_)
    obtain ⟨rfl, h⟩ := hq
    change gv l sc m_X1_measureEntries 21 [.ref 35, .int x1, .float 0, .float 0, .float 0] [] M2 Q
    refine gv_seg ok_X1_measureEntries 10 2 (Ps := []) (pc' := 23) (ls' := [.ref 35, .int x1, .int 0, .float 0, .float 0]) (st' := []) (M2 := M2) rfl trivial ?_
    exact h
  · replace h := h.2 c
    exact gv_retV (gl_dec ok_X1_measureEntries 5 11 (.return_) 1 rfl) rfl h
theorem e_X1_measureEntries (l : Launch) (sc : Nat × (Nat → Int32)) (M : gl_N) (Q : Option Value → gl_N → Prop) (x1 : Int32)
  (h : (x1 < (M 20 1) → gr l sc m_J_fill [.ref 37, .int 1000000] M (fun r1 M2 => r1 = none ∧ (gv l sc m_X1_measureEntries 23 [.ref 35, .int x1, .int 0, .float 0, .float 0] [] M2 Q))) ∧ (¬ x1 < (M 20 1) → Q none M)) : gr l sc m_X1_measureEntries [.ref 35, .int x1] M Q :=
  gr_of (by decide +kernel) (Nat.le_of_ble_eq_true rfl) (List.forall_mem_cons.mpr ⟨rfl, (List.forall_mem_cons.mpr ⟨rfl, (fun _ h => absurd h List.not_mem_nil)⟩)⟩) (w_X1_measureEntries_0 l sc M Q x1 h)
set_option maxHeartbeats 400000 in
set_option maxRecDepth 20000 in
theorem w_X1_measureEntries_23 (l : Launch) (sc : Nat × (Nat → Int32)) (M : gl_N) (Q : Option Value → gl_N → Prop) (x1 x2 : Int32)
  (h : gr l sc m_X0_scaleCount [.ref 12] M (fun r1 M2 => ∃ v3 : Int32, r1 = some (.int v3) ∧ ((v3 ≤ x2 → Q none M2) ∧ (¬ v3 ≤ x2 → gv l sc m_X1_measureEntries 36 [.ref 35, .int x1, .int x2, .int 0, .float 0] [] M2 Q)))) : gv l sc m_X1_measureEntries 23 [.ref 35, .int x1, .int x2, .float 0, .float 0] [] M Q := by
  refine gv_seg ok_X1_measureEntries 12 3 (Ps := []) (pc' := 28) (ls' := [.ref 35, .int x1, .int x2, .float 0, .float 0]) (st' := [.ref 12, .int x2]) (M2 := M) rfl trivial ?_
  refine gv_vcall (M' := m_X0_scaleCount) (o := 12) (ci := 0) (As := []) (st := [.int x2]) (gl_dec ok_X1_measureEntries 15 28 (.invokevirtual 84) 3 rfl) (gl_lnk ok_X1_measureEntries 15 rfl rfl) mw_X0_scaleCount iw_X0_scaleCount lw_X0_scaleCount ⟨by decide, by decide⟩ rfl rfl rfl ⟨rfl, Nat.le_of_ble_eq_true rfl⟩ h (fun r1 M2 hq => ?_)
  obtain ⟨v3, rfl, h⟩ := hq
  change gv l sc m_X1_measureEntries 31 [.ref 35, .int x1, .int x2, .float 0, .float 0] [.int v3, .int x2] M2 Q
  refine gv_icmp_ge (t := 98) (by decide) (gl_dec ok_X1_measureEntries 16 31 (.if_icmp .ge 67) 3 rfl) (fun c => ?_) (fun c => ?_)
  · replace h := h.1 c
    exact gv_retV (gl_dec ok_X1_measureEntries 50 98 (.return_) 1 rfl) rfl h
  · replace h := h.2 c
    refine gv_seg ok_X1_measureEntries 17 2 (Ps := []) (pc' := 36) (ls' := [.ref 35, .int x1, .int x2, .int 0, .float 0]) (st' := []) (M2 := M2) rfl trivial ?_
    exact h
set_option maxHeartbeats 400000 in
set_option maxRecDepth 20000 in
theorem w_X1_measureEntries_36 (l : Launch) (sc : Nat × (Nat → Int32)) (M : gl_N) (Q : Option Value → gl_N → Prop) (x1 x2 x3 : Int32)
  (h : gr l sc m_X0_partsOf [.ref 12, .int x2] M (fun r1 M2 => ∃ v3 : Int32, r1 = some (.int v3) ∧ ((v3 ≤ x3 → gv l sc m_X1_measureEntries 23 [.ref 35, .int x1, .int (x2 + 1), .float 0, .float 0] [] M2 Q) ∧ (¬ v3 ≤ x3 → gr l sc m_X0_placedCell [.ref 12, .int x2, .int x3] M2 (fun r4 M5 => ∃ v6 : Int32, r4 = some (.int v6) ∧ ((vp_in v6 486) ∧ (gr l sc m_X10_spotOf [.int x2, .int x3] M5 (fun r7 M8 => ∃ v9 : Int32, r7 = some (.int v9) ∧ (gr l sc m_X1_restAt [.ref 35, .int x1, .int v9] M8 (fun r10 M11 => ∃ v12 : Int32, r10 = some (.int v12) ∧ ((vp_in v6 486) ∧ (gv l sc m_X1_measureEntries 36 [.ref 35, .int x1, .int x2, .int (x3 + 1), .float 0] [] (gl_u2 M11 37 (Int32.toNatClampNeg v6) (if v12 < (M5 37 (Int32.toNatClampNeg v6)) then v12 else (M5 37 (Int32.toNatClampNeg v6)))) Q)))))))))))) : gv l sc m_X1_measureEntries 36 [.ref 35, .int x1, .int x2, .int x3, .float 0] [] M Q := by
  refine gv_seg ok_X1_measureEntries 19 4 (Ps := []) (pc' := 42) (ls' := [.ref 35, .int x1, .int x2, .int x3, .float 0]) (st' := [.int x2, .ref 12, .int x3]) (M2 := M) rfl trivial ?_
  refine gv_vcall (M' := m_X0_partsOf) (o := 12) (ci := 0) (As := [.int x2]) (st := [.int x3]) (gl_dec ok_X1_measureEntries 23 42 (.invokevirtual 89) 3 rfl) (gl_lnk ok_X1_measureEntries 23 rfl rfl) mw_X0_partsOf iw_X0_partsOf lw_X0_partsOf ⟨by decide, by decide⟩ rfl rfl rfl ⟨rfl, Nat.le_of_ble_eq_true rfl⟩ h (fun r1 M2 hq => ?_)
  obtain ⟨v3, rfl, h⟩ := hq
  change gv l sc m_X1_measureEntries 45 [.ref 35, .int x1, .int x2, .int x3, .float 0] [.int v3, .int x3] M2 Q
  refine gv_icmp_ge (t := 92) (by decide) (gl_dec ok_X1_measureEntries 24 45 (.if_icmp .ge 47) 3 rfl) (fun c => ?_) (fun c => ?_)
  · replace h := h.1 c
    refine gv_seg ok_X1_measureEntries 48 1 (Ps := []) (pc' := 95) (ls' := [.ref 35, .int x1, .int (x2 + 1), .int x3, .float 0]) (st' := []) (M2 := M2) rfl trivial ?_
    refine gv_goto (t := 23) (by decide) (gl_dec ok_X1_measureEntries 49 95 (.goto (-72)) 3 rfl) ?_
    exact gv_weak (ls' := [.ref 35, .int x1, .int (x2 + 1), .float 0, .float 0]) ⟨Or.inl rfl, ⟨Or.inl rfl, ⟨Or.inl rfl, ⟨Or.inr rfl, ⟨Or.inl rfl, trivial⟩⟩⟩⟩⟩ h
  · replace h := h.2 c
    refine gv_seg ok_X1_measureEntries 25 4 (Ps := []) (pc' := 54) (ls' := [.ref 35, .int x1, .int x2, .int x3, .float 0]) (st' := [.int x3, .int x2, .ref 12]) (M2 := M2) rfl trivial ?_
    refine gv_vcall (M' := m_X0_placedCell) (o := 12) (ci := 0) (As := [.int x2, .int x3]) (st := []) (gl_dec ok_X1_measureEntries 29 54 (.invokevirtual 93) 3 rfl) (gl_lnk ok_X1_measureEntries 29 rfl rfl) mw_X0_placedCell iw_X0_placedCell lw_X0_placedCell ⟨by decide, by decide⟩ rfl rfl rfl ⟨rfl, Nat.le_of_ble_eq_true rfl⟩ h (fun r4 M5 hq => ?_)
    obtain ⟨v6, rfl, h⟩ := hq
    change gv l sc m_X1_measureEntries 57 [.ref 35, .int x1, .int x2, .int x3, .float 0] [.int v6] M5 Q
    obtain ⟨hp, h⟩ := h
    refine gv_seg ok_X1_measureEntries 30 12 (Ps := [vp_in v6 486]) (pc' := 76) (ls' := [.ref 35, .int x1, .int x2, .int x3, .int v6]) (st' := [.int x3, .int x2, .int x1, .ref 35, .int (M5 37 (Int32.toNatClampNeg v6)), .int v6, .ref 37]) (M2 := M5) rfl hp ?_
    refine gv_scall (M' := m_X10_spotOf) (As := [.int x2, .int x3]) (st := [.int x1, .ref 35, .int (M5 37 (Int32.toNatClampNeg v6)), .int v6, .ref 37]) (gl_dec ok_X1_measureEntries 42 76 (.invokestatic 97) 3 rfl) (gl_lnkS ok_X1_measureEntries 42 rfl rfl) mw_X10_spotOf sw_X10_spotOf ⟨by decide, by decide⟩ ⟨rfl, Nat.le_of_ble_eq_true rfl⟩ h (fun r7 M8 hq => ?_)
    obtain ⟨v9, rfl, h⟩ := hq
    change gv l sc m_X1_measureEntries 79 [.ref 35, .int x1, .int x2, .int x3, .int v6] [.int v9, .int x1, .ref 35, .int (M5 37 (Int32.toNatClampNeg v6)), .int v6, .ref 37] M8 Q
    refine gv_vcall (M' := m_X1_restAt) (o := 35) (ci := 1) (As := [.int x1, .int v9]) (st := [.int (M5 37 (Int32.toNatClampNeg v6)), .int v6, .ref 37]) (gl_dec ok_X1_measureEntries 43 79 (.invokevirtual 100) 3 rfl) (gl_lnk ok_X1_measureEntries 43 rfl rfl) mw_X1_restAt iw_X1_restAt lw_X1_restAt ⟨by decide, by decide⟩ rfl rfl rfl ⟨rfl, Nat.le_of_ble_eq_true rfl⟩ h (fun r10 M11 hq => ?_)
    obtain ⟨v12, rfl, h⟩ := hq
    change gv l sc m_X1_measureEntries 82 [.ref 35, .int x1, .int x2, .int x3, .int v6] [.int v12, .int (M5 37 (Int32.toNatClampNeg v6)), .int v6, .ref 37] M11 Q
    obtain ⟨hp, h⟩ := h
    refine gv_seg ok_X1_measureEntries 44 3 (Ps := [vp_in v6 486]) (pc' := 89) (ls' := [.ref 35, .int x1, .int x2, .int (x3 + 1), .int v6]) (st' := []) (M2 := (gl_u2 M11 37 (Int32.toNatClampNeg v6) (if v12 < (M5 37 (Int32.toNatClampNeg v6)) then v12 else (M5 37 (Int32.toNatClampNeg v6))))) rfl hp ?_
    refine gv_goto (t := 36) (by decide) (gl_dec ok_X1_measureEntries 47 89 (.goto (-53)) 3 rfl) ?_
    exact gv_weak (ls' := [.ref 35, .int x1, .int x2, .int (x3 + 1), .float 0]) ⟨Or.inl rfl, ⟨Or.inl rfl, ⟨Or.inl rfl, ⟨Or.inl rfl, ⟨Or.inr rfl, trivial⟩⟩⟩⟩⟩ h
set_option maxHeartbeats 400000 in
set_option maxRecDepth 20000 in
theorem w_X1_measureRests_0 (l : Launch) (sc : Nat × (Nat → Int32)) (M : gl_N) (Q : Option Value → gl_N → Prop) (x1 : Int32)
  (h : (vp_in x1 16) ∧ (gv l sc m_X1_measureRests 12 [.ref 35, .int x1, .int (M 21 (Int32.toNatClampNeg x1)), .int 0, .float 0, .float 0] [] M Q)) : gv l sc m_X1_measureRests 0 [.ref 35, .int x1, .float 0, .float 0, .float 0, .float 0] [] M Q := by
  obtain ⟨hp, h⟩ := h
  refine gv_seg ok_X1_measureRests 0 8 (Ps := [vp_in x1 16]) (pc' := 12) (ls' := [.ref 35, .int x1, .int (M 21 (Int32.toNatClampNeg x1)), .int 0, .float 0, .float 0]) (st' := []) (M2 := M) rfl hp ?_
  exact h
theorem e_X1_measureRests (l : Launch) (sc : Nat × (Nat → Int32)) (M : gl_N) (Q : Option Value → gl_N → Prop) (x1 : Int32)
  (h : (vp_in x1 16) ∧ (gv l sc m_X1_measureRests 12 [.ref 35, .int x1, .int (M 21 (Int32.toNatClampNeg x1)), .int 0, .float 0, .float 0] [] M Q)) : gr l sc m_X1_measureRests [.ref 35, .int x1] M Q :=
  gr_of (by decide +kernel) (Nat.le_of_ble_eq_true rfl) (List.forall_mem_cons.mpr ⟨rfl, (List.forall_mem_cons.mpr ⟨rfl, (fun _ h => absurd h List.not_mem_nil)⟩)⟩) (w_X1_measureRests_0 l sc M Q x1 h)
set_option maxHeartbeats 400000 in
set_option maxRecDepth 20000 in
theorem w_X1_measureRests_12 (l : Launch) (sc : Nat × (Nat → Int32)) (M : gl_N) (Q : Option Value → gl_N → Prop) (x1 x2 x3 : Int32)
  (h : gr l sc m_X0_scaleCount [.ref 12] M (fun r1 M2 => ∃ v3 : Int32, r1 = some (.int v3) ∧ ((v3 ≤ x3 → Q none M2) ∧ (¬ v3 ≤ x3 → gv l sc m_X1_measureRests 26 [.ref 35, .int x1, .int x2, .int x3, .int 0, .float 0] [] M2 Q)))) : gv l sc m_X1_measureRests 12 [.ref 35, .int x1, .int x2, .int x3, .float 0, .float 0] [] M Q := by
  refine gv_seg ok_X1_measureRests 8 3 (Ps := []) (pc' := 17) (ls' := [.ref 35, .int x1, .int x2, .int x3, .float 0, .float 0]) (st' := [.ref 12, .int x3]) (M2 := M) rfl trivial ?_
  refine gv_vcall (M' := m_X0_scaleCount) (o := 12) (ci := 0) (As := []) (st := [.int x3]) (gl_dec ok_X1_measureRests 11 17 (.invokevirtual 84) 3 rfl) (gl_lnk ok_X1_measureRests 11 rfl rfl) mw_X0_scaleCount iw_X0_scaleCount lw_X0_scaleCount ⟨by decide, by decide⟩ rfl rfl rfl ⟨rfl, Nat.le_of_ble_eq_true rfl⟩ h (fun r1 M2 hq => ?_)
  obtain ⟨v3, rfl, h⟩ := hq
  change gv l sc m_X1_measureRests 20 [.ref 35, .int x1, .int x2, .int x3, .float 0, .float 0] [.int v3, .int x3] M2 Q
  refine gv_icmp_ge (t := 113) (by decide) (gl_dec ok_X1_measureRests 12 20 (.if_icmp .ge 93) 3 rfl) (fun c => ?_) (fun c => ?_)
  · replace h := h.1 c
    exact gv_retV (gl_dec ok_X1_measureRests 58 113 (.return_) 1 rfl) rfl h
  · replace h := h.2 c
    refine gv_seg ok_X1_measureRests 13 2 (Ps := []) (pc' := 26) (ls' := [.ref 35, .int x1, .int x2, .int x3, .int 0, .float 0]) (st' := []) (M2 := M2) rfl trivial ?_
    exact h
set_option maxHeartbeats 400000 in
set_option maxRecDepth 20000 in
theorem w_X1_measureRests_26 (l : Launch) (sc : Nat × (Nat → Int32)) (M : gl_N) (Q : Option Value → gl_N → Prop) (x1 x2 x3 x4 : Int32)
  (h : (4 ≤ x4 → gv l sc m_X1_measureRests 12 [.ref 35, .int x1, .int x2, .int (x3 + 1), .float 0, .float 0] [] M Q) ∧ (¬ 4 ≤ x4 → gr l sc m_X0_partsOf [.ref 12, .int x3] M (fun r1 M2 => ∃ v3 : Int32, r1 = some (.int v3) ∧ ((v3 ≤ x4 → gr l sc m_X10_spotOf [.int x3, .int x4] M2 (fun r4 M5 => ∃ v6 : Int32, r4 = some (.int v6) ∧ ((vp_in ((x1 * 576) + v6) 9216) ∧ (gv l sc m_X1_measureRests 26 [.ref 35, .int x1, .int x2, .int x3, .int (x4 + 1), .float 0] [] (gl_u2 M5 36 (Int32.toNatClampNeg ((x1 * 576) + v6)) 1000000) Q)))) ∧ (¬ v3 ≤ x4 → gr l sc m_X0_isIn [.ref 12, .int x3, .int x4, .int x2] M2 (fun r7 M8 => ∃ v9 : Int32, r7 = some (.int v9) ∧ ((v9 = 0 → gr l sc m_X10_spotOf [.int x3, .int x4] M8 (fun r10 M11 => ∃ v12 : Int32, r10 = some (.int v12) ∧ ((vp_in ((x1 * 576) + v12) 9216) ∧ (gv l sc m_X1_measureRests 26 [.ref 35, .int x1, .int x2, .int x3, .int (x4 + 1), .float 0] [] (gl_u2 M11 36 (Int32.toNatClampNeg ((x1 * 576) + v12)) 1000000) Q)))) ∧ (¬ v9 = 0 → gr l sc m_X10_spotOf [.int x3, .int x4] M8 (fun r13 M14 => ∃ v15 : Int32, r13 = some (.int v15) ∧ (gr l sc m_X1_leastRest [.ref 35, .int x1, .int x3, .int x4] M14 (fun r16 M17 => ∃ v18 : Int32, r16 = some (.int v18) ∧ ((vp_in ((x1 * 576) + v15) 9216) ∧ (gv l sc m_X1_measureRests 26 [.ref 35, .int x1, .int x2, .int x3, .int (x4 + 1), .float 0] [] (gl_u2 M17 36 (Int32.toNatClampNeg ((x1 * 576) + v15)) v18) Q))))))))))))) : gv l sc m_X1_measureRests 26 [.ref 35, .int x1, .int x2, .int x3, .int x4, .float 0] [] M Q := by
  refine gv_seg ok_X1_measureRests 15 2 (Ps := []) (pc' := 29) (ls' := [.ref 35, .int x1, .int x2, .int x3, .int x4, .float 0]) (st' := [.int 4, .int x4]) (M2 := M) rfl trivial ?_
  refine gv_icmp_ge (t := 107) (by decide) (gl_dec ok_X1_measureRests 17 29 (.if_icmp .ge 78) 3 rfl) (fun c => ?_) (fun c => ?_)
  · replace h := h.1 c
    refine gv_seg ok_X1_measureRests 56 1 (Ps := []) (pc' := 110) (ls' := [.ref 35, .int x1, .int x2, .int (x3 + 1), .int x4, .float 0]) (st' := []) (M2 := M) rfl trivial ?_
    refine gv_goto (t := 12) (by decide) (gl_dec ok_X1_measureRests 57 110 (.goto (-98)) 3 rfl) ?_
    exact gv_weak (ls' := [.ref 35, .int x1, .int x2, .int (x3 + 1), .float 0, .float 0]) ⟨Or.inl rfl, ⟨Or.inl rfl, ⟨Or.inl rfl, ⟨Or.inl rfl, ⟨Or.inr rfl, ⟨Or.inl rfl, trivial⟩⟩⟩⟩⟩⟩ h
  · replace h := h.2 c
    refine gv_seg ok_X1_measureRests 18 4 (Ps := []) (pc' := 39) (ls' := [.ref 35, .int x1, .int x2, .int x3, .int x4, .float 0]) (st' := [.int x3, .ref 12, .int x4]) (M2 := M) rfl trivial ?_
    refine gv_vcall (M' := m_X0_partsOf) (o := 12) (ci := 0) (As := [.int x3]) (st := [.int x4]) (gl_dec ok_X1_measureRests 22 39 (.invokevirtual 89) 3 rfl) (gl_lnk ok_X1_measureRests 22 rfl rfl) mw_X0_partsOf iw_X0_partsOf lw_X0_partsOf ⟨by decide, by decide⟩ rfl rfl rfl ⟨rfl, Nat.le_of_ble_eq_true rfl⟩ h (fun r1 M2 hq => ?_)
    obtain ⟨v3, rfl, h⟩ := hq
    change gv l sc m_X1_measureRests 42 [.ref 35, .int x1, .int x2, .int x3, .int x4, .float 0] [.int v3, .int x4] M2 Q
    refine gv_icmp_ge (t := 63) (by decide) (gl_dec ok_X1_measureRests 23 42 (.if_icmp .ge 21) 3 rfl) (fun c => ?_) (fun c => ?_)
    · replace h := h.1 c
      refine gv_seg ok_X1_measureRests 33 9 (Ps := []) (pc' := 78) (ls' := [.ref 35, .int x1, .int x2, .int x3, .int x4, .int 0]) (st' := [.int x4, .int x3, .int (x1 * 576), .ref 36]) (M2 := M2) rfl trivial ?_
      refine gv_scall (M' := m_X10_spotOf) (As := [.int x3, .int x4]) (st := [.int (x1 * 576), .ref 36]) (gl_dec ok_X1_measureRests 42 78 (.invokestatic 97) 3 rfl) (gl_lnkS ok_X1_measureRests 42 rfl rfl) mw_X10_spotOf sw_X10_spotOf ⟨by decide, by decide⟩ ⟨rfl, Nat.le_of_ble_eq_true rfl⟩ h (fun r4 M5 hq => ?_)
      obtain ⟨v6, rfl, h⟩ := hq
      change gv l sc m_X1_measureRests 81 [.ref 35, .int x1, .int x2, .int x3, .int x4, .int 0] [.int v6, .int (x1 * 576), .ref 36] M5 Q
      refine gv_seg ok_X1_measureRests 43 2 (Ps := []) (pc' := 84) (ls' := [.ref 35, .int x1, .int x2, .int x3, .int x4, .int 0]) (st' := [.int 0, .int ((x1 * 576) + v6), .ref 36]) (M2 := M5) rfl trivial ?_
      refine gv_if_eq (t := 98) (by decide) (gl_dec ok_X1_measureRests 45 84 (.ifCond .eq 14) 3 rfl) (fun _ => ?_) (fun c => absurd c (by decide))
      obtain ⟨hp, h⟩ := h
      refine gv_seg ok_X1_measureRests 52 3 (Ps := [vp_in ((x1 * 576) + v6) 9216]) (pc' := 104) (ls' := [.ref 35, .int x1, .int x2, .int x3, .int (x4 + 1), .int 0]) (st' := []) (M2 := (gl_u2 M5 36 (Int32.toNatClampNeg ((x1 * 576) + v6)) 1000000)) rfl hp ?_
      refine gv_goto (t := 26) (by decide) (gl_dec ok_X1_measureRests 55 104 (.goto (-78)) 3 rfl) ?_
      exact gv_weak (ls' := [.ref 35, .int x1, .int x2, .int x3, .int (x4 + 1), .float 0]) ⟨Or.inl rfl, ⟨Or.inl rfl, ⟨Or.inl rfl, ⟨Or.inl rfl, ⟨Or.inl rfl, ⟨Or.inr rfl, trivial⟩⟩⟩⟩⟩⟩ h
    · replace h := h.2 c
      refine gv_seg ok_X1_measureRests 24 5 (Ps := []) (pc' := 53) (ls' := [.ref 35, .int x1, .int x2, .int x3, .int x4, .float 0]) (st' := [.int x2, .int x4, .int x3, .ref 12]) (M2 := M2) rfl trivial ?_
      refine gv_vcall (M' := m_X0_isIn) (o := 12) (ci := 0) (As := [.int x3, .int x4, .int x2]) (st := []) (gl_dec ok_X1_measureRests 29 53 (.invokevirtual 111) 3 rfl) (gl_lnk ok_X1_measureRests 29 rfl rfl) mw_X0_isIn iw_X0_isIn lw_X0_isIn ⟨by decide, by decide⟩ rfl rfl rfl ⟨rfl, Nat.le_of_ble_eq_true rfl⟩ h (fun r7 M8 hq => ?_)
      obtain ⟨v9, rfl, h⟩ := hq
      change gv l sc m_X1_measureRests 56 [.ref 35, .int x1, .int x2, .int x3, .int x4, .float 0] [.int v9] M8 Q
      refine gv_if_eq (t := 63) (by decide) (gl_dec ok_X1_measureRests 30 56 (.ifCond .eq 7) 3 rfl) (fun c => ?_) (fun c => ?_)
      · replace h := h.1 c
        refine gv_seg ok_X1_measureRests 33 9 (Ps := []) (pc' := 78) (ls' := [.ref 35, .int x1, .int x2, .int x3, .int x4, .int 0]) (st' := [.int x4, .int x3, .int (x1 * 576), .ref 36]) (M2 := M8) rfl trivial ?_
        refine gv_scall (M' := m_X10_spotOf) (As := [.int x3, .int x4]) (st := [.int (x1 * 576), .ref 36]) (gl_dec ok_X1_measureRests 42 78 (.invokestatic 97) 3 rfl) (gl_lnkS ok_X1_measureRests 42 rfl rfl) mw_X10_spotOf sw_X10_spotOf ⟨by decide, by decide⟩ ⟨rfl, Nat.le_of_ble_eq_true rfl⟩ h (fun r10 M11 hq => ?_)
        obtain ⟨v12, rfl, h⟩ := hq
        change gv l sc m_X1_measureRests 81 [.ref 35, .int x1, .int x2, .int x3, .int x4, .int 0] [.int v12, .int (x1 * 576), .ref 36] M11 Q
        refine gv_seg ok_X1_measureRests 43 2 (Ps := []) (pc' := 84) (ls' := [.ref 35, .int x1, .int x2, .int x3, .int x4, .int 0]) (st' := [.int 0, .int ((x1 * 576) + v12), .ref 36]) (M2 := M11) rfl trivial ?_
        refine gv_if_eq (t := 98) (by decide) (gl_dec ok_X1_measureRests 45 84 (.ifCond .eq 14) 3 rfl) (fun _ => ?_) (fun c => absurd c (by decide))
        obtain ⟨hp, h⟩ := h
        refine gv_seg ok_X1_measureRests 52 3 (Ps := [vp_in ((x1 * 576) + v12) 9216]) (pc' := 104) (ls' := [.ref 35, .int x1, .int x2, .int x3, .int (x4 + 1), .int 0]) (st' := []) (M2 := (gl_u2 M11 36 (Int32.toNatClampNeg ((x1 * 576) + v12)) 1000000)) rfl hp ?_
        refine gv_goto (t := 26) (by decide) (gl_dec ok_X1_measureRests 55 104 (.goto (-78)) 3 rfl) ?_
        exact gv_weak (ls' := [.ref 35, .int x1, .int x2, .int x3, .int (x4 + 1), .float 0]) ⟨Or.inl rfl, ⟨Or.inl rfl, ⟨Or.inl rfl, ⟨Or.inl rfl, ⟨Or.inl rfl, ⟨Or.inr rfl, trivial⟩⟩⟩⟩⟩⟩ h
      · replace h := h.2 c
        refine gv_seg ok_X1_measureRests 31 1 (Ps := []) (pc' := 60) (ls' := [.ref 35, .int x1, .int x2, .int x3, .int x4, .float 0]) (st' := [.int 1]) (M2 := M8) rfl trivial ?_
        refine gv_goto (t := 64) (by decide) (gl_dec ok_X1_measureRests 32 60 (.goto 4) 3 rfl) ?_
        refine gv_seg ok_X1_measureRests 34 8 (Ps := []) (pc' := 78) (ls' := [.ref 35, .int x1, .int x2, .int x3, .int x4, .int 1]) (st' := [.int x4, .int x3, .int (x1 * 576), .ref 36]) (M2 := M8) rfl trivial ?_
        refine gv_scall (M' := m_X10_spotOf) (As := [.int x3, .int x4]) (st := [.int (x1 * 576), .ref 36]) (gl_dec ok_X1_measureRests 42 78 (.invokestatic 97) 3 rfl) (gl_lnkS ok_X1_measureRests 42 rfl rfl) mw_X10_spotOf sw_X10_spotOf ⟨by decide, by decide⟩ ⟨rfl, Nat.le_of_ble_eq_true rfl⟩ h (fun r13 M14 hq => ?_)
        obtain ⟨v15, rfl, h⟩ := hq
        change gv l sc m_X1_measureRests 81 [.ref 35, .int x1, .int x2, .int x3, .int x4, .int 1] [.int v15, .int (x1 * 576), .ref 36] M14 Q
        refine gv_seg ok_X1_measureRests 43 2 (Ps := []) (pc' := 84) (ls' := [.ref 35, .int x1, .int x2, .int x3, .int x4, .int 1]) (st' := [.int 1, .int ((x1 * 576) + v15), .ref 36]) (M2 := M14) rfl trivial ?_
        refine gv_if_eq (t := 98) (by decide) (gl_dec ok_X1_measureRests 45 84 (.ifCond .eq 14) 3 rfl) (fun c => absurd c (by decide)) (fun _ => ?_)
        refine gv_seg ok_X1_measureRests 46 4 (Ps := []) (pc' := 92) (ls' := [.ref 35, .int x1, .int x2, .int x3, .int x4, .int 1]) (st' := [.int x4, .int x3, .int x1, .ref 35, .int ((x1 * 576) + v15), .ref 36]) (M2 := M14) rfl trivial ?_
        refine gv_vcall (M' := m_X1_leastRest) (o := 35) (ci := 1) (As := [.int x1, .int x3, .int x4]) (st := [.int ((x1 * 576) + v15), .ref 36]) (gl_dec ok_X1_measureRests 50 92 (.invokevirtual 115) 3 rfl) (gl_lnk ok_X1_measureRests 50 rfl rfl) mw_X1_leastRest iw_X1_leastRest lw_X1_leastRest ⟨by decide, by decide⟩ rfl rfl rfl ⟨rfl, Nat.le_of_ble_eq_true rfl⟩ h (fun r16 M17 hq => ?_)
        obtain ⟨v18, rfl, h⟩ := hq
        change gv l sc m_X1_measureRests 95 [.ref 35, .int x1, .int x2, .int x3, .int x4, .int 1] [.int v18, .int ((x1 * 576) + v15), .ref 36] M17 Q
        refine gv_goto (t := 100) (by decide) (gl_dec ok_X1_measureRests 51 95 (.goto 5) 3 rfl) ?_
        obtain ⟨hp, h⟩ := h
        refine gv_seg ok_X1_measureRests 53 2 (Ps := [vp_in ((x1 * 576) + v15) 9216]) (pc' := 104) (ls' := [.ref 35, .int x1, .int x2, .int x3, .int (x4 + 1), .int 1]) (st' := []) (M2 := (gl_u2 M17 36 (Int32.toNatClampNeg ((x1 * 576) + v15)) v18)) rfl hp ?_
        refine gv_goto (t := 26) (by decide) (gl_dec ok_X1_measureRests 55 104 (.goto (-78)) 3 rfl) ?_
        exact gv_weak (ls' := [.ref 35, .int x1, .int x2, .int x3, .int (x4 + 1), .float 0]) ⟨Or.inl rfl, ⟨Or.inl rfl, ⟨Or.inl rfl, ⟨Or.inl rfl, ⟨Or.inl rfl, ⟨Or.inr rfl, trivial⟩⟩⟩⟩⟩⟩ h
set_option maxHeartbeats 400000 in
set_option maxRecDepth 20000 in
theorem w_X1_leastRest_0 (l : Launch) (sc : Nat × (Nat → Int32)) (M : gl_N) (Q : Option Value → gl_N → Prop) (x1 x2 x3 : Int32)
  (h : ((x1 + 1) < (M 20 1) → gv l sc m_X1_leastRest 22 [.ref 35, .int x1, .int x2, .int x3, .int 1000000, .int 0, .float 0, .float 0, .float 0] [] M Q) ∧ (¬ (x1 + 1) < (M 20 1) → Q (some (.int 0)) M)) : gv l sc m_X1_leastRest 0 [.ref 35, .int x1, .int x2, .int x3, .float 0, .float 0, .float 0, .float 0, .float 0] [] M Q := by
  refine gv_seg ok_X1_leastRest 0 6 (Ps := []) (pc' := 10) (ls' := [.ref 35, .int x1, .int x2, .int x3, .float 0, .float 0, .float 0, .float 0, .float 0]) (st' := [.int (M 20 1), .int (x1 + 1)]) (M2 := M) rfl trivial ?_
  refine gv_icmp_lt (t := 15) (by decide) (gl_dec ok_X1_leastRest 6 10 (.if_icmp .lt 5) 3 rfl) (fun c => ?_) (fun c => ?_)
  · replace h := h.1 c
    refine gv_seg ok_X1_leastRest 9 4 (Ps := []) (pc' := 22) (ls' := [.ref 35, .int x1, .int x2, .int x3, .int 1000000, .int 0, .float 0, .float 0, .float 0]) (st' := []) (M2 := M) rfl trivial ?_
    exact h
  · replace h := h.2 c
    refine gv_seg ok_X1_leastRest 7 1 (Ps := []) (pc' := 14) (ls' := [.ref 35, .int x1, .int x2, .int x3, .float 0, .float 0, .float 0, .float 0, .float 0]) (st' := [.int 0]) (M2 := M) rfl trivial ?_
    exact gv_retI (gl_dec ok_X1_leastRest 8 14 (.ireturn) 1 rfl) rfl h
theorem e_X1_leastRest (l : Launch) (sc : Nat × (Nat → Int32)) (M : gl_N) (Q : Option Value → gl_N → Prop) (x1 x2 x3 : Int32)
  (h : ((x1 + 1) < (M 20 1) → gv l sc m_X1_leastRest 22 [.ref 35, .int x1, .int x2, .int x3, .int 1000000, .int 0, .float 0, .float 0, .float 0] [] M Q) ∧ (¬ (x1 + 1) < (M 20 1) → Q (some (.int 0)) M)) : gr l sc m_X1_leastRest [.ref 35, .int x1, .int x2, .int x3] M Q :=
  gr_of (by decide +kernel) (Nat.le_of_ble_eq_true rfl) (List.forall_mem_cons.mpr ⟨rfl, (List.forall_mem_cons.mpr ⟨rfl, (List.forall_mem_cons.mpr ⟨rfl, (List.forall_mem_cons.mpr ⟨rfl, (fun _ h => absurd h List.not_mem_nil)⟩)⟩)⟩)⟩) (w_X1_leastRest_0 l sc M Q x1 x2 x3 h)
set_option maxHeartbeats 400000 in
set_option maxRecDepth 20000 in
theorem w_X1_leastRest_22 (l : Launch) (sc : Nat × (Nat → Int32)) (M : gl_N) (Q : Option Value → gl_N → Prop) (x1 x2 x3 x4 x5 : Int32)
  (h : gr l sc m_X0_partsOf [.ref 12, .int x2] M (fun r1 M2 => ∃ v3 : Int32, r1 = some (.int v3) ∧ ((v3 ≤ x5 → Q (some (.int x4)) M2) ∧ (¬ v3 ≤ x5 → gr l sc m_X10_spotOf [.int x2, .int x5] M2 (fun r4 M5 => ∃ v6 : Int32, r4 = some (.int v6) ∧ (gr l sc m_X1_restAt [.ref 35, .int (x1 + 1), .int v6] M5 (fun r7 M8 => ∃ v9 : Int32, r7 = some (.int v9) ∧ (gr l sc m_X0_placedCell [.ref 12, .int x2, .int x5] M8 (fun r10 M11 => ∃ v12 : Int32, r10 = some (.int v12) ∧ ((vp_in v12 486) ∧ ((¬ x5 = x3 → gv l sc m_X1_leastRest 22 [.ref 35, .int x1, .int x2, .int x3, .int (if ((if ((M11 37 (Int32.toNatClampNeg v12)) + 10) < v9 then ((M11 37 (Int32.toNatClampNeg v12)) + 10) else v9) + 1) < x4 then ((if ((M11 37 (Int32.toNatClampNeg v12)) + 10) < v9 then ((M11 37 (Int32.toNatClampNeg v12)) + 10) else v9) + 1) else x4), .int (x5 + 1), .float 0, .float 0, .float 0] [] M11 Q) ∧ (x5 = x3 → gv l sc m_X1_leastRest 22 [.ref 35, .int x1, .int x2, .int x3, .int (if ((if ((M11 37 (Int32.toNatClampNeg v12)) + 10) < v9 then ((M11 37 (Int32.toNatClampNeg v12)) + 10) else v9) + 0) < x4 then ((if ((M11 37 (Int32.toNatClampNeg v12)) + 10) < v9 then ((M11 37 (Int32.toNatClampNeg v12)) + 10) else v9) + 0) else x4), .int (x5 + 1), .float 0, .float 0, .float 0] [] M11 Q)))))))))))) : gv l sc m_X1_leastRest 22 [.ref 35, .int x1, .int x2, .int x3, .int x4, .int x5, .float 0, .float 0, .float 0] [] M Q := by
  refine gv_seg ok_X1_leastRest 13 4 (Ps := []) (pc' := 29) (ls' := [.ref 35, .int x1, .int x2, .int x3, .int x4, .int x5, .float 0, .float 0, .float 0]) (st' := [.int x2, .ref 12, .int x5]) (M2 := M) rfl trivial ?_
  refine gv_vcall (M' := m_X0_partsOf) (o := 12) (ci := 0) (As := [.int x2]) (st := [.int x5]) (gl_dec ok_X1_leastRest 17 29 (.invokevirtual 89) 3 rfl) (gl_lnk ok_X1_leastRest 17 rfl rfl) mw_X0_partsOf iw_X0_partsOf lw_X0_partsOf ⟨by decide, by decide⟩ rfl rfl rfl ⟨rfl, Nat.le_of_ble_eq_true rfl⟩ h (fun r1 M2 hq => ?_)
  obtain ⟨v3, rfl, h⟩ := hq
  change gv l sc m_X1_leastRest 32 [.ref 35, .int x1, .int x2, .int x3, .int x4, .int x5, .float 0, .float 0, .float 0] [.int v3, .int x5] M2 Q
  refine gv_icmp_ge (t := 106) (by decide) (gl_dec ok_X1_leastRest 18 32 (.if_icmp .ge 74) 3 rfl) (fun c => ?_) (fun c => ?_)
  · replace h := h.1 c
    refine gv_seg ok_X1_leastRest 56 1 (Ps := []) (pc' := 108) (ls' := [.ref 35, .int x1, .int x2, .int x3, .int x4, .int x5, .float 0, .float 0, .float 0]) (st' := [.int x4]) (M2 := M2) rfl trivial ?_
    exact gv_retI (gl_dec ok_X1_leastRest 57 108 (.ireturn) 1 rfl) rfl h
  · replace h := h.2 c
    refine gv_seg ok_X1_leastRest 19 6 (Ps := []) (pc' := 42) (ls' := [.ref 35, .int x1, .int x2, .int x3, .int x4, .int x5, .float 0, .float 0, .float 0]) (st' := [.int x5, .int x2, .int (x1 + 1), .ref 35]) (M2 := M2) rfl trivial ?_
    refine gv_scall (M' := m_X10_spotOf) (As := [.int x2, .int x5]) (st := [.int (x1 + 1), .ref 35]) (gl_dec ok_X1_leastRest 25 42 (.invokestatic 97) 3 rfl) (gl_lnkS ok_X1_leastRest 25 rfl rfl) mw_X10_spotOf sw_X10_spotOf ⟨by decide, by decide⟩ ⟨rfl, Nat.le_of_ble_eq_true rfl⟩ h (fun r4 M5 hq => ?_)
    obtain ⟨v6, rfl, h⟩ := hq
    change gv l sc m_X1_leastRest 45 [.ref 35, .int x1, .int x2, .int x3, .int x4, .int x5, .float 0, .float 0, .float 0] [.int v6, .int (x1 + 1), .ref 35] M5 Q
    refine gv_vcall (M' := m_X1_restAt) (o := 35) (ci := 1) (As := [.int (x1 + 1), .int v6]) (st := []) (gl_dec ok_X1_leastRest 26 45 (.invokevirtual 100) 3 rfl) (gl_lnk ok_X1_leastRest 26 rfl rfl) mw_X1_restAt iw_X1_restAt lw_X1_restAt ⟨by decide, by decide⟩ rfl rfl rfl ⟨rfl, Nat.le_of_ble_eq_true rfl⟩ h (fun r7 M8 hq => ?_)
    obtain ⟨v9, rfl, h⟩ := hq
    change gv l sc m_X1_leastRest 48 [.ref 35, .int x1, .int x2, .int x3, .int x4, .int x5, .float 0, .float 0, .float 0] [.int v9] M8 Q
    refine gv_seg ok_X1_leastRest 27 7 (Ps := []) (pc' := 61) (ls' := [.ref 35, .int x1, .int x2, .int x3, .int x4, .int x5, .int v9, .float 0, .float 0]) (st' := [.int x5, .int x2, .ref 12, .ref 37]) (M2 := M8) rfl trivial ?_
    refine gv_vcall (M' := m_X0_placedCell) (o := 12) (ci := 0) (As := [.int x2, .int x5]) (st := [.ref 37]) (gl_dec ok_X1_leastRest 34 61 (.invokevirtual 93) 3 rfl) (gl_lnk ok_X1_leastRest 34 rfl rfl) mw_X0_placedCell iw_X0_placedCell lw_X0_placedCell ⟨by decide, by decide⟩ rfl rfl rfl ⟨rfl, Nat.le_of_ble_eq_true rfl⟩ h (fun r10 M11 hq => ?_)
    obtain ⟨v12, rfl, h⟩ := hq
    change gv l sc m_X1_leastRest 64 [.ref 35, .int x1, .int x2, .int x3, .int x4, .int x5, .int v9, .float 0, .float 0] [.int v12, .ref 37] M11 Q
    obtain ⟨hp, h⟩ := h
    refine gv_seg ok_X1_leastRest 35 6 (Ps := [vp_in v12 486]) (pc' := 73) (ls' := [.ref 35, .int x1, .int x2, .int x3, .int x4, .int x5, .int v9, .int ((M11 37 (Int32.toNatClampNeg v12)) + 10), .float 0]) (st' := [.int x3, .int x5]) (M2 := M11) rfl hp ?_
    refine gv_icmp_ne (t := 80) (by decide) (gl_dec ok_X1_leastRest 41 73 (.if_icmp .ne 7) 3 rfl) (fun c => ?_) (fun c => ?_)
    · replace h := h.1 c
      refine gv_seg ok_X1_leastRest 44 11 (Ps := []) (pc' := 103) (ls' := [.ref 35, .int x1, .int x2, .int x3, .int (if ((if ((M11 37 (Int32.toNatClampNeg v12)) + 10) < v9 then ((M11 37 (Int32.toNatClampNeg v12)) + 10) else v9) + 1) < x4 then ((if ((M11 37 (Int32.toNatClampNeg v12)) + 10) < v9 then ((M11 37 (Int32.toNatClampNeg v12)) + 10) else v9) + 1) else x4), .int (x5 + 1), .int v9, .int ((M11 37 (Int32.toNatClampNeg v12)) + 10), .int 1]) (st' := []) (M2 := M11) rfl trivial ?_
      refine gv_goto (t := 22) (by decide) (gl_dec ok_X1_leastRest 55 103 (.goto (-81)) 3 rfl) ?_
      exact gv_weak (ls' := [.ref 35, .int x1, .int x2, .int x3, .int (if ((if ((M11 37 (Int32.toNatClampNeg v12)) + 10) < v9 then ((M11 37 (Int32.toNatClampNeg v12)) + 10) else v9) + 1) < x4 then ((if ((M11 37 (Int32.toNatClampNeg v12)) + 10) < v9 then ((M11 37 (Int32.toNatClampNeg v12)) + 10) else v9) + 1) else x4), .int (x5 + 1), .float 0, .float 0, .float 0]) ⟨Or.inl rfl, ⟨Or.inl rfl, ⟨Or.inl rfl, ⟨Or.inl rfl, ⟨Or.inl rfl, ⟨Or.inl rfl, ⟨Or.inr rfl, ⟨Or.inr rfl, ⟨Or.inr rfl, trivial⟩⟩⟩⟩⟩⟩⟩⟩⟩ h
    · replace h := h.2 c
      refine gv_seg ok_X1_leastRest 42 1 (Ps := []) (pc' := 77) (ls' := [.ref 35, .int x1, .int x2, .int x3, .int x4, .int x5, .int v9, .int ((M11 37 (Int32.toNatClampNeg v12)) + 10), .float 0]) (st' := [.int 0]) (M2 := M11) rfl trivial ?_
      refine gv_goto (t := 81) (by decide) (gl_dec ok_X1_leastRest 43 77 (.goto 4) 3 rfl) ?_
      refine gv_seg ok_X1_leastRest 45 10 (Ps := []) (pc' := 103) (ls' := [.ref 35, .int x1, .int x2, .int x3, .int (if ((if ((M11 37 (Int32.toNatClampNeg v12)) + 10) < v9 then ((M11 37 (Int32.toNatClampNeg v12)) + 10) else v9) + 0) < x4 then ((if ((M11 37 (Int32.toNatClampNeg v12)) + 10) < v9 then ((M11 37 (Int32.toNatClampNeg v12)) + 10) else v9) + 0) else x4), .int (x5 + 1), .int v9, .int ((M11 37 (Int32.toNatClampNeg v12)) + 10), .int 0]) (st' := []) (M2 := M11) rfl trivial ?_
      refine gv_goto (t := 22) (by decide) (gl_dec ok_X1_leastRest 55 103 (.goto (-81)) 3 rfl) ?_
      exact gv_weak (ls' := [.ref 35, .int x1, .int x2, .int x3, .int (if ((if ((M11 37 (Int32.toNatClampNeg v12)) + 10) < v9 then ((M11 37 (Int32.toNatClampNeg v12)) + 10) else v9) + 0) < x4 then ((if ((M11 37 (Int32.toNatClampNeg v12)) + 10) < v9 then ((M11 37 (Int32.toNatClampNeg v12)) + 10) else v9) + 0) else x4), .int (x5 + 1), .float 0, .float 0, .float 0]) ⟨Or.inl rfl, ⟨Or.inl rfl, ⟨Or.inl rfl, ⟨Or.inl rfl, ⟨Or.inl rfl, ⟨Or.inl rfl, ⟨Or.inr rfl, ⟨Or.inr rfl, ⟨Or.inr rfl, trivial⟩⟩⟩⟩⟩⟩⟩⟩⟩ h
set_option maxHeartbeats 400000 in
set_option maxRecDepth 20000 in
theorem w_X1_choose_0 (l : Launch) (sc : Nat × (Nat → Int32)) (M : gl_N) (Q : Option Value → gl_N → Prop)
  (h : (¬ (M 20 1) = 0 → gr l sc m_X1_firstSpot [.ref 35] (gl_u2 (gl_u2 (gl_u2 M 35 7 0) 35 8 0) 35 6 0) (fun r1 M2 => ∃ v3 : Int32, r1 = some (.int v3) ∧ ((v3 = (-1) → Q none (gl_u2 M2 35 6 0)) ∧ (¬ v3 = (-1) → gv l sc m_X1_choose 73 [.ref 35, .int v3, .int 1] [] (gl_u2 (gl_u2 M2 35 6 1) 38 0 v3) Q)))) ∧ ((M 20 1) = 0 → Q none (gl_u2 (gl_u2 (gl_u2 M 35 7 0) 35 8 0) 35 6 1))) : gv l sc m_X1_choose 0 [.ref 35, .float 0, .float 0] [] M Q := by
  refine gv_seg ok_X1_choose 0 10 (Ps := []) (pc' := 18) (ls' := [.ref 35, .float 0, .float 0]) (st' := [.int (M 20 1), .ref 35]) (M2 := (gl_u2 (gl_u2 M 35 7 0) 35 8 0)) rfl trivial ?_
  refine gv_if_ne (t := 25) (by decide) (gl_dec ok_X1_choose 10 18 (.ifCond .ne 7) 3 rfl) (fun c => ?_) (fun c => ?_)
  · replace h := h.1 c
    refine gv_seg ok_X1_choose 13 4 (Ps := [((0 : Int32) = 0 ∨ (0 : Int32) = 1)]) (pc' := 33) (ls' := [.ref 35, .float 0, .float 0]) (st' := [.int 0]) (M2 := (gl_u2 (gl_u2 (gl_u2 M 35 7 0) 35 8 0) 35 6 0)) rfl (show ((0 : Int32) = 0 ∨ (0 : Int32) = 1) by decide) ?_
    refine gv_if_eq (t := 37) (by decide) (gl_dec ok_X1_choose 17 33 (.ifCond .eq 4) 3 rfl) (fun _ => ?_) (fun c => absurd c (by decide))
    refine gv_seg ok_X1_choose 19 1 (Ps := []) (pc' := 38) (ls' := [.ref 35, .float 0, .float 0]) (st' := [.ref 35]) (M2 := (gl_u2 (gl_u2 (gl_u2 M 35 7 0) 35 8 0) 35 6 0)) rfl trivial ?_
    refine gv_vcall (M' := m_X1_firstSpot) (o := 35) (ci := 1) (As := []) (st := []) (gl_dec ok_X1_choose 20 38 (.invokevirtual 119) 3 rfl) (gl_lnk ok_X1_choose 20 rfl rfl) mw_X1_firstSpot iw_X1_firstSpot lw_X1_firstSpot ⟨by decide, by decide⟩ rfl rfl rfl ⟨rfl, Nat.le_of_ble_eq_true rfl⟩ h (fun r1 M2 hq => ?_)
    obtain ⟨v3, rfl, h⟩ := hq
    change gv l sc m_X1_choose 41 [.ref 35, .float 0, .float 0] [.int v3] M2 Q
    refine gv_seg ok_X1_choose 21 4 (Ps := []) (pc' := 45) (ls' := [.ref 35, .int v3, .float 0]) (st' := [.int (-1), .int v3, .ref 35]) (M2 := M2) rfl trivial ?_
    refine gv_icmp_eq (t := 52) (by decide) (gl_dec ok_X1_choose 25 45 (.if_icmp .eq 7) 3 rfl) (fun c => ?_) (fun c => ?_)
    · replace h := h.1 c
      refine gv_seg ok_X1_choose 28 4 (Ps := [((0 : Int32) = 0 ∨ (0 : Int32) = 1)]) (pc' := 60) (ls' := [.ref 35, .int v3, .float 0]) (st' := [.int 0]) (M2 := (gl_u2 M2 35 6 0)) rfl (show ((0 : Int32) = 0 ∨ (0 : Int32) = 1) by decide) ?_
      refine gv_if_ne (t := 64) (by decide) (gl_dec ok_X1_choose 32 60 (.ifCond .ne 4) 3 rfl) (fun c => absurd c (by decide)) (fun _ => ?_)
      exact gv_retV (gl_dec ok_X1_choose 33 63 (.return_) 1 rfl) rfl h
    · replace h := h.2 c
      refine gv_seg ok_X1_choose 26 1 (Ps := []) (pc' := 49) (ls' := [.ref 35, .int v3, .float 0]) (st' := [.int 1, .ref 35]) (M2 := M2) rfl trivial ?_
      refine gv_goto (t := 53) (by decide) (gl_dec ok_X1_choose 27 49 (.goto 4) 3 rfl) ?_
      refine gv_seg ok_X1_choose 29 3 (Ps := [((1 : Int32) = 0 ∨ (1 : Int32) = 1)]) (pc' := 60) (ls' := [.ref 35, .int v3, .float 0]) (st' := [.int 1]) (M2 := (gl_u2 M2 35 6 1)) rfl (show ((1 : Int32) = 0 ∨ (1 : Int32) = 1) by decide) ?_
      refine gv_if_ne (t := 64) (by decide) (gl_dec ok_X1_choose 32 60 (.ifCond .ne 4) 3 rfl) (fun _ => ?_) (fun c => absurd c (by decide))
      refine gv_seg ok_X1_choose 34 7 (Ps := [vp_in 0 16]) (pc' := 73) (ls' := [.ref 35, .int v3, .int 1]) (st' := []) (M2 := (gl_u2 (gl_u2 M2 35 6 1) 38 0 v3)) rfl (show vp_in 0 16 by unfold vp_in; decide) ?_
      exact h
  · replace h := h.2 c
    refine gv_seg ok_X1_choose 11 1 (Ps := []) (pc' := 22) (ls' := [.ref 35, .float 0, .float 0]) (st' := [.int 1, .ref 35]) (M2 := (gl_u2 (gl_u2 M 35 7 0) 35 8 0)) rfl trivial ?_
    refine gv_goto (t := 26) (by decide) (gl_dec ok_X1_choose 12 22 (.goto 4) 3 rfl) ?_
    refine gv_seg ok_X1_choose 14 3 (Ps := [((1 : Int32) = 0 ∨ (1 : Int32) = 1)]) (pc' := 33) (ls' := [.ref 35, .float 0, .float 0]) (st' := [.int 1]) (M2 := (gl_u2 (gl_u2 (gl_u2 M 35 7 0) 35 8 0) 35 6 1)) rfl (show ((1 : Int32) = 0 ∨ (1 : Int32) = 1) by decide) ?_
    refine gv_if_eq (t := 37) (by decide) (gl_dec ok_X1_choose 17 33 (.ifCond .eq 4) 3 rfl) (fun c => absurd c (by decide)) (fun _ => ?_)
    exact gv_retV (gl_dec ok_X1_choose 18 36 (.return_) 1 rfl) rfl h
theorem e_X1_choose (l : Launch) (sc : Nat × (Nat → Int32)) (M : gl_N) (Q : Option Value → gl_N → Prop)
  (h : (¬ (M 20 1) = 0 → gr l sc m_X1_firstSpot [.ref 35] (gl_u2 (gl_u2 (gl_u2 M 35 7 0) 35 8 0) 35 6 0) (fun r1 M2 => ∃ v3 : Int32, r1 = some (.int v3) ∧ ((v3 = (-1) → Q none (gl_u2 M2 35 6 0)) ∧ (¬ v3 = (-1) → gv l sc m_X1_choose 73 [.ref 35, .int v3, .int 1] [] (gl_u2 (gl_u2 M2 35 6 1) 38 0 v3) Q)))) ∧ ((M 20 1) = 0 → Q none (gl_u2 (gl_u2 (gl_u2 M 35 7 0) 35 8 0) 35 6 1))) : gr l sc m_X1_choose [.ref 35] M Q :=
  gr_of (by decide +kernel) (Nat.le_of_ble_eq_true rfl) (List.forall_mem_cons.mpr ⟨rfl, (fun _ h => absurd h List.not_mem_nil)⟩) (w_X1_choose_0 l sc M Q h)
set_option maxHeartbeats 400000 in
set_option maxRecDepth 20000 in
theorem w_X1_choose_73 (l : Launch) (sc : Nat × (Nat → Int32)) (M : gl_N) (Q : Option Value → gl_N → Prop) (x1 x2 : Int32)
  (h : ((M 20 1) ≤ x2 → Q none M) ∧ (¬ (M 20 1) ≤ x2 → (vp_in (x2 - 1) 16) ∧ (gr l sc m_X1_nextSpot [.ref 35, .int x2, .int (M 38 (Int32.toNatClampNeg (x2 - 1)))] M (fun r1 M2 => ∃ v3 : Int32, r1 = some (.int v3) ∧ ((vp_in x2 16 ∧ vp_in (x2 - 1) 16 ∧ vp_in x2 16) ∧ (gr l sc m_X1_changeCost [.ref 35, .int ((gl_u2 M2 38 (Int32.toNatClampNeg x2) v3) 38 (Int32.toNatClampNeg (x2 - 1))), .int ((gl_u2 M2 38 (Int32.toNatClampNeg x2) v3) 38 (Int32.toNatClampNeg x2))] (gl_u2 M2 38 (Int32.toNatClampNeg x2) v3) (fun r4 M5 => ∃ v6 : Int32, r4 = some (.int v6) ∧ (gr l sc m_X1_countChange [.ref 35, .int v6] M5 (fun r7 M8 => r7 = none ∧ (gv l sc m_X1_choose 73 [.ref 35, .int x1, .int (x2 + 1)] [] M8 Q)))))))))) : gv l sc m_X1_choose 73 [.ref 35, .int x1, .int x2] [] M Q := by
  refine gv_seg ok_X1_choose 41 4 (Ps := []) (pc' := 81) (ls' := [.ref 35, .int x1, .int x2]) (st' := [.int (M 20 1), .int x2]) (M2 := M) rfl trivial ?_
  refine gv_icmp_ge (t := 131) (by decide) (gl_dec ok_X1_choose 45 81 (.if_icmp .ge 50) 3 rfl) (fun c => ?_) (fun c => ?_)
  · replace h := h.1 c
    exact gv_retV (gl_dec ok_X1_choose 75 131 (.return_) 1 rfl) rfl h
  · replace h := h.2 c
    obtain ⟨hp, h⟩ := h
    refine gv_seg ok_X1_choose 46 11 (Ps := [vp_in (x2 - 1) 16]) (pc' := 99) (ls' := [.ref 35, .int x1, .int x2]) (st' := [.int (M 38 (Int32.toNatClampNeg (x2 - 1))), .int x2, .ref 35, .int x2, .ref 38]) (M2 := M) rfl hp ?_
    refine gv_vcall (M' := m_X1_nextSpot) (o := 35) (ci := 1) (As := [.int x2, .int (M 38 (Int32.toNatClampNeg (x2 - 1)))]) (st := [.int x2, .ref 38]) (gl_dec ok_X1_choose 57 99 (.invokevirtual 122) 3 rfl) (gl_lnk ok_X1_choose 57 rfl rfl) mw_X1_nextSpot iw_X1_nextSpot lw_X1_nextSpot ⟨by decide, by decide⟩ rfl rfl rfl ⟨rfl, Nat.le_of_ble_eq_true rfl⟩ h (fun r1 M2 hq => ?_)
    obtain ⟨v3, rfl, h⟩ := hq
    change gv l sc m_X1_choose 102 [.ref 35, .int x1, .int x2] [.int v3, .int x2, .ref 38] M2 Q
    obtain ⟨hp, h⟩ := h
    refine gv_seg ok_X1_choose 58 13 (Ps := [vp_in x2 16, vp_in (x2 - 1) 16, vp_in x2 16]) (pc' := 119) (ls' := [.ref 35, .int x1, .int x2]) (st' := [.int ((gl_u2 M2 38 (Int32.toNatClampNeg x2) v3) 38 (Int32.toNatClampNeg x2)), .int ((gl_u2 M2 38 (Int32.toNatClampNeg x2) v3) 38 (Int32.toNatClampNeg (x2 - 1))), .ref 35, .ref 35]) (M2 := (gl_u2 M2 38 (Int32.toNatClampNeg x2) v3)) rfl ⟨hp.1, hp.2.1, hp.2.2⟩ ?_
    refine gv_vcall (M' := m_X1_changeCost) (o := 35) (ci := 1) (As := [.int ((gl_u2 M2 38 (Int32.toNatClampNeg x2) v3) 38 (Int32.toNatClampNeg (x2 - 1))), .int ((gl_u2 M2 38 (Int32.toNatClampNeg x2) v3) 38 (Int32.toNatClampNeg x2))]) (st := [.ref 35]) (gl_dec ok_X1_choose 71 119 (.invokevirtual 125) 3 rfl) (gl_lnk ok_X1_choose 71 rfl rfl) mw_X1_changeCost iw_X1_changeCost lw_X1_changeCost ⟨by decide, by decide⟩ rfl rfl rfl ⟨rfl, Nat.le_of_ble_eq_true rfl⟩ h (fun r4 M5 hq => ?_)
    obtain ⟨v6, rfl, h⟩ := hq
    change gv l sc m_X1_choose 122 [.ref 35, .int x1, .int x2] [.int v6, .ref 35] M5 Q
    refine gv_vcall (M' := m_X1_countChange) (o := 35) (ci := 1) (As := [.int v6]) (st := []) (gl_dec ok_X1_choose 72 122 (.invokevirtual 128) 3 rfl) (gl_lnk ok_X1_choose 72 rfl rfl) mw_X1_countChange iw_X1_countChange lw_X1_countChange ⟨by decide, by decide⟩ rfl rfl rfl ⟨rfl, Nat.le_of_ble_eq_true rfl⟩ h (fun r7 M8 hq => ?_)
    obtain ⟨rfl, h⟩ := hq
    change gv l sc m_X1_choose 125 [.ref 35, .int x1, .int x2] [] M8 Q
    refine gv_seg ok_X1_choose 73 1 (Ps := []) (pc' := 128) (ls' := [.ref 35, .int x1, .int (x2 + 1)]) (st' := []) (M2 := M8) rfl trivial ?_
    refine gv_goto (t := 73) (by decide) (gl_dec ok_X1_choose 74 128 (.goto (-55)) 3 rfl) ?_
    exact h
set_option maxHeartbeats 400000 in
set_option maxRecDepth 20000 in
theorem w_X1_firstSpot_0 (l : Launch) (sc : Nat × (Nat → Int32)) (M : gl_N) (Q : Option Value → gl_N → Prop)
  (h : gv l sc m_X1_firstSpot 7 [.ref 35, .int (-1), .int 1000000, .int 0] [] M Q) : gv l sc m_X1_firstSpot 0 [.ref 35, .float 0, .float 0, .float 0] [] M Q := by
  refine gv_seg ok_X1_firstSpot 0 6 (Ps := []) (pc' := 7) (ls' := [.ref 35, .int (-1), .int 1000000, .int 0]) (st' := []) (M2 := M) rfl trivial ?_
  exact h
theorem e_X1_firstSpot (l : Launch) (sc : Nat × (Nat → Int32)) (M : gl_N) (Q : Option Value → gl_N → Prop)
  (h : gv l sc m_X1_firstSpot 7 [.ref 35, .int (-1), .int 1000000, .int 0] [] M Q) : gr l sc m_X1_firstSpot [.ref 35] M Q :=
  gr_of (by decide +kernel) (Nat.le_of_ble_eq_true rfl) (List.forall_mem_cons.mpr ⟨rfl, (fun _ h => absurd h List.not_mem_nil)⟩) (w_X1_firstSpot_0 l sc M Q h)
set_option maxHeartbeats 400000 in
set_option maxRecDepth 20000 in
theorem w_X1_firstSpot_7 (l : Launch) (sc : Nat × (Nat → Int32)) (M : gl_N) (Q : Option Value → gl_N → Prop) (x1 x2 x3 : Int32)
  (h : gr l sc m_X0_scaleCount [.ref 12] M (fun r1 M2 => ∃ v3 : Int32, r1 = some (.int v3) ∧ (gr l sc m_X10_spotOf [.int v3, .int 0] M2 (fun r4 M5 => ∃ v6 : Int32, r4 = some (.int v6) ∧ ((v6 ≤ x3 → Q (some (.int x1)) M5) ∧ (¬ v6 ≤ x3 → gr l sc m_X1_restAt [.ref 35, .int 0, .int x3] M5 (fun r7 M8 => ∃ v9 : Int32, r7 = some (.int v9) ∧ ((x2 ≤ v9 → gv l sc m_X1_firstSpot 7 [.ref 35, .int x1, .int x2, .int (x3 + 1)] [] M8 Q) ∧ (¬ x2 ≤ v9 → gr l sc m_X1_restAt [.ref 35, .int 0, .int x3] M8 (fun r10 M11 => ∃ v12 : Int32, r10 = some (.int v12) ∧ (gv l sc m_X1_firstSpot 7 [.ref 35, .int x3, .int v12, .int (x3 + 1)] [] M11 Q))))))))))) : gv l sc m_X1_firstSpot 7 [.ref 35, .int x1, .int x2, .int x3] [] M Q := by
  refine gv_seg ok_X1_firstSpot 6 3 (Ps := []) (pc' := 12) (ls' := [.ref 35, .int x1, .int x2, .int x3]) (st' := [.ref 12, .int x3]) (M2 := M) rfl trivial ?_
  refine gv_vcall (M' := m_X0_scaleCount) (o := 12) (ci := 0) (As := []) (st := [.int x3]) (gl_dec ok_X1_firstSpot 9 12 (.invokevirtual 84) 3 rfl) (gl_lnk ok_X1_firstSpot 9 rfl rfl) mw_X0_scaleCount iw_X0_scaleCount lw_X0_scaleCount ⟨by decide, by decide⟩ rfl rfl rfl ⟨rfl, Nat.le_of_ble_eq_true rfl⟩ h (fun r1 M2 hq => ?_)
  obtain ⟨v3, rfl, h⟩ := hq
  change gv l sc m_X1_firstSpot 15 [.ref 35, .int x1, .int x2, .int x3] [.int v3, .int x3] M2 Q
  refine gv_seg ok_X1_firstSpot 10 1 (Ps := []) (pc' := 16) (ls' := [.ref 35, .int x1, .int x2, .int x3]) (st' := [.int 0, .int v3, .int x3]) (M2 := M2) rfl trivial ?_
  refine gv_scall (M' := m_X10_spotOf) (As := [.int v3, .int 0]) (st := [.int x3]) (gl_dec ok_X1_firstSpot 11 16 (.invokestatic 97) 3 rfl) (gl_lnkS ok_X1_firstSpot 11 rfl rfl) mw_X10_spotOf sw_X10_spotOf ⟨by decide, by decide⟩ ⟨rfl, Nat.le_of_ble_eq_true rfl⟩ h (fun r4 M5 hq => ?_)
  obtain ⟨v6, rfl, h⟩ := hq
  change gv l sc m_X1_firstSpot 19 [.ref 35, .int x1, .int x2, .int x3] [.int v6, .int x3] M5 Q
  refine gv_icmp_ge (t := 47) (by decide) (gl_dec ok_X1_firstSpot 12 19 (.if_icmp .ge 28) 3 rfl) (fun c => ?_) (fun c => ?_)
  · replace h := h.1 c
    refine gv_seg ok_X1_firstSpot 28 1 (Ps := []) (pc' := 48) (ls' := [.ref 35, .int x1, .int x2, .int x3]) (st' := [.int x1]) (M2 := M5) rfl trivial ?_
    exact gv_retI (gl_dec ok_X1_firstSpot 29 48 (.ireturn) 1 rfl) rfl h
  · replace h := h.2 c
    refine gv_seg ok_X1_firstSpot 13 3 (Ps := []) (pc' := 25) (ls' := [.ref 35, .int x1, .int x2, .int x3]) (st' := [.int x3, .int 0, .ref 35]) (M2 := M5) rfl trivial ?_
    refine gv_vcall (M' := m_X1_restAt) (o := 35) (ci := 1) (As := [.int 0, .int x3]) (st := []) (gl_dec ok_X1_firstSpot 16 25 (.invokevirtual 100) 3 rfl) (gl_lnk ok_X1_firstSpot 16 rfl rfl) mw_X1_restAt iw_X1_restAt lw_X1_restAt ⟨by decide, by decide⟩ rfl rfl rfl ⟨rfl, Nat.le_of_ble_eq_true rfl⟩ h (fun r7 M8 hq => ?_)
    obtain ⟨v9, rfl, h⟩ := hq
    change gv l sc m_X1_firstSpot 28 [.ref 35, .int x1, .int x2, .int x3] [.int v9] M8 Q
    refine gv_seg ok_X1_firstSpot 17 1 (Ps := []) (pc' := 29) (ls' := [.ref 35, .int x1, .int x2, .int x3]) (st' := [.int x2, .int v9]) (M2 := M8) rfl trivial ?_
    refine gv_icmp_ge (t := 41) (by decide) (gl_dec ok_X1_firstSpot 18 29 (.if_icmp .ge 12) 3 rfl) (fun c => ?_) (fun c => ?_)
    · replace h := h.1 c
      refine gv_seg ok_X1_firstSpot 26 1 (Ps := []) (pc' := 44) (ls' := [.ref 35, .int x1, .int x2, .int (x3 + 1)]) (st' := []) (M2 := M8) rfl trivial ?_
      refine gv_goto (t := 7) (by decide) (gl_dec ok_X1_firstSpot 27 44 (.goto (-37)) 3 rfl) ?_
      exact h
    · replace h := h.2 c
      refine gv_seg ok_X1_firstSpot 19 3 (Ps := []) (pc' := 35) (ls' := [.ref 35, .int x1, .int x2, .int x3]) (st' := [.int x3, .int 0, .ref 35]) (M2 := M8) rfl trivial ?_
      refine gv_vcall (M' := m_X1_restAt) (o := 35) (ci := 1) (As := [.int 0, .int x3]) (st := []) (gl_dec ok_X1_firstSpot 22 35 (.invokevirtual 100) 3 rfl) (gl_lnk ok_X1_firstSpot 22 rfl rfl) mw_X1_restAt iw_X1_restAt lw_X1_restAt ⟨by decide, by decide⟩ rfl rfl rfl ⟨rfl, Nat.le_of_ble_eq_true rfl⟩ h (fun r10 M11 hq => ?_)
      obtain ⟨v12, rfl, h⟩ := hq
      change gv l sc m_X1_firstSpot 38 [.ref 35, .int x1, .int x2, .int x3] [.int v12] M11 Q
      refine gv_seg ok_X1_firstSpot 23 4 (Ps := []) (pc' := 44) (ls' := [.ref 35, .int x3, .int v12, .int (x3 + 1)]) (st' := []) (M2 := M11) rfl trivial ?_
      refine gv_goto (t := 7) (by decide) (gl_dec ok_X1_firstSpot 27 44 (.goto (-37)) 3 rfl) ?_
      exact h
set_option maxHeartbeats 400000 in
set_option maxRecDepth 20000 in
theorem w_X1_nextSpot_0 (l : Launch) (sc : Nat × (Nat → Int32)) (M : gl_N) (Q : Option Value → gl_N → Prop) (x1 x2 : Int32)
  (h : gr l sc m_X1_restAt [.ref 35, .int (x1 - 1), .int x2] M (fun r1 M2 => ∃ v3 : Int32, r1 = some (.int v3) ∧ (gv l sc m_X1_nextSpot 12 [.ref 35, .int x1, .int x2, .int v3, .int 0, .float 0] [] M2 Q))) : gv l sc m_X1_nextSpot 0 [.ref 35, .int x1, .int x2, .float 0, .float 0, .float 0] [] M Q := by
  refine gv_seg ok_X1_nextSpot 0 5 (Ps := []) (pc' := 5) (ls' := [.ref 35, .int x1, .int x2, .float 0, .float 0, .float 0]) (st' := [.int x2, .int (x1 - 1), .ref 35]) (M2 := M) rfl trivial ?_
  refine gv_vcall (M' := m_X1_restAt) (o := 35) (ci := 1) (As := [.int (x1 - 1), .int x2]) (st := []) (gl_dec ok_X1_nextSpot 5 5 (.invokevirtual 100) 3 rfl) (gl_lnk ok_X1_nextSpot 5 rfl rfl) mw_X1_restAt iw_X1_restAt lw_X1_restAt ⟨by decide, by decide⟩ rfl rfl rfl ⟨rfl, Nat.le_of_ble_eq_true rfl⟩ h (fun r1 M2 hq => ?_)
  obtain ⟨v3, rfl, h⟩ := hq
  change gv l sc m_X1_nextSpot 8 [.ref 35, .int x1, .int x2, .float 0, .float 0, .float 0] [.int v3] M2 Q
  refine gv_seg ok_X1_nextSpot 6 3 (Ps := []) (pc' := 12) (ls' := [.ref 35, .int x1, .int x2, .int v3, .int 0, .float 0]) (st' := []) (M2 := M2) rfl trivial ?_
  exact h
theorem e_X1_nextSpot (l : Launch) (sc : Nat × (Nat → Int32)) (M : gl_N) (Q : Option Value → gl_N → Prop) (x1 x2 : Int32)
  (h : gr l sc m_X1_restAt [.ref 35, .int (x1 - 1), .int x2] M (fun r1 M2 => ∃ v3 : Int32, r1 = some (.int v3) ∧ (gv l sc m_X1_nextSpot 12 [.ref 35, .int x1, .int x2, .int v3, .int 0, .float 0] [] M2 Q))) : gr l sc m_X1_nextSpot [.ref 35, .int x1, .int x2] M Q :=
  gr_of (by decide +kernel) (Nat.le_of_ble_eq_true rfl) (List.forall_mem_cons.mpr ⟨rfl, (List.forall_mem_cons.mpr ⟨rfl, (List.forall_mem_cons.mpr ⟨rfl, (fun _ h => absurd h List.not_mem_nil)⟩)⟩)⟩) (w_X1_nextSpot_0 l sc M Q x1 x2 h)
set_option maxHeartbeats 400000 in
set_option maxRecDepth 20000 in
theorem w_X1_nextSpot_12 (l : Launch) (sc : Nat × (Nat → Int32)) (M : gl_N) (Q : Option Value → gl_N → Prop) (x1 x2 x3 x4 : Int32)
  (h : gr l sc m_X0_scaleCount [.ref 12] M (fun r1 M2 => ∃ v3 : Int32, r1 = some (.int v3) ∧ (gr l sc m_X10_spotOf [.int v3, .int 0] M2 (fun r4 M5 => ∃ v6 : Int32, r4 = some (.int v6) ∧ ((v6 ≤ x4 → Q (some (.int x2)) M5) ∧ (¬ v6 ≤ x4 → gr l sc m_X1_restAt [.ref 35, .int x1, .int x4] M5 (fun r7 M8 => ∃ v9 : Int32, r7 = some (.int v9) ∧ ((x3 < v9 → gv l sc m_X1_nextSpot 12 [.ref 35, .int x1, .int x2, .int x3, .int (x4 + 1), .float 0] [] M8 Q) ∧ (¬ x3 < v9 → gr l sc m_X1_changeCost [.ref 35, .int x2, .int x4] M8 (fun r10 M11 => ∃ v12 : Int32, r10 = some (.int v12) ∧ ((¬ (v9 + v12) = x3 → gv l sc m_X1_nextSpot 12 [.ref 35, .int x1, .int x2, .int x3, .int (x4 + 1), .float 0] [] M11 Q) ∧ ((v9 + v12) = x3 → Q (some (.int x4)) M11)))))))))))) : gv l sc m_X1_nextSpot 12 [.ref 35, .int x1, .int x2, .int x3, .int x4, .float 0] [] M Q := by
  refine gv_seg ok_X1_nextSpot 9 3 (Ps := []) (pc' := 18) (ls' := [.ref 35, .int x1, .int x2, .int x3, .int x4, .float 0]) (st' := [.ref 12, .int x4]) (M2 := M) rfl trivial ?_
  refine gv_vcall (M' := m_X0_scaleCount) (o := 12) (ci := 0) (As := []) (st := [.int x4]) (gl_dec ok_X1_nextSpot 12 18 (.invokevirtual 84) 3 rfl) (gl_lnk ok_X1_nextSpot 12 rfl rfl) mw_X0_scaleCount iw_X0_scaleCount lw_X0_scaleCount ⟨by decide, by decide⟩ rfl rfl rfl ⟨rfl, Nat.le_of_ble_eq_true rfl⟩ h (fun r1 M2 hq => ?_)
  obtain ⟨v3, rfl, h⟩ := hq
  change gv l sc m_X1_nextSpot 21 [.ref 35, .int x1, .int x2, .int x3, .int x4, .float 0] [.int v3, .int x4] M2 Q
  refine gv_seg ok_X1_nextSpot 13 1 (Ps := []) (pc' := 22) (ls' := [.ref 35, .int x1, .int x2, .int x3, .int x4, .float 0]) (st' := [.int 0, .int v3, .int x4]) (M2 := M2) rfl trivial ?_
  refine gv_scall (M' := m_X10_spotOf) (As := [.int v3, .int 0]) (st := [.int x4]) (gl_dec ok_X1_nextSpot 14 22 (.invokestatic 97) 3 rfl) (gl_lnkS ok_X1_nextSpot 14 rfl rfl) mw_X10_spotOf sw_X10_spotOf ⟨by decide, by decide⟩ ⟨rfl, Nat.le_of_ble_eq_true rfl⟩ h (fun r4 M5 hq => ?_)
  obtain ⟨v6, rfl, h⟩ := hq
  change gv l sc m_X1_nextSpot 25 [.ref 35, .int x1, .int x2, .int x3, .int x4, .float 0] [.int v6, .int x4] M5 Q
  refine gv_icmp_ge (t := 66) (by decide) (gl_dec ok_X1_nextSpot 15 25 (.if_icmp .ge 41) 3 rfl) (fun c => ?_) (fun c => ?_)
  · replace h := h.1 c
    refine gv_seg ok_X1_nextSpot 36 1 (Ps := []) (pc' := 67) (ls' := [.ref 35, .int x1, .int x2, .int x3, .int x4, .float 0]) (st' := [.int x2]) (M2 := M5) rfl trivial ?_
    exact gv_retI (gl_dec ok_X1_nextSpot 37 67 (.ireturn) 1 rfl) rfl h
  · replace h := h.2 c
    refine gv_seg ok_X1_nextSpot 16 3 (Ps := []) (pc' := 32) (ls' := [.ref 35, .int x1, .int x2, .int x3, .int x4, .float 0]) (st' := [.int x4, .int x1, .ref 35]) (M2 := M5) rfl trivial ?_
    refine gv_vcall (M' := m_X1_restAt) (o := 35) (ci := 1) (As := [.int x1, .int x4]) (st := []) (gl_dec ok_X1_nextSpot 19 32 (.invokevirtual 100) 3 rfl) (gl_lnk ok_X1_nextSpot 19 rfl rfl) mw_X1_restAt iw_X1_restAt lw_X1_restAt ⟨by decide, by decide⟩ rfl rfl rfl ⟨rfl, Nat.le_of_ble_eq_true rfl⟩ h (fun r7 M8 hq => ?_)
    obtain ⟨v9, rfl, h⟩ := hq
    change gv l sc m_X1_nextSpot 35 [.ref 35, .int x1, .int x2, .int x3, .int x4, .float 0] [.int v9] M8 Q
    refine gv_seg ok_X1_nextSpot 20 3 (Ps := []) (pc' := 40) (ls' := [.ref 35, .int x1, .int x2, .int x3, .int x4, .int v9]) (st' := [.int x3, .int v9]) (M2 := M8) rfl trivial ?_
    refine gv_icmp_gt (t := 60) (by decide) (gl_dec ok_X1_nextSpot 23 40 (.if_icmp .gt 20) 3 rfl) (fun c => ?_) (fun c => ?_)
    · replace h := h.1 c
      refine gv_seg ok_X1_nextSpot 34 1 (Ps := []) (pc' := 63) (ls' := [.ref 35, .int x1, .int x2, .int x3, .int (x4 + 1), .int v9]) (st' := []) (M2 := M8) rfl trivial ?_
      refine gv_goto (t := 12) (by decide) (gl_dec ok_X1_nextSpot 35 63 (.goto (-51)) 3 rfl) ?_
      exact gv_weak (ls' := [.ref 35, .int x1, .int x2, .int x3, .int (x4 + 1), .float 0]) ⟨Or.inl rfl, ⟨Or.inl rfl, ⟨Or.inl rfl, ⟨Or.inl rfl, ⟨Or.inl rfl, ⟨Or.inr rfl, trivial⟩⟩⟩⟩⟩⟩ h
    · replace h := h.2 c
      refine gv_seg ok_X1_nextSpot 24 4 (Ps := []) (pc' := 49) (ls' := [.ref 35, .int x1, .int x2, .int x3, .int x4, .int v9]) (st' := [.int x4, .int x2, .ref 35, .int v9]) (M2 := M8) rfl trivial ?_
      refine gv_vcall (M' := m_X1_changeCost) (o := 35) (ci := 1) (As := [.int x2, .int x4]) (st := [.int v9]) (gl_dec ok_X1_nextSpot 28 49 (.invokevirtual 125) 3 rfl) (gl_lnk ok_X1_nextSpot 28 rfl rfl) mw_X1_changeCost iw_X1_changeCost lw_X1_changeCost ⟨by decide, by decide⟩ rfl rfl rfl ⟨rfl, Nat.le_of_ble_eq_true rfl⟩ h (fun r10 M11 hq => ?_)
      obtain ⟨v12, rfl, h⟩ := hq
      change gv l sc m_X1_nextSpot 52 [.ref 35, .int x1, .int x2, .int x3, .int x4, .int v9] [.int v12, .int v9] M11 Q
      refine gv_seg ok_X1_nextSpot 29 2 (Ps := []) (pc' := 54) (ls' := [.ref 35, .int x1, .int x2, .int x3, .int x4, .int v9]) (st' := [.int x3, .int (v9 + v12)]) (M2 := M11) rfl trivial ?_
      refine gv_icmp_ne (t := 60) (by decide) (gl_dec ok_X1_nextSpot 31 54 (.if_icmp .ne 6) 3 rfl) (fun c => ?_) (fun c => ?_)
      · replace h := h.1 c
        refine gv_seg ok_X1_nextSpot 34 1 (Ps := []) (pc' := 63) (ls' := [.ref 35, .int x1, .int x2, .int x3, .int (x4 + 1), .int v9]) (st' := []) (M2 := M11) rfl trivial ?_
        refine gv_goto (t := 12) (by decide) (gl_dec ok_X1_nextSpot 35 63 (.goto (-51)) 3 rfl) ?_
        exact gv_weak (ls' := [.ref 35, .int x1, .int x2, .int x3, .int (x4 + 1), .float 0]) ⟨Or.inl rfl, ⟨Or.inl rfl, ⟨Or.inl rfl, ⟨Or.inl rfl, ⟨Or.inl rfl, ⟨Or.inr rfl, trivial⟩⟩⟩⟩⟩⟩ h
      · replace h := h.2 c
        refine gv_seg ok_X1_nextSpot 32 1 (Ps := []) (pc' := 59) (ls' := [.ref 35, .int x1, .int x2, .int x3, .int x4, .int v9]) (st' := [.int x4]) (M2 := M11) rfl trivial ?_
        exact gv_retI (gl_dec ok_X1_nextSpot 33 59 (.ireturn) 1 rfl) rfl h
set_option maxHeartbeats 400000 in
set_option maxRecDepth 20000 in
theorem w_X1_changeCost_0 (l : Launch) (sc : Nat × (Nat → Int32)) (M : gl_N) (Q : Option Value → gl_N → Prop) (x1 x2 : Int32)
  (h : gr l sc m_X10_scaleOfSpot [.int x1] M (fun r1 M2 => ∃ v3 : Int32, r1 = some (.int v3) ∧ (gr l sc m_X10_scaleOfSpot [.int x2] M2 (fun r4 M5 => ∃ v6 : Int32, r4 = some (.int v6) ∧ ((¬ v3 = v6 → gr l sc m_X10_partOfSpot [.int x2] M5 (fun r7 M8 => ∃ v9 : Int32, r7 = some (.int v9) ∧ (gr l sc m_X0_samePart [.ref 12, .int v6, .int v9, .int v3] M8 (fun r10 M11 => ∃ v12 : Int32, r10 = some (.int v12) ∧ ((¬ v12 = (-1) → gr l sc m_X10_partOfSpot [.int x1] M11 (fun r13 M14 => ∃ v15 : Int32, r13 = some (.int v15) ∧ ((¬ v12 = v15 → Q (some (.int 11)) M14) ∧ (v12 = v15 → Q (some (.int 10)) M14)))) ∧ (v12 = (-1) → Q (some (.int 1000000)) M11)))))) ∧ (v3 = v6 → (¬ x1 = x2 → Q (some (.int 1)) M5) ∧ (x1 = x2 → Q (some (.int 0)) M5))))))) : gv l sc m_X1_changeCost 0 [.ref 35, .int x1, .int x2, .float 0, .float 0, .float 0] [] M Q := by
  refine gv_seg ok_X1_changeCost 0 1 (Ps := []) (pc' := 1) (ls' := [.ref 35, .int x1, .int x2, .float 0, .float 0, .float 0]) (st' := [.int x1]) (M2 := M) rfl trivial ?_
  refine gv_scall (M' := m_X10_scaleOfSpot) (As := [.int x1]) (st := []) (gl_dec ok_X1_changeCost 1 1 (.invokestatic 131) 3 rfl) (gl_lnkS ok_X1_changeCost 1 rfl rfl) mw_X10_scaleOfSpot sw_X10_scaleOfSpot ⟨by decide, by decide⟩ ⟨rfl, Nat.le_of_ble_eq_true rfl⟩ h (fun r1 M2 hq => ?_)
  obtain ⟨v3, rfl, h⟩ := hq
  change gv l sc m_X1_changeCost 4 [.ref 35, .int x1, .int x2, .float 0, .float 0, .float 0] [.int v3] M2 Q
  refine gv_seg ok_X1_changeCost 2 2 (Ps := []) (pc' := 6) (ls' := [.ref 35, .int x1, .int x2, .int v3, .float 0, .float 0]) (st' := [.int x2]) (M2 := M2) rfl trivial ?_
  refine gv_scall (M' := m_X10_scaleOfSpot) (As := [.int x2]) (st := []) (gl_dec ok_X1_changeCost 4 6 (.invokestatic 131) 3 rfl) (gl_lnkS ok_X1_changeCost 4 rfl rfl) mw_X10_scaleOfSpot sw_X10_scaleOfSpot ⟨by decide, by decide⟩ ⟨rfl, Nat.le_of_ble_eq_true rfl⟩ h (fun r4 M5 hq => ?_)
  obtain ⟨v6, rfl, h⟩ := hq
  change gv l sc m_X1_changeCost 9 [.ref 35, .int x1, .int x2, .int v3, .float 0, .float 0] [.int v6] M5 Q
  refine gv_seg ok_X1_changeCost 5 3 (Ps := []) (pc' := 14) (ls' := [.ref 35, .int x1, .int x2, .int v3, .int v6, .float 0]) (st' := [.int v6, .int v3]) (M2 := M5) rfl trivial ?_
  refine gv_icmp_ne (t := 28) (by decide) (gl_dec ok_X1_changeCost 8 14 (.if_icmp .ne 14) 3 rfl) (fun c => ?_) (fun c => ?_)
  · replace h := h.1 c
    refine gv_seg ok_X1_changeCost 16 4 (Ps := []) (pc' := 35) (ls' := [.ref 35, .int x1, .int x2, .int v3, .int v6, .float 0]) (st' := [.int x2, .int v6, .ref 12]) (M2 := M5) rfl trivial ?_
    refine gv_scall (M' := m_X10_partOfSpot) (As := [.int x2]) (st := [.int v6, .ref 12]) (gl_dec ok_X1_changeCost 20 35 (.invokestatic 134) 3 rfl) (gl_lnkS ok_X1_changeCost 20 rfl rfl) mw_X10_partOfSpot sw_X10_partOfSpot ⟨by decide, by decide⟩ ⟨rfl, Nat.le_of_ble_eq_true rfl⟩ h (fun r7 M8 hq => ?_)
    obtain ⟨v9, rfl, h⟩ := hq
    change gv l sc m_X1_changeCost 38 [.ref 35, .int x1, .int x2, .int v3, .int v6, .float 0] [.int v9, .int v6, .ref 12] M8 Q
    refine gv_seg ok_X1_changeCost 21 1 (Ps := []) (pc' := 39) (ls' := [.ref 35, .int x1, .int x2, .int v3, .int v6, .float 0]) (st' := [.int v3, .int v9, .int v6, .ref 12]) (M2 := M8) rfl trivial ?_
    refine gv_vcall (M' := m_X0_samePart) (o := 12) (ci := 0) (As := [.int v6, .int v9, .int v3]) (st := []) (gl_dec ok_X1_changeCost 22 39 (.invokevirtual 137) 3 rfl) (gl_lnk ok_X1_changeCost 22 rfl rfl) mw_X0_samePart iw_X0_samePart lw_X0_samePart ⟨by decide, by decide⟩ rfl rfl rfl ⟨rfl, Nat.le_of_ble_eq_true rfl⟩ h (fun r10 M11 hq => ?_)
    obtain ⟨v12, rfl, h⟩ := hq
    change gv l sc m_X1_changeCost 42 [.ref 35, .int x1, .int x2, .int v3, .int v6, .float 0] [.int v12] M11 Q
    refine gv_seg ok_X1_changeCost 23 3 (Ps := []) (pc' := 47) (ls' := [.ref 35, .int x1, .int x2, .int v3, .int v6, .int v12]) (st' := [.int (-1), .int v12]) (M2 := M11) rfl trivial ?_
    refine gv_icmp_ne (t := 53) (by decide) (gl_dec ok_X1_changeCost 26 47 (.if_icmp .ne 6) 3 rfl) (fun c => ?_) (fun c => ?_)
    · replace h := h.1 c
      refine gv_seg ok_X1_changeCost 29 2 (Ps := []) (pc' := 56) (ls' := [.ref 35, .int x1, .int x2, .int v3, .int v6, .int v12]) (st' := [.int x1, .int v12]) (M2 := M11) rfl trivial ?_
      refine gv_scall (M' := m_X10_partOfSpot) (As := [.int x1]) (st := [.int v12]) (gl_dec ok_X1_changeCost 31 56 (.invokestatic 134) 3 rfl) (gl_lnkS ok_X1_changeCost 31 rfl rfl) mw_X10_partOfSpot sw_X10_partOfSpot ⟨by decide, by decide⟩ ⟨rfl, Nat.le_of_ble_eq_true rfl⟩ h (fun r13 M14 hq => ?_)
      obtain ⟨v15, rfl, h⟩ := hq
      change gv l sc m_X1_changeCost 59 [.ref 35, .int x1, .int x2, .int v3, .int v6, .int v12] [.int v15, .int v12] M14 Q
      refine gv_icmp_ne (t := 67) (by decide) (gl_dec ok_X1_changeCost 32 59 (.if_icmp .ne 8) 3 rfl) (fun c => ?_) (fun c => ?_)
      · replace h := h.1 c
        refine gv_seg ok_X1_changeCost 35 1 (Ps := []) (pc' := 69) (ls' := [.ref 35, .int x1, .int x2, .int v3, .int v6, .int v12]) (st' := [.int 11]) (M2 := M14) rfl trivial ?_
        exact gv_retI (gl_dec ok_X1_changeCost 36 69 (.ireturn) 1 rfl) rfl h
      · replace h := h.2 c
        refine gv_seg ok_X1_changeCost 33 1 (Ps := []) (pc' := 64) (ls' := [.ref 35, .int x1, .int x2, .int v3, .int v6, .int v12]) (st' := [.int 10]) (M2 := M14) rfl trivial ?_
        refine gv_goto (t := 69) (by decide) (gl_dec ok_X1_changeCost 34 64 (.goto 5) 3 rfl) ?_
        exact gv_retI (gl_dec ok_X1_changeCost 36 69 (.ireturn) 1 rfl) rfl h
    · replace h := h.2 c
      refine gv_seg ok_X1_changeCost 27 1 (Ps := []) (pc' := 52) (ls' := [.ref 35, .int x1, .int x2, .int v3, .int v6, .int v12]) (st' := [.int 1000000]) (M2 := M11) rfl trivial ?_
      exact gv_retI (gl_dec ok_X1_changeCost 28 52 (.ireturn) 1 rfl) rfl h
  · replace h := h.2 c
    refine gv_seg ok_X1_changeCost 9 2 (Ps := []) (pc' := 19) (ls' := [.ref 35, .int x1, .int x2, .int v3, .int v6, .float 0]) (st' := [.int x2, .int x1]) (M2 := M5) rfl trivial ?_
    refine gv_icmp_ne (t := 26) (by decide) (gl_dec ok_X1_changeCost 11 19 (.if_icmp .ne 7) 3 rfl) (fun c => ?_) (fun c => ?_)
    · replace h := h.1 c
      refine gv_seg ok_X1_changeCost 14 1 (Ps := []) (pc' := 27) (ls' := [.ref 35, .int x1, .int x2, .int v3, .int v6, .float 0]) (st' := [.int 1]) (M2 := M5) rfl trivial ?_
      exact gv_retI (gl_dec ok_X1_changeCost 15 27 (.ireturn) 1 rfl) rfl h
    · replace h := h.2 c
      refine gv_seg ok_X1_changeCost 12 1 (Ps := []) (pc' := 23) (ls' := [.ref 35, .int x1, .int x2, .int v3, .int v6, .float 0]) (st' := [.int 0]) (M2 := M5) rfl trivial ?_
      refine gv_goto (t := 27) (by decide) (gl_dec ok_X1_changeCost 13 23 (.goto 4) 3 rfl) ?_
      exact gv_retI (gl_dec ok_X1_changeCost 15 27 (.ireturn) 1 rfl) rfl h
theorem e_X1_changeCost (l : Launch) (sc : Nat × (Nat → Int32)) (M : gl_N) (Q : Option Value → gl_N → Prop) (x1 x2 : Int32)
  (h : gr l sc m_X10_scaleOfSpot [.int x1] M (fun r1 M2 => ∃ v3 : Int32, r1 = some (.int v3) ∧ (gr l sc m_X10_scaleOfSpot [.int x2] M2 (fun r4 M5 => ∃ v6 : Int32, r4 = some (.int v6) ∧ ((¬ v3 = v6 → gr l sc m_X10_partOfSpot [.int x2] M5 (fun r7 M8 => ∃ v9 : Int32, r7 = some (.int v9) ∧ (gr l sc m_X0_samePart [.ref 12, .int v6, .int v9, .int v3] M8 (fun r10 M11 => ∃ v12 : Int32, r10 = some (.int v12) ∧ ((¬ v12 = (-1) → gr l sc m_X10_partOfSpot [.int x1] M11 (fun r13 M14 => ∃ v15 : Int32, r13 = some (.int v15) ∧ ((¬ v12 = v15 → Q (some (.int 11)) M14) ∧ (v12 = v15 → Q (some (.int 10)) M14)))) ∧ (v12 = (-1) → Q (some (.int 1000000)) M11)))))) ∧ (v3 = v6 → (¬ x1 = x2 → Q (some (.int 1)) M5) ∧ (x1 = x2 → Q (some (.int 0)) M5))))))) : gr l sc m_X1_changeCost [.ref 35, .int x1, .int x2] M Q :=
  gr_of (by decide +kernel) (Nat.le_of_ble_eq_true rfl) (List.forall_mem_cons.mpr ⟨rfl, (List.forall_mem_cons.mpr ⟨rfl, (List.forall_mem_cons.mpr ⟨rfl, (fun _ h => absurd h List.not_mem_nil)⟩)⟩)⟩) (w_X1_changeCost_0 l sc M Q x1 x2 h)
set_option maxHeartbeats 400000 in
set_option maxRecDepth 20000 in
theorem w_X1_countChange_0 (l : Launch) (sc : Nat × (Nat → Int32)) (M : gl_N) (Q : Option Value → gl_N → Prop) (x1 : Int32)
  (h : Q none (gl_u2 (gl_u2 M 35 7 ((M 35 7) + (x1 / 10))) 35 8 ((M 35 8) + (x1 - x1 / 10 * 10)))) : gv l sc m_X1_countChange 0 [.ref 35, .int x1] [] M Q := by
  refine gv_seg ok_X1_countChange 0 16 (Ps := [¬ (10 : Int32) = 0, ¬ (10 : Int32) = 0]) (pc' := 26) (ls' := [.ref 35, .int x1]) (st' := []) (M2 := (gl_u2 (gl_u2 M 35 7 ((M 35 7) + (x1 / 10))) 35 8 ((M 35 8) + (x1 - x1 / 10 * 10)))) rfl ⟨(show ¬ (10 : Int32) = 0 by decide), (show ¬ (10 : Int32) = 0 by decide)⟩ ?_
  exact gv_retV (gl_dec ok_X1_countChange 16 26 (.return_) 1 rfl) rfl h
theorem e_X1_countChange (l : Launch) (sc : Nat × (Nat → Int32)) (M : gl_N) (Q : Option Value → gl_N → Prop) (x1 : Int32)
  (h : Q none (gl_u2 (gl_u2 M 35 7 ((M 35 7) + (x1 / 10))) 35 8 ((M 35 8) + (x1 - x1 / 10 * 10)))) : gr l sc m_X1_countChange [.ref 35, .int x1] M Q :=
  gr_of (by decide +kernel) (Nat.le_of_ble_eq_true rfl) (List.forall_mem_cons.mpr ⟨rfl, (List.forall_mem_cons.mpr ⟨rfl, (fun _ h => absurd h List.not_mem_nil)⟩)⟩) (w_X1_countChange_0 l sc M Q x1 h)

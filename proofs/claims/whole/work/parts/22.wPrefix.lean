set_option maxHeartbeats 400000 in
set_option maxRecDepth 20000 in
theorem w_X3_longest_0 (l : Launch) (sc : Nat × (Nat → Int32)) (M : gl_N) (Q : Option Value → gl_N → Prop)
  (h : gr l sc m_J_fill [.ref 41, .int 0] M (fun r1 M2 => r1 = none ∧ (gv l sc m_X3_longest 10 [.ref 39, .int 0] [] M2 Q))) : gv l sc m_X3_longest 0 [.ref 39, .float 0] [] M Q := by
  refine gv_seg ok_X3_longest 0 3 (Ps := []) (pc' := 5) (ls' := [.ref 39, .float 0]) (st' := [.int 0, .ref 41]) (M2 := M) rfl trivial ?_
  refine gv_scall (M' := m_J_fill) (As := [.ref 41, .int 0]) (st := []) (gl_dec ok_X3_longest 3 5 (.invokestatic 27) 3 rfl) (gl_lnkS ok_X3_longest 3 rfl rfl) mw_J_fill sw_J_fill ⟨by decide, by decide⟩ ⟨rfl, Nat.le_of_ble_eq_true rfl⟩ h (fun r1 M2 hq => ?_)
  obtain ⟨rfl, h⟩ := hq
  change gv l sc m_X3_longest 8 [.ref 39, .float 0] [] M2 Q
  refine gv_seg ok_X3_longest 4 2 (Ps := []) (pc' := 10) (ls' := [.ref 39, .int 0]) (st' := []) (M2 := M2) rfl trivial ?_
  exact h
theorem e_X3_longest (l : Launch) (sc : Nat × (Nat → Int32)) (M : gl_N) (Q : Option Value → gl_N → Prop)
  (h : gr l sc m_J_fill [.ref 41, .int 0] M (fun r1 M2 => r1 = none ∧ (gv l sc m_X3_longest 10 [.ref 39, .int 0] [] M2 Q))) : gr l sc m_X3_longest [.ref 39] M Q :=
  gr_of (by decide +kernel) (Nat.le_of_ble_eq_true rfl) (List.forall_mem_cons.mpr ⟨rfl, (fun _ h => absurd h List.not_mem_nil)⟩) (w_X3_longest_0 l sc M Q h)
set_option maxHeartbeats 400000 in
set_option maxRecDepth 20000 in
theorem w_X3_longest_10 (l : Launch) (sc : Nat × (Nat → Int32)) (M : gl_N) (Q : Option Value → gl_N → Prop) (x1 : Int32)
  (h : ((M 20 1) ≤ x1 → Q (some (.int (M 20 1))) M) ∧ (¬ (M 20 1) ≤ x1 → gr l sc m_X3_findLive [.ref 39, .int x1] M (fun r1 M2 => ∃ v3 : Int32, r1 = some (.int v3) ∧ ((¬ v3 = 0 → gr l sc m_X3_markFromLive [.ref 39, .int (x1 + 1)] M2 (fun r4 M5 => r4 = none ∧ (gv l sc m_X3_longest 10 [.ref 39, .int (x1 + 1)] [] M5 Q))) ∧ (v3 = 0 → Q (some (.int x1)) M2))))) : gv l sc m_X3_longest 10 [.ref 39, .int x1] [] M Q := by
  refine gv_seg ok_X3_longest 6 4 (Ps := []) (pc' := 18) (ls' := [.ref 39, .int x1]) (st' := [.int (M 20 1), .int x1]) (M2 := M) rfl trivial ?_
  refine gv_icmp_ge (t := 44) (by decide) (gl_dec ok_X3_longest 10 18 (.if_icmp .ge 26) 3 rfl) (fun c => ?_) (fun c => ?_)
  · replace h := h.1 c
    refine gv_seg ok_X3_longest 24 3 (Ps := []) (pc' := 51) (ls' := [.ref 39, .int x1]) (st' := [.int (M 20 1)]) (M2 := M) rfl trivial ?_
    exact gv_retI (gl_dec ok_X3_longest 27 51 (.ireturn) 1 rfl) rfl h
  · replace h := h.2 c
    refine gv_seg ok_X3_longest 11 2 (Ps := []) (pc' := 23) (ls' := [.ref 39, .int x1]) (st' := [.int x1, .ref 39]) (M2 := M) rfl trivial ?_
    refine gv_vcall (M' := m_X3_findLive) (o := 39) (ci := 3) (As := [.int x1]) (st := []) (gl_dec ok_X3_longest 13 23 (.invokevirtual 39) 3 rfl) (gl_lnk ok_X3_longest 13 rfl rfl) mw_X3_findLive iw_X3_findLive lw_X3_findLive ⟨by decide, by decide⟩ rfl rfl rfl ⟨rfl, Nat.le_of_ble_eq_true rfl⟩ h (fun r1 M2 hq => ?_)
    obtain ⟨v3, rfl, h⟩ := hq
    change gv l sc m_X3_longest 26 [.ref 39, .int x1] [.int v3] M2 Q
    refine gv_if_ne (t := 31) (by decide) (gl_dec ok_X3_longest 14 26 (.ifCond .ne 5) 3 rfl) (fun c => ?_) (fun c => ?_)
    · replace h := h.1 c
      refine gv_seg ok_X3_longest 17 4 (Ps := []) (pc' := 35) (ls' := [.ref 39, .int x1]) (st' := [.int (x1 + 1), .ref 39]) (M2 := M2) rfl trivial ?_
      refine gv_vcall (M' := m_X3_markFromLive) (o := 39) (ci := 3) (As := [.int (x1 + 1)]) (st := []) (gl_dec ok_X3_longest 21 35 (.invokevirtual 43) 3 rfl) (gl_lnk ok_X3_longest 21 rfl rfl) mw_X3_markFromLive iw_X3_markFromLive lw_X3_markFromLive ⟨by decide, by decide⟩ rfl rfl rfl ⟨rfl, Nat.le_of_ble_eq_true rfl⟩ h (fun r4 M5 hq => ?_)
      obtain ⟨rfl, h⟩ := hq
      change gv l sc m_X3_longest 38 [.ref 39, .int x1] [] M5 Q
      refine gv_seg ok_X3_longest 22 1 (Ps := []) (pc' := 41) (ls' := [.ref 39, .int (x1 + 1)]) (st' := []) (M2 := M5) rfl trivial ?_
      refine gv_goto (t := 10) (by decide) (gl_dec ok_X3_longest 23 41 (.goto (-31)) 3 rfl) ?_
      exact h
    · replace h := h.2 c
      refine gv_seg ok_X3_longest 15 1 (Ps := []) (pc' := 30) (ls' := [.ref 39, .int x1]) (st' := [.int x1]) (M2 := M2) rfl trivial ?_
      exact gv_retI (gl_dec ok_X3_longest 16 30 (.ireturn) 1 rfl) rfl h
set_option maxHeartbeats 400000 in
set_option maxRecDepth 20000 in
theorem w_X3_findLive_0 (l : Launch) (sc : Nat × (Nat → Int32)) (M : gl_N) (Q : Option Value → gl_N → Prop) (x1 : Int32)
  (h : gv l sc m_X3_findLive 4 [.ref 39, .int x1, .int 0, .int 0, .float 0] [] M Q) : gv l sc m_X3_findLive 0 [.ref 39, .int x1, .float 0, .float 0, .float 0] [] M Q := by
  refine gv_seg ok_X3_findLive 0 4 (Ps := []) (pc' := 4) (ls' := [.ref 39, .int x1, .int 0, .int 0, .float 0]) (st' := []) (M2 := M) rfl trivial ?_
  exact h
theorem e_X3_findLive (l : Launch) (sc : Nat × (Nat → Int32)) (M : gl_N) (Q : Option Value → gl_N → Prop) (x1 : Int32)
  (h : gv l sc m_X3_findLive 4 [.ref 39, .int x1, .int 0, .int 0, .float 0] [] M Q) : gr l sc m_X3_findLive [.ref 39, .int x1] M Q :=
  gr_of (by decide +kernel) (Nat.le_of_ble_eq_true rfl) (List.forall_mem_cons.mpr ⟨rfl, (List.forall_mem_cons.mpr ⟨rfl, (fun _ h => absurd h List.not_mem_nil)⟩)⟩) (w_X3_findLive_0 l sc M Q x1 h)
set_option maxHeartbeats 400000 in
set_option maxRecDepth 20000 in
theorem w_X3_findLive_4 (l : Launch) (sc : Nat × (Nat → Int32)) (M : gl_N) (Q : Option Value → gl_N → Prop) (x1 x2 x3 : Int32)
  (h : gr l sc m_X0_scaleCount [.ref 12] M (fun r1 M2 => ∃ v3 : Int32, r1 = some (.int v3) ∧ ((v3 ≤ x3 → (x2 = 0 ∨ x2 = 1) ∧ Q (some (.int x2)) M2) ∧ (¬ v3 ≤ x3 → (vp_in x3 144) ∧ (gv l sc m_X3_findLive 25 [.ref 39, .int x1, .int x2, .int x3, .int 0] [] (gl_u2 M2 40 (Int32.toNatClampNeg x3) (vp_nar .boolean 0)) Q))))) : gv l sc m_X3_findLive 4 [.ref 39, .int x1, .int x2, .int x3, .float 0] [] M Q := by
  refine gv_seg ok_X3_findLive 4 3 (Ps := []) (pc' := 9) (ls' := [.ref 39, .int x1, .int x2, .int x3, .float 0]) (st' := [.ref 12, .int x3]) (M2 := M) rfl trivial ?_
  refine gv_vcall (M' := m_X0_scaleCount) (o := 12) (ci := 0) (As := []) (st := [.int x3]) (gl_dec ok_X3_findLive 7 9 (.invokevirtual 47) 3 rfl) (gl_lnk ok_X3_findLive 7 rfl rfl) mw_X0_scaleCount iw_X0_scaleCount lw_X0_scaleCount ⟨by decide, by decide⟩ rfl rfl rfl ⟨rfl, Nat.le_of_ble_eq_true rfl⟩ h (fun r1 M2 hq => ?_)
  obtain ⟨v3, rfl, h⟩ := hq
  change gv l sc m_X3_findLive 12 [.ref 39, .int x1, .int x2, .int x3, .float 0] [.int v3, .int x3] M2 Q
  refine gv_icmp_ge (t := 100) (by decide) (gl_dec ok_X3_findLive 8 12 (.if_icmp .ge 88) 3 rfl) (fun c => ?_) (fun c => ?_)
  · replace h := h.1 c
    refine gv_seg ok_X3_findLive 54 1 (Ps := []) (pc' := 101) (ls' := [.ref 39, .int x1, .int x2, .int x3, .float 0]) (st' := [.int x2]) (M2 := M2) rfl trivial ?_
    exact gv_retZ (gl_dec ok_X3_findLive 55 101 (.ireturn) 1 rfl) rfl h.1 h.2
  · replace h := h.2 c
    obtain ⟨hp, h⟩ := h
    refine gv_seg ok_X3_findLive 9 7 (Ps := [vp_in x3 144]) (pc' := 25) (ls' := [.ref 39, .int x1, .int x2, .int x3, .int 0]) (st' := []) (M2 := (gl_u2 M2 40 (Int32.toNatClampNeg x3) (vp_nar .boolean 0))) rfl hp ?_
    exact h
set_option maxHeartbeats 400000 in
set_option maxRecDepth 20000 in
theorem w_X3_findLive_25 (l : Launch) (sc : Nat × (Nat → Int32)) (M : gl_N) (Q : Option Value → gl_N → Prop) (x1 x2 x3 x4 : Int32)
  (h : gr l sc m_X0_partsOf [.ref 12, .int x3] M (fun r1 M2 => ∃ v3 : Int32, r1 = some (.int v3) ∧ ((v3 ≤ x4 → gv l sc m_X3_findLive 4 [.ref 39, .int x1, .int x2, .int (x3 + 1), .float 0] [] M2 Q) ∧ (¬ v3 ≤ x4 → gr l sc m_X0_placedCell [.ref 12, .int x3, .int x4] M2 (fun r4 M5 => ∃ v6 : Int32, r4 = some (.int v6) ∧ ((vp_in v6 486) ∧ ((¬ (M5 41 (Int32.toNatClampNeg v6)) = x1 → gv l sc m_X3_findLive 25 [.ref 39, .int x1, .int x2, .int x3, .int (x4 + 1)] [] M5 Q) ∧ ((M5 41 (Int32.toNatClampNeg v6)) = x1 → (vp_in x1 16) ∧ (gr l sc m_X0_isIn [.ref 12, .int x3, .int x4, .int (M5 21 (Int32.toNatClampNeg x1))] M5 (fun r7 M8 => ∃ v9 : Int32, r7 = some (.int v9) ∧ ((v9 = 0 → gv l sc m_X3_findLive 25 [.ref 39, .int x1, .int x2, .int x3, .int (x4 + 1)] [] M8 Q) ∧ (¬ v9 = 0 → (vp_in x3 144) ∧ (gv l sc m_X3_findLive 25 [.ref 39, .int x1, .int 1, .int x3, .int (x4 + 1)] [] (gl_u2 M8 40 (Int32.toNatClampNeg x3) (vp_nar .boolean 1)) Q))))))))))))) : gv l sc m_X3_findLive 25 [.ref 39, .int x1, .int x2, .int x3, .int x4] [] M Q := by
  refine gv_seg ok_X3_findLive 16 4 (Ps := []) (pc' := 32) (ls' := [.ref 39, .int x1, .int x2, .int x3, .int x4]) (st' := [.int x3, .ref 12, .int x4]) (M2 := M) rfl trivial ?_
  refine gv_vcall (M' := m_X0_partsOf) (o := 12) (ci := 0) (As := [.int x3]) (st := [.int x4]) (gl_dec ok_X3_findLive 20 32 (.invokevirtual 53) 3 rfl) (gl_lnk ok_X3_findLive 20 rfl rfl) mw_X0_partsOf iw_X0_partsOf lw_X0_partsOf ⟨by decide, by decide⟩ rfl rfl rfl ⟨rfl, Nat.le_of_ble_eq_true rfl⟩ h (fun r1 M2 hq => ?_)
  obtain ⟨v3, rfl, h⟩ := hq
  change gv l sc m_X3_findLive 35 [.ref 39, .int x1, .int x2, .int x3, .int x4] [.int v3, .int x4] M2 Q
  refine gv_icmp_ge (t := 94) (by decide) (gl_dec ok_X3_findLive 21 35 (.if_icmp .ge 59) 3 rfl) (fun c => ?_) (fun c => ?_)
  · replace h := h.1 c
    refine gv_seg ok_X3_findLive 52 1 (Ps := []) (pc' := 97) (ls' := [.ref 39, .int x1, .int x2, .int (x3 + 1), .int x4]) (st' := []) (M2 := M2) rfl trivial ?_
    refine gv_goto (t := 4) (by decide) (gl_dec ok_X3_findLive 53 97 (.goto (-93)) 3 rfl) ?_
    exact gv_weak (ls' := [.ref 39, .int x1, .int x2, .int (x3 + 1), .float 0]) ⟨Or.inl rfl, ⟨Or.inl rfl, ⟨Or.inl rfl, ⟨Or.inl rfl, ⟨Or.inr rfl, trivial⟩⟩⟩⟩⟩ h
  · replace h := h.2 c
    refine gv_seg ok_X3_findLive 22 6 (Ps := []) (pc' := 49) (ls' := [.ref 39, .int x1, .int x2, .int x3, .int x4]) (st' := [.int x4, .int x3, .ref 12, .ref 41]) (M2 := M2) rfl trivial ?_
    refine gv_vcall (M' := m_X0_placedCell) (o := 12) (ci := 0) (As := [.int x3, .int x4]) (st := [.ref 41]) (gl_dec ok_X3_findLive 28 49 (.invokevirtual 57) 3 rfl) (gl_lnk ok_X3_findLive 28 rfl rfl) mw_X0_placedCell iw_X0_placedCell lw_X0_placedCell ⟨by decide, by decide⟩ rfl rfl rfl ⟨rfl, Nat.le_of_ble_eq_true rfl⟩ h (fun r4 M5 hq => ?_)
    obtain ⟨v6, rfl, h⟩ := hq
    change gv l sc m_X3_findLive 52 [.ref 39, .int x1, .int x2, .int x3, .int x4] [.int v6, .ref 41] M5 Q
    obtain ⟨hp, h⟩ := h
    refine gv_seg ok_X3_findLive 29 2 (Ps := [vp_in v6 486]) (pc' := 54) (ls' := [.ref 39, .int x1, .int x2, .int x3, .int x4]) (st' := [.int x1, .int (M5 41 (Int32.toNatClampNeg v6))]) (M2 := M5) rfl hp ?_
    refine gv_icmp_ne (t := 88) (by decide) (gl_dec ok_X3_findLive 31 54 (.if_icmp .ne 34) 3 rfl) (fun c => ?_) (fun c => ?_)
    · replace h := h.1 c
      refine gv_seg ok_X3_findLive 50 1 (Ps := []) (pc' := 91) (ls' := [.ref 39, .int x1, .int x2, .int x3, .int (x4 + 1)]) (st' := []) (M2 := M5) rfl trivial ?_
      refine gv_goto (t := 25) (by decide) (gl_dec ok_X3_findLive 51 91 (.goto (-66)) 3 rfl) ?_
      exact h
    · replace h := h.2 c
      obtain ⟨hp, h⟩ := h
      refine gv_seg ok_X3_findLive 32 9 (Ps := [vp_in x1 16]) (pc' := 73) (ls' := [.ref 39, .int x1, .int x2, .int x3, .int x4]) (st' := [.int (M5 21 (Int32.toNatClampNeg x1)), .int x4, .int x3, .ref 12]) (M2 := M5) rfl hp ?_
      refine gv_vcall (M' := m_X0_isIn) (o := 12) (ci := 0) (As := [.int x3, .int x4, .int (M5 21 (Int32.toNatClampNeg x1))]) (st := []) (gl_dec ok_X3_findLive 41 73 (.invokevirtual 64) 3 rfl) (gl_lnk ok_X3_findLive 41 rfl rfl) mw_X0_isIn iw_X0_isIn lw_X0_isIn ⟨by decide, by decide⟩ rfl rfl rfl ⟨rfl, Nat.le_of_ble_eq_true rfl⟩ h (fun r7 M8 hq => ?_)
      obtain ⟨v9, rfl, h⟩ := hq
      change gv l sc m_X3_findLive 76 [.ref 39, .int x1, .int x2, .int x3, .int x4] [.int v9] M8 Q
      refine gv_if_eq (t := 88) (by decide) (gl_dec ok_X3_findLive 42 76 (.ifCond .eq 12) 3 rfl) (fun c => ?_) (fun c => ?_)
      · replace h := h.1 c
        refine gv_seg ok_X3_findLive 50 1 (Ps := []) (pc' := 91) (ls' := [.ref 39, .int x1, .int x2, .int x3, .int (x4 + 1)]) (st' := []) (M2 := M8) rfl trivial ?_
        refine gv_goto (t := 25) (by decide) (gl_dec ok_X3_findLive 51 91 (.goto (-66)) 3 rfl) ?_
        exact h
      · replace h := h.2 c
        obtain ⟨hp, h⟩ := h
        refine gv_seg ok_X3_findLive 43 8 (Ps := [vp_in x3 144]) (pc' := 91) (ls' := [.ref 39, .int x1, .int 1, .int x3, .int (x4 + 1)]) (st' := []) (M2 := (gl_u2 M8 40 (Int32.toNatClampNeg x3) (vp_nar .boolean 1))) rfl hp ?_
        refine gv_goto (t := 25) (by decide) (gl_dec ok_X3_findLive 51 91 (.goto (-66)) 3 rfl) ?_
        exact h
set_option maxHeartbeats 400000 in
set_option maxRecDepth 20000 in
theorem w_X3_markFromLive_0 (l : Launch) (sc : Nat × (Nat → Int32)) (M : gl_N) (Q : Option Value → gl_N → Prop) (x1 : Int32)
  (h : gv l sc m_X3_markFromLive 2 [.ref 39, .int x1, .int 0, .float 0] [] M Q) : gv l sc m_X3_markFromLive 0 [.ref 39, .int x1, .float 0, .float 0] [] M Q := by
  refine gv_seg ok_X3_markFromLive 0 2 (Ps := []) (pc' := 2) (ls' := [.ref 39, .int x1, .int 0, .float 0]) (st' := []) (M2 := M) rfl trivial ?_
  exact h
theorem e_X3_markFromLive (l : Launch) (sc : Nat × (Nat → Int32)) (M : gl_N) (Q : Option Value → gl_N → Prop) (x1 : Int32)
  (h : gv l sc m_X3_markFromLive 2 [.ref 39, .int x1, .int 0, .float 0] [] M Q) : gr l sc m_X3_markFromLive [.ref 39, .int x1] M Q :=
  gr_of (by decide +kernel) (Nat.le_of_ble_eq_true rfl) (List.forall_mem_cons.mpr ⟨rfl, (List.forall_mem_cons.mpr ⟨rfl, (fun _ h => absurd h List.not_mem_nil)⟩)⟩) (w_X3_markFromLive_0 l sc M Q x1 h)
set_option maxHeartbeats 400000 in
set_option maxRecDepth 20000 in
theorem w_X3_markFromLive_2 (l : Launch) (sc : Nat × (Nat → Int32)) (M : gl_N) (Q : Option Value → gl_N → Prop) (x1 x2 : Int32)
  (h : gr l sc m_X0_scaleCount [.ref 12] M (fun r1 M2 => ∃ v3 : Int32, r1 = some (.int v3) ∧ ((v3 ≤ x2 → Q none M2) ∧ (¬ v3 ≤ x2 → gv l sc m_X3_markFromLive 15 [.ref 39, .int x1, .int x2, .int 0] [] M2 Q)))) : gv l sc m_X3_markFromLive 2 [.ref 39, .int x1, .int x2, .float 0] [] M Q := by
  refine gv_seg ok_X3_markFromLive 2 3 (Ps := []) (pc' := 7) (ls' := [.ref 39, .int x1, .int x2, .float 0]) (st' := [.ref 12, .int x2]) (M2 := M) rfl trivial ?_
  refine gv_vcall (M' := m_X0_scaleCount) (o := 12) (ci := 0) (As := []) (st := [.int x2]) (gl_dec ok_X3_markFromLive 5 7 (.invokevirtual 47) 3 rfl) (gl_lnk ok_X3_markFromLive 5 rfl rfl) mw_X0_scaleCount iw_X0_scaleCount lw_X0_scaleCount ⟨by decide, by decide⟩ rfl rfl rfl ⟨rfl, Nat.le_of_ble_eq_true rfl⟩ h (fun r1 M2 hq => ?_)
  obtain ⟨v3, rfl, h⟩ := hq
  change gv l sc m_X3_markFromLive 10 [.ref 39, .int x1, .int x2, .float 0] [.int v3, .int x2] M2 Q
  refine gv_icmp_ge (t := 63) (by decide) (gl_dec ok_X3_markFromLive 6 10 (.if_icmp .ge 53) 3 rfl) (fun c => ?_) (fun c => ?_)
  · replace h := h.1 c
    exact gv_retV (gl_dec ok_X3_markFromLive 33 63 (.return_) 1 rfl) rfl h
  · replace h := h.2 c
    refine gv_seg ok_X3_markFromLive 7 2 (Ps := []) (pc' := 15) (ls' := [.ref 39, .int x1, .int x2, .int 0]) (st' := []) (M2 := M2) rfl trivial ?_
    exact h
set_option maxHeartbeats 400000 in
set_option maxRecDepth 20000 in
theorem w_X3_markFromLive_15 (l : Launch) (sc : Nat × (Nat → Int32)) (M : gl_N) (Q : Option Value → gl_N → Prop) (x1 x2 x3 : Int32)
  (h : (vp_in x2 144) ∧ (((M 40 (Int32.toNatClampNeg x2)) = 0 → gv l sc m_X3_markFromLive 2 [.ref 39, .int x1, .int (x2 + 1), .float 0] [] M Q) ∧ (¬ (M 40 (Int32.toNatClampNeg x2)) = 0 → gr l sc m_X0_partsOf [.ref 12, .int x2] M (fun r1 M2 => ∃ v3 : Int32, r1 = some (.int v3) ∧ ((v3 ≤ x3 → gv l sc m_X3_markFromLive 2 [.ref 39, .int x1, .int (x2 + 1), .float 0] [] M2 Q) ∧ (¬ v3 ≤ x3 → gr l sc m_X0_placedCell [.ref 12, .int x2, .int x3] M2 (fun r4 M5 => ∃ v6 : Int32, r4 = some (.int v6) ∧ ((vp_in v6 486) ∧ (gv l sc m_X3_markFromLive 15 [.ref 39, .int x1, .int x2, .int (x3 + 1)] [] (gl_u2 M5 41 (Int32.toNatClampNeg v6) x1) Q))))))))) : gv l sc m_X3_markFromLive 15 [.ref 39, .int x1, .int x2, .int x3] [] M Q := by
  obtain ⟨hp, h⟩ := h
  refine gv_seg ok_X3_markFromLive 9 4 (Ps := [vp_in x2 144]) (pc' := 21) (ls' := [.ref 39, .int x1, .int x2, .int x3]) (st' := [.int (M 40 (Int32.toNatClampNeg x2))]) (M2 := M) rfl hp ?_
  refine gv_if_eq (t := 57) (by decide) (gl_dec ok_X3_markFromLive 13 21 (.ifCond .eq 36) 3 rfl) (fun c => ?_) (fun c => ?_)
  · replace h := h.1 c
    refine gv_seg ok_X3_markFromLive 31 1 (Ps := []) (pc' := 60) (ls' := [.ref 39, .int x1, .int (x2 + 1), .int x3]) (st' := []) (M2 := M) rfl trivial ?_
    refine gv_goto (t := 2) (by decide) (gl_dec ok_X3_markFromLive 32 60 (.goto (-58)) 3 rfl) ?_
    exact gv_weak (ls' := [.ref 39, .int x1, .int (x2 + 1), .float 0]) ⟨Or.inl rfl, ⟨Or.inl rfl, ⟨Or.inl rfl, ⟨Or.inr rfl, trivial⟩⟩⟩⟩ h
  · replace h := h.2 c
    refine gv_seg ok_X3_markFromLive 14 4 (Ps := []) (pc' := 30) (ls' := [.ref 39, .int x1, .int x2, .int x3]) (st' := [.int x2, .ref 12, .int x3]) (M2 := M) rfl trivial ?_
    refine gv_vcall (M' := m_X0_partsOf) (o := 12) (ci := 0) (As := [.int x2]) (st := [.int x3]) (gl_dec ok_X3_markFromLive 18 30 (.invokevirtual 53) 3 rfl) (gl_lnk ok_X3_markFromLive 18 rfl rfl) mw_X0_partsOf iw_X0_partsOf lw_X0_partsOf ⟨by decide, by decide⟩ rfl rfl rfl ⟨rfl, Nat.le_of_ble_eq_true rfl⟩ h (fun r1 M2 hq => ?_)
    obtain ⟨v3, rfl, h⟩ := hq
    change gv l sc m_X3_markFromLive 33 [.ref 39, .int x1, .int x2, .int x3] [.int v3, .int x3] M2 Q
    refine gv_icmp_ge (t := 57) (by decide) (gl_dec ok_X3_markFromLive 19 33 (.if_icmp .ge 24) 3 rfl) (fun c => ?_) (fun c => ?_)
    · replace h := h.1 c
      refine gv_seg ok_X3_markFromLive 31 1 (Ps := []) (pc' := 60) (ls' := [.ref 39, .int x1, .int (x2 + 1), .int x3]) (st' := []) (M2 := M2) rfl trivial ?_
      refine gv_goto (t := 2) (by decide) (gl_dec ok_X3_markFromLive 32 60 (.goto (-58)) 3 rfl) ?_
      exact gv_weak (ls' := [.ref 39, .int x1, .int (x2 + 1), .float 0]) ⟨Or.inl rfl, ⟨Or.inl rfl, ⟨Or.inl rfl, ⟨Or.inr rfl, trivial⟩⟩⟩⟩ h
    · replace h := h.2 c
      refine gv_seg ok_X3_markFromLive 20 6 (Ps := []) (pc' := 46) (ls' := [.ref 39, .int x1, .int x2, .int x3]) (st' := [.int x3, .int x2, .ref 12, .ref 41]) (M2 := M2) rfl trivial ?_
      refine gv_vcall (M' := m_X0_placedCell) (o := 12) (ci := 0) (As := [.int x2, .int x3]) (st := [.ref 41]) (gl_dec ok_X3_markFromLive 26 46 (.invokevirtual 57) 3 rfl) (gl_lnk ok_X3_markFromLive 26 rfl rfl) mw_X0_placedCell iw_X0_placedCell lw_X0_placedCell ⟨by decide, by decide⟩ rfl rfl rfl ⟨rfl, Nat.le_of_ble_eq_true rfl⟩ h (fun r4 M5 hq => ?_)
      obtain ⟨v6, rfl, h⟩ := hq
      change gv l sc m_X3_markFromLive 49 [.ref 39, .int x1, .int x2, .int x3] [.int v6, .ref 41] M5 Q
      obtain ⟨hp, h⟩ := h
      refine gv_seg ok_X3_markFromLive 27 3 (Ps := [vp_in v6 486]) (pc' := 54) (ls' := [.ref 39, .int x1, .int x2, .int (x3 + 1)]) (st' := []) (M2 := (gl_u2 M5 41 (Int32.toNatClampNeg v6) x1)) rfl hp ?_
      refine gv_goto (t := 15) (by decide) (gl_dec ok_X3_markFromLive 30 54 (.goto (-39)) 3 rfl) ?_
      exact h

set_option maxHeartbeats 400000 in
set_option maxRecDepth 20000 in
theorem w_X9_dropMeasures_0 (l : Launch) (sc : Nat × (Nat → Int32)) (M : gl_N) (Q : Option Value → gl_N → Prop)
  (h : Q none (gl_u2 M 32 4 (-1))) : gv l sc m_X9_dropMeasures 0 [.ref 32] [] M Q := by
  refine gv_seg ok_X9_dropMeasures 0 3 (Ps := []) (pc' := 5) (ls' := [.ref 32]) (st' := []) (M2 := (gl_u2 M 32 4 (-1))) rfl trivial ?_
  exact gv_retV (gl_dec ok_X9_dropMeasures 3 5 (.return_) 1 rfl) rfl h
theorem e_X9_dropMeasures (l : Launch) (sc : Nat × (Nat → Int32)) (M : gl_N) (Q : Option Value → gl_N → Prop)
  (h : Q none (gl_u2 M 32 4 (-1))) : gr l sc m_X9_dropMeasures [.ref 32] M Q :=
  gr_of (by decide +kernel) (Nat.le_of_ble_eq_true rfl) (List.forall_mem_cons.mpr ⟨rfl, (fun _ h => absurd h List.not_mem_nil)⟩) (w_X9_dropMeasures_0 l sc M Q h)
set_option maxHeartbeats 400000 in
set_option maxRecDepth 20000 in
theorem w_X9_measureFrom_0 (l : Launch) (sc : Nat × (Nat → Int32)) (M : gl_N) (Q : Option Value → gl_N → Prop) (x1 : Int32)
  (h : (¬ (M 32 4) = x1 → gr l sc m_J_fill [.ref 33, .int 0] (gl_u2 M 32 4 x1) (fun r1 M2 => r1 = none ∧ (gr l sc m_X9_enqueue [.ref 32, .int x1, .int 1] (gl_u2 M2 32 3 0) (fun r3 M4 => r3 = none ∧ (gv l sc m_X9_measureFrom 35 [.ref 32, .int x1, .int 0, .float 0] [] M4 Q))))) ∧ ((M 32 4) = x1 → Q none M)) : gv l sc m_X9_measureFrom 0 [.ref 32, .int x1, .float 0, .float 0] [] M Q := by
  refine gv_seg ok_X9_measureFrom 0 3 (Ps := []) (pc' := 5) (ls' := [.ref 32, .int x1, .float 0, .float 0]) (st' := [.int x1, .int (M 32 4)]) (M2 := M) rfl trivial ?_
  refine gv_icmp_ne (t := 9) (by decide) (gl_dec ok_X9_measureFrom 3 5 (.if_icmp .ne 4) 3 rfl) (fun c => ?_) (fun c => ?_)
  · replace h := h.1 c
    refine gv_seg ok_X9_measureFrom 5 6 (Ps := []) (pc' := 19) (ls' := [.ref 32, .int x1, .float 0, .float 0]) (st' := [.int 0, .ref 33]) (M2 := (gl_u2 M 32 4 x1)) rfl trivial ?_
    refine gv_scall (M' := m_J_fill) (As := [.ref 33, .int 0]) (st := []) (gl_dec ok_X9_measureFrom 11 19 (.invokestatic 29) 3 rfl) (gl_lnkS ok_X9_measureFrom 11 rfl rfl) mw_J_fill sw_J_fill ⟨by decide, by decide⟩ ⟨rfl, Nat.le_of_ble_eq_true rfl⟩ h (fun r1 M2 hq => ?_)
    obtain ⟨rfl, h⟩ := hq
    change gv l sc m_X9_measureFrom 22 [.ref 32, .int x1, .float 0, .float 0] [] M2 Q
    refine gv_seg ok_X9_measureFrom 12 6 (Ps := []) (pc' := 30) (ls' := [.ref 32, .int x1, .float 0, .float 0]) (st' := [.int 1, .int x1, .ref 32]) (M2 := (gl_u2 M2 32 3 0)) rfl trivial ?_
    refine gv_vcall (M' := m_X9_enqueue) (o := 32) (ci := 9) (As := [.int x1, .int 1]) (st := []) (gl_dec ok_X9_measureFrom 18 30 (.invokevirtual 35) 3 rfl) (gl_lnk ok_X9_measureFrom 18 rfl rfl) mw_X9_enqueue iw_X9_enqueue lw_X9_enqueue ⟨by decide, by decide⟩ rfl rfl rfl ⟨rfl, Nat.le_of_ble_eq_true rfl⟩ h (fun r3 M4 hq => ?_)
    obtain ⟨rfl, h⟩ := hq
    change gv l sc m_X9_measureFrom 33 [.ref 32, .int x1, .float 0, .float 0] [] M4 Q
    refine gv_seg ok_X9_measureFrom 19 2 (Ps := []) (pc' := 35) (ls' := [.ref 32, .int x1, .int 0, .float 0]) (st' := []) (M2 := M4) rfl trivial ?_
    exact h
  · replace h := h.2 c
    exact gv_retV (gl_dec ok_X9_measureFrom 4 8 (.return_) 1 rfl) rfl h
theorem e_X9_measureFrom (l : Launch) (sc : Nat × (Nat → Int32)) (M : gl_N) (Q : Option Value → gl_N → Prop) (x1 : Int32)
  (h : (¬ (M 32 4) = x1 → gr l sc m_J_fill [.ref 33, .int 0] (gl_u2 M 32 4 x1) (fun r1 M2 => r1 = none ∧ (gr l sc m_X9_enqueue [.ref 32, .int x1, .int 1] (gl_u2 M2 32 3 0) (fun r3 M4 => r3 = none ∧ (gv l sc m_X9_measureFrom 35 [.ref 32, .int x1, .int 0, .float 0] [] M4 Q))))) ∧ ((M 32 4) = x1 → Q none M)) : gr l sc m_X9_measureFrom [.ref 32, .int x1] M Q :=
  gr_of (by decide +kernel) (Nat.le_of_ble_eq_true rfl) (List.forall_mem_cons.mpr ⟨rfl, (List.forall_mem_cons.mpr ⟨rfl, (fun _ h => absurd h List.not_mem_nil)⟩)⟩) (w_X9_measureFrom_0 l sc M Q x1 h)
set_option maxHeartbeats 400000 in
set_option maxRecDepth 20000 in
theorem w_X9_measureFrom_35 (l : Launch) (sc : Nat × (Nat → Int32)) (M : gl_N) (Q : Option Value → gl_N → Prop) (x1 x2 : Int32)
  (h : ((M 32 3) ≤ x2 → Q none M) ∧ (¬ (M 32 3) ≤ x2 → (144 ≤ x2 → Q none M) ∧ (¬ 144 ≤ x2 → gv l sc m_X9_measureFrom 52 [.ref 32, .int x1, .int x2, .int 0] [] M Q))) : gv l sc m_X9_measureFrom 35 [.ref 32, .int x1, .int x2, .float 0] [] M Q := by
  refine gv_seg ok_X9_measureFrom 21 3 (Ps := []) (pc' := 40) (ls' := [.ref 32, .int x1, .int x2, .float 0]) (st' := [.int (M 32 3), .int x2]) (M2 := M) rfl trivial ?_
  refine gv_icmp_ge (t := 92) (by decide) (gl_dec ok_X9_measureFrom 24 40 (.if_icmp .ge 52) 3 rfl) (fun c => ?_) (fun c => ?_)
  · replace h := h.1 c
    exact gv_retV (gl_dec ok_X9_measureFrom 50 92 (.return_) 1 rfl) rfl h
  · replace h := h.2 c
    refine gv_seg ok_X9_measureFrom 25 2 (Ps := []) (pc' := 47) (ls' := [.ref 32, .int x1, .int x2, .float 0]) (st' := [.int 144, .int x2]) (M2 := M) rfl trivial ?_
    refine gv_icmp_ge (t := 92) (by decide) (gl_dec ok_X9_measureFrom 27 47 (.if_icmp .ge 45) 3 rfl) (fun c => ?_) (fun c => ?_)
    · replace h := h.1 c
      exact gv_retV (gl_dec ok_X9_measureFrom 50 92 (.return_) 1 rfl) rfl h
    · replace h := h.2 c
      refine gv_seg ok_X9_measureFrom 28 2 (Ps := []) (pc' := 52) (ls' := [.ref 32, .int x1, .int x2, .int 0]) (st' := []) (M2 := M) rfl trivial ?_
      exact h
set_option maxHeartbeats 400000 in
set_option maxRecDepth 20000 in
theorem w_X9_measureFrom_52 (l : Launch) (sc : Nat × (Nat → Int32)) (M : gl_N) (Q : Option Value → gl_N → Prop) (x1 x2 x3 : Int32)
  (h : (vp_in x2 144) ∧ (gr l sc m_X0_partsOf [.ref 12, .int (M 34 (Int32.toNatClampNeg x2))] M (fun r1 M2 => ∃ v3 : Int32, r1 = some (.int v3) ∧ ((v3 ≤ x3 → gv l sc m_X9_measureFrom 35 [.ref 32, .int x1, .int (x2 + 1), .float 0] [] M2 Q) ∧ (¬ v3 ≤ x3 → (vp_in x2 144) ∧ (gr l sc m_X9_enqueueSharers [.ref 32, .int (M2 34 (Int32.toNatClampNeg x2)), .int x3] M2 (fun r4 M5 => r4 = none ∧ (gv l sc m_X9_measureFrom 52 [.ref 32, .int x1, .int x2, .int (x3 + 1)] [] M5 Q)))))))) : gv l sc m_X9_measureFrom 52 [.ref 32, .int x1, .int x2, .int x3] [] M Q := by
  obtain ⟨hp, h⟩ := h
  refine gv_seg ok_X9_measureFrom 30 7 (Ps := [vp_in x2 144]) (pc' := 63) (ls' := [.ref 32, .int x1, .int x2, .int x3]) (st' := [.int (M 34 (Int32.toNatClampNeg x2)), .ref 12, .int x3]) (M2 := M) rfl hp ?_
  refine gv_vcall (M' := m_X0_partsOf) (o := 12) (ci := 0) (As := [.int (M 34 (Int32.toNatClampNeg x2))]) (st := [.int x3]) (gl_dec ok_X9_measureFrom 37 63 (.invokevirtual 39) 3 rfl) (gl_lnk ok_X9_measureFrom 37 rfl rfl) mw_X0_partsOf iw_X0_partsOf lw_X0_partsOf ⟨by decide, by decide⟩ rfl rfl rfl ⟨rfl, Nat.le_of_ble_eq_true rfl⟩ h (fun r1 M2 hq => ?_)
  obtain ⟨v3, rfl, h⟩ := hq
  change gv l sc m_X9_measureFrom 66 [.ref 32, .int x1, .int x2, .int x3] [.int v3, .int x3] M2 Q
  refine gv_icmp_ge (t := 86) (by decide) (gl_dec ok_X9_measureFrom 38 66 (.if_icmp .ge 20) 3 rfl) (fun c => ?_) (fun c => ?_)
  · replace h := h.1 c
    refine gv_seg ok_X9_measureFrom 48 1 (Ps := []) (pc' := 89) (ls' := [.ref 32, .int x1, .int (x2 + 1), .int x3]) (st' := []) (M2 := M2) rfl trivial ?_
    refine gv_goto (t := 35) (by decide) (gl_dec ok_X9_measureFrom 49 89 (.goto (-54)) 3 rfl) ?_
    exact gv_weak (ls' := [.ref 32, .int x1, .int (x2 + 1), .float 0]) ⟨Or.inl rfl, ⟨Or.inl rfl, ⟨Or.inl rfl, ⟨Or.inr rfl, trivial⟩⟩⟩⟩ h
  · replace h := h.2 c
    obtain ⟨hp, h⟩ := h
    refine gv_seg ok_X9_measureFrom 39 6 (Ps := [vp_in x2 144]) (pc' := 77) (ls' := [.ref 32, .int x1, .int x2, .int x3]) (st' := [.int x3, .int (M2 34 (Int32.toNatClampNeg x2)), .ref 32]) (M2 := M2) rfl hp ?_
    refine gv_vcall (M' := m_X9_enqueueSharers) (o := 32) (ci := 9) (As := [.int (M2 34 (Int32.toNatClampNeg x2)), .int x3]) (st := []) (gl_dec ok_X9_measureFrom 45 77 (.invokevirtual 45) 3 rfl) (gl_lnk ok_X9_measureFrom 45 rfl rfl) mw_X9_enqueueSharers iw_X9_enqueueSharers lw_X9_enqueueSharers ⟨by decide, by decide⟩ rfl rfl rfl ⟨rfl, Nat.le_of_ble_eq_true rfl⟩ h (fun r4 M5 hq => ?_)
    obtain ⟨rfl, h⟩ := hq
    change gv l sc m_X9_measureFrom 80 [.ref 32, .int x1, .int x2, .int x3] [] M5 Q
    refine gv_seg ok_X9_measureFrom 46 1 (Ps := []) (pc' := 83) (ls' := [.ref 32, .int x1, .int x2, .int (x3 + 1)]) (st' := []) (M2 := M5) rfl trivial ?_
    refine gv_goto (t := 52) (by decide) (gl_dec ok_X9_measureFrom 47 83 (.goto (-31)) 3 rfl) ?_
    exact h
set_option maxHeartbeats 400000 in
set_option maxRecDepth 20000 in
theorem w_X9_enqueueSharers_0 (l : Launch) (sc : Nat × (Nat → Int32)) (M : gl_N) (Q : Option Value → gl_N → Prop) (x1 x2 : Int32)
  (h : gr l sc m_X0_cellAt [.ref 12, .int x1, .int x2] M (fun r1 M2 => ∃ v3 : Int32, r1 = some (.int v3) ∧ (gr l sc m_X0_pitchAt [.ref 12, .int x1, .int x2] M2 (fun r4 M5 => ∃ v6 : Int32, r4 = some (.int v6) ∧ (gv l sc m_X9_enqueueSharers 24 [.ref 32, .int x1, .int x2, .int v3, .int v6, .int 0, .float 0, .float 0] [] M5 Q))))) : gv l sc m_X9_enqueueSharers 0 [.ref 32, .int x1, .int x2, .float 0, .float 0, .float 0, .float 0, .float 0] [] M Q := by
  refine gv_seg ok_X9_enqueueSharers 0 4 (Ps := []) (pc' := 6) (ls' := [.ref 32, .int x1, .int x2, .float 0, .float 0, .float 0, .float 0, .float 0]) (st' := [.int x2, .int x1, .ref 12]) (M2 := M) rfl trivial ?_
  refine gv_vcall (M' := m_X0_cellAt) (o := 12) (ci := 0) (As := [.int x1, .int x2]) (st := []) (gl_dec ok_X9_enqueueSharers 4 6 (.invokevirtual 48) 3 rfl) (gl_lnk ok_X9_enqueueSharers 4 rfl rfl) mw_X0_cellAt iw_X0_cellAt lw_X0_cellAt ⟨by decide, by decide⟩ rfl rfl rfl ⟨rfl, Nat.le_of_ble_eq_true rfl⟩ h (fun r1 M2 hq => ?_)
  obtain ⟨v3, rfl, h⟩ := hq
  change gv l sc m_X9_enqueueSharers 9 [.ref 32, .int x1, .int x2, .float 0, .float 0, .float 0, .float 0, .float 0] [.int v3] M2 Q
  refine gv_seg ok_X9_enqueueSharers 5 5 (Ps := []) (pc' := 16) (ls' := [.ref 32, .int x1, .int x2, .int v3, .float 0, .float 0, .float 0, .float 0]) (st' := [.int x2, .int x1, .ref 12]) (M2 := M2) rfl trivial ?_
  refine gv_vcall (M' := m_X0_pitchAt) (o := 12) (ci := 0) (As := [.int x1, .int x2]) (st := []) (gl_dec ok_X9_enqueueSharers 10 16 (.invokevirtual 52) 3 rfl) (gl_lnk ok_X9_enqueueSharers 10 rfl rfl) mw_X0_pitchAt iw_X0_pitchAt lw_X0_pitchAt ⟨by decide, by decide⟩ rfl rfl rfl ⟨rfl, Nat.le_of_ble_eq_true rfl⟩ h (fun r4 M5 hq => ?_)
  obtain ⟨v6, rfl, h⟩ := hq
  change gv l sc m_X9_enqueueSharers 19 [.ref 32, .int x1, .int x2, .int v3, .float 0, .float 0, .float 0, .float 0] [.int v6] M5 Q
  refine gv_seg ok_X9_enqueueSharers 11 3 (Ps := []) (pc' := 24) (ls' := [.ref 32, .int x1, .int x2, .int v3, .int v6, .int 0, .float 0, .float 0]) (st' := []) (M2 := M5) rfl trivial ?_
  exact h
theorem e_X9_enqueueSharers (l : Launch) (sc : Nat × (Nat → Int32)) (M : gl_N) (Q : Option Value → gl_N → Prop) (x1 x2 : Int32)
  (h : gr l sc m_X0_cellAt [.ref 12, .int x1, .int x2] M (fun r1 M2 => ∃ v3 : Int32, r1 = some (.int v3) ∧ (gr l sc m_X0_pitchAt [.ref 12, .int x1, .int x2] M2 (fun r4 M5 => ∃ v6 : Int32, r4 = some (.int v6) ∧ (gv l sc m_X9_enqueueSharers 24 [.ref 32, .int x1, .int x2, .int v3, .int v6, .int 0, .float 0, .float 0] [] M5 Q))))) : gr l sc m_X9_enqueueSharers [.ref 32, .int x1, .int x2] M Q :=
  gr_of (by decide +kernel) (Nat.le_of_ble_eq_true rfl) (List.forall_mem_cons.mpr ⟨rfl, (List.forall_mem_cons.mpr ⟨rfl, (List.forall_mem_cons.mpr ⟨rfl, (fun _ h => absurd h List.not_mem_nil)⟩)⟩)⟩) (w_X9_enqueueSharers_0 l sc M Q x1 x2 h)
set_option maxHeartbeats 400000 in
set_option maxRecDepth 20000 in
theorem w_X9_enqueueSharers_24 (l : Launch) (sc : Nat × (Nat → Int32)) (M : gl_N) (Q : Option Value → gl_N → Prop) (x1 x2 x3 x4 x5 : Int32)
  (h : ((M 12 5) ≤ x5 → Q none M) ∧ (¬ (M 12 5) ≤ x5 → gv l sc m_X9_enqueueSharers 39 [.ref 32, .int x1, .int x2, .int x3, .int x4, .int x5, .int 0, .float 0] [] M Q)) : gv l sc m_X9_enqueueSharers 24 [.ref 32, .int x1, .int x2, .int x3, .int x4, .int x5, .float 0, .float 0] [] M Q := by
  refine gv_seg ok_X9_enqueueSharers 14 4 (Ps := []) (pc' := 33) (ls' := [.ref 32, .int x1, .int x2, .int x3, .int x4, .int x5, .float 0, .float 0]) (st' := [.int (M 12 5), .int x5]) (M2 := M) rfl trivial ?_
  refine gv_icmp_ge (t := 136) (by decide) (gl_dec ok_X9_enqueueSharers 18 33 (.if_icmp .ge 103) 3 rfl) (fun c => ?_) (fun c => ?_)
  · replace h := h.1 c
    exact gv_retV (gl_dec ok_X9_enqueueSharers 73 136 (.return_) 1 rfl) rfl h
  · replace h := h.2 c
    refine gv_seg ok_X9_enqueueSharers 19 2 (Ps := []) (pc' := 39) (ls' := [.ref 32, .int x1, .int x2, .int x3, .int x4, .int x5, .int 0, .float 0]) (st' := []) (M2 := M) rfl trivial ?_
    exact h
set_option maxHeartbeats 400000 in
set_option maxRecDepth 20000 in
theorem w_X9_enqueueSharers_39 (l : Launch) (sc : Nat × (Nat → Int32)) (M : gl_N) (Q : Option Value → gl_N → Prop) (x1 x2 x3 x4 x5 x6 : Int32)
  (h : (vp_in x5 6) ∧ (((M 17 (Int32.toNatClampNeg x5)) ≤ x6 → gv l sc m_X9_enqueueSharers 24 [.ref 32, .int x1, .int x2, .int x3, .int x4, .int (x5 + 1), .float 0, .float 0] [] M Q) ∧ (¬ (M 17 (Int32.toNatClampNeg x5)) ≤ x6 → (vp_in ((x5 * 4) + x6) 24 ∧ vp_in ((x5 * 4) + x6) 24) ∧ ((¬ (M 18 (Int32.toNatClampNeg ((x5 * 4) + x6))) = x3 → gv l sc m_X9_enqueueSharers 39 [.ref 32, .int x1, .int x2, .int x3, .int x4, .int x5, .int (x6 + 1), .float 0] [] M Q) ∧ ((M 18 (Int32.toNatClampNeg ((x5 * 4) + x6))) = x3 → gr l sc m_X10_within [.int (x4 - (M 19 (Int32.toNatClampNeg ((x5 * 4) + x6)))), .int 0, .int 23] M (fun r1 M2 => ∃ v3 : Int32, r1 = some (.int v3) ∧ ((v3 = 0 → gv l sc m_X9_enqueueSharers 39 [.ref 32, .int x1, .int x2, .int x3, .int x4, .int x5, .int (x6 + 1), .float 0] [] M2 Q) ∧ (¬ v3 = 0 → (vp_in x1 144) ∧ (gr l sc m_X9_enqueue [.ref 32, .int ((x5 * 24) + (x4 - (M 19 (Int32.toNatClampNeg ((x5 * 4) + x6))))), .int ((M2 33 (Int32.toNatClampNeg x1)) + 1)] M2 (fun r4 M5 => r4 = none ∧ (gv l sc m_X9_enqueueSharers 39 [.ref 32, .int x1, .int x2, .int x3, .int x4, .int x5, .int (x6 + 1), .float 0] [] M5 Q))))))))))) : gv l sc m_X9_enqueueSharers 39 [.ref 32, .int x1, .int x2, .int x3, .int x4, .int x5, .int x6, .float 0] [] M Q := by
  obtain ⟨hp, h⟩ := h
  refine gv_seg ok_X9_enqueueSharers 21 6 (Ps := [vp_in x5 6]) (pc' := 51) (ls' := [.ref 32, .int x1, .int x2, .int x3, .int x4, .int x5, .int x6, .float 0]) (st' := [.int (M 17 (Int32.toNatClampNeg x5)), .int x6]) (M2 := M) rfl hp ?_
  refine gv_icmp_ge (t := 130) (by decide) (gl_dec ok_X9_enqueueSharers 27 51 (.if_icmp .ge 79) 3 rfl) (fun c => ?_) (fun c => ?_)
  · replace h := h.1 c
    refine gv_seg ok_X9_enqueueSharers 71 1 (Ps := []) (pc' := 133) (ls' := [.ref 32, .int x1, .int x2, .int x3, .int x4, .int (x5 + 1), .int x6, .float 0]) (st' := []) (M2 := M) rfl trivial ?_
    refine gv_goto (t := 24) (by decide) (gl_dec ok_X9_enqueueSharers 72 133 (.goto (-109)) 3 rfl) ?_
    exact gv_weak (ls' := [.ref 32, .int x1, .int x2, .int x3, .int x4, .int (x5 + 1), .float 0, .float 0]) ⟨Or.inl rfl, ⟨Or.inl rfl, ⟨Or.inl rfl, ⟨Or.inl rfl, ⟨Or.inl rfl, ⟨Or.inl rfl, ⟨Or.inr rfl, ⟨Or.inl rfl, trivial⟩⟩⟩⟩⟩⟩⟩⟩ h
  · replace h := h.2 c
    obtain ⟨hp, h⟩ := h
    refine gv_seg ok_X9_enqueueSharers 28 22 (Ps := [vp_in ((x5 * 4) + x6) 24, vp_in ((x5 * 4) + x6) 24]) (pc' := 90) (ls' := [.ref 32, .int x1, .int x2, .int x3, .int x4, .int x5, .int x6, .int (x4 - (M 19 (Int32.toNatClampNeg ((x5 * 4) + x6))))]) (st' := [.int x3, .int (M 18 (Int32.toNatClampNeg ((x5 * 4) + x6)))]) (M2 := M) rfl ⟨hp.1, hp.2⟩ ?_
    refine gv_icmp_ne (t := 124) (by decide) (gl_dec ok_X9_enqueueSharers 50 90 (.if_icmp .ne 34) 3 rfl) (fun c => ?_) (fun c => ?_)
    · replace h := h.1 c
      refine gv_seg ok_X9_enqueueSharers 69 1 (Ps := []) (pc' := 127) (ls' := [.ref 32, .int x1, .int x2, .int x3, .int x4, .int x5, .int (x6 + 1), .int (x4 - (M 19 (Int32.toNatClampNeg ((x5 * 4) + x6))))]) (st' := []) (M2 := M) rfl trivial ?_
      refine gv_goto (t := 39) (by decide) (gl_dec ok_X9_enqueueSharers 70 127 (.goto (-88)) 3 rfl) ?_
      exact gv_weak (ls' := [.ref 32, .int x1, .int x2, .int x3, .int x4, .int x5, .int (x6 + 1), .float 0]) ⟨Or.inl rfl, ⟨Or.inl rfl, ⟨Or.inl rfl, ⟨Or.inl rfl, ⟨Or.inl rfl, ⟨Or.inl rfl, ⟨Or.inl rfl, ⟨Or.inr rfl, trivial⟩⟩⟩⟩⟩⟩⟩⟩ h
    · replace h := h.2 c
      refine gv_seg ok_X9_enqueueSharers 51 3 (Ps := []) (pc' := 98) (ls' := [.ref 32, .int x1, .int x2, .int x3, .int x4, .int x5, .int x6, .int (x4 - (M 19 (Int32.toNatClampNeg ((x5 * 4) + x6))))]) (st' := [.int 23, .int 0, .int (x4 - (M 19 (Int32.toNatClampNeg ((x5 * 4) + x6))))]) (M2 := M) rfl trivial ?_
      refine gv_scall (M' := m_X10_within) (As := [.int (x4 - (M 19 (Int32.toNatClampNeg ((x5 * 4) + x6)))), .int 0, .int 23]) (st := []) (gl_dec ok_X9_enqueueSharers 54 98 (.invokestatic 67) 3 rfl) (gl_lnkS ok_X9_enqueueSharers 54 rfl rfl) mw_X10_within sw_X10_within ⟨by decide, by decide⟩ ⟨rfl, Nat.le_of_ble_eq_true rfl⟩ h (fun r1 M2 hq => ?_)
      obtain ⟨v3, rfl, h⟩ := hq
      change gv l sc m_X9_enqueueSharers 101 [.ref 32, .int x1, .int x2, .int x3, .int x4, .int x5, .int x6, .int (x4 - (M 19 (Int32.toNatClampNeg ((x5 * 4) + x6))))] [.int v3] M2 Q
      refine gv_if_eq (t := 124) (by decide) (gl_dec ok_X9_enqueueSharers 55 101 (.ifCond .eq 23) 3 rfl) (fun c => ?_) (fun c => ?_)
      · replace h := h.1 c
        refine gv_seg ok_X9_enqueueSharers 69 1 (Ps := []) (pc' := 127) (ls' := [.ref 32, .int x1, .int x2, .int x3, .int x4, .int x5, .int (x6 + 1), .int (x4 - (M 19 (Int32.toNatClampNeg ((x5 * 4) + x6))))]) (st' := []) (M2 := M2) rfl trivial ?_
        refine gv_goto (t := 39) (by decide) (gl_dec ok_X9_enqueueSharers 70 127 (.goto (-88)) 3 rfl) ?_
        exact gv_weak (ls' := [.ref 32, .int x1, .int x2, .int x3, .int x4, .int x5, .int (x6 + 1), .float 0]) ⟨Or.inl rfl, ⟨Or.inl rfl, ⟨Or.inl rfl, ⟨Or.inl rfl, ⟨Or.inl rfl, ⟨Or.inl rfl, ⟨Or.inl rfl, ⟨Or.inr rfl, trivial⟩⟩⟩⟩⟩⟩⟩⟩ h
      · replace h := h.2 c
        obtain ⟨hp, h⟩ := h
        refine gv_seg ok_X9_enqueueSharers 56 12 (Ps := [vp_in x1 144]) (pc' := 121) (ls' := [.ref 32, .int x1, .int x2, .int x3, .int x4, .int x5, .int x6, .int (x4 - (M 19 (Int32.toNatClampNeg ((x5 * 4) + x6))))]) (st' := [.int ((M2 33 (Int32.toNatClampNeg x1)) + 1), .int ((x5 * 24) + (x4 - (M 19 (Int32.toNatClampNeg ((x5 * 4) + x6))))), .ref 32]) (M2 := M2) rfl hp ?_
        refine gv_vcall (M' := m_X9_enqueue) (o := 32) (ci := 9) (As := [.int ((x5 * 24) + (x4 - (M 19 (Int32.toNatClampNeg ((x5 * 4) + x6))))), .int ((M2 33 (Int32.toNatClampNeg x1)) + 1)]) (st := []) (gl_dec ok_X9_enqueueSharers 68 121 (.invokevirtual 35) 3 rfl) (gl_lnk ok_X9_enqueueSharers 68 rfl rfl) mw_X9_enqueue iw_X9_enqueue lw_X9_enqueue ⟨by decide, by decide⟩ rfl rfl rfl ⟨rfl, Nat.le_of_ble_eq_true rfl⟩ h (fun r4 M5 hq => ?_)
        obtain ⟨rfl, h⟩ := hq
        change gv l sc m_X9_enqueueSharers 124 [.ref 32, .int x1, .int x2, .int x3, .int x4, .int x5, .int x6, .int (x4 - (M 19 (Int32.toNatClampNeg ((x5 * 4) + x6))))] [] M5 Q
        refine gv_seg ok_X9_enqueueSharers 69 1 (Ps := []) (pc' := 127) (ls' := [.ref 32, .int x1, .int x2, .int x3, .int x4, .int x5, .int (x6 + 1), .int (x4 - (M 19 (Int32.toNatClampNeg ((x5 * 4) + x6))))]) (st' := []) (M2 := M5) rfl trivial ?_
        refine gv_goto (t := 39) (by decide) (gl_dec ok_X9_enqueueSharers 70 127 (.goto (-88)) 3 rfl) ?_
        exact gv_weak (ls' := [.ref 32, .int x1, .int x2, .int x3, .int x4, .int x5, .int (x6 + 1), .float 0]) ⟨Or.inl rfl, ⟨Or.inl rfl, ⟨Or.inl rfl, ⟨Or.inl rfl, ⟨Or.inl rfl, ⟨Or.inl rfl, ⟨Or.inl rfl, ⟨Or.inr rfl, trivial⟩⟩⟩⟩⟩⟩⟩⟩ h
set_option maxHeartbeats 400000 in
set_option maxRecDepth 20000 in
theorem w_X9_enqueue_0 (l : Launch) (sc : Nat × (Nat → Int32)) (M : gl_N) (Q : Option Value → gl_N → Prop) (x1 x2 : Int32)
  (h : (vp_in x1 144) ∧ ((¬ (M 33 (Int32.toNatClampNeg x1)) = 0 → Q none M) ∧ ((M 33 (Int32.toNatClampNeg x1)) = 0 → (144 ≤ (M 32 3) → Q none M) ∧ (¬ 144 ≤ (M 32 3) → (vp_in x1 144 ∧ vp_in (M 32 3) 144) ∧ (Q none (gl_u2 (gl_u2 (gl_u2 M 33 (Int32.toNatClampNeg x1) x2) 34 (Int32.toNatClampNeg (M 32 3)) x1) 32 3 ((M 32 3) + 1))))))) : gv l sc m_X9_enqueue 0 [.ref 32, .int x1, .int x2] [] M Q := by
  obtain ⟨hp, h⟩ := h
  refine gv_seg ok_X9_enqueue 0 4 (Ps := [vp_in x1 144]) (pc' := 6) (ls' := [.ref 32, .int x1, .int x2]) (st' := [.int (M 33 (Int32.toNatClampNeg x1))]) (M2 := M) rfl hp ?_
  refine gv_if_ne (t := 46) (by decide) (gl_dec ok_X9_enqueue 4 6 (.ifCond .ne 40) 3 rfl) (fun c => ?_) (fun c => ?_)
  · replace h := h.1 c
    exact gv_retV (gl_dec ok_X9_enqueue 26 46 (.return_) 1 rfl) rfl h
  · replace h := h.2 c
    refine gv_seg ok_X9_enqueue 5 3 (Ps := []) (pc' := 16) (ls' := [.ref 32, .int x1, .int x2]) (st' := [.int 144, .int (M 32 3)]) (M2 := M) rfl trivial ?_
    refine gv_icmp_ge (t := 46) (by decide) (gl_dec ok_X9_enqueue 8 16 (.if_icmp .ge 30) 3 rfl) (fun c => ?_) (fun c => ?_)
    · replace h := h.1 c
      exact gv_retV (gl_dec ok_X9_enqueue 26 46 (.return_) 1 rfl) rfl h
    · replace h := h.2 c
      obtain ⟨hp, h⟩ := h
      refine gv_seg ok_X9_enqueue 9 17 (Ps := [vp_in x1 144, vp_in (M 32 3) 144]) (pc' := 46) (ls' := [.ref 32, .int x1, .int x2]) (st' := []) (M2 := (gl_u2 (gl_u2 (gl_u2 M 33 (Int32.toNatClampNeg x1) x2) 34 (Int32.toNatClampNeg (M 32 3)) x1) 32 3 ((M 32 3) + 1))) rfl ⟨hp.1, hp.2⟩ ?_
      exact gv_retV (gl_dec ok_X9_enqueue 26 46 (.return_) 1 rfl) rfl h
theorem e_X9_enqueue (l : Launch) (sc : Nat × (Nat → Int32)) (M : gl_N) (Q : Option Value → gl_N → Prop) (x1 x2 : Int32)
  (h : (vp_in x1 144) ∧ ((¬ (M 33 (Int32.toNatClampNeg x1)) = 0 → Q none M) ∧ ((M 33 (Int32.toNatClampNeg x1)) = 0 → (144 ≤ (M 32 3) → Q none M) ∧ (¬ 144 ≤ (M 32 3) → (vp_in x1 144 ∧ vp_in (M 32 3) 144) ∧ (Q none (gl_u2 (gl_u2 (gl_u2 M 33 (Int32.toNatClampNeg x1) x2) 34 (Int32.toNatClampNeg (M 32 3)) x1) 32 3 ((M 32 3) + 1))))))) : gr l sc m_X9_enqueue [.ref 32, .int x1, .int x2] M Q :=
  gr_of (by decide +kernel) (Nat.le_of_ble_eq_true rfl) (List.forall_mem_cons.mpr ⟨rfl, (List.forall_mem_cons.mpr ⟨rfl, (List.forall_mem_cons.mpr ⟨rfl, (fun _ h => absurd h List.not_mem_nil)⟩)⟩)⟩) (w_X9_enqueue_0 l sc M Q x1 x2 h)
set_option maxHeartbeats 400000 in
set_option maxRecDepth 20000 in
theorem w_X9_walk_0 (l : Launch) (sc : Nat × (Nat → Int32)) (M : gl_N) (Q : Option Value → gl_N → Prop) (x1 x2 : Int32)
  (h : gv l sc m_X9_walk 5 [.ref 32, .int x1, .int x2, .int x1, .int 0] [] M Q) : gv l sc m_X9_walk 0 [.ref 32, .int x1, .int x2, .float 0, .float 0] [] M Q := by
  refine gv_seg ok_X9_walk 0 4 (Ps := []) (pc' := 5) (ls' := [.ref 32, .int x1, .int x2, .int x1, .int 0]) (st' := []) (M2 := M) rfl trivial ?_
  exact h
theorem e_X9_walk (l : Launch) (sc : Nat × (Nat → Int32)) (M : gl_N) (Q : Option Value → gl_N → Prop) (x1 x2 : Int32)
  (h : gv l sc m_X9_walk 5 [.ref 32, .int x1, .int x2, .int x1, .int 0] [] M Q) : gr l sc m_X9_walk [.ref 32, .int x1, .int x2] M Q :=
  gr_of (by decide +kernel) (Nat.le_of_ble_eq_true rfl) (List.forall_mem_cons.mpr ⟨rfl, (List.forall_mem_cons.mpr ⟨rfl, (List.forall_mem_cons.mpr ⟨rfl, (fun _ h => absurd h List.not_mem_nil)⟩)⟩)⟩) (w_X9_walk_0 l sc M Q x1 x2 h)
set_option maxHeartbeats 400000 in
set_option maxRecDepth 20000 in
theorem w_X9_walk_5 (l : Launch) (sc : Nat × (Nat → Int32)) (M : gl_N) (Q : Option Value → gl_N → Prop) (x1 x2 x3 x4 : Int32)
  (h : (x2 ≤ x4 → Q (some (.int x3)) M) ∧ (¬ x2 ≤ x4 → gr l sc m_X9_lowestNearer [.ref 32, .int x3] M (fun r1 M2 => ∃ v3 : Int32, r1 = some (.int v3) ∧ (gv l sc m_X9_walk 5 [.ref 32, .int x1, .int x2, .int v3, .int (x4 + 1)] [] M2 Q)))) : gv l sc m_X9_walk 5 [.ref 32, .int x1, .int x2, .int x3, .int x4] [] M Q := by
  refine gv_seg ok_X9_walk 4 2 (Ps := []) (pc' := 8) (ls' := [.ref 32, .int x1, .int x2, .int x3, .int x4]) (st' := [.int x2, .int x4]) (M2 := M) rfl trivial ?_
  refine gv_icmp_ge (t := 23) (by decide) (gl_dec ok_X9_walk 6 8 (.if_icmp .ge 15) 3 rfl) (fun c => ?_) (fun c => ?_)
  · replace h := h.1 c
    refine gv_seg ok_X9_walk 13 1 (Ps := []) (pc' := 24) (ls' := [.ref 32, .int x1, .int x2, .int x3, .int x4]) (st' := [.int x3]) (M2 := M) rfl trivial ?_
    exact gv_retI (gl_dec ok_X9_walk 14 24 (.ireturn) 1 rfl) rfl h
  · replace h := h.2 c
    refine gv_seg ok_X9_walk 7 2 (Ps := []) (pc' := 13) (ls' := [.ref 32, .int x1, .int x2, .int x3, .int x4]) (st' := [.int x3, .ref 32]) (M2 := M) rfl trivial ?_
    refine gv_vcall (M' := m_X9_lowestNearer) (o := 32) (ci := 9) (As := [.int x3]) (st := []) (gl_dec ok_X9_walk 9 13 (.invokevirtual 71) 3 rfl) (gl_lnk ok_X9_walk 9 rfl rfl) mw_X9_lowestNearer iw_X9_lowestNearer lw_X9_lowestNearer ⟨by decide, by decide⟩ rfl rfl rfl ⟨rfl, Nat.le_of_ble_eq_true rfl⟩ h (fun r1 M2 hq => ?_)
    obtain ⟨v3, rfl, h⟩ := hq
    change gv l sc m_X9_walk 16 [.ref 32, .int x1, .int x2, .int x3, .int x4] [.int v3] M2 Q
    refine gv_seg ok_X9_walk 10 2 (Ps := []) (pc' := 20) (ls' := [.ref 32, .int x1, .int x2, .int v3, .int (x4 + 1)]) (st' := []) (M2 := M2) rfl trivial ?_
    refine gv_goto (t := 5) (by decide) (gl_dec ok_X9_walk 12 20 (.goto (-15)) 3 rfl) ?_
    exact h
set_option maxHeartbeats 400000 in
set_option maxRecDepth 20000 in
theorem w_X9_lowestNearer_0 (l : Launch) (sc : Nat × (Nat → Int32)) (M : gl_N) (Q : Option Value → gl_N → Prop) (x1 : Int32)
  (h : gv l sc m_X9_lowestNearer 2 [.ref 32, .int x1, .int 0] [] M Q) : gv l sc m_X9_lowestNearer 0 [.ref 32, .int x1, .float 0] [] M Q := by
  refine gv_seg ok_X9_lowestNearer 0 2 (Ps := []) (pc' := 2) (ls' := [.ref 32, .int x1, .int 0]) (st' := []) (M2 := M) rfl trivial ?_
  exact h
theorem e_X9_lowestNearer (l : Launch) (sc : Nat × (Nat → Int32)) (M : gl_N) (Q : Option Value → gl_N → Prop) (x1 : Int32)
  (h : gv l sc m_X9_lowestNearer 2 [.ref 32, .int x1, .int 0] [] M Q) : gr l sc m_X9_lowestNearer [.ref 32, .int x1] M Q :=
  gr_of (by decide +kernel) (Nat.le_of_ble_eq_true rfl) (List.forall_mem_cons.mpr ⟨rfl, (List.forall_mem_cons.mpr ⟨rfl, (fun _ h => absurd h List.not_mem_nil)⟩)⟩) (w_X9_lowestNearer_0 l sc M Q x1 h)
set_option maxHeartbeats 400000 in
set_option maxRecDepth 20000 in
theorem w_X9_lowestNearer_2 (l : Launch) (sc : Nat × (Nat → Int32)) (M : gl_N) (Q : Option Value → gl_N → Prop) (x1 x2 : Int32)
  (h : gr l sc m_X0_scaleCount [.ref 12] M (fun r1 M2 => ∃ v3 : Int32, r1 = some (.int v3) ∧ ((v3 ≤ x2 → Q (some (.int x1)) M2) ∧ (¬ v3 ≤ x2 → (vp_in x2 144 ∧ vp_in x1 144) ∧ ((¬ (M2 33 (Int32.toNatClampNeg x2)) = ((M2 33 (Int32.toNatClampNeg x1)) - 1) → gv l sc m_X9_lowestNearer 2 [.ref 32, .int x1, .int (x2 + 1)] [] M2 Q) ∧ ((M2 33 (Int32.toNatClampNeg x2)) = ((M2 33 (Int32.toNatClampNeg x1)) - 1) → (vp_in x2 144) ∧ (((M2 33 (Int32.toNatClampNeg x2)) ≤ 0 → gv l sc m_X9_lowestNearer 2 [.ref 32, .int x1, .int (x2 + 1)] [] M2 Q) ∧ (¬ (M2 33 (Int32.toNatClampNeg x2)) ≤ 0 → gr l sc m_X9_sharesSome [.ref 32, .int x1, .int x2] M2 (fun r4 M5 => ∃ v6 : Int32, r4 = some (.int v6) ∧ ((v6 = 0 → gv l sc m_X9_lowestNearer 2 [.ref 32, .int x1, .int (x2 + 1)] [] M5 Q) ∧ (¬ v6 = 0 → Q (some (.int x2)) M5))))))))))) : gv l sc m_X9_lowestNearer 2 [.ref 32, .int x1, .int x2] [] M Q := by
  refine gv_seg ok_X9_lowestNearer 2 3 (Ps := []) (pc' := 7) (ls' := [.ref 32, .int x1, .int x2]) (st' := [.ref 12, .int x2]) (M2 := M) rfl trivial ?_
  refine gv_vcall (M' := m_X0_scaleCount) (o := 12) (ci := 0) (As := []) (st := [.int x2]) (gl_dec ok_X9_lowestNearer 5 7 (.invokevirtual 74) 3 rfl) (gl_lnk ok_X9_lowestNearer 5 rfl rfl) mw_X0_scaleCount iw_X0_scaleCount lw_X0_scaleCount ⟨by decide, by decide⟩ rfl rfl rfl ⟨rfl, Nat.le_of_ble_eq_true rfl⟩ h (fun r1 M2 hq => ?_)
  obtain ⟨v3, rfl, h⟩ := hq
  change gv l sc m_X9_lowestNearer 10 [.ref 32, .int x1, .int x2] [.int v3, .int x2] M2 Q
  refine gv_icmp_ge (t := 56) (by decide) (gl_dec ok_X9_lowestNearer 6 10 (.if_icmp .ge 46) 3 rfl) (fun c => ?_) (fun c => ?_)
  · replace h := h.1 c
    refine gv_seg ok_X9_lowestNearer 32 1 (Ps := []) (pc' := 57) (ls' := [.ref 32, .int x1, .int x2]) (st' := [.int x1]) (M2 := M2) rfl trivial ?_
    exact gv_retI (gl_dec ok_X9_lowestNearer 33 57 (.ireturn) 1 rfl) rfl h
  · replace h := h.2 c
    obtain ⟨hp, h⟩ := h
    refine gv_seg ok_X9_lowestNearer 7 10 (Ps := [vp_in x2 144, vp_in x1 144]) (pc' := 27) (ls' := [.ref 32, .int x1, .int x2]) (st' := [.int ((M2 33 (Int32.toNatClampNeg x1)) - 1), .int (M2 33 (Int32.toNatClampNeg x2))]) (M2 := M2) rfl ⟨hp.1, hp.2⟩ ?_
    refine gv_icmp_ne (t := 50) (by decide) (gl_dec ok_X9_lowestNearer 17 27 (.if_icmp .ne 23) 3 rfl) (fun c => ?_) (fun c => ?_)
    · replace h := h.1 c
      refine gv_seg ok_X9_lowestNearer 30 1 (Ps := []) (pc' := 53) (ls' := [.ref 32, .int x1, .int (x2 + 1)]) (st' := []) (M2 := M2) rfl trivial ?_
      refine gv_goto (t := 2) (by decide) (gl_dec ok_X9_lowestNearer 31 53 (.goto (-51)) 3 rfl) ?_
      exact h
    · replace h := h.2 c
      obtain ⟨hp, h⟩ := h
      refine gv_seg ok_X9_lowestNearer 18 4 (Ps := [vp_in x2 144]) (pc' := 36) (ls' := [.ref 32, .int x1, .int x2]) (st' := [.int (M2 33 (Int32.toNatClampNeg x2))]) (M2 := M2) rfl hp ?_
      refine gv_if_le (t := 50) (by decide) (gl_dec ok_X9_lowestNearer 22 36 (.ifCond .le 14) 3 rfl) (fun c => ?_) (fun c => ?_)
      · replace h := h.1 c
        refine gv_seg ok_X9_lowestNearer 30 1 (Ps := []) (pc' := 53) (ls' := [.ref 32, .int x1, .int (x2 + 1)]) (st' := []) (M2 := M2) rfl trivial ?_
        refine gv_goto (t := 2) (by decide) (gl_dec ok_X9_lowestNearer 31 53 (.goto (-51)) 3 rfl) ?_
        exact h
      · replace h := h.2 c
        refine gv_seg ok_X9_lowestNearer 23 3 (Ps := []) (pc' := 42) (ls' := [.ref 32, .int x1, .int x2]) (st' := [.int x2, .int x1, .ref 32]) (M2 := M2) rfl trivial ?_
        refine gv_vcall (M' := m_X9_sharesSome) (o := 32) (ci := 9) (As := [.int x1, .int x2]) (st := []) (gl_dec ok_X9_lowestNearer 26 42 (.invokevirtual 78) 3 rfl) (gl_lnk ok_X9_lowestNearer 26 rfl rfl) mw_X9_sharesSome iw_X9_sharesSome lw_X9_sharesSome ⟨by decide, by decide⟩ rfl rfl rfl ⟨rfl, Nat.le_of_ble_eq_true rfl⟩ h (fun r4 M5 hq => ?_)
        obtain ⟨v6, rfl, h⟩ := hq
        change gv l sc m_X9_lowestNearer 45 [.ref 32, .int x1, .int x2] [.int v6] M5 Q
        refine gv_if_eq (t := 50) (by decide) (gl_dec ok_X9_lowestNearer 27 45 (.ifCond .eq 5) 3 rfl) (fun c => ?_) (fun c => ?_)
        · replace h := h.1 c
          refine gv_seg ok_X9_lowestNearer 30 1 (Ps := []) (pc' := 53) (ls' := [.ref 32, .int x1, .int (x2 + 1)]) (st' := []) (M2 := M5) rfl trivial ?_
          refine gv_goto (t := 2) (by decide) (gl_dec ok_X9_lowestNearer 31 53 (.goto (-51)) 3 rfl) ?_
          exact h
        · replace h := h.2 c
          refine gv_seg ok_X9_lowestNearer 28 1 (Ps := []) (pc' := 49) (ls' := [.ref 32, .int x1, .int x2]) (st' := [.int x2]) (M2 := M5) rfl trivial ?_
          exact gv_retI (gl_dec ok_X9_lowestNearer 29 49 (.ireturn) 1 rfl) rfl h
set_option maxHeartbeats 400000 in
set_option maxRecDepth 20000 in
theorem w_X9_sharesSome_0 (l : Launch) (sc : Nat × (Nat → Int32)) (M : gl_N) (Q : Option Value → gl_N → Prop) (x1 x2 : Int32)
  (h : gv l sc m_X9_sharesSome 2 [.ref 32, .int x1, .int x2, .int 0] [] M Q) : gv l sc m_X9_sharesSome 0 [.ref 32, .int x1, .int x2, .float 0] [] M Q := by
  refine gv_seg ok_X9_sharesSome 0 2 (Ps := []) (pc' := 2) (ls' := [.ref 32, .int x1, .int x2, .int 0]) (st' := []) (M2 := M) rfl trivial ?_
  exact h
theorem e_X9_sharesSome (l : Launch) (sc : Nat × (Nat → Int32)) (M : gl_N) (Q : Option Value → gl_N → Prop) (x1 x2 : Int32)
  (h : gv l sc m_X9_sharesSome 2 [.ref 32, .int x1, .int x2, .int 0] [] M Q) : gr l sc m_X9_sharesSome [.ref 32, .int x1, .int x2] M Q :=
  gr_of (by decide +kernel) (Nat.le_of_ble_eq_true rfl) (List.forall_mem_cons.mpr ⟨rfl, (List.forall_mem_cons.mpr ⟨rfl, (List.forall_mem_cons.mpr ⟨rfl, (fun _ h => absurd h List.not_mem_nil)⟩)⟩)⟩) (w_X9_sharesSome_0 l sc M Q x1 x2 h)
set_option maxHeartbeats 400000 in
set_option maxRecDepth 20000 in
theorem w_X9_sharesSome_2 (l : Launch) (sc : Nat × (Nat → Int32)) (M : gl_N) (Q : Option Value → gl_N → Prop) (x1 x2 x3 : Int32)
  (h : gr l sc m_X0_partsOf [.ref 12, .int x1] M (fun r1 M2 => ∃ v3 : Int32, r1 = some (.int v3) ∧ ((v3 ≤ x3 → Q (some (.int 0)) M2) ∧ (¬ v3 ≤ x3 → gr l sc m_X0_samePart [.ref 12, .int x1, .int x3, .int x2] M2 (fun r4 M5 => ∃ v6 : Int32, r4 = some (.int v6) ∧ ((v6 = (-1) → gv l sc m_X9_sharesSome 2 [.ref 32, .int x1, .int x2, .int (x3 + 1)] [] M5 Q) ∧ (¬ v6 = (-1) → Q (some (.int 1)) M5))))))) : gv l sc m_X9_sharesSome 2 [.ref 32, .int x1, .int x2, .int x3] [] M Q := by
  refine gv_seg ok_X9_sharesSome 2 4 (Ps := []) (pc' := 8) (ls' := [.ref 32, .int x1, .int x2, .int x3]) (st' := [.int x1, .ref 12, .int x3]) (M2 := M) rfl trivial ?_
  refine gv_vcall (M' := m_X0_partsOf) (o := 12) (ci := 0) (As := [.int x1]) (st := [.int x3]) (gl_dec ok_X9_sharesSome 6 8 (.invokevirtual 39) 3 rfl) (gl_lnk ok_X9_sharesSome 6 rfl rfl) mw_X0_partsOf iw_X0_partsOf lw_X0_partsOf ⟨by decide, by decide⟩ rfl rfl rfl ⟨rfl, Nat.le_of_ble_eq_true rfl⟩ h (fun r1 M2 hq => ?_)
  obtain ⟨v3, rfl, h⟩ := hq
  change gv l sc m_X9_sharesSome 11 [.ref 32, .int x1, .int x2, .int x3] [.int v3, .int x3] M2 Q
  refine gv_icmp_ge (t := 36) (by decide) (gl_dec ok_X9_sharesSome 7 11 (.if_icmp .ge 25) 3 rfl) (fun c => ?_) (fun c => ?_)
  · replace h := h.1 c
    refine gv_seg ok_X9_sharesSome 20 1 (Ps := []) (pc' := 37) (ls' := [.ref 32, .int x1, .int x2, .int x3]) (st' := [.int 0]) (M2 := M2) rfl trivial ?_
    exact gv_retZ (gl_dec ok_X9_sharesSome 21 37 (.ireturn) 1 rfl) rfl (by decide) h
  · replace h := h.2 c
    refine gv_seg ok_X9_sharesSome 8 5 (Ps := []) (pc' := 21) (ls' := [.ref 32, .int x1, .int x2, .int x3]) (st' := [.int x2, .int x3, .int x1, .ref 12]) (M2 := M2) rfl trivial ?_
    refine gv_vcall (M' := m_X0_samePart) (o := 12) (ci := 0) (As := [.int x1, .int x3, .int x2]) (st := []) (gl_dec ok_X9_sharesSome 13 21 (.invokevirtual 82) 3 rfl) (gl_lnk ok_X9_sharesSome 13 rfl rfl) mw_X0_samePart iw_X0_samePart lw_X0_samePart ⟨by decide, by decide⟩ rfl rfl rfl ⟨rfl, Nat.le_of_ble_eq_true rfl⟩ h (fun r4 M5 hq => ?_)
    obtain ⟨v6, rfl, h⟩ := hq
    change gv l sc m_X9_sharesSome 24 [.ref 32, .int x1, .int x2, .int x3] [.int v6] M5 Q
    refine gv_seg ok_X9_sharesSome 14 1 (Ps := []) (pc' := 25) (ls' := [.ref 32, .int x1, .int x2, .int x3]) (st' := [.int (-1), .int v6]) (M2 := M5) rfl trivial ?_
    refine gv_icmp_eq (t := 30) (by decide) (gl_dec ok_X9_sharesSome 15 25 (.if_icmp .eq 5) 3 rfl) (fun c => ?_) (fun c => ?_)
    · replace h := h.1 c
      refine gv_seg ok_X9_sharesSome 18 1 (Ps := []) (pc' := 33) (ls' := [.ref 32, .int x1, .int x2, .int (x3 + 1)]) (st' := []) (M2 := M5) rfl trivial ?_
      refine gv_goto (t := 2) (by decide) (gl_dec ok_X9_sharesSome 19 33 (.goto (-31)) 3 rfl) ?_
      exact h
    · replace h := h.2 c
      refine gv_seg ok_X9_sharesSome 16 1 (Ps := []) (pc' := 29) (ls' := [.ref 32, .int x1, .int x2, .int x3]) (st' := [.int 1]) (M2 := M5) rfl trivial ?_
      exact gv_retZ (gl_dec ok_X9_sharesSome 17 29 (.ireturn) 1 rfl) rfl (by decide) h
set_option maxHeartbeats 400000 in
set_option maxRecDepth 20000 in
theorem w_X9_mostDistant_0 (l : Launch) (sc : Nat × (Nat → Int32)) (M : gl_N) (Q : Option Value → gl_N → Prop)
  (h : gv l sc m_X9_mostDistant 4 [.ref 32, .int 0, .int 1] [] M Q) : gv l sc m_X9_mostDistant 0 [.ref 32, .float 0, .float 0] [] M Q := by
  refine gv_seg ok_X9_mostDistant 0 4 (Ps := []) (pc' := 4) (ls' := [.ref 32, .int 0, .int 1]) (st' := []) (M2 := M) rfl trivial ?_
  exact h
theorem e_X9_mostDistant (l : Launch) (sc : Nat × (Nat → Int32)) (M : gl_N) (Q : Option Value → gl_N → Prop)
  (h : gv l sc m_X9_mostDistant 4 [.ref 32, .int 0, .int 1] [] M Q) : gr l sc m_X9_mostDistant [.ref 32] M Q :=
  gr_of (by decide +kernel) (Nat.le_of_ble_eq_true rfl) (List.forall_mem_cons.mpr ⟨rfl, (fun _ h => absurd h List.not_mem_nil)⟩) (w_X9_mostDistant_0 l sc M Q h)
set_option maxHeartbeats 400000 in
set_option maxRecDepth 20000 in
theorem w_X9_mostDistant_4 (l : Launch) (sc : Nat × (Nat → Int32)) (M : gl_N) (Q : Option Value → gl_N → Prop) (x1 x2 : Int32)
  (h : gr l sc m_X0_scaleCount [.ref 12] M (fun r1 M2 => ∃ v3 : Int32, r1 = some (.int v3) ∧ ((v3 ≤ x2 → Q (some (.int x1)) M2) ∧ (¬ v3 ≤ x2 → (vp_in x2 144 ∧ vp_in x1 144) ∧ (((M2 33 (Int32.toNatClampNeg x2)) ≤ (M2 33 (Int32.toNatClampNeg x1)) → gv l sc m_X9_mostDistant 4 [.ref 32, .int x1, .int (x2 + 1)] [] M2 Q) ∧ (¬ (M2 33 (Int32.toNatClampNeg x2)) ≤ (M2 33 (Int32.toNatClampNeg x1)) → gv l sc m_X9_mostDistant 4 [.ref 32, .int x2, .int (x2 + 1)] [] M2 Q)))))) : gv l sc m_X9_mostDistant 4 [.ref 32, .int x1, .int x2] [] M Q := by
  refine gv_seg ok_X9_mostDistant 4 3 (Ps := []) (pc' := 9) (ls' := [.ref 32, .int x1, .int x2]) (st' := [.ref 12, .int x2]) (M2 := M) rfl trivial ?_
  refine gv_vcall (M' := m_X0_scaleCount) (o := 12) (ci := 0) (As := []) (st := [.int x2]) (gl_dec ok_X9_mostDistant 7 9 (.invokevirtual 74) 3 rfl) (gl_lnk ok_X9_mostDistant 7 rfl rfl) mw_X0_scaleCount iw_X0_scaleCount lw_X0_scaleCount ⟨by decide, by decide⟩ rfl rfl rfl ⟨rfl, Nat.le_of_ble_eq_true rfl⟩ h (fun r1 M2 hq => ?_)
  obtain ⟨v3, rfl, h⟩ := hq
  change gv l sc m_X9_mostDistant 12 [.ref 32, .int x1, .int x2] [.int v3, .int x2] M2 Q
  refine gv_icmp_ge (t := 38) (by decide) (gl_dec ok_X9_mostDistant 8 12 (.if_icmp .ge 26) 3 rfl) (fun c => ?_) (fun c => ?_)
  · replace h := h.1 c
    refine gv_seg ok_X9_mostDistant 22 1 (Ps := []) (pc' := 39) (ls' := [.ref 32, .int x1, .int x2]) (st' := [.int x1]) (M2 := M2) rfl trivial ?_
    exact gv_retI (gl_dec ok_X9_mostDistant 23 39 (.ireturn) 1 rfl) rfl h
  · replace h := h.2 c
    obtain ⟨hp, h⟩ := h
    refine gv_seg ok_X9_mostDistant 9 8 (Ps := [vp_in x2 144, vp_in x1 144]) (pc' := 27) (ls' := [.ref 32, .int x1, .int x2]) (st' := [.int (M2 33 (Int32.toNatClampNeg x1)), .int (M2 33 (Int32.toNatClampNeg x2))]) (M2 := M2) rfl ⟨hp.1, hp.2⟩ ?_
    refine gv_icmp_le (t := 32) (by decide) (gl_dec ok_X9_mostDistant 17 27 (.if_icmp .le 5) 3 rfl) (fun c => ?_) (fun c => ?_)
    · replace h := h.1 c
      refine gv_seg ok_X9_mostDistant 20 1 (Ps := []) (pc' := 35) (ls' := [.ref 32, .int x1, .int (x2 + 1)]) (st' := []) (M2 := M2) rfl trivial ?_
      refine gv_goto (t := 4) (by decide) (gl_dec ok_X9_mostDistant 21 35 (.goto (-31)) 3 rfl) ?_
      exact h
    · replace h := h.2 c
      refine gv_seg ok_X9_mostDistant 18 3 (Ps := []) (pc' := 35) (ls' := [.ref 32, .int x2, .int (x2 + 1)]) (st' := []) (M2 := M2) rfl trivial ?_
      refine gv_goto (t := 4) (by decide) (gl_dec ok_X9_mostDistant 21 35 (.goto (-31)) 3 rfl) ?_
      exact h

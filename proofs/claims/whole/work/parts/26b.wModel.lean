set_option maxHeartbeats 400000 in
set_option maxRecDepth 20000 in
theorem w_X11_manyHave_0 (l : Launch) (sc : Nat × (Nat → Int32)) (M : gl_N) (Q : Option Value → gl_N → Prop) (x1 x2 : Int32)
  (h : gv l sc m_X11_manyHave 5 [.ref 42, .int x1, .int x2, .int 0, .int 0] [] M Q) : gv l sc m_X11_manyHave 0 [.ref 42, .int x1, .int x2, .float 0, .float 0] [] M Q := by
  refine gv_seg ok_X11_manyHave 0 4 (Ps := []) (pc' := 5) (ls' := [.ref 42, .int x1, .int x2, .int 0, .int 0]) (st' := []) (M2 := M) rfl trivial ?_
  exact h
theorem e_X11_manyHave (l : Launch) (sc : Nat × (Nat → Int32)) (M : gl_N) (Q : Option Value → gl_N → Prop) (x1 x2 : Int32)
  (h : gv l sc m_X11_manyHave 5 [.ref 42, .int x1, .int x2, .int 0, .int 0] [] M Q) : gr l sc m_X11_manyHave [.ref 42, .int x1, .int x2] M Q :=
  gr_of (by decide +kernel) (Nat.le_of_ble_eq_true rfl) (List.forall_mem_cons.mpr ⟨rfl, (List.forall_mem_cons.mpr ⟨rfl, (List.forall_mem_cons.mpr ⟨rfl, (fun _ h => absurd h List.not_mem_nil)⟩)⟩)⟩) (w_X11_manyHave_0 l sc M Q x1 x2 h)
set_option maxHeartbeats 400000 in
set_option maxRecDepth 20000 in
theorem w_X11_manyHave_5 (l : Launch) (sc : Nat × (Nat → Int32)) (M : gl_N) (Q : Option Value → gl_N → Prop) (x1 x2 x3 x4 : Int32)
  (h : gr l sc m_X11_parts [.ref 42, .int x1] M (fun r1 M2 => ∃ v3 : Int32, r1 = some (.int v3) ∧ ((v3 ≤ x4 → Q (some (.int x3)) M2) ∧ (¬ v3 ≤ x4 → gr l sc m_X11_isInPart [.ref 42, .int x1, .int x4, .int x2] M2 (fun r4 M5 => ∃ v6 : Int32, r4 = some (.int v6) ∧ ((v6 = 0 → gv l sc m_X11_manyHave 5 [.ref 42, .int x1, .int x2, .int (x3 + 0), .int (x4 + 1)] [] M5 Q) ∧ (¬ v6 = 0 → gv l sc m_X11_manyHave 5 [.ref 42, .int x1, .int x2, .int (x3 + 1), .int (x4 + 1)] [] M5 Q))))))) : gv l sc m_X11_manyHave 5 [.ref 42, .int x1, .int x2, .int x3, .int x4] [] M Q := by
  refine gv_seg ok_X11_manyHave 4 3 (Ps := []) (pc' := 9) (ls' := [.ref 42, .int x1, .int x2, .int x3, .int x4]) (st' := [.int x1, .ref 42, .int x4]) (M2 := M) rfl trivial ?_
  refine gv_vcall (M' := m_X11_parts) (o := 42) (ci := 11) (As := [.int x1]) (st := [.int x4]) (gl_dec ok_X11_manyHave 7 9 (.invokevirtual 132) 3 rfl) (gl_lnk ok_X11_manyHave 7 rfl rfl) mw_X11_parts iw_X11_parts lw_X11_parts ⟨by decide, by decide⟩ rfl rfl rfl ⟨rfl, Nat.le_of_ble_eq_true rfl⟩ h (fun r1 M2 hq => ?_)
  obtain ⟨v3, rfl, h⟩ := hq
  change gv l sc m_X11_manyHave 12 [.ref 42, .int x1, .int x2, .int x3, .int x4] [.int v3, .int x4] M2 Q
  refine gv_icmp_ge (t := 40) (by decide) (gl_dec ok_X11_manyHave 8 12 (.if_icmp .ge 28) 3 rfl) (fun c => ?_) (fun c => ?_)
  · replace h := h.1 c
    refine gv_seg ok_X11_manyHave 23 1 (Ps := []) (pc' := 41) (ls' := [.ref 42, .int x1, .int x2, .int x3, .int x4]) (st' := [.int x3]) (M2 := M2) rfl trivial ?_
    exact gv_retI (gl_dec ok_X11_manyHave 24 41 (.ireturn) 1 rfl) rfl h
  · replace h := h.2 c
    refine gv_seg ok_X11_manyHave 9 5 (Ps := []) (pc' := 21) (ls' := [.ref 42, .int x1, .int x2, .int x3, .int x4]) (st' := [.int x2, .int x4, .int x1, .ref 42, .int x3]) (M2 := M2) rfl trivial ?_
    refine gv_vcall (M' := m_X11_isInPart) (o := 42) (ci := 11) (As := [.int x1, .int x4, .int x2]) (st := [.int x3]) (gl_dec ok_X11_manyHave 14 21 (.invokevirtual 142) 3 rfl) (gl_lnk ok_X11_manyHave 14 rfl rfl) mw_X11_isInPart iw_X11_isInPart lw_X11_isInPart ⟨by decide, by decide⟩ rfl rfl rfl ⟨rfl, Nat.le_of_ble_eq_true rfl⟩ h (fun r4 M5 hq => ?_)
    obtain ⟨v6, rfl, h⟩ := hq
    change gv l sc m_X11_manyHave 24 [.ref 42, .int x1, .int x2, .int x3, .int x4] [.int v6, .int x3] M5 Q
    refine gv_if_eq (t := 31) (by decide) (gl_dec ok_X11_manyHave 15 24 (.ifCond .eq 7) 3 rfl) (fun c => ?_) (fun c => ?_)
    · replace h := h.1 c
      refine gv_seg ok_X11_manyHave 18 4 (Ps := []) (pc' := 37) (ls' := [.ref 42, .int x1, .int x2, .int (x3 + 0), .int (x4 + 1)]) (st' := []) (M2 := M5) rfl trivial ?_
      refine gv_goto (t := 5) (by decide) (gl_dec ok_X11_manyHave 22 37 (.goto (-32)) 3 rfl) ?_
      exact h
    · replace h := h.2 c
      refine gv_seg ok_X11_manyHave 16 1 (Ps := []) (pc' := 28) (ls' := [.ref 42, .int x1, .int x2, .int x3, .int x4]) (st' := [.int 1, .int x3]) (M2 := M5) rfl trivial ?_
      refine gv_goto (t := 32) (by decide) (gl_dec ok_X11_manyHave 17 28 (.goto 4) 3 rfl) ?_
      refine gv_seg ok_X11_manyHave 19 3 (Ps := []) (pc' := 37) (ls' := [.ref 42, .int x1, .int x2, .int (x3 + 1), .int (x4 + 1)]) (st' := []) (M2 := M5) rfl trivial ?_
      refine gv_goto (t := 5) (by decide) (gl_dec ok_X11_manyHave 22 37 (.goto (-32)) 3 rfl) ?_
      exact h
set_option maxHeartbeats 400000 in
set_option maxRecDepth 20000 in
theorem w_X11_has_0 (l : Launch) (sc : Nat × (Nat → Int32)) (M : gl_N) (Q : Option Value → gl_N → Prop) (x1 x2 : Int32)
  (h : gr l sc m_X11_isScale [.ref 42, .int x1] (gl_u2 M 42 0 0) (fun r1 M2 => ∃ v3 : Int32, r1 = some (.int v3) ∧ ((v3 = 0 → Q (some (.int (-1))) M2) ∧ (¬ v3 = 0 → gr l sc m_X11_in [.int x2, .int 0, .int 60] M2 (fun r4 M5 => ∃ v6 : Int32, r4 = some (.int v6) ∧ ((v6 = 0 → Q (some (.int (-1))) M5) ∧ (¬ v6 = 0 → gr l sc m_X11_manyHave [.ref 42, .int x1, .int x2] M5 (fun r7 M8 => ∃ v9 : Int32, r7 = some (.int v9) ∧ (Q (some (.int v9)) M8))))))))) : gv l sc m_X11_has 0 [.ref 42, .int x1, .int x2] [] M Q := by
  refine gv_seg ok_X11_has 0 5 (Ps := []) (pc' := 7) (ls' := [.ref 42, .int x1, .int x2]) (st' := [.int x1, .ref 42]) (M2 := (gl_u2 M 42 0 0)) rfl trivial ?_
  refine gv_vcall (M' := m_X11_isScale) (o := 42) (ci := 11) (As := [.int x1]) (st := []) (gl_dec ok_X11_has 5 7 (.invokevirtual 139) 3 rfl) (gl_lnk ok_X11_has 5 rfl rfl) mw_X11_isScale iw_X11_isScale lw_X11_isScale ⟨by decide, by decide⟩ rfl rfl rfl ⟨rfl, Nat.le_of_ble_eq_true rfl⟩ h (fun r1 M2 hq => ?_)
  obtain ⟨v3, rfl, h⟩ := hq
  change gv l sc m_X11_has 10 [.ref 42, .int x1, .int x2] [.int v3] M2 Q
  refine gv_if_eq (t := 32) (by decide) (gl_dec ok_X11_has 6 10 (.ifCond .eq 22) 3 rfl) (fun c => ?_) (fun c => ?_)
  · replace h := h.1 c
    refine gv_seg ok_X11_has 17 1 (Ps := []) (pc' := 33) (ls' := [.ref 42, .int x1, .int x2]) (st' := [.int (-1)]) (M2 := M2) rfl trivial ?_
    exact gv_retI (gl_dec ok_X11_has 18 33 (.ireturn) 1 rfl) rfl h
  · replace h := h.2 c
    refine gv_seg ok_X11_has 7 3 (Ps := []) (pc' := 17) (ls' := [.ref 42, .int x1, .int x2]) (st' := [.int 60, .int 0, .int x2]) (M2 := M2) rfl trivial ?_
    refine gv_scall (M' := m_X11_in) (As := [.int x2, .int 0, .int 60]) (st := []) (gl_dec ok_X11_has 10 17 (.invokestatic 69) 3 rfl) (gl_lnkS ok_X11_has 10 rfl rfl) mw_X11_in sw_X11_in ⟨by decide, by decide⟩ ⟨rfl, Nat.le_of_ble_eq_true rfl⟩ h (fun r4 M5 hq => ?_)
    obtain ⟨v6, rfl, h⟩ := hq
    change gv l sc m_X11_has 20 [.ref 42, .int x1, .int x2] [.int v6] M5 Q
    refine gv_if_eq (t := 32) (by decide) (gl_dec ok_X11_has 11 20 (.ifCond .eq 12) 3 rfl) (fun c => ?_) (fun c => ?_)
    · replace h := h.1 c
      refine gv_seg ok_X11_has 17 1 (Ps := []) (pc' := 33) (ls' := [.ref 42, .int x1, .int x2]) (st' := [.int (-1)]) (M2 := M5) rfl trivial ?_
      exact gv_retI (gl_dec ok_X11_has 18 33 (.ireturn) 1 rfl) rfl h
    · replace h := h.2 c
      refine gv_seg ok_X11_has 12 3 (Ps := []) (pc' := 26) (ls' := [.ref 42, .int x1, .int x2]) (st' := [.int x2, .int x1, .ref 42]) (M2 := M5) rfl trivial ?_
      refine gv_vcall (M' := m_X11_manyHave) (o := 42) (ci := 11) (As := [.int x1, .int x2]) (st := []) (gl_dec ok_X11_has 15 26 (.invokevirtual 145) 3 rfl) (gl_lnk ok_X11_has 15 rfl rfl) mw_X11_manyHave iw_X11_manyHave lw_X11_manyHave ⟨by decide, by decide⟩ rfl rfl rfl ⟨rfl, Nat.le_of_ble_eq_true rfl⟩ h (fun r7 M8 hq => ?_)
      obtain ⟨v9, rfl, h⟩ := hq
      change gv l sc m_X11_has 29 [.ref 42, .int x1, .int x2] [.int v9] M8 Q
      refine gv_goto (t := 33) (by decide) (gl_dec ok_X11_has 16 29 (.goto 4) 3 rfl) ?_
      exact gv_retI (gl_dec ok_X11_has 18 33 (.ireturn) 1 rfl) rfl h
theorem e_X11_has (l : Launch) (sc : Nat × (Nat → Int32)) (M : gl_N) (Q : Option Value → gl_N → Prop) (x1 x2 : Int32)
  (h : gr l sc m_X11_isScale [.ref 42, .int x1] (gl_u2 M 42 0 0) (fun r1 M2 => ∃ v3 : Int32, r1 = some (.int v3) ∧ ((v3 = 0 → Q (some (.int (-1))) M2) ∧ (¬ v3 = 0 → gr l sc m_X11_in [.int x2, .int 0, .int 60] M2 (fun r4 M5 => ∃ v6 : Int32, r4 = some (.int v6) ∧ ((v6 = 0 → Q (some (.int (-1))) M5) ∧ (¬ v6 = 0 → gr l sc m_X11_manyHave [.ref 42, .int x1, .int x2] M5 (fun r7 M8 => ∃ v9 : Int32, r7 = some (.int v9) ∧ (Q (some (.int v9)) M8))))))))) : gr l sc m_X11_has [.ref 42, .int x1, .int x2] M Q :=
  gr_of (by decide +kernel) (Nat.le_of_ble_eq_true rfl) (List.forall_mem_cons.mpr ⟨rfl, (List.forall_mem_cons.mpr ⟨rfl, (List.forall_mem_cons.mpr ⟨rfl, (fun _ h => absurd h List.not_mem_nil)⟩)⟩)⟩) (w_X11_has_0 l sc M Q x1 x2 h)
set_option maxHeartbeats 400000 in
set_option maxRecDepth 20000 in
theorem w_X11_shares_0 (l : Launch) (sc : Nat × (Nat → Int32)) (M : gl_N) (Q : Option Value → gl_N → Prop) (x1 x2 x3 : Int32)
  (h : gr l sc m_X11_isScale [.ref 42, .int x1] (gl_u2 M 42 0 0) (fun r1 M2 => ∃ v3 : Int32, r1 = some (.int v3) ∧ ((v3 = 0 → Q (some (.int (-1))) M2) ∧ (¬ v3 = 0 → gr l sc m_X11_isScale [.ref 42, .int x2] M2 (fun r4 M5 => ∃ v6 : Int32, r4 = some (.int v6) ∧ ((v6 = 0 → Q (some (.int (-1))) M5) ∧ (¬ v6 = 0 → ((-1) ≤ x3 → gv l sc m_X11_shares 34 [.ref 42, .int x1, .int x2, .int x3, .int 0, .int 0] [] M5 Q) ∧ (¬ (-1) ≤ x3 → Q (some (.int (-1))) M5)))))))) : gv l sc m_X11_shares 0 [.ref 42, .int x1, .int x2, .int x3, .float 0, .float 0] [] M Q := by
  refine gv_seg ok_X11_shares 0 5 (Ps := []) (pc' := 7) (ls' := [.ref 42, .int x1, .int x2, .int x3, .float 0, .float 0]) (st' := [.int x1, .ref 42]) (M2 := (gl_u2 M 42 0 0)) rfl trivial ?_
  refine gv_vcall (M' := m_X11_isScale) (o := 42) (ci := 11) (As := [.int x1]) (st := []) (gl_dec ok_X11_shares 5 7 (.invokevirtual 139) 3 rfl) (gl_lnk ok_X11_shares 5 rfl rfl) mw_X11_isScale iw_X11_isScale lw_X11_isScale ⟨by decide, by decide⟩ rfl rfl rfl ⟨rfl, Nat.le_of_ble_eq_true rfl⟩ h (fun r1 M2 hq => ?_)
  obtain ⟨v3, rfl, h⟩ := hq
  change gv l sc m_X11_shares 10 [.ref 42, .int x1, .int x2, .int x3, .float 0, .float 0] [.int v3] M2 Q
  refine gv_if_eq (t := 26) (by decide) (gl_dec ok_X11_shares 6 10 (.ifCond .eq 16) 3 rfl) (fun c => ?_) (fun c => ?_)
  · replace h := h.1 c
    refine gv_seg ok_X11_shares 14 1 (Ps := []) (pc' := 27) (ls' := [.ref 42, .int x1, .int x2, .int x3, .float 0, .float 0]) (st' := [.int (-1)]) (M2 := M2) rfl trivial ?_
    exact gv_retI (gl_dec ok_X11_shares 15 27 (.ireturn) 1 rfl) rfl h
  · replace h := h.2 c
    refine gv_seg ok_X11_shares 7 2 (Ps := []) (pc' := 15) (ls' := [.ref 42, .int x1, .int x2, .int x3, .float 0, .float 0]) (st' := [.int x2, .ref 42]) (M2 := M2) rfl trivial ?_
    refine gv_vcall (M' := m_X11_isScale) (o := 42) (ci := 11) (As := [.int x2]) (st := []) (gl_dec ok_X11_shares 9 15 (.invokevirtual 139) 3 rfl) (gl_lnk ok_X11_shares 9 rfl rfl) mw_X11_isScale iw_X11_isScale lw_X11_isScale ⟨by decide, by decide⟩ rfl rfl rfl ⟨rfl, Nat.le_of_ble_eq_true rfl⟩ h (fun r4 M5 hq => ?_)
    obtain ⟨v6, rfl, h⟩ := hq
    change gv l sc m_X11_shares 18 [.ref 42, .int x1, .int x2, .int x3, .float 0, .float 0] [.int v6] M5 Q
    refine gv_if_eq (t := 26) (by decide) (gl_dec ok_X11_shares 10 18 (.ifCond .eq 8) 3 rfl) (fun c => ?_) (fun c => ?_)
    · replace h := h.1 c
      refine gv_seg ok_X11_shares 14 1 (Ps := []) (pc' := 27) (ls' := [.ref 42, .int x1, .int x2, .int x3, .float 0, .float 0]) (st' := [.int (-1)]) (M2 := M5) rfl trivial ?_
      exact gv_retI (gl_dec ok_X11_shares 15 27 (.ireturn) 1 rfl) rfl h
    · replace h := h.2 c
      refine gv_seg ok_X11_shares 11 2 (Ps := []) (pc' := 23) (ls' := [.ref 42, .int x1, .int x2, .int x3, .float 0, .float 0]) (st' := [.int (-1), .int x3]) (M2 := M5) rfl trivial ?_
      refine gv_icmp_ge (t := 28) (by decide) (gl_dec ok_X11_shares 13 23 (.if_icmp .ge 5) 3 rfl) (fun c => ?_) (fun c => ?_)
      · replace h := h.1 c
        refine gv_seg ok_X11_shares 16 4 (Ps := []) (pc' := 34) (ls' := [.ref 42, .int x1, .int x2, .int x3, .int 0, .int 0]) (st' := []) (M2 := M5) rfl trivial ?_
        exact h
      · replace h := h.2 c
        refine gv_seg ok_X11_shares 14 1 (Ps := []) (pc' := 27) (ls' := [.ref 42, .int x1, .int x2, .int x3, .float 0, .float 0]) (st' := [.int (-1)]) (M2 := M5) rfl trivial ?_
        exact gv_retI (gl_dec ok_X11_shares 15 27 (.ireturn) 1 rfl) rfl h
theorem e_X11_shares (l : Launch) (sc : Nat × (Nat → Int32)) (M : gl_N) (Q : Option Value → gl_N → Prop) (x1 x2 x3 : Int32)
  (h : gr l sc m_X11_isScale [.ref 42, .int x1] (gl_u2 M 42 0 0) (fun r1 M2 => ∃ v3 : Int32, r1 = some (.int v3) ∧ ((v3 = 0 → Q (some (.int (-1))) M2) ∧ (¬ v3 = 0 → gr l sc m_X11_isScale [.ref 42, .int x2] M2 (fun r4 M5 => ∃ v6 : Int32, r4 = some (.int v6) ∧ ((v6 = 0 → Q (some (.int (-1))) M5) ∧ (¬ v6 = 0 → ((-1) ≤ x3 → gv l sc m_X11_shares 34 [.ref 42, .int x1, .int x2, .int x3, .int 0, .int 0] [] M5 Q) ∧ (¬ (-1) ≤ x3 → Q (some (.int (-1))) M5)))))))) : gr l sc m_X11_shares [.ref 42, .int x1, .int x2, .int x3] M Q :=
  gr_of (by decide +kernel) (Nat.le_of_ble_eq_true rfl) (List.forall_mem_cons.mpr ⟨rfl, (List.forall_mem_cons.mpr ⟨rfl, (List.forall_mem_cons.mpr ⟨rfl, (List.forall_mem_cons.mpr ⟨rfl, (fun _ h => absurd h List.not_mem_nil)⟩)⟩)⟩)⟩) (w_X11_shares_0 l sc M Q x1 x2 x3 h)
set_option maxHeartbeats 400000 in
set_option maxRecDepth 20000 in
theorem w_X11_shares_34 (l : Launch) (sc : Nat × (Nat → Int32)) (M : gl_N) (Q : Option Value → gl_N → Prop) (x1 x2 x3 x4 x5 : Int32)
  (h : gr l sc m_X11_parts [.ref 42, .int x1] M (fun r1 M2 => ∃ v3 : Int32, r1 = some (.int v3) ∧ ((v3 ≤ x5 → (0 ≤ x3 → Q (some (.int (-9))) M2) ∧ (¬ 0 ≤ x3 → Q (some (.int x4)) M2)) ∧ (¬ v3 ≤ x5 → gr l sc m_X11_sameIn [.ref 42, .int x1, .int x5, .int x2] M2 (fun r4 M5 => ∃ v6 : Int32, r4 = some (.int v6) ∧ ((v6 = (-9) → gv l sc m_X11_shares 34 [.ref 42, .int x1, .int x2, .int x3, .int x4, .int (x5 + 1)] [] M5 Q) ∧ (¬ v6 = (-9) → (¬ x4 = x3 → gv l sc m_X11_shares 34 [.ref 42, .int x1, .int x2, .int x3, .int (x4 + 1), .int (x5 + 1)] [] M5 Q) ∧ (x4 = x3 → Q (some (.int x5)) M5)))))))) : gv l sc m_X11_shares 34 [.ref 42, .int x1, .int x2, .int x3, .int x4, .int x5] [] M Q := by
  refine gv_seg ok_X11_shares 20 3 (Ps := []) (pc' := 38) (ls' := [.ref 42, .int x1, .int x2, .int x3, .int x4, .int x5]) (st' := [.int x1, .ref 42, .int x5]) (M2 := M) rfl trivial ?_
  refine gv_vcall (M' := m_X11_parts) (o := 42) (ci := 11) (As := [.int x1]) (st := [.int x5]) (gl_dec ok_X11_shares 23 38 (.invokevirtual 132) 3 rfl) (gl_lnk ok_X11_shares 23 rfl rfl) mw_X11_parts iw_X11_parts lw_X11_parts ⟨by decide, by decide⟩ rfl rfl rfl ⟨rfl, Nat.le_of_ble_eq_true rfl⟩ h (fun r1 M2 hq => ?_)
  obtain ⟨v3, rfl, h⟩ := hq
  change gv l sc m_X11_shares 41 [.ref 42, .int x1, .int x2, .int x3, .int x4, .int x5] [.int v3, .int x5] M2 Q
  refine gv_icmp_ge (t := 75) (by decide) (gl_dec ok_X11_shares 24 41 (.if_icmp .ge 34) 3 rfl) (fun c => ?_) (fun c => ?_)
  · replace h := h.1 c
    refine gv_seg ok_X11_shares 40 1 (Ps := []) (pc' := 76) (ls' := [.ref 42, .int x1, .int x2, .int x3, .int x4, .int x5]) (st' := [.int x3]) (M2 := M2) rfl trivial ?_
    refine gv_if_ge (t := 84) (by decide) (gl_dec ok_X11_shares 41 76 (.ifCond .ge 8) 3 rfl) (fun c => ?_) (fun c => ?_)
    · replace h := h.1 c
      refine gv_seg ok_X11_shares 44 1 (Ps := []) (pc' := 86) (ls' := [.ref 42, .int x1, .int x2, .int x3, .int x4, .int x5]) (st' := [.int (-9)]) (M2 := M2) rfl trivial ?_
      exact gv_retI (gl_dec ok_X11_shares 45 86 (.ireturn) 1 rfl) rfl h
    · replace h := h.2 c
      refine gv_seg ok_X11_shares 42 1 (Ps := []) (pc' := 81) (ls' := [.ref 42, .int x1, .int x2, .int x3, .int x4, .int x5]) (st' := [.int x4]) (M2 := M2) rfl trivial ?_
      refine gv_goto (t := 86) (by decide) (gl_dec ok_X11_shares 43 81 (.goto 5) 3 rfl) ?_
      exact gv_retI (gl_dec ok_X11_shares 45 86 (.ireturn) 1 rfl) rfl h
  · replace h := h.2 c
    refine gv_seg ok_X11_shares 25 4 (Ps := []) (pc' := 49) (ls' := [.ref 42, .int x1, .int x2, .int x3, .int x4, .int x5]) (st' := [.int x2, .int x5, .int x1, .ref 42]) (M2 := M2) rfl trivial ?_
    refine gv_vcall (M' := m_X11_sameIn) (o := 42) (ci := 11) (As := [.int x1, .int x5, .int x2]) (st := []) (gl_dec ok_X11_shares 29 49 (.invokevirtual 135) 3 rfl) (gl_lnk ok_X11_shares 29 rfl rfl) mw_X11_sameIn iw_X11_sameIn lw_X11_sameIn ⟨by decide, by decide⟩ rfl rfl rfl ⟨rfl, Nat.le_of_ble_eq_true rfl⟩ h (fun r4 M5 hq => ?_)
    obtain ⟨v6, rfl, h⟩ := hq
    change gv l sc m_X11_shares 52 [.ref 42, .int x1, .int x2, .int x3, .int x4, .int x5] [.int v6] M5 Q
    refine gv_seg ok_X11_shares 30 1 (Ps := []) (pc' := 54) (ls' := [.ref 42, .int x1, .int x2, .int x3, .int x4, .int x5]) (st' := [.int (-9), .int v6]) (M2 := M5) rfl trivial ?_
    refine gv_icmp_eq (t := 69) (by decide) (gl_dec ok_X11_shares 31 54 (.if_icmp .eq 15) 3 rfl) (fun c => ?_) (fun c => ?_)
    · replace h := h.1 c
      refine gv_seg ok_X11_shares 38 1 (Ps := []) (pc' := 72) (ls' := [.ref 42, .int x1, .int x2, .int x3, .int x4, .int (x5 + 1)]) (st' := []) (M2 := M5) rfl trivial ?_
      refine gv_goto (t := 34) (by decide) (gl_dec ok_X11_shares 39 72 (.goto (-38)) 3 rfl) ?_
      exact h
    · replace h := h.2 c
      refine gv_seg ok_X11_shares 32 2 (Ps := []) (pc' := 60) (ls' := [.ref 42, .int x1, .int x2, .int x3, .int x4, .int x5]) (st' := [.int x3, .int x4]) (M2 := M5) rfl trivial ?_
      refine gv_icmp_ne (t := 66) (by decide) (gl_dec ok_X11_shares 34 60 (.if_icmp .ne 6) 3 rfl) (fun c => ?_) (fun c => ?_)
      · replace h := h.1 c
        refine gv_seg ok_X11_shares 37 2 (Ps := []) (pc' := 72) (ls' := [.ref 42, .int x1, .int x2, .int x3, .int (x4 + 1), .int (x5 + 1)]) (st' := []) (M2 := M5) rfl trivial ?_
        refine gv_goto (t := 34) (by decide) (gl_dec ok_X11_shares 39 72 (.goto (-38)) 3 rfl) ?_
        exact h
      · replace h := h.2 c
        refine gv_seg ok_X11_shares 35 1 (Ps := []) (pc' := 65) (ls' := [.ref 42, .int x1, .int x2, .int x3, .int x4, .int x5]) (st' := [.int x5]) (M2 := M5) rfl trivial ?_
        exact gv_retI (gl_dec ok_X11_shares 36 65 (.ireturn) 1 rfl) rfl h
set_option maxHeartbeats 400000 in
set_option maxRecDepth 20000 in
theorem w_X11_laysFar_0 (l : Launch) (sc : Nat × (Nat → Int32)) (M : gl_N) (Q : Option Value → gl_N → Prop) (x1 : Int32)
  (h : gv l sc m_X11_laysFar 2 [.ref 42, .int x1, .int 0, .float 0, .float 0] [] M Q) : gv l sc m_X11_laysFar 0 [.ref 42, .int x1, .float 0, .float 0, .float 0] [] M Q := by
  refine gv_seg ok_X11_laysFar 0 2 (Ps := []) (pc' := 2) (ls' := [.ref 42, .int x1, .int 0, .float 0, .float 0]) (st' := []) (M2 := M) rfl trivial ?_
  exact h
theorem e_X11_laysFar (l : Launch) (sc : Nat × (Nat → Int32)) (M : gl_N) (Q : Option Value → gl_N → Prop) (x1 : Int32)
  (h : gv l sc m_X11_laysFar 2 [.ref 42, .int x1, .int 0, .float 0, .float 0] [] M Q) : gr l sc m_X11_laysFar [.ref 42, .int x1] M Q :=
  gr_of (by decide +kernel) (Nat.le_of_ble_eq_true rfl) (List.forall_mem_cons.mpr ⟨rfl, (List.forall_mem_cons.mpr ⟨rfl, (fun _ h => absurd h List.not_mem_nil)⟩)⟩) (w_X11_laysFar_0 l sc M Q x1 h)
set_option maxHeartbeats 400000 in
set_option maxRecDepth 20000 in
theorem w_X11_laysFar_2 (l : Launch) (sc : Nat × (Nat → Int32)) (M : gl_N) (Q : Option Value → gl_N → Prop) (x1 x2 : Int32)
  (h : ((24 * (M 42 2)) ≤ x2 → (vp_in x1 144) ∧ (gv l sc m_X11_laysFar 44 [.ref 42, .int x1, .int 1, .int 0, .float 0] [] (gl_u2 (gl_u2 M 55 (Int32.toNatClampNeg x1) 1) 56 0 x1) Q)) ∧ (¬ (24 * (M 42 2)) ≤ x2 → (vp_in x2 144) ∧ (gv l sc m_X11_laysFar 2 [.ref 42, .int x1, .int (x2 + 1), .float 0, .float 0] [] (gl_u2 M 55 (Int32.toNatClampNeg x2) 0) Q))) : gv l sc m_X11_laysFar 2 [.ref 42, .int x1, .int x2, .float 0, .float 0] [] M Q := by
  refine gv_seg ok_X11_laysFar 2 5 (Ps := []) (pc' := 10) (ls' := [.ref 42, .int x1, .int x2, .float 0, .float 0]) (st' := [.int (24 * (M 42 2)), .int x2]) (M2 := M) rfl trivial ?_
  refine gv_icmp_ge (t := 26) (by decide) (gl_dec ok_X11_laysFar 7 10 (.if_icmp .ge 16) 3 rfl) (fun c => ?_) (fun c => ?_)
  · replace h := h.1 c
    obtain ⟨hp, h⟩ := h
    refine gv_seg ok_X11_laysFar 15 14 (Ps := [vp_in x1 144, vp_in 0 144]) (pc' := 44) (ls' := [.ref 42, .int x1, .int 1, .int 0, .float 0]) (st' := []) (M2 := (gl_u2 (gl_u2 M 55 (Int32.toNatClampNeg x1) 1) 56 0 x1)) rfl ⟨hp, (show vp_in 0 144 by unfold vp_in; decide)⟩ ?_
    exact h
  · replace h := h.2 c
    obtain ⟨hp, h⟩ := h
    refine gv_seg ok_X11_laysFar 8 6 (Ps := [vp_in x2 144]) (pc' := 23) (ls' := [.ref 42, .int x1, .int (x2 + 1), .float 0, .float 0]) (st' := []) (M2 := (gl_u2 M 55 (Int32.toNatClampNeg x2) 0)) rfl hp ?_
    refine gv_goto (t := 2) (by decide) (gl_dec ok_X11_laysFar 14 23 (.goto (-21)) 3 rfl) ?_
    exact h
set_option maxHeartbeats 400000 in
set_option maxRecDepth 20000 in
theorem w_X11_laysFar_44 (l : Launch) (sc : Nat × (Nat → Int32)) (M : gl_N) (Q : Option Value → gl_N → Prop) (x1 x2 x3 : Int32)
  (h : (x2 ≤ x3 → Q none M) ∧ (¬ x2 ≤ x3 → gv l sc m_X11_laysFar 52 [.ref 42, .int x1, .int x2, .int x3, .int 0] [] M Q)) : gv l sc m_X11_laysFar 44 [.ref 42, .int x1, .int x2, .int x3, .float 0] [] M Q := by
  refine gv_seg ok_X11_laysFar 29 2 (Ps := []) (pc' := 46) (ls' := [.ref 42, .int x1, .int x2, .int x3, .float 0]) (st' := [.int x2, .int x3]) (M2 := M) rfl trivial ?_
  refine gv_icmp_ge (t := 132) (by decide) (gl_dec ok_X11_laysFar 31 46 (.if_icmp .ge 86) 3 rfl) (fun c => ?_) (fun c => ?_)
  · replace h := h.1 c
    exact gv_retV (gl_dec ok_X11_laysFar 76 132 (.return_) 1 rfl) rfl h
  · replace h := h.2 c
    refine gv_seg ok_X11_laysFar 32 2 (Ps := []) (pc' := 52) (ls' := [.ref 42, .int x1, .int x2, .int x3, .int 0]) (st' := []) (M2 := M) rfl trivial ?_
    exact h
set_option maxHeartbeats 400000 in
set_option maxRecDepth 20000 in
theorem w_X11_laysFar_52 (l : Launch) (sc : Nat × (Nat → Int32)) (M : gl_N) (Q : Option Value → gl_N → Prop) (x1 x2 x3 x4 : Int32)
  (h : ((24 * (M 42 2)) ≤ x4 → gv l sc m_X11_laysFar 44 [.ref 42, .int x1, .int x2, .int (x3 + 1), .float 0] [] M Q) ∧ (¬ (24 * (M 42 2)) ≤ x4 → (vp_in x4 144) ∧ ((¬ (M 55 (Int32.toNatClampNeg x4)) = 0 → gv l sc m_X11_laysFar 52 [.ref 42, .int x1, .int x2, .int x3, .int (x4 + 1)] [] M Q) ∧ ((M 55 (Int32.toNatClampNeg x4)) = 0 → (vp_in x3 144) ∧ (gr l sc m_X11_share [.ref 42, .int (M 56 (Int32.toNatClampNeg x3)), .int x4] M (fun r1 M2 => ∃ v3 : Int32, r1 = some (.int v3) ∧ ((v3 = 0 → gv l sc m_X11_laysFar 52 [.ref 42, .int x1, .int x2, .int x3, .int (x4 + 1)] [] M2 Q) ∧ (¬ v3 = 0 → (vp_in x3 144 ∧ vp_in (M2 56 (Int32.toNatClampNeg x3)) 144 ∧ vp_in x4 144 ∧ vp_in x2 144) ∧ (gv l sc m_X11_laysFar 52 [.ref 42, .int x1, .int (x2 + 1), .int x3, .int (x4 + 1)] [] (gl_u2 (gl_u2 M2 55 (Int32.toNatClampNeg x4) ((M2 55 (Int32.toNatClampNeg (M2 56 (Int32.toNatClampNeg x3)))) + 1)) 56 (Int32.toNatClampNeg x2) x4) Q))))))))) : gv l sc m_X11_laysFar 52 [.ref 42, .int x1, .int x2, .int x3, .int x4] [] M Q := by
  refine gv_seg ok_X11_laysFar 34 5 (Ps := []) (pc' := 61) (ls' := [.ref 42, .int x1, .int x2, .int x3, .int x4]) (st' := [.int (24 * (M 42 2)), .int x4]) (M2 := M) rfl trivial ?_
  refine gv_icmp_ge (t := 126) (by decide) (gl_dec ok_X11_laysFar 39 61 (.if_icmp .ge 65) 3 rfl) (fun c => ?_) (fun c => ?_)
  · replace h := h.1 c
    refine gv_seg ok_X11_laysFar 74 1 (Ps := []) (pc' := 129) (ls' := [.ref 42, .int x1, .int x2, .int (x3 + 1), .int x4]) (st' := []) (M2 := M) rfl trivial ?_
    refine gv_goto (t := 44) (by decide) (gl_dec ok_X11_laysFar 75 129 (.goto (-85)) 3 rfl) ?_
    exact gv_weak (ls' := [.ref 42, .int x1, .int x2, .int (x3 + 1), .float 0]) ⟨Or.inl rfl, ⟨Or.inl rfl, ⟨Or.inl rfl, ⟨Or.inl rfl, ⟨Or.inr rfl, trivial⟩⟩⟩⟩⟩ h
  · replace h := h.2 c
    obtain ⟨hp, h⟩ := h
    refine gv_seg ok_X11_laysFar 40 4 (Ps := [vp_in x4 144]) (pc' := 71) (ls' := [.ref 42, .int x1, .int x2, .int x3, .int x4]) (st' := [.int (M 55 (Int32.toNatClampNeg x4))]) (M2 := M) rfl hp ?_
    refine gv_if_ne (t := 120) (by decide) (gl_dec ok_X11_laysFar 44 71 (.ifCond .ne 49) 3 rfl) (fun c => ?_) (fun c => ?_)
    · replace h := h.1 c
      refine gv_seg ok_X11_laysFar 72 1 (Ps := []) (pc' := 123) (ls' := [.ref 42, .int x1, .int x2, .int x3, .int (x4 + 1)]) (st' := []) (M2 := M) rfl trivial ?_
      refine gv_goto (t := 52) (by decide) (gl_dec ok_X11_laysFar 73 123 (.goto (-71)) 3 rfl) ?_
      exact h
    · replace h := h.2 c
      obtain ⟨hp, h⟩ := h
      refine gv_seg ok_X11_laysFar 45 6 (Ps := [vp_in x3 144]) (pc' := 83) (ls' := [.ref 42, .int x1, .int x2, .int x3, .int x4]) (st' := [.int x4, .int (M 56 (Int32.toNatClampNeg x3)), .ref 42]) (M2 := M) rfl hp ?_
      refine gv_vcall (M' := m_X11_share) (o := 42) (ci := 11) (As := [.int (M 56 (Int32.toNatClampNeg x3)), .int x4]) (st := []) (gl_dec ok_X11_laysFar 51 83 (.invokevirtual 148) 3 rfl) (gl_lnk ok_X11_laysFar 51 rfl rfl) mw_X11_share iw_X11_share lw_X11_share ⟨by decide, by decide⟩ rfl rfl rfl ⟨rfl, Nat.le_of_ble_eq_true rfl⟩ h (fun r1 M2 hq => ?_)
      obtain ⟨v3, rfl, h⟩ := hq
      change gv l sc m_X11_laysFar 86 [.ref 42, .int x1, .int x2, .int x3, .int x4] [.int v3] M2 Q
      refine gv_if_eq (t := 120) (by decide) (gl_dec ok_X11_laysFar 52 86 (.ifCond .eq 34) 3 rfl) (fun c => ?_) (fun c => ?_)
      · replace h := h.1 c
        refine gv_seg ok_X11_laysFar 72 1 (Ps := []) (pc' := 123) (ls' := [.ref 42, .int x1, .int x2, .int x3, .int (x4 + 1)]) (st' := []) (M2 := M2) rfl trivial ?_
        refine gv_goto (t := 52) (by decide) (gl_dec ok_X11_laysFar 73 123 (.goto (-71)) 3 rfl) ?_
        exact h
      · replace h := h.2 c
        obtain ⟨hp, h⟩ := h
        refine gv_seg ok_X11_laysFar 53 20 (Ps := [vp_in x3 144, vp_in (M2 56 (Int32.toNatClampNeg x3)) 144, vp_in x4 144, vp_in x2 144]) (pc' := 123) (ls' := [.ref 42, .int x1, .int (x2 + 1), .int x3, .int (x4 + 1)]) (st' := []) (M2 := (gl_u2 (gl_u2 M2 55 (Int32.toNatClampNeg x4) ((M2 55 (Int32.toNatClampNeg (M2 56 (Int32.toNatClampNeg x3)))) + 1)) 56 (Int32.toNatClampNeg x2) x4)) rfl ⟨hp.1, hp.2.1, hp.2.2.1, hp.2.2.2⟩ ?_
        refine gv_goto (t := 52) (by decide) (gl_dec ok_X11_laysFar 73 123 (.goto (-71)) 3 rfl) ?_
        exact h
set_option maxHeartbeats 400000 in
set_option maxRecDepth 20000 in
theorem w_X11_way_0 (l : Launch) (sc : Nat × (Nat → Int32)) (M : gl_N) (Q : Option Value → gl_N → Prop) (x1 x2 x3 : Int32)
  (h : gr l sc m_X11_isScale [.ref 42, .int x1] (gl_u2 M 42 0 0) (fun r1 M2 => ∃ v3 : Int32, r1 = some (.int v3) ∧ ((v3 = 0 → Q (some (.int (-1))) M2) ∧ (¬ v3 = 0 → gr l sc m_X11_isScale [.ref 42, .int x2] M2 (fun r4 M5 => ∃ v6 : Int32, r4 = some (.int v6) ∧ ((v6 = 0 → Q (some (.int (-1))) M5) ∧ (¬ v6 = 0 → ((-1) ≤ x3 → gr l sc m_X11_laysFar [.ref 42, .int x2] M5 (fun r7 M8 => r7 = none ∧ ((vp_in x1 144) ∧ (((M8 55 (Int32.toNatClampNeg x1)) = 0 → Q (some (.int (-9))) M8) ∧ (¬ (M8 55 (Int32.toNatClampNeg x1)) = 0 → (vp_in x1 144) ∧ ((x3 < (M8 55 (Int32.toNatClampNeg x1)) → (0 ≤ x3 → gv l sc m_X11_way 72 [.ref 42, .int x1, .int x2, .int x3, .int x1, .int 0, .float 0] [] M8 Q) ∧ (¬ 0 ≤ x3 → (vp_in x1 144) ∧ (Q (some (.int (M8 55 (Int32.toNatClampNeg x1)))) M8))) ∧ (¬ x3 < (M8 55 (Int32.toNatClampNeg x1)) → Q (some (.int (-9))) M8))))))) ∧ (¬ (-1) ≤ x3 → Q (some (.int (-1))) M5)))))))) : gv l sc m_X11_way 0 [.ref 42, .int x1, .int x2, .int x3, .float 0, .float 0, .float 0] [] M Q := by
  refine gv_seg ok_X11_way 0 5 (Ps := []) (pc' := 7) (ls' := [.ref 42, .int x1, .int x2, .int x3, .float 0, .float 0, .float 0]) (st' := [.int x1, .ref 42]) (M2 := (gl_u2 M 42 0 0)) rfl trivial ?_
  refine gv_vcall (M' := m_X11_isScale) (o := 42) (ci := 11) (As := [.int x1]) (st := []) (gl_dec ok_X11_way 5 7 (.invokevirtual 139) 3 rfl) (gl_lnk ok_X11_way 5 rfl rfl) mw_X11_isScale iw_X11_isScale lw_X11_isScale ⟨by decide, by decide⟩ rfl rfl rfl ⟨rfl, Nat.le_of_ble_eq_true rfl⟩ h (fun r1 M2 hq => ?_)
  obtain ⟨v3, rfl, h⟩ := hq
  change gv l sc m_X11_way 10 [.ref 42, .int x1, .int x2, .int x3, .float 0, .float 0, .float 0] [.int v3] M2 Q
  refine gv_if_eq (t := 26) (by decide) (gl_dec ok_X11_way 6 10 (.ifCond .eq 16) 3 rfl) (fun c => ?_) (fun c => ?_)
  · replace h := h.1 c
    refine gv_seg ok_X11_way 14 1 (Ps := []) (pc' := 27) (ls' := [.ref 42, .int x1, .int x2, .int x3, .float 0, .float 0, .float 0]) (st' := [.int (-1)]) (M2 := M2) rfl trivial ?_
    exact gv_retI (gl_dec ok_X11_way 15 27 (.ireturn) 1 rfl) rfl h
  · replace h := h.2 c
    refine gv_seg ok_X11_way 7 2 (Ps := []) (pc' := 15) (ls' := [.ref 42, .int x1, .int x2, .int x3, .float 0, .float 0, .float 0]) (st' := [.int x2, .ref 42]) (M2 := M2) rfl trivial ?_
    refine gv_vcall (M' := m_X11_isScale) (o := 42) (ci := 11) (As := [.int x2]) (st := []) (gl_dec ok_X11_way 9 15 (.invokevirtual 139) 3 rfl) (gl_lnk ok_X11_way 9 rfl rfl) mw_X11_isScale iw_X11_isScale lw_X11_isScale ⟨by decide, by decide⟩ rfl rfl rfl ⟨rfl, Nat.le_of_ble_eq_true rfl⟩ h (fun r4 M5 hq => ?_)
    obtain ⟨v6, rfl, h⟩ := hq
    change gv l sc m_X11_way 18 [.ref 42, .int x1, .int x2, .int x3, .float 0, .float 0, .float 0] [.int v6] M5 Q
    refine gv_if_eq (t := 26) (by decide) (gl_dec ok_X11_way 10 18 (.ifCond .eq 8) 3 rfl) (fun c => ?_) (fun c => ?_)
    · replace h := h.1 c
      refine gv_seg ok_X11_way 14 1 (Ps := []) (pc' := 27) (ls' := [.ref 42, .int x1, .int x2, .int x3, .float 0, .float 0, .float 0]) (st' := [.int (-1)]) (M2 := M5) rfl trivial ?_
      exact gv_retI (gl_dec ok_X11_way 15 27 (.ireturn) 1 rfl) rfl h
    · replace h := h.2 c
      refine gv_seg ok_X11_way 11 2 (Ps := []) (pc' := 23) (ls' := [.ref 42, .int x1, .int x2, .int x3, .float 0, .float 0, .float 0]) (st' := [.int (-1), .int x3]) (M2 := M5) rfl trivial ?_
      refine gv_icmp_ge (t := 28) (by decide) (gl_dec ok_X11_way 13 23 (.if_icmp .ge 5) 3 rfl) (fun c => ?_) (fun c => ?_)
      · replace h := h.1 c
        refine gv_seg ok_X11_way 16 2 (Ps := []) (pc' := 30) (ls' := [.ref 42, .int x1, .int x2, .int x3, .float 0, .float 0, .float 0]) (st' := [.int x2, .ref 42]) (M2 := M5) rfl trivial ?_
        refine gv_vcall (M' := m_X11_laysFar) (o := 42) (ci := 11) (As := [.int x2]) (st := []) (gl_dec ok_X11_way 18 30 (.invokevirtual 151) 3 rfl) (gl_lnk ok_X11_way 18 rfl rfl) mw_X11_laysFar iw_X11_laysFar lw_X11_laysFar ⟨by decide, by decide⟩ rfl rfl rfl ⟨rfl, Nat.le_of_ble_eq_true rfl⟩ h (fun r7 M8 hq => ?_)
        obtain ⟨rfl, h⟩ := hq
        change gv l sc m_X11_way 33 [.ref 42, .int x1, .int x2, .int x3, .float 0, .float 0, .float 0] [] M8 Q
        obtain ⟨hp, h⟩ := h
        refine gv_seg ok_X11_way 19 4 (Ps := [vp_in x1 144]) (pc' := 39) (ls' := [.ref 42, .int x1, .int x2, .int x3, .float 0, .float 0, .float 0]) (st' := [.int (M8 55 (Int32.toNatClampNeg x1))]) (M2 := M8) rfl hp ?_
        refine gv_if_eq (t := 52) (by decide) (gl_dec ok_X11_way 23 39 (.ifCond .eq 13) 3 rfl) (fun c => ?_) (fun c => ?_)
        · replace h := h.1 c
          refine gv_seg ok_X11_way 30 1 (Ps := []) (pc' := 54) (ls' := [.ref 42, .int x1, .int x2, .int x3, .float 0, .float 0, .float 0]) (st' := [.int (-9)]) (M2 := M8) rfl trivial ?_
          exact gv_retI (gl_dec ok_X11_way 31 54 (.ireturn) 1 rfl) rfl h
        · replace h := h.2 c
          obtain ⟨hp, h⟩ := h
          refine gv_seg ok_X11_way 24 5 (Ps := [vp_in x1 144]) (pc' := 49) (ls' := [.ref 42, .int x1, .int x2, .int x3, .float 0, .float 0, .float 0]) (st' := [.int (M8 55 (Int32.toNatClampNeg x1)), .int x3]) (M2 := M8) rfl hp ?_
          refine gv_icmp_lt (t := 55) (by decide) (gl_dec ok_X11_way 29 49 (.if_icmp .lt 6) 3 rfl) (fun c => ?_) (fun c => ?_)
          · replace h := h.1 c
            refine gv_seg ok_X11_way 32 1 (Ps := []) (pc' := 56) (ls' := [.ref 42, .int x1, .int x2, .int x3, .float 0, .float 0, .float 0]) (st' := [.int x3]) (M2 := M8) rfl trivial ?_
            refine gv_if_ge (t := 66) (by decide) (gl_dec ok_X11_way 33 56 (.ifCond .ge 10) 3 rfl) (fun c => ?_) (fun c => ?_)
            · replace h := h.1 c
              refine gv_seg ok_X11_way 39 4 (Ps := []) (pc' := 72) (ls' := [.ref 42, .int x1, .int x2, .int x3, .int x1, .int 0, .float 0]) (st' := []) (M2 := M8) rfl trivial ?_
              exact h
            · replace h := h.2 c
              obtain ⟨hp, h⟩ := h
              refine gv_seg ok_X11_way 34 4 (Ps := [vp_in x1 144]) (pc' := 65) (ls' := [.ref 42, .int x1, .int x2, .int x3, .float 0, .float 0, .float 0]) (st' := [.int (M8 55 (Int32.toNatClampNeg x1))]) (M2 := M8) rfl hp ?_
              exact gv_retI (gl_dec ok_X11_way 38 65 (.ireturn) 1 rfl) rfl h
          · replace h := h.2 c
            refine gv_seg ok_X11_way 30 1 (Ps := []) (pc' := 54) (ls' := [.ref 42, .int x1, .int x2, .int x3, .float 0, .float 0, .float 0]) (st' := [.int (-9)]) (M2 := M8) rfl trivial ?_
            exact gv_retI (gl_dec ok_X11_way 31 54 (.ireturn) 1 rfl) rfl h
      · replace h := h.2 c
        refine gv_seg ok_X11_way 14 1 (Ps := []) (pc' := 27) (ls' := [.ref 42, .int x1, .int x2, .int x3, .float 0, .float 0, .float 0]) (st' := [.int (-1)]) (M2 := M5) rfl trivial ?_
        exact gv_retI (gl_dec ok_X11_way 15 27 (.ireturn) 1 rfl) rfl h
theorem e_X11_way (l : Launch) (sc : Nat × (Nat → Int32)) (M : gl_N) (Q : Option Value → gl_N → Prop) (x1 x2 x3 : Int32)
  (h : gr l sc m_X11_isScale [.ref 42, .int x1] (gl_u2 M 42 0 0) (fun r1 M2 => ∃ v3 : Int32, r1 = some (.int v3) ∧ ((v3 = 0 → Q (some (.int (-1))) M2) ∧ (¬ v3 = 0 → gr l sc m_X11_isScale [.ref 42, .int x2] M2 (fun r4 M5 => ∃ v6 : Int32, r4 = some (.int v6) ∧ ((v6 = 0 → Q (some (.int (-1))) M5) ∧ (¬ v6 = 0 → ((-1) ≤ x3 → gr l sc m_X11_laysFar [.ref 42, .int x2] M5 (fun r7 M8 => r7 = none ∧ ((vp_in x1 144) ∧ (((M8 55 (Int32.toNatClampNeg x1)) = 0 → Q (some (.int (-9))) M8) ∧ (¬ (M8 55 (Int32.toNatClampNeg x1)) = 0 → (vp_in x1 144) ∧ ((x3 < (M8 55 (Int32.toNatClampNeg x1)) → (0 ≤ x3 → gv l sc m_X11_way 72 [.ref 42, .int x1, .int x2, .int x3, .int x1, .int 0, .float 0] [] M8 Q) ∧ (¬ 0 ≤ x3 → (vp_in x1 144) ∧ (Q (some (.int (M8 55 (Int32.toNatClampNeg x1)))) M8))) ∧ (¬ x3 < (M8 55 (Int32.toNatClampNeg x1)) → Q (some (.int (-9))) M8))))))) ∧ (¬ (-1) ≤ x3 → Q (some (.int (-1))) M5)))))))) : gr l sc m_X11_way [.ref 42, .int x1, .int x2, .int x3] M Q :=
  gr_of (by decide +kernel) (Nat.le_of_ble_eq_true rfl) (List.forall_mem_cons.mpr ⟨rfl, (List.forall_mem_cons.mpr ⟨rfl, (List.forall_mem_cons.mpr ⟨rfl, (List.forall_mem_cons.mpr ⟨rfl, (fun _ h => absurd h List.not_mem_nil)⟩)⟩)⟩)⟩) (w_X11_way_0 l sc M Q x1 x2 x3 h)
set_option maxHeartbeats 400000 in
set_option maxRecDepth 20000 in
theorem w_X11_way_72 (l : Launch) (sc : Nat × (Nat → Int32)) (M : gl_N) (Q : Option Value → gl_N → Prop) (x1 x2 x3 x4 x5 : Int32)
  (h : (x3 ≤ x5 → Q (some (.int x4)) M) ∧ (¬ x3 ≤ x5 → gv l sc m_X11_way 81 [.ref 42, .int x1, .int x2, .int x3, .int x4, .int x5, .int 0] [] M Q)) : gv l sc m_X11_way 72 [.ref 42, .int x1, .int x2, .int x3, .int x4, .int x5, .float 0] [] M Q := by
  refine gv_seg ok_X11_way 43 2 (Ps := []) (pc' := 75) (ls' := [.ref 42, .int x1, .int x2, .int x3, .int x4, .int x5, .float 0]) (st' := [.int x3, .int x5]) (M2 := M) rfl trivial ?_
  refine gv_icmp_ge (t := 127) (by decide) (gl_dec ok_X11_way 45 75 (.if_icmp .ge 52) 3 rfl) (fun c => ?_) (fun c => ?_)
  · replace h := h.1 c
    refine gv_seg ok_X11_way 70 1 (Ps := []) (pc' := 129) (ls' := [.ref 42, .int x1, .int x2, .int x3, .int x4, .int x5, .float 0]) (st' := [.int x4]) (M2 := M) rfl trivial ?_
    exact gv_retI (gl_dec ok_X11_way 71 129 (.ireturn) 1 rfl) rfl h
  · replace h := h.2 c
    refine gv_seg ok_X11_way 46 2 (Ps := []) (pc' := 81) (ls' := [.ref 42, .int x1, .int x2, .int x3, .int x4, .int x5, .int 0]) (st' := []) (M2 := M) rfl trivial ?_
    exact h
set_option maxHeartbeats 400000 in
set_option maxRecDepth 20000 in
theorem w_X11_way_81 (l : Launch) (sc : Nat × (Nat → Int32)) (M : gl_N) (Q : Option Value → gl_N → Prop) (x1 x2 x3 x4 x5 x6 : Int32)
  (h : (vp_in x6 144 ∧ vp_in x4 144) ∧ ((¬ (M 55 (Int32.toNatClampNeg x6)) = ((M 55 (Int32.toNatClampNeg x4)) - 1) → gv l sc m_X11_way 81 [.ref 42, .int x1, .int x2, .int x3, .int x4, .int x5, .int (x6 + 1)] [] M Q) ∧ ((M 55 (Int32.toNatClampNeg x6)) = ((M 55 (Int32.toNatClampNeg x4)) - 1) → gr l sc m_X11_share [.ref 42, .int x4, .int x6] M (fun r1 M2 => ∃ v3 : Int32, r1 = some (.int v3) ∧ ((¬ v3 = 0 → gv l sc m_X11_way 72 [.ref 42, .int x1, .int x2, .int x3, .int x6, .int (x5 + 1), .float 0] [] M2 Q) ∧ (v3 = 0 → gv l sc m_X11_way 81 [.ref 42, .int x1, .int x2, .int x3, .int x4, .int x5, .int (x6 + 1)] [] M2 Q)))))) : gv l sc m_X11_way 81 [.ref 42, .int x1, .int x2, .int x3, .int x4, .int x5, .int x6] [] M Q := by
  obtain ⟨hp, h⟩ := h
  refine gv_seg ok_X11_way 48 10 (Ps := [vp_in x6 144, vp_in x4 144]) (pc' := 97) (ls' := [.ref 42, .int x1, .int x2, .int x3, .int x4, .int x5, .int x6]) (st' := [.int ((M 55 (Int32.toNatClampNeg x4)) - 1), .int (M 55 (Int32.toNatClampNeg x6))]) (M2 := M) rfl ⟨hp.1, hp.2⟩ ?_
  refine gv_icmp_ne (t := 111) (by decide) (gl_dec ok_X11_way 58 97 (.if_icmp .ne 14) 3 rfl) (fun c => ?_) (fun c => ?_)
  · replace h := h.1 c
    refine gv_seg ok_X11_way 64 1 (Ps := []) (pc' := 114) (ls' := [.ref 42, .int x1, .int x2, .int x3, .int x4, .int x5, .int (x6 + 1)]) (st' := []) (M2 := M) rfl trivial ?_
    refine gv_goto (t := 81) (by decide) (gl_dec ok_X11_way 65 114 (.goto (-33)) 3 rfl) ?_
    exact h
  · replace h := h.2 c
    refine gv_seg ok_X11_way 59 3 (Ps := []) (pc' := 105) (ls' := [.ref 42, .int x1, .int x2, .int x3, .int x4, .int x5, .int x6]) (st' := [.int x6, .int x4, .ref 42]) (M2 := M) rfl trivial ?_
    refine gv_vcall (M' := m_X11_share) (o := 42) (ci := 11) (As := [.int x4, .int x6]) (st := []) (gl_dec ok_X11_way 62 105 (.invokevirtual 148) 3 rfl) (gl_lnk ok_X11_way 62 rfl rfl) mw_X11_share iw_X11_share lw_X11_share ⟨by decide, by decide⟩ rfl rfl rfl ⟨rfl, Nat.le_of_ble_eq_true rfl⟩ h (fun r1 M2 hq => ?_)
    obtain ⟨v3, rfl, h⟩ := hq
    change gv l sc m_X11_way 108 [.ref 42, .int x1, .int x2, .int x3, .int x4, .int x5, .int x6] [.int v3] M2 Q
    refine gv_if_ne (t := 117) (by decide) (gl_dec ok_X11_way 63 108 (.ifCond .ne 9) 3 rfl) (fun c => ?_) (fun c => ?_)
    · replace h := h.1 c
      refine gv_seg ok_X11_way 66 3 (Ps := []) (pc' := 124) (ls' := [.ref 42, .int x1, .int x2, .int x3, .int x6, .int (x5 + 1), .int x6]) (st' := []) (M2 := M2) rfl trivial ?_
      refine gv_goto (t := 72) (by decide) (gl_dec ok_X11_way 69 124 (.goto (-52)) 3 rfl) ?_
      exact gv_weak (ls' := [.ref 42, .int x1, .int x2, .int x3, .int x6, .int (x5 + 1), .float 0]) ⟨Or.inl rfl, ⟨Or.inl rfl, ⟨Or.inl rfl, ⟨Or.inl rfl, ⟨Or.inl rfl, ⟨Or.inl rfl, ⟨Or.inr rfl, trivial⟩⟩⟩⟩⟩⟩⟩ h
    · replace h := h.2 c
      refine gv_seg ok_X11_way 64 1 (Ps := []) (pc' := 114) (ls' := [.ref 42, .int x1, .int x2, .int x3, .int x4, .int x5, .int (x6 + 1)]) (st' := []) (M2 := M2) rfl trivial ?_
      refine gv_goto (t := 81) (by decide) (gl_dec ok_X11_way 65 114 (.goto (-33)) 3 rfl) ?_
      exact h
set_option maxHeartbeats 400000 in
set_option maxRecDepth 20000 in
theorem w_X11_farthest_0 (l : Launch) (sc : Nat × (Nat → Int32)) (M : gl_N) (Q : Option Value → gl_N → Prop) (x1 x2 : Int32)
  (h : gr l sc m_X11_isScale [.ref 42, .int x1] (gl_u2 M 42 0 0) (fun r1 M2 => ∃ v3 : Int32, r1 = some (.int v3) ∧ ((v3 = 0 → Q (some (.int (-1))) M2) ∧ (¬ v3 = 0 → gr l sc m_X11_in [.int x2, .int 0, .int 1] M2 (fun r4 M5 => ∃ v6 : Int32, r4 = some (.int v6) ∧ ((¬ v6 = 0 → gr l sc m_X11_laysFar [.ref 42, .int x1] M5 (fun r7 M8 => r7 = none ∧ (gv l sc m_X11_farthest 42 [.ref 42, .int x1, .int x2, .int x1, .int ((24 * (M8 42 2)) - 1)] [] M8 Q))) ∧ (v6 = 0 → Q (some (.int (-1))) M5))))))) : gv l sc m_X11_farthest 0 [.ref 42, .int x1, .int x2, .float 0, .float 0] [] M Q := by
  refine gv_seg ok_X11_farthest 0 5 (Ps := []) (pc' := 7) (ls' := [.ref 42, .int x1, .int x2, .float 0, .float 0]) (st' := [.int x1, .ref 42]) (M2 := (gl_u2 M 42 0 0)) rfl trivial ?_
  refine gv_vcall (M' := m_X11_isScale) (o := 42) (ci := 11) (As := [.int x1]) (st := []) (gl_dec ok_X11_farthest 5 7 (.invokevirtual 139) 3 rfl) (gl_lnk ok_X11_farthest 5 rfl rfl) mw_X11_isScale iw_X11_isScale lw_X11_isScale ⟨by decide, by decide⟩ rfl rfl rfl ⟨rfl, Nat.le_of_ble_eq_true rfl⟩ h (fun r1 M2 hq => ?_)
  obtain ⟨v3, rfl, h⟩ := hq
  change gv l sc m_X11_farthest 10 [.ref 42, .int x1, .int x2, .float 0, .float 0] [.int v3] M2 Q
  refine gv_if_eq (t := 22) (by decide) (gl_dec ok_X11_farthest 6 10 (.ifCond .eq 12) 3 rfl) (fun c => ?_) (fun c => ?_)
  · replace h := h.1 c
    refine gv_seg ok_X11_farthest 12 1 (Ps := []) (pc' := 23) (ls' := [.ref 42, .int x1, .int x2, .float 0, .float 0]) (st' := [.int (-1)]) (M2 := M2) rfl trivial ?_
    exact gv_retI (gl_dec ok_X11_farthest 13 23 (.ireturn) 1 rfl) rfl h
  · replace h := h.2 c
    refine gv_seg ok_X11_farthest 7 3 (Ps := []) (pc' := 16) (ls' := [.ref 42, .int x1, .int x2, .float 0, .float 0]) (st' := [.int 1, .int 0, .int x2]) (M2 := M2) rfl trivial ?_
    refine gv_scall (M' := m_X11_in) (As := [.int x2, .int 0, .int 1]) (st := []) (gl_dec ok_X11_farthest 10 16 (.invokestatic 69) 3 rfl) (gl_lnkS ok_X11_farthest 10 rfl rfl) mw_X11_in sw_X11_in ⟨by decide, by decide⟩ ⟨rfl, Nat.le_of_ble_eq_true rfl⟩ h (fun r4 M5 hq => ?_)
    obtain ⟨v6, rfl, h⟩ := hq
    change gv l sc m_X11_farthest 19 [.ref 42, .int x1, .int x2, .float 0, .float 0] [.int v6] M5 Q
    refine gv_if_ne (t := 24) (by decide) (gl_dec ok_X11_farthest 11 19 (.ifCond .ne 5) 3 rfl) (fun c => ?_) (fun c => ?_)
    · replace h := h.1 c
      refine gv_seg ok_X11_farthest 14 2 (Ps := []) (pc' := 26) (ls' := [.ref 42, .int x1, .int x2, .float 0, .float 0]) (st' := [.int x1, .ref 42]) (M2 := M5) rfl trivial ?_
      refine gv_vcall (M' := m_X11_laysFar) (o := 42) (ci := 11) (As := [.int x1]) (st := []) (gl_dec ok_X11_farthest 16 26 (.invokevirtual 151) 3 rfl) (gl_lnk ok_X11_farthest 16 rfl rfl) mw_X11_laysFar iw_X11_laysFar lw_X11_laysFar ⟨by decide, by decide⟩ rfl rfl rfl ⟨rfl, Nat.le_of_ble_eq_true rfl⟩ h (fun r7 M8 hq => ?_)
      obtain ⟨rfl, h⟩ := hq
      change gv l sc m_X11_farthest 29 [.ref 42, .int x1, .int x2, .float 0, .float 0] [] M8 Q
      refine gv_seg ok_X11_farthest 17 9 (Ps := []) (pc' := 42) (ls' := [.ref 42, .int x1, .int x2, .int x1, .int ((24 * (M8 42 2)) - 1)]) (st' := []) (M2 := M8) rfl trivial ?_
      exact h
    · replace h := h.2 c
      refine gv_seg ok_X11_farthest 12 1 (Ps := []) (pc' := 23) (ls' := [.ref 42, .int x1, .int x2, .float 0, .float 0]) (st' := [.int (-1)]) (M2 := M5) rfl trivial ?_
      exact gv_retI (gl_dec ok_X11_farthest 13 23 (.ireturn) 1 rfl) rfl h
theorem e_X11_farthest (l : Launch) (sc : Nat × (Nat → Int32)) (M : gl_N) (Q : Option Value → gl_N → Prop) (x1 x2 : Int32)
  (h : gr l sc m_X11_isScale [.ref 42, .int x1] (gl_u2 M 42 0 0) (fun r1 M2 => ∃ v3 : Int32, r1 = some (.int v3) ∧ ((v3 = 0 → Q (some (.int (-1))) M2) ∧ (¬ v3 = 0 → gr l sc m_X11_in [.int x2, .int 0, .int 1] M2 (fun r4 M5 => ∃ v6 : Int32, r4 = some (.int v6) ∧ ((¬ v6 = 0 → gr l sc m_X11_laysFar [.ref 42, .int x1] M5 (fun r7 M8 => r7 = none ∧ (gv l sc m_X11_farthest 42 [.ref 42, .int x1, .int x2, .int x1, .int ((24 * (M8 42 2)) - 1)] [] M8 Q))) ∧ (v6 = 0 → Q (some (.int (-1))) M5))))))) : gr l sc m_X11_farthest [.ref 42, .int x1, .int x2] M Q :=
  gr_of (by decide +kernel) (Nat.le_of_ble_eq_true rfl) (List.forall_mem_cons.mpr ⟨rfl, (List.forall_mem_cons.mpr ⟨rfl, (List.forall_mem_cons.mpr ⟨rfl, (fun _ h => absurd h List.not_mem_nil)⟩)⟩)⟩) (w_X11_farthest_0 l sc M Q x1 x2 h)
set_option maxHeartbeats 400000 in
set_option maxRecDepth 20000 in
theorem w_X11_farthest_42 (l : Launch) (sc : Nat × (Nat → Int32)) (M : gl_N) (Q : Option Value → gl_N → Prop) (x1 x2 x3 x4 : Int32)
  (h : (x4 < 0 → (¬ x2 = 0 → Q (some (.int x3)) M) ∧ (x2 = 0 → (vp_in x3 144) ∧ (Q (some (.int (M 55 (Int32.toNatClampNeg x3)))) M))) ∧ (¬ x4 < 0 → (vp_in x4 144 ∧ vp_in x3 144) ∧ (((M 55 (Int32.toNatClampNeg x4)) < (M 55 (Int32.toNatClampNeg x3)) → gv l sc m_X11_farthest 42 [.ref 42, .int x1, .int x2, .int x3, .int (x4 + (-1))] [] M Q) ∧ (¬ (M 55 (Int32.toNatClampNeg x4)) < (M 55 (Int32.toNatClampNeg x3)) → gv l sc m_X11_farthest 42 [.ref 42, .int x1, .int x2, .int x4, .int (x4 + (-1))] [] M Q)))) : gv l sc m_X11_farthest 42 [.ref 42, .int x1, .int x2, .int x3, .int x4] [] M Q := by
  refine gv_seg ok_X11_farthest 26 1 (Ps := []) (pc' := 44) (ls' := [.ref 42, .int x1, .int x2, .int x3, .int x4]) (st' := [.int x4]) (M2 := M) rfl trivial ?_
  refine gv_if_lt (t := 76) (by decide) (gl_dec ok_X11_farthest 27 44 (.ifCond .lt 32) 3 rfl) (fun c => ?_) (fun c => ?_)
  · replace h := h.1 c
    refine gv_seg ok_X11_farthest 43 1 (Ps := []) (pc' := 77) (ls' := [.ref 42, .int x1, .int x2, .int x3, .int x4]) (st' := [.int x2]) (M2 := M) rfl trivial ?_
    refine gv_if_ne (t := 89) (by decide) (gl_dec ok_X11_farthest 44 77 (.ifCond .ne 12) 3 rfl) (fun c => ?_) (fun c => ?_)
    · replace h := h.1 c
      refine gv_seg ok_X11_farthest 50 1 (Ps := []) (pc' := 90) (ls' := [.ref 42, .int x1, .int x2, .int x3, .int x4]) (st' := [.int x3]) (M2 := M) rfl trivial ?_
      exact gv_retI (gl_dec ok_X11_farthest 51 90 (.ireturn) 1 rfl) rfl h
    · replace h := h.2 c
      obtain ⟨hp, h⟩ := h
      refine gv_seg ok_X11_farthest 45 4 (Ps := [vp_in x3 144]) (pc' := 86) (ls' := [.ref 42, .int x1, .int x2, .int x3, .int x4]) (st' := [.int (M 55 (Int32.toNatClampNeg x3))]) (M2 := M) rfl hp ?_
      refine gv_goto (t := 90) (by decide) (gl_dec ok_X11_farthest 49 86 (.goto 4) 3 rfl) ?_
      exact gv_retI (gl_dec ok_X11_farthest 51 90 (.ireturn) 1 rfl) rfl h
  · replace h := h.2 c
    obtain ⟨hp, h⟩ := h
    refine gv_seg ok_X11_farthest 28 8 (Ps := [vp_in x4 144, vp_in x3 144]) (pc' := 60) (ls' := [.ref 42, .int x1, .int x2, .int x3, .int x4]) (st' := [.int (M 55 (Int32.toNatClampNeg x3)), .int (M 55 (Int32.toNatClampNeg x4))]) (M2 := M) rfl ⟨hp.1, hp.2⟩ ?_
    refine gv_icmp_lt (t := 68) (by decide) (gl_dec ok_X11_farthest 36 60 (.if_icmp .lt 8) 3 rfl) (fun c => ?_) (fun c => ?_)
    · replace h := h.1 c
      refine gv_seg ok_X11_farthest 39 3 (Ps := []) (pc' := 73) (ls' := [.ref 42, .int x1, .int x2, .int x3, .int (x4 + (-1))]) (st' := []) (M2 := M) rfl trivial ?_
      refine gv_goto (t := 42) (by decide) (gl_dec ok_X11_farthest 42 73 (.goto (-31)) 3 rfl) ?_
      exact h
    · replace h := h.2 c
      refine gv_seg ok_X11_farthest 37 1 (Ps := []) (pc' := 65) (ls' := [.ref 42, .int x1, .int x2, .int x3, .int x4]) (st' := [.int x4]) (M2 := M) rfl trivial ?_
      refine gv_goto (t := 69) (by decide) (gl_dec ok_X11_farthest 38 65 (.goto 4) 3 rfl) ?_
      refine gv_seg ok_X11_farthest 40 2 (Ps := []) (pc' := 73) (ls' := [.ref 42, .int x1, .int x2, .int x4, .int (x4 + (-1))]) (st' := []) (M2 := M) rfl trivial ?_
      refine gv_goto (t := 42) (by decide) (gl_dec ok_X11_farthest 42 73 (.goto (-31)) 3 rfl) ?_
      exact h
set_option maxHeartbeats 400000 in
set_option maxRecDepth 20000 in
theorem w_X11_state_0 (l : Launch) (sc : Nat × (Nat → Int32)) (M : gl_N) (Q : Option Value → gl_N → Prop) (x0 x1 x2 : Int32)
  (h : Q (some (.int (((576 * x0) + (4 * x1)) + x2))) M) : gv l sc m_X11_state 0 [.int x0, .int x1, .int x2] [] M Q := by
  refine gv_seg ok_X11_state 0 9 (Ps := []) (pc' := 11) (ls' := [.int x0, .int x1, .int x2]) (st' := [.int (((576 * x0) + (4 * x1)) + x2)]) (M2 := M) rfl trivial ?_
  exact gv_retI (gl_dec ok_X11_state 9 11 (.ireturn) 1 rfl) rfl h
theorem e_X11_state (l : Launch) (sc : Nat × (Nat → Int32)) (M : gl_N) (Q : Option Value → gl_N → Prop) (x0 x1 x2 : Int32)
  (h : Q (some (.int (((576 * x0) + (4 * x1)) + x2))) M) : gr l sc m_X11_state [.int x0, .int x1, .int x2] M Q :=
  gr_of (by decide +kernel) (Nat.le_of_ble_eq_true rfl) (List.forall_mem_cons.mpr ⟨rfl, (List.forall_mem_cons.mpr ⟨rfl, (List.forall_mem_cons.mpr ⟨rfl, (fun _ h => absurd h List.not_mem_nil)⟩)⟩)⟩) (w_X11_state_0 l sc M Q x0 x1 x2 h)
set_option maxHeartbeats 400000 in
set_option maxRecDepth 20000 in
theorem w_X11_step_0 (l : Launch) (sc : Nat × (Nat → Int32)) (M : gl_N) (Q : Option Value → gl_N → Prop) (x1 x2 x3 x4 : Int32)
  (h : gr l sc m_X11_sameIn [.ref 42, .int x3, .int x4, .int x1] M (fun r1 M2 => ∃ v3 : Int32, r1 = some (.int v3) ∧ ((¬ v3 = (-9) → (¬ v3 = x2 → (¬ x1 = x3 → Q (some (.int (1 + 10))) M2) ∧ (x1 = x3 → Q (some (.int (1 + 0))) M2)) ∧ (v3 = x2 → (¬ x1 = x3 → Q (some (.int (0 + 10))) M2) ∧ (x1 = x3 → Q (some (.int (0 + 0))) M2))) ∧ (v3 = (-9) → Q (some (.int 100000)) M2)))) : gv l sc m_X11_step 0 [.ref 42, .int x1, .int x2, .int x3, .int x4, .float 0] [] M Q := by
  refine gv_seg ok_X11_step 0 4 (Ps := []) (pc' := 5) (ls' := [.ref 42, .int x1, .int x2, .int x3, .int x4, .float 0]) (st' := [.int x1, .int x4, .int x3, .ref 42]) (M2 := M) rfl trivial ?_
  refine gv_vcall (M' := m_X11_sameIn) (o := 42) (ci := 11) (As := [.int x3, .int x4, .int x1]) (st := []) (gl_dec ok_X11_step 4 5 (.invokevirtual 135) 3 rfl) (gl_lnk ok_X11_step 4 rfl rfl) mw_X11_sameIn iw_X11_sameIn lw_X11_sameIn ⟨by decide, by decide⟩ rfl rfl rfl ⟨rfl, Nat.le_of_ble_eq_true rfl⟩ h (fun r1 M2 hq => ?_)
  obtain ⟨v3, rfl, h⟩ := hq
  change gv l sc m_X11_step 8 [.ref 42, .int x1, .int x2, .int x3, .int x4, .float 0] [.int v3] M2 Q
  refine gv_seg ok_X11_step 5 3 (Ps := []) (pc' := 14) (ls' := [.ref 42, .int x1, .int x2, .int x3, .int x4, .int v3]) (st' := [.int (-9), .int v3]) (M2 := M2) rfl trivial ?_
  refine gv_icmp_ne (t := 22) (by decide) (gl_dec ok_X11_step 8 14 (.if_icmp .ne 8) 3 rfl) (fun c => ?_) (fun c => ?_)
  · replace h := h.1 c
    refine gv_seg ok_X11_step 11 2 (Ps := []) (pc' := 25) (ls' := [.ref 42, .int x1, .int x2, .int x3, .int x4, .int v3]) (st' := [.int x2, .int v3]) (M2 := M2) rfl trivial ?_
    refine gv_icmp_ne (t := 32) (by decide) (gl_dec ok_X11_step 13 25 (.if_icmp .ne 7) 3 rfl) (fun c => ?_) (fun c => ?_)
    · replace h := h.1 c
      refine gv_seg ok_X11_step 16 3 (Ps := []) (pc' := 35) (ls' := [.ref 42, .int x1, .int x2, .int x3, .int x4, .int v3]) (st' := [.int x3, .int x1, .int 1]) (M2 := M2) rfl trivial ?_
      refine gv_icmp_ne (t := 42) (by decide) (gl_dec ok_X11_step 19 35 (.if_icmp .ne 7) 3 rfl) (fun c => ?_) (fun c => ?_)
      · replace h := h.1 c
        refine gv_seg ok_X11_step 22 2 (Ps := []) (pc' := 45) (ls' := [.ref 42, .int x1, .int x2, .int x3, .int x4, .int v3]) (st' := [.int (1 + 10)]) (M2 := M2) rfl trivial ?_
        exact gv_retI (gl_dec ok_X11_step 24 45 (.ireturn) 1 rfl) rfl h
      · replace h := h.2 c
        refine gv_seg ok_X11_step 20 1 (Ps := []) (pc' := 39) (ls' := [.ref 42, .int x1, .int x2, .int x3, .int x4, .int v3]) (st' := [.int 0, .int 1]) (M2 := M2) rfl trivial ?_
        refine gv_goto (t := 44) (by decide) (gl_dec ok_X11_step 21 39 (.goto 5) 3 rfl) ?_
        refine gv_seg ok_X11_step 23 1 (Ps := []) (pc' := 45) (ls' := [.ref 42, .int x1, .int x2, .int x3, .int x4, .int v3]) (st' := [.int (1 + 0)]) (M2 := M2) rfl trivial ?_
        exact gv_retI (gl_dec ok_X11_step 24 45 (.ireturn) 1 rfl) rfl h
    · replace h := h.2 c
      refine gv_seg ok_X11_step 14 1 (Ps := []) (pc' := 29) (ls' := [.ref 42, .int x1, .int x2, .int x3, .int x4, .int v3]) (st' := [.int 0]) (M2 := M2) rfl trivial ?_
      refine gv_goto (t := 33) (by decide) (gl_dec ok_X11_step 15 29 (.goto 4) 3 rfl) ?_
      refine gv_seg ok_X11_step 17 2 (Ps := []) (pc' := 35) (ls' := [.ref 42, .int x1, .int x2, .int x3, .int x4, .int v3]) (st' := [.int x3, .int x1, .int 0]) (M2 := M2) rfl trivial ?_
      refine gv_icmp_ne (t := 42) (by decide) (gl_dec ok_X11_step 19 35 (.if_icmp .ne 7) 3 rfl) (fun c => ?_) (fun c => ?_)
      · replace h := h.1 c
        refine gv_seg ok_X11_step 22 2 (Ps := []) (pc' := 45) (ls' := [.ref 42, .int x1, .int x2, .int x3, .int x4, .int v3]) (st' := [.int (0 + 10)]) (M2 := M2) rfl trivial ?_
        exact gv_retI (gl_dec ok_X11_step 24 45 (.ireturn) 1 rfl) rfl h
      · replace h := h.2 c
        refine gv_seg ok_X11_step 20 1 (Ps := []) (pc' := 39) (ls' := [.ref 42, .int x1, .int x2, .int x3, .int x4, .int v3]) (st' := [.int 0, .int 0]) (M2 := M2) rfl trivial ?_
        refine gv_goto (t := 44) (by decide) (gl_dec ok_X11_step 21 39 (.goto 5) 3 rfl) ?_
        refine gv_seg ok_X11_step 23 1 (Ps := []) (pc' := 45) (ls' := [.ref 42, .int x1, .int x2, .int x3, .int x4, .int v3]) (st' := [.int (0 + 0)]) (M2 := M2) rfl trivial ?_
        exact gv_retI (gl_dec ok_X11_step 24 45 (.ireturn) 1 rfl) rfl h
  · replace h := h.2 c
    refine gv_seg ok_X11_step 9 1 (Ps := []) (pc' := 19) (ls' := [.ref 42, .int x1, .int x2, .int x3, .int x4, .int v3]) (st' := [.int 100000]) (M2 := M2) rfl trivial ?_
    refine gv_goto (t := 45) (by decide) (gl_dec ok_X11_step 10 19 (.goto 26) 3 rfl) ?_
    exact gv_retI (gl_dec ok_X11_step 24 45 (.ireturn) 1 rfl) rfl h
theorem e_X11_step (l : Launch) (sc : Nat × (Nat → Int32)) (M : gl_N) (Q : Option Value → gl_N → Prop) (x1 x2 x3 x4 : Int32)
  (h : gr l sc m_X11_sameIn [.ref 42, .int x3, .int x4, .int x1] M (fun r1 M2 => ∃ v3 : Int32, r1 = some (.int v3) ∧ ((¬ v3 = (-9) → (¬ v3 = x2 → (¬ x1 = x3 → Q (some (.int (1 + 10))) M2) ∧ (x1 = x3 → Q (some (.int (1 + 0))) M2)) ∧ (v3 = x2 → (¬ x1 = x3 → Q (some (.int (0 + 10))) M2) ∧ (x1 = x3 → Q (some (.int (0 + 0))) M2))) ∧ (v3 = (-9) → Q (some (.int 100000)) M2)))) : gr l sc m_X11_step [.ref 42, .int x1, .int x2, .int x3, .int x4] M Q :=
  gr_of (by decide +kernel) (Nat.le_of_ble_eq_true rfl) (List.forall_mem_cons.mpr ⟨rfl, (List.forall_mem_cons.mpr ⟨rfl, (List.forall_mem_cons.mpr ⟨rfl, (List.forall_mem_cons.mpr ⟨rfl, (List.forall_mem_cons.mpr ⟨rfl, (fun _ h => absurd h List.not_mem_nil)⟩)⟩)⟩)⟩)⟩) (w_X11_step_0 l sc M Q x1 x2 x3 x4 h)
set_option maxHeartbeats 400000 in
set_option maxRecDepth 20000 in
theorem w_X11_leastFrom_0 (l : Launch) (sc : Nat × (Nat → Int32)) (M : gl_N) (Q : Option Value → gl_N → Prop) (x1 x2 x3 : Int32)
  (h : gv l sc m_X11_leastFrom 7 [.ref 42, .int x1, .int x2, .int x3, .int 100000, .int 0, .float 0, .float 0, .float 0, .float 0, .float 0, .float 0, .float 0] [] M Q) : gv l sc m_X11_leastFrom 0 [.ref 42, .int x1, .int x2, .int x3, .float 0, .float 0, .float 0, .float 0, .float 0, .float 0, .float 0, .float 0, .float 0] [] M Q := by
  refine gv_seg ok_X11_leastFrom 0 4 (Ps := []) (pc' := 7) (ls' := [.ref 42, .int x1, .int x2, .int x3, .int 100000, .int 0, .float 0, .float 0, .float 0, .float 0, .float 0, .float 0, .float 0]) (st' := []) (M2 := M) rfl trivial ?_
  exact h
theorem e_X11_leastFrom (l : Launch) (sc : Nat × (Nat → Int32)) (M : gl_N) (Q : Option Value → gl_N → Prop) (x1 x2 x3 : Int32)
  (h : gv l sc m_X11_leastFrom 7 [.ref 42, .int x1, .int x2, .int x3, .int 100000, .int 0, .float 0, .float 0, .float 0, .float 0, .float 0, .float 0, .float 0] [] M Q) : gr l sc m_X11_leastFrom [.ref 42, .int x1, .int x2, .int x3] M Q :=
  gr_of (by decide +kernel) (Nat.le_of_ble_eq_true rfl) (List.forall_mem_cons.mpr ⟨rfl, (List.forall_mem_cons.mpr ⟨rfl, (List.forall_mem_cons.mpr ⟨rfl, (List.forall_mem_cons.mpr ⟨rfl, (fun _ h => absurd h List.not_mem_nil)⟩)⟩)⟩)⟩) (w_X11_leastFrom_0 l sc M Q x1 x2 x3 h)
set_option maxHeartbeats 400000 in
set_option maxRecDepth 20000 in
theorem w_X11_leastFrom_7 (l : Launch) (sc : Nat × (Nat → Int32)) (M : gl_N) (Q : Option Value → gl_N → Prop) (x1 x2 x3 x4 x5 : Int32)
  (h : gr l sc m_X11_parts [.ref 42, .int x2] M (fun r1 M2 => ∃ v3 : Int32, r1 = some (.int v3) ∧ ((v3 ≤ x5 → Q (some (.int x4)) M2) ∧ (¬ v3 ≤ x5 → gr l sc m_X11_cellOf [.ref 42, .int x2, .int x5] M2 (fun r4 M5 => ∃ v6 : Int32, r4 = some (.int v6) ∧ (gr l sc m_X11_pitchOf [.ref 42, .int x2, .int x5] M5 (fun r7 M8 => ∃ v9 : Int32, r7 = some (.int v9) ∧ ((vp_in (2 + x1) 17) ∧ (gr l sc m_X11_isIn [.ref 42, .int v6, .int v9, .int (M8 48 (Int32.toNatClampNeg (2 + x1)))] M8 (fun r10 M11 => ∃ v12 : Int32, r10 = some (.int v12) ∧ ((v12 = 0 → gv l sc m_X11_leastFrom 7 [.ref 42, .int x1, .int x2, .int x3, .int x4, .int (x5 + 1), .float 0, .float 0, .float 0, .float 0, .float 0, .float 0, .float 0] [] M11 Q) ∧ (¬ v12 = 0 → gv l sc m_X11_leastFrom 57 [.ref 42, .int x1, .int x2, .int x3, .int x4, .int x5, .int v6, .int v9, .int 0, .float 0, .float 0, .float 0, .float 0] [] M11 Q)))))))))))) : gv l sc m_X11_leastFrom 7 [.ref 42, .int x1, .int x2, .int x3, .int x4, .int x5, .float 0, .float 0, .float 0, .float 0, .float 0, .float 0, .float 0] [] M Q := by
  refine gv_seg ok_X11_leastFrom 4 3 (Ps := []) (pc' := 11) (ls' := [.ref 42, .int x1, .int x2, .int x3, .int x4, .int x5, .float 0, .float 0, .float 0, .float 0, .float 0, .float 0, .float 0]) (st' := [.int x2, .ref 42, .int x5]) (M2 := M) rfl trivial ?_
  refine gv_vcall (M' := m_X11_parts) (o := 42) (ci := 11) (As := [.int x2]) (st := [.int x5]) (gl_dec ok_X11_leastFrom 7 11 (.invokevirtual 132) 3 rfl) (gl_lnk ok_X11_leastFrom 7 rfl rfl) mw_X11_parts iw_X11_parts lw_X11_parts ⟨by decide, by decide⟩ rfl rfl rfl ⟨rfl, Nat.le_of_ble_eq_true rfl⟩ h (fun r1 M2 hq => ?_)
  obtain ⟨v3, rfl, h⟩ := hq
  change gv l sc m_X11_leastFrom 14 [.ref 42, .int x1, .int x2, .int x3, .int x4, .int x5, .float 0, .float 0, .float 0, .float 0, .float 0, .float 0, .float 0] [.int v3, .int x5] M2 Q
  refine gv_icmp_ge (t := 232) (by decide) (gl_dec ok_X11_leastFrom 8 14 (.if_icmp .ge 218) 3 rfl) (fun c => ?_) (fun c => ?_)
  · replace h := h.1 c
    refine gv_seg ok_X11_leastFrom 131 1 (Ps := []) (pc' := 234) (ls' := [.ref 42, .int x1, .int x2, .int x3, .int x4, .int x5, .float 0, .float 0, .float 0, .float 0, .float 0, .float 0, .float 0]) (st' := [.int x4]) (M2 := M2) rfl trivial ?_
    exact gv_retI (gl_dec ok_X11_leastFrom 132 234 (.ireturn) 1 rfl) rfl h
  · replace h := h.2 c
    refine gv_seg ok_X11_leastFrom 9 3 (Ps := []) (pc' := 21) (ls' := [.ref 42, .int x1, .int x2, .int x3, .int x4, .int x5, .float 0, .float 0, .float 0, .float 0, .float 0, .float 0, .float 0]) (st' := [.int x5, .int x2, .ref 42]) (M2 := M2) rfl trivial ?_
    refine gv_vcall (M' := m_X11_cellOf) (o := 42) (ci := 11) (As := [.int x2, .int x5]) (st := []) (gl_dec ok_X11_leastFrom 12 21 (.invokevirtual 122) 3 rfl) (gl_lnk ok_X11_leastFrom 12 rfl rfl) mw_X11_cellOf iw_X11_cellOf lw_X11_cellOf ⟨by decide, by decide⟩ rfl rfl rfl ⟨rfl, Nat.le_of_ble_eq_true rfl⟩ h (fun r4 M5 hq => ?_)
    obtain ⟨v6, rfl, h⟩ := hq
    change gv l sc m_X11_leastFrom 24 [.ref 42, .int x1, .int x2, .int x3, .int x4, .int x5, .float 0, .float 0, .float 0, .float 0, .float 0, .float 0, .float 0] [.int v6] M5 Q
    refine gv_seg ok_X11_leastFrom 13 4 (Ps := []) (pc' := 30) (ls' := [.ref 42, .int x1, .int x2, .int x3, .int x4, .int x5, .int v6, .float 0, .float 0, .float 0, .float 0, .float 0, .float 0]) (st' := [.int x5, .int x2, .ref 42]) (M2 := M5) rfl trivial ?_
    refine gv_vcall (M' := m_X11_pitchOf) (o := 42) (ci := 11) (As := [.int x2, .int x5]) (st := []) (gl_dec ok_X11_leastFrom 17 30 (.invokevirtual 126) 3 rfl) (gl_lnk ok_X11_leastFrom 17 rfl rfl) mw_X11_pitchOf iw_X11_pitchOf lw_X11_pitchOf ⟨by decide, by decide⟩ rfl rfl rfl ⟨rfl, Nat.le_of_ble_eq_true rfl⟩ h (fun r7 M8 hq => ?_)
    obtain ⟨v9, rfl, h⟩ := hq
    change gv l sc m_X11_leastFrom 33 [.ref 42, .int x1, .int x2, .int x3, .int x4, .int x5, .int v6, .float 0, .float 0, .float 0, .float 0, .float 0, .float 0] [.int v9] M8 Q
    obtain ⟨hp, h⟩ := h
    refine gv_seg ok_X11_leastFrom 18 10 (Ps := [vp_in (2 + x1) 17]) (pc' := 48) (ls' := [.ref 42, .int x1, .int x2, .int x3, .int x4, .int x5, .int v6, .int v9, .float 0, .float 0, .float 0, .float 0, .float 0]) (st' := [.int (M8 48 (Int32.toNatClampNeg (2 + x1))), .int v9, .int v6, .ref 42]) (M2 := M8) rfl hp ?_
    refine gv_vcall (M' := m_X11_isIn) (o := 42) (ci := 11) (As := [.int v6, .int v9, .int (M8 48 (Int32.toNatClampNeg (2 + x1)))]) (st := []) (gl_dec ok_X11_leastFrom 28 48 (.invokevirtual 129) 3 rfl) (gl_lnk ok_X11_leastFrom 28 rfl rfl) mw_X11_isIn iw_X11_isIn lw_X11_isIn ⟨by decide, by decide⟩ rfl rfl rfl ⟨rfl, Nat.le_of_ble_eq_true rfl⟩ h (fun r10 M11 hq => ?_)
    obtain ⟨v12, rfl, h⟩ := hq
    change gv l sc m_X11_leastFrom 51 [.ref 42, .int x1, .int x2, .int x3, .int x4, .int x5, .int v6, .int v9, .float 0, .float 0, .float 0, .float 0, .float 0] [.int v12] M11 Q
    refine gv_if_eq (t := 226) (by decide) (gl_dec ok_X11_leastFrom 29 51 (.ifCond .eq 175) 3 rfl) (fun c => ?_) (fun c => ?_)
    · replace h := h.1 c
      refine gv_seg ok_X11_leastFrom 129 1 (Ps := []) (pc' := 229) (ls' := [.ref 42, .int x1, .int x2, .int x3, .int x4, .int (x5 + 1), .int v6, .int v9, .float 0, .float 0, .float 0, .float 0, .float 0]) (st' := []) (M2 := M11) rfl trivial ?_
      refine gv_goto (t := 7) (by decide) (gl_dec ok_X11_leastFrom 130 229 (.goto (-222)) 3 rfl) ?_
      exact gv_weak (ls' := [.ref 42, .int x1, .int x2, .int x3, .int x4, .int (x5 + 1), .float 0, .float 0, .float 0, .float 0, .float 0, .float 0, .float 0]) ⟨Or.inl rfl, ⟨Or.inl rfl, ⟨Or.inl rfl, ⟨Or.inl rfl, ⟨Or.inl rfl, ⟨Or.inl rfl, ⟨Or.inr rfl, ⟨Or.inr rfl, ⟨Or.inl rfl, ⟨Or.inl rfl, ⟨Or.inl rfl, ⟨Or.inl rfl, ⟨Or.inl rfl, trivial⟩⟩⟩⟩⟩⟩⟩⟩⟩⟩⟩⟩⟩ h
    · replace h := h.2 c
      refine gv_seg ok_X11_leastFrom 30 2 (Ps := []) (pc' := 57) (ls' := [.ref 42, .int x1, .int x2, .int x3, .int x4, .int x5, .int v6, .int v9, .int 0, .float 0, .float 0, .float 0, .float 0]) (st' := []) (M2 := M11) rfl trivial ?_
      exact h
set_option maxHeartbeats 400000 in
set_option maxRecDepth 20000 in
theorem w_X11_leastFrom_57 (l : Launch) (sc : Nat × (Nat → Int32)) (M : gl_N) (Q : Option Value → gl_N → Prop) (x1 x2 x3 x4 x5 x6 x7 x8 : Int32)
  (h : ((4 * (M 42 2)) ≤ x8 → gv l sc m_X11_leastFrom 7 [.ref 42, .int x1, .int x2, .int x3, .int x4, .int (x5 + 1), .float 0, .float 0, .float 0, .float 0, .float 0, .float 0, .float 0] [] M Q) ∧ (¬ (4 * (M 42 2)) ≤ x8 → (vp_in x8 24 ∧ vp_in (9 * (x8 / 4)) 54) ∧ (((M 44 (Int32.toNatClampNeg (9 * (x8 / 4)))) ≤ (x8 - x8 / 4 * 4) → gv l sc m_X11_leastFrom 57 [.ref 42, .int x1, .int x2, .int x3, .int x4, .int x5, .int x6, .int x7, .int (x8 + 1), .float 0, .float 0, .float 0, .float 0] [] M Q) ∧ (¬ (M 44 (Int32.toNatClampNeg (9 * (x8 / 4)))) ≤ (x8 - x8 / 4 * 4) → (vp_in (((9 * (x8 / 4)) + 2) + (2 * (x8 - x8 / 4 * 4))) 54) ∧ ((¬ (M 44 (Int32.toNatClampNeg (((9 * (x8 / 4)) + 2) + (2 * (x8 - x8 / 4 * 4))))) = x6 → gv l sc m_X11_leastFrom 57 [.ref 42, .int x1, .int x2, .int x3, .int x4, .int x5, .int x6, .int x7, .int (x8 + 1), .float 0, .float 0, .float 0, .float 0] [] M Q) ∧ ((M 44 (Int32.toNatClampNeg (((9 * (x8 / 4)) + 2) + (2 * (x8 - x8 / 4 * 4))))) = x6 → gr l sc m_X11_in [.int (x7 - (M 45 (Int32.toNatClampNeg x8))), .int 0, .int 23] M (fun r1 M2 => ∃ v3 : Int32, r1 = some (.int v3) ∧ ((v3 = 0 → gv l sc m_X11_leastFrom 57 [.ref 42, .int x1, .int x2, .int x3, .int x4, .int x5, .int x6, .int x7, .int (x8 + 1), .float 0, .float 0, .float 0, .float 0] [] M2 Q) ∧ (¬ v3 = 0 → (¬ x5 = x3 → (¬ ((24 * (x8 / 4)) + (x7 - (M 45 (Int32.toNatClampNeg x8)))) = x2 → gr l sc m_X11_state [.int (x1 + 1), .int ((24 * (x8 / 4)) + (x7 - (M 45 (Int32.toNatClampNeg x8)))), .int (x8 - x8 / 4 * 4)] M2 (fun r4 M5 => ∃ v6 : Int32, r4 = some (.int v6) ∧ ((vp_in v6 9216) ∧ ((x4 ≤ ((1 + 10) + (M5 57 (Int32.toNatClampNeg v6))) → gv l sc m_X11_leastFrom 57 [.ref 42, .int x1, .int x2, .int x3, .int x4, .int x5, .int x6, .int x7, .int (x8 + 1), .float 0, .float 0, .float 0, .float 0] [] M5 Q) ∧ (¬ x4 ≤ ((1 + 10) + (M5 57 (Int32.toNatClampNeg v6))) → gv l sc m_X11_leastFrom 57 [.ref 42, .int x1, .int x2, .int x3, .int ((1 + 10) + (M5 57 (Int32.toNatClampNeg v6))), .int x5, .int x6, .int x7, .int (x8 + 1), .float 0, .float 0, .float 0, .float 0] [] M5 Q))))) ∧ (((24 * (x8 / 4)) + (x7 - (M 45 (Int32.toNatClampNeg x8)))) = x2 → gr l sc m_X11_state [.int (x1 + 1), .int ((24 * (x8 / 4)) + (x7 - (M 45 (Int32.toNatClampNeg x8)))), .int (x8 - x8 / 4 * 4)] M2 (fun r7 M8 => ∃ v9 : Int32, r7 = some (.int v9) ∧ ((vp_in v9 9216) ∧ ((x4 ≤ ((1 + 0) + (M8 57 (Int32.toNatClampNeg v9))) → gv l sc m_X11_leastFrom 57 [.ref 42, .int x1, .int x2, .int x3, .int x4, .int x5, .int x6, .int x7, .int (x8 + 1), .float 0, .float 0, .float 0, .float 0] [] M8 Q) ∧ (¬ x4 ≤ ((1 + 0) + (M8 57 (Int32.toNatClampNeg v9))) → gv l sc m_X11_leastFrom 57 [.ref 42, .int x1, .int x2, .int x3, .int ((1 + 0) + (M8 57 (Int32.toNatClampNeg v9))), .int x5, .int x6, .int x7, .int (x8 + 1), .float 0, .float 0, .float 0, .float 0] [] M8 Q)))))) ∧ (x5 = x3 → (¬ ((24 * (x8 / 4)) + (x7 - (M 45 (Int32.toNatClampNeg x8)))) = x2 → gr l sc m_X11_state [.int (x1 + 1), .int ((24 * (x8 / 4)) + (x7 - (M 45 (Int32.toNatClampNeg x8)))), .int (x8 - x8 / 4 * 4)] M2 (fun r10 M11 => ∃ v12 : Int32, r10 = some (.int v12) ∧ ((vp_in v12 9216) ∧ ((x4 ≤ ((0 + 10) + (M11 57 (Int32.toNatClampNeg v12))) → gv l sc m_X11_leastFrom 57 [.ref 42, .int x1, .int x2, .int x3, .int x4, .int x5, .int x6, .int x7, .int (x8 + 1), .float 0, .float 0, .float 0, .float 0] [] M11 Q) ∧ (¬ x4 ≤ ((0 + 10) + (M11 57 (Int32.toNatClampNeg v12))) → gv l sc m_X11_leastFrom 57 [.ref 42, .int x1, .int x2, .int x3, .int ((0 + 10) + (M11 57 (Int32.toNatClampNeg v12))), .int x5, .int x6, .int x7, .int (x8 + 1), .float 0, .float 0, .float 0, .float 0] [] M11 Q))))) ∧ (((24 * (x8 / 4)) + (x7 - (M 45 (Int32.toNatClampNeg x8)))) = x2 → gr l sc m_X11_state [.int (x1 + 1), .int ((24 * (x8 / 4)) + (x7 - (M 45 (Int32.toNatClampNeg x8)))), .int (x8 - x8 / 4 * 4)] M2 (fun r13 M14 => ∃ v15 : Int32, r13 = some (.int v15) ∧ ((vp_in v15 9216) ∧ ((x4 ≤ ((0 + 0) + (M14 57 (Int32.toNatClampNeg v15))) → gv l sc m_X11_leastFrom 57 [.ref 42, .int x1, .int x2, .int x3, .int x4, .int x5, .int x6, .int x7, .int (x8 + 1), .float 0, .float 0, .float 0, .float 0] [] M14 Q) ∧ (¬ x4 ≤ ((0 + 0) + (M14 57 (Int32.toNatClampNeg v15))) → gv l sc m_X11_leastFrom 57 [.ref 42, .int x1, .int x2, .int x3, .int ((0 + 0) + (M14 57 (Int32.toNatClampNeg v15))), .int x5, .int x6, .int x7, .int (x8 + 1), .float 0, .float 0, .float 0, .float 0] [] M14 Q))))))))))))))) : gv l sc m_X11_leastFrom 57 [.ref 42, .int x1, .int x2, .int x3, .int x4, .int x5, .int x6, .int x7, .int x8, .float 0, .float 0, .float 0, .float 0] [] M Q := by
  refine gv_seg ok_X11_leastFrom 32 5 (Ps := []) (pc' := 65) (ls' := [.ref 42, .int x1, .int x2, .int x3, .int x4, .int x5, .int x6, .int x7, .int x8, .float 0, .float 0, .float 0, .float 0]) (st' := [.int (4 * (M 42 2)), .int x8]) (M2 := M) rfl trivial ?_
  refine gv_icmp_ge (t := 226) (by decide) (gl_dec ok_X11_leastFrom 37 65 (.if_icmp .ge 161) 3 rfl) (fun c => ?_) (fun c => ?_)
  · replace h := h.1 c
    refine gv_seg ok_X11_leastFrom 129 1 (Ps := []) (pc' := 229) (ls' := [.ref 42, .int x1, .int x2, .int x3, .int x4, .int (x5 + 1), .int x6, .int x7, .int x8, .float 0, .float 0, .float 0, .float 0]) (st' := []) (M2 := M) rfl trivial ?_
    refine gv_goto (t := 7) (by decide) (gl_dec ok_X11_leastFrom 130 229 (.goto (-222)) 3 rfl) ?_
    exact gv_weak (ls' := [.ref 42, .int x1, .int x2, .int x3, .int x4, .int (x5 + 1), .float 0, .float 0, .float 0, .float 0, .float 0, .float 0, .float 0]) ⟨Or.inl rfl, ⟨Or.inl rfl, ⟨Or.inl rfl, ⟨Or.inl rfl, ⟨Or.inl rfl, ⟨Or.inl rfl, ⟨Or.inr rfl, ⟨Or.inr rfl, ⟨Or.inr rfl, ⟨Or.inl rfl, ⟨Or.inl rfl, ⟨Or.inl rfl, ⟨Or.inl rfl, trivial⟩⟩⟩⟩⟩⟩⟩⟩⟩⟩⟩⟩⟩ h
  · replace h := h.2 c
    obtain ⟨hp, h⟩ := h
    refine gv_seg ok_X11_leastFrom 38 18 (Ps := [vp_in x8 24, ¬ (4 : Int32) = 0, ¬ (4 : Int32) = 0, vp_in (9 * (x8 / 4)) 54]) (pc' := 96) (ls' := [.ref 42, .int x1, .int x2, .int x3, .int x4, .int x5, .int x6, .int x7, .int x8, .int (x7 - (M 45 (Int32.toNatClampNeg x8))), .float 0, .float 0, .float 0]) (st' := [.int (M 44 (Int32.toNatClampNeg (9 * (x8 / 4)))), .int (x8 - x8 / 4 * 4)]) (M2 := M) rfl ⟨hp.1, (show ¬ (4 : Int32) = 0 by decide), (show ¬ (4 : Int32) = 0 by decide), hp.2⟩ ?_
    refine gv_icmp_ge (t := 140) (by decide) (gl_dec ok_X11_leastFrom 56 96 (.if_icmp .ge 44) 3 rfl) (fun c => ?_) (fun c => ?_)
    · replace h := h.1 c
      refine gv_seg ok_X11_leastFrom 82 3 (Ps := []) (pc' := 145) (ls' := [.ref 42, .int x1, .int x2, .int x3, .int x4, .int x5, .int x6, .int x7, .int x8, .int (x7 - (M 45 (Int32.toNatClampNeg x8))), .int 0, .float 0, .float 0]) (st' := [.int 0]) (M2 := M) rfl trivial ?_
      refine gv_if_eq (t := 220) (by decide) (gl_dec ok_X11_leastFrom 85 145 (.ifCond .eq 75) 3 rfl) (fun _ => ?_) (fun c => absurd c (by decide))
      refine gv_seg ok_X11_leastFrom 127 1 (Ps := []) (pc' := 223) (ls' := [.ref 42, .int x1, .int x2, .int x3, .int x4, .int x5, .int x6, .int x7, .int (x8 + 1), .int (x7 - (M 45 (Int32.toNatClampNeg x8))), .int 0, .float 0, .float 0]) (st' := []) (M2 := M) rfl trivial ?_
      refine gv_goto (t := 57) (by decide) (gl_dec ok_X11_leastFrom 128 223 (.goto (-166)) 3 rfl) ?_
      exact gv_weak (ls' := [.ref 42, .int x1, .int x2, .int x3, .int x4, .int x5, .int x6, .int x7, .int (x8 + 1), .float 0, .float 0, .float 0, .float 0]) ⟨Or.inl rfl, ⟨Or.inl rfl, ⟨Or.inl rfl, ⟨Or.inl rfl, ⟨Or.inl rfl, ⟨Or.inl rfl, ⟨Or.inl rfl, ⟨Or.inl rfl, ⟨Or.inl rfl, ⟨Or.inr rfl, ⟨Or.inr rfl, ⟨Or.inl rfl, ⟨Or.inl rfl, trivial⟩⟩⟩⟩⟩⟩⟩⟩⟩⟩⟩⟩⟩ h
    · replace h := h.2 c
      obtain ⟨hp, h⟩ := h
      refine gv_seg ok_X11_leastFrom 57 17 (Ps := [¬ (4 : Int32) = 0, ¬ (4 : Int32) = 0, vp_in (((9 * (x8 / 4)) + 2) + (2 * (x8 - x8 / 4 * 4))) 54]) (pc' := 122) (ls' := [.ref 42, .int x1, .int x2, .int x3, .int x4, .int x5, .int x6, .int x7, .int x8, .int (x7 - (M 45 (Int32.toNatClampNeg x8))), .float 0, .float 0, .float 0]) (st' := [.int x6, .int (M 44 (Int32.toNatClampNeg (((9 * (x8 / 4)) + 2) + (2 * (x8 - x8 / 4 * 4)))))]) (M2 := M) rfl ⟨(show ¬ (4 : Int32) = 0 by decide), (show ¬ (4 : Int32) = 0 by decide), hp⟩ ?_
      refine gv_icmp_ne (t := 140) (by decide) (gl_dec ok_X11_leastFrom 74 122 (.if_icmp .ne 18) 3 rfl) (fun c => ?_) (fun c => ?_)
      · replace h := h.1 c
        refine gv_seg ok_X11_leastFrom 82 3 (Ps := []) (pc' := 145) (ls' := [.ref 42, .int x1, .int x2, .int x3, .int x4, .int x5, .int x6, .int x7, .int x8, .int (x7 - (M 45 (Int32.toNatClampNeg x8))), .int 0, .float 0, .float 0]) (st' := [.int 0]) (M2 := M) rfl trivial ?_
        refine gv_if_eq (t := 220) (by decide) (gl_dec ok_X11_leastFrom 85 145 (.ifCond .eq 75) 3 rfl) (fun _ => ?_) (fun c => absurd c (by decide))
        refine gv_seg ok_X11_leastFrom 127 1 (Ps := []) (pc' := 223) (ls' := [.ref 42, .int x1, .int x2, .int x3, .int x4, .int x5, .int x6, .int x7, .int (x8 + 1), .int (x7 - (M 45 (Int32.toNatClampNeg x8))), .int 0, .float 0, .float 0]) (st' := []) (M2 := M) rfl trivial ?_
        refine gv_goto (t := 57) (by decide) (gl_dec ok_X11_leastFrom 128 223 (.goto (-166)) 3 rfl) ?_
        exact gv_weak (ls' := [.ref 42, .int x1, .int x2, .int x3, .int x4, .int x5, .int x6, .int x7, .int (x8 + 1), .float 0, .float 0, .float 0, .float 0]) ⟨Or.inl rfl, ⟨Or.inl rfl, ⟨Or.inl rfl, ⟨Or.inl rfl, ⟨Or.inl rfl, ⟨Or.inl rfl, ⟨Or.inl rfl, ⟨Or.inl rfl, ⟨Or.inl rfl, ⟨Or.inr rfl, ⟨Or.inr rfl, ⟨Or.inl rfl, ⟨Or.inl rfl, trivial⟩⟩⟩⟩⟩⟩⟩⟩⟩⟩⟩⟩⟩ h
      · replace h := h.2 c
        refine gv_seg ok_X11_leastFrom 75 3 (Ps := []) (pc' := 130) (ls' := [.ref 42, .int x1, .int x2, .int x3, .int x4, .int x5, .int x6, .int x7, .int x8, .int (x7 - (M 45 (Int32.toNatClampNeg x8))), .float 0, .float 0, .float 0]) (st' := [.int 23, .int 0, .int (x7 - (M 45 (Int32.toNatClampNeg x8)))]) (M2 := M) rfl trivial ?_
        refine gv_scall (M' := m_X11_in) (As := [.int (x7 - (M 45 (Int32.toNatClampNeg x8))), .int 0, .int 23]) (st := []) (gl_dec ok_X11_leastFrom 78 130 (.invokestatic 69) 3 rfl) (gl_lnkS ok_X11_leastFrom 78 rfl rfl) mw_X11_in sw_X11_in ⟨by decide, by decide⟩ ⟨rfl, Nat.le_of_ble_eq_true rfl⟩ h (fun r1 M2 hq => ?_)
        obtain ⟨v3, rfl, h⟩ := hq
        change gv l sc m_X11_leastFrom 133 [.ref 42, .int x1, .int x2, .int x3, .int x4, .int x5, .int x6, .int x7, .int x8, .int (x7 - (M 45 (Int32.toNatClampNeg x8))), .float 0, .float 0, .float 0] [.int v3] M2 Q
        refine gv_if_eq (t := 140) (by decide) (gl_dec ok_X11_leastFrom 79 133 (.ifCond .eq 7) 3 rfl) (fun c => ?_) (fun c => ?_)
        · replace h := h.1 c
          refine gv_seg ok_X11_leastFrom 82 3 (Ps := []) (pc' := 145) (ls' := [.ref 42, .int x1, .int x2, .int x3, .int x4, .int x5, .int x6, .int x7, .int x8, .int (x7 - (M 45 (Int32.toNatClampNeg x8))), .int 0, .float 0, .float 0]) (st' := [.int 0]) (M2 := M2) rfl trivial ?_
          refine gv_if_eq (t := 220) (by decide) (gl_dec ok_X11_leastFrom 85 145 (.ifCond .eq 75) 3 rfl) (fun _ => ?_) (fun c => absurd c (by decide))
          refine gv_seg ok_X11_leastFrom 127 1 (Ps := []) (pc' := 223) (ls' := [.ref 42, .int x1, .int x2, .int x3, .int x4, .int x5, .int x6, .int x7, .int (x8 + 1), .int (x7 - (M 45 (Int32.toNatClampNeg x8))), .int 0, .float 0, .float 0]) (st' := []) (M2 := M2) rfl trivial ?_
          refine gv_goto (t := 57) (by decide) (gl_dec ok_X11_leastFrom 128 223 (.goto (-166)) 3 rfl) ?_
          exact gv_weak (ls' := [.ref 42, .int x1, .int x2, .int x3, .int x4, .int x5, .int x6, .int x7, .int (x8 + 1), .float 0, .float 0, .float 0, .float 0]) ⟨Or.inl rfl, ⟨Or.inl rfl, ⟨Or.inl rfl, ⟨Or.inl rfl, ⟨Or.inl rfl, ⟨Or.inl rfl, ⟨Or.inl rfl, ⟨Or.inl rfl, ⟨Or.inl rfl, ⟨Or.inr rfl, ⟨Or.inr rfl, ⟨Or.inl rfl, ⟨Or.inl rfl, trivial⟩⟩⟩⟩⟩⟩⟩⟩⟩⟩⟩⟩⟩ h
        · replace h := h.2 c
          refine gv_seg ok_X11_leastFrom 80 1 (Ps := []) (pc' := 137) (ls' := [.ref 42, .int x1, .int x2, .int x3, .int x4, .int x5, .int x6, .int x7, .int x8, .int (x7 - (M 45 (Int32.toNatClampNeg x8))), .float 0, .float 0, .float 0]) (st' := [.int 1]) (M2 := M2) rfl trivial ?_
          refine gv_goto (t := 141) (by decide) (gl_dec ok_X11_leastFrom 81 137 (.goto 4) 3 rfl) ?_
          refine gv_seg ok_X11_leastFrom 83 2 (Ps := []) (pc' := 145) (ls' := [.ref 42, .int x1, .int x2, .int x3, .int x4, .int x5, .int x6, .int x7, .int x8, .int (x7 - (M 45 (Int32.toNatClampNeg x8))), .int 1, .float 0, .float 0]) (st' := [.int 1]) (M2 := M2) rfl trivial ?_
          refine gv_if_eq (t := 220) (by decide) (gl_dec ok_X11_leastFrom 85 145 (.ifCond .eq 75) 3 rfl) (fun c => absurd c (by decide)) (fun _ => ?_)
          refine gv_seg ok_X11_leastFrom 86 10 (Ps := [¬ (4 : Int32) = 0]) (pc' := 163) (ls' := [.ref 42, .int x1, .int x2, .int x3, .int x4, .int x5, .int x6, .int x7, .int x8, .int (x7 - (M 45 (Int32.toNatClampNeg x8))), .int 1, .int ((24 * (x8 / 4)) + (x7 - (M 45 (Int32.toNatClampNeg x8)))), .float 0]) (st' := [.int x3, .int x5]) (M2 := M2) rfl (show ¬ (4 : Int32) = 0 by decide) ?_
          refine gv_icmp_ne (t := 170) (by decide) (gl_dec ok_X11_leastFrom 96 163 (.if_icmp .ne 7) 3 rfl) (fun c => ?_) (fun c => ?_)
          · replace h := h.1 c
            refine gv_seg ok_X11_leastFrom 99 3 (Ps := []) (pc' := 174) (ls' := [.ref 42, .int x1, .int x2, .int x3, .int x4, .int x5, .int x6, .int x7, .int x8, .int (x7 - (M 45 (Int32.toNatClampNeg x8))), .int 1, .int ((24 * (x8 / 4)) + (x7 - (M 45 (Int32.toNatClampNeg x8)))), .float 0]) (st' := [.int x2, .int ((24 * (x8 / 4)) + (x7 - (M 45 (Int32.toNatClampNeg x8)))), .int 1]) (M2 := M2) rfl trivial ?_
            refine gv_icmp_ne (t := 181) (by decide) (gl_dec ok_X11_leastFrom 102 174 (.if_icmp .ne 7) 3 rfl) (fun c => ?_) (fun c => ?_)
            · replace h := h.1 c
              refine gv_seg ok_X11_leastFrom 105 11 (Ps := [¬ (4 : Int32) = 0]) (pc' := 197) (ls' := [.ref 42, .int x1, .int x2, .int x3, .int x4, .int x5, .int x6, .int x7, .int x8, .int (x7 - (M 45 (Int32.toNatClampNeg x8))), .int 1, .int ((24 * (x8 / 4)) + (x7 - (M 45 (Int32.toNatClampNeg x8)))), .float 0]) (st' := [.int (x8 - x8 / 4 * 4), .int ((24 * (x8 / 4)) + (x7 - (M 45 (Int32.toNatClampNeg x8)))), .int (x1 + 1), .ref 57, .int (1 + 10)]) (M2 := M2) rfl (show ¬ (4 : Int32) = 0 by decide) ?_
              refine gv_scall (M' := m_X11_state) (As := [.int (x1 + 1), .int ((24 * (x8 / 4)) + (x7 - (M 45 (Int32.toNatClampNeg x8)))), .int (x8 - x8 / 4 * 4)]) (st := [.ref 57, .int (1 + 10)]) (gl_dec ok_X11_leastFrom 116 197 (.invokestatic 156) 3 rfl) (gl_lnkS ok_X11_leastFrom 116 rfl rfl) mw_X11_state sw_X11_state ⟨by decide, by decide⟩ ⟨rfl, Nat.le_of_ble_eq_true rfl⟩ h (fun r4 M5 hq => ?_)
              obtain ⟨v6, rfl, h⟩ := hq
              change gv l sc m_X11_leastFrom 200 [.ref 42, .int x1, .int x2, .int x3, .int x4, .int x5, .int x6, .int x7, .int x8, .int (x7 - (M 45 (Int32.toNatClampNeg x8))), .int 1, .int ((24 * (x8 / 4)) + (x7 - (M 45 (Int32.toNatClampNeg x8)))), .float 0] [.int v6, .ref 57, .int (1 + 10)] M5 Q
              obtain ⟨hp, h⟩ := h
              refine gv_seg ok_X11_leastFrom 117 5 (Ps := [vp_in v6 9216]) (pc' := 208) (ls' := [.ref 42, .int x1, .int x2, .int x3, .int x4, .int x5, .int x6, .int x7, .int x8, .int (x7 - (M 45 (Int32.toNatClampNeg x8))), .int 1, .int ((24 * (x8 / 4)) + (x7 - (M 45 (Int32.toNatClampNeg x8)))), .int ((1 + 10) + (M5 57 (Int32.toNatClampNeg v6)))]) (st' := [.int x4, .int ((1 + 10) + (M5 57 (Int32.toNatClampNeg v6)))]) (M2 := M5) rfl hp ?_
              refine gv_icmp_ge (t := 216) (by decide) (gl_dec ok_X11_leastFrom 122 208 (.if_icmp .ge 8) 3 rfl) (fun c => ?_) (fun c => ?_)
              · replace h := h.1 c
                refine gv_seg ok_X11_leastFrom 125 3 (Ps := []) (pc' := 223) (ls' := [.ref 42, .int x1, .int x2, .int x3, .int x4, .int x5, .int x6, .int x7, .int (x8 + 1), .int (x7 - (M 45 (Int32.toNatClampNeg x8))), .int 1, .int ((24 * (x8 / 4)) + (x7 - (M 45 (Int32.toNatClampNeg x8)))), .int ((1 + 10) + (M5 57 (Int32.toNatClampNeg v6)))]) (st' := []) (M2 := M5) rfl trivial ?_
                refine gv_goto (t := 57) (by decide) (gl_dec ok_X11_leastFrom 128 223 (.goto (-166)) 3 rfl) ?_
                exact gv_weak (ls' := [.ref 42, .int x1, .int x2, .int x3, .int x4, .int x5, .int x6, .int x7, .int (x8 + 1), .float 0, .float 0, .float 0, .float 0]) ⟨Or.inl rfl, ⟨Or.inl rfl, ⟨Or.inl rfl, ⟨Or.inl rfl, ⟨Or.inl rfl, ⟨Or.inl rfl, ⟨Or.inl rfl, ⟨Or.inl rfl, ⟨Or.inl rfl, ⟨Or.inr rfl, ⟨Or.inr rfl, ⟨Or.inr rfl, ⟨Or.inr rfl, trivial⟩⟩⟩⟩⟩⟩⟩⟩⟩⟩⟩⟩⟩ h
              · replace h := h.2 c
                refine gv_seg ok_X11_leastFrom 123 1 (Ps := []) (pc' := 213) (ls' := [.ref 42, .int x1, .int x2, .int x3, .int x4, .int x5, .int x6, .int x7, .int x8, .int (x7 - (M 45 (Int32.toNatClampNeg x8))), .int 1, .int ((24 * (x8 / 4)) + (x7 - (M 45 (Int32.toNatClampNeg x8)))), .int ((1 + 10) + (M5 57 (Int32.toNatClampNeg v6)))]) (st' := [.int ((1 + 10) + (M5 57 (Int32.toNatClampNeg v6)))]) (M2 := M5) rfl trivial ?_
                refine gv_goto (t := 218) (by decide) (gl_dec ok_X11_leastFrom 124 213 (.goto 5) 3 rfl) ?_
                refine gv_seg ok_X11_leastFrom 126 2 (Ps := []) (pc' := 223) (ls' := [.ref 42, .int x1, .int x2, .int x3, .int ((1 + 10) + (M5 57 (Int32.toNatClampNeg v6))), .int x5, .int x6, .int x7, .int (x8 + 1), .int (x7 - (M 45 (Int32.toNatClampNeg x8))), .int 1, .int ((24 * (x8 / 4)) + (x7 - (M 45 (Int32.toNatClampNeg x8)))), .int ((1 + 10) + (M5 57 (Int32.toNatClampNeg v6)))]) (st' := []) (M2 := M5) rfl trivial ?_
                refine gv_goto (t := 57) (by decide) (gl_dec ok_X11_leastFrom 128 223 (.goto (-166)) 3 rfl) ?_
                exact gv_weak (ls' := [.ref 42, .int x1, .int x2, .int x3, .int ((1 + 10) + (M5 57 (Int32.toNatClampNeg v6))), .int x5, .int x6, .int x7, .int (x8 + 1), .float 0, .float 0, .float 0, .float 0]) ⟨Or.inl rfl, ⟨Or.inl rfl, ⟨Or.inl rfl, ⟨Or.inl rfl, ⟨Or.inl rfl, ⟨Or.inl rfl, ⟨Or.inl rfl, ⟨Or.inl rfl, ⟨Or.inl rfl, ⟨Or.inr rfl, ⟨Or.inr rfl, ⟨Or.inr rfl, ⟨Or.inr rfl, trivial⟩⟩⟩⟩⟩⟩⟩⟩⟩⟩⟩⟩⟩ h
            · replace h := h.2 c
              refine gv_seg ok_X11_leastFrom 103 1 (Ps := []) (pc' := 178) (ls' := [.ref 42, .int x1, .int x2, .int x3, .int x4, .int x5, .int x6, .int x7, .int x8, .int (x7 - (M 45 (Int32.toNatClampNeg x8))), .int 1, .int ((24 * (x8 / 4)) + (x7 - (M 45 (Int32.toNatClampNeg x8)))), .float 0]) (st' := [.int 0, .int 1]) (M2 := M2) rfl trivial ?_
              refine gv_goto (t := 183) (by decide) (gl_dec ok_X11_leastFrom 104 178 (.goto 5) 3 rfl) ?_
              refine gv_seg ok_X11_leastFrom 106 10 (Ps := [¬ (4 : Int32) = 0]) (pc' := 197) (ls' := [.ref 42, .int x1, .int x2, .int x3, .int x4, .int x5, .int x6, .int x7, .int x8, .int (x7 - (M 45 (Int32.toNatClampNeg x8))), .int 1, .int ((24 * (x8 / 4)) + (x7 - (M 45 (Int32.toNatClampNeg x8)))), .float 0]) (st' := [.int (x8 - x8 / 4 * 4), .int ((24 * (x8 / 4)) + (x7 - (M 45 (Int32.toNatClampNeg x8)))), .int (x1 + 1), .ref 57, .int (1 + 0)]) (M2 := M2) rfl (show ¬ (4 : Int32) = 0 by decide) ?_
              refine gv_scall (M' := m_X11_state) (As := [.int (x1 + 1), .int ((24 * (x8 / 4)) + (x7 - (M 45 (Int32.toNatClampNeg x8)))), .int (x8 - x8 / 4 * 4)]) (st := [.ref 57, .int (1 + 0)]) (gl_dec ok_X11_leastFrom 116 197 (.invokestatic 156) 3 rfl) (gl_lnkS ok_X11_leastFrom 116 rfl rfl) mw_X11_state sw_X11_state ⟨by decide, by decide⟩ ⟨rfl, Nat.le_of_ble_eq_true rfl⟩ h (fun r7 M8 hq => ?_)
              obtain ⟨v9, rfl, h⟩ := hq
              change gv l sc m_X11_leastFrom 200 [.ref 42, .int x1, .int x2, .int x3, .int x4, .int x5, .int x6, .int x7, .int x8, .int (x7 - (M 45 (Int32.toNatClampNeg x8))), .int 1, .int ((24 * (x8 / 4)) + (x7 - (M 45 (Int32.toNatClampNeg x8)))), .float 0] [.int v9, .ref 57, .int (1 + 0)] M8 Q
              obtain ⟨hp, h⟩ := h
              refine gv_seg ok_X11_leastFrom 117 5 (Ps := [vp_in v9 9216]) (pc' := 208) (ls' := [.ref 42, .int x1, .int x2, .int x3, .int x4, .int x5, .int x6, .int x7, .int x8, .int (x7 - (M 45 (Int32.toNatClampNeg x8))), .int 1, .int ((24 * (x8 / 4)) + (x7 - (M 45 (Int32.toNatClampNeg x8)))), .int ((1 + 0) + (M8 57 (Int32.toNatClampNeg v9)))]) (st' := [.int x4, .int ((1 + 0) + (M8 57 (Int32.toNatClampNeg v9)))]) (M2 := M8) rfl hp ?_
              refine gv_icmp_ge (t := 216) (by decide) (gl_dec ok_X11_leastFrom 122 208 (.if_icmp .ge 8) 3 rfl) (fun c => ?_) (fun c => ?_)
              · replace h := h.1 c
                refine gv_seg ok_X11_leastFrom 125 3 (Ps := []) (pc' := 223) (ls' := [.ref 42, .int x1, .int x2, .int x3, .int x4, .int x5, .int x6, .int x7, .int (x8 + 1), .int (x7 - (M 45 (Int32.toNatClampNeg x8))), .int 1, .int ((24 * (x8 / 4)) + (x7 - (M 45 (Int32.toNatClampNeg x8)))), .int ((1 + 0) + (M8 57 (Int32.toNatClampNeg v9)))]) (st' := []) (M2 := M8) rfl trivial ?_
                refine gv_goto (t := 57) (by decide) (gl_dec ok_X11_leastFrom 128 223 (.goto (-166)) 3 rfl) ?_
                exact gv_weak (ls' := [.ref 42, .int x1, .int x2, .int x3, .int x4, .int x5, .int x6, .int x7, .int (x8 + 1), .float 0, .float 0, .float 0, .float 0]) ⟨Or.inl rfl, ⟨Or.inl rfl, ⟨Or.inl rfl, ⟨Or.inl rfl, ⟨Or.inl rfl, ⟨Or.inl rfl, ⟨Or.inl rfl, ⟨Or.inl rfl, ⟨Or.inl rfl, ⟨Or.inr rfl, ⟨Or.inr rfl, ⟨Or.inr rfl, ⟨Or.inr rfl, trivial⟩⟩⟩⟩⟩⟩⟩⟩⟩⟩⟩⟩⟩ h
              · replace h := h.2 c
                refine gv_seg ok_X11_leastFrom 123 1 (Ps := []) (pc' := 213) (ls' := [.ref 42, .int x1, .int x2, .int x3, .int x4, .int x5, .int x6, .int x7, .int x8, .int (x7 - (M 45 (Int32.toNatClampNeg x8))), .int 1, .int ((24 * (x8 / 4)) + (x7 - (M 45 (Int32.toNatClampNeg x8)))), .int ((1 + 0) + (M8 57 (Int32.toNatClampNeg v9)))]) (st' := [.int ((1 + 0) + (M8 57 (Int32.toNatClampNeg v9)))]) (M2 := M8) rfl trivial ?_
                refine gv_goto (t := 218) (by decide) (gl_dec ok_X11_leastFrom 124 213 (.goto 5) 3 rfl) ?_
                refine gv_seg ok_X11_leastFrom 126 2 (Ps := []) (pc' := 223) (ls' := [.ref 42, .int x1, .int x2, .int x3, .int ((1 + 0) + (M8 57 (Int32.toNatClampNeg v9))), .int x5, .int x6, .int x7, .int (x8 + 1), .int (x7 - (M 45 (Int32.toNatClampNeg x8))), .int 1, .int ((24 * (x8 / 4)) + (x7 - (M 45 (Int32.toNatClampNeg x8)))), .int ((1 + 0) + (M8 57 (Int32.toNatClampNeg v9)))]) (st' := []) (M2 := M8) rfl trivial ?_
                refine gv_goto (t := 57) (by decide) (gl_dec ok_X11_leastFrom 128 223 (.goto (-166)) 3 rfl) ?_
                exact gv_weak (ls' := [.ref 42, .int x1, .int x2, .int x3, .int ((1 + 0) + (M8 57 (Int32.toNatClampNeg v9))), .int x5, .int x6, .int x7, .int (x8 + 1), .float 0, .float 0, .float 0, .float 0]) ⟨Or.inl rfl, ⟨Or.inl rfl, ⟨Or.inl rfl, ⟨Or.inl rfl, ⟨Or.inl rfl, ⟨Or.inl rfl, ⟨Or.inl rfl, ⟨Or.inl rfl, ⟨Or.inl rfl, ⟨Or.inr rfl, ⟨Or.inr rfl, ⟨Or.inr rfl, ⟨Or.inr rfl, trivial⟩⟩⟩⟩⟩⟩⟩⟩⟩⟩⟩⟩⟩ h
          · replace h := h.2 c
            refine gv_seg ok_X11_leastFrom 97 1 (Ps := []) (pc' := 167) (ls' := [.ref 42, .int x1, .int x2, .int x3, .int x4, .int x5, .int x6, .int x7, .int x8, .int (x7 - (M 45 (Int32.toNatClampNeg x8))), .int 1, .int ((24 * (x8 / 4)) + (x7 - (M 45 (Int32.toNatClampNeg x8)))), .float 0]) (st' := [.int 0]) (M2 := M2) rfl trivial ?_
            refine gv_goto (t := 171) (by decide) (gl_dec ok_X11_leastFrom 98 167 (.goto 4) 3 rfl) ?_
            refine gv_seg ok_X11_leastFrom 100 2 (Ps := []) (pc' := 174) (ls' := [.ref 42, .int x1, .int x2, .int x3, .int x4, .int x5, .int x6, .int x7, .int x8, .int (x7 - (M 45 (Int32.toNatClampNeg x8))), .int 1, .int ((24 * (x8 / 4)) + (x7 - (M 45 (Int32.toNatClampNeg x8)))), .float 0]) (st' := [.int x2, .int ((24 * (x8 / 4)) + (x7 - (M 45 (Int32.toNatClampNeg x8)))), .int 0]) (M2 := M2) rfl trivial ?_
            refine gv_icmp_ne (t := 181) (by decide) (gl_dec ok_X11_leastFrom 102 174 (.if_icmp .ne 7) 3 rfl) (fun c => ?_) (fun c => ?_)
            · replace h := h.1 c
              refine gv_seg ok_X11_leastFrom 105 11 (Ps := [¬ (4 : Int32) = 0]) (pc' := 197) (ls' := [.ref 42, .int x1, .int x2, .int x3, .int x4, .int x5, .int x6, .int x7, .int x8, .int (x7 - (M 45 (Int32.toNatClampNeg x8))), .int 1, .int ((24 * (x8 / 4)) + (x7 - (M 45 (Int32.toNatClampNeg x8)))), .float 0]) (st' := [.int (x8 - x8 / 4 * 4), .int ((24 * (x8 / 4)) + (x7 - (M 45 (Int32.toNatClampNeg x8)))), .int (x1 + 1), .ref 57, .int (0 + 10)]) (M2 := M2) rfl (show ¬ (4 : Int32) = 0 by decide) ?_
              refine gv_scall (M' := m_X11_state) (As := [.int (x1 + 1), .int ((24 * (x8 / 4)) + (x7 - (M 45 (Int32.toNatClampNeg x8)))), .int (x8 - x8 / 4 * 4)]) (st := [.ref 57, .int (0 + 10)]) (gl_dec ok_X11_leastFrom 116 197 (.invokestatic 156) 3 rfl) (gl_lnkS ok_X11_leastFrom 116 rfl rfl) mw_X11_state sw_X11_state ⟨by decide, by decide⟩ ⟨rfl, Nat.le_of_ble_eq_true rfl⟩ h (fun r10 M11 hq => ?_)
              obtain ⟨v12, rfl, h⟩ := hq
              change gv l sc m_X11_leastFrom 200 [.ref 42, .int x1, .int x2, .int x3, .int x4, .int x5, .int x6, .int x7, .int x8, .int (x7 - (M 45 (Int32.toNatClampNeg x8))), .int 1, .int ((24 * (x8 / 4)) + (x7 - (M 45 (Int32.toNatClampNeg x8)))), .float 0] [.int v12, .ref 57, .int (0 + 10)] M11 Q
              obtain ⟨hp, h⟩ := h
              refine gv_seg ok_X11_leastFrom 117 5 (Ps := [vp_in v12 9216]) (pc' := 208) (ls' := [.ref 42, .int x1, .int x2, .int x3, .int x4, .int x5, .int x6, .int x7, .int x8, .int (x7 - (M 45 (Int32.toNatClampNeg x8))), .int 1, .int ((24 * (x8 / 4)) + (x7 - (M 45 (Int32.toNatClampNeg x8)))), .int ((0 + 10) + (M11 57 (Int32.toNatClampNeg v12)))]) (st' := [.int x4, .int ((0 + 10) + (M11 57 (Int32.toNatClampNeg v12)))]) (M2 := M11) rfl hp ?_
              refine gv_icmp_ge (t := 216) (by decide) (gl_dec ok_X11_leastFrom 122 208 (.if_icmp .ge 8) 3 rfl) (fun c => ?_) (fun c => ?_)
              · replace h := h.1 c
                refine gv_seg ok_X11_leastFrom 125 3 (Ps := []) (pc' := 223) (ls' := [.ref 42, .int x1, .int x2, .int x3, .int x4, .int x5, .int x6, .int x7, .int (x8 + 1), .int (x7 - (M 45 (Int32.toNatClampNeg x8))), .int 1, .int ((24 * (x8 / 4)) + (x7 - (M 45 (Int32.toNatClampNeg x8)))), .int ((0 + 10) + (M11 57 (Int32.toNatClampNeg v12)))]) (st' := []) (M2 := M11) rfl trivial ?_
                refine gv_goto (t := 57) (by decide) (gl_dec ok_X11_leastFrom 128 223 (.goto (-166)) 3 rfl) ?_
                exact gv_weak (ls' := [.ref 42, .int x1, .int x2, .int x3, .int x4, .int x5, .int x6, .int x7, .int (x8 + 1), .float 0, .float 0, .float 0, .float 0]) ⟨Or.inl rfl, ⟨Or.inl rfl, ⟨Or.inl rfl, ⟨Or.inl rfl, ⟨Or.inl rfl, ⟨Or.inl rfl, ⟨Or.inl rfl, ⟨Or.inl rfl, ⟨Or.inl rfl, ⟨Or.inr rfl, ⟨Or.inr rfl, ⟨Or.inr rfl, ⟨Or.inr rfl, trivial⟩⟩⟩⟩⟩⟩⟩⟩⟩⟩⟩⟩⟩ h
              · replace h := h.2 c
                refine gv_seg ok_X11_leastFrom 123 1 (Ps := []) (pc' := 213) (ls' := [.ref 42, .int x1, .int x2, .int x3, .int x4, .int x5, .int x6, .int x7, .int x8, .int (x7 - (M 45 (Int32.toNatClampNeg x8))), .int 1, .int ((24 * (x8 / 4)) + (x7 - (M 45 (Int32.toNatClampNeg x8)))), .int ((0 + 10) + (M11 57 (Int32.toNatClampNeg v12)))]) (st' := [.int ((0 + 10) + (M11 57 (Int32.toNatClampNeg v12)))]) (M2 := M11) rfl trivial ?_
                refine gv_goto (t := 218) (by decide) (gl_dec ok_X11_leastFrom 124 213 (.goto 5) 3 rfl) ?_
                refine gv_seg ok_X11_leastFrom 126 2 (Ps := []) (pc' := 223) (ls' := [.ref 42, .int x1, .int x2, .int x3, .int ((0 + 10) + (M11 57 (Int32.toNatClampNeg v12))), .int x5, .int x6, .int x7, .int (x8 + 1), .int (x7 - (M 45 (Int32.toNatClampNeg x8))), .int 1, .int ((24 * (x8 / 4)) + (x7 - (M 45 (Int32.toNatClampNeg x8)))), .int ((0 + 10) + (M11 57 (Int32.toNatClampNeg v12)))]) (st' := []) (M2 := M11) rfl trivial ?_
                refine gv_goto (t := 57) (by decide) (gl_dec ok_X11_leastFrom 128 223 (.goto (-166)) 3 rfl) ?_
                exact gv_weak (ls' := [.ref 42, .int x1, .int x2, .int x3, .int ((0 + 10) + (M11 57 (Int32.toNatClampNeg v12))), .int x5, .int x6, .int x7, .int (x8 + 1), .float 0, .float 0, .float 0, .float 0]) ⟨Or.inl rfl, ⟨Or.inl rfl, ⟨Or.inl rfl, ⟨Or.inl rfl, ⟨Or.inl rfl, ⟨Or.inl rfl, ⟨Or.inl rfl, ⟨Or.inl rfl, ⟨Or.inl rfl, ⟨Or.inr rfl, ⟨Or.inr rfl, ⟨Or.inr rfl, ⟨Or.inr rfl, trivial⟩⟩⟩⟩⟩⟩⟩⟩⟩⟩⟩⟩⟩ h
            · replace h := h.2 c
              refine gv_seg ok_X11_leastFrom 103 1 (Ps := []) (pc' := 178) (ls' := [.ref 42, .int x1, .int x2, .int x3, .int x4, .int x5, .int x6, .int x7, .int x8, .int (x7 - (M 45 (Int32.toNatClampNeg x8))), .int 1, .int ((24 * (x8 / 4)) + (x7 - (M 45 (Int32.toNatClampNeg x8)))), .float 0]) (st' := [.int 0, .int 0]) (M2 := M2) rfl trivial ?_
              refine gv_goto (t := 183) (by decide) (gl_dec ok_X11_leastFrom 104 178 (.goto 5) 3 rfl) ?_
              refine gv_seg ok_X11_leastFrom 106 10 (Ps := [¬ (4 : Int32) = 0]) (pc' := 197) (ls' := [.ref 42, .int x1, .int x2, .int x3, .int x4, .int x5, .int x6, .int x7, .int x8, .int (x7 - (M 45 (Int32.toNatClampNeg x8))), .int 1, .int ((24 * (x8 / 4)) + (x7 - (M 45 (Int32.toNatClampNeg x8)))), .float 0]) (st' := [.int (x8 - x8 / 4 * 4), .int ((24 * (x8 / 4)) + (x7 - (M 45 (Int32.toNatClampNeg x8)))), .int (x1 + 1), .ref 57, .int (0 + 0)]) (M2 := M2) rfl (show ¬ (4 : Int32) = 0 by decide) ?_
              refine gv_scall (M' := m_X11_state) (As := [.int (x1 + 1), .int ((24 * (x8 / 4)) + (x7 - (M 45 (Int32.toNatClampNeg x8)))), .int (x8 - x8 / 4 * 4)]) (st := [.ref 57, .int (0 + 0)]) (gl_dec ok_X11_leastFrom 116 197 (.invokestatic 156) 3 rfl) (gl_lnkS ok_X11_leastFrom 116 rfl rfl) mw_X11_state sw_X11_state ⟨by decide, by decide⟩ ⟨rfl, Nat.le_of_ble_eq_true rfl⟩ h (fun r13 M14 hq => ?_)
              obtain ⟨v15, rfl, h⟩ := hq
              change gv l sc m_X11_leastFrom 200 [.ref 42, .int x1, .int x2, .int x3, .int x4, .int x5, .int x6, .int x7, .int x8, .int (x7 - (M 45 (Int32.toNatClampNeg x8))), .int 1, .int ((24 * (x8 / 4)) + (x7 - (M 45 (Int32.toNatClampNeg x8)))), .float 0] [.int v15, .ref 57, .int (0 + 0)] M14 Q
              obtain ⟨hp, h⟩ := h
              refine gv_seg ok_X11_leastFrom 117 5 (Ps := [vp_in v15 9216]) (pc' := 208) (ls' := [.ref 42, .int x1, .int x2, .int x3, .int x4, .int x5, .int x6, .int x7, .int x8, .int (x7 - (M 45 (Int32.toNatClampNeg x8))), .int 1, .int ((24 * (x8 / 4)) + (x7 - (M 45 (Int32.toNatClampNeg x8)))), .int ((0 + 0) + (M14 57 (Int32.toNatClampNeg v15)))]) (st' := [.int x4, .int ((0 + 0) + (M14 57 (Int32.toNatClampNeg v15)))]) (M2 := M14) rfl hp ?_
              refine gv_icmp_ge (t := 216) (by decide) (gl_dec ok_X11_leastFrom 122 208 (.if_icmp .ge 8) 3 rfl) (fun c => ?_) (fun c => ?_)
              · replace h := h.1 c
                refine gv_seg ok_X11_leastFrom 125 3 (Ps := []) (pc' := 223) (ls' := [.ref 42, .int x1, .int x2, .int x3, .int x4, .int x5, .int x6, .int x7, .int (x8 + 1), .int (x7 - (M 45 (Int32.toNatClampNeg x8))), .int 1, .int ((24 * (x8 / 4)) + (x7 - (M 45 (Int32.toNatClampNeg x8)))), .int ((0 + 0) + (M14 57 (Int32.toNatClampNeg v15)))]) (st' := []) (M2 := M14) rfl trivial ?_
                refine gv_goto (t := 57) (by decide) (gl_dec ok_X11_leastFrom 128 223 (.goto (-166)) 3 rfl) ?_
                exact gv_weak (ls' := [.ref 42, .int x1, .int x2, .int x3, .int x4, .int x5, .int x6, .int x7, .int (x8 + 1), .float 0, .float 0, .float 0, .float 0]) ⟨Or.inl rfl, ⟨Or.inl rfl, ⟨Or.inl rfl, ⟨Or.inl rfl, ⟨Or.inl rfl, ⟨Or.inl rfl, ⟨Or.inl rfl, ⟨Or.inl rfl, ⟨Or.inl rfl, ⟨Or.inr rfl, ⟨Or.inr rfl, ⟨Or.inr rfl, ⟨Or.inr rfl, trivial⟩⟩⟩⟩⟩⟩⟩⟩⟩⟩⟩⟩⟩ h
              · replace h := h.2 c
                refine gv_seg ok_X11_leastFrom 123 1 (Ps := []) (pc' := 213) (ls' := [.ref 42, .int x1, .int x2, .int x3, .int x4, .int x5, .int x6, .int x7, .int x8, .int (x7 - (M 45 (Int32.toNatClampNeg x8))), .int 1, .int ((24 * (x8 / 4)) + (x7 - (M 45 (Int32.toNatClampNeg x8)))), .int ((0 + 0) + (M14 57 (Int32.toNatClampNeg v15)))]) (st' := [.int ((0 + 0) + (M14 57 (Int32.toNatClampNeg v15)))]) (M2 := M14) rfl trivial ?_
                refine gv_goto (t := 218) (by decide) (gl_dec ok_X11_leastFrom 124 213 (.goto 5) 3 rfl) ?_
                refine gv_seg ok_X11_leastFrom 126 2 (Ps := []) (pc' := 223) (ls' := [.ref 42, .int x1, .int x2, .int x3, .int ((0 + 0) + (M14 57 (Int32.toNatClampNeg v15))), .int x5, .int x6, .int x7, .int (x8 + 1), .int (x7 - (M 45 (Int32.toNatClampNeg x8))), .int 1, .int ((24 * (x8 / 4)) + (x7 - (M 45 (Int32.toNatClampNeg x8)))), .int ((0 + 0) + (M14 57 (Int32.toNatClampNeg v15)))]) (st' := []) (M2 := M14) rfl trivial ?_
                refine gv_goto (t := 57) (by decide) (gl_dec ok_X11_leastFrom 128 223 (.goto (-166)) 3 rfl) ?_
                exact gv_weak (ls' := [.ref 42, .int x1, .int x2, .int x3, .int ((0 + 0) + (M14 57 (Int32.toNatClampNeg v15))), .int x5, .int x6, .int x7, .int (x8 + 1), .float 0, .float 0, .float 0, .float 0]) ⟨Or.inl rfl, ⟨Or.inl rfl, ⟨Or.inl rfl, ⟨Or.inl rfl, ⟨Or.inl rfl, ⟨Or.inl rfl, ⟨Or.inl rfl, ⟨Or.inl rfl, ⟨Or.inl rfl, ⟨Or.inr rfl, ⟨Or.inr rfl, ⟨Or.inr rfl, ⟨Or.inr rfl, trivial⟩⟩⟩⟩⟩⟩⟩⟩⟩⟩⟩⟩⟩ h
set_option maxHeartbeats 400000 in
set_option maxRecDepth 20000 in
theorem w_X11_laysCosts_0 (l : Launch) (sc : Nat × (Nat → Int32)) (M : gl_N) (Q : Option Value → gl_N → Prop)
  (h : (¬ (M 48 0) = 0 → gv l sc m_X11_laysCosts 25 [.ref 42, .int 100000, .int ((M 48 0) - 1), .float 0, .float 0, .float 0, .float 0] [] M Q) ∧ ((M 48 0) = 0 → gv l sc m_X11_laysCosts 25 [.ref 42, .int 0, .int ((M 48 0) - 1), .float 0, .float 0, .float 0, .float 0] [] M Q)) : gv l sc m_X11_laysCosts 0 [.ref 42, .float 0, .float 0, .float 0, .float 0, .float 0, .float 0] [] M Q := by
  refine gv_seg ok_X11_laysCosts 0 4 (Ps := [vp_in 0 17]) (pc' := 6) (ls' := [.ref 42, .float 0, .float 0, .float 0, .float 0, .float 0, .float 0]) (st' := [.int (M 48 0)]) (M2 := M) rfl (show vp_in 0 17 by unfold vp_in; decide) ?_
  refine gv_if_ne (t := 13) (by decide) (gl_dec ok_X11_laysCosts 4 6 (.ifCond .ne 7) 3 rfl) (fun c => ?_) (fun c => ?_)
  · replace h := h.1 c
    refine gv_seg ok_X11_laysCosts 7 9 (Ps := [vp_in 0 17]) (pc' := 25) (ls' := [.ref 42, .int 100000, .int ((M 48 0) - 1), .float 0, .float 0, .float 0, .float 0]) (st' := []) (M2 := M) rfl (show vp_in 0 17 by unfold vp_in; decide) ?_
    exact h
  · replace h := h.2 c
    refine gv_seg ok_X11_laysCosts 5 1 (Ps := []) (pc' := 10) (ls' := [.ref 42, .float 0, .float 0, .float 0, .float 0, .float 0, .float 0]) (st' := [.int 0]) (M2 := M) rfl trivial ?_
    refine gv_goto (t := 15) (by decide) (gl_dec ok_X11_laysCosts 6 10 (.goto 5) 3 rfl) ?_
    refine gv_seg ok_X11_laysCosts 8 8 (Ps := [vp_in 0 17]) (pc' := 25) (ls' := [.ref 42, .int 0, .int ((M 48 0) - 1), .float 0, .float 0, .float 0, .float 0]) (st' := []) (M2 := M) rfl (show vp_in 0 17 by unfold vp_in; decide) ?_
    exact h
theorem e_X11_laysCosts (l : Launch) (sc : Nat × (Nat → Int32)) (M : gl_N) (Q : Option Value → gl_N → Prop)
  (h : (¬ (M 48 0) = 0 → gv l sc m_X11_laysCosts 25 [.ref 42, .int 100000, .int ((M 48 0) - 1), .float 0, .float 0, .float 0, .float 0] [] M Q) ∧ ((M 48 0) = 0 → gv l sc m_X11_laysCosts 25 [.ref 42, .int 0, .int ((M 48 0) - 1), .float 0, .float 0, .float 0, .float 0] [] M Q)) : gr l sc m_X11_laysCosts [.ref 42] M Q :=
  gr_of (by decide +kernel) (Nat.le_of_ble_eq_true rfl) (List.forall_mem_cons.mpr ⟨rfl, (fun _ h => absurd h List.not_mem_nil)⟩) (w_X11_laysCosts_0 l sc M Q h)
set_option maxHeartbeats 400000 in
set_option maxRecDepth 20000 in
theorem w_X11_laysCosts_25 (l : Launch) (sc : Nat × (Nat → Int32)) (M : gl_N) (Q : Option Value → gl_N → Prop) (x1 x2 : Int32)
  (h : (x2 < 0 → Q (some (.int x1)) M) ∧ (¬ x2 < 0 → gv l sc m_X11_laysCosts 31 [.ref 42, .int x1, .int x2, .int 0, .float 0, .float 0, .float 0] [] M Q)) : gv l sc m_X11_laysCosts 25 [.ref 42, .int x1, .int x2, .float 0, .float 0, .float 0, .float 0] [] M Q := by
  refine gv_seg ok_X11_laysCosts 16 1 (Ps := []) (pc' := 26) (ls' := [.ref 42, .int x1, .int x2, .float 0, .float 0, .float 0, .float 0]) (st' := [.int x2]) (M2 := M) rfl trivial ?_
  refine gv_if_lt (t := 157) (by decide) (gl_dec ok_X11_laysCosts 17 26 (.ifCond .lt 131) 3 rfl) (fun c => ?_) (fun c => ?_)
  · replace h := h.1 c
    refine gv_seg ok_X11_laysCosts 87 1 (Ps := []) (pc' := 158) (ls' := [.ref 42, .int x1, .int x2, .float 0, .float 0, .float 0, .float 0]) (st' := [.int x1]) (M2 := M) rfl trivial ?_
    exact gv_retI (gl_dec ok_X11_laysCosts 88 158 (.ireturn) 1 rfl) rfl h
  · replace h := h.2 c
    refine gv_seg ok_X11_laysCosts 18 2 (Ps := []) (pc' := 31) (ls' := [.ref 42, .int x1, .int x2, .int 0, .float 0, .float 0, .float 0]) (st' := []) (M2 := M) rfl trivial ?_
    exact h
set_option maxHeartbeats 400000 in
set_option maxRecDepth 20000 in
theorem w_X11_laysCosts_31 (l : Launch) (sc : Nat × (Nat → Int32)) (M : gl_N) (Q : Option Value → gl_N → Prop) (x1 x2 x3 : Int32)
  (h : ((24 * (M 42 2)) ≤ x3 → gv l sc m_X11_laysCosts 25 [.ref 42, .int x1, .int (x2 + (-1)), .float 0, .float 0, .float 0, .float 0] [] M Q) ∧ (¬ (24 * (M 42 2)) ≤ x3 → gv l sc m_X11_laysCosts 45 [.ref 42, .int x1, .int x2, .int x3, .int 0, .float 0, .float 0] [] M Q)) : gv l sc m_X11_laysCosts 31 [.ref 42, .int x1, .int x2, .int x3, .float 0, .float 0, .float 0] [] M Q := by
  refine gv_seg ok_X11_laysCosts 20 5 (Ps := []) (pc' := 39) (ls' := [.ref 42, .int x1, .int x2, .int x3, .float 0, .float 0, .float 0]) (st' := [.int (24 * (M 42 2)), .int x3]) (M2 := M) rfl trivial ?_
  refine gv_icmp_ge (t := 151) (by decide) (gl_dec ok_X11_laysCosts 25 39 (.if_icmp .ge 112) 3 rfl) (fun c => ?_) (fun c => ?_)
  · replace h := h.1 c
    refine gv_seg ok_X11_laysCosts 85 1 (Ps := []) (pc' := 154) (ls' := [.ref 42, .int x1, .int (x2 + (-1)), .int x3, .float 0, .float 0, .float 0]) (st' := []) (M2 := M) rfl trivial ?_
    refine gv_goto (t := 25) (by decide) (gl_dec ok_X11_laysCosts 86 154 (.goto (-129)) 3 rfl) ?_
    exact gv_weak (ls' := [.ref 42, .int x1, .int (x2 + (-1)), .float 0, .float 0, .float 0, .float 0]) ⟨Or.inl rfl, ⟨Or.inl rfl, ⟨Or.inl rfl, ⟨Or.inr rfl, ⟨Or.inl rfl, ⟨Or.inl rfl, ⟨Or.inl rfl, trivial⟩⟩⟩⟩⟩⟩⟩ h
  · replace h := h.2 c
    refine gv_seg ok_X11_laysCosts 26 2 (Ps := []) (pc' := 45) (ls' := [.ref 42, .int x1, .int x2, .int x3, .int 0, .float 0, .float 0]) (st' := []) (M2 := M) rfl trivial ?_
    exact h
set_option maxHeartbeats 400000 in
set_option maxRecDepth 20000 in
theorem w_X11_laysCosts_45 (l : Launch) (sc : Nat × (Nat → Int32)) (M : gl_N) (Q : Option Value → gl_N → Prop) (x1 x2 x3 x4 : Int32)
  (h : gr l sc m_X11_parts [.ref 42, .int x3] M (fun r1 M2 => ∃ v3 : Int32, r1 = some (.int v3) ∧ ((v3 ≤ x4 → gv l sc m_X11_laysCosts 31 [.ref 42, .int x1, .int x2, .int (x3 + 1), .float 0, .float 0, .float 0] [] M2 Q) ∧ (¬ v3 ≤ x4 → (vp_in (1 + x2) 17) ∧ (gr l sc m_X11_isInPart [.ref 42, .int x3, .int x4, .int (M2 48 (Int32.toNatClampNeg (1 + x2)))] M2 (fun r4 M5 => ∃ v6 : Int32, r4 = some (.int v6) ∧ ((¬ v6 = 0 → (¬ x2 = ((M5 48 0) - 1) → gr l sc m_X11_leastFrom [.ref 42, .int x2, .int x3, .int x4] M5 (fun r7 M8 => ∃ v9 : Int32, r7 = some (.int v9) ∧ (gr l sc m_X11_state [.int x2, .int x3, .int x4] M8 (fun r10 M11 => ∃ v12 : Int32, r10 = some (.int v12) ∧ ((vp_in v12 9216) ∧ ((¬ x2 = 0 → gv l sc m_X11_laysCosts 45 [.ref 42, .int x1, .int x2, .int x3, .int (x4 + 1), .float 0, .float 0] [] (gl_u2 M11 57 (Int32.toNatClampNeg v12) v9) Q) ∧ (x2 = 0 → (x1 ≤ v9 → gv l sc m_X11_laysCosts 45 [.ref 42, .int x1, .int x2, .int x3, .int (x4 + 1), .float 0, .float 0] [] (gl_u2 M11 57 (Int32.toNatClampNeg v12) v9) Q) ∧ (¬ x1 ≤ v9 → gv l sc m_X11_laysCosts 45 [.ref 42, .int v9, .int x2, .int x3, .int (x4 + 1), .float 0, .float 0] [] (gl_u2 M11 57 (Int32.toNatClampNeg v12) v9) Q)))))))) ∧ (x2 = ((M5 48 0) - 1) → gr l sc m_X11_state [.int x2, .int x3, .int x4] M5 (fun r13 M14 => ∃ v15 : Int32, r13 = some (.int v15) ∧ ((vp_in v15 9216) ∧ ((¬ x2 = 0 → gv l sc m_X11_laysCosts 45 [.ref 42, .int x1, .int x2, .int x3, .int (x4 + 1), .float 0, .float 0] [] (gl_u2 M14 57 (Int32.toNatClampNeg v15) 0) Q) ∧ (x2 = 0 → (x1 ≤ 0 → gv l sc m_X11_laysCosts 45 [.ref 42, .int x1, .int x2, .int x3, .int (x4 + 1), .float 0, .float 0] [] (gl_u2 M14 57 (Int32.toNatClampNeg v15) 0) Q) ∧ (¬ x1 ≤ 0 → gv l sc m_X11_laysCosts 45 [.ref 42, .int 0, .int x2, .int x3, .int (x4 + 1), .float 0, .float 0] [] (gl_u2 M14 57 (Int32.toNatClampNeg v15) 0) Q))))))) ∧ (v6 = 0 → gr l sc m_X11_state [.int x2, .int x3, .int x4] M5 (fun r16 M17 => ∃ v18 : Int32, r16 = some (.int v18) ∧ ((vp_in v18 9216) ∧ ((¬ x2 = 0 → gv l sc m_X11_laysCosts 45 [.ref 42, .int x1, .int x2, .int x3, .int (x4 + 1), .float 0, .float 0] [] (gl_u2 M17 57 (Int32.toNatClampNeg v18) 100000) Q) ∧ (x2 = 0 → (x1 ≤ 100000 → gv l sc m_X11_laysCosts 45 [.ref 42, .int x1, .int x2, .int x3, .int (x4 + 1), .float 0, .float 0] [] (gl_u2 M17 57 (Int32.toNatClampNeg v18) 100000) Q) ∧ (¬ x1 ≤ 100000 → gv l sc m_X11_laysCosts 45 [.ref 42, .int 100000, .int x2, .int x3, .int (x4 + 1), .float 0, .float 0] [] (gl_u2 M17 57 (Int32.toNatClampNeg v18) 100000) Q))))))))))))) : gv l sc m_X11_laysCosts 45 [.ref 42, .int x1, .int x2, .int x3, .int x4, .float 0, .float 0] [] M Q := by
  refine gv_seg ok_X11_laysCosts 28 3 (Ps := []) (pc' := 49) (ls' := [.ref 42, .int x1, .int x2, .int x3, .int x4, .float 0, .float 0]) (st' := [.int x3, .ref 42, .int x4]) (M2 := M) rfl trivial ?_
  refine gv_vcall (M' := m_X11_parts) (o := 42) (ci := 11) (As := [.int x3]) (st := [.int x4]) (gl_dec ok_X11_laysCosts 31 49 (.invokevirtual 132) 3 rfl) (gl_lnk ok_X11_laysCosts 31 rfl rfl) mw_X11_parts iw_X11_parts lw_X11_parts ⟨by decide, by decide⟩ rfl rfl rfl ⟨rfl, Nat.le_of_ble_eq_true rfl⟩ h (fun r1 M2 hq => ?_)
  obtain ⟨v3, rfl, h⟩ := hq
  change gv l sc m_X11_laysCosts 52 [.ref 42, .int x1, .int x2, .int x3, .int x4, .float 0, .float 0] [.int v3, .int x4] M2 Q
  refine gv_icmp_ge (t := 145) (by decide) (gl_dec ok_X11_laysCosts 32 52 (.if_icmp .ge 93) 3 rfl) (fun c => ?_) (fun c => ?_)
  · replace h := h.1 c
    refine gv_seg ok_X11_laysCosts 83 1 (Ps := []) (pc' := 148) (ls' := [.ref 42, .int x1, .int x2, .int (x3 + 1), .int x4, .float 0, .float 0]) (st' := []) (M2 := M2) rfl trivial ?_
    refine gv_goto (t := 31) (by decide) (gl_dec ok_X11_laysCosts 84 148 (.goto (-117)) 3 rfl) ?_
    exact gv_weak (ls' := [.ref 42, .int x1, .int x2, .int (x3 + 1), .float 0, .float 0, .float 0]) ⟨Or.inl rfl, ⟨Or.inl rfl, ⟨Or.inl rfl, ⟨Or.inl rfl, ⟨Or.inr rfl, ⟨Or.inl rfl, ⟨Or.inl rfl, trivial⟩⟩⟩⟩⟩⟩⟩ h
  · replace h := h.2 c
    obtain ⟨hp, h⟩ := h
    refine gv_seg ok_X11_laysCosts 33 9 (Ps := [vp_in (1 + x2) 17]) (pc' := 67) (ls' := [.ref 42, .int x1, .int x2, .int x3, .int x4, .float 0, .float 0]) (st' := [.int (M2 48 (Int32.toNatClampNeg (1 + x2))), .int x4, .int x3, .ref 42]) (M2 := M2) rfl hp ?_
    refine gv_vcall (M' := m_X11_isInPart) (o := 42) (ci := 11) (As := [.int x3, .int x4, .int (M2 48 (Int32.toNatClampNeg (1 + x2)))]) (st := []) (gl_dec ok_X11_laysCosts 42 67 (.invokevirtual 142) 3 rfl) (gl_lnk ok_X11_laysCosts 42 rfl rfl) mw_X11_isInPart iw_X11_isInPart lw_X11_isInPart ⟨by decide, by decide⟩ rfl rfl rfl ⟨rfl, Nat.le_of_ble_eq_true rfl⟩ h (fun r4 M5 hq => ?_)
    obtain ⟨v6, rfl, h⟩ := hq
    change gv l sc m_X11_laysCosts 70 [.ref 42, .int x1, .int x2, .int x3, .int x4, .float 0, .float 0] [.int v6] M5 Q
    refine gv_seg ok_X11_laysCosts 43 2 (Ps := []) (pc' := 74) (ls' := [.ref 42, .int x1, .int x2, .int x3, .int x4, .int v6, .float 0]) (st' := [.int v6]) (M2 := M5) rfl trivial ?_
    refine gv_if_ne (t := 82) (by decide) (gl_dec ok_X11_laysCosts 45 74 (.ifCond .ne 8) 3 rfl) (fun c => ?_) (fun c => ?_)
    · replace h := h.1 c
      refine gv_seg ok_X11_laysCosts 48 7 (Ps := [vp_in 0 17]) (pc' := 91) (ls' := [.ref 42, .int x1, .int x2, .int x3, .int x4, .int v6, .float 0]) (st' := [.int ((M5 48 0) - 1), .int x2]) (M2 := M5) rfl (show vp_in 0 17 by unfold vp_in; decide) ?_
      refine gv_icmp_ne (t := 98) (by decide) (gl_dec ok_X11_laysCosts 55 91 (.if_icmp .ne 7) 3 rfl) (fun c => ?_) (fun c => ?_)
      · replace h := h.1 c
        refine gv_seg ok_X11_laysCosts 58 4 (Ps := []) (pc' := 103) (ls' := [.ref 42, .int x1, .int x2, .int x3, .int x4, .int v6, .float 0]) (st' := [.int x4, .int x3, .int x2, .ref 42]) (M2 := M5) rfl trivial ?_
        refine gv_vcall (M' := m_X11_leastFrom) (o := 42) (ci := 11) (As := [.int x2, .int x3, .int x4]) (st := []) (gl_dec ok_X11_laysCosts 62 103 (.invokevirtual 159) 3 rfl) (gl_lnk ok_X11_laysCosts 62 rfl rfl) mw_X11_leastFrom iw_X11_leastFrom lw_X11_leastFrom ⟨by decide, by decide⟩ rfl rfl rfl ⟨rfl, Nat.le_of_ble_eq_true rfl⟩ h (fun r7 M8 hq => ?_)
        obtain ⟨v9, rfl, h⟩ := hq
        change gv l sc m_X11_laysCosts 106 [.ref 42, .int x1, .int x2, .int x3, .int x4, .int v6, .float 0] [.int v9] M8 Q
        refine gv_seg ok_X11_laysCosts 63 6 (Ps := []) (pc' := 116) (ls' := [.ref 42, .int x1, .int x2, .int x3, .int x4, .int v6, .int v9]) (st' := [.int x4, .int x3, .int x2, .ref 57]) (M2 := M8) rfl trivial ?_
        refine gv_scall (M' := m_X11_state) (As := [.int x2, .int x3, .int x4]) (st := [.ref 57]) (gl_dec ok_X11_laysCosts 69 116 (.invokestatic 156) 3 rfl) (gl_lnkS ok_X11_laysCosts 69 rfl rfl) mw_X11_state sw_X11_state ⟨by decide, by decide⟩ ⟨rfl, Nat.le_of_ble_eq_true rfl⟩ h (fun r10 M11 hq => ?_)
        obtain ⟨v12, rfl, h⟩ := hq
        change gv l sc m_X11_laysCosts 119 [.ref 42, .int x1, .int x2, .int x3, .int x4, .int v6, .int v9] [.int v12, .ref 57] M11 Q
        obtain ⟨hp, h⟩ := h
        refine gv_seg ok_X11_laysCosts 70 3 (Ps := [vp_in v12 9216]) (pc' := 123) (ls' := [.ref 42, .int x1, .int x2, .int x3, .int x4, .int v6, .int v9]) (st' := [.int x2]) (M2 := (gl_u2 M11 57 (Int32.toNatClampNeg v12) v9)) rfl hp ?_
        refine gv_if_ne (t := 137) (by decide) (gl_dec ok_X11_laysCosts 73 123 (.ifCond .ne 14) 3 rfl) (fun c => ?_) (fun c => ?_)
        · replace h := h.1 c
          refine gv_seg ok_X11_laysCosts 79 3 (Ps := []) (pc' := 142) (ls' := [.ref 42, .int x1, .int x2, .int x3, .int (x4 + 1), .int v6, .int v9]) (st' := []) (M2 := (gl_u2 M11 57 (Int32.toNatClampNeg v12) v9)) rfl trivial ?_
          refine gv_goto (t := 45) (by decide) (gl_dec ok_X11_laysCosts 82 142 (.goto (-97)) 3 rfl) ?_
          exact gv_weak (ls' := [.ref 42, .int x1, .int x2, .int x3, .int (x4 + 1), .float 0, .float 0]) ⟨Or.inl rfl, ⟨Or.inl rfl, ⟨Or.inl rfl, ⟨Or.inl rfl, ⟨Or.inl rfl, ⟨Or.inr rfl, ⟨Or.inr rfl, trivial⟩⟩⟩⟩⟩⟩⟩ h
        · replace h := h.2 c
          refine gv_seg ok_X11_laysCosts 74 2 (Ps := []) (pc' := 129) (ls' := [.ref 42, .int x1, .int x2, .int x3, .int x4, .int v6, .int v9]) (st' := [.int x1, .int v9]) (M2 := (gl_u2 M11 57 (Int32.toNatClampNeg v12) v9)) rfl trivial ?_
          refine gv_icmp_ge (t := 137) (by decide) (gl_dec ok_X11_laysCosts 76 129 (.if_icmp .ge 8) 3 rfl) (fun c => ?_) (fun c => ?_)
          · replace h := h.1 c
            refine gv_seg ok_X11_laysCosts 79 3 (Ps := []) (pc' := 142) (ls' := [.ref 42, .int x1, .int x2, .int x3, .int (x4 + 1), .int v6, .int v9]) (st' := []) (M2 := (gl_u2 M11 57 (Int32.toNatClampNeg v12) v9)) rfl trivial ?_
            refine gv_goto (t := 45) (by decide) (gl_dec ok_X11_laysCosts 82 142 (.goto (-97)) 3 rfl) ?_
            exact gv_weak (ls' := [.ref 42, .int x1, .int x2, .int x3, .int (x4 + 1), .float 0, .float 0]) ⟨Or.inl rfl, ⟨Or.inl rfl, ⟨Or.inl rfl, ⟨Or.inl rfl, ⟨Or.inl rfl, ⟨Or.inr rfl, ⟨Or.inr rfl, trivial⟩⟩⟩⟩⟩⟩⟩ h
          · replace h := h.2 c
            refine gv_seg ok_X11_laysCosts 77 1 (Ps := []) (pc' := 134) (ls' := [.ref 42, .int x1, .int x2, .int x3, .int x4, .int v6, .int v9]) (st' := [.int v9]) (M2 := (gl_u2 M11 57 (Int32.toNatClampNeg v12) v9)) rfl trivial ?_
            refine gv_goto (t := 138) (by decide) (gl_dec ok_X11_laysCosts 78 134 (.goto 4) 3 rfl) ?_
            refine gv_seg ok_X11_laysCosts 80 2 (Ps := []) (pc' := 142) (ls' := [.ref 42, .int v9, .int x2, .int x3, .int (x4 + 1), .int v6, .int v9]) (st' := []) (M2 := (gl_u2 M11 57 (Int32.toNatClampNeg v12) v9)) rfl trivial ?_
            refine gv_goto (t := 45) (by decide) (gl_dec ok_X11_laysCosts 82 142 (.goto (-97)) 3 rfl) ?_
            exact gv_weak (ls' := [.ref 42, .int v9, .int x2, .int x3, .int (x4 + 1), .float 0, .float 0]) ⟨Or.inl rfl, ⟨Or.inl rfl, ⟨Or.inl rfl, ⟨Or.inl rfl, ⟨Or.inl rfl, ⟨Or.inr rfl, ⟨Or.inr rfl, trivial⟩⟩⟩⟩⟩⟩⟩ h
      · replace h := h.2 c
        refine gv_seg ok_X11_laysCosts 56 1 (Ps := []) (pc' := 95) (ls' := [.ref 42, .int x1, .int x2, .int x3, .int x4, .int v6, .float 0]) (st' := [.int 0]) (M2 := M5) rfl trivial ?_
        refine gv_goto (t := 106) (by decide) (gl_dec ok_X11_laysCosts 57 95 (.goto 11) 3 rfl) ?_
        refine gv_seg ok_X11_laysCosts 63 6 (Ps := []) (pc' := 116) (ls' := [.ref 42, .int x1, .int x2, .int x3, .int x4, .int v6, .int 0]) (st' := [.int x4, .int x3, .int x2, .ref 57]) (M2 := M5) rfl trivial ?_
        refine gv_scall (M' := m_X11_state) (As := [.int x2, .int x3, .int x4]) (st := [.ref 57]) (gl_dec ok_X11_laysCosts 69 116 (.invokestatic 156) 3 rfl) (gl_lnkS ok_X11_laysCosts 69 rfl rfl) mw_X11_state sw_X11_state ⟨by decide, by decide⟩ ⟨rfl, Nat.le_of_ble_eq_true rfl⟩ h (fun r13 M14 hq => ?_)
        obtain ⟨v15, rfl, h⟩ := hq
        change gv l sc m_X11_laysCosts 119 [.ref 42, .int x1, .int x2, .int x3, .int x4, .int v6, .int 0] [.int v15, .ref 57] M14 Q
        obtain ⟨hp, h⟩ := h
        refine gv_seg ok_X11_laysCosts 70 3 (Ps := [vp_in v15 9216]) (pc' := 123) (ls' := [.ref 42, .int x1, .int x2, .int x3, .int x4, .int v6, .int 0]) (st' := [.int x2]) (M2 := (gl_u2 M14 57 (Int32.toNatClampNeg v15) 0)) rfl hp ?_
        refine gv_if_ne (t := 137) (by decide) (gl_dec ok_X11_laysCosts 73 123 (.ifCond .ne 14) 3 rfl) (fun c => ?_) (fun c => ?_)
        · replace h := h.1 c
          refine gv_seg ok_X11_laysCosts 79 3 (Ps := []) (pc' := 142) (ls' := [.ref 42, .int x1, .int x2, .int x3, .int (x4 + 1), .int v6, .int 0]) (st' := []) (M2 := (gl_u2 M14 57 (Int32.toNatClampNeg v15) 0)) rfl trivial ?_
          refine gv_goto (t := 45) (by decide) (gl_dec ok_X11_laysCosts 82 142 (.goto (-97)) 3 rfl) ?_
          exact gv_weak (ls' := [.ref 42, .int x1, .int x2, .int x3, .int (x4 + 1), .float 0, .float 0]) ⟨Or.inl rfl, ⟨Or.inl rfl, ⟨Or.inl rfl, ⟨Or.inl rfl, ⟨Or.inl rfl, ⟨Or.inr rfl, ⟨Or.inr rfl, trivial⟩⟩⟩⟩⟩⟩⟩ h
        · replace h := h.2 c
          refine gv_seg ok_X11_laysCosts 74 2 (Ps := []) (pc' := 129) (ls' := [.ref 42, .int x1, .int x2, .int x3, .int x4, .int v6, .int 0]) (st' := [.int x1, .int 0]) (M2 := (gl_u2 M14 57 (Int32.toNatClampNeg v15) 0)) rfl trivial ?_
          refine gv_icmp_ge (t := 137) (by decide) (gl_dec ok_X11_laysCosts 76 129 (.if_icmp .ge 8) 3 rfl) (fun c => ?_) (fun c => ?_)
          · replace h := h.1 c
            refine gv_seg ok_X11_laysCosts 79 3 (Ps := []) (pc' := 142) (ls' := [.ref 42, .int x1, .int x2, .int x3, .int (x4 + 1), .int v6, .int 0]) (st' := []) (M2 := (gl_u2 M14 57 (Int32.toNatClampNeg v15) 0)) rfl trivial ?_
            refine gv_goto (t := 45) (by decide) (gl_dec ok_X11_laysCosts 82 142 (.goto (-97)) 3 rfl) ?_
            exact gv_weak (ls' := [.ref 42, .int x1, .int x2, .int x3, .int (x4 + 1), .float 0, .float 0]) ⟨Or.inl rfl, ⟨Or.inl rfl, ⟨Or.inl rfl, ⟨Or.inl rfl, ⟨Or.inl rfl, ⟨Or.inr rfl, ⟨Or.inr rfl, trivial⟩⟩⟩⟩⟩⟩⟩ h
          · replace h := h.2 c
            refine gv_seg ok_X11_laysCosts 77 1 (Ps := []) (pc' := 134) (ls' := [.ref 42, .int x1, .int x2, .int x3, .int x4, .int v6, .int 0]) (st' := [.int 0]) (M2 := (gl_u2 M14 57 (Int32.toNatClampNeg v15) 0)) rfl trivial ?_
            refine gv_goto (t := 138) (by decide) (gl_dec ok_X11_laysCosts 78 134 (.goto 4) 3 rfl) ?_
            refine gv_seg ok_X11_laysCosts 80 2 (Ps := []) (pc' := 142) (ls' := [.ref 42, .int 0, .int x2, .int x3, .int (x4 + 1), .int v6, .int 0]) (st' := []) (M2 := (gl_u2 M14 57 (Int32.toNatClampNeg v15) 0)) rfl trivial ?_
            refine gv_goto (t := 45) (by decide) (gl_dec ok_X11_laysCosts 82 142 (.goto (-97)) 3 rfl) ?_
            exact gv_weak (ls' := [.ref 42, .int 0, .int x2, .int x3, .int (x4 + 1), .float 0, .float 0]) ⟨Or.inl rfl, ⟨Or.inl rfl, ⟨Or.inl rfl, ⟨Or.inl rfl, ⟨Or.inl rfl, ⟨Or.inr rfl, ⟨Or.inr rfl, trivial⟩⟩⟩⟩⟩⟩⟩ h
    · replace h := h.2 c
      refine gv_seg ok_X11_laysCosts 46 1 (Ps := []) (pc' := 79) (ls' := [.ref 42, .int x1, .int x2, .int x3, .int x4, .int v6, .float 0]) (st' := [.int 100000]) (M2 := M5) rfl trivial ?_
      refine gv_goto (t := 106) (by decide) (gl_dec ok_X11_laysCosts 47 79 (.goto 27) 3 rfl) ?_
      refine gv_seg ok_X11_laysCosts 63 6 (Ps := []) (pc' := 116) (ls' := [.ref 42, .int x1, .int x2, .int x3, .int x4, .int v6, .int 100000]) (st' := [.int x4, .int x3, .int x2, .ref 57]) (M2 := M5) rfl trivial ?_
      refine gv_scall (M' := m_X11_state) (As := [.int x2, .int x3, .int x4]) (st := [.ref 57]) (gl_dec ok_X11_laysCosts 69 116 (.invokestatic 156) 3 rfl) (gl_lnkS ok_X11_laysCosts 69 rfl rfl) mw_X11_state sw_X11_state ⟨by decide, by decide⟩ ⟨rfl, Nat.le_of_ble_eq_true rfl⟩ h (fun r16 M17 hq => ?_)
      obtain ⟨v18, rfl, h⟩ := hq
      change gv l sc m_X11_laysCosts 119 [.ref 42, .int x1, .int x2, .int x3, .int x4, .int v6, .int 100000] [.int v18, .ref 57] M17 Q
      obtain ⟨hp, h⟩ := h
      refine gv_seg ok_X11_laysCosts 70 3 (Ps := [vp_in v18 9216]) (pc' := 123) (ls' := [.ref 42, .int x1, .int x2, .int x3, .int x4, .int v6, .int 100000]) (st' := [.int x2]) (M2 := (gl_u2 M17 57 (Int32.toNatClampNeg v18) 100000)) rfl hp ?_
      refine gv_if_ne (t := 137) (by decide) (gl_dec ok_X11_laysCosts 73 123 (.ifCond .ne 14) 3 rfl) (fun c => ?_) (fun c => ?_)
      · replace h := h.1 c
        refine gv_seg ok_X11_laysCosts 79 3 (Ps := []) (pc' := 142) (ls' := [.ref 42, .int x1, .int x2, .int x3, .int (x4 + 1), .int v6, .int 100000]) (st' := []) (M2 := (gl_u2 M17 57 (Int32.toNatClampNeg v18) 100000)) rfl trivial ?_
        refine gv_goto (t := 45) (by decide) (gl_dec ok_X11_laysCosts 82 142 (.goto (-97)) 3 rfl) ?_
        exact gv_weak (ls' := [.ref 42, .int x1, .int x2, .int x3, .int (x4 + 1), .float 0, .float 0]) ⟨Or.inl rfl, ⟨Or.inl rfl, ⟨Or.inl rfl, ⟨Or.inl rfl, ⟨Or.inl rfl, ⟨Or.inr rfl, ⟨Or.inr rfl, trivial⟩⟩⟩⟩⟩⟩⟩ h
      · replace h := h.2 c
        refine gv_seg ok_X11_laysCosts 74 2 (Ps := []) (pc' := 129) (ls' := [.ref 42, .int x1, .int x2, .int x3, .int x4, .int v6, .int 100000]) (st' := [.int x1, .int 100000]) (M2 := (gl_u2 M17 57 (Int32.toNatClampNeg v18) 100000)) rfl trivial ?_
        refine gv_icmp_ge (t := 137) (by decide) (gl_dec ok_X11_laysCosts 76 129 (.if_icmp .ge 8) 3 rfl) (fun c => ?_) (fun c => ?_)
        · replace h := h.1 c
          refine gv_seg ok_X11_laysCosts 79 3 (Ps := []) (pc' := 142) (ls' := [.ref 42, .int x1, .int x2, .int x3, .int (x4 + 1), .int v6, .int 100000]) (st' := []) (M2 := (gl_u2 M17 57 (Int32.toNatClampNeg v18) 100000)) rfl trivial ?_
          refine gv_goto (t := 45) (by decide) (gl_dec ok_X11_laysCosts 82 142 (.goto (-97)) 3 rfl) ?_
          exact gv_weak (ls' := [.ref 42, .int x1, .int x2, .int x3, .int (x4 + 1), .float 0, .float 0]) ⟨Or.inl rfl, ⟨Or.inl rfl, ⟨Or.inl rfl, ⟨Or.inl rfl, ⟨Or.inl rfl, ⟨Or.inr rfl, ⟨Or.inr rfl, trivial⟩⟩⟩⟩⟩⟩⟩ h
        · replace h := h.2 c
          refine gv_seg ok_X11_laysCosts 77 1 (Ps := []) (pc' := 134) (ls' := [.ref 42, .int x1, .int x2, .int x3, .int x4, .int v6, .int 100000]) (st' := [.int 100000]) (M2 := (gl_u2 M17 57 (Int32.toNatClampNeg v18) 100000)) rfl trivial ?_
          refine gv_goto (t := 138) (by decide) (gl_dec ok_X11_laysCosts 78 134 (.goto 4) 3 rfl) ?_
          refine gv_seg ok_X11_laysCosts 80 2 (Ps := []) (pc' := 142) (ls' := [.ref 42, .int 100000, .int x2, .int x3, .int (x4 + 1), .int v6, .int 100000]) (st' := []) (M2 := (gl_u2 M17 57 (Int32.toNatClampNeg v18) 100000)) rfl trivial ?_
          refine gv_goto (t := 45) (by decide) (gl_dec ok_X11_laysCosts 82 142 (.goto (-97)) 3 rfl) ?_
          exact gv_weak (ls' := [.ref 42, .int 100000, .int x2, .int x3, .int (x4 + 1), .float 0, .float 0]) ⟨Or.inl rfl, ⟨Or.inl rfl, ⟨Or.inl rfl, ⟨Or.inl rfl, ⟨Or.inl rfl, ⟨Or.inr rfl, ⟨Or.inr rfl, trivial⟩⟩⟩⟩⟩⟩⟩ h
set_option maxHeartbeats 400000 in
set_option maxRecDepth 20000 in
theorem w_X11_laysParse_0 (l : Launch) (sc : Nat × (Nat → Int32)) (M : gl_N) (Q : Option Value → gl_N → Prop) (x1 : Int32)
  (h : gv l sc m_X11_laysParse 12 [.ref 42, .int x1, .int 0, .float 0, .float 0, .float 0, .float 0] [] (gl_u2 (gl_u2 M 42 27 0) 42 28 0) Q) : gv l sc m_X11_laysParse 0 [.ref 42, .int x1, .float 0, .float 0, .float 0, .float 0, .float 0] [] M Q := by
  refine gv_seg ok_X11_laysParse 0 8 (Ps := []) (pc' := 12) (ls' := [.ref 42, .int x1, .int 0, .float 0, .float 0, .float 0, .float 0]) (st' := []) (M2 := (gl_u2 (gl_u2 M 42 27 0) 42 28 0)) rfl trivial ?_
  exact h
theorem e_X11_laysParse (l : Launch) (sc : Nat × (Nat → Int32)) (M : gl_N) (Q : Option Value → gl_N → Prop) (x1 : Int32)
  (h : gv l sc m_X11_laysParse 12 [.ref 42, .int x1, .int 0, .float 0, .float 0, .float 0, .float 0] [] (gl_u2 (gl_u2 M 42 27 0) 42 28 0) Q) : gr l sc m_X11_laysParse [.ref 42, .int x1] M Q :=
  gr_of (by decide +kernel) (Nat.le_of_ble_eq_true rfl) (List.forall_mem_cons.mpr ⟨rfl, (List.forall_mem_cons.mpr ⟨rfl, (fun _ h => absurd h List.not_mem_nil)⟩)⟩) (w_X11_laysParse_0 l sc M Q x1 h)
set_option maxHeartbeats 400000 in
set_option maxRecDepth 20000 in
theorem w_X11_laysParse_12 (l : Launch) (sc : Nat × (Nat → Int32)) (M : gl_N) (Q : Option Value → gl_N → Prop) (x1 x2 : Int32)
  (h : ((M 48 0) ≤ x2 → Q none M) ∧ (¬ (M 48 0) ≤ x2 → gv l sc m_X11_laysParse 31 [.ref 42, .int x1, .int x2, .int (-9), .int 0, .int 0, .float 0] [] M Q)) : gv l sc m_X11_laysParse 12 [.ref 42, .int x1, .int x2, .float 0, .float 0, .float 0, .float 0] [] M Q := by
  refine gv_seg ok_X11_laysParse 8 5 (Ps := [vp_in 0 17]) (pc' := 19) (ls' := [.ref 42, .int x1, .int x2, .float 0, .float 0, .float 0, .float 0]) (st' := [.int (M 48 0), .int x2]) (M2 := M) rfl (show vp_in 0 17 by unfold vp_in; decide) ?_
  refine gv_icmp_ge (t := 231) (by decide) (gl_dec ok_X11_laysParse 13 19 (.if_icmp .ge 212) 3 rfl) (fun c => ?_) (fun c => ?_)
  · replace h := h.1 c
    exact gv_retV (gl_dec ok_X11_laysParse 138 231 (.return_) 1 rfl) rfl h
  · replace h := h.2 c
    refine gv_seg ok_X11_laysParse 14 6 (Ps := []) (pc' := 31) (ls' := [.ref 42, .int x1, .int x2, .int (-9), .int 0, .int 0, .float 0]) (st' := []) (M2 := M) rfl trivial ?_
    exact h
set_option maxHeartbeats 400000 in
set_option maxRecDepth 20000 in
theorem w_X11_laysParse_31 (l : Launch) (sc : Nat × (Nat → Int32)) (M : gl_N) (Q : Option Value → gl_N → Prop) (x1 x2 x3 x4 x5 : Int32)
  (h : ((96 * (M 42 2)) ≤ x5 → (vp_in x2 16) ∧ (gv l sc m_X11_laysParse 12 [.ref 42, .int x1, .int (x2 + 1), .float 0, .float 0, .float 0, .float 0] [] (gl_u2 (gl_u2 (gl_u2 M 58 (Int32.toNatClampNeg x2) x3) 42 27 ((M 42 27) + (x4 / 10))) 42 28 ((M 42 28) + (x4 - x4 / 10 * 10))) Q)) ∧ (¬ (96 * (M 42 2)) ≤ x5 → (¬ x3 = (-9) → (vp_in x2 16) ∧ (gv l sc m_X11_laysParse 12 [.ref 42, .int x1, .int (x2 + 1), .float 0, .float 0, .float 0, .float 0] [] (gl_u2 (gl_u2 (gl_u2 M 58 (Int32.toNatClampNeg x2) x3) 42 27 ((M 42 27) + (x4 / 10))) 42 28 ((M 42 28) + (x4 - x4 / 10 * 10))) Q)) ∧ (x3 = (-9) → gr l sc m_X11_parts [.ref 42, .int (x5 / 4)] M (fun r1 M2 => ∃ v3 : Int32, r1 = some (.int v3) ∧ ((v3 ≤ (x5 - x5 / 4 * 4) → gv l sc m_X11_laysParse 31 [.ref 42, .int x1, .int x2, .int x3, .int x4, .int (x5 + 1), .float 0] [] M2 Q) ∧ (¬ v3 ≤ (x5 - x5 / 4 * 4) → (vp_in ((576 * x2) + x5) 9216) ∧ ((100000 ≤ (M2 57 (Int32.toNatClampNeg ((576 * x2) + x5))) → gv l sc m_X11_laysParse 31 [.ref 42, .int x1, .int x2, .int x3, .int x4, .int (x5 + 1), .float 0] [] M2 Q) ∧ (¬ 100000 ≤ (M2 57 (Int32.toNatClampNeg ((576 * x2) + x5))) → (¬ x2 = 0 → (vp_in (x2 - 1) 16 ∧ vp_in (x2 - 1) 16) ∧ (gr l sc m_X11_step [.ref 42, .int ((M2 58 (Int32.toNatClampNeg (x2 - 1))) / 4), .int ((M2 58 (Int32.toNatClampNeg (x2 - 1))) - (M2 58 (Int32.toNatClampNeg (x2 - 1))) / 4 * 4), .int (x5 / 4), .int (x5 - x5 / 4 * 4)] M2 (fun r4 M5 => ∃ v6 : Int32, r4 = some (.int v6) ∧ ((¬ x2 = 0 → (vp_in (x2 - 1) 16 ∧ vp_in ((576 * (x2 - 1)) + (M5 58 (Int32.toNatClampNeg (x2 - 1)))) 9216 ∧ vp_in ((576 * x2) + x5) 9216) ∧ ((¬ (v6 + (M5 57 (Int32.toNatClampNeg ((576 * x2) + x5)))) = (M5 57 (Int32.toNatClampNeg ((576 * (x2 - 1)) + (M5 58 (Int32.toNatClampNeg (x2 - 1)))))) → gv l sc m_X11_laysParse 31 [.ref 42, .int x1, .int x2, .int (-9), .int v6, .int (x5 + 1), .float 0] [] M5 Q) ∧ ((v6 + (M5 57 (Int32.toNatClampNeg ((576 * x2) + x5)))) = (M5 57 (Int32.toNatClampNeg ((576 * (x2 - 1)) + (M5 58 (Int32.toNatClampNeg (x2 - 1)))))) → gv l sc m_X11_laysParse 31 [.ref 42, .int x1, .int x2, .int x5, .int v6, .int (x5 + 1), .float 0] [] M5 Q))) ∧ (x2 = 0 → (vp_in ((576 * x2) + x5) 9216) ∧ ((¬ (v6 + (M5 57 (Int32.toNatClampNeg ((576 * x2) + x5)))) = x1 → gv l sc m_X11_laysParse 31 [.ref 42, .int x1, .int x2, .int (-9), .int v6, .int (x5 + 1), .float 0] [] M5 Q) ∧ ((v6 + (M5 57 (Int32.toNatClampNeg ((576 * x2) + x5)))) = x1 → gv l sc m_X11_laysParse 31 [.ref 42, .int x1, .int x2, .int x5, .int v6, .int (x5 + 1), .float 0] [] M5 Q))))))) ∧ (x2 = 0 → (¬ x2 = 0 → (vp_in (x2 - 1) 16 ∧ vp_in ((576 * (x2 - 1)) + (M2 58 (Int32.toNatClampNeg (x2 - 1)))) 9216 ∧ vp_in ((576 * x2) + x5) 9216) ∧ ((¬ (0 + (M2 57 (Int32.toNatClampNeg ((576 * x2) + x5)))) = (M2 57 (Int32.toNatClampNeg ((576 * (x2 - 1)) + (M2 58 (Int32.toNatClampNeg (x2 - 1)))))) → gv l sc m_X11_laysParse 31 [.ref 42, .int x1, .int x2, .int (-9), .int 0, .int (x5 + 1), .float 0] [] M2 Q) ∧ ((0 + (M2 57 (Int32.toNatClampNeg ((576 * x2) + x5)))) = (M2 57 (Int32.toNatClampNeg ((576 * (x2 - 1)) + (M2 58 (Int32.toNatClampNeg (x2 - 1)))))) → gv l sc m_X11_laysParse 31 [.ref 42, .int x1, .int x2, .int x5, .int 0, .int (x5 + 1), .float 0] [] M2 Q))) ∧ (x2 = 0 → (vp_in ((576 * x2) + x5) 9216) ∧ ((¬ (0 + (M2 57 (Int32.toNatClampNeg ((576 * x2) + x5)))) = x1 → gv l sc m_X11_laysParse 31 [.ref 42, .int x1, .int x2, .int (-9), .int 0, .int (x5 + 1), .float 0] [] M2 Q) ∧ ((0 + (M2 57 (Int32.toNatClampNeg ((576 * x2) + x5)))) = x1 → gv l sc m_X11_laysParse 31 [.ref 42, .int x1, .int x2, .int x5, .int 0, .int (x5 + 1), .float 0] [] M2 Q)))))))))))) : gv l sc m_X11_laysParse 31 [.ref 42, .int x1, .int x2, .int x3, .int x4, .int x5, .float 0] [] M Q := by
  refine gv_seg ok_X11_laysParse 20 5 (Ps := []) (pc' := 40) (ls' := [.ref 42, .int x1, .int x2, .int x3, .int x4, .int x5, .float 0]) (st' := [.int (96 * (M 42 2)), .int x5]) (M2 := M) rfl trivial ?_
  refine gv_icmp_ge (t := 190) (by decide) (gl_dec ok_X11_laysParse 25 40 (.if_icmp .ge 150) 3 rfl) (fun c => ?_) (fun c => ?_)
  · replace h := h.1 c
    obtain ⟨hp, h⟩ := h
    refine gv_seg ok_X11_laysParse 115 22 (Ps := [vp_in x2 16, ¬ (10 : Int32) = 0, ¬ (10 : Int32) = 0]) (pc' := 228) (ls' := [.ref 42, .int x1, .int (x2 + 1), .int x3, .int x4, .int x5, .float 0]) (st' := []) (M2 := (gl_u2 (gl_u2 (gl_u2 M 58 (Int32.toNatClampNeg x2) x3) 42 27 ((M 42 27) + (x4 / 10))) 42 28 ((M 42 28) + (x4 - x4 / 10 * 10)))) rfl ⟨hp, (show ¬ (10 : Int32) = 0 by decide), (show ¬ (10 : Int32) = 0 by decide)⟩ ?_
    refine gv_goto (t := 12) (by decide) (gl_dec ok_X11_laysParse 137 228 (.goto (-216)) 3 rfl) ?_
    exact gv_weak (ls' := [.ref 42, .int x1, .int (x2 + 1), .float 0, .float 0, .float 0, .float 0]) ⟨Or.inl rfl, ⟨Or.inl rfl, ⟨Or.inl rfl, ⟨Or.inr rfl, ⟨Or.inr rfl, ⟨Or.inr rfl, ⟨Or.inl rfl, trivial⟩⟩⟩⟩⟩⟩⟩ h
  · replace h := h.2 c
    refine gv_seg ok_X11_laysParse 26 2 (Ps := []) (pc' := 46) (ls' := [.ref 42, .int x1, .int x2, .int x3, .int x4, .int x5, .float 0]) (st' := [.int (-9), .int x3]) (M2 := M) rfl trivial ?_
    refine gv_icmp_ne (t := 190) (by decide) (gl_dec ok_X11_laysParse 28 46 (.if_icmp .ne 144) 3 rfl) (fun c => ?_) (fun c => ?_)
    · replace h := h.1 c
      obtain ⟨hp, h⟩ := h
      refine gv_seg ok_X11_laysParse 115 22 (Ps := [vp_in x2 16, ¬ (10 : Int32) = 0, ¬ (10 : Int32) = 0]) (pc' := 228) (ls' := [.ref 42, .int x1, .int (x2 + 1), .int x3, .int x4, .int x5, .float 0]) (st' := []) (M2 := (gl_u2 (gl_u2 (gl_u2 M 58 (Int32.toNatClampNeg x2) x3) 42 27 ((M 42 27) + (x4 / 10))) 42 28 ((M 42 28) + (x4 - x4 / 10 * 10)))) rfl ⟨hp, (show ¬ (10 : Int32) = 0 by decide), (show ¬ (10 : Int32) = 0 by decide)⟩ ?_
      refine gv_goto (t := 12) (by decide) (gl_dec ok_X11_laysParse 137 228 (.goto (-216)) 3 rfl) ?_
      exact gv_weak (ls' := [.ref 42, .int x1, .int (x2 + 1), .float 0, .float 0, .float 0, .float 0]) ⟨Or.inl rfl, ⟨Or.inl rfl, ⟨Or.inl rfl, ⟨Or.inr rfl, ⟨Or.inr rfl, ⟨Or.inr rfl, ⟨Or.inl rfl, trivial⟩⟩⟩⟩⟩⟩⟩ h
    · replace h := h.2 c
      refine gv_seg ok_X11_laysParse 29 7 (Ps := [¬ (4 : Int32) = 0, ¬ (4 : Int32) = 0]) (pc' := 58) (ls' := [.ref 42, .int x1, .int x2, .int x3, .int x4, .int x5, .float 0]) (st' := [.int (x5 / 4), .ref 42, .int (x5 - x5 / 4 * 4)]) (M2 := M) rfl ⟨(show ¬ (4 : Int32) = 0 by decide), (show ¬ (4 : Int32) = 0 by decide)⟩ ?_
      refine gv_vcall (M' := m_X11_parts) (o := 42) (ci := 11) (As := [.int (x5 / 4)]) (st := [.int (x5 - x5 / 4 * 4)]) (gl_dec ok_X11_laysParse 36 58 (.invokevirtual 132) 3 rfl) (gl_lnk ok_X11_laysParse 36 rfl rfl) mw_X11_parts iw_X11_parts lw_X11_parts ⟨by decide, by decide⟩ rfl rfl rfl ⟨rfl, Nat.le_of_ble_eq_true rfl⟩ h (fun r1 M2 hq => ?_)
      obtain ⟨v3, rfl, h⟩ := hq
      change gv l sc m_X11_laysParse 61 [.ref 42, .int x1, .int x2, .int x3, .int x4, .int x5, .float 0] [.int v3, .int (x5 - x5 / 4 * 4)] M2 Q
      refine gv_icmp_ge (t := 184) (by decide) (gl_dec ok_X11_laysParse 37 61 (.if_icmp .ge 123) 3 rfl) (fun c => ?_) (fun c => ?_)
      · replace h := h.1 c
        refine gv_seg ok_X11_laysParse 113 1 (Ps := []) (pc' := 187) (ls' := [.ref 42, .int x1, .int x2, .int x3, .int x4, .int (x5 + 1), .float 0]) (st' := []) (M2 := M2) rfl trivial ?_
        refine gv_goto (t := 31) (by decide) (gl_dec ok_X11_laysParse 114 187 (.goto (-156)) 3 rfl) ?_
        exact h
      · replace h := h.2 c
        obtain ⟨hp, h⟩ := h
        refine gv_seg ok_X11_laysParse 38 9 (Ps := [vp_in ((576 * x2) + x5) 9216]) (pc' := 79) (ls' := [.ref 42, .int x1, .int x2, .int x3, .int x4, .int x5, .float 0]) (st' := [.int 100000, .int (M2 57 (Int32.toNatClampNeg ((576 * x2) + x5)))]) (M2 := M2) rfl hp ?_
        refine gv_icmp_ge (t := 184) (by decide) (gl_dec ok_X11_laysParse 47 79 (.if_icmp .ge 105) 3 rfl) (fun c => ?_) (fun c => ?_)
        · replace h := h.1 c
          refine gv_seg ok_X11_laysParse 113 1 (Ps := []) (pc' := 187) (ls' := [.ref 42, .int x1, .int x2, .int x3, .int x4, .int (x5 + 1), .float 0]) (st' := []) (M2 := M2) rfl trivial ?_
          refine gv_goto (t := 31) (by decide) (gl_dec ok_X11_laysParse 114 187 (.goto (-156)) 3 rfl) ?_
          exact h
        · replace h := h.2 c
          refine gv_seg ok_X11_laysParse 48 1 (Ps := []) (pc' := 83) (ls' := [.ref 42, .int x1, .int x2, .int x3, .int x4, .int x5, .float 0]) (st' := [.int x2]) (M2 := M2) rfl trivial ?_
          refine gv_if_ne (t := 90) (by decide) (gl_dec ok_X11_laysParse 49 83 (.ifCond .ne 7) 3 rfl) (fun c => ?_) (fun c => ?_)
          · replace h := h.1 c
            obtain ⟨hp, h⟩ := h
            refine gv_seg ok_X11_laysParse 52 23 (Ps := [vp_in (x2 - 1) 16, ¬ (4 : Int32) = 0, vp_in (x2 - 1) 16, ¬ (4 : Int32) = 0, ¬ (4 : Int32) = 0, ¬ (4 : Int32) = 0]) (pc' := 119) (ls' := [.ref 42, .int x1, .int x2, .int x3, .int x4, .int x5, .float 0]) (st' := [.int (x5 - x5 / 4 * 4), .int (x5 / 4), .int ((M2 58 (Int32.toNatClampNeg (x2 - 1))) - (M2 58 (Int32.toNatClampNeg (x2 - 1))) / 4 * 4), .int ((M2 58 (Int32.toNatClampNeg (x2 - 1))) / 4), .ref 42]) (M2 := M2) rfl ⟨hp.1, (show ¬ (4 : Int32) = 0 by decide), hp.2, (show ¬ (4 : Int32) = 0 by decide), (show ¬ (4 : Int32) = 0 by decide), (show ¬ (4 : Int32) = 0 by decide)⟩ ?_
            refine gv_vcall (M' := m_X11_step) (o := 42) (ci := 11) (As := [.int ((M2 58 (Int32.toNatClampNeg (x2 - 1))) / 4), .int ((M2 58 (Int32.toNatClampNeg (x2 - 1))) - (M2 58 (Int32.toNatClampNeg (x2 - 1))) / 4 * 4), .int (x5 / 4), .int (x5 - x5 / 4 * 4)]) (st := []) (gl_dec ok_X11_laysParse 75 119 (.invokevirtual 168) 3 rfl) (gl_lnk ok_X11_laysParse 75 rfl rfl) mw_X11_step iw_X11_step lw_X11_step ⟨by decide, by decide⟩ rfl rfl rfl ⟨rfl, Nat.le_of_ble_eq_true rfl⟩ h (fun r4 M5 hq => ?_)
            obtain ⟨v6, rfl, h⟩ := hq
            change gv l sc m_X11_laysParse 122 [.ref 42, .int x1, .int x2, .int x3, .int x4, .int x5, .float 0] [.int v6] M5 Q
            refine gv_seg ok_X11_laysParse 76 2 (Ps := []) (pc' := 125) (ls' := [.ref 42, .int x1, .int x2, .int x3, .int v6, .int x5, .float 0]) (st' := [.int x2]) (M2 := M5) rfl trivial ?_
            refine gv_if_ne (t := 132) (by decide) (gl_dec ok_X11_laysParse 78 125 (.ifCond .ne 7) 3 rfl) (fun c => ?_) (fun c => ?_)
            · replace h := h.1 c
              obtain ⟨hp, h⟩ := h
              refine gv_seg ok_X11_laysParse 81 27 (Ps := [vp_in (x2 - 1) 16, vp_in ((576 * (x2 - 1)) + (M5 58 (Int32.toNatClampNeg (x2 - 1)))) 9216, vp_in ((576 * x2) + x5) 9216]) (pc' := 173) (ls' := [.ref 42, .int x1, .int x2, .int x3, .int v6, .int x5, .int (M5 57 (Int32.toNatClampNeg ((576 * (x2 - 1)) + (M5 58 (Int32.toNatClampNeg (x2 - 1))))))]) (st' := [.int (M5 57 (Int32.toNatClampNeg ((576 * (x2 - 1)) + (M5 58 (Int32.toNatClampNeg (x2 - 1)))))), .int (v6 + (M5 57 (Int32.toNatClampNeg ((576 * x2) + x5))))]) (M2 := M5) rfl ⟨hp.1, hp.2.1, hp.2.2⟩ ?_
              refine gv_icmp_ne (t := 181) (by decide) (gl_dec ok_X11_laysParse 108 173 (.if_icmp .ne 8) 3 rfl) (fun c => ?_) (fun c => ?_)
              · replace h := h.1 c
                refine gv_seg ok_X11_laysParse 111 3 (Ps := []) (pc' := 187) (ls' := [.ref 42, .int x1, .int x2, .int (-9), .int v6, .int (x5 + 1), .int (M5 57 (Int32.toNatClampNeg ((576 * (x2 - 1)) + (M5 58 (Int32.toNatClampNeg (x2 - 1))))))]) (st' := []) (M2 := M5) rfl trivial ?_
                refine gv_goto (t := 31) (by decide) (gl_dec ok_X11_laysParse 114 187 (.goto (-156)) 3 rfl) ?_
                exact gv_weak (ls' := [.ref 42, .int x1, .int x2, .int (-9), .int v6, .int (x5 + 1), .float 0]) ⟨Or.inl rfl, ⟨Or.inl rfl, ⟨Or.inl rfl, ⟨Or.inl rfl, ⟨Or.inl rfl, ⟨Or.inl rfl, ⟨Or.inr rfl, trivial⟩⟩⟩⟩⟩⟩⟩ h
              · replace h := h.2 c
                refine gv_seg ok_X11_laysParse 109 1 (Ps := []) (pc' := 178) (ls' := [.ref 42, .int x1, .int x2, .int x3, .int v6, .int x5, .int (M5 57 (Int32.toNatClampNeg ((576 * (x2 - 1)) + (M5 58 (Int32.toNatClampNeg (x2 - 1))))))]) (st' := [.int x5]) (M2 := M5) rfl trivial ?_
                refine gv_goto (t := 183) (by decide) (gl_dec ok_X11_laysParse 110 178 (.goto 5) 3 rfl) ?_
                refine gv_seg ok_X11_laysParse 112 2 (Ps := []) (pc' := 187) (ls' := [.ref 42, .int x1, .int x2, .int x5, .int v6, .int (x5 + 1), .int (M5 57 (Int32.toNatClampNeg ((576 * (x2 - 1)) + (M5 58 (Int32.toNatClampNeg (x2 - 1))))))]) (st' := []) (M2 := M5) rfl trivial ?_
                refine gv_goto (t := 31) (by decide) (gl_dec ok_X11_laysParse 114 187 (.goto (-156)) 3 rfl) ?_
                exact gv_weak (ls' := [.ref 42, .int x1, .int x2, .int x5, .int v6, .int (x5 + 1), .float 0]) ⟨Or.inl rfl, ⟨Or.inl rfl, ⟨Or.inl rfl, ⟨Or.inl rfl, ⟨Or.inl rfl, ⟨Or.inl rfl, ⟨Or.inr rfl, trivial⟩⟩⟩⟩⟩⟩⟩ h
            · replace h := h.2 c
              refine gv_seg ok_X11_laysParse 79 1 (Ps := []) (pc' := 129) (ls' := [.ref 42, .int x1, .int x2, .int x3, .int v6, .int x5, .float 0]) (st' := [.int x1]) (M2 := M5) rfl trivial ?_
              refine gv_goto (t := 153) (by decide) (gl_dec ok_X11_laysParse 80 129 (.goto 24) 3 rfl) ?_
              obtain ⟨hp, h⟩ := h
              refine gv_seg ok_X11_laysParse 96 12 (Ps := [vp_in ((576 * x2) + x5) 9216]) (pc' := 173) (ls' := [.ref 42, .int x1, .int x2, .int x3, .int v6, .int x5, .int x1]) (st' := [.int x1, .int (v6 + (M5 57 (Int32.toNatClampNeg ((576 * x2) + x5))))]) (M2 := M5) rfl hp ?_
              refine gv_icmp_ne (t := 181) (by decide) (gl_dec ok_X11_laysParse 108 173 (.if_icmp .ne 8) 3 rfl) (fun c => ?_) (fun c => ?_)
              · replace h := h.1 c
                refine gv_seg ok_X11_laysParse 111 3 (Ps := []) (pc' := 187) (ls' := [.ref 42, .int x1, .int x2, .int (-9), .int v6, .int (x5 + 1), .int x1]) (st' := []) (M2 := M5) rfl trivial ?_
                refine gv_goto (t := 31) (by decide) (gl_dec ok_X11_laysParse 114 187 (.goto (-156)) 3 rfl) ?_
                exact gv_weak (ls' := [.ref 42, .int x1, .int x2, .int (-9), .int v6, .int (x5 + 1), .float 0]) ⟨Or.inl rfl, ⟨Or.inl rfl, ⟨Or.inl rfl, ⟨Or.inl rfl, ⟨Or.inl rfl, ⟨Or.inl rfl, ⟨Or.inr rfl, trivial⟩⟩⟩⟩⟩⟩⟩ h
              · replace h := h.2 c
                refine gv_seg ok_X11_laysParse 109 1 (Ps := []) (pc' := 178) (ls' := [.ref 42, .int x1, .int x2, .int x3, .int v6, .int x5, .int x1]) (st' := [.int x5]) (M2 := M5) rfl trivial ?_
                refine gv_goto (t := 183) (by decide) (gl_dec ok_X11_laysParse 110 178 (.goto 5) 3 rfl) ?_
                refine gv_seg ok_X11_laysParse 112 2 (Ps := []) (pc' := 187) (ls' := [.ref 42, .int x1, .int x2, .int x5, .int v6, .int (x5 + 1), .int x1]) (st' := []) (M2 := M5) rfl trivial ?_
                refine gv_goto (t := 31) (by decide) (gl_dec ok_X11_laysParse 114 187 (.goto (-156)) 3 rfl) ?_
                exact gv_weak (ls' := [.ref 42, .int x1, .int x2, .int x5, .int v6, .int (x5 + 1), .float 0]) ⟨Or.inl rfl, ⟨Or.inl rfl, ⟨Or.inl rfl, ⟨Or.inl rfl, ⟨Or.inl rfl, ⟨Or.inl rfl, ⟨Or.inr rfl, trivial⟩⟩⟩⟩⟩⟩⟩ h
          · replace h := h.2 c
            refine gv_seg ok_X11_laysParse 50 1 (Ps := []) (pc' := 87) (ls' := [.ref 42, .int x1, .int x2, .int x3, .int x4, .int x5, .float 0]) (st' := [.int 0]) (M2 := M2) rfl trivial ?_
            refine gv_goto (t := 122) (by decide) (gl_dec ok_X11_laysParse 51 87 (.goto 35) 3 rfl) ?_
            refine gv_seg ok_X11_laysParse 76 2 (Ps := []) (pc' := 125) (ls' := [.ref 42, .int x1, .int x2, .int x3, .int 0, .int x5, .float 0]) (st' := [.int x2]) (M2 := M2) rfl trivial ?_
            refine gv_if_ne (t := 132) (by decide) (gl_dec ok_X11_laysParse 78 125 (.ifCond .ne 7) 3 rfl) (fun c => ?_) (fun c => ?_)
            · replace h := h.1 c
              obtain ⟨hp, h⟩ := h
              refine gv_seg ok_X11_laysParse 81 27 (Ps := [vp_in (x2 - 1) 16, vp_in ((576 * (x2 - 1)) + (M2 58 (Int32.toNatClampNeg (x2 - 1)))) 9216, vp_in ((576 * x2) + x5) 9216]) (pc' := 173) (ls' := [.ref 42, .int x1, .int x2, .int x3, .int 0, .int x5, .int (M2 57 (Int32.toNatClampNeg ((576 * (x2 - 1)) + (M2 58 (Int32.toNatClampNeg (x2 - 1))))))]) (st' := [.int (M2 57 (Int32.toNatClampNeg ((576 * (x2 - 1)) + (M2 58 (Int32.toNatClampNeg (x2 - 1)))))), .int (0 + (M2 57 (Int32.toNatClampNeg ((576 * x2) + x5))))]) (M2 := M2) rfl ⟨hp.1, hp.2.1, hp.2.2⟩ ?_
              refine gv_icmp_ne (t := 181) (by decide) (gl_dec ok_X11_laysParse 108 173 (.if_icmp .ne 8) 3 rfl) (fun c => ?_) (fun c => ?_)
              · replace h := h.1 c
                refine gv_seg ok_X11_laysParse 111 3 (Ps := []) (pc' := 187) (ls' := [.ref 42, .int x1, .int x2, .int (-9), .int 0, .int (x5 + 1), .int (M2 57 (Int32.toNatClampNeg ((576 * (x2 - 1)) + (M2 58 (Int32.toNatClampNeg (x2 - 1))))))]) (st' := []) (M2 := M2) rfl trivial ?_
                refine gv_goto (t := 31) (by decide) (gl_dec ok_X11_laysParse 114 187 (.goto (-156)) 3 rfl) ?_
                exact gv_weak (ls' := [.ref 42, .int x1, .int x2, .int (-9), .int 0, .int (x5 + 1), .float 0]) ⟨Or.inl rfl, ⟨Or.inl rfl, ⟨Or.inl rfl, ⟨Or.inl rfl, ⟨Or.inl rfl, ⟨Or.inl rfl, ⟨Or.inr rfl, trivial⟩⟩⟩⟩⟩⟩⟩ h
              · replace h := h.2 c
                refine gv_seg ok_X11_laysParse 109 1 (Ps := []) (pc' := 178) (ls' := [.ref 42, .int x1, .int x2, .int x3, .int 0, .int x5, .int (M2 57 (Int32.toNatClampNeg ((576 * (x2 - 1)) + (M2 58 (Int32.toNatClampNeg (x2 - 1))))))]) (st' := [.int x5]) (M2 := M2) rfl trivial ?_
                refine gv_goto (t := 183) (by decide) (gl_dec ok_X11_laysParse 110 178 (.goto 5) 3 rfl) ?_
                refine gv_seg ok_X11_laysParse 112 2 (Ps := []) (pc' := 187) (ls' := [.ref 42, .int x1, .int x2, .int x5, .int 0, .int (x5 + 1), .int (M2 57 (Int32.toNatClampNeg ((576 * (x2 - 1)) + (M2 58 (Int32.toNatClampNeg (x2 - 1))))))]) (st' := []) (M2 := M2) rfl trivial ?_
                refine gv_goto (t := 31) (by decide) (gl_dec ok_X11_laysParse 114 187 (.goto (-156)) 3 rfl) ?_
                exact gv_weak (ls' := [.ref 42, .int x1, .int x2, .int x5, .int 0, .int (x5 + 1), .float 0]) ⟨Or.inl rfl, ⟨Or.inl rfl, ⟨Or.inl rfl, ⟨Or.inl rfl, ⟨Or.inl rfl, ⟨Or.inl rfl, ⟨Or.inr rfl, trivial⟩⟩⟩⟩⟩⟩⟩ h
            · replace h := h.2 c
              refine gv_seg ok_X11_laysParse 79 1 (Ps := []) (pc' := 129) (ls' := [.ref 42, .int x1, .int x2, .int x3, .int 0, .int x5, .float 0]) (st' := [.int x1]) (M2 := M2) rfl trivial ?_
              refine gv_goto (t := 153) (by decide) (gl_dec ok_X11_laysParse 80 129 (.goto 24) 3 rfl) ?_
              obtain ⟨hp, h⟩ := h
              refine gv_seg ok_X11_laysParse 96 12 (Ps := [vp_in ((576 * x2) + x5) 9216]) (pc' := 173) (ls' := [.ref 42, .int x1, .int x2, .int x3, .int 0, .int x5, .int x1]) (st' := [.int x1, .int (0 + (M2 57 (Int32.toNatClampNeg ((576 * x2) + x5))))]) (M2 := M2) rfl hp ?_
              refine gv_icmp_ne (t := 181) (by decide) (gl_dec ok_X11_laysParse 108 173 (.if_icmp .ne 8) 3 rfl) (fun c => ?_) (fun c => ?_)
              · replace h := h.1 c
                refine gv_seg ok_X11_laysParse 111 3 (Ps := []) (pc' := 187) (ls' := [.ref 42, .int x1, .int x2, .int (-9), .int 0, .int (x5 + 1), .int x1]) (st' := []) (M2 := M2) rfl trivial ?_
                refine gv_goto (t := 31) (by decide) (gl_dec ok_X11_laysParse 114 187 (.goto (-156)) 3 rfl) ?_
                exact gv_weak (ls' := [.ref 42, .int x1, .int x2, .int (-9), .int 0, .int (x5 + 1), .float 0]) ⟨Or.inl rfl, ⟨Or.inl rfl, ⟨Or.inl rfl, ⟨Or.inl rfl, ⟨Or.inl rfl, ⟨Or.inl rfl, ⟨Or.inr rfl, trivial⟩⟩⟩⟩⟩⟩⟩ h
              · replace h := h.2 c
                refine gv_seg ok_X11_laysParse 109 1 (Ps := []) (pc' := 178) (ls' := [.ref 42, .int x1, .int x2, .int x3, .int 0, .int x5, .int x1]) (st' := [.int x5]) (M2 := M2) rfl trivial ?_
                refine gv_goto (t := 183) (by decide) (gl_dec ok_X11_laysParse 110 178 (.goto 5) 3 rfl) ?_
                refine gv_seg ok_X11_laysParse 112 2 (Ps := []) (pc' := 187) (ls' := [.ref 42, .int x1, .int x2, .int x5, .int 0, .int (x5 + 1), .int x1]) (st' := []) (M2 := M2) rfl trivial ?_
                refine gv_goto (t := 31) (by decide) (gl_dec ok_X11_laysParse 114 187 (.goto (-156)) 3 rfl) ?_
                exact gv_weak (ls' := [.ref 42, .int x1, .int x2, .int x5, .int 0, .int (x5 + 1), .float 0]) ⟨Or.inl rfl, ⟨Or.inl rfl, ⟨Or.inl rfl, ⟨Or.inl rfl, ⟨Or.inl rfl, ⟨Or.inl rfl, ⟨Or.inr rfl, trivial⟩⟩⟩⟩⟩⟩⟩ h
set_option maxHeartbeats 400000 in
set_option maxRecDepth 20000 in
theorem w_X11_parse_0 (l : Launch) (sc : Nat × (Nat → Int32)) (M : gl_N) (Q : Option Value → gl_N → Prop) (x1 : Int32)
  (h : gr l sc m_X11_in [.int x1, .int 0, .int 2] (gl_u2 M 42 0 0) (fun r1 M2 => ∃ v3 : Int32, r1 = some (.int v3) ∧ ((¬ v3 = 0 → gr l sc m_X11_laysCosts [.ref 42] M2 (fun r4 M5 => ∃ v6 : Int32, r4 = some (.int v6) ∧ ((v6 < 100000 → gr l sc m_X11_laysParse [.ref 42, .int v6] M5 (fun r7 M8 => r7 = none ∧ ((¬ x1 = 0 → (¬ x1 = 1 → Q (some (.int (M8 42 28))) M8) ∧ (x1 = 1 → Q (some (.int (M8 42 27))) M8)) ∧ (x1 = 0 → Q (some (.int v6)) M8)))) ∧ (¬ v6 < 100000 → Q (some (.int (-9))) M5)))) ∧ (v3 = 0 → Q (some (.int (-1))) M2)))) : gv l sc m_X11_parse 0 [.ref 42, .int x1, .float 0] [] M Q := by
  refine gv_seg ok_X11_parse 0 6 (Ps := []) (pc' := 8) (ls' := [.ref 42, .int x1, .float 0]) (st' := [.int 2, .int 0, .int x1]) (M2 := (gl_u2 M 42 0 0)) rfl trivial ?_
  refine gv_scall (M' := m_X11_in) (As := [.int x1, .int 0, .int 2]) (st := []) (gl_dec ok_X11_parse 6 8 (.invokestatic 69) 3 rfl) (gl_lnkS ok_X11_parse 6 rfl rfl) mw_X11_in sw_X11_in ⟨by decide, by decide⟩ ⟨rfl, Nat.le_of_ble_eq_true rfl⟩ h (fun r1 M2 hq => ?_)
  obtain ⟨v3, rfl, h⟩ := hq
  change gv l sc m_X11_parse 11 [.ref 42, .int x1, .float 0] [.int v3] M2 Q
  refine gv_if_ne (t := 16) (by decide) (gl_dec ok_X11_parse 7 11 (.ifCond .ne 5) 3 rfl) (fun c => ?_) (fun c => ?_)
  · replace h := h.1 c
    refine gv_seg ok_X11_parse 10 1 (Ps := []) (pc' := 17) (ls' := [.ref 42, .int x1, .float 0]) (st' := [.ref 42]) (M2 := M2) rfl trivial ?_
    refine gv_vcall (M' := m_X11_laysCosts) (o := 42) (ci := 11) (As := []) (st := []) (gl_dec ok_X11_parse 11 17 (.invokevirtual 172) 3 rfl) (gl_lnk ok_X11_parse 11 rfl rfl) mw_X11_laysCosts iw_X11_laysCosts lw_X11_laysCosts ⟨by decide, by decide⟩ rfl rfl rfl ⟨rfl, Nat.le_of_ble_eq_true rfl⟩ h (fun r4 M5 hq => ?_)
    obtain ⟨v6, rfl, h⟩ := hq
    change gv l sc m_X11_parse 20 [.ref 42, .int x1, .float 0] [.int v6] M5 Q
    refine gv_seg ok_X11_parse 12 3 (Ps := []) (pc' := 24) (ls' := [.ref 42, .int x1, .int v6]) (st' := [.int 100000, .int v6]) (M2 := M5) rfl trivial ?_
    refine gv_icmp_lt (t := 30) (by decide) (gl_dec ok_X11_parse 15 24 (.if_icmp .lt 6) 3 rfl) (fun c => ?_) (fun c => ?_)
    · replace h := h.1 c
      refine gv_seg ok_X11_parse 18 2 (Ps := []) (pc' := 32) (ls' := [.ref 42, .int x1, .int v6]) (st' := [.int v6, .ref 42]) (M2 := M5) rfl trivial ?_
      refine gv_vcall (M' := m_X11_laysParse) (o := 42) (ci := 11) (As := [.int v6]) (st := []) (gl_dec ok_X11_parse 20 32 (.invokevirtual 176) 3 rfl) (gl_lnk ok_X11_parse 20 rfl rfl) mw_X11_laysParse iw_X11_laysParse lw_X11_laysParse ⟨by decide, by decide⟩ rfl rfl rfl ⟨rfl, Nat.le_of_ble_eq_true rfl⟩ h (fun r7 M8 hq => ?_)
      obtain ⟨rfl, h⟩ := hq
      change gv l sc m_X11_parse 35 [.ref 42, .int x1, .int v6] [] M8 Q
      refine gv_seg ok_X11_parse 21 1 (Ps := []) (pc' := 36) (ls' := [.ref 42, .int x1, .int v6]) (st' := [.int x1]) (M2 := M8) rfl trivial ?_
      refine gv_if_ne (t := 43) (by decide) (gl_dec ok_X11_parse 22 36 (.ifCond .ne 7) 3 rfl) (fun c => ?_) (fun c => ?_)
      · replace h := h.1 c
        refine gv_seg ok_X11_parse 25 2 (Ps := []) (pc' := 45) (ls' := [.ref 42, .int x1, .int v6]) (st' := [.int 1, .int x1]) (M2 := M8) rfl trivial ?_
        refine gv_icmp_ne (t := 55) (by decide) (gl_dec ok_X11_parse 27 45 (.if_icmp .ne 10) 3 rfl) (fun c => ?_) (fun c => ?_)
        · replace h := h.1 c
          refine gv_seg ok_X11_parse 31 2 (Ps := []) (pc' := 59) (ls' := [.ref 42, .int x1, .int v6]) (st' := [.int (M8 42 28)]) (M2 := M8) rfl trivial ?_
          exact gv_retI (gl_dec ok_X11_parse 33 59 (.ireturn) 1 rfl) rfl h
        · replace h := h.2 c
          refine gv_seg ok_X11_parse 28 2 (Ps := []) (pc' := 52) (ls' := [.ref 42, .int x1, .int v6]) (st' := [.int (M8 42 27)]) (M2 := M8) rfl trivial ?_
          refine gv_goto (t := 59) (by decide) (gl_dec ok_X11_parse 30 52 (.goto 7) 3 rfl) ?_
          exact gv_retI (gl_dec ok_X11_parse 33 59 (.ireturn) 1 rfl) rfl h
      · replace h := h.2 c
        refine gv_seg ok_X11_parse 23 1 (Ps := []) (pc' := 40) (ls' := [.ref 42, .int x1, .int v6]) (st' := [.int v6]) (M2 := M8) rfl trivial ?_
        refine gv_goto (t := 59) (by decide) (gl_dec ok_X11_parse 24 40 (.goto 19) 3 rfl) ?_
        exact gv_retI (gl_dec ok_X11_parse 33 59 (.ireturn) 1 rfl) rfl h
    · replace h := h.2 c
      refine gv_seg ok_X11_parse 16 1 (Ps := []) (pc' := 29) (ls' := [.ref 42, .int x1, .int v6]) (st' := [.int (-9)]) (M2 := M5) rfl trivial ?_
      exact gv_retI (gl_dec ok_X11_parse 17 29 (.ireturn) 1 rfl) rfl h
  · replace h := h.2 c
    refine gv_seg ok_X11_parse 8 1 (Ps := []) (pc' := 15) (ls' := [.ref 42, .int x1, .float 0]) (st' := [.int (-1)]) (M2 := M2) rfl trivial ?_
    exact gv_retI (gl_dec ok_X11_parse 9 15 (.ireturn) 1 rfl) rfl h
theorem e_X11_parse (l : Launch) (sc : Nat × (Nat → Int32)) (M : gl_N) (Q : Option Value → gl_N → Prop) (x1 : Int32)
  (h : gr l sc m_X11_in [.int x1, .int 0, .int 2] (gl_u2 M 42 0 0) (fun r1 M2 => ∃ v3 : Int32, r1 = some (.int v3) ∧ ((¬ v3 = 0 → gr l sc m_X11_laysCosts [.ref 42] M2 (fun r4 M5 => ∃ v6 : Int32, r4 = some (.int v6) ∧ ((v6 < 100000 → gr l sc m_X11_laysParse [.ref 42, .int v6] M5 (fun r7 M8 => r7 = none ∧ ((¬ x1 = 0 → (¬ x1 = 1 → Q (some (.int (M8 42 28))) M8) ∧ (x1 = 1 → Q (some (.int (M8 42 27))) M8)) ∧ (x1 = 0 → Q (some (.int v6)) M8)))) ∧ (¬ v6 < 100000 → Q (some (.int (-9))) M5)))) ∧ (v3 = 0 → Q (some (.int (-1))) M2)))) : gr l sc m_X11_parse [.ref 42, .int x1] M Q :=
  gr_of (by decide +kernel) (Nat.le_of_ble_eq_true rfl) (List.forall_mem_cons.mpr ⟨rfl, (List.forall_mem_cons.mpr ⟨rfl, (fun _ h => absurd h List.not_mem_nil)⟩)⟩) (w_X11_parse_0 l sc M Q x1 h)
set_option maxHeartbeats 400000 in
set_option maxRecDepth 20000 in
theorem w_X11_parsed_0 (l : Launch) (sc : Nat × (Nat → Int32)) (M : gl_N) (Q : Option Value → gl_N → Prop) (x1 x2 : Int32)
  (h : gr l sc m_X11_isNote [.ref 42, .int x1] (gl_u2 M 42 0 0) (fun r1 M2 => ∃ v3 : Int32, r1 = some (.int v3) ∧ ((v3 = 0 → Q (some (.int (-1))) M2) ∧ (¬ v3 = 0 → gr l sc m_X11_in [.int x2, .int 0, .int 1] M2 (fun r4 M5 => ∃ v6 : Int32, r4 = some (.int v6) ∧ ((¬ v6 = 0 → gr l sc m_X11_laysCosts [.ref 42] M5 (fun r7 M8 => ∃ v9 : Int32, r7 = some (.int v9) ∧ ((v9 < 100000 → gr l sc m_X11_laysParse [.ref 42, .int v9] M8 (fun r10 M11 => r10 = none ∧ ((¬ x2 = 0 → (vp_in x1 16) ∧ (Q (some (.int ((M11 58 (Int32.toNatClampNeg x1)) - (M11 58 (Int32.toNatClampNeg x1)) / 4 * 4))) M11)) ∧ (x2 = 0 → (vp_in x1 16) ∧ (Q (some (.int ((M11 58 (Int32.toNatClampNeg x1)) / 4))) M11))))) ∧ (¬ v9 < 100000 → Q (some (.int (-9))) M8)))) ∧ (v6 = 0 → Q (some (.int (-1))) M5))))))) : gv l sc m_X11_parsed 0 [.ref 42, .int x1, .int x2, .float 0] [] M Q := by
  refine gv_seg ok_X11_parsed 0 5 (Ps := []) (pc' := 7) (ls' := [.ref 42, .int x1, .int x2, .float 0]) (st' := [.int x1, .ref 42]) (M2 := (gl_u2 M 42 0 0)) rfl trivial ?_
  refine gv_vcall (M' := m_X11_isNote) (o := 42) (ci := 11) (As := [.int x1]) (st := []) (gl_dec ok_X11_parsed 5 7 (.invokevirtual 179) 3 rfl) (gl_lnk ok_X11_parsed 5 rfl rfl) mw_X11_isNote iw_X11_isNote lw_X11_isNote ⟨by decide, by decide⟩ rfl rfl rfl ⟨rfl, Nat.le_of_ble_eq_true rfl⟩ h (fun r1 M2 hq => ?_)
  obtain ⟨v3, rfl, h⟩ := hq
  change gv l sc m_X11_parsed 10 [.ref 42, .int x1, .int x2, .float 0] [.int v3] M2 Q
  refine gv_if_eq (t := 22) (by decide) (gl_dec ok_X11_parsed 6 10 (.ifCond .eq 12) 3 rfl) (fun c => ?_) (fun c => ?_)
  · replace h := h.1 c
    refine gv_seg ok_X11_parsed 12 1 (Ps := []) (pc' := 23) (ls' := [.ref 42, .int x1, .int x2, .float 0]) (st' := [.int (-1)]) (M2 := M2) rfl trivial ?_
    exact gv_retI (gl_dec ok_X11_parsed 13 23 (.ireturn) 1 rfl) rfl h
  · replace h := h.2 c
    refine gv_seg ok_X11_parsed 7 3 (Ps := []) (pc' := 16) (ls' := [.ref 42, .int x1, .int x2, .float 0]) (st' := [.int 1, .int 0, .int x2]) (M2 := M2) rfl trivial ?_
    refine gv_scall (M' := m_X11_in) (As := [.int x2, .int 0, .int 1]) (st := []) (gl_dec ok_X11_parsed 10 16 (.invokestatic 69) 3 rfl) (gl_lnkS ok_X11_parsed 10 rfl rfl) mw_X11_in sw_X11_in ⟨by decide, by decide⟩ ⟨rfl, Nat.le_of_ble_eq_true rfl⟩ h (fun r4 M5 hq => ?_)
    obtain ⟨v6, rfl, h⟩ := hq
    change gv l sc m_X11_parsed 19 [.ref 42, .int x1, .int x2, .float 0] [.int v6] M5 Q
    refine gv_if_ne (t := 24) (by decide) (gl_dec ok_X11_parsed 11 19 (.ifCond .ne 5) 3 rfl) (fun c => ?_) (fun c => ?_)
    · replace h := h.1 c
      refine gv_seg ok_X11_parsed 14 1 (Ps := []) (pc' := 25) (ls' := [.ref 42, .int x1, .int x2, .float 0]) (st' := [.ref 42]) (M2 := M5) rfl trivial ?_
      refine gv_vcall (M' := m_X11_laysCosts) (o := 42) (ci := 11) (As := []) (st := []) (gl_dec ok_X11_parsed 15 25 (.invokevirtual 172) 3 rfl) (gl_lnk ok_X11_parsed 15 rfl rfl) mw_X11_laysCosts iw_X11_laysCosts lw_X11_laysCosts ⟨by decide, by decide⟩ rfl rfl rfl ⟨rfl, Nat.le_of_ble_eq_true rfl⟩ h (fun r7 M8 hq => ?_)
      obtain ⟨v9, rfl, h⟩ := hq
      change gv l sc m_X11_parsed 28 [.ref 42, .int x1, .int x2, .float 0] [.int v9] M8 Q
      refine gv_seg ok_X11_parsed 16 3 (Ps := []) (pc' := 32) (ls' := [.ref 42, .int x1, .int x2, .int v9]) (st' := [.int 100000, .int v9]) (M2 := M8) rfl trivial ?_
      refine gv_icmp_lt (t := 38) (by decide) (gl_dec ok_X11_parsed 19 32 (.if_icmp .lt 6) 3 rfl) (fun c => ?_) (fun c => ?_)
      · replace h := h.1 c
        refine gv_seg ok_X11_parsed 22 2 (Ps := []) (pc' := 40) (ls' := [.ref 42, .int x1, .int x2, .int v9]) (st' := [.int v9, .ref 42]) (M2 := M8) rfl trivial ?_
        refine gv_vcall (M' := m_X11_laysParse) (o := 42) (ci := 11) (As := [.int v9]) (st := []) (gl_dec ok_X11_parsed 24 40 (.invokevirtual 176) 3 rfl) (gl_lnk ok_X11_parsed 24 rfl rfl) mw_X11_laysParse iw_X11_laysParse lw_X11_laysParse ⟨by decide, by decide⟩ rfl rfl rfl ⟨rfl, Nat.le_of_ble_eq_true rfl⟩ h (fun r10 M11 hq => ?_)
        obtain ⟨rfl, h⟩ := hq
        change gv l sc m_X11_parsed 43 [.ref 42, .int x1, .int x2, .int v9] [] M11 Q
        refine gv_seg ok_X11_parsed 25 1 (Ps := []) (pc' := 44) (ls' := [.ref 42, .int x1, .int x2, .int v9]) (st' := [.int x2]) (M2 := M11) rfl trivial ?_
        refine gv_if_ne (t := 58) (by decide) (gl_dec ok_X11_parsed 26 44 (.ifCond .ne 14) 3 rfl) (fun c => ?_) (fun c => ?_)
        · replace h := h.1 c
          obtain ⟨hp, h⟩ := h
          refine gv_seg ok_X11_parsed 34 6 (Ps := [vp_in x1 16, ¬ (4 : Int32) = 0]) (pc' := 66) (ls' := [.ref 42, .int x1, .int x2, .int v9]) (st' := [.int ((M11 58 (Int32.toNatClampNeg x1)) - (M11 58 (Int32.toNatClampNeg x1)) / 4 * 4)]) (M2 := M11) rfl ⟨hp, (show ¬ (4 : Int32) = 0 by decide)⟩ ?_
          exact gv_retI (gl_dec ok_X11_parsed 40 66 (.ireturn) 1 rfl) rfl h
        · replace h := h.2 c
          obtain ⟨hp, h⟩ := h
          refine gv_seg ok_X11_parsed 27 6 (Ps := [vp_in x1 16, ¬ (4 : Int32) = 0]) (pc' := 55) (ls' := [.ref 42, .int x1, .int x2, .int v9]) (st' := [.int ((M11 58 (Int32.toNatClampNeg x1)) / 4)]) (M2 := M11) rfl ⟨hp, (show ¬ (4 : Int32) = 0 by decide)⟩ ?_
          refine gv_goto (t := 66) (by decide) (gl_dec ok_X11_parsed 33 55 (.goto 11) 3 rfl) ?_
          exact gv_retI (gl_dec ok_X11_parsed 40 66 (.ireturn) 1 rfl) rfl h
      · replace h := h.2 c
        refine gv_seg ok_X11_parsed 20 1 (Ps := []) (pc' := 37) (ls' := [.ref 42, .int x1, .int x2, .int v9]) (st' := [.int (-9)]) (M2 := M8) rfl trivial ?_
        exact gv_retI (gl_dec ok_X11_parsed 21 37 (.ireturn) 1 rfl) rfl h
    · replace h := h.2 c
      refine gv_seg ok_X11_parsed 12 1 (Ps := []) (pc' := 23) (ls' := [.ref 42, .int x1, .int x2, .float 0]) (st' := [.int (-1)]) (M2 := M5) rfl trivial ?_
      exact gv_retI (gl_dec ok_X11_parsed 13 23 (.ireturn) 1 rfl) rfl h
theorem e_X11_parsed (l : Launch) (sc : Nat × (Nat → Int32)) (M : gl_N) (Q : Option Value → gl_N → Prop) (x1 x2 : Int32)
  (h : gr l sc m_X11_isNote [.ref 42, .int x1] (gl_u2 M 42 0 0) (fun r1 M2 => ∃ v3 : Int32, r1 = some (.int v3) ∧ ((v3 = 0 → Q (some (.int (-1))) M2) ∧ (¬ v3 = 0 → gr l sc m_X11_in [.int x2, .int 0, .int 1] M2 (fun r4 M5 => ∃ v6 : Int32, r4 = some (.int v6) ∧ ((¬ v6 = 0 → gr l sc m_X11_laysCosts [.ref 42] M5 (fun r7 M8 => ∃ v9 : Int32, r7 = some (.int v9) ∧ ((v9 < 100000 → gr l sc m_X11_laysParse [.ref 42, .int v9] M8 (fun r10 M11 => r10 = none ∧ ((¬ x2 = 0 → (vp_in x1 16) ∧ (Q (some (.int ((M11 58 (Int32.toNatClampNeg x1)) - (M11 58 (Int32.toNatClampNeg x1)) / 4 * 4))) M11)) ∧ (x2 = 0 → (vp_in x1 16) ∧ (Q (some (.int ((M11 58 (Int32.toNatClampNeg x1)) / 4))) M11))))) ∧ (¬ v9 < 100000 → Q (some (.int (-9))) M8)))) ∧ (v6 = 0 → Q (some (.int (-1))) M5))))))) : gr l sc m_X11_parsed [.ref 42, .int x1, .int x2] M Q :=
  gr_of (by decide +kernel) (Nat.le_of_ble_eq_true rfl) (List.forall_mem_cons.mpr ⟨rfl, (List.forall_mem_cons.mpr ⟨rfl, (List.forall_mem_cons.mpr ⟨rfl, (fun _ h => absurd h List.not_mem_nil)⟩)⟩)⟩) (w_X11_parsed_0 l sc M Q x1 x2 h)
set_option maxHeartbeats 400000 in
set_option maxRecDepth 20000 in
theorem w_X11_reach_0 (l : Launch) (sc : Nat × (Nat → Int32)) (M : gl_N) (Q : Option Value → gl_N → Prop)
  (h : gv l sc m_X11_reach 14 [.ref 42, .int (M 48 0), .int (M 48 0)] [] (gl_u2 M 42 0 0) Q) : gv l sc m_X11_reach 0 [.ref 42, .float 0, .float 0] [] M Q := by
  refine gv_seg ok_X11_reach 0 10 (Ps := [vp_in 0 17]) (pc' := 14) (ls' := [.ref 42, .int (M 48 0), .int (M 48 0)]) (st' := []) (M2 := (gl_u2 M 42 0 0)) rfl (show vp_in 0 17 by unfold vp_in; decide) ?_
  exact h
theorem e_X11_reach (l : Launch) (sc : Nat × (Nat → Int32)) (M : gl_N) (Q : Option Value → gl_N → Prop)
  (h : gv l sc m_X11_reach 14 [.ref 42, .int (M 48 0), .int (M 48 0)] [] (gl_u2 M 42 0 0) Q) : gr l sc m_X11_reach [.ref 42] M Q :=
  gr_of (by decide +kernel) (Nat.le_of_ble_eq_true rfl) (List.forall_mem_cons.mpr ⟨rfl, (fun _ h => absurd h List.not_mem_nil)⟩) (w_X11_reach_0 l sc M Q h)
set_option maxHeartbeats 400000 in
set_option maxRecDepth 20000 in
theorem w_X11_reach_14 (l : Launch) (sc : Nat × (Nat → Int32)) (M : gl_N) (Q : Option Value → gl_N → Prop) (x1 x2 : Int32)
  (h : (x2 ≤ 0 → Q (some (.int 0)) (gl_u2 M 48 0 x1)) ∧ (¬ x2 ≤ 0 → gr l sc m_X11_laysCosts [.ref 42] (gl_u2 M 48 0 x2) (fun r1 M2 => ∃ v3 : Int32, r1 = some (.int v3) ∧ ((100000 ≤ v3 → gv l sc m_X11_reach 14 [.ref 42, .int x1, .int (x2 + (-1))] [] M2 Q) ∧ (¬ 100000 ≤ v3 → Q (some (.int x2)) (gl_u2 M2 48 0 x1)))))) : gv l sc m_X11_reach 14 [.ref 42, .int x1, .int x2] [] M Q := by
  refine gv_seg ok_X11_reach 10 1 (Ps := []) (pc' := 15) (ls' := [.ref 42, .int x1, .int x2]) (st' := [.int x2]) (M2 := M) rfl trivial ?_
  refine gv_if_le (t := 49) (by decide) (gl_dec ok_X11_reach 11 15 (.ifCond .le 34) 3 rfl) (fun c => ?_) (fun c => ?_)
  · replace h := h.1 c
    refine gv_seg ok_X11_reach 30 6 (Ps := [vp_in 0 17]) (pc' := 57) (ls' := [.ref 42, .int x1, .int x2]) (st' := [.int 0]) (M2 := (gl_u2 M 48 0 x1)) rfl (show vp_in 0 17 by unfold vp_in; decide) ?_
    exact gv_retI (gl_dec ok_X11_reach 36 57 (.ireturn) 1 rfl) rfl h
  · replace h := h.2 c
    refine gv_seg ok_X11_reach 12 6 (Ps := [vp_in 0 17]) (pc' := 26) (ls' := [.ref 42, .int x1, .int x2]) (st' := [.ref 42]) (M2 := (gl_u2 M 48 0 x2)) rfl (show vp_in 0 17 by unfold vp_in; decide) ?_
    refine gv_vcall (M' := m_X11_laysCosts) (o := 42) (ci := 11) (As := []) (st := []) (gl_dec ok_X11_reach 18 26 (.invokevirtual 172) 3 rfl) (gl_lnk ok_X11_reach 18 rfl rfl) mw_X11_laysCosts iw_X11_laysCosts lw_X11_laysCosts ⟨by decide, by decide⟩ rfl rfl rfl ⟨rfl, Nat.le_of_ble_eq_true rfl⟩ h (fun r1 M2 hq => ?_)
    obtain ⟨v3, rfl, h⟩ := hq
    change gv l sc m_X11_reach 29 [.ref 42, .int x1, .int x2] [.int v3] M2 Q
    refine gv_seg ok_X11_reach 19 1 (Ps := []) (pc' := 31) (ls' := [.ref 42, .int x1, .int x2]) (st' := [.int 100000, .int v3]) (M2 := M2) rfl trivial ?_
    refine gv_icmp_ge (t := 43) (by decide) (gl_dec ok_X11_reach 20 31 (.if_icmp .ge 12) 3 rfl) (fun c => ?_) (fun c => ?_)
    · replace h := h.1 c
      refine gv_seg ok_X11_reach 28 1 (Ps := []) (pc' := 46) (ls' := [.ref 42, .int x1, .int (x2 + (-1))]) (st' := []) (M2 := M2) rfl trivial ?_
      refine gv_goto (t := 14) (by decide) (gl_dec ok_X11_reach 29 46 (.goto (-32)) 3 rfl) ?_
      exact h
    · replace h := h.2 c
      refine gv_seg ok_X11_reach 21 6 (Ps := [vp_in 0 17]) (pc' := 42) (ls' := [.ref 42, .int x1, .int x2]) (st' := [.int x2]) (M2 := (gl_u2 M2 48 0 x1)) rfl (show vp_in 0 17 by unfold vp_in; decide) ?_
      exact gv_retI (gl_dec ok_X11_reach 27 42 (.ireturn) 1 rfl) rfl h
set_option maxHeartbeats 400000 in
set_option maxRecDepth 20000 in
theorem w_X11_fitOf_0 (l : Launch) (sc : Nat × (Nat → Int32)) (M : gl_N) (Q : Option Value → gl_N → Prop) (x1 : Int32)
  (h : gv l sc m_X11_fitOf 4 [.ref 42, .int x1, .int 0, .int 0] [] M Q) : gv l sc m_X11_fitOf 0 [.ref 42, .int x1, .float 0, .float 0] [] M Q := by
  refine gv_seg ok_X11_fitOf 0 4 (Ps := []) (pc' := 4) (ls' := [.ref 42, .int x1, .int 0, .int 0]) (st' := []) (M2 := M) rfl trivial ?_
  exact h
theorem e_X11_fitOf (l : Launch) (sc : Nat × (Nat → Int32)) (M : gl_N) (Q : Option Value → gl_N → Prop) (x1 : Int32)
  (h : gv l sc m_X11_fitOf 4 [.ref 42, .int x1, .int 0, .int 0] [] M Q) : gr l sc m_X11_fitOf [.ref 42, .int x1] M Q :=
  gr_of (by decide +kernel) (Nat.le_of_ble_eq_true rfl) (List.forall_mem_cons.mpr ⟨rfl, (List.forall_mem_cons.mpr ⟨rfl, (fun _ h => absurd h List.not_mem_nil)⟩)⟩) (w_X11_fitOf_0 l sc M Q x1 h)
set_option maxHeartbeats 400000 in
set_option maxRecDepth 20000 in
theorem w_X11_fitOf_4 (l : Launch) (sc : Nat × (Nat → Int32)) (M : gl_N) (Q : Option Value → gl_N → Prop) (x1 x2 x3 : Int32)
  (h : ((M 48 0) ≤ x3 → Q (some (.int x2)) M) ∧ (¬ (M 48 0) ≤ x3 → (vp_in (1 + x3) 17) ∧ (gr l sc m_X11_manyHave [.ref 42, .int x1, .int (M 48 (Int32.toNatClampNeg (1 + x3)))] M (fun r1 M2 => ∃ v3 : Int32, r1 = some (.int v3) ∧ ((v3 ≤ 0 → gv l sc m_X11_fitOf 4 [.ref 42, .int x1, .int (x2 + 0), .int (x3 + 1)] [] M2 Q) ∧ (¬ v3 ≤ 0 → gv l sc m_X11_fitOf 4 [.ref 42, .int x1, .int (x2 + 1), .int (x3 + 1)] [] M2 Q)))))) : gv l sc m_X11_fitOf 4 [.ref 42, .int x1, .int x2, .int x3] [] M Q := by
  refine gv_seg ok_X11_fitOf 4 5 (Ps := [vp_in 0 17]) (pc' := 11) (ls' := [.ref 42, .int x1, .int x2, .int x3]) (st' := [.int (M 48 0), .int x3]) (M2 := M) rfl (show vp_in 0 17 by unfold vp_in; decide) ?_
  refine gv_icmp_ge (t := 44) (by decide) (gl_dec ok_X11_fitOf 9 11 (.if_icmp .ge 33) 3 rfl) (fun c => ?_) (fun c => ?_)
  · replace h := h.1 c
    refine gv_seg ok_X11_fitOf 28 1 (Ps := []) (pc' := 45) (ls' := [.ref 42, .int x1, .int x2, .int x3]) (st' := [.int x2]) (M2 := M) rfl trivial ?_
    exact gv_retI (gl_dec ok_X11_fitOf 29 45 (.ireturn) 1 rfl) rfl h
  · replace h := h.2 c
    obtain ⟨hp, h⟩ := h
    refine gv_seg ok_X11_fitOf 10 9 (Ps := [vp_in (1 + x3) 17]) (pc' := 25) (ls' := [.ref 42, .int x1, .int x2, .int x3]) (st' := [.int (M 48 (Int32.toNatClampNeg (1 + x3))), .int x1, .ref 42, .int x2]) (M2 := M) rfl hp ?_
    refine gv_vcall (M' := m_X11_manyHave) (o := 42) (ci := 11) (As := [.int x1, .int (M 48 (Int32.toNatClampNeg (1 + x3)))]) (st := [.int x2]) (gl_dec ok_X11_fitOf 19 25 (.invokevirtual 145) 3 rfl) (gl_lnk ok_X11_fitOf 19 rfl rfl) mw_X11_manyHave iw_X11_manyHave lw_X11_manyHave ⟨by decide, by decide⟩ rfl rfl rfl ⟨rfl, Nat.le_of_ble_eq_true rfl⟩ h (fun r1 M2 hq => ?_)
    obtain ⟨v3, rfl, h⟩ := hq
    change gv l sc m_X11_fitOf 28 [.ref 42, .int x1, .int x2, .int x3] [.int v3, .int x2] M2 Q
    refine gv_if_le (t := 35) (by decide) (gl_dec ok_X11_fitOf 20 28 (.ifCond .le 7) 3 rfl) (fun c => ?_) (fun c => ?_)
    · replace h := h.1 c
      refine gv_seg ok_X11_fitOf 23 4 (Ps := []) (pc' := 41) (ls' := [.ref 42, .int x1, .int (x2 + 0), .int (x3 + 1)]) (st' := []) (M2 := M2) rfl trivial ?_
      refine gv_goto (t := 4) (by decide) (gl_dec ok_X11_fitOf 27 41 (.goto (-37)) 3 rfl) ?_
      exact h
    · replace h := h.2 c
      refine gv_seg ok_X11_fitOf 21 1 (Ps := []) (pc' := 32) (ls' := [.ref 42, .int x1, .int x2, .int x3]) (st' := [.int 1, .int x2]) (M2 := M2) rfl trivial ?_
      refine gv_goto (t := 36) (by decide) (gl_dec ok_X11_fitOf 22 32 (.goto 4) 3 rfl) ?_
      refine gv_seg ok_X11_fitOf 24 3 (Ps := []) (pc' := 41) (ls' := [.ref 42, .int x1, .int (x2 + 1), .int (x3 + 1)]) (st' := []) (M2 := M2) rfl trivial ?_
      refine gv_goto (t := 4) (by decide) (gl_dec ok_X11_fitOf 27 41 (.goto (-37)) 3 rfl) ?_
      exact h
set_option maxHeartbeats 400000 in
set_option maxRecDepth 20000 in
theorem w_X11_fit_0 (l : Launch) (sc : Nat × (Nat → Int32)) (M : gl_N) (Q : Option Value → gl_N → Prop) (x1 : Int32)
  (h : gr l sc m_X11_isScale [.ref 42, .int x1] (gl_u2 M 42 0 0) (fun r1 M2 => ∃ v3 : Int32, r1 = some (.int v3) ∧ ((v3 = 0 → Q (some (.int (-1))) M2) ∧ (¬ v3 = 0 → gr l sc m_X11_fitOf [.ref 42, .int x1] M2 (fun r4 M5 => ∃ v6 : Int32, r4 = some (.int v6) ∧ (Q (some (.int v6)) M5)))))) : gv l sc m_X11_fit 0 [.ref 42, .int x1] [] M Q := by
  refine gv_seg ok_X11_fit 0 5 (Ps := []) (pc' := 7) (ls' := [.ref 42, .int x1]) (st' := [.int x1, .ref 42]) (M2 := (gl_u2 M 42 0 0)) rfl trivial ?_
  refine gv_vcall (M' := m_X11_isScale) (o := 42) (ci := 11) (As := [.int x1]) (st := []) (gl_dec ok_X11_fit 5 7 (.invokevirtual 139) 3 rfl) (gl_lnk ok_X11_fit 5 rfl rfl) mw_X11_isScale iw_X11_isScale lw_X11_isScale ⟨by decide, by decide⟩ rfl rfl rfl ⟨rfl, Nat.le_of_ble_eq_true rfl⟩ h (fun r1 M2 hq => ?_)
  obtain ⟨v3, rfl, h⟩ := hq
  change gv l sc m_X11_fit 10 [.ref 42, .int x1] [.int v3] M2 Q
  refine gv_if_eq (t := 21) (by decide) (gl_dec ok_X11_fit 6 10 (.ifCond .eq 11) 3 rfl) (fun c => ?_) (fun c => ?_)
  · replace h := h.1 c
    refine gv_seg ok_X11_fit 11 1 (Ps := []) (pc' := 22) (ls' := [.ref 42, .int x1]) (st' := [.int (-1)]) (M2 := M2) rfl trivial ?_
    exact gv_retI (gl_dec ok_X11_fit 12 22 (.ireturn) 1 rfl) rfl h
  · replace h := h.2 c
    refine gv_seg ok_X11_fit 7 2 (Ps := []) (pc' := 15) (ls' := [.ref 42, .int x1]) (st' := [.int x1, .ref 42]) (M2 := M2) rfl trivial ?_
    refine gv_vcall (M' := m_X11_fitOf) (o := 42) (ci := 11) (As := [.int x1]) (st := []) (gl_dec ok_X11_fit 9 15 (.invokevirtual 182) 3 rfl) (gl_lnk ok_X11_fit 9 rfl rfl) mw_X11_fitOf iw_X11_fitOf lw_X11_fitOf ⟨by decide, by decide⟩ rfl rfl rfl ⟨rfl, Nat.le_of_ble_eq_true rfl⟩ h (fun r4 M5 hq => ?_)
    obtain ⟨v6, rfl, h⟩ := hq
    change gv l sc m_X11_fit 18 [.ref 42, .int x1] [.int v6] M5 Q
    refine gv_goto (t := 22) (by decide) (gl_dec ok_X11_fit 10 18 (.goto 4) 3 rfl) ?_
    exact gv_retI (gl_dec ok_X11_fit 12 22 (.ireturn) 1 rfl) rfl h
theorem e_X11_fit (l : Launch) (sc : Nat × (Nat → Int32)) (M : gl_N) (Q : Option Value → gl_N → Prop) (x1 : Int32)
  (h : gr l sc m_X11_isScale [.ref 42, .int x1] (gl_u2 M 42 0 0) (fun r1 M2 => ∃ v3 : Int32, r1 = some (.int v3) ∧ ((v3 = 0 → Q (some (.int (-1))) M2) ∧ (¬ v3 = 0 → gr l sc m_X11_fitOf [.ref 42, .int x1] M2 (fun r4 M5 => ∃ v6 : Int32, r4 = some (.int v6) ∧ (Q (some (.int v6)) M5)))))) : gr l sc m_X11_fit [.ref 42, .int x1] M Q :=
  gr_of (by decide +kernel) (Nat.le_of_ble_eq_true rfl) (List.forall_mem_cons.mpr ⟨rfl, (List.forall_mem_cons.mpr ⟨rfl, (fun _ h => absurd h List.not_mem_nil)⟩)⟩) (w_X11_fit_0 l sc M Q x1 h)

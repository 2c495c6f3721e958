set_option maxHeartbeats 400000 in
set_option maxRecDepth 20000 in
theorem w_X11_home_0 (l : Launch) (sc : Nat × (Nat → Int32)) (M : gl_N) (Q : Option Value → gl_N → Prop)
  (h : gv l sc m_X11_home 12 [.ref 42, .int (-9), .int (-1), .int 0, .float 0] [] (gl_u2 M 42 0 0) Q) : gv l sc m_X11_home 0 [.ref 42, .float 0, .float 0, .float 0, .float 0] [] M Q := by
  refine gv_seg ok_X11_home 0 9 (Ps := []) (pc' := 12) (ls' := [.ref 42, .int (-9), .int (-1), .int 0, .float 0]) (st' := []) (M2 := (gl_u2 M 42 0 0)) rfl trivial ?_
  exact h
theorem e_X11_home (l : Launch) (sc : Nat × (Nat → Int32)) (M : gl_N) (Q : Option Value → gl_N → Prop)
  (h : gv l sc m_X11_home 12 [.ref 42, .int (-9), .int (-1), .int 0, .float 0] [] (gl_u2 M 42 0 0) Q) : gr l sc m_X11_home [.ref 42] M Q :=
  gr_of (by decide +kernel) (Nat.le_of_ble_eq_true rfl) (List.forall_mem_cons.mpr ⟨rfl, (fun _ h => absurd h List.not_mem_nil)⟩) (w_X11_home_0 l sc M Q h)
set_option maxHeartbeats 400000 in
set_option maxRecDepth 20000 in
theorem w_X11_home_12 (l : Launch) (sc : Nat × (Nat → Int32)) (M : gl_N) (Q : Option Value → gl_N → Prop) (x1 x2 x3 : Int32)
  (h : ((24 * (M 42 2)) ≤ x3 → Q (some (.int x1)) M) ∧ (¬ (24 * (M 42 2)) ≤ x3 → gr l sc m_X11_fitOf [.ref 42, .int x3] M (fun r1 M2 => ∃ v3 : Int32, r1 = some (.int v3) ∧ ((v3 ≤ x2 → (v3 ≤ x2 → gv l sc m_X11_home 12 [.ref 42, .int x1, .int x2, .int (x3 + 1), .float 0] [] M2 Q) ∧ (¬ v3 ≤ x2 → gv l sc m_X11_home 12 [.ref 42, .int x1, .int v3, .int (x3 + 1), .float 0] [] M2 Q)) ∧ (¬ v3 ≤ x2 → (v3 ≤ x2 → gv l sc m_X11_home 12 [.ref 42, .int x3, .int x2, .int (x3 + 1), .float 0] [] M2 Q) ∧ (¬ v3 ≤ x2 → gv l sc m_X11_home 12 [.ref 42, .int x3, .int v3, .int (x3 + 1), .float 0] [] M2 Q)))))) : gv l sc m_X11_home 12 [.ref 42, .int x1, .int x2, .int x3, .float 0] [] M Q := by
  refine gv_seg ok_X11_home 9 5 (Ps := []) (pc' := 20) (ls' := [.ref 42, .int x1, .int x2, .int x3, .float 0]) (st' := [.int (24 * (M 42 2)), .int x3]) (M2 := M) rfl trivial ?_
  refine gv_icmp_ge (t := 61) (by decide) (gl_dec ok_X11_home 14 20 (.if_icmp .ge 41) 3 rfl) (fun c => ?_) (fun c => ?_)
  · replace h := h.1 c
    refine gv_seg ok_X11_home 35 1 (Ps := []) (pc' := 62) (ls' := [.ref 42, .int x1, .int x2, .int x3, .float 0]) (st' := [.int x1]) (M2 := M) rfl trivial ?_
    exact gv_retI (gl_dec ok_X11_home 36 62 (.ireturn) 1 rfl) rfl h
  · replace h := h.2 c
    refine gv_seg ok_X11_home 15 2 (Ps := []) (pc' := 25) (ls' := [.ref 42, .int x1, .int x2, .int x3, .float 0]) (st' := [.int x3, .ref 42]) (M2 := M) rfl trivial ?_
    refine gv_vcall (M' := m_X11_fitOf) (o := 42) (ci := 11) (As := [.int x3]) (st := []) (gl_dec ok_X11_home 17 25 (.invokevirtual 182) 3 rfl) (gl_lnk ok_X11_home 17 rfl rfl) mw_X11_fitOf iw_X11_fitOf lw_X11_fitOf ⟨by decide, by decide⟩ rfl rfl rfl ⟨rfl, Nat.le_of_ble_eq_true rfl⟩ h (fun r1 M2 hq => ?_)
    obtain ⟨v3, rfl, h⟩ := hq
    change gv l sc m_X11_home 28 [.ref 42, .int x1, .int x2, .int x3, .float 0] [.int v3] M2 Q
    refine gv_seg ok_X11_home 18 3 (Ps := []) (pc' := 33) (ls' := [.ref 42, .int x1, .int x2, .int x3, .int v3]) (st' := [.int x2, .int v3]) (M2 := M2) rfl trivial ?_
    refine gv_icmp_le (t := 40) (by decide) (gl_dec ok_X11_home 21 33 (.if_icmp .le 7) 3 rfl) (fun c => ?_) (fun c => ?_)
    · replace h := h.1 c
      refine gv_seg ok_X11_home 24 4 (Ps := []) (pc' := 45) (ls' := [.ref 42, .int x1, .int x2, .int x3, .int v3]) (st' := [.int x2, .int v3]) (M2 := M2) rfl trivial ?_
      refine gv_icmp_le (t := 53) (by decide) (gl_dec ok_X11_home 28 45 (.if_icmp .le 8) 3 rfl) (fun c => ?_) (fun c => ?_)
      · replace h := h.1 c
        refine gv_seg ok_X11_home 31 3 (Ps := []) (pc' := 58) (ls' := [.ref 42, .int x1, .int x2, .int (x3 + 1), .int v3]) (st' := []) (M2 := M2) rfl trivial ?_
        refine gv_goto (t := 12) (by decide) (gl_dec ok_X11_home 34 58 (.goto (-46)) 3 rfl) ?_
        exact gv_weak (ls' := [.ref 42, .int x1, .int x2, .int (x3 + 1), .float 0]) ⟨Or.inl rfl, ⟨Or.inl rfl, ⟨Or.inl rfl, ⟨Or.inl rfl, ⟨Or.inr rfl, trivial⟩⟩⟩⟩⟩ h
      · replace h := h.2 c
        refine gv_seg ok_X11_home 29 1 (Ps := []) (pc' := 50) (ls' := [.ref 42, .int x1, .int x2, .int x3, .int v3]) (st' := [.int v3]) (M2 := M2) rfl trivial ?_
        refine gv_goto (t := 54) (by decide) (gl_dec ok_X11_home 30 50 (.goto 4) 3 rfl) ?_
        refine gv_seg ok_X11_home 32 2 (Ps := []) (pc' := 58) (ls' := [.ref 42, .int x1, .int v3, .int (x3 + 1), .int v3]) (st' := []) (M2 := M2) rfl trivial ?_
        refine gv_goto (t := 12) (by decide) (gl_dec ok_X11_home 34 58 (.goto (-46)) 3 rfl) ?_
        exact gv_weak (ls' := [.ref 42, .int x1, .int v3, .int (x3 + 1), .float 0]) ⟨Or.inl rfl, ⟨Or.inl rfl, ⟨Or.inl rfl, ⟨Or.inl rfl, ⟨Or.inr rfl, trivial⟩⟩⟩⟩⟩ h
    · replace h := h.2 c
      refine gv_seg ok_X11_home 22 1 (Ps := []) (pc' := 37) (ls' := [.ref 42, .int x1, .int x2, .int x3, .int v3]) (st' := [.int x3]) (M2 := M2) rfl trivial ?_
      refine gv_goto (t := 41) (by decide) (gl_dec ok_X11_home 23 37 (.goto 4) 3 rfl) ?_
      refine gv_seg ok_X11_home 25 3 (Ps := []) (pc' := 45) (ls' := [.ref 42, .int x3, .int x2, .int x3, .int v3]) (st' := [.int x2, .int v3]) (M2 := M2) rfl trivial ?_
      refine gv_icmp_le (t := 53) (by decide) (gl_dec ok_X11_home 28 45 (.if_icmp .le 8) 3 rfl) (fun c => ?_) (fun c => ?_)
      · replace h := h.1 c
        refine gv_seg ok_X11_home 31 3 (Ps := []) (pc' := 58) (ls' := [.ref 42, .int x3, .int x2, .int (x3 + 1), .int v3]) (st' := []) (M2 := M2) rfl trivial ?_
        refine gv_goto (t := 12) (by decide) (gl_dec ok_X11_home 34 58 (.goto (-46)) 3 rfl) ?_
        exact gv_weak (ls' := [.ref 42, .int x3, .int x2, .int (x3 + 1), .float 0]) ⟨Or.inl rfl, ⟨Or.inl rfl, ⟨Or.inl rfl, ⟨Or.inl rfl, ⟨Or.inr rfl, trivial⟩⟩⟩⟩⟩ h
      · replace h := h.2 c
        refine gv_seg ok_X11_home 29 1 (Ps := []) (pc' := 50) (ls' := [.ref 42, .int x3, .int x2, .int x3, .int v3]) (st' := [.int v3]) (M2 := M2) rfl trivial ?_
        refine gv_goto (t := 54) (by decide) (gl_dec ok_X11_home 30 50 (.goto 4) 3 rfl) ?_
        refine gv_seg ok_X11_home 32 2 (Ps := []) (pc' := 58) (ls' := [.ref 42, .int x3, .int v3, .int (x3 + 1), .int v3]) (st' := []) (M2 := M2) rfl trivial ?_
        refine gv_goto (t := 12) (by decide) (gl_dec ok_X11_home 34 58 (.goto (-46)) 3 rfl) ?_
        exact gv_weak (ls' := [.ref 42, .int x3, .int v3, .int (x3 + 1), .float 0]) ⟨Or.inl rfl, ⟨Or.inl rfl, ⟨Or.inl rfl, ⟨Or.inl rfl, ⟨Or.inr rfl, trivial⟩⟩⟩⟩⟩ h
set_option maxHeartbeats 400000 in
set_option maxRecDepth 20000 in
theorem w_X11_remembers_0 (l : Launch) (sc : Nat × (Nat → Int32)) (M : gl_N) (Q : Option Value → gl_N → Prop)
  (h : (¬ (M 42 12) = 10 → gv l sc m_X11_remembers 51 [.ref 42, .int 0] [] M Q) ∧ ((M 42 12) = 10 → gv l sc m_X11_remembers 11 [.ref 42, .int 0] [] M Q)) : gv l sc m_X11_remembers 0 [.ref 42, .float 0] [] M Q := by
  refine gv_seg ok_X11_remembers 0 3 (Ps := []) (pc' := 6) (ls' := [.ref 42, .float 0]) (st' := [.int 10, .int (M 42 12)]) (M2 := M) rfl trivial ?_
  refine gv_icmp_ne (t := 49) (by decide) (gl_dec ok_X11_remembers 3 6 (.if_icmp .ne 43) 3 rfl) (fun c => ?_) (fun c => ?_)
  · replace h := h.1 c
    refine gv_seg ok_X11_remembers 27 2 (Ps := []) (pc' := 51) (ls' := [.ref 42, .int 0]) (st' := []) (M2 := M) rfl trivial ?_
    exact h
  · replace h := h.2 c
    refine gv_seg ok_X11_remembers 4 2 (Ps := []) (pc' := 11) (ls' := [.ref 42, .int 0]) (st' := []) (M2 := M) rfl trivial ?_
    exact h
theorem e_X11_remembers (l : Launch) (sc : Nat × (Nat → Int32)) (M : gl_N) (Q : Option Value → gl_N → Prop)
  (h : (¬ (M 42 12) = 10 → gv l sc m_X11_remembers 51 [.ref 42, .int 0] [] M Q) ∧ ((M 42 12) = 10 → gv l sc m_X11_remembers 11 [.ref 42, .int 0] [] M Q)) : gr l sc m_X11_remembers [.ref 42] M Q :=
  gr_of (by decide +kernel) (Nat.le_of_ble_eq_true rfl) (List.forall_mem_cons.mpr ⟨rfl, (fun _ h => absurd h List.not_mem_nil)⟩) (w_X11_remembers_0 l sc M Q h)
set_option maxHeartbeats 400000 in
set_option maxRecDepth 20000 in
theorem w_X11_remembers_11 (l : Launch) (sc : Nat × (Nat → Int32)) (M : gl_N) (Q : Option Value → gl_N → Prop) (x1 : Int32)
  (h : (153 ≤ x1 → gv l sc m_X11_remembers 51 [.ref 42, .int 0] [] (gl_u2 M 42 12 ((M 42 12) - 1)) Q) ∧ (¬ 153 ≤ x1 → (vp_in (x1 + 17) 170 ∧ vp_in x1 170) ∧ (gv l sc m_X11_remembers 11 [.ref 42, .int (x1 + 1)] [] (gl_u2 M 49 (Int32.toNatClampNeg x1) (M 49 (Int32.toNatClampNeg (x1 + 17)))) Q))) : gv l sc m_X11_remembers 11 [.ref 42, .int x1] [] M Q := by
  refine gv_seg ok_X11_remembers 6 2 (Ps := []) (pc' := 15) (ls' := [.ref 42, .int x1]) (st' := [.int 153, .int x1]) (M2 := M) rfl trivial ?_
  refine gv_icmp_ge (t := 39) (by decide) (gl_dec ok_X11_remembers 8 15 (.if_icmp .ge 24) 3 rfl) (fun c => ?_) (fun c => ?_)
  · replace h := h.1 c
    refine gv_seg ok_X11_remembers 21 8 (Ps := []) (pc' := 51) (ls' := [.ref 42, .int 0]) (st' := []) (M2 := (gl_u2 M 42 12 ((M 42 12) - 1))) rfl trivial ?_
    exact h
  · replace h := h.2 c
    obtain ⟨hp, h⟩ := h
    refine gv_seg ok_X11_remembers 9 11 (Ps := [vp_in (x1 + 17) 170, vp_in x1 170]) (pc' := 36) (ls' := [.ref 42, .int (x1 + 1)]) (st' := []) (M2 := (gl_u2 M 49 (Int32.toNatClampNeg x1) (M 49 (Int32.toNatClampNeg (x1 + 17))))) rfl ⟨hp.1, hp.2⟩ ?_
    refine gv_goto (t := 11) (by decide) (gl_dec ok_X11_remembers 20 36 (.goto (-25)) 3 rfl) ?_
    exact h
set_option maxHeartbeats 400000 in
set_option maxRecDepth 20000 in
theorem w_X11_remembers_51 (l : Launch) (sc : Nat × (Nat → Int32)) (M : gl_N) (Q : Option Value → gl_N → Prop) (x1 : Int32)
  (h : (17 ≤ x1 → Q none (gl_u2 M 42 12 ((M 42 12) + 1))) ∧ (¬ 17 ≤ x1 → (vp_in x1 17 ∧ vp_in ((17 * (M 42 12)) + x1) 170) ∧ (gv l sc m_X11_remembers 51 [.ref 42, .int (x1 + 1)] [] (gl_u2 M 49 (Int32.toNatClampNeg ((17 * (M 42 12)) + x1)) (M 48 (Int32.toNatClampNeg x1))) Q))) : gv l sc m_X11_remembers 51 [.ref 42, .int x1] [] M Q := by
  refine gv_seg ok_X11_remembers 29 2 (Ps := []) (pc' := 54) (ls' := [.ref 42, .int x1]) (st' := [.int 17, .int x1]) (M2 := M) rfl trivial ?_
  refine gv_icmp_ge (t := 83) (by decide) (gl_dec ok_X11_remembers 31 54 (.if_icmp .ge 29) 3 rfl) (fun c => ?_) (fun c => ?_)
  · replace h := h.1 c
    refine gv_seg ok_X11_remembers 47 6 (Ps := []) (pc' := 93) (ls' := [.ref 42, .int x1]) (st' := []) (M2 := (gl_u2 M 42 12 ((M 42 12) + 1))) rfl trivial ?_
    exact gv_retV (gl_dec ok_X11_remembers 53 93 (.return_) 1 rfl) rfl h
  · replace h := h.2 c
    obtain ⟨hp, h⟩ := h
    refine gv_seg ok_X11_remembers 32 14 (Ps := [vp_in x1 17, vp_in ((17 * (M 42 12)) + x1) 170]) (pc' := 80) (ls' := [.ref 42, .int (x1 + 1)]) (st' := []) (M2 := (gl_u2 M 49 (Int32.toNatClampNeg ((17 * (M 42 12)) + x1)) (M 48 (Int32.toNatClampNeg x1)))) rfl ⟨hp.1, hp.2⟩ ?_
    refine gv_goto (t := 51) (by decide) (gl_dec ok_X11_remembers 46 80 (.goto (-29)) 3 rfl) ?_
    exact h
set_option maxHeartbeats 400000 in
set_option maxRecDepth 20000 in
theorem w_X11_plays_0 (l : Launch) (sc : Nat × (Nat → Int32)) (M : gl_N) (Q : Option Value → gl_N → Prop) (x1 : Int32)
  (h : gr l sc m_X11_in [.int x1, .int 0, .int 60] (gl_u2 M 42 0 0) (fun r1 M2 => ∃ v3 : Int32, r1 = some (.int v3) ∧ ((¬ v3 = 0 → (¬ (M2 48 0) = 16 → gr l sc m_X11_remembers [.ref 42] M2 (fun r4 M5 => r4 = none ∧ ((vp_in ((M5 48 0) + 1) 17) ∧ (Q (some (.int ((gl_u2 (gl_u2 M5 48 0 ((M5 48 0) + 1)) 48 (Int32.toNatClampNeg ((M5 48 0) + 1)) x1) 48 0))) (gl_u2 (gl_u2 M5 48 0 ((M5 48 0) + 1)) 48 (Int32.toNatClampNeg ((M5 48 0) + 1)) x1))))) ∧ ((M2 48 0) = 16 → Q (some (.int (-3))) M2)) ∧ (v3 = 0 → Q (some (.int (-1))) M2)))) : gv l sc m_X11_plays 0 [.ref 42, .int x1] [] M Q := by
  refine gv_seg ok_X11_plays 0 6 (Ps := []) (pc' := 9) (ls' := [.ref 42, .int x1]) (st' := [.int 60, .int 0, .int x1]) (M2 := (gl_u2 M 42 0 0)) rfl trivial ?_
  refine gv_scall (M' := m_X11_in) (As := [.int x1, .int 0, .int 60]) (st := []) (gl_dec ok_X11_plays 6 9 (.invokestatic 69) 3 rfl) (gl_lnkS ok_X11_plays 6 rfl rfl) mw_X11_in sw_X11_in ⟨by decide, by decide⟩ ⟨rfl, Nat.le_of_ble_eq_true rfl⟩ h (fun r1 M2 hq => ?_)
  obtain ⟨v3, rfl, h⟩ := hq
  change gv l sc m_X11_plays 12 [.ref 42, .int x1] [.int v3] M2 Q
  refine gv_if_ne (t := 17) (by decide) (gl_dec ok_X11_plays 7 12 (.ifCond .ne 5) 3 rfl) (fun c => ?_) (fun c => ?_)
  · replace h := h.1 c
    refine gv_seg ok_X11_plays 10 5 (Ps := [vp_in 0 17]) (pc' := 25) (ls' := [.ref 42, .int x1]) (st' := [.int 16, .int (M2 48 0)]) (M2 := M2) rfl (show vp_in 0 17 by unfold vp_in; decide) ?_
    refine gv_icmp_ne (t := 31) (by decide) (gl_dec ok_X11_plays 15 25 (.if_icmp .ne 6) 3 rfl) (fun c => ?_) (fun c => ?_)
    · replace h := h.1 c
      refine gv_seg ok_X11_plays 18 1 (Ps := []) (pc' := 32) (ls' := [.ref 42, .int x1]) (st' := [.ref 42]) (M2 := M2) rfl trivial ?_
      refine gv_vcall (M' := m_X11_remembers) (o := 42) (ci := 11) (As := []) (st := []) (gl_dec ok_X11_plays 19 32 (.invokevirtual 185) 3 rfl) (gl_lnk ok_X11_plays 19 rfl rfl) mw_X11_remembers iw_X11_remembers lw_X11_remembers ⟨by decide, by decide⟩ rfl rfl rfl ⟨rfl, Nat.le_of_ble_eq_true rfl⟩ h (fun r4 M5 hq => ?_)
      obtain ⟨rfl, h⟩ := hq
      change gv l sc m_X11_plays 35 [.ref 42, .int x1] [] M5 Q
      obtain ⟨hp, h⟩ := h
      refine gv_seg ok_X11_plays 20 20 (Ps := [vp_in 0 17, vp_in 0 17, vp_in 0 17, vp_in ((M5 48 0) + 1) 17, vp_in 0 17]) (pc' := 63) (ls' := [.ref 42, .int x1]) (st' := [.int ((gl_u2 (gl_u2 M5 48 0 ((M5 48 0) + 1)) 48 (Int32.toNatClampNeg ((M5 48 0) + 1)) x1) 48 0)]) (M2 := (gl_u2 (gl_u2 M5 48 0 ((M5 48 0) + 1)) 48 (Int32.toNatClampNeg ((M5 48 0) + 1)) x1)) rfl ⟨(show vp_in 0 17 by unfold vp_in; decide), (show vp_in 0 17 by unfold vp_in; decide), (show vp_in 0 17 by unfold vp_in; decide), hp, (show vp_in 0 17 by unfold vp_in; decide)⟩ ?_
      exact gv_retI (gl_dec ok_X11_plays 40 63 (.ireturn) 1 rfl) rfl h
    · replace h := h.2 c
      refine gv_seg ok_X11_plays 16 1 (Ps := []) (pc' := 30) (ls' := [.ref 42, .int x1]) (st' := [.int (-3)]) (M2 := M2) rfl trivial ?_
      exact gv_retI (gl_dec ok_X11_plays 17 30 (.ireturn) 1 rfl) rfl h
  · replace h := h.2 c
    refine gv_seg ok_X11_plays 8 1 (Ps := []) (pc' := 16) (ls' := [.ref 42, .int x1]) (st' := [.int (-1)]) (M2 := M2) rfl trivial ?_
    exact gv_retI (gl_dec ok_X11_plays 9 16 (.ireturn) 1 rfl) rfl h
theorem e_X11_plays (l : Launch) (sc : Nat × (Nat → Int32)) (M : gl_N) (Q : Option Value → gl_N → Prop) (x1 : Int32)
  (h : gr l sc m_X11_in [.int x1, .int 0, .int 60] (gl_u2 M 42 0 0) (fun r1 M2 => ∃ v3 : Int32, r1 = some (.int v3) ∧ ((¬ v3 = 0 → (¬ (M2 48 0) = 16 → gr l sc m_X11_remembers [.ref 42] M2 (fun r4 M5 => r4 = none ∧ ((vp_in ((M5 48 0) + 1) 17) ∧ (Q (some (.int ((gl_u2 (gl_u2 M5 48 0 ((M5 48 0) + 1)) 48 (Int32.toNatClampNeg ((M5 48 0) + 1)) x1) 48 0))) (gl_u2 (gl_u2 M5 48 0 ((M5 48 0) + 1)) 48 (Int32.toNatClampNeg ((M5 48 0) + 1)) x1))))) ∧ ((M2 48 0) = 16 → Q (some (.int (-3))) M2)) ∧ (v3 = 0 → Q (some (.int (-1))) M2)))) : gr l sc m_X11_plays [.ref 42, .int x1] M Q :=
  gr_of (by decide +kernel) (Nat.le_of_ble_eq_true rfl) (List.forall_mem_cons.mpr ⟨rfl, (List.forall_mem_cons.mpr ⟨rfl, (fun _ h => absurd h List.not_mem_nil)⟩)⟩) (w_X11_plays_0 l sc M Q x1 h)
set_option maxHeartbeats 400000 in
set_option maxRecDepth 20000 in
theorem w_X11_cuts_0 (l : Launch) (sc : Nat × (Nat → Int32)) (M : gl_N) (Q : Option Value → gl_N → Prop)
  (h : (¬ (M 48 0) = 0 → gr l sc m_X11_remembers [.ref 42] (gl_u2 M 42 0 0) (fun r1 M2 => r1 = none ∧ ((vp_in (1 + ((M2 48 0) - 1)) 17) ∧ (Q (some (.int ((gl_u2 M2 48 0 ((M2 48 0) - 1)) 48 (Int32.toNatClampNeg (1 + ((M2 48 0) - 1)))))) (gl_u2 M2 48 0 ((M2 48 0) - 1)))))) ∧ ((M 48 0) = 0 → Q (some (.int (-2))) (gl_u2 M 42 0 0))) : gv l sc m_X11_cuts 0 [.ref 42] [] M Q := by
  refine gv_seg ok_X11_cuts 0 7 (Ps := [vp_in 0 17]) (pc' := 11) (ls' := [.ref 42]) (st' := [.int (M 48 0)]) (M2 := (gl_u2 M 42 0 0)) rfl (show vp_in 0 17 by unfold vp_in; decide) ?_
  refine gv_if_ne (t := 17) (by decide) (gl_dec ok_X11_cuts 7 11 (.ifCond .ne 6) 3 rfl) (fun c => ?_) (fun c => ?_)
  · replace h := h.1 c
    refine gv_seg ok_X11_cuts 10 1 (Ps := []) (pc' := 18) (ls' := [.ref 42]) (st' := [.ref 42]) (M2 := (gl_u2 M 42 0 0)) rfl trivial ?_
    refine gv_vcall (M' := m_X11_remembers) (o := 42) (ci := 11) (As := []) (st := []) (gl_dec ok_X11_cuts 11 18 (.invokevirtual 185) 3 rfl) (gl_lnk ok_X11_cuts 11 rfl rfl) mw_X11_remembers iw_X11_remembers lw_X11_remembers ⟨by decide, by decide⟩ rfl rfl rfl ⟨rfl, Nat.le_of_ble_eq_true rfl⟩ h (fun r1 M2 hq => ?_)
    obtain ⟨rfl, h⟩ := hq
    change gv l sc m_X11_cuts 21 [.ref 42] [] M2 Q
    obtain ⟨hp, h⟩ := h
    refine gv_seg ok_X11_cuts 12 17 (Ps := [vp_in 0 17, vp_in 0 17, vp_in 0 17, vp_in (1 + ((M2 48 0) - 1)) 17]) (pc' := 44) (ls' := [.ref 42]) (st' := [.int ((gl_u2 M2 48 0 ((M2 48 0) - 1)) 48 (Int32.toNatClampNeg (1 + ((M2 48 0) - 1))))]) (M2 := (gl_u2 M2 48 0 ((M2 48 0) - 1))) rfl ⟨(show vp_in 0 17 by unfold vp_in; decide), (show vp_in 0 17 by unfold vp_in; decide), (show vp_in 0 17 by unfold vp_in; decide), hp⟩ ?_
    exact gv_retI (gl_dec ok_X11_cuts 29 44 (.ireturn) 1 rfl) rfl h
  · replace h := h.2 c
    refine gv_seg ok_X11_cuts 8 1 (Ps := []) (pc' := 16) (ls' := [.ref 42]) (st' := [.int (-2)]) (M2 := (gl_u2 M 42 0 0)) rfl trivial ?_
    exact gv_retI (gl_dec ok_X11_cuts 9 16 (.ireturn) 1 rfl) rfl h
theorem e_X11_cuts (l : Launch) (sc : Nat × (Nat → Int32)) (M : gl_N) (Q : Option Value → gl_N → Prop)
  (h : (¬ (M 48 0) = 0 → gr l sc m_X11_remembers [.ref 42] (gl_u2 M 42 0 0) (fun r1 M2 => r1 = none ∧ ((vp_in (1 + ((M2 48 0) - 1)) 17) ∧ (Q (some (.int ((gl_u2 M2 48 0 ((M2 48 0) - 1)) 48 (Int32.toNatClampNeg (1 + ((M2 48 0) - 1)))))) (gl_u2 M2 48 0 ((M2 48 0) - 1)))))) ∧ ((M 48 0) = 0 → Q (some (.int (-2))) (gl_u2 M 42 0 0))) : gr l sc m_X11_cuts [.ref 42] M Q :=
  gr_of (by decide +kernel) (Nat.le_of_ble_eq_true rfl) (List.forall_mem_cons.mpr ⟨rfl, (fun _ h => absurd h List.not_mem_nil)⟩) (w_X11_cuts_0 l sc M Q h)
set_option maxHeartbeats 400000 in
set_option maxRecDepth 20000 in
theorem w_X11_mends_0 (l : Launch) (sc : Nat × (Nat → Int32)) (M : gl_N) (Q : Option Value → gl_N → Prop) (x1 x2 : Int32)
  (h : gr l sc m_X11_isNote [.ref 42, .int x1] (gl_u2 M 42 0 0) (fun r1 M2 => ∃ v3 : Int32, r1 = some (.int v3) ∧ ((v3 = 0 → Q (some (.int (-1))) M2) ∧ (¬ v3 = 0 → gr l sc m_X11_in [.int x2, .int 0, .int 60] M2 (fun r4 M5 => ∃ v6 : Int32, r4 = some (.int v6) ∧ ((¬ v6 = 0 → (vp_in (1 + x1) 17) ∧ ((¬ (M5 48 (Int32.toNatClampNeg (1 + x1))) = x2 → gr l sc m_X11_remembers [.ref 42] M5 (fun r7 M8 => r7 = none ∧ ((vp_in (1 + x1) 17) ∧ (Q (some (.int (M5 48 (Int32.toNatClampNeg (1 + x1))))) (gl_u2 M8 48 (Int32.toNatClampNeg (1 + x1)) x2))))) ∧ ((M5 48 (Int32.toNatClampNeg (1 + x1))) = x2 → Q (some (.int (-2))) M5))) ∧ (v6 = 0 → Q (some (.int (-1))) M5))))))) : gv l sc m_X11_mends 0 [.ref 42, .int x1, .int x2, .float 0] [] M Q := by
  refine gv_seg ok_X11_mends 0 5 (Ps := []) (pc' := 7) (ls' := [.ref 42, .int x1, .int x2, .float 0]) (st' := [.int x1, .ref 42]) (M2 := (gl_u2 M 42 0 0)) rfl trivial ?_
  refine gv_vcall (M' := m_X11_isNote) (o := 42) (ci := 11) (As := [.int x1]) (st := []) (gl_dec ok_X11_mends 5 7 (.invokevirtual 179) 3 rfl) (gl_lnk ok_X11_mends 5 rfl rfl) mw_X11_isNote iw_X11_isNote lw_X11_isNote ⟨by decide, by decide⟩ rfl rfl rfl ⟨rfl, Nat.le_of_ble_eq_true rfl⟩ h (fun r1 M2 hq => ?_)
  obtain ⟨v3, rfl, h⟩ := hq
  change gv l sc m_X11_mends 10 [.ref 42, .int x1, .int x2, .float 0] [.int v3] M2 Q
  refine gv_if_eq (t := 23) (by decide) (gl_dec ok_X11_mends 6 10 (.ifCond .eq 13) 3 rfl) (fun c => ?_) (fun c => ?_)
  · replace h := h.1 c
    refine gv_seg ok_X11_mends 12 1 (Ps := []) (pc' := 24) (ls' := [.ref 42, .int x1, .int x2, .float 0]) (st' := [.int (-1)]) (M2 := M2) rfl trivial ?_
    exact gv_retI (gl_dec ok_X11_mends 13 24 (.ireturn) 1 rfl) rfl h
  · replace h := h.2 c
    refine gv_seg ok_X11_mends 7 3 (Ps := []) (pc' := 17) (ls' := [.ref 42, .int x1, .int x2, .float 0]) (st' := [.int 60, .int 0, .int x2]) (M2 := M2) rfl trivial ?_
    refine gv_scall (M' := m_X11_in) (As := [.int x2, .int 0, .int 60]) (st := []) (gl_dec ok_X11_mends 10 17 (.invokestatic 69) 3 rfl) (gl_lnkS ok_X11_mends 10 rfl rfl) mw_X11_in sw_X11_in ⟨by decide, by decide⟩ ⟨rfl, Nat.le_of_ble_eq_true rfl⟩ h (fun r4 M5 hq => ?_)
    obtain ⟨v6, rfl, h⟩ := hq
    change gv l sc m_X11_mends 20 [.ref 42, .int x1, .int x2, .float 0] [.int v6] M5 Q
    refine gv_if_ne (t := 25) (by decide) (gl_dec ok_X11_mends 11 20 (.ifCond .ne 5) 3 rfl) (fun c => ?_) (fun c => ?_)
    · replace h := h.1 c
      obtain ⟨hp, h⟩ := h
      refine gv_seg ok_X11_mends 14 9 (Ps := [vp_in (1 + x1) 17]) (pc' := 36) (ls' := [.ref 42, .int x1, .int x2, .int (M5 48 (Int32.toNatClampNeg (1 + x1)))]) (st' := [.int x2, .int (M5 48 (Int32.toNatClampNeg (1 + x1)))]) (M2 := M5) rfl hp ?_
      refine gv_icmp_ne (t := 42) (by decide) (gl_dec ok_X11_mends 23 36 (.if_icmp .ne 6) 3 rfl) (fun c => ?_) (fun c => ?_)
      · replace h := h.1 c
        refine gv_seg ok_X11_mends 26 1 (Ps := []) (pc' := 43) (ls' := [.ref 42, .int x1, .int x2, .int (M5 48 (Int32.toNatClampNeg (1 + x1)))]) (st' := [.ref 42]) (M2 := M5) rfl trivial ?_
        refine gv_vcall (M' := m_X11_remembers) (o := 42) (ci := 11) (As := []) (st := []) (gl_dec ok_X11_mends 27 43 (.invokevirtual 185) 3 rfl) (gl_lnk ok_X11_mends 27 rfl rfl) mw_X11_remembers iw_X11_remembers lw_X11_remembers ⟨by decide, by decide⟩ rfl rfl rfl ⟨rfl, Nat.le_of_ble_eq_true rfl⟩ h (fun r7 M8 hq => ?_)
        obtain ⟨rfl, h⟩ := hq
        change gv l sc m_X11_mends 46 [.ref 42, .int x1, .int x2, .int (M5 48 (Int32.toNatClampNeg (1 + x1)))] [] M8 Q
        obtain ⟨hp, h⟩ := h
        refine gv_seg ok_X11_mends 28 8 (Ps := [vp_in (1 + x1) 17]) (pc' := 56) (ls' := [.ref 42, .int x1, .int x2, .int (M5 48 (Int32.toNatClampNeg (1 + x1)))]) (st' := [.int (M5 48 (Int32.toNatClampNeg (1 + x1)))]) (M2 := (gl_u2 M8 48 (Int32.toNatClampNeg (1 + x1)) x2)) rfl hp ?_
        exact gv_retI (gl_dec ok_X11_mends 36 56 (.ireturn) 1 rfl) rfl h
      · replace h := h.2 c
        refine gv_seg ok_X11_mends 24 1 (Ps := []) (pc' := 41) (ls' := [.ref 42, .int x1, .int x2, .int (M5 48 (Int32.toNatClampNeg (1 + x1)))]) (st' := [.int (-2)]) (M2 := M5) rfl trivial ?_
        exact gv_retI (gl_dec ok_X11_mends 25 41 (.ireturn) 1 rfl) rfl h
    · replace h := h.2 c
      refine gv_seg ok_X11_mends 12 1 (Ps := []) (pc' := 24) (ls' := [.ref 42, .int x1, .int x2, .float 0]) (st' := [.int (-1)]) (M2 := M5) rfl trivial ?_
      exact gv_retI (gl_dec ok_X11_mends 13 24 (.ireturn) 1 rfl) rfl h
theorem e_X11_mends (l : Launch) (sc : Nat × (Nat → Int32)) (M : gl_N) (Q : Option Value → gl_N → Prop) (x1 x2 : Int32)
  (h : gr l sc m_X11_isNote [.ref 42, .int x1] (gl_u2 M 42 0 0) (fun r1 M2 => ∃ v3 : Int32, r1 = some (.int v3) ∧ ((v3 = 0 → Q (some (.int (-1))) M2) ∧ (¬ v3 = 0 → gr l sc m_X11_in [.int x2, .int 0, .int 60] M2 (fun r4 M5 => ∃ v6 : Int32, r4 = some (.int v6) ∧ ((¬ v6 = 0 → (vp_in (1 + x1) 17) ∧ ((¬ (M5 48 (Int32.toNatClampNeg (1 + x1))) = x2 → gr l sc m_X11_remembers [.ref 42] M5 (fun r7 M8 => r7 = none ∧ ((vp_in (1 + x1) 17) ∧ (Q (some (.int (M5 48 (Int32.toNatClampNeg (1 + x1))))) (gl_u2 M8 48 (Int32.toNatClampNeg (1 + x1)) x2))))) ∧ ((M5 48 (Int32.toNatClampNeg (1 + x1))) = x2 → Q (some (.int (-2))) M5))) ∧ (v6 = 0 → Q (some (.int (-1))) M5))))))) : gr l sc m_X11_mends [.ref 42, .int x1, .int x2] M Q :=
  gr_of (by decide +kernel) (Nat.le_of_ble_eq_true rfl) (List.forall_mem_cons.mpr ⟨rfl, (List.forall_mem_cons.mpr ⟨rfl, (List.forall_mem_cons.mpr ⟨rfl, (fun _ h => absurd h List.not_mem_nil)⟩)⟩)⟩) (w_X11_mends_0 l sc M Q x1 x2 h)
set_option maxHeartbeats 400000 in
set_option maxRecDepth 20000 in
theorem w_X11_moves_0 (l : Launch) (sc : Nat × (Nat → Int32)) (M : gl_N) (Q : Option Value → gl_N → Prop) (x1 : Int32)
  (h : gr l sc m_X11_in [.int x1, .int (-20), .int 20] (gl_u2 M 42 0 0) (fun r1 M2 => ∃ v3 : Int32, r1 = some (.int v3) ∧ (gv l sc m_X11_moves 16 [.ref 42, .int x1, .int v3, .int 0] [] M2 Q))) : gv l sc m_X11_moves 0 [.ref 42, .int x1, .float 0, .float 0] [] M Q := by
  refine gv_seg ok_X11_moves 0 6 (Ps := []) (pc' := 10) (ls' := [.ref 42, .int x1, .float 0, .float 0]) (st' := [.int 20, .int (-20), .int x1]) (M2 := (gl_u2 M 42 0 0)) rfl trivial ?_
  refine gv_scall (M' := m_X11_in) (As := [.int x1, .int (-20), .int 20]) (st := []) (gl_dec ok_X11_moves 6 10 (.invokestatic 69) 3 rfl) (gl_lnkS ok_X11_moves 6 rfl rfl) mw_X11_in sw_X11_in ⟨by decide, by decide⟩ ⟨rfl, Nat.le_of_ble_eq_true rfl⟩ h (fun r1 M2 hq => ?_)
  obtain ⟨v3, rfl, h⟩ := hq
  change gv l sc m_X11_moves 13 [.ref 42, .int x1, .float 0, .float 0] [.int v3] M2 Q
  refine gv_seg ok_X11_moves 7 3 (Ps := []) (pc' := 16) (ls' := [.ref 42, .int x1, .int v3, .int 0]) (st' := []) (M2 := M2) rfl trivial ?_
  exact h
theorem e_X11_moves (l : Launch) (sc : Nat × (Nat → Int32)) (M : gl_N) (Q : Option Value → gl_N → Prop) (x1 : Int32)
  (h : gr l sc m_X11_in [.int x1, .int (-20), .int 20] (gl_u2 M 42 0 0) (fun r1 M2 => ∃ v3 : Int32, r1 = some (.int v3) ∧ (gv l sc m_X11_moves 16 [.ref 42, .int x1, .int v3, .int 0] [] M2 Q))) : gr l sc m_X11_moves [.ref 42, .int x1] M Q :=
  gr_of (by decide +kernel) (Nat.le_of_ble_eq_true rfl) (List.forall_mem_cons.mpr ⟨rfl, (List.forall_mem_cons.mpr ⟨rfl, (fun _ h => absurd h List.not_mem_nil)⟩)⟩) (w_X11_moves_0 l sc M Q x1 h)
set_option maxHeartbeats 400000 in
set_option maxRecDepth 20000 in
theorem w_X11_moves_16 (l : Launch) (sc : Nat × (Nat → Int32)) (M : gl_N) (Q : Option Value → gl_N → Prop) (x1 x2 x3 : Int32)
  (h : ((M 48 0) ≤ x3 → (¬ x2 = 0 → ((M 48 0) = 0 → Q (some (.int (-2))) M) ∧ (¬ (M 48 0) = 0 → (¬ x1 = 0 → gr l sc m_X11_remembers [.ref 42] M (fun r1 M2 => r1 = none ∧ (gv l sc m_X11_moves 81 [.ref 42, .int x1, .int x2, .int 1] [] M2 Q))) ∧ (x1 = 0 → Q (some (.int (-2))) M))) ∧ (x2 = 0 → Q (some (.int (-1))) M)) ∧ (¬ (M 48 0) ≤ x3 → (x2 = 0 → (¬ x2 = 0 → ((M 48 0) = 0 → Q (some (.int (-2))) M) ∧ (¬ (M 48 0) = 0 → (¬ x1 = 0 → gr l sc m_X11_remembers [.ref 42] M (fun r3 M4 => r3 = none ∧ (gv l sc m_X11_moves 81 [.ref 42, .int x1, .int x2, .int 1] [] M4 Q))) ∧ (x1 = 0 → Q (some (.int (-2))) M))) ∧ (x2 = 0 → Q (some (.int (-1))) M)) ∧ (¬ x2 = 0 → (vp_in (1 + x3) 17) ∧ (gr l sc m_X11_in [.int ((M 48 (Int32.toNatClampNeg (1 + x3))) + x1), .int 0, .int 60] M (fun r5 M6 => ∃ v7 : Int32, r5 = some (.int v7) ∧ (gv l sc m_X11_moves 16 [.ref 42, .int x1, .int v7, .int (x3 + 1)] [] M6 Q)))))) : gv l sc m_X11_moves 16 [.ref 42, .int x1, .int x2, .int x3] [] M Q := by
  refine gv_seg ok_X11_moves 10 5 (Ps := [vp_in 0 17]) (pc' := 23) (ls' := [.ref 42, .int x1, .int x2, .int x3]) (st' := [.int (M 48 0), .int x3]) (M2 := M) rfl (show vp_in 0 17 by unfold vp_in; decide) ?_
  refine gv_icmp_ge (t := 53) (by decide) (gl_dec ok_X11_moves 15 23 (.if_icmp .ge 30) 3 rfl) (fun c => ?_) (fun c => ?_)
  · replace h := h.1 c
    refine gv_seg ok_X11_moves 32 1 (Ps := []) (pc' := 54) (ls' := [.ref 42, .int x1, .int x2, .int x3]) (st' := [.int x2]) (M2 := M) rfl trivial ?_
    refine gv_if_ne (t := 59) (by decide) (gl_dec ok_X11_moves 33 54 (.ifCond .ne 5) 3 rfl) (fun c => ?_) (fun c => ?_)
    · replace h := h.1 c
      refine gv_seg ok_X11_moves 36 4 (Ps := [vp_in 0 17]) (pc' := 65) (ls' := [.ref 42, .int x1, .int x2, .int x3]) (st' := [.int (M 48 0)]) (M2 := M) rfl (show vp_in 0 17 by unfold vp_in; decide) ?_
      refine gv_if_eq (t := 72) (by decide) (gl_dec ok_X11_moves 40 65 (.ifCond .eq 7) 3 rfl) (fun c => ?_) (fun c => ?_)
      · replace h := h.1 c
        refine gv_seg ok_X11_moves 43 1 (Ps := []) (pc' := 74) (ls' := [.ref 42, .int x1, .int x2, .int x3]) (st' := [.int (-2)]) (M2 := M) rfl trivial ?_
        exact gv_retI (gl_dec ok_X11_moves 44 74 (.ireturn) 1 rfl) rfl h
      · replace h := h.2 c
        refine gv_seg ok_X11_moves 41 1 (Ps := []) (pc' := 69) (ls' := [.ref 42, .int x1, .int x2, .int x3]) (st' := [.int x1]) (M2 := M) rfl trivial ?_
        refine gv_if_ne (t := 75) (by decide) (gl_dec ok_X11_moves 42 69 (.ifCond .ne 6) 3 rfl) (fun c => ?_) (fun c => ?_)
        · replace h := h.1 c
          refine gv_seg ok_X11_moves 45 1 (Ps := []) (pc' := 76) (ls' := [.ref 42, .int x1, .int x2, .int x3]) (st' := [.ref 42]) (M2 := M) rfl trivial ?_
          refine gv_vcall (M' := m_X11_remembers) (o := 42) (ci := 11) (As := []) (st := []) (gl_dec ok_X11_moves 46 76 (.invokevirtual 185) 3 rfl) (gl_lnk ok_X11_moves 46 rfl rfl) mw_X11_remembers iw_X11_remembers lw_X11_remembers ⟨by decide, by decide⟩ rfl rfl rfl ⟨rfl, Nat.le_of_ble_eq_true rfl⟩ h (fun r1 M2 hq => ?_)
          obtain ⟨rfl, h⟩ := hq
          change gv l sc m_X11_moves 79 [.ref 42, .int x1, .int x2, .int x3] [] M2 Q
          refine gv_seg ok_X11_moves 47 2 (Ps := []) (pc' := 81) (ls' := [.ref 42, .int x1, .int x2, .int 1]) (st' := []) (M2 := M2) rfl trivial ?_
          exact h
        · replace h := h.2 c
          refine gv_seg ok_X11_moves 43 1 (Ps := []) (pc' := 74) (ls' := [.ref 42, .int x1, .int x2, .int x3]) (st' := [.int (-2)]) (M2 := M) rfl trivial ?_
          exact gv_retI (gl_dec ok_X11_moves 44 74 (.ireturn) 1 rfl) rfl h
    · replace h := h.2 c
      refine gv_seg ok_X11_moves 34 1 (Ps := []) (pc' := 58) (ls' := [.ref 42, .int x1, .int x2, .int x3]) (st' := [.int (-1)]) (M2 := M) rfl trivial ?_
      exact gv_retI (gl_dec ok_X11_moves 35 58 (.ireturn) 1 rfl) rfl h
  · replace h := h.2 c
    refine gv_seg ok_X11_moves 16 1 (Ps := []) (pc' := 27) (ls' := [.ref 42, .int x1, .int x2, .int x3]) (st' := [.int x2]) (M2 := M) rfl trivial ?_
    refine gv_if_eq (t := 53) (by decide) (gl_dec ok_X11_moves 17 27 (.ifCond .eq 26) 3 rfl) (fun c => ?_) (fun c => ?_)
    · replace h := h.1 c
      refine gv_seg ok_X11_moves 32 1 (Ps := []) (pc' := 54) (ls' := [.ref 42, .int x1, .int x2, .int x3]) (st' := [.int x2]) (M2 := M) rfl trivial ?_
      refine gv_if_ne (t := 59) (by decide) (gl_dec ok_X11_moves 33 54 (.ifCond .ne 5) 3 rfl) (fun c => ?_) (fun c => ?_)
      · replace h := h.1 c
        refine gv_seg ok_X11_moves 36 4 (Ps := [vp_in 0 17]) (pc' := 65) (ls' := [.ref 42, .int x1, .int x2, .int x3]) (st' := [.int (M 48 0)]) (M2 := M) rfl (show vp_in 0 17 by unfold vp_in; decide) ?_
        refine gv_if_eq (t := 72) (by decide) (gl_dec ok_X11_moves 40 65 (.ifCond .eq 7) 3 rfl) (fun c => ?_) (fun c => ?_)
        · replace h := h.1 c
          refine gv_seg ok_X11_moves 43 1 (Ps := []) (pc' := 74) (ls' := [.ref 42, .int x1, .int x2, .int x3]) (st' := [.int (-2)]) (M2 := M) rfl trivial ?_
          exact gv_retI (gl_dec ok_X11_moves 44 74 (.ireturn) 1 rfl) rfl h
        · replace h := h.2 c
          refine gv_seg ok_X11_moves 41 1 (Ps := []) (pc' := 69) (ls' := [.ref 42, .int x1, .int x2, .int x3]) (st' := [.int x1]) (M2 := M) rfl trivial ?_
          refine gv_if_ne (t := 75) (by decide) (gl_dec ok_X11_moves 42 69 (.ifCond .ne 6) 3 rfl) (fun c => ?_) (fun c => ?_)
          · replace h := h.1 c
            refine gv_seg ok_X11_moves 45 1 (Ps := []) (pc' := 76) (ls' := [.ref 42, .int x1, .int x2, .int x3]) (st' := [.ref 42]) (M2 := M) rfl trivial ?_
            refine gv_vcall (M' := m_X11_remembers) (o := 42) (ci := 11) (As := []) (st := []) (gl_dec ok_X11_moves 46 76 (.invokevirtual 185) 3 rfl) (gl_lnk ok_X11_moves 46 rfl rfl) mw_X11_remembers iw_X11_remembers lw_X11_remembers ⟨by decide, by decide⟩ rfl rfl rfl ⟨rfl, Nat.le_of_ble_eq_true rfl⟩ h (fun r3 M4 hq => ?_)
            obtain ⟨rfl, h⟩ := hq
            change gv l sc m_X11_moves 79 [.ref 42, .int x1, .int x2, .int x3] [] M4 Q
            refine gv_seg ok_X11_moves 47 2 (Ps := []) (pc' := 81) (ls' := [.ref 42, .int x1, .int x2, .int 1]) (st' := []) (M2 := M4) rfl trivial ?_
            exact h
          · replace h := h.2 c
            refine gv_seg ok_X11_moves 43 1 (Ps := []) (pc' := 74) (ls' := [.ref 42, .int x1, .int x2, .int x3]) (st' := [.int (-2)]) (M2 := M) rfl trivial ?_
            exact gv_retI (gl_dec ok_X11_moves 44 74 (.ireturn) 1 rfl) rfl h
      · replace h := h.2 c
        refine gv_seg ok_X11_moves 34 1 (Ps := []) (pc' := 58) (ls' := [.ref 42, .int x1, .int x2, .int x3]) (st' := [.int (-1)]) (M2 := M) rfl trivial ?_
        exact gv_retI (gl_dec ok_X11_moves 35 58 (.ireturn) 1 rfl) rfl h
    · replace h := h.2 c
      obtain ⟨hp, h⟩ := h
      refine gv_seg ok_X11_moves 18 10 (Ps := [vp_in (1 + x3) 17]) (pc' := 43) (ls' := [.ref 42, .int x1, .int x2, .int x3]) (st' := [.int 60, .int 0, .int ((M 48 (Int32.toNatClampNeg (1 + x3))) + x1)]) (M2 := M) rfl hp ?_
      refine gv_scall (M' := m_X11_in) (As := [.int ((M 48 (Int32.toNatClampNeg (1 + x3))) + x1), .int 0, .int 60]) (st := []) (gl_dec ok_X11_moves 28 43 (.invokestatic 69) 3 rfl) (gl_lnkS ok_X11_moves 28 rfl rfl) mw_X11_in sw_X11_in ⟨by decide, by decide⟩ ⟨rfl, Nat.le_of_ble_eq_true rfl⟩ h (fun r5 M6 hq => ?_)
      obtain ⟨v7, rfl, h⟩ := hq
      change gv l sc m_X11_moves 46 [.ref 42, .int x1, .int x2, .int x3] [.int v7] M6 Q
      refine gv_seg ok_X11_moves 29 2 (Ps := []) (pc' := 50) (ls' := [.ref 42, .int x1, .int v7, .int (x3 + 1)]) (st' := []) (M2 := M6) rfl trivial ?_
      refine gv_goto (t := 16) (by decide) (gl_dec ok_X11_moves 31 50 (.goto (-34)) 3 rfl) ?_
      exact h
set_option maxHeartbeats 400000 in
set_option maxRecDepth 20000 in
theorem w_X11_moves_81 (l : Launch) (sc : Nat × (Nat → Int32)) (M : gl_N) (Q : Option Value → gl_N → Prop) (x1 x2 x3 : Int32)
  (h : ((M 48 0) < x3 → Q (some (.int (M 48 0))) M) ∧ (¬ (M 48 0) < x3 → (vp_in x3 17 ∧ vp_in x3 17) ∧ (gv l sc m_X11_moves 81 [.ref 42, .int x1, .int x2, .int (x3 + 1)] [] (gl_u2 M 48 (Int32.toNatClampNeg x3) ((M 48 (Int32.toNatClampNeg x3)) + x1)) Q))) : gv l sc m_X11_moves 81 [.ref 42, .int x1, .int x2, .int x3] [] M Q := by
  refine gv_seg ok_X11_moves 49 5 (Ps := [vp_in 0 17]) (pc' := 88) (ls' := [.ref 42, .int x1, .int x2, .int x3]) (st' := [.int (M 48 0), .int x3]) (M2 := M) rfl (show vp_in 0 17 by unfold vp_in; decide) ?_
  refine gv_icmp_gt (t := 107) (by decide) (gl_dec ok_X11_moves 54 88 (.if_icmp .gt 19) 3 rfl) (fun c => ?_) (fun c => ?_)
  · replace h := h.1 c
    refine gv_seg ok_X11_moves 65 4 (Ps := [vp_in 0 17]) (pc' := 113) (ls' := [.ref 42, .int x1, .int x2, .int x3]) (st' := [.int (M 48 0)]) (M2 := M) rfl (show vp_in 0 17 by unfold vp_in; decide) ?_
    exact gv_retI (gl_dec ok_X11_moves 69 113 (.ireturn) 1 rfl) rfl h
  · replace h := h.2 c
    obtain ⟨hp, h⟩ := h
    refine gv_seg ok_X11_moves 55 9 (Ps := [vp_in x3 17, vp_in x3 17]) (pc' := 104) (ls' := [.ref 42, .int x1, .int x2, .int (x3 + 1)]) (st' := []) (M2 := (gl_u2 M 48 (Int32.toNatClampNeg x3) ((M 48 (Int32.toNatClampNeg x3)) + x1))) rfl ⟨hp.1, hp.2⟩ ?_
    refine gv_goto (t := 81) (by decide) (gl_dec ok_X11_moves 64 104 (.goto (-23)) 3 rfl) ?_
    exact h
set_option maxHeartbeats 400000 in
set_option maxRecDepth 20000 in
theorem w_X11_undo_0 (l : Launch) (sc : Nat × (Nat → Int32)) (M : gl_N) (Q : Option Value → gl_N → Prop)
  (h : (¬ (M 42 12) = 0 → gv l sc m_X11_undo 27 [.ref 42, .int 0] [] (gl_u2 (gl_u2 M 42 0 0) 42 12 ((M 42 12) - 1)) Q) ∧ ((M 42 12) = 0 → Q (some (.int (-2))) (gl_u2 M 42 0 0))) : gv l sc m_X11_undo 0 [.ref 42, .float 0] [] M Q := by
  refine gv_seg ok_X11_undo 0 5 (Ps := []) (pc' := 9) (ls' := [.ref 42, .float 0]) (st' := [.int (M 42 12)]) (M2 := (gl_u2 M 42 0 0)) rfl trivial ?_
  refine gv_if_ne (t := 15) (by decide) (gl_dec ok_X11_undo 5 9 (.ifCond .ne 6) 3 rfl) (fun c => ?_) (fun c => ?_)
  · replace h := h.1 c
    refine gv_seg ok_X11_undo 8 8 (Ps := []) (pc' := 27) (ls' := [.ref 42, .int 0]) (st' := []) (M2 := (gl_u2 (gl_u2 M 42 0 0) 42 12 ((M 42 12) - 1))) rfl trivial ?_
    exact h
  · replace h := h.2 c
    refine gv_seg ok_X11_undo 6 1 (Ps := []) (pc' := 14) (ls' := [.ref 42, .float 0]) (st' := [.int (-2)]) (M2 := (gl_u2 M 42 0 0)) rfl trivial ?_
    exact gv_retI (gl_dec ok_X11_undo 7 14 (.ireturn) 1 rfl) rfl h
theorem e_X11_undo (l : Launch) (sc : Nat × (Nat → Int32)) (M : gl_N) (Q : Option Value → gl_N → Prop)
  (h : (¬ (M 42 12) = 0 → gv l sc m_X11_undo 27 [.ref 42, .int 0] [] (gl_u2 (gl_u2 M 42 0 0) 42 12 ((M 42 12) - 1)) Q) ∧ ((M 42 12) = 0 → Q (some (.int (-2))) (gl_u2 M 42 0 0))) : gr l sc m_X11_undo [.ref 42] M Q :=
  gr_of (by decide +kernel) (Nat.le_of_ble_eq_true rfl) (List.forall_mem_cons.mpr ⟨rfl, (fun _ h => absurd h List.not_mem_nil)⟩) (w_X11_undo_0 l sc M Q h)
set_option maxHeartbeats 400000 in
set_option maxRecDepth 20000 in
theorem w_X11_undo_27 (l : Launch) (sc : Nat × (Nat → Int32)) (M : gl_N) (Q : Option Value → gl_N → Prop) (x1 : Int32)
  (h : (17 ≤ x1 → Q (some (.int (M 42 12))) M) ∧ (¬ 17 ≤ x1 → (vp_in ((17 * (M 42 12)) + x1) 170 ∧ vp_in x1 17) ∧ (gv l sc m_X11_undo 27 [.ref 42, .int (x1 + 1)] [] (gl_u2 M 48 (Int32.toNatClampNeg x1) (M 49 (Int32.toNatClampNeg ((17 * (M 42 12)) + x1)))) Q))) : gv l sc m_X11_undo 27 [.ref 42, .int x1] [] M Q := by
  refine gv_seg ok_X11_undo 16 2 (Ps := []) (pc' := 30) (ls' := [.ref 42, .int x1]) (st' := [.int 17, .int x1]) (M2 := M) rfl trivial ?_
  refine gv_icmp_ge (t := 59) (by decide) (gl_dec ok_X11_undo 18 30 (.if_icmp .ge 29) 3 rfl) (fun c => ?_) (fun c => ?_)
  · replace h := h.1 c
    refine gv_seg ok_X11_undo 34 2 (Ps := []) (pc' := 63) (ls' := [.ref 42, .int x1]) (st' := [.int (M 42 12)]) (M2 := M) rfl trivial ?_
    exact gv_retI (gl_dec ok_X11_undo 36 63 (.ireturn) 1 rfl) rfl h
  · replace h := h.2 c
    obtain ⟨hp, h⟩ := h
    refine gv_seg ok_X11_undo 19 14 (Ps := [vp_in ((17 * (M 42 12)) + x1) 170, vp_in x1 17]) (pc' := 56) (ls' := [.ref 42, .int (x1 + 1)]) (st' := []) (M2 := (gl_u2 M 48 (Int32.toNatClampNeg x1) (M 49 (Int32.toNatClampNeg ((17 * (M 42 12)) + x1))))) rfl ⟨hp.1, hp.2⟩ ?_
    refine gv_goto (t := 27) (by decide) (gl_dec ok_X11_undo 33 56 (.goto (-29)) 3 rfl) ?_
    exact h
set_option maxHeartbeats 400000 in
set_option maxRecDepth 20000 in
theorem w_X11_note_0 (l : Launch) (sc : Nat × (Nat → Int32)) (M : gl_N) (Q : Option Value → gl_N → Prop) (x1 : Int32)
  (h : gr l sc m_X11_isNote [.ref 42, .int x1] (gl_u2 M 42 0 0) (fun r1 M2 => ∃ v3 : Int32, r1 = some (.int v3) ∧ ((v3 = 0 → Q (some (.int (-1))) M2) ∧ (¬ v3 = 0 → (vp_in (1 + x1) 17) ∧ (Q (some (.int (M2 48 (Int32.toNatClampNeg (1 + x1))))) M2))))) : gv l sc m_X11_note 0 [.ref 42, .int x1] [] M Q := by
  refine gv_seg ok_X11_note 0 5 (Ps := []) (pc' := 7) (ls' := [.ref 42, .int x1]) (st' := [.int x1, .ref 42]) (M2 := (gl_u2 M 42 0 0)) rfl trivial ?_
  refine gv_vcall (M' := m_X11_isNote) (o := 42) (ci := 11) (As := [.int x1]) (st := []) (gl_dec ok_X11_note 5 7 (.invokevirtual 179) 3 rfl) (gl_lnk ok_X11_note 5 rfl rfl) mw_X11_isNote iw_X11_isNote lw_X11_isNote ⟨by decide, by decide⟩ rfl rfl rfl ⟨rfl, Nat.le_of_ble_eq_true rfl⟩ h (fun r1 M2 hq => ?_)
  obtain ⟨v3, rfl, h⟩ := hq
  change gv l sc m_X11_note 10 [.ref 42, .int x1] [.int v3] M2 Q
  refine gv_if_eq (t := 24) (by decide) (gl_dec ok_X11_note 6 10 (.ifCond .eq 14) 3 rfl) (fun c => ?_) (fun c => ?_)
  · replace h := h.1 c
    refine gv_seg ok_X11_note 14 1 (Ps := []) (pc' := 25) (ls' := [.ref 42, .int x1]) (st' := [.int (-1)]) (M2 := M2) rfl trivial ?_
    exact gv_retI (gl_dec ok_X11_note 15 25 (.ireturn) 1 rfl) rfl h
  · replace h := h.2 c
    obtain ⟨hp, h⟩ := h
    refine gv_seg ok_X11_note 7 6 (Ps := [vp_in (1 + x1) 17]) (pc' := 21) (ls' := [.ref 42, .int x1]) (st' := [.int (M2 48 (Int32.toNatClampNeg (1 + x1)))]) (M2 := M2) rfl hp ?_
    refine gv_goto (t := 25) (by decide) (gl_dec ok_X11_note 13 21 (.goto 4) 3 rfl) ?_
    exact gv_retI (gl_dec ok_X11_note 15 25 (.ireturn) 1 rfl) rfl h
theorem e_X11_note (l : Launch) (sc : Nat × (Nat → Int32)) (M : gl_N) (Q : Option Value → gl_N → Prop) (x1 : Int32)
  (h : gr l sc m_X11_isNote [.ref 42, .int x1] (gl_u2 M 42 0 0) (fun r1 M2 => ∃ v3 : Int32, r1 = some (.int v3) ∧ ((v3 = 0 → Q (some (.int (-1))) M2) ∧ (¬ v3 = 0 → (vp_in (1 + x1) 17) ∧ (Q (some (.int (M2 48 (Int32.toNatClampNeg (1 + x1))))) M2))))) : gr l sc m_X11_note [.ref 42, .int x1] M Q :=
  gr_of (by decide +kernel) (Nat.le_of_ble_eq_true rfl) (List.forall_mem_cons.mpr ⟨rfl, (List.forall_mem_cons.mpr ⟨rfl, (fun _ h => absurd h List.not_mem_nil)⟩)⟩) (w_X11_note_0 l sc M Q x1 h)
set_option maxHeartbeats 400000 in
set_option maxRecDepth 20000 in
theorem w_X11_sees_0 (l : Launch) (sc : Nat × (Nat → Int32)) (M : gl_N) (Q : Option Value → gl_N → Prop) (x1 x2 : Int32)
  (h : gr l sc m_X11_in [.int x1, .int 0, .int 120] (gl_u2 M 42 0 0) (fun r1 M2 => ∃ v3 : Int32, r1 = some (.int v3) ∧ ((v3 = 0 → Q (some (.int (-1))) M2) ∧ (¬ v3 = 0 → gr l sc m_X11_in [.int x2, .int 0, .int 1] M2 (fun r4 M5 => ∃ v6 : Int32, r4 = some (.int v6) ∧ ((¬ v6 = 0 → (¬ (M5 42 15) = 8 → (vp_in (M5 42 15) 8 ∧ vp_in (M5 42 15) 8) ∧ (Q (some (.int ((M5 42 15) + 1))) (gl_u2 (gl_u2 (gl_u2 M5 52 (Int32.toNatClampNeg (M5 42 15)) x1) 53 (Int32.toNatClampNeg (M5 42 15)) x2) 42 15 ((M5 42 15) + 1)))) ∧ ((M5 42 15) = 8 → Q (some (.int (-3))) M5)) ∧ (v6 = 0 → Q (some (.int (-1))) M5))))))) : gv l sc m_X11_sees 0 [.ref 42, .int x1, .int x2] [] M Q := by
  refine gv_seg ok_X11_sees 0 6 (Ps := []) (pc' := 9) (ls' := [.ref 42, .int x1, .int x2]) (st' := [.int 120, .int 0, .int x1]) (M2 := (gl_u2 M 42 0 0)) rfl trivial ?_
  refine gv_scall (M' := m_X11_in) (As := [.int x1, .int 0, .int 120]) (st := []) (gl_dec ok_X11_sees 6 9 (.invokestatic 69) 3 rfl) (gl_lnkS ok_X11_sees 6 rfl rfl) mw_X11_in sw_X11_in ⟨by decide, by decide⟩ ⟨rfl, Nat.le_of_ble_eq_true rfl⟩ h (fun r1 M2 hq => ?_)
  obtain ⟨v3, rfl, h⟩ := hq
  change gv l sc m_X11_sees 12 [.ref 42, .int x1, .int x2] [.int v3] M2 Q
  refine gv_if_eq (t := 24) (by decide) (gl_dec ok_X11_sees 7 12 (.ifCond .eq 12) 3 rfl) (fun c => ?_) (fun c => ?_)
  · replace h := h.1 c
    refine gv_seg ok_X11_sees 13 1 (Ps := []) (pc' := 25) (ls' := [.ref 42, .int x1, .int x2]) (st' := [.int (-1)]) (M2 := M2) rfl trivial ?_
    exact gv_retI (gl_dec ok_X11_sees 14 25 (.ireturn) 1 rfl) rfl h
  · replace h := h.2 c
    refine gv_seg ok_X11_sees 8 3 (Ps := []) (pc' := 18) (ls' := [.ref 42, .int x1, .int x2]) (st' := [.int 1, .int 0, .int x2]) (M2 := M2) rfl trivial ?_
    refine gv_scall (M' := m_X11_in) (As := [.int x2, .int 0, .int 1]) (st := []) (gl_dec ok_X11_sees 11 18 (.invokestatic 69) 3 rfl) (gl_lnkS ok_X11_sees 11 rfl rfl) mw_X11_in sw_X11_in ⟨by decide, by decide⟩ ⟨rfl, Nat.le_of_ble_eq_true rfl⟩ h (fun r4 M5 hq => ?_)
    obtain ⟨v6, rfl, h⟩ := hq
    change gv l sc m_X11_sees 21 [.ref 42, .int x1, .int x2] [.int v6] M5 Q
    refine gv_if_ne (t := 26) (by decide) (gl_dec ok_X11_sees 12 21 (.ifCond .ne 5) 3 rfl) (fun c => ?_) (fun c => ?_)
    · replace h := h.1 c
      refine gv_seg ok_X11_sees 15 3 (Ps := []) (pc' := 32) (ls' := [.ref 42, .int x1, .int x2]) (st' := [.int 8, .int (M5 42 15)]) (M2 := M5) rfl trivial ?_
      refine gv_icmp_ne (t := 38) (by decide) (gl_dec ok_X11_sees 18 32 (.if_icmp .ne 6) 3 rfl) (fun c => ?_) (fun c => ?_)
      · replace h := h.1 c
        obtain ⟨hp, h⟩ := h
        refine gv_seg ok_X11_sees 21 20 (Ps := [vp_in (M5 42 15) 8, vp_in (M5 42 15) 8]) (pc' := 72) (ls' := [.ref 42, .int x1, .int x2]) (st' := [.int ((M5 42 15) + 1)]) (M2 := (gl_u2 (gl_u2 (gl_u2 M5 52 (Int32.toNatClampNeg (M5 42 15)) x1) 53 (Int32.toNatClampNeg (M5 42 15)) x2) 42 15 ((M5 42 15) + 1))) rfl ⟨hp.1, hp.2⟩ ?_
        exact gv_retI (gl_dec ok_X11_sees 41 72 (.ireturn) 1 rfl) rfl h
      · replace h := h.2 c
        refine gv_seg ok_X11_sees 19 1 (Ps := []) (pc' := 37) (ls' := [.ref 42, .int x1, .int x2]) (st' := [.int (-3)]) (M2 := M5) rfl trivial ?_
        exact gv_retI (gl_dec ok_X11_sees 20 37 (.ireturn) 1 rfl) rfl h
    · replace h := h.2 c
      refine gv_seg ok_X11_sees 13 1 (Ps := []) (pc' := 25) (ls' := [.ref 42, .int x1, .int x2]) (st' := [.int (-1)]) (M2 := M5) rfl trivial ?_
      exact gv_retI (gl_dec ok_X11_sees 14 25 (.ireturn) 1 rfl) rfl h
theorem e_X11_sees (l : Launch) (sc : Nat × (Nat → Int32)) (M : gl_N) (Q : Option Value → gl_N → Prop) (x1 x2 : Int32)
  (h : gr l sc m_X11_in [.int x1, .int 0, .int 120] (gl_u2 M 42 0 0) (fun r1 M2 => ∃ v3 : Int32, r1 = some (.int v3) ∧ ((v3 = 0 → Q (some (.int (-1))) M2) ∧ (¬ v3 = 0 → gr l sc m_X11_in [.int x2, .int 0, .int 1] M2 (fun r4 M5 => ∃ v6 : Int32, r4 = some (.int v6) ∧ ((¬ v6 = 0 → (¬ (M5 42 15) = 8 → (vp_in (M5 42 15) 8 ∧ vp_in (M5 42 15) 8) ∧ (Q (some (.int ((M5 42 15) + 1))) (gl_u2 (gl_u2 (gl_u2 M5 52 (Int32.toNatClampNeg (M5 42 15)) x1) 53 (Int32.toNatClampNeg (M5 42 15)) x2) 42 15 ((M5 42 15) + 1)))) ∧ ((M5 42 15) = 8 → Q (some (.int (-3))) M5)) ∧ (v6 = 0 → Q (some (.int (-1))) M5))))))) : gr l sc m_X11_sees [.ref 42, .int x1, .int x2] M Q :=
  gr_of (by decide +kernel) (Nat.le_of_ble_eq_true rfl) (List.forall_mem_cons.mpr ⟨rfl, (List.forall_mem_cons.mpr ⟨rfl, (List.forall_mem_cons.mpr ⟨rfl, (fun _ h => absurd h List.not_mem_nil)⟩)⟩)⟩) (w_X11_sees_0 l sc M Q x1 x2 h)
set_option maxHeartbeats 400000 in
set_option maxRecDepth 20000 in
theorem w_X11_forget_0 (l : Launch) (sc : Nat × (Nat → Int32)) (M : gl_N) (Q : Option Value → gl_N → Prop)
  (h : Q (some (.int (M 42 15))) (gl_u2 (gl_u2 M 42 0 0) 42 15 0)) : gv l sc m_X11_forget 0 [.ref 42, .float 0] [] M Q := by
  refine gv_seg ok_X11_forget 0 10 (Ps := []) (pc' := 16) (ls' := [.ref 42, .int (M 42 15)]) (st' := [.int (M 42 15)]) (M2 := (gl_u2 (gl_u2 M 42 0 0) 42 15 0)) rfl trivial ?_
  exact gv_retI (gl_dec ok_X11_forget 10 16 (.ireturn) 1 rfl) rfl h
theorem e_X11_forget (l : Launch) (sc : Nat × (Nat → Int32)) (M : gl_N) (Q : Option Value → gl_N → Prop)
  (h : Q (some (.int (M 42 15))) (gl_u2 (gl_u2 M 42 0 0) 42 15 0)) : gr l sc m_X11_forget [.ref 42] M Q :=
  gr_of (by decide +kernel) (Nat.le_of_ble_eq_true rfl) (List.forall_mem_cons.mpr ⟨rfl, (fun _ h => absurd h List.not_mem_nil)⟩) (w_X11_forget_0 l sc M Q h)
set_option maxHeartbeats 400000 in
set_option maxRecDepth 20000 in
theorem w_X11_unseen_0 (l : Launch) (sc : Nat × (Nat → Int32)) (M : gl_N) (Q : Option Value → gl_N → Prop)
  (h : gv l sc m_X11_unseen 9 [.ref 42, .int 0, .int 0, .float 0, .float 0] [] (gl_u2 M 42 0 0) Q) : gv l sc m_X11_unseen 0 [.ref 42, .float 0, .float 0, .float 0, .float 0] [] M Q := by
  refine gv_seg ok_X11_unseen 0 7 (Ps := []) (pc' := 9) (ls' := [.ref 42, .int 0, .int 0, .float 0, .float 0]) (st' := []) (M2 := (gl_u2 M 42 0 0)) rfl trivial ?_
  exact h
theorem e_X11_unseen (l : Launch) (sc : Nat × (Nat → Int32)) (M : gl_N) (Q : Option Value → gl_N → Prop)
  (h : gv l sc m_X11_unseen 9 [.ref 42, .int 0, .int 0, .float 0, .float 0] [] (gl_u2 M 42 0 0) Q) : gr l sc m_X11_unseen [.ref 42] M Q :=
  gr_of (by decide +kernel) (Nat.le_of_ble_eq_true rfl) (List.forall_mem_cons.mpr ⟨rfl, (fun _ h => absurd h List.not_mem_nil)⟩) (w_X11_unseen_0 l sc M Q h)
set_option maxHeartbeats 400000 in
set_option maxRecDepth 20000 in
theorem w_X11_unseen_9 (l : Launch) (sc : Nat × (Nat → Int32)) (M : gl_N) (Q : Option Value → gl_N → Prop) (x1 x2 : Int32)
  (h : ((24 * (M 42 2)) ≤ x2 → Q (some (.int x1)) M) ∧ (¬ (24 * (M 42 2)) ≤ x2 → gv l sc m_X11_unseen 25 [.ref 42, .int x1, .int x2, .int 1, .int 0] [] M Q)) : gv l sc m_X11_unseen 9 [.ref 42, .int x1, .int x2, .float 0, .float 0] [] M Q := by
  refine gv_seg ok_X11_unseen 7 5 (Ps := []) (pc' := 17) (ls' := [.ref 42, .int x1, .int x2, .float 0, .float 0]) (st' := [.int (24 * (M 42 2)), .int x2]) (M2 := M) rfl trivial ?_
  refine gv_icmp_ge (t := 112) (by decide) (gl_dec ok_X11_unseen 12 17 (.if_icmp .ge 95) 3 rfl) (fun c => ?_) (fun c => ?_)
  · replace h := h.1 c
    refine gv_seg ok_X11_unseen 64 1 (Ps := []) (pc' := 113) (ls' := [.ref 42, .int x1, .int x2, .float 0, .float 0]) (st' := [.int x1]) (M2 := M) rfl trivial ?_
    exact gv_retI (gl_dec ok_X11_unseen 65 113 (.ireturn) 1 rfl) rfl h
  · replace h := h.2 c
    refine gv_seg ok_X11_unseen 13 4 (Ps := []) (pc' := 25) (ls' := [.ref 42, .int x1, .int x2, .int 1, .int 0]) (st' := []) (M2 := M) rfl trivial ?_
    exact h
set_option maxHeartbeats 400000 in
set_option maxRecDepth 20000 in
theorem w_X11_unseen_25 (l : Launch) (sc : Nat × (Nat → Int32)) (M : gl_N) (Q : Option Value → gl_N → Prop) (x1 x2 x3 x4 : Int32)
  (h : ((M 42 15) ≤ x4 → (x3 = 0 → gv l sc m_X11_unseen 9 [.ref 42, .int (x1 ||| 0), .int (x2 + 1), .float 0, .float 0] [] M Q) ∧ (¬ x3 = 0 → gv l sc m_X11_unseen 9 [.ref 42, .int (x1 ||| (1 <<< ((x2 / 24) &&& 31))), .int (x2 + 1), .float 0, .float 0] [] M Q)) ∧ (¬ (M 42 15) ≤ x4 → (x3 = 0 → (x3 = 0 → gv l sc m_X11_unseen 9 [.ref 42, .int (x1 ||| 0), .int (x2 + 1), .float 0, .float 0] [] M Q) ∧ (¬ x3 = 0 → gv l sc m_X11_unseen 9 [.ref 42, .int (x1 ||| (1 <<< ((x2 / 24) &&& 31))), .int (x2 + 1), .float 0, .float 0] [] M Q)) ∧ (¬ x3 = 0 → (vp_in x4 8) ∧ (gr l sc m_X11_manyHave [.ref 42, .int x2, .int (M 52 (Int32.toNatClampNeg x4))] M (fun r1 M2 => ∃ v3 : Int32, r1 = some (.int v3) ∧ ((v3 ≤ 0 → (vp_in x4 8) ∧ ((¬ (M2 53 (Int32.toNatClampNeg x4)) = 1 → gv l sc m_X11_unseen 25 [.ref 42, .int x1, .int x2, .int 1, .int (x4 + 1)] [] M2 Q) ∧ ((M2 53 (Int32.toNatClampNeg x4)) = 1 → gv l sc m_X11_unseen 25 [.ref 42, .int x1, .int x2, .int 0, .int (x4 + 1)] [] M2 Q))) ∧ (¬ v3 ≤ 0 → (vp_in x4 8) ∧ ((¬ (M2 53 (Int32.toNatClampNeg x4)) = 1 → gv l sc m_X11_unseen 25 [.ref 42, .int x1, .int x2, .int 0, .int (x4 + 1)] [] M2 Q) ∧ ((M2 53 (Int32.toNatClampNeg x4)) = 1 → gv l sc m_X11_unseen 25 [.ref 42, .int x1, .int x2, .int 1, .int (x4 + 1)] [] M2 Q))))))))) : gv l sc m_X11_unseen 25 [.ref 42, .int x1, .int x2, .int x3, .int x4] [] M Q := by
  refine gv_seg ok_X11_unseen 17 3 (Ps := []) (pc' := 31) (ls' := [.ref 42, .int x1, .int x2, .int x3, .int x4]) (st' := [.int (M 42 15), .int x4]) (M2 := M) rfl trivial ?_
  refine gv_icmp_ge (t := 89) (by decide) (gl_dec ok_X11_unseen 20 31 (.if_icmp .ge 58) 3 rfl) (fun c => ?_) (fun c => ?_)
  · replace h := h.1 c
    refine gv_seg ok_X11_unseen 50 2 (Ps := []) (pc' := 91) (ls' := [.ref 42, .int x1, .int x2, .int x3, .int x4]) (st' := [.int x3, .int x1]) (M2 := M) rfl trivial ?_
    refine gv_if_eq (t := 103) (by decide) (gl_dec ok_X11_unseen 52 91 (.ifCond .eq 12) 3 rfl) (fun c => ?_) (fun c => ?_)
    · replace h := h.1 c
      refine gv_seg ok_X11_unseen 59 4 (Ps := []) (pc' := 109) (ls' := [.ref 42, .int (x1 ||| 0), .int (x2 + 1), .int x3, .int x4]) (st' := []) (M2 := M) rfl trivial ?_
      refine gv_goto (t := 9) (by decide) (gl_dec ok_X11_unseen 63 109 (.goto (-100)) 3 rfl) ?_
      exact gv_weak (ls' := [.ref 42, .int (x1 ||| 0), .int (x2 + 1), .float 0, .float 0]) ⟨Or.inl rfl, ⟨Or.inl rfl, ⟨Or.inl rfl, ⟨Or.inr rfl, ⟨Or.inr rfl, trivial⟩⟩⟩⟩⟩ h
    · replace h := h.2 c
      refine gv_seg ok_X11_unseen 53 5 (Ps := [¬ (24 : Int32) = 0]) (pc' := 100) (ls' := [.ref 42, .int x1, .int x2, .int x3, .int x4]) (st' := [.int (1 <<< ((x2 / 24) &&& 31)), .int x1]) (M2 := M) rfl (show ¬ (24 : Int32) = 0 by decide) ?_
      refine gv_goto (t := 104) (by decide) (gl_dec ok_X11_unseen 58 100 (.goto 4) 3 rfl) ?_
      refine gv_seg ok_X11_unseen 60 3 (Ps := []) (pc' := 109) (ls' := [.ref 42, .int (x1 ||| (1 <<< ((x2 / 24) &&& 31))), .int (x2 + 1), .int x3, .int x4]) (st' := []) (M2 := M) rfl trivial ?_
      refine gv_goto (t := 9) (by decide) (gl_dec ok_X11_unseen 63 109 (.goto (-100)) 3 rfl) ?_
      exact gv_weak (ls' := [.ref 42, .int (x1 ||| (1 <<< ((x2 / 24) &&& 31))), .int (x2 + 1), .float 0, .float 0]) ⟨Or.inl rfl, ⟨Or.inl rfl, ⟨Or.inl rfl, ⟨Or.inr rfl, ⟨Or.inr rfl, trivial⟩⟩⟩⟩⟩ h
  · replace h := h.2 c
    refine gv_seg ok_X11_unseen 21 1 (Ps := []) (pc' := 35) (ls' := [.ref 42, .int x1, .int x2, .int x3, .int x4]) (st' := [.int x3]) (M2 := M) rfl trivial ?_
    refine gv_if_eq (t := 89) (by decide) (gl_dec ok_X11_unseen 22 35 (.ifCond .eq 54) 3 rfl) (fun c => ?_) (fun c => ?_)
    · replace h := h.1 c
      refine gv_seg ok_X11_unseen 50 2 (Ps := []) (pc' := 91) (ls' := [.ref 42, .int x1, .int x2, .int x3, .int x4]) (st' := [.int x3, .int x1]) (M2 := M) rfl trivial ?_
      refine gv_if_eq (t := 103) (by decide) (gl_dec ok_X11_unseen 52 91 (.ifCond .eq 12) 3 rfl) (fun c => ?_) (fun c => ?_)
      · replace h := h.1 c
        refine gv_seg ok_X11_unseen 59 4 (Ps := []) (pc' := 109) (ls' := [.ref 42, .int (x1 ||| 0), .int (x2 + 1), .int x3, .int x4]) (st' := []) (M2 := M) rfl trivial ?_
        refine gv_goto (t := 9) (by decide) (gl_dec ok_X11_unseen 63 109 (.goto (-100)) 3 rfl) ?_
        exact gv_weak (ls' := [.ref 42, .int (x1 ||| 0), .int (x2 + 1), .float 0, .float 0]) ⟨Or.inl rfl, ⟨Or.inl rfl, ⟨Or.inl rfl, ⟨Or.inr rfl, ⟨Or.inr rfl, trivial⟩⟩⟩⟩⟩ h
      · replace h := h.2 c
        refine gv_seg ok_X11_unseen 53 5 (Ps := [¬ (24 : Int32) = 0]) (pc' := 100) (ls' := [.ref 42, .int x1, .int x2, .int x3, .int x4]) (st' := [.int (1 <<< ((x2 / 24) &&& 31)), .int x1]) (M2 := M) rfl (show ¬ (24 : Int32) = 0 by decide) ?_
        refine gv_goto (t := 104) (by decide) (gl_dec ok_X11_unseen 58 100 (.goto 4) 3 rfl) ?_
        refine gv_seg ok_X11_unseen 60 3 (Ps := []) (pc' := 109) (ls' := [.ref 42, .int (x1 ||| (1 <<< ((x2 / 24) &&& 31))), .int (x2 + 1), .int x3, .int x4]) (st' := []) (M2 := M) rfl trivial ?_
        refine gv_goto (t := 9) (by decide) (gl_dec ok_X11_unseen 63 109 (.goto (-100)) 3 rfl) ?_
        exact gv_weak (ls' := [.ref 42, .int (x1 ||| (1 <<< ((x2 / 24) &&& 31))), .int (x2 + 1), .float 0, .float 0]) ⟨Or.inl rfl, ⟨Or.inl rfl, ⟨Or.inl rfl, ⟨Or.inr rfl, ⟨Or.inr rfl, trivial⟩⟩⟩⟩⟩ h
    · replace h := h.2 c
      obtain ⟨hp, h⟩ := h
      refine gv_seg ok_X11_unseen 23 6 (Ps := [vp_in x4 8]) (pc' := 47) (ls' := [.ref 42, .int x1, .int x2, .int x3, .int x4]) (st' := [.int (M 52 (Int32.toNatClampNeg x4)), .int x2, .ref 42]) (M2 := M) rfl hp ?_
      refine gv_vcall (M' := m_X11_manyHave) (o := 42) (ci := 11) (As := [.int x2, .int (M 52 (Int32.toNatClampNeg x4))]) (st := []) (gl_dec ok_X11_unseen 29 47 (.invokevirtual 145) 3 rfl) (gl_lnk ok_X11_unseen 29 rfl rfl) mw_X11_manyHave iw_X11_manyHave lw_X11_manyHave ⟨by decide, by decide⟩ rfl rfl rfl ⟨rfl, Nat.le_of_ble_eq_true rfl⟩ h (fun r1 M2 hq => ?_)
      obtain ⟨v3, rfl, h⟩ := hq
      change gv l sc m_X11_unseen 50 [.ref 42, .int x1, .int x2, .int x3, .int x4] [.int v3] M2 Q
      refine gv_if_le (t := 57) (by decide) (gl_dec ok_X11_unseen 30 50 (.ifCond .le 7) 3 rfl) (fun c => ?_) (fun c => ?_)
      · replace h := h.1 c
        obtain ⟨hp, h⟩ := h
        refine gv_seg ok_X11_unseen 33 6 (Ps := [vp_in x4 8]) (pc' := 66) (ls' := [.ref 42, .int x1, .int x2, .int x3, .int x4]) (st' := [.int 1, .int (M2 53 (Int32.toNatClampNeg x4)), .int 0]) (M2 := M2) rfl hp ?_
        refine gv_icmp_ne (t := 73) (by decide) (gl_dec ok_X11_unseen 39 66 (.if_icmp .ne 7) 3 rfl) (fun c => ?_) (fun c => ?_)
        · replace h := h.1 c
          refine gv_seg ok_X11_unseen 42 1 (Ps := []) (pc' := 74) (ls' := [.ref 42, .int x1, .int x2, .int x3, .int x4]) (st' := [.int 0, .int 0]) (M2 := M2) rfl trivial ?_
          refine gv_icmp_ne (t := 81) (by decide) (gl_dec ok_X11_unseen 43 74 (.if_icmp .ne 7) 3 rfl) (fun c => absurd c (by decide)) (fun _ => ?_)
          refine gv_seg ok_X11_unseen 44 1 (Ps := []) (pc' := 78) (ls' := [.ref 42, .int x1, .int x2, .int x3, .int x4]) (st' := [.int 1]) (M2 := M2) rfl trivial ?_
          refine gv_goto (t := 82) (by decide) (gl_dec ok_X11_unseen 45 78 (.goto 4) 3 rfl) ?_
          refine gv_seg ok_X11_unseen 47 2 (Ps := []) (pc' := 86) (ls' := [.ref 42, .int x1, .int x2, .int 1, .int (x4 + 1)]) (st' := []) (M2 := M2) rfl trivial ?_
          refine gv_goto (t := 25) (by decide) (gl_dec ok_X11_unseen 49 86 (.goto (-61)) 3 rfl) ?_
          exact h
        · replace h := h.2 c
          refine gv_seg ok_X11_unseen 40 1 (Ps := []) (pc' := 70) (ls' := [.ref 42, .int x1, .int x2, .int x3, .int x4]) (st' := [.int 1, .int 0]) (M2 := M2) rfl trivial ?_
          refine gv_goto (t := 74) (by decide) (gl_dec ok_X11_unseen 41 70 (.goto 4) 3 rfl) ?_
          refine gv_icmp_ne (t := 81) (by decide) (gl_dec ok_X11_unseen 43 74 (.if_icmp .ne 7) 3 rfl) (fun _ => ?_) (fun c => absurd c (by decide))
          refine gv_seg ok_X11_unseen 46 3 (Ps := []) (pc' := 86) (ls' := [.ref 42, .int x1, .int x2, .int 0, .int (x4 + 1)]) (st' := []) (M2 := M2) rfl trivial ?_
          refine gv_goto (t := 25) (by decide) (gl_dec ok_X11_unseen 49 86 (.goto (-61)) 3 rfl) ?_
          exact h
      · replace h := h.2 c
        refine gv_seg ok_X11_unseen 31 1 (Ps := []) (pc' := 54) (ls' := [.ref 42, .int x1, .int x2, .int x3, .int x4]) (st' := [.int 1]) (M2 := M2) rfl trivial ?_
        refine gv_goto (t := 58) (by decide) (gl_dec ok_X11_unseen 32 54 (.goto 4) 3 rfl) ?_
        obtain ⟨hp, h⟩ := h
        refine gv_seg ok_X11_unseen 34 5 (Ps := [vp_in x4 8]) (pc' := 66) (ls' := [.ref 42, .int x1, .int x2, .int x3, .int x4]) (st' := [.int 1, .int (M2 53 (Int32.toNatClampNeg x4)), .int 1]) (M2 := M2) rfl hp ?_
        refine gv_icmp_ne (t := 73) (by decide) (gl_dec ok_X11_unseen 39 66 (.if_icmp .ne 7) 3 rfl) (fun c => ?_) (fun c => ?_)
        · replace h := h.1 c
          refine gv_seg ok_X11_unseen 42 1 (Ps := []) (pc' := 74) (ls' := [.ref 42, .int x1, .int x2, .int x3, .int x4]) (st' := [.int 0, .int 1]) (M2 := M2) rfl trivial ?_
          refine gv_icmp_ne (t := 81) (by decide) (gl_dec ok_X11_unseen 43 74 (.if_icmp .ne 7) 3 rfl) (fun _ => ?_) (fun c => absurd c (by decide))
          refine gv_seg ok_X11_unseen 46 3 (Ps := []) (pc' := 86) (ls' := [.ref 42, .int x1, .int x2, .int 0, .int (x4 + 1)]) (st' := []) (M2 := M2) rfl trivial ?_
          refine gv_goto (t := 25) (by decide) (gl_dec ok_X11_unseen 49 86 (.goto (-61)) 3 rfl) ?_
          exact h
        · replace h := h.2 c
          refine gv_seg ok_X11_unseen 40 1 (Ps := []) (pc' := 70) (ls' := [.ref 42, .int x1, .int x2, .int x3, .int x4]) (st' := [.int 1, .int 1]) (M2 := M2) rfl trivial ?_
          refine gv_goto (t := 74) (by decide) (gl_dec ok_X11_unseen 41 70 (.goto 4) 3 rfl) ?_
          refine gv_icmp_ne (t := 81) (by decide) (gl_dec ok_X11_unseen 43 74 (.if_icmp .ne 7) 3 rfl) (fun c => absurd c (by decide)) (fun _ => ?_)
          refine gv_seg ok_X11_unseen 44 1 (Ps := []) (pc' := 78) (ls' := [.ref 42, .int x1, .int x2, .int x3, .int x4]) (st' := [.int 1]) (M2 := M2) rfl trivial ?_
          refine gv_goto (t := 82) (by decide) (gl_dec ok_X11_unseen 45 78 (.goto 4) 3 rfl) ?_
          refine gv_seg ok_X11_unseen 47 2 (Ps := []) (pc' := 86) (ls' := [.ref 42, .int x1, .int x2, .int 1, .int (x4 + 1)]) (st' := []) (M2 := M2) rfl trivial ?_
          refine gv_goto (t := 25) (by decide) (gl_dec ok_X11_unseen 49 86 (.goto (-61)) 3 rfl) ?_
          exact h
set_option maxHeartbeats 400000 in
set_option maxRecDepth 20000 in
theorem w_X11_keep_0 (l : Launch) (sc : Nat × (Nat → Int32)) (M : gl_N) (Q : Option Value → gl_N → Prop) (x1 : Int32)
  (h : gr l sc m_X11_in [.int x1, .int 0, .int 1] (gl_u2 M 42 0 0) (fun r1 M2 => ∃ v3 : Int32, r1 = some (.int v3) ∧ ((¬ v3 = 0 → gv l sc m_X11_keep 18 [.ref 42, .int x1, .int 0] [] M2 Q) ∧ (v3 = 0 → Q (some (.int (-1))) M2)))) : gv l sc m_X11_keep 0 [.ref 42, .int x1, .float 0] [] M Q := by
  refine gv_seg ok_X11_keep 0 6 (Ps := []) (pc' := 8) (ls' := [.ref 42, .int x1, .float 0]) (st' := [.int 1, .int 0, .int x1]) (M2 := (gl_u2 M 42 0 0)) rfl trivial ?_
  refine gv_scall (M' := m_X11_in) (As := [.int x1, .int 0, .int 1]) (st := []) (gl_dec ok_X11_keep 6 8 (.invokestatic 69) 3 rfl) (gl_lnkS ok_X11_keep 6 rfl rfl) mw_X11_in sw_X11_in ⟨by decide, by decide⟩ ⟨rfl, Nat.le_of_ble_eq_true rfl⟩ h (fun r1 M2 hq => ?_)
  obtain ⟨v3, rfl, h⟩ := hq
  change gv l sc m_X11_keep 11 [.ref 42, .int x1, .float 0] [.int v3] M2 Q
  refine gv_if_ne (t := 16) (by decide) (gl_dec ok_X11_keep 7 11 (.ifCond .ne 5) 3 rfl) (fun c => ?_) (fun c => ?_)
  · replace h := h.1 c
    refine gv_seg ok_X11_keep 10 2 (Ps := []) (pc' := 18) (ls' := [.ref 42, .int x1, .int 0]) (st' := []) (M2 := M2) rfl trivial ?_
    exact h
  · replace h := h.2 c
    refine gv_seg ok_X11_keep 8 1 (Ps := []) (pc' := 15) (ls' := [.ref 42, .int x1, .float 0]) (st' := [.int (-1)]) (M2 := M2) rfl trivial ?_
    exact gv_retI (gl_dec ok_X11_keep 9 15 (.ireturn) 1 rfl) rfl h
theorem e_X11_keep (l : Launch) (sc : Nat × (Nat → Int32)) (M : gl_N) (Q : Option Value → gl_N → Prop) (x1 : Int32)
  (h : gr l sc m_X11_in [.int x1, .int 0, .int 1] (gl_u2 M 42 0 0) (fun r1 M2 => ∃ v3 : Int32, r1 = some (.int v3) ∧ ((¬ v3 = 0 → gv l sc m_X11_keep 18 [.ref 42, .int x1, .int 0] [] M2 Q) ∧ (v3 = 0 → Q (some (.int (-1))) M2)))) : gr l sc m_X11_keep [.ref 42, .int x1] M Q :=
  gr_of (by decide +kernel) (Nat.le_of_ble_eq_true rfl) (List.forall_mem_cons.mpr ⟨rfl, (List.forall_mem_cons.mpr ⟨rfl, (fun _ h => absurd h List.not_mem_nil)⟩)⟩) (w_X11_keep_0 l sc M Q x1 h)
set_option maxHeartbeats 400000 in
set_option maxRecDepth 20000 in
theorem w_X11_keep_18 (l : Launch) (sc : Nat × (Nat → Int32)) (M : gl_N) (Q : Option Value → gl_N → Prop) (x1 x2 : Int32)
  (h : (17 ≤ x2 → (vp_in x1 2) ∧ (Q (some (.int (M 48 0))) (gl_u2 M 51 (Int32.toNatClampNeg x1) (vp_nar .boolean 1)))) ∧ (¬ 17 ≤ x2 → (vp_in x2 17 ∧ vp_in ((17 * x1) + x2) 34) ∧ (gv l sc m_X11_keep 18 [.ref 42, .int x1, .int (x2 + 1)] [] (gl_u2 M 50 (Int32.toNatClampNeg ((17 * x1) + x2)) (M 48 (Int32.toNatClampNeg x2))) Q))) : gv l sc m_X11_keep 18 [.ref 42, .int x1, .int x2] [] M Q := by
  refine gv_seg ok_X11_keep 12 2 (Ps := []) (pc' := 21) (ls' := [.ref 42, .int x1, .int x2]) (st' := [.int 17, .int x2]) (M2 := M) rfl trivial ?_
  refine gv_icmp_ge (t := 47) (by decide) (gl_dec ok_X11_keep 14 21 (.if_icmp .ge 26) 3 rfl) (fun c => ?_) (fun c => ?_)
  · replace h := h.1 c
    obtain ⟨hp, h⟩ := h
    refine gv_seg ok_X11_keep 29 9 (Ps := [vp_in x1 2, vp_in 0 17]) (pc' := 60) (ls' := [.ref 42, .int x1, .int x2]) (st' := [.int (M 48 0)]) (M2 := (gl_u2 M 51 (Int32.toNatClampNeg x1) (vp_nar .boolean 1))) rfl ⟨hp, (show vp_in 0 17 by unfold vp_in; decide)⟩ ?_
    exact gv_retI (gl_dec ok_X11_keep 38 60 (.ireturn) 1 rfl) rfl h
  · replace h := h.2 c
    obtain ⟨hp, h⟩ := h
    refine gv_seg ok_X11_keep 15 13 (Ps := [vp_in x2 17, vp_in ((17 * x1) + x2) 34]) (pc' := 44) (ls' := [.ref 42, .int x1, .int (x2 + 1)]) (st' := []) (M2 := (gl_u2 M 50 (Int32.toNatClampNeg ((17 * x1) + x2)) (M 48 (Int32.toNatClampNeg x2)))) rfl ⟨hp.1, hp.2⟩ ?_
    refine gv_goto (t := 18) (by decide) (gl_dec ok_X11_keep 28 44 (.goto (-26)) 3 rfl) ?_
    exact h
set_option maxHeartbeats 400000 in
set_option maxRecDepth 20000 in
theorem w_X11_back_0 (l : Launch) (sc : Nat × (Nat → Int32)) (M : gl_N) (Q : Option Value → gl_N → Prop) (x1 : Int32)
  (h : gr l sc m_X11_in [.int x1, .int 0, .int 1] (gl_u2 M 42 0 0) (fun r1 M2 => ∃ v3 : Int32, r1 = some (.int v3) ∧ ((¬ v3 = 0 → (vp_in x1 2) ∧ ((¬ (M2 51 (Int32.toNatClampNeg x1)) = 0 → gv l sc m_X11_back 30 [.ref 42, .int x1, .int 0] [] M2 Q) ∧ ((M2 51 (Int32.toNatClampNeg x1)) = 0 → Q (some (.int (-2))) M2))) ∧ (v3 = 0 → Q (some (.int (-1))) M2)))) : gv l sc m_X11_back 0 [.ref 42, .int x1, .float 0] [] M Q := by
  refine gv_seg ok_X11_back 0 6 (Ps := []) (pc' := 8) (ls' := [.ref 42, .int x1, .float 0]) (st' := [.int 1, .int 0, .int x1]) (M2 := (gl_u2 M 42 0 0)) rfl trivial ?_
  refine gv_scall (M' := m_X11_in) (As := [.int x1, .int 0, .int 1]) (st := []) (gl_dec ok_X11_back 6 8 (.invokestatic 69) 3 rfl) (gl_lnkS ok_X11_back 6 rfl rfl) mw_X11_in sw_X11_in ⟨by decide, by decide⟩ ⟨rfl, Nat.le_of_ble_eq_true rfl⟩ h (fun r1 M2 hq => ?_)
  obtain ⟨v3, rfl, h⟩ := hq
  change gv l sc m_X11_back 11 [.ref 42, .int x1, .float 0] [.int v3] M2 Q
  refine gv_if_ne (t := 16) (by decide) (gl_dec ok_X11_back 7 11 (.ifCond .ne 5) 3 rfl) (fun c => ?_) (fun c => ?_)
  · replace h := h.1 c
    obtain ⟨hp, h⟩ := h
    refine gv_seg ok_X11_back 10 4 (Ps := [vp_in x1 2]) (pc' := 22) (ls' := [.ref 42, .int x1, .float 0]) (st' := [.int (M2 51 (Int32.toNatClampNeg x1))]) (M2 := M2) rfl hp ?_
    refine gv_if_ne (t := 28) (by decide) (gl_dec ok_X11_back 14 22 (.ifCond .ne 6) 3 rfl) (fun c => ?_) (fun c => ?_)
    · replace h := h.1 c
      refine gv_seg ok_X11_back 17 2 (Ps := []) (pc' := 30) (ls' := [.ref 42, .int x1, .int 0]) (st' := []) (M2 := M2) rfl trivial ?_
      exact h
    · replace h := h.2 c
      refine gv_seg ok_X11_back 15 1 (Ps := []) (pc' := 27) (ls' := [.ref 42, .int x1, .float 0]) (st' := [.int (-2)]) (M2 := M2) rfl trivial ?_
      exact gv_retI (gl_dec ok_X11_back 16 27 (.ireturn) 1 rfl) rfl h
  · replace h := h.2 c
    refine gv_seg ok_X11_back 8 1 (Ps := []) (pc' := 15) (ls' := [.ref 42, .int x1, .float 0]) (st' := [.int (-1)]) (M2 := M2) rfl trivial ?_
    exact gv_retI (gl_dec ok_X11_back 9 15 (.ireturn) 1 rfl) rfl h
theorem e_X11_back (l : Launch) (sc : Nat × (Nat → Int32)) (M : gl_N) (Q : Option Value → gl_N → Prop) (x1 : Int32)
  (h : gr l sc m_X11_in [.int x1, .int 0, .int 1] (gl_u2 M 42 0 0) (fun r1 M2 => ∃ v3 : Int32, r1 = some (.int v3) ∧ ((¬ v3 = 0 → (vp_in x1 2) ∧ ((¬ (M2 51 (Int32.toNatClampNeg x1)) = 0 → gv l sc m_X11_back 30 [.ref 42, .int x1, .int 0] [] M2 Q) ∧ ((M2 51 (Int32.toNatClampNeg x1)) = 0 → Q (some (.int (-2))) M2))) ∧ (v3 = 0 → Q (some (.int (-1))) M2)))) : gr l sc m_X11_back [.ref 42, .int x1] M Q :=
  gr_of (by decide +kernel) (Nat.le_of_ble_eq_true rfl) (List.forall_mem_cons.mpr ⟨rfl, (List.forall_mem_cons.mpr ⟨rfl, (fun _ h => absurd h List.not_mem_nil)⟩)⟩) (w_X11_back_0 l sc M Q x1 h)
set_option maxHeartbeats 400000 in
set_option maxRecDepth 20000 in
theorem w_X11_back_30 (l : Launch) (sc : Nat × (Nat → Int32)) (M : gl_N) (Q : Option Value → gl_N → Prop) (x1 x2 : Int32)
  (h : (17 ≤ x2 → Q (some (.int (M 48 0))) (gl_u2 M 42 12 0)) ∧ (¬ 17 ≤ x2 → (vp_in ((17 * x1) + x2) 34 ∧ vp_in x2 17) ∧ (gv l sc m_X11_back 30 [.ref 42, .int x1, .int (x2 + 1)] [] (gl_u2 M 48 (Int32.toNatClampNeg x2) (M 50 (Int32.toNatClampNeg ((17 * x1) + x2)))) Q))) : gv l sc m_X11_back 30 [.ref 42, .int x1, .int x2] [] M Q := by
  refine gv_seg ok_X11_back 19 2 (Ps := []) (pc' := 33) (ls' := [.ref 42, .int x1, .int x2]) (st' := [.int 17, .int x2]) (M2 := M) rfl trivial ?_
  refine gv_icmp_ge (t := 59) (by decide) (gl_dec ok_X11_back 21 33 (.if_icmp .ge 26) 3 rfl) (fun c => ?_) (fun c => ?_)
  · replace h := h.1 c
    refine gv_seg ok_X11_back 36 7 (Ps := [vp_in 0 17]) (pc' := 70) (ls' := [.ref 42, .int x1, .int x2]) (st' := [.int (M 48 0)]) (M2 := (gl_u2 M 42 12 0)) rfl (show vp_in 0 17 by unfold vp_in; decide) ?_
    exact gv_retI (gl_dec ok_X11_back 43 70 (.ireturn) 1 rfl) rfl h
  · replace h := h.2 c
    obtain ⟨hp, h⟩ := h
    refine gv_seg ok_X11_back 22 13 (Ps := [vp_in ((17 * x1) + x2) 34, vp_in x2 17]) (pc' := 56) (ls' := [.ref 42, .int x1, .int (x2 + 1)]) (st' := []) (M2 := (gl_u2 M 48 (Int32.toNatClampNeg x2) (M 50 (Int32.toNatClampNeg ((17 * x1) + x2))))) rfl ⟨hp.1, hp.2⟩ ?_
    refine gv_goto (t := 30) (by decide) (gl_dec ok_X11_back 35 56 (.goto (-26)) 3 rfl) ?_
    exact h
set_option maxHeartbeats 400000 in
set_option maxRecDepth 20000 in
theorem w_X11_count_0 (l : Launch) (sc : Nat × (Nat → Int32)) (M : gl_N) (Q : Option Value → gl_N → Prop) (x1 : Int32)
  (h : (x1 = 0 → Q (some (.int (M 42 1))) (gl_u2 M 42 0 0)) ∧ (x1 = 1 → Q (some (.int (M 42 2))) (gl_u2 M 42 0 0)) ∧ (x1 = 2 → Q (some (.int (M 48 0))) (gl_u2 M 42 0 0)) ∧ (x1 = 3 → Q (some (.int (M 42 15))) (gl_u2 M 42 0 0)) ∧ (x1 = 4 → Q (some (.int (M 42 18))) (gl_u2 M 42 0 0)) ∧ (x1 = 5 → Q (some (.int (M 42 12))) (gl_u2 M 42 0 0)) ∧ (¬ x1 = 0 → ¬ x1 = 1 → ¬ x1 = 2 → ¬ x1 = 3 → ¬ x1 = 4 → ¬ x1 = 5 → Q (some (.int (-1))) (gl_u2 M 42 0 0))) : gv l sc m_X11_count 0 [.ref 42, .int x1] [] M Q := by
  refine gv_seg ok_X11_count 0 4 (Ps := []) (pc' := 6) (ls' := [.ref 42, .int x1]) (st' := [.int x1]) (M2 := (gl_u2 M 42 0 0)) rfl trivial ?_
  have hd : decode m_X11_count.2.1 6 = .ok (.tableswitch 70 0 5 #[38, 43, 48, 55, 60, 65], 38) := by decide +kernel
  by_cases c0 : x1 = 0
  · replace h := h.1 c0
    refine gv_table hd (by rw [c0]; decide) (by rw [c0]; decide) (off := 38) (t := 44) (by rw [c0]; rfl) (by decide) ?_
    refine gv_seg ok_X11_count 4 2 (Ps := []) (pc' := 48) (ls' := [.ref 42, .int x1]) (st' := [.int (M 42 1)]) (M2 := (gl_u2 M 42 0 0)) rfl trivial ?_
    exact gv_retI (gl_dec ok_X11_count 6 48 (.ireturn) 1 rfl) rfl h
  by_cases c1 : x1 = 1
  · replace h := h.2.1 c1
    refine gv_table hd (by rw [c1]; decide) (by rw [c1]; decide) (off := 43) (t := 49) (by rw [c1]; rfl) (by decide) ?_
    refine gv_seg ok_X11_count 7 2 (Ps := []) (pc' := 53) (ls' := [.ref 42, .int x1]) (st' := [.int (M 42 2)]) (M2 := (gl_u2 M 42 0 0)) rfl trivial ?_
    exact gv_retI (gl_dec ok_X11_count 9 53 (.ireturn) 1 rfl) rfl h
  by_cases c2 : x1 = 2
  · replace h := h.2.2.1 c2
    refine gv_table hd (by rw [c2]; decide) (by rw [c2]; decide) (off := 48) (t := 54) (by rw [c2]; rfl) (by decide) ?_
    refine gv_seg ok_X11_count 10 4 (Ps := [vp_in 0 17]) (pc' := 60) (ls' := [.ref 42, .int x1]) (st' := [.int (M 48 0)]) (M2 := (gl_u2 M 42 0 0)) rfl (show vp_in 0 17 by unfold vp_in; decide) ?_
    exact gv_retI (gl_dec ok_X11_count 14 60 (.ireturn) 1 rfl) rfl h
  by_cases c3 : x1 = 3
  · replace h := h.2.2.2.1 c3
    refine gv_table hd (by rw [c3]; decide) (by rw [c3]; decide) (off := 55) (t := 61) (by rw [c3]; rfl) (by decide) ?_
    refine gv_seg ok_X11_count 15 2 (Ps := []) (pc' := 65) (ls' := [.ref 42, .int x1]) (st' := [.int (M 42 15)]) (M2 := (gl_u2 M 42 0 0)) rfl trivial ?_
    exact gv_retI (gl_dec ok_X11_count 17 65 (.ireturn) 1 rfl) rfl h
  by_cases c4 : x1 = 4
  · replace h := h.2.2.2.2.1 c4
    refine gv_table hd (by rw [c4]; decide) (by rw [c4]; decide) (off := 60) (t := 66) (by rw [c4]; rfl) (by decide) ?_
    refine gv_seg ok_X11_count 18 2 (Ps := []) (pc' := 70) (ls' := [.ref 42, .int x1]) (st' := [.int (M 42 18)]) (M2 := (gl_u2 M 42 0 0)) rfl trivial ?_
    exact gv_retI (gl_dec ok_X11_count 20 70 (.ireturn) 1 rfl) rfl h
  by_cases c5 : x1 = 5
  · replace h := h.2.2.2.2.2.1 c5
    refine gv_table hd (by rw [c5]; decide) (by rw [c5]; decide) (off := 65) (t := 71) (by rw [c5]; rfl) (by decide) ?_
    refine gv_seg ok_X11_count 21 2 (Ps := []) (pc' := 75) (ls' := [.ref 42, .int x1]) (st' := [.int (M 42 12)]) (M2 := (gl_u2 M 42 0 0)) rfl trivial ?_
    exact gv_retI (gl_dec ok_X11_count 23 75 (.ireturn) 1 rfl) rfl h
  replace h := h.2.2.2.2.2.2 c0 c1 c2 c3 c4 c5
  refine gv_tableD hd (gl_swout 6 (by decide) (by intro i hi; rcases (show i = 0 ∨ i = 1 ∨ i = 2 ∨ i = 3 ∨ i = 4 ∨ i = 5 by omega) with rfl | rfl | rfl | rfl | rfl | rfl <;> assumption)) (t := 76) (by decide) ?_
  refine gv_seg ok_X11_count 24 1 (Ps := []) (pc' := 77) (ls' := [.ref 42, .int x1]) (st' := [.int (-1)]) (M2 := (gl_u2 M 42 0 0)) rfl trivial ?_
  exact gv_retI (gl_dec ok_X11_count 25 77 (.ireturn) 1 rfl) rfl h
theorem e_X11_count (l : Launch) (sc : Nat × (Nat → Int32)) (M : gl_N) (Q : Option Value → gl_N → Prop) (x1 : Int32)
  (h : (x1 = 0 → Q (some (.int (M 42 1))) (gl_u2 M 42 0 0)) ∧ (x1 = 1 → Q (some (.int (M 42 2))) (gl_u2 M 42 0 0)) ∧ (x1 = 2 → Q (some (.int (M 48 0))) (gl_u2 M 42 0 0)) ∧ (x1 = 3 → Q (some (.int (M 42 15))) (gl_u2 M 42 0 0)) ∧ (x1 = 4 → Q (some (.int (M 42 18))) (gl_u2 M 42 0 0)) ∧ (x1 = 5 → Q (some (.int (M 42 12))) (gl_u2 M 42 0 0)) ∧ (¬ x1 = 0 → ¬ x1 = 1 → ¬ x1 = 2 → ¬ x1 = 3 → ¬ x1 = 4 → ¬ x1 = 5 → Q (some (.int (-1))) (gl_u2 M 42 0 0))) : gr l sc m_X11_count [.ref 42, .int x1] M Q :=
  gr_of (by decide +kernel) (Nat.le_of_ble_eq_true rfl) (List.forall_mem_cons.mpr ⟨rfl, (List.forall_mem_cons.mpr ⟨rfl, (fun _ h => absurd h List.not_mem_nil)⟩)⟩) (w_X11_count_0 l sc M Q x1 h)

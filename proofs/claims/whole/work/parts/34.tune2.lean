section SP6
variable {WY : sp_WY} {PR : sp_PR} {l : Launch} {sc : Nat × (Nat → Int32)} {Q : Option Value → gl_N → Prop}
theorem s_cuts : sp_S WY PR l sc m_X10_cuts m_X11_cuts [] := by
  rintro ch M hch hI
  obtain ⟨h1, ⟨n, hn, ha, hc, hj⟩, ⟨v, p, hk, hpc, hpr⟩, -⟩ := id hI
  refine e_X10_cuts l sc M _ ⟨fun hlt => ?_, fun hlt => ?_⟩
  · have hn' : 0 < n := by rw [ha] at hlt; exact (sp_lt (n := 0) (by omega) (by omega)).mp hlt
    refine r_remC hk hpc ha hn (fun M1 f1 g1 => ⟨rfl, ?_⟩)
    have e20 : M1 20 = M 20 := f1 20 (by decide) (by decide) (by decide)
    have e21 : M1 21 = M 21 := f1 21 (by decide) (by decide) (by decide)
    have e42 : M1 42 = M 42 := f1 42 (by decide) (by decide) (by decide)
    have e48 : M1 48 = M 48 := f1 48 (by decide) (by decide) (by decide)
    have e49 : M1 49 = M 49 := f1 49 (by decide) (by decide) (by decide)
    have d1 : M1 20 1 - 1 = nI (n - 1) := by rw [e20, ha]; exact sp_sub1 hn'
    refine e_X8_removeLast l sc M1 _ ?_
    rw [d1, sp_cl (by omega)]
    refine ⟨sp_vp (by omega) (by omega), _, rfl, _, rfl, ?_⟩
    refine e_X11_cuts l sc _ _ ⟨fun hne => ?_, fun he => ?_⟩
    · refine r_remR (v := v) (p := p) (n := n) (b := M 21) hk ?_ ?_ ?_ hn (fun M3 f3 g3 q3 => ⟨rfl, ?_⟩)
      · show sp_pr (M1 42 12) (M1 49) v p
        rw [e42, e49]; exact hpr
      · show M1 48 0 = nI n
        rw [e48]; exact hc
      · show ∀ j, j < n → M1 48 (1 + j) = M 21 j
        rw [e48]; exact fun j hj' => (hj j hj').1
      have k48 : M3 48 = M 48 := (f3 48 (by decide) (by decide)).trans e48
      have d0 : M3 48 0 - 1 = nI (n - 1) := by rw [k48, hc]; exact sp_sub1 hn'
      have k20 : M3 20 = upd (upd (M 20) 1 (nI (n - 1))) 2 (M 20 2 + 1) := by
        rw [f3 20 (by decide) (by decide)]
        show upd (upd (M1 20) 1 (nI (n - 1))) 2 (M1 20 2 + 1) = _
        rw [e20]
      have k21 : M3 21 = M 21 := (f3 21 (by decide) (by decide)).trans e21
      have e1 : (1 : Int32) + nI (n - 1) = nI n := by rw [show (1 : Int32) = nI 1 from rfl, nI_add]; congr 1; omega
      rw [d0, e1, sp_cl (by omega)]
      refine ⟨sp_vp (by omega) (by omega), ?_, sp_I_tc hch hI (fun a a1 a2 a3 a4 a5 a6 a7 a8 => ?_) (fun j j1 j2 => ?_) ?_ ⟨n - 1, by omega, ?_, ?_, ?_⟩ ⟨_, _, sp_pp_ok hk hn (fun j hj' => (hj j hj').2), ?_, ?_⟩⟩
      · show some (Value.int (if n = 0 then nI (n - 1) else M3 48 n)) = some (Value.int (M1 21 (n - 1)))
        rw [if_neg (by omega), k48, e21, ← (hj (n - 1) (by omega)).1]
        congr 3
        omega
      · show (if a = 48 then _ else M3 a) = M a
        rw [if_neg a7, f3 a a6 a8]
        show (if a = 42 then _ else if a = 20 then _ else if a = 20 then _ else M1 a) = M a
        rw [if_neg a6, if_neg a1, if_neg a1]
        exact f1 a a3 a4 a5
      · show M3 42 j = M 42 j
        rw [g3 j j2]
        show (if j = 0 then _ else M1 42 j) = M 42 j
        rw [if_neg j1, e42]
      · show M3 20 2 = M 20 2 + 1
        rw [k20]; rfl
      · show M3 20 1 = nI (n - 1)
        rw [k20]; rfl
      · rfl
      · show ∀ j, j < n - 1 → (if 1 + j = 0 then nI (n - 1) else M3 48 (1 + j)) = M3 21 j ∧ sp_nt (M3 21 j)
        rw [k21, k48]
        intro j hj'
        rw [if_neg (by omega)]
        exact hj j (by omega)
      · show sp_pc (M3 22 1) (M3 22 2) (M3 24) (M3 25) _ _
        rw [f3 22 (by decide) (by decide), f3 24 (by decide) (by decide), f3 25 (by decide) (by decide)]
        exact g1
      · exact q3
    · exfalso
      have he : M1 48 0 = nI 0 := he
      rw [e48, hc] at he
      exact absurd ((sp_eq (by omega) (by omega)).mp he) (by omega)
  · have hn' : n = 0 := by
      rw [ha] at hlt
      have := mt (sp_lt (n := 0) (N := n) (by omega) (by omega)).mpr hlt
      omega
    refine ⟨_, rfl, e_X11_cuts l sc _ _ ⟨fun hne => absurd ?_ hne, fun he => ⟨rfl, sp_I_0 hI⟩⟩⟩
    show M 48 0 = nI 0
    rw [hc, hn']
theorem s_mends (x y : Int32) : sp_S WY PR l sc m_X10_mends m_X11_mends [.int x, .int y] := by
  rintro ch M hch hI
  obtain ⟨h1, ⟨n, hn, ha, hc, hj⟩, ⟨v, p, hk, hpc, hpr⟩, -⟩ := id hI
  refine e_X10_mends l sc M _ x y ?_
  refine r_isPlace hn ha (fun k hk' e => ⟨1, rfl, fun h => absurd h (by decide), fun _ => ?_⟩) (fun hno => ⟨0, rfl, fun _ => ?_, fun h => absurd rfl h⟩)
  · subst e
    have e1 : (1 : Int32) + nI k = nI (1 + k) := nI_add 1 k
    refine r_within (fun c1 c2 => ⟨1, rfl, fun _ => ⟨sp_vp (by omega) (by omega), fun hne => ?_, fun he => ?_⟩, fun h => absurd h (by decide)⟩) (fun c => ⟨0, rfl, fun h => absurd rfl h, fun _ => ?_⟩)
    · rw [sp_cl (by omega)] at hne
      refine r_remC hk hpc ha hn (fun M1 f1 g1 => ⟨rfl, ?_⟩)
      have e20 : M1 20 = M 20 := f1 20 (by decide) (by decide) (by decide)
      have e21 : M1 21 = M 21 := f1 21 (by decide) (by decide) (by decide)
      have e42 : M1 42 = M 42 := f1 42 (by decide) (by decide) (by decide)
      have e48 : M1 48 = M 48 := f1 48 (by decide) (by decide) (by decide)
      have e49 : M1 49 = M 49 := f1 49 (by decide) (by decide) (by decide)
      refine e_X8_replace l sc M1 _ _ y ?_
      rw [sp_cl (by omega)]
      refine ⟨⟨sp_vp (by omega) (by omega), sp_vp (by omega) (by omega)⟩, _, rfl, _, rfl, ?_⟩
      refine e_X11_mends l sc _ _ _ y ?_
      refine r_isNote (n := n) hn ?_ (fun k' hk2 e' => ⟨1, rfl, fun h => absurd h (by decide), fun _ => ?_⟩) (fun hno => absurd rfl (hno k hk'))
      · show M1 48 0 = nI n
        rw [e48]; exact hc
      refine r_in (fun _ _ => ⟨1, rfl, fun _ => ?_, fun h => absurd h (by decide)⟩) (fun c => absurd ⟨c1, c2⟩ c)
      rw [e1, sp_cl (by omega)]
      refine ⟨sp_vp (by omega) (by omega), fun hne2 => ?_, fun he2 => ?_⟩
      · refine r_remR (v := v) (p := p) (n := n) (b := M 21) hk ?_ ?_ ?_ hn (fun M3 f3 g3 q3 => ⟨rfl, ?_⟩)
        · show sp_pr (M1 42 12) (M1 49) v p
          rw [e42, e49]; exact hpr
        · show M1 48 0 = nI n
          rw [e48]; exact hc
        · show ∀ j, j < n → M1 48 (1 + j) = M 21 j
          rw [e48]; exact fun j hj' => (hj j hj').1
        have k48 : M3 48 = M 48 := (f3 48 (by decide) (by decide)).trans e48
        have k20 : M3 20 = upd (M 20) 2 (M 20 2 + 1) := by
          rw [f3 20 (by decide) (by decide)]
          show upd (M1 20) 2 (M1 20 2 + 1) = _
          rw [e20]
        have k21 : M3 21 = upd (M 21) k y := by
          rw [f3 21 (by decide) (by decide)]
          show upd (M1 21) k y = _
          rw [e21]
        refine ⟨sp_vp (by omega) (by omega), ?_, sp_I_tc hch hI (fun a a1 a2 a3 a4 a5 a6 a7 a8 => ?_) (fun j j1 j2 => ?_) ?_ ⟨n, hn, ?_, ?_, ?_⟩ ⟨_, _, sp_pp_ok hk hn (fun j hj' => (hj j hj').2), ?_, ?_⟩⟩
        · show some (Value.int (M1 48 (1 + k))) = some (Value.int (M1 21 k))
          rw [e48, e21, (hj k hk').1]
        · show (if a = 48 then _ else M3 a) = M a
          rw [if_neg a7, f3 a a6 a8]
          show (if a = 42 then _ else if a = 20 then _ else if a = 21 then _ else M1 a) = M a
          rw [if_neg a6, if_neg a1, if_neg a2]
          exact f1 a a3 a4 a5
        · show M3 42 j = M 42 j
          rw [g3 j j2]
          show (if j = 0 then _ else M1 42 j) = M 42 j
          rw [if_neg j1, e42]
        · show M3 20 2 = M 20 2 + 1
          rw [k20]; rfl
        · show M3 20 1 = nI n
          rw [k20]; exact ha
        · show (if 0 = 1 + k then y else M3 48 0) = nI n
          rw [if_neg (by omega), k48]; exact hc
        · show ∀ j, j < n → (if 1 + j = 1 + k then y else M3 48 (1 + j)) = M3 21 j ∧ sp_nt (M3 21 j)
          rw [k21, k48]
          intro j hj'
          simp only [upd]
          by_cases e : j = k
          · rw [if_pos (by omega), if_pos e]; exact ⟨rfl, c1, c2⟩
          · rw [if_neg (by omega), if_neg e]; exact hj j hj'
        · show sp_pc (M3 22 1) (M3 22 2) (M3 24) (M3 25) _ _
          rw [f3 22 (by decide) (by decide), f3 24 (by decide) (by decide), f3 25 (by decide) (by decide)]
          exact g1
        · exact q3
      · exfalso
        have he2 : M1 48 (1 + k) = y := he2
        rw [e48, (hj k hk').1] at he2
        exact hne he2
    · rw [sp_cl (by omega)] at he
      refine ⟨_, rfl, e_X11_mends l sc _ _ _ y ?_⟩
      refine r_isNote (M := gl_u2 M 42 0 0) (n := n) hn hc (fun k' hk2 e' => ⟨1, rfl, fun h => absurd h (by decide), fun _ => ?_⟩) (fun hno => absurd rfl (hno k hk'))
      refine r_in (fun _ _ => ⟨1, rfl, fun _ => ?_, fun h => absurd h (by decide)⟩) (fun c => absurd ⟨c1, c2⟩ c)
      rw [e1, sp_cl (by omega)]
      refine ⟨sp_vp (by omega) (by omega), fun hne2 => absurd ?_ hne2, fun he2 => ⟨rfl, sp_I_0 hI⟩⟩
      show M 48 (1 + k) = y
      rw [(hj k hk').1]; exact he
    · refine ⟨_, rfl, e_X11_mends l sc _ _ _ y ?_⟩
      refine r_isNote (M := gl_u2 M 42 0 0) (n := n) hn hc (fun k' hk2 e' => ⟨1, rfl, fun h => absurd h (by decide), fun _ => ?_⟩) (fun hno => absurd rfl (hno k hk'))
      exact r_in (fun c1 c2 => absurd ⟨c1, c2⟩ c) (fun c => ⟨0, rfl, fun h => absurd rfl h, fun _ => ⟨rfl, sp_I_0 hI⟩⟩)
  · refine ⟨_, rfl, e_X11_mends l sc _ _ _ y ?_⟩
    exact r_isNote (M := gl_u2 M 42 0 0) (n := n) hn hc (fun k' hk2 e' => absurd e' (hno k' hk2)) (fun _ => ⟨0, rfl, fun _ => ⟨rfl, sp_I_0 hI⟩, fun h => absurd rfl h⟩)
theorem s_undo : sp_S WY PR l sc m_X10_undo m_X11_undo [] := by
  rintro ch M hch hI
  obtain ⟨h1, ⟨n, hn, ha, hc, hj⟩, ⟨v, p, hk, ⟨o, ho, eo, eu, hs⟩, eu', hpa⟩, -⟩ := id hI
  have hv := hk.1
  refine e_X10_undo l sc M _ ⟨fun hlt => ?_, fun hlt => ?_⟩
  · have hv' : 0 < v := by rw [eu] at hlt; exact (sp_lt (n := 0) (by omega) (by omega)).mp hlt
    obtain ⟨w, rfl⟩ : ∃ w, v = w + 1 := ⟨v - 1, by omega⟩
    have d1 : M 22 2 - 1 = nI w := by rw [eu]; exact nI_pred w
    obtain ⟨q1, q2⟩ := hs w (by omega)
    obtain ⟨q3, q4⟩ := hpa w (by omega)
    obtain ⟨q5, q6⟩ := hk.2 w (by omega)
    refine e_X2_restore l sc M _ ?_
    have e1 : M 22 1 + (M 22 2 - 1) = nI (o + w) := by rw [d1, eo, nI_add]
    have e3 : nI (o + w) - nI (o + w) / 10 * 10 = nI ((o + w) % 10) := pk_rem (d := 10) (by omega) (by omega) (by omega)
    rw [e1, e3, d1]
    refine e_X6_giveTo_p l sc _ _ _ ?_
    have em : nI ((o + w) % 10) * 16 = nI ((o + w) % 10 * 16) := sp_mul _ 16
    rw [em, sp_cl (n := (o + w) % 10) (by omega), sp_cl (n := (o + w) % 10 * 16) (by omega)]
    have c1 : (gl_u2 M 22 2 (nI w)) 24 ((o + w) % 10) = nI (p w).1 := q1
    rw [c1, sp_cl (n := (p w).1) (by omega)]
    refine ⟨⟨sp_vp (by omega) (by omega), nI_pos (by omega), nI_pos (by omega), by omega, by omega⟩, rfl, rfl, _, rfl, ?_⟩
    refine e_X11_undo l sc _ _ ⟨fun hne => ?_, fun he => ?_⟩
    · refine r_undo_loop (u := w) (by omega) 17 0 _ (by show M 42 12 - 1 = nI w; rw [eu']; exact nI_pred w) rfl ⟨rfl, ?_⟩
      refine sp_I_tc hch hI (fun a a1 a2 a3 a4 a5 a6 a7 a8 => ?_) (fun j j1 j2 => ?_) rfl ⟨(p w).1, q5, rfl, ?_, ?_⟩ ⟨w, p, ⟨by omega, fun i hi => hk.2 i (by omega)⟩, ⟨o, ho, eo, rfl, fun i hi => hs i (by omega)⟩, by show M 42 12 - 1 = nI w; rw [eu']; exact nI_pred w, fun i hi => hpa i (by omega)⟩
      · simp [sp_cp, gl_u2, gl_u1, a1, a2, a3, a4, a5, a6, a7, a8]
      · show (if j = 12 then _ else if j = 0 then _ else M 42 j) = M 42 j
        rw [if_neg j2, if_neg j1]
      · show (if 0 + 0 ≤ 0 ∧ 0 < 0 + 17 then M 49 (17 * w + (0 - 0)) else M 48 0) = nI (p w).1
        rw [if_pos (by omega)]
        exact q3
      · show ∀ j, j < (p w).1 → (if 0 + 0 ≤ 1 + j ∧ 1 + j < 0 + 17 then M 49 (17 * w + (1 + j - 0)) else M 48 (1 + j)) = va_cpy (M 25) (M 21) ((o + w) % 10 * 16) 0 (p w).1 j ∧ sp_nt (va_cpy (M 25) (M 21) ((o + w) % 10 * 16) 0 (p w).1 j)
        intro j hj'
        have e5 : va_cpy (M 25) (M 21) ((o + w) % 10 * 16) 0 (p w).1 j = (p w).2 j := by
          simp only [va_cpy]
          rw [if_pos (by omega), ← q2 j hj']
          congr 1
          omega
        rw [e5, if_pos (by omega), show 17 * w + (1 + j - 0) = 17 * w + 1 + j by omega]
        exact ⟨q4 j hj', q6 j hj'⟩
    · exfalso
      have he : M 42 12 = nI 0 := he
      rw [eu'] at he
      exact absurd ((sp_eq (by omega) (by omega)).mp he) (by omega)
  · have hv' : v = 0 := by
      rw [eu] at hlt
      have := mt (sp_lt (n := 0) (N := v) (by omega) (by omega)).mpr hlt
      omega
    refine ⟨_, rfl, e_X11_undo l sc _ _ ⟨fun hne => absurd ?_ hne, fun he => ⟨rfl, sp_I_0 hI⟩⟩⟩
    show M 42 12 = nI 0
    rw [eu', hv']
end SP6

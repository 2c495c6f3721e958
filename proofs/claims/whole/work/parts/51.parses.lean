section SP22
variable {WY : sp_WY} {l : Launch} {sc : Nat × (Nat → Int32)} {Q : Option Value → gl_N → Prop} {B : sp_B} {b : Nat → Int32}
/-- only what is kept of the parse has changed -/
theorem sp_I_pr {ch : Nat} {M M4 : gl_N} (hI : sp_Tx (M 1 1) (M 2) (M 42 18) (M 54) ∧ sp_Tn (M 20 1) (M 21) (M 48) ∧ sp_Ps (M 22 1) (M 22 2) (M 24) (M 25) (M 42 12) (M 49) ∧ sp_Im (M 27) (M 28) (M 50) (M 51) ∧ sp_Sn (M 29 2) (M 30) (M 31) (M 42 15) (M 52) (M 53) ∧ sp_Ch ch (M 20 2) (M 35 10)) (hB : sp_Bk WY sp_P M B)
    (ho : ∀ a, a ≠ 35 → a ≠ 36 → a ≠ 37 → a ≠ 38 → a ≠ 40 → a ≠ 41 → a ≠ 42 → a ≠ 57 → a ≠ 58 → M4 a = M a) (h42 : ∀ j, j ≠ 0 → j ≠ 27 → j ≠ 28 → M4 42 j = M 42 j) (hc : M4 35 10 = M 20 2) (hP : sp_P B (M4 20 1) (M4 21) (M4 35 6) (M4 35 7) (M4 35 8) (M4 35 9) (M4 38)) : sp_I WY sp_P (ch + 1) M4 := by
  obtain ⟨h1, h2, h3, h4, h5, h6⟩ := hI
  obtain ⟨b1, b2, b3, b4, -⟩ := hB
  have o : ∀ a, a ∈ [1, 2, 12, 13, 14, 15, 16, 17, 18, 19, 20, 21, 22, 24, 25, 27, 28, 29, 30, 31, 32, 33, 43, 44, 45, 48, 49, 50, 51, 52, 53, 54] → M4 a = M a := fun a ha => by
    apply ho <;> (rintro rfl; revert ha; decide)
  refine ⟨?_, ?_, ?_, ?_, ?_, ?_, B, b1, ?_, ?_, ?_, fun _ => hP⟩
  · rw [o 1 (by decide), o 2 (by decide), h42 18 (by decide) (by decide) (by decide), o 54 (by decide)]; exact h1
  · rw [o 20 (by decide), o 21 (by decide), o 48 (by decide)]; exact h2
  · rw [o 22 (by decide), o 24 (by decide), o 25 (by decide), h42 12 (by decide) (by decide) (by decide), o 49 (by decide)]; exact h3
  · rw [o 27 (by decide), o 28 (by decide), o 50 (by decide), o 51 (by decide)]; exact h4
  · rw [o 29 (by decide), o 30 (by decide), o 31 (by decide), h42 15 (by decide) (by decide) (by decide), o 52 (by decide), o 53 (by decide)]; exact h5
  · rw [o 20 (by decide), hc]
    obtain ⟨c, c1, c2, -⟩ := h6
    exact ⟨c, by omega, c2, Or.inr ⟨c, Nat.le_refl _, c2⟩⟩
  · rw [o 12 (by decide), o 13 (by decide), o 14 (by decide), o 15 (by decide), o 16 (by decide), o 17 (by decide), o 18 (by decide), o 19 (by decide)]; exact b2
  · rw [h42 1 (by decide) (by decide) (by decide), h42 2 (by decide) (by decide) (by decide), o 43 (by decide), o 44 (by decide), o 45 (by decide)]; exact b3
  · rw [o 32 (by decide), o 33 (by decide)]; exact b4
theorem r_lc {M : gl_N} (hR : sp_MR B M) {n : Nat} (hn : n ≤ 16) (ha : M 48 0 = nI n) (hb : ∀ j, j < n → M 48 (1 + j) = b j ∧ sp_nt (b j)) {fd s1 s2 : Int32} {cm : Nat → Int32} (hO : pt_O B b n fd s1 s2 cm)
    (K0 : fd = 0 → ∀ M' L, (∀ a, a ≠ 57 → M' a = M a) → ¬ nI L < 100000 → Q (some (.int (nI L))) M')
    (K1 : fd = 1 → ∀ M' L, (∀ a, a ≠ 57 → M' a = M a) → nI L < 100000 → nI L = s1 * 10 + s2 * 1 → (∀ (Q' : Option Value → gl_N → Prop), (∀ M'', (∀ a, a ≠ 42 → a ≠ 58 → M'' a = M' a) → (∀ i, i ≠ 27 → i ≠ 28 → M'' 42 i = M' 42 i) → M'' 42 27 = s1 → M'' 42 28 = s2 → (∀ k, k < n → M'' 58 k = cm k ∧ ∃ e, cm k = nI e ∧ e < 576) → Q' none M'') → gr l sc m_X11_laysParse [.ref 42, .int (nI L)] M' Q') → Q (some (.int (nI L))) M') : gr l sc m_X11_laysCosts [.ref 42] M Q := by
  have hm6 : sp_nm B ≤ 6 := hR.1.2.2.1
  refine r_laysCosts (b := b) hR hn ha hb (fun M1 L h1 h2 h3 h4 => ?_)
  have hR1 : sp_MR B M1 := hR.mv (by rw [h1 42 (by omega)]) (by rw [h1 42 (by omega)]) (fun a _ _ => h1 a (by omega))
  have ha1 : M1 48 0 = nI n := by rw [h1 48 (by omega)]; exact ha
  rcases hO with ⟨o1, o2, o3, o4⟩ | ⟨o1, o2, c, x, y, o3, o4, o5, o6⟩ | ⟨o1, o2, o3⟩
  · have hL := h2 o2
    subst hL
    refine K1 o1 M1 0 h1 (by decide) (by rw [o3, o4]; rfl) (fun Q' hQ => r_laysParse hR1 hn ha1 (by omega) (fun z => by omega) h4 (fun M2 g1 g2 g3 g4 => hQ M2 g1 g2 ?_ ?_ (fun k hk => by omega)))
    · rw [(g3 o2).1, o3]
    · rw [(g3 o2).2, o4]
  · obtain ⟨h3a, h3b⟩ := h3 o2
    obtain ⟨-, -, v, w, hF, hD, hv⟩ := pt_Y_cost (by omega) o6
    have hw0 : w = 0 := by
      have := hD.1
      rw [show n - 1 - (n - 1) = 0 by omega] at this
      exact this.2
    have hvl := pt_P_le hF.1
    have hLv : L ≤ v := h3b.2 v ⟨_, hF.1⟩
    have hLl : L < 100000 := by omega
    obtain ⟨e, he⟩ := h3b.1 hLl
    have hvL := hF.2.1 e L he
    have eL : L = 10 * x + y := by omega
    refine K1 o1 M1 L h1 ((sp_lt (N := 100000) (by omega) (by omega)).mpr hLl) ?_ (fun Q' hQ => r_laysParse hR1 hn ha1 hLl (fun _ => h3b) h4 (fun M2 g1 g2 g3 g4 => ?_))
    · rw [o3, o4, show (10 : Int32) = nI 10 from rfl, show (1 : Int32) = nI 1 from rfl, sp_mul, sp_mul, nI_add, eL]
      congr 1; omega
    · obtain ⟨c', x', y', q1, q2, q3, q4⟩ := g4 o2
      obtain ⟨u1, u2, u3⟩ := pt_Y_uni q4 o6
      refine hQ M2 g1 g2 (by rw [q1, u2, o3]) (by rw [q2, u3, o4]) (fun k hk => ⟨?_, c k, (o5 k hk).1, ?_⟩)
      · rw [(q3 k hk).1, (o5 k hk).1, u1 k (by omega)]
      · have := (o5 k hk).2.1
        omega
  · obtain ⟨h3a, h3b⟩ := h3 o2
    refine K0 o1 M1 L h1 (fun z => ?_)
    have := (sp_lt (N := 100000) (by omega) (by omega)).mp z
    obtain ⟨e, he⟩ := h3b.1 this
    exact o3 e L he
theorem s_parse (x : Int32) : sp_S WY sp_P l sc m_X10_parse m_X11_parse [.int x] := by
  rintro ch M hch hI
  obtain ⟨i1, ⟨n, hn, ha, hc, hj⟩, i3, i4, i5, i6, B, hB⟩ := id hI
  obtain ⟨hw, hC, hR, hW, hPR⟩ := id hB
  have hI6 := And.intro i1 (And.intro (show sp_Tn (M 20 1) (M 21) (M 48) from ⟨n, hn, ha, hc, hj⟩) (And.intro i3 (And.intro i4 (And.intro i5 i6))))
  have hI0 := sp_I_0 hI
  refine e_X10_parse l sc M _ x ?_
  refine r_within (fun c1 c2 => ⟨1, rfl, fun _ => ?_, fun h => absurd h (by decide)⟩) (fun c => ⟨0, rfl, fun h => absurd rfl h, fun _ => ?_⟩)
  · refine r_refresh (B := B) ⟨hw, hC⟩ hn ha (fun k hk => (hj k hk).2) hPR (fun M1 f1 f2 f3 => ⟨rfl, ?_⟩)
    obtain ⟨n', n1, n2, -, hO⟩ := id f3
    have e20 : M1 20 = M 20 := f1 20 (by omega) (by omega) (by omega) (by omega) (by omega) (by omega)
    have e21 : M1 21 = M 21 := f1 21 (by omega) (by omega) (by omega) (by omega) (by omega) (by omega)
    have e48 : M1 48 = M 48 := f1 48 (by omega) (by omega) (by omega) (by omega) (by omega) (by omega)
    have e42 : M1 42 = M 42 := f1 42 (by omega) (by omega) (by omega) (by omega) (by omega) (by omega)
    have en : n' = n := (sp_eq (by omega) (by omega)).mp (by rw [← n2, e20]; exact ha)
    subst en
    rw [e21] at hO
    have hR1 : sp_MR B (gl_u2 M1 42 0 0) := by
      refine sp_MR.mv (M := M) ⟨hw, hR⟩ ?_ ?_ (fun a a1 a2 => ?_)
      · show M1 42 1 = M 42 1
        rw [e42]
      · show M1 42 2 = M 42 2
        rw [e42]
      · rw [← f1 a (by omega) (by omega) (by omega) (by omega) (by omega) (by omega)]; simp [gl_u2, gl_u1, show a ≠ 42 by omega]
    have ha1 : (gl_u2 M1 42 0 0) 48 0 = nI n' := by show M1 48 0 = nI n'; rw [e48]; exact hc
    have hb1 : ∀ j, j < n' → (gl_u2 M1 42 0 0) 48 (1 + j) = M 21 j ∧ sp_nt (M 21 j) := fun j h => by
      refine ⟨?_, (hj j h).2⟩
      show M1 48 (1 + j) = M 21 j
      rw [e48]; exact (hj j h).1
    have fin : ∀ M4 : gl_N, (∀ a, a ≠ 42 → a ≠ 57 → a ≠ 58 → M4 a = M1 a) → (∀ j, j ≠ 0 → j ≠ 27 → j ≠ 28 → M4 42 j = M1 42 j) → sp_I WY sp_P (ch + 1) M4 := fun M4 g1 g2 => by
      refine sp_I_pr hI6 hB (fun a a1 a2 a3 a4 a5 a6 a7 a8 a9 => ?_) (fun j j1 j2 j3 => ?_) ?_ ?_
      · rw [g1 a a7 a8 a9, f1 a a1 a2 a3 a4 a5 a6]
      · rw [g2 j j1 j2 j3, e42]
      · rw [g1 35 (by omega) (by omega) (by omega)]; exact f2
      · rw [g1 35 (by omega) (by omega) (by omega), g1 20 (by omega) (by omega) (by omega), g1 21 (by omega) (by omega) (by omega), g1 38 (by omega) (by omega) (by omega)]; exact f3
    have hfd : M1 35 6 = 0 ∨ M1 35 6 = 1 := by
      rcases hO with ⟨z, -⟩ | ⟨z, -⟩ | ⟨z, -⟩
      · exact Or.inr z
      · exact Or.inr z
      · exact Or.inl z
    have ref : ∀ v : Int32, (M1 35 6 = 0 → v = -9) → (M1 35 6 = 1 → (x = 0 → v = M1 35 7 * 10 + M1 35 8 * 1) ∧ (¬ x = 0 → x = 1 → v = M1 35 7) ∧ (¬ x = 0 → ¬ x = 1 → v = M1 35 8)) → gr l sc m_X11_parse [.ref 42, .int x] M1 (fun r2 M3 => r2 = some (.int v) ∧ sp_I WY sp_P (ch + 1) M3) := fun v v0 v1 => by
      refine e_X11_parse l sc M1 _ x (r_in (fun _ _ => ⟨1, rfl, fun _ => ?_, fun h => absurd h (by decide)⟩) (fun c => absurd ⟨c1, c2⟩ c))
      refine r_lc hR1 hn ha1 hb1 hO (fun fd0 M2 L g1 g2 => ⟨_, rfl, fun z => absurd z g2, fun _ => ⟨by rw [v0 fd0], ?_⟩⟩) (fun fd1 M2 L g1 g2 g3 g4 => ⟨_, rfl, fun _ => ?_, fun z => absurd g2 z⟩)
      · refine fin M2 (fun a a1 a2 a3 => ?_) (fun j j1 j2 j3 => ?_)
        · rw [g1 a a2]; simp [gl_u2, gl_u1, a1]
        · rw [g1 42 (by omega)]
          show upd (M1 42) 0 0 j = M1 42 j
          simp only [upd]; rw [if_neg j1]
      · obtain ⟨w0, w1, w2⟩ := v1 fd1
        refine g4 _ (fun M3 k1 k2 k3 k4 k5 => ⟨rfl, ?_⟩)
        have hfin : sp_I WY sp_P (ch + 1) M3 := by
          refine fin M3 (fun a a1 a2 a3 => ?_) (fun j j1 j2 j3 => ?_)
          · rw [k1 a a1 a3, g1 a a2]; simp [gl_u2, gl_u1, a1]
          · rw [k2 j j2 j3, g1 42 (by omega)]
            show upd (M1 42) 0 0 j = M1 42 j
            simp only [upd]; rw [if_neg j1]
        refine ⟨fun x0 => ⟨fun x1 => ⟨?_, hfin⟩, fun x1 => ⟨?_, hfin⟩⟩, fun x0 => ⟨?_, hfin⟩⟩
        · rw [k4, w2 x0 x1]
        · rw [k3, w1 x0 x1]
        · rw [g3, w0 x0]
    refine ⟨fun q => ⟨fun x0 => ⟨fun x1 => ⟨_, rfl, ref _ (fun z => absurd z q) (fun _ => ⟨fun z => absurd z x0, fun _ z => absurd z x1, fun _ _ => rfl⟩)⟩, fun x1 => ⟨_, rfl, ref _ (fun z => absurd z q) (fun _ => ⟨fun z => absurd z x0, fun _ _ => rfl, fun _ z => absurd x1 z⟩)⟩⟩, fun x0 => ⟨_, rfl, ref _ (fun z => absurd z q) (fun _ => ⟨fun _ => rfl, fun z => absurd x0 z, fun z => absurd x0 z⟩)⟩⟩, fun q => ⟨_, rfl, ref _ (fun _ => rfl) (fun z => ?_)⟩⟩
    rw [z] at q
    exact absurd q (by decide)
  · refine ⟨_, rfl, e_X11_parse l sc M _ x ?_⟩
    exact r_in (fun c1 c2 => absurd ⟨c1, c2⟩ c) (fun _ => ⟨0, rfl, fun h => absurd rfl h, fun _ => ⟨rfl, hI0⟩⟩)
theorem s_parsed (x w : Int32) : sp_S WY sp_P l sc m_X10_parsed m_X11_parsed [.int x, .int w] := by
  rintro ch M hch hI
  obtain ⟨i1, ⟨n, hn, ha, hc, hj⟩, i3, i4, i5, i6, B, hB⟩ := id hI
  obtain ⟨hw, hC, hR, hW, hPR⟩ := id hB
  have hI6 := And.intro i1 (And.intro (show sp_Tn (M 20 1) (M 21) (M 48) from ⟨n, hn, ha, hc, hj⟩) (And.intro i3 (And.intro i4 (And.intro i5 i6))))
  have hI0 := sp_I_0 hI
  refine e_X10_parsed l sc M _ x w ?_
  refine r_isPlace hn ha (fun k hk ex => ⟨1, rfl, fun h => absurd h (by decide), fun _ => ?_⟩) (fun hno => ⟨0, rfl, fun _ => ?_, fun h => absurd rfl h⟩)
  · subst ex
    refine r_within (fun c1 c2 => ⟨1, rfl, fun _ => ?_, fun h => absurd h (by decide)⟩) (fun c => ⟨0, rfl, fun h => absurd rfl h, fun _ => ?_⟩)
    · refine r_refresh (B := B) ⟨hw, hC⟩ hn ha (fun k hk => (hj k hk).2) hPR (fun M1 f1 f2 f3 => ⟨rfl, ?_⟩)
      obtain ⟨n', n1, n2, -, hO⟩ := id f3
      have e20 : M1 20 = M 20 := f1 20 (by omega) (by omega) (by omega) (by omega) (by omega) (by omega)
      have e21 : M1 21 = M 21 := f1 21 (by omega) (by omega) (by omega) (by omega) (by omega) (by omega)
      have e48 : M1 48 = M 48 := f1 48 (by omega) (by omega) (by omega) (by omega) (by omega) (by omega)
      have e42 : M1 42 = M 42 := f1 42 (by omega) (by omega) (by omega) (by omega) (by omega) (by omega)
      have en : n' = n := (sp_eq (by omega) (by omega)).mp (by rw [← n2, e20]; exact ha)
      subst en
      rw [e21] at hO
      have hR1 : sp_MR B (gl_u2 M1 42 0 0) := by
        refine sp_MR.mv (M := M) ⟨hw, hR⟩ ?_ ?_ (fun a a1 a2 => ?_)
        · show M1 42 1 = M 42 1
          rw [e42]
        · show M1 42 2 = M 42 2
          rw [e42]
        · rw [← f1 a (by omega) (by omega) (by omega) (by omega) (by omega) (by omega)]; simp [gl_u2, gl_u1, show a ≠ 42 by omega]
      have ha1 : (gl_u2 M1 42 0 0) 48 0 = nI n' := by show M1 48 0 = nI n'; rw [e48]; exact hc
      have hb1 : ∀ j, j < n' → (gl_u2 M1 42 0 0) 48 (1 + j) = M 21 j ∧ sp_nt (M 21 j) := fun j h => by
        refine ⟨?_, (hj j h).2⟩
        show M1 48 (1 + j) = M 21 j
        rw [e48]; exact (hj j h).1
      have fin : ∀ M4 : gl_N, (∀ a, a ≠ 42 → a ≠ 57 → a ≠ 58 → M4 a = M1 a) → (∀ j, j ≠ 0 → j ≠ 27 → j ≠ 28 → M4 42 j = M1 42 j) → sp_I WY sp_P (ch + 1) M4 := fun M4 g1 g2 => by
        refine sp_I_pr hI6 hB (fun a a1 a2 a3 a4 a5 a6 a7 a8 a9 => ?_) (fun j j1 j2 j3 => ?_) ?_ ?_
        · rw [g1 a a7 a8 a9, f1 a a1 a2 a3 a4 a5 a6]
        · rw [g2 j j1 j2 j3, e42]
        · rw [g1 35 (by omega) (by omega) (by omega)]; exact f2
        · rw [g1 35 (by omega) (by omega) (by omega), g1 20 (by omega) (by omega) (by omega), g1 21 (by omega) (by omega) (by omega), g1 38 (by omega) (by omega) (by omega)]; exact f3
      have ref : ∀ v : Int32, (M1 35 6 = 0 → v = -9) → (M1 35 6 = 1 → (w = 0 → v = M1 38 k / 4) ∧ (¬ w = 0 → v = M1 38 k - M1 38 k / 4 * 4)) → gr l sc m_X11_parsed [.ref 42, .int (nI k), .int w] M1 (fun r2 M3 => r2 = some (.int v) ∧ sp_I WY sp_P (ch + 1) M3) := fun v v0 v1 => by
        refine e_X11_parsed l sc M1 _ _ w (r_isNote (M := gl_u2 M1 42 0 0) (n := n') hn ha1 (fun k' hk' e' => ⟨1, rfl, fun h => absurd h (by decide), fun _ => ?_⟩) (fun hno => absurd rfl (hno k hk)))
        refine r_in (fun _ _ => ⟨1, rfl, fun _ => ?_, fun h => absurd h (by decide)⟩) (fun c => absurd ⟨c1, c2⟩ c)
        refine r_lc hR1 hn ha1 hb1 hO (fun fd0 M2 L g1 g2 => ⟨_, rfl, fun z => absurd z g2, fun _ => ⟨by rw [v0 fd0], ?_⟩⟩) (fun fd1 M2 L g1 g2 g3 g4 => ⟨_, rfl, fun _ => ?_, fun z => absurd g2 z⟩)
        · refine fin M2 (fun a a1 a2 a3 => ?_) (fun j j1 j2 j3 => ?_)
          · rw [g1 a a2]; simp [gl_u2, gl_u1, a1]
          · rw [g1 42 (by omega)]
            show upd (M1 42) 0 0 j = M1 42 j
            simp only [upd]; rw [if_neg j1]
        · obtain ⟨w0, w1⟩ := v1 fd1
          refine g4 _ (fun M3 k1 k2 k3 k4 k5 => ⟨rfl, ?_⟩)
          have hfin : sp_I WY sp_P (ch + 1) M3 := by
            refine fin M3 (fun a a1 a2 a3 => ?_) (fun j j1 j2 j3 => ?_)
            · rw [k1 a a1 a3, g1 a a2]; simp [gl_u2, gl_u1, a1]
            · rw [k2 j j2 j3, g1 42 (by omega)]
              show upd (M1 42) 0 0 j = M1 42 j
              simp only [upd]; rw [if_neg j1]
          rw [sp_cl (n := k) (by omega), (k5 k hk).1]
          refine ⟨fun x0 => ⟨sp_vp (by omega) (by omega), ?_, hfin⟩, fun x0 => ⟨sp_vp (by omega) (by omega), ?_, hfin⟩⟩
          · rw [w1 x0]
          · rw [w0 x0]
      rw [sp_cl (n := k) (by omega)]
      refine ⟨fun q => ⟨sp_vp (by omega) (by omega), fun x0 => e_X10_partOfSpot l sc M1 _ _ ⟨_, rfl, _, rfl, ref _ (fun z => absurd z q) (fun _ => ⟨fun z => absurd z x0, fun _ => rfl⟩)⟩, fun x0 => e_X10_scaleOfSpot l sc M1 _ _ ⟨_, rfl, _, rfl, ref _ (fun z => absurd z q) (fun _ => ⟨fun _ => rfl, fun z => absurd x0 z⟩)⟩⟩, fun q => ⟨_, rfl, ref _ (fun _ => rfl) (fun z => ?_)⟩⟩
      rw [z] at q
      exact absurd q (by decide)
    · refine ⟨_, rfl, e_X11_parsed l sc M _ _ w ?_⟩
      refine r_isNote (M := gl_u2 M 42 0 0) (n := n) hn hc (fun k' hk' e' => ⟨1, rfl, fun h => absurd h (by decide), fun _ => ?_⟩) (fun hno => absurd rfl (hno k hk))
      exact r_in (fun c1 c2 => absurd ⟨c1, c2⟩ c) (fun _ => ⟨0, rfl, fun h => absurd rfl h, fun _ => ⟨rfl, hI0⟩⟩)
  · refine ⟨_, rfl, e_X11_parsed l sc M _ _ w ?_⟩
    exact r_isNote (M := gl_u2 M 42 0 0) (n := n) hn hc (fun k' hk' e' => absurd e' (hno k' hk')) (fun _ => ⟨0, rfl, fun _ => ⟨rfl, hI0⟩, fun h => absurd rfl h⟩)
theorem s_reach : sp_S WY sp_P l sc m_X10_reach m_X11_reach [] := by
  rintro ch M hch hI
  obtain ⟨i1, ⟨n, hn, ha, hc, hj⟩, i3, i4, i5, i6, B, hB⟩ := id hI
  obtain ⟨hw, hC, hR, hW, hPR⟩ := id hB
  have hI6 := And.intro i1 (And.intro (show sp_Tn (M 20 1) (M 21) (M 48) from ⟨n, hn, ha, hc, hj⟩) (And.intro i3 (And.intro i4 (And.intro i5 i6))))
  refine e_X10_reach l sc M _ ?_
  refine r_refresh (B := B) ⟨hw, hC⟩ hn ha (fun k hk => (hj k hk).2) hPR (fun M1 f1 f2 f3 => ⟨rfl, _, rfl, ?_⟩)
  obtain ⟨n', n1, n2, ⟨r, hr, hZ⟩, -⟩ := id f3
  have e20 : M1 20 = M 20 := f1 20 (by omega) (by omega) (by omega) (by omega) (by omega) (by omega)
  have e21 : M1 21 = M 21 := f1 21 (by omega) (by omega) (by omega) (by omega) (by omega) (by omega)
  have e48 : M1 48 = M 48 := f1 48 (by omega) (by omega) (by omega) (by omega) (by omega) (by omega)
  have e42 : M1 42 = M 42 := f1 42 (by omega) (by omega) (by omega) (by omega) (by omega) (by omega)
  have en : n' = n := (sp_eq (by omega) (by omega)).mp (by rw [← n2, e20]; exact ha)
  subst en
  rw [e21] at hZ
  have h480 : M1 48 0 = nI n' := by rw [e48]; exact hc
  have fin : ∀ M4 : gl_N, (∀ a, a ≠ 42 → a ≠ 57 → a ≠ 48 → M4 a = M1 a) → (∀ j, j ≠ 0 → M4 42 j = M1 42 j) → (∀ j, j ≠ 0 → M4 48 j = M1 48 j) → sp_I WY sp_P (ch + 1) (gl_u2 M4 48 0 (nI n')) := fun M4 g1 g2 g3 => by
    have h48 : (gl_u2 M4 48 0 (nI n')) 48 = M1 48 := by
      funext j
      show (if j = 0 then nI n' else M4 48 j) = M1 48 j
      by_cases z : j = 0
      · rw [if_pos z, z, h480]
      · rw [if_neg z, g3 j z]
    have g1' : ∀ a, a ≠ 42 → a ≠ 57 → (gl_u2 M4 48 0 (nI n')) a = M1 a := fun a a1 a2 => by
      by_cases z : a = 48
      · subst z; exact h48
      · rw [← g1 a a1 a2 z]; simp [gl_u2, gl_u1, z]
    refine sp_I_pr hI6 hB (fun a a1 a2 a3 a4 a5 a6 a7 a8 a9 => ?_) (fun j j1 j2 j3 => ?_) ?_ ?_
    · rw [g1' a a7 a8, f1 a a1 a2 a3 a4 a5 a6]
    · show M4 42 j = M 42 j
      rw [g2 j j1, e42]
    · rw [g1' 35 (by omega) (by omega)]; exact f2
    · rw [g1' 35 (by omega) (by omega), g1' 20 (by omega) (by omega), g1' 21 (by omega) (by omega), g1' 38 (by omega) (by omega)]; exact f3
  have key : ∀ (m : Nat) (M2 : gl_N), m ≤ n' → (∀ a, a ≠ 42 → a ≠ 57 → a ≠ 48 → M2 a = M1 a) → (∀ j, j ≠ 0 → M2 42 j = M1 42 j) → (∀ j, j ≠ 0 → M2 48 j = M1 48 j) → (∀ r', m < r' → r' ≤ n' → ¬ ∃ e w, pt_P B (M 21) (r' - 1) 0 e w) → gv l sc m_X11_reach 14 [.ref 42, .int (nI n'), .int (nI m)] [] M2 (fun r2 M3 => r2 = some (.int (M1 35 9)) ∧ sp_I WY sp_P (ch + 1) M3) := by
    intro m
    induction m with
    | zero =>
      intro M2 hm g1 g2 g3 g4
      refine w_X11_reach_14 l sc M2 _ _ _ ⟨fun _ => ⟨?_, fin M2 g1 g2 g3⟩, fun q => absurd (show nI 0 ≤ nI 0 from Int32.le_refl _) q⟩
      have := pt_Z_uni hZ (r' := 0) ⟨Nat.zero_le _, Or.inl rfl, g4⟩
      rw [hr, this]; rfl
    | succ m ih =>
      intro M2 hm g1 g2 g3 g4
      refine w_X11_reach_14 l sc M2 _ _ _ ⟨fun q => absurd ((sp_le (N := 0) (by omega) (by omega)).mp q) (by omega), fun _ => ?_⟩
      have hR2 : sp_MR B (gl_u2 M2 48 0 (nI (m + 1))) := by
        refine sp_MR.mv (M := M) ⟨hw, hR⟩ ?_ ?_ (fun a a1 a2 => ?_)
        · show M2 42 1 = M 42 1
          rw [g2 1 (by omega), e42]
        · show M2 42 2 = M 42 2
          rw [g2 2 (by omega), e42]
        · rw [← f1 a (by omega) (by omega) (by omega) (by omega) (by omega) (by omega), ← g1 a (by omega) (by omega) (by omega)]; simp [gl_u2, gl_u1, show a ≠ 48 by omega]
      refine r_laysCosts (b := M 21) hR2 (n := m + 1) (by omega) rfl (fun j hj2 => ⟨?_, (hj j (by omega)).2⟩) (fun M3 L k1 k2 k3 k4 => ⟨_, rfl, fun q => ?_, fun q => ?_⟩)
      · show (if 1 + j = 0 then nI (m + 1) else M2 48 (1 + j)) = M 21 j
        rw [if_neg (by omega), g3 _ (by omega), e48]
        exact (hj j (by omega)).1
      · obtain ⟨k3a, k3b⟩ := k3 (by omega)
        have hL : 100000 ≤ L := (sp_le (n := 100000) (by omega) (by omega)).mp q
        rw [show nI (m + 1) + (-1) = nI m by rw [← Int32.sub_eq_add_neg]; exact nI_pred m]
        refine ih M3 (by omega) (fun a a1 a2 a3 => ?_) (fun j j1 => ?_) (fun j j1 => ?_) (fun r' a1 a2 => ?_)
        · rw [k1 a a2, ← g1 a a1 a2 a3]; simp [gl_u2, gl_u1, a3]
        · rw [k1 42 (by omega)]; exact g2 j j1
        · rw [k1 48 (by omega)]
          show (if j = 0 then nI (m + 1) else M2 48 j) = M1 48 j
          rw [if_neg j1, g3 j j1]
        · by_cases z : r' = m + 1
          · subst z
            rintro ⟨e, w, hP⟩
            have h1 := k3b.2 w ⟨e, hP⟩
            have h2 := pt_P_le hP
            omega
          · exact g4 r' (by omega) a2
      · obtain ⟨k3a, k3b⟩ := k3 (by omega)
        have hL : ¬ 100000 ≤ L := fun z => q ((sp_le (n := 100000) (by omega) (by omega)).mpr z)
        obtain ⟨e, he⟩ := k3b.1 (by omega)
        refine ⟨?_, fin M3 (fun a a1 a2 a3 => ?_) (fun j j1 => ?_) (fun j j1 => ?_)⟩
        · have := pt_Z_uni hZ (r' := m + 1) ⟨hm, Or.inr ⟨e, L, he⟩, g4⟩
          rw [hr, this]
        · rw [k1 a a2, ← g1 a a1 a2 a3]; simp [gl_u2, gl_u1, a3]
        · rw [k1 42 (by omega)]; exact g2 j j1
        · rw [k1 48 (by omega)]
          show (if j = 0 then nI (m + 1) else M2 48 j) = M1 48 j
          rw [if_neg j1, g3 j j1]
  refine e_X11_reach l sc M1 _ ?_
  rw [h480]
  refine key n' _ (Nat.le_refl _) (fun a a1 a2 a3 => by simp [gl_u2, gl_u1, a1]) (fun j j1 => ?_) (fun j j1 => rfl) (fun r' a1 a2 => by omega)
  show upd (M1 42) 0 0 j = M1 42 j
  simp only [upd]; rw [if_neg j1]
end SP22

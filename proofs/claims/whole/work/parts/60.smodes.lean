section SP31
variable {WY : sp_WY} {PR : sp_PR} {l : Launch} {sc : Nat × (Nat → Int32)} {Q : Option Value → gl_N → Prop} {B : sp_B}
theorem sp_I_rd {ch : Nat} {M M' : gl_N} (hI : sp_I WY PR ch M) (ho : ∀ a, 12 ≤ a ∨ a = 1 ∨ a = 2 → a ≠ 42 → a ≠ 46 → a ≠ 47 → M' a = M a) (h42 : ∀ i, i = 1 ∨ i = 2 ∨ i = 12 ∨ i = 15 ∨ i = 18 → M' 42 i = M 42 i) : sp_I WY PR (ch + 1) M' := by
  obtain ⟨h1, h2, h3, h4, h5, h6, B, b1, b2, b3, b4, b5⟩ := hI
  have o : ∀ a, a ∈ [1, 2, 12, 13, 14, 15, 16, 17, 18, 19, 20, 21, 22, 24, 25, 27, 28, 29, 30, 31, 32, 33, 35, 38, 43, 44, 45, 48, 49, 50, 51, 52, 53, 54] → M' a = M a := fun a ha => by
    simp only [List.mem_cons, List.not_mem_nil, or_false] at ha
    apply ho <;> omega
  refine ⟨?_, ?_, ?_, ?_, ?_, ?_, B, b1, ?_, ?_, ?_, ?_⟩
  · rw [o 1 (by decide), o 2 (by decide), h42 18 (by omega), o 54 (by decide)]; exact h1
  · rw [o 20 (by decide), o 21 (by decide), o 48 (by decide)]; exact h2
  · rw [o 22 (by decide), o 24 (by decide), o 25 (by decide), h42 12 (by omega), o 49 (by decide)]; exact h3
  · rw [o 27 (by decide), o 28 (by decide), o 50 (by decide), o 51 (by decide)]; exact h4
  · rw [o 29 (by decide), o 30 (by decide), o 31 (by decide), h42 15 (by omega), o 52 (by decide), o 53 (by decide)]; exact h5
  · rw [o 20 (by decide), o 35 (by decide)]; exact h6.on
  · rw [o 12 (by decide), o 13 (by decide), o 14 (by decide), o 15 (by decide), o 16 (by decide), o 17 (by decide), o 18 (by decide), o 19 (by decide)]; exact b2
  · rw [h42 1 (by omega), h42 2 (by omega), o 43 (by decide), o 44 (by decide), o 45 (by decide)]; exact b3
  · rw [o 32 (by decide), o 33 (by decide)]; exact b4
  · rw [o 35 (by decide), o 20 (by decide), o 21 (by decide), o 38 (by decide)]; exact b5
theorem r_copyFrom {M : gl_N} (hw : sp_wf B) (hD : sp_CD B M) (K : ∀ M', (∀ a, a < 12 ∨ 19 < a → M' a = M a) → sp_C B (M' 12 0) (M' 12 5) (M' 13) (M' 14) (M' 15) (M' 16) (M' 17) (M' 18) (M' 19) → Q none M') : gr l sc m_X0_copyFrom [.ref 12, .ref 3] M Q := by
  have hc6 : B.1 ≤ 6 := hw.1
  have hm6 : B.2.2.2.1 ≤ 6 := hw.2.2.1
  obtain ⟨d1, d2, d3, d4⟩ := hD
  refine e_X0_copyFrom l sc M Q (e_X0_copyRow_4 l sc _ _ ⟨rfl, e_X0_copyRow_5 l sc _ _ ⟨rfl, e_X0_copyRow_6 l sc _ _ ⟨rfl, e_X0_copyRow_7 l sc _ _ ⟨rfl, e_X0_copyRow_8 l sc _ _ ⟨rfl, e_X0_copyRow_9 l sc _ _ ⟨rfl, e_X0_copyRow_10 l sc _ _ ⟨rfl, K _ (fun a ha => ?_) ⟨d1, d2, fun c hc => ?_, fun m hm => ?_⟩⟩⟩⟩⟩⟩⟩⟩)
  · simp [gl_u2, gl_u1, show a ≠ 12 by omega, show a ≠ 13 by omega, show a ≠ 14 by omega, show a ≠ 15 by omega, show a ≠ 16 by omega, show a ≠ 17 by omega, show a ≠ 18 by omega, show a ≠ 19 by omega]
  · have h4 := (hw.2.1 c hc).2.1
    obtain ⟨n1, n2, n3, n4⟩ := d3 c hc
    show va_cpy (M 4) (M 13) 0 0 6 c = _ ∧ (∀ k, k < B.2.1 c → va_cpy (M 5) (M 14) 0 0 24 (4 * c + k) = _) ∧ va_cpy (M 6) (M 15) 0 0 6 c = _ ∧ va_cpy (M 7) (M 16) 0 0 6 c = _
    refine ⟨?_, fun k hk => ?_, ?_, ?_⟩
    · rw [va_all (by omega)]; exact n1
    · rw [va_all (by omega)]; exact n2 k hk
    · rw [va_all (by omega)]; exact n3
    · rw [va_all (by omega)]; exact n4
  · have h4 := (hw.2.2.2 m hm).2.1
    obtain ⟨n1, n2⟩ := d4 m hm
    show va_cpy (M 8) (M 17) 0 0 6 m = _ ∧ ∀ k, k < B.2.2.2.2.1 m → va_cpy (M 9) (M 18) 0 0 24 (4 * m + k) = _ ∧ va_cpy (M 10) (M 19) 0 0 24 (4 * m + k) = _
    refine ⟨?_, fun k hk => ⟨?_, ?_⟩⟩
    · rw [va_all (by omega)]; exact n1
    · rw [va_all (by omega)]; exact (n2 k hk).1
    · rw [va_all (by omega)]; exact (n2 k hk).2
theorem s_modes : sp_S sp_W PR l sc m_X10_modes m_X11_modes [] := by
  rintro ch M hch hI
  obtain ⟨⟨N, hN, ha, hc, hj⟩, -, -, -, -, ⟨c0, cc1, cc2, cc3⟩, -⟩ := id hI
  have hTj : ∀ j, j < N → M 2 j = nI ((M 2 j).toNatClampNeg) ∧ (M 2 j).toNatClampNeg ≤ 255 := fun j h => sp_ntN (hj j h).2.1 (N := 255) (by omega) (hj j h).2.2
  have hT : rd_T N (fun j => (M 2 j).toNatClampNeg) M := ⟨hN, ha, hTj⟩
  have hU : ∀ {M2 : gl_N}, M2 42 = M 42 → M2 54 = M 54 → rd_U N (fun j => (M 2 j).toNatClampNeg) M2 := fun {M2} e1 e2 => ⟨hN, by rw [e1]; exact hc, fun j h => by rw [e2, (hj j h).1]; exact hTj j h⟩
  refine e_X10_modes l sc M _ (r_read hT (fun M2 i B ea g1 g2 g3 g4 => ⟨_, rfl, fun _ => ?_, fun z => absurd (nI_pos' (by omega)) z⟩) (fun M2 q ea hq g1 => ⟨_, rfl, fun z => absurd z (sp_neg10 (by omega)), fun _ => ?_⟩))
  · refine r_copyFrom (B := B) g3 (g2.mv (fun a a1 a2 => by simp [gl_u2, gl_u1, show a ≠ 1 by omega])) (fun M3 k1 k2 => ⟨rfl, e_X9_dropMeasures l sc _ _ ⟨rfl, e_X8_dropNotes l sc _ _ ⟨rfl, e_X2_dropAll l sc _ _ ⟨rfl, e_X6_dropAll l sc _ _ (r_fill_27 ⟨rfl, rfl, _, rfl, ?_⟩)⟩⟩⟩⟩)
    generalize hM4 : gl_u2 (sp_fl (gl_u2 (gl_u2 (gl_u2 (gl_u2 (gl_u2 M3 32 4 (-1)) 20 1 0) 20 2 ((gl_u2 M3 32 4 (-1)) 20 2 + 1)) 22 1 0) 22 2 0) 27 (-1) 0 2) 29 2 0 = M4
    have o3 : ∀ a, a = 2 ∨ 19 < a → M3 a = M a := fun a h => by
      rw [k1 a (by omega)]
      have : (gl_u2 M2 1 1 0) a = M2 a := by simp [gl_u2, gl_u1, show a ≠ 1 by omega]
      rw [this, g1 a (by omega)]
    have o4 : ∀ a, (a = 2 ∨ 19 < a) → a ≠ 20 → a ≠ 22 → a ≠ 27 → a ≠ 29 → a ≠ 32 → M4 a = M a := fun a h a1 a2 a3 a4 a5 => by
      rw [← o3 a h, ← hM4]; simp [gl_u2, gl_u1, sp_fl, a1, a2, a3, a4, a5]
    have oc : ∀ a, 12 ≤ a → a ≤ 19 → M4 a = M3 a := fun a h1 h2 => by
      rw [← hM4]; simp [gl_u2, gl_u1, sp_fl, show a ≠ 20 by omega, show a ≠ 22 by omega, show a ≠ 27 by omega, show a ≠ 29 by omega, show a ≠ 32 by omega]
    have f1 : M4 1 1 = 0 := by rw [← hM4]; show M3 1 1 = 0; rw [k1 1 (by omega)]; rfl
    have f20 : M4 20 1 = 0 ∧ M4 20 2 = M 20 2 + 1 := by
      rw [← hM4]
      refine ⟨rfl, ?_⟩
      show M3 20 2 + 1 = _
      rw [o3 20 (by omega)]
    have f22 : M4 22 1 = 0 ∧ M4 22 2 = 0 := by rw [← hM4]; exact ⟨rfl, rfl⟩
    have f27 : ∀ i, i < 2 → M4 27 i = -1 := fun i hi => by
      rw [← hM4]
      show (if 0 ≤ i ∧ i < 2 then (-1 : Int32) else M3 27 i) = -1
      rw [if_pos (by omega)]
    have f29 : M4 29 2 = 0 := by rw [← hM4]; rfl
    have f32 : M4 32 4 = -1 := by rw [← hM4]; rfl
    have hC4 : sp_C B (M4 12 0) (M4 12 5) (M4 13) (M4 14) (M4 15) (M4 16) (M4 17) (M4 18) (M4 19) := by
      rw [oc 12 (by omega) (by omega), oc 13 (by omega) (by omega), oc 14 (by omega) (by omega), oc 15 (by omega) (by omega), oc 16 (by omega) (by omega), oc 17 (by omega) (by omega), oc 18 (by omega) (by omega), oc 19 (by omega) (by omega)]
      exact k2
    clear hM4
    refine r_modesR (hU (o4 42 (by omega) (by omega) (by omega) (by omega) (by omega) (by omega)) (o4 54 (by omega) (by omega) (by omega) (by omega) (by omega) (by omega))) (fun M6 M5 i' B' eb j1 j2 j3 j4 j5 j6 j7 j8 j9 => ⟨?_, ?_⟩) (fun M6 q eb _ => ?_)
    · rw [ea] at eb
      cases eb
      rfl
    · have eB : B' = B := by
        rw [ea] at eb
        cases eb
        rfl
      subst eB
      have o6 : ∀ a, a ≠ 42 → a ≠ 43 → a ≠ 44 → a ≠ 45 → a ≠ 46 → a ≠ 47 → a ≠ 48 → a ≠ 51 → (gl_u2 M6 42 18 0) a = M4 a := fun a a1 a2 a3 a4 a5 a6 a7 a8 => by
        have e1 : (gl_u2 M6 42 18 0) a = M6 a := by simp [gl_u2, gl_u1, a1]
        rw [e1, j2 a a1 a2 a3 a4 a7 a8, j1.1 a a1 a5 a6]; simp [gl_u2, gl_u1, a1]
      have o7 : ∀ a, a ∈ [1, 2, 12, 13, 14, 15, 16, 17, 18, 19, 20, 21, 22, 24, 25, 27, 28, 29, 30, 31, 32, 33, 35, 38, 49, 50, 52, 53, 54] → (gl_u2 M6 42 18 0) a = M4 a := fun a h => by
        simp only [List.mem_cons, List.not_mem_nil, or_false] at h
        apply o6 <;> omega
      refine ⟨⟨0, Nat.zero_le _, ?_, ?_, fun j h => absurd h (Nat.not_lt_zero _)⟩, ⟨0, Nat.zero_le _, ?_, ?_, fun j h => absurd h (Nat.not_lt_zero _)⟩, ⟨0, fun _ => (0, fun _ => 0), ⟨Nat.zero_le _, fun i h => absurd h (Nat.not_lt_zero _)⟩, ⟨0, by omega, ?_, ?_, fun i h => absurd h (Nat.not_lt_zero _)⟩, ?_, fun i h => absurd h (Nat.not_lt_zero _)⟩, fun i h => Or.inl ⟨?_, ?_⟩, ⟨0, Nat.zero_le _, ?_, ?_, fun j h => absurd h (Nat.not_lt_zero _)⟩, ⟨c0 + 1, by omega, ?_, ?_⟩, B', g3, ?_, ?_, Or.inl ?_, fun z => ?_⟩
      · rw [o7 1 (by decide)]; exact f1
      · rfl
      · rw [o7 20 (by decide)]; exact f20.1
      · show M6 48 0 = 0
        exact j5
      · rw [o7 22 (by decide)]; exact f22.1
      · rw [o7 22 (by decide)]; exact f22.2
      · show M6 42 12 = 0
        exact j6
      · rw [o7 27 (by decide)]; exact f27 i h
      · show M6 51 i = 0
        have : i = 0 ∨ i = 1 := by omega
        rcases this with z | z
        · rw [z]; exact j8
        · rw [z]; exact j9
      · rw [o7 29 (by decide)]; exact f29
      · show M6 42 15 = 0
        exact j7
      · rw [o7 20 (by decide), f20.2, cc2, nI_1]
      · rw [o7 35 (by decide), o4 35 (by omega) (by omega) (by omega) (by omega) (by omega) (by omega)]
        rcases cc3 with z | ⟨q, q1, q2⟩
        · exact Or.inl z
        · exact Or.inr ⟨q, by omega, q2⟩
      · rw [o7 12 (by decide), o7 13 (by decide), o7 14 (by decide), o7 15 (by decide), o7 16 (by decide), o7 17 (by decide), o7 18 (by decide), o7 19 (by decide)]; exact hC4
      · exact j4
      · rw [o7 32 (by decide)]; exact f32
      · exfalso
        rw [o7 35 (by decide), o7 20 (by decide), f20.2, o4 35 (by omega) (by omega) (by omega) (by omega) (by omega) (by omega), cc2, nI_1] at z
        rcases cc3 with w | ⟨q, q1, q2⟩
        · rw [w] at z; exact sp_neg1 (by omega) z.symm
        · rw [q2] at z
          have := (sp_eq (by omega) (by omega)).mp z
          omega
    · rw [ea] at eb
      cases eb
  · refine ⟨_, rfl, r_modesR (hU (g1 42 (by omega)) (g1 54 (by omega))) (fun M6 M5 i' B' eb _ _ _ _ _ _ _ _ _ => ?_) (fun M6 q' eb j1 => ⟨?_, ?_⟩)⟩
    · rw [ea] at eb
      cases eb
    · rw [ea] at eb
      cases eb
      rfl
    · refine sp_I_rd hI (fun a a1 a2 a3 a4 => ?_) (fun i hi => ?_)
      · rw [j1.1 a a2 a3 a4]
        have : (gl_u2 M2 42 0 0) a = M2 a := by simp [gl_u2, gl_u1, a2]
        rw [this, g1 a (by omega)]
      · rw [j1.2 i (by omega) (by omega) (by omega) (by omega) (by omega)]
        show (if i = 0 then (0 : Int32) else M2 42 i) = M 42 i
        rw [if_neg (by omega), g1 42 (by omega)]
end SP31

section SP29
variable {l : Launch} {sc : Nat × (Nat → Int32)} {Q : Option Value → gl_N → Prop} {B : sp_B} {N : Nat} {T : Nat → Nat}
theorem r_span {M : gl_N} (hw : sp_wf B) {c : Nat} (hc : c < B.1) (h : M 43 (5 * c) = nI (B.2.1 c) ∧ ∀ k, k < B.2.1 c → M 43 (5 * c + 1 + k) = nI (B.2.2.1 c k)) (K : Q (some (.int (nI (sp_ht B c (B.2.1 c))))) M) : gr l sc m_X11_span [.ref 42, .int (nI c)] M Q := by
  have hc6 : B.1 ≤ 6 := hw.1
  obtain ⟨w1, w2, -⟩ := hw.2.1 c hc
  have e5 : (5 : Int32) * nI c = nI (5 * c) := by rw [show (5 : Int32) = nI 5 from rfl, sp_mul]
  have key : ∀ (r k : Nat), k + r = B.2.1 c → gv l sc m_X11_span 4 [.ref 42, .int (nI c), .int (nI (sp_ht B c k)), .int (nI (k + 1))] [] M Q := by
    intro r
    induction r with
    | zero =>
      intro k hk
      have : k = B.2.1 c := by omega
      subst this
      refine w_X11_span_4 l sc M Q _ _ _ ?_
      rw [e5, sp_cl (n := 5 * c) (by omega), h.1, sp_lt (by omega) (by omega)]
      exact ⟨sp_vp (by omega) (by omega), fun _ => K, fun z => by omega⟩
    | succ r ih =>
      intro k hk
      refine w_X11_span_4 l sc M Q _ _ _ ?_
      rw [e5, sp_cl (n := 5 * c) (by omega), h.1, sp_lt (by omega) (by omega), show nI (5 * c) + nI (k + 1) = nI (5 * c + 1 + k) by rw [nI_add]; congr 1; omega, sp_cl (n := 5 * c + 1 + k) (by omega), h.2 k (by omega), nI_add, nI_1]
      exact ⟨sp_vp (by omega) (by omega), fun z => by omega, fun _ => ⟨sp_vp (by omega) (by omega), ih (k + 1) (by omega)⟩⟩
  exact e_X11_span l sc M Q _ (key _ 0 (Nat.zero_add _))
theorem r_becomes {M : gl_N} (hw : sp_wf B) (hD : sp_RD B M) (K : ∀ M', (∀ a, a ≠ 42 → a ≠ 43 → a ≠ 44 → a ≠ 45 → a ≠ 48 → a ≠ 51 → M' a = M a) → (∀ i, i ≠ 1 → i ≠ 2 → i ≠ 12 → i ≠ 15 → M' 42 i = M 42 i) → sp_R B (M' 42 1) (M' 42 2) (M' 43) (M' 44) (M' 45) → M' 48 0 = 0 → M' 42 12 = 0 → M' 42 15 = 0 → M' 51 0 = 0 → M' 51 1 = 0 → Q none M') : gr l sc m_X11_becomes [.ref 42] M Q := by
  have hc6 : B.1 ≤ 6 := hw.1
  have hm6 : B.2.2.2.1 ≤ 6 := hw.2.2.1
  obtain ⟨d1, d2, d3, d4⟩ := hD
  obtain ⟨M0, hM0⟩ : ∃ M0 : gl_N, M0 = gl_u2 (gl_u2 M 42 1 (M 42 6)) 42 2 (M 42 7) := ⟨_, rfl⟩
  have m0 : ∀ a, a ≠ 42 → M0 a = M a := fun a ha => by rw [hM0]; simp [gl_u2, gl_u1, ha]
  have m1 : M0 42 1 = nI B.1 := by rw [hM0]; exact d1
  have m2 : M0 42 2 = nI B.2.2.2.1 := by rw [hM0]; exact d2
  have m3 : ∀ i, i ≠ 1 → i ≠ 2 → M0 42 i = M 42 i := fun i i1 i2 => by
    rw [hM0]
    show (if i = 2 then M 42 7 else if i = 1 then M 42 6 else M 42 i) = M 42 i
    rw [if_neg i2, if_neg i1]
  /- modes -/
  have outer : ∀ (r m : Nat) (M1 : gl_N), m + r = B.2.2.2.1 → (∀ a, a ≠ 43 → a ≠ 44 → a ≠ 45 → M1 a = M0 a) → (∀ j, j < 30 → M1 43 j = M 46 j) → (∀ j, j < 54 → M1 44 j = M 47 j) → (∀ m', m' < m → ∀ k, k < B.2.2.2.2.1 m' → M1 45 (4 * m' + k) = nI (B.2.2.2.2.2.2 m' k)) → gv l sc m_X11_becomes 70 [.ref 42, .int (nI m), .float 0, .float 0] [] M1 Q := by
    intro r
    induction r with
    | zero =>
      intro m M1 hm g1 g2 g3 g4
      have : m = B.2.2.2.1 := by omega
      subst this
      have e2 : M1 42 2 = nI B.2.2.2.1 := by rw [g1 42 (by omega) (by omega) (by omega)]; exact m2
      have e1 : M1 42 1 = nI B.1 := by rw [g1 42 (by omega) (by omega) (by omega)]; exact m1
      refine w_X11_becomes_70 l sc M1 Q _ ⟨fun _ => K _ (fun a a1 a2 a3 a4 a5 a6 => ?_) (fun i i1 i2 i3 i4 => ?_) ⟨e1, e2, fun c hcl => ?_, fun m hml => ?_⟩ rfl rfl rfl rfl rfl, fun z => absurd (by rw [e2]; exact Int32.le_refl _) z⟩
      · rw [← m0 a a1, ← g1 a a2 a3 a4]; simp [gl_u2, gl_u1, a1, a5, a6]
      · show (if i = 15 then (0 : Int32) else if i = 12 then 0 else M1 42 i) = M 42 i
        rw [if_neg i4, if_neg i3, g1 42 (by omega) (by omega) (by omega)]
        exact m3 i i1 i2
      · have h4 := (hw.2.1 c hcl).2.1
        show M1 43 (5 * c) = nI (B.2.1 c) ∧ ∀ k, k < B.2.1 c → M1 43 (5 * c + 1 + k) = nI (B.2.2.1 c k)
        refine ⟨by rw [g2 _ (by omega)]; exact (d3 c hcl).1, fun k hk => by rw [g2 _ (by omega)]; exact (d3 c hcl).2 k hk⟩
      · have h4 := (hw.2.2.2 m hml).2.1
        show M1 44 (9 * m) = nI (B.2.2.2.2.1 m) ∧ ∀ k, k < B.2.2.2.2.1 m → M1 44 (9 * m + 2 + 2 * k) = nI (B.2.2.2.2.2.1 m k) ∧ M1 45 (4 * m + k) = nI (B.2.2.2.2.2.2 m k)
        exact ⟨by rw [g3 _ (by omega)]; exact (d4 m hml).1, fun k hk => ⟨by rw [g3 _ (by omega)]; exact ((d4 m hml).2 k hk).1, g4 m hml k hk⟩⟩
    | succ r ih =>
      intro m M1 hm g1 g2 g3 g4
      have e2 : M1 42 2 = nI B.2.2.2.1 := by rw [g1 42 (by omega) (by omega) (by omega)]; exact m2
      refine w_X11_becomes_70 l sc M1 Q _ ⟨fun z => absurd z (by rw [e2]; exact sp_le_lit (by omega) (by omega) (by omega)), fun _ => ?_⟩
      obtain ⟨w1, w2, w3, w4, -⟩ := hw.2.2.2 m (by omega)
      obtain ⟨q1, q2⟩ := d4 m (by omega)
      have inner : ∀ (r2 k at_ : Nat) (M2 : gl_N), k + r2 = B.2.2.2.2.1 m → (k = 0 → at_ = 0) → (∀ i, k = i + 1 → at_ = B.2.2.2.2.2.2 m i + sp_ht B (B.2.2.2.2.2.1 m i) (B.2.1 (B.2.2.2.2.2.1 m i))) → (∀ a, a ≠ 43 → a ≠ 44 → a ≠ 45 → M2 a = M0 a) → (∀ j, j < 30 → M2 43 j = M 46 j) → (∀ j, j < 54 → M2 44 j = M 47 j) → (∀ m', m' < m → ∀ k, k < B.2.2.2.2.1 m' → M2 45 (4 * m' + k) = nI (B.2.2.2.2.2.2 m' k)) → (∀ j, j < k → M2 45 (4 * m + j) = nI (B.2.2.2.2.2.2 m j)) → gv l sc m_X11_becomes 82 [.ref 42, .int (nI m), .int (nI at_), .int (nI k)] [] M2 Q := by
        intro r2
        induction r2 with
        | zero =>
          intro k at_ M2 hk a0 a1 h1 h2 h3 h4 h5
          have : k = B.2.2.2.2.1 m := by omega
          subst this
          refine w_X11_becomes_82 l sc M2 Q _ _ _ ?_
          rw [show (9 : Int32) * nI m = nI (9 * m) by rw [show (9 : Int32) = nI 9 from rfl, sp_mul], sp_cl (n := 9 * m) (by omega), h3 _ (by omega), q1, nI_1]
          refine ⟨sp_vp (by omega) (by omega), fun _ => ih (m + 1) M2 (by omega) h1 h2 h3 (fun m' hm' j hj => ?_), fun z => absurd (Int32.le_refl _) z⟩
          by_cases e : m' = m
          · subst e; exact h5 j hj
          · exact h4 m' (by omega) j hj
        | succ r2 ih2 =>
          intro k at_ M2 hk a0 a1 h1 h2 h3 h4 h5
          obtain ⟨p1, g, p2, p3, p4⟩ := q2 k (by omega)
          have hpl := w4 k (by omega)
          have hat : at_ + g = B.2.2.2.2.2.2 m k := by
            rcases Nat.eq_zero_or_pos k with z | z
            · rw [a0 z, p3 z, z, w3]
            · obtain ⟨i, rfl⟩ : ∃ i, k = i + 1 := ⟨k - 1, by omega⟩
              rw [p4 i rfl, a1 i rfl]
          refine w_X11_becomes_82 l sc M2 Q _ _ _ ?_
          have n9 : (9 : Int32) * nI m = nI (9 * m) := by rw [show (9 : Int32) = nI 9 from rfl, sp_mul]
          have n1 : nI (9 * m) + 1 + 2 * nI k = nI (9 * m + 1 + 2 * k) := by rw [show (2 : Int32) = nI 2 from rfl, show (1 : Int32) = nI 1 from rfl, sp_mul, nI_add, nI_add]
          have n2 : nI (9 * m) + 2 + 2 * nI k = nI (9 * m + 2 + 2 * k) := by rw [show (2 : Int32) = nI 2 from rfl, sp_mul, nI_add, nI_add]
          have n4 : (4 : Int32) * nI m + nI k = nI (4 * m + k) := by rw [show (4 : Int32) = nI 4 from rfl, sp_mul, nI_add]
          rw [n9, n1, n2, n4, sp_cl (n := 9 * m) (by omega), sp_cl (n := 9 * m + 1 + 2 * k) (by omega), sp_cl (n := 9 * m + 2 + 2 * k) (by omega), sp_cl (n := 4 * m + k) (by omega), h3 _ (by omega), h3 _ (by omega), h3 _ (by omega), q1, p1, p2, nI_add, hat, nI_1]
          refine ⟨sp_vp (by omega) (by omega), fun z => absurd z (sp_le_lit (by omega) (by omega) (by omega)), fun _ => ⟨⟨sp_vp (by omega) (by omega), sp_vp (by omega) (by omega), sp_vp (by omega) (by omega)⟩, ?_⟩⟩
          have hsn := (hw.2.1 _ hpl).2.1
          refine r_span (B := B) hw hpl ⟨?_, fun j hj => ?_⟩ ⟨_, rfl, ?_⟩
          · show M2 43 (5 * B.2.2.2.2.2.1 m k) = _
            rw [h2 _ (by omega)]; exact (d3 _ hpl).1
          · show M2 43 (5 * B.2.2.2.2.2.1 m k + 1 + j) = _
            rw [h2 _ (by omega)]; exact (d3 _ hpl).2 j hj
          · rw [nI_add, nI_1 k]
            refine ih2 (k + 1) (B.2.2.2.2.2.2 m k + sp_ht B (B.2.2.2.2.2.1 m k) (B.2.1 (B.2.2.2.2.2.1 m k))) (gl_u2 M2 45 (4 * m + k) (nI (B.2.2.2.2.2.2 m k))) (by omega) (fun z => by omega) (fun i hi => ?_) (fun a b1 b2 b3 => ?_) h2 h3 (fun m' hm' j hj => ?_) (fun j hj => ?_)
            · rw [show i = k by omega]
            · rw [← h1 a b1 b2 b3]; simp [gl_u2, gl_u1, b3]
            · have := (hw.2.2.2 m' (by omega)).2.1
              show (if 4 * m' + j = 4 * m + k then nI (B.2.2.2.2.2.2 m k) else M2 45 (4 * m' + j)) = _
              rw [if_neg (by omega)]; exact h4 m' hm' j hj
            · show (if 4 * m + j = 4 * m + k then nI (B.2.2.2.2.2.2 m k) else M2 45 (4 * m + j)) = _
              by_cases e : j = k
              · rw [if_pos (by omega), e]
              · rw [if_neg (by omega)]; exact h5 j (by omega)
      exact inner _ 0 0 M1 (Nat.zero_add _) (fun _ => rfl) (fun i hi => by omega) g1 g2 g3 g4 (fun j hj => absurd hj (Nat.not_lt_zero _))
  have copy2 : ∀ (r k : Nat) (M1 : gl_N), k + r = 54 → (∀ a, a ≠ 43 → a ≠ 44 → M1 a = M0 a) → (∀ j, j < 30 → M1 43 j = M 46 j) → (∀ j, j < k → M1 44 j = M 47 j) → gv l sc m_X11_becomes 44 [.ref 42, .int (nI k), .float 0, .float 0] [] M1 Q := by
    intro r
    induction r with
    | zero =>
      intro k M1 hk g1 g2 g3
      have : k = 54 := by omega
      subst this
      exact w_X11_becomes_44 l sc M1 Q _ ⟨fun _ => outer _ 0 M1 (Nat.zero_add _) (fun a a1 a2 _ => g1 a a1 a2) g2 g3 (fun m' hm' => absurd hm' (Nat.not_lt_zero _)), fun z => absurd (show nI 54 ≤ nI 54 from Int32.le_refl _) z⟩
    | succ r ih =>
      intro k M1 hk g1 g2 g3
      refine w_X11_becomes_44 l sc M1 Q _ ⟨fun z => absurd z (sp_le_lit (N := 54) (by omega) (by omega) (by omega)), fun _ => ?_⟩
      rw [sp_cl (n := k) (by omega), nI_1]
      refine ⟨⟨sp_vp (by omega) (by omega), sp_vp (by omega) (by omega)⟩, ih (k + 1) _ (by omega) (fun a a1 a2 => ?_) g2 (fun j hj => ?_)⟩
      · rw [← g1 a a1 a2]; simp [gl_u2, gl_u1, a2]
      · show (if j = k then M1 47 k else M1 44 j) = M 47 j
        by_cases e : j = k
        · rw [if_pos e, e, g1 47 (by omega) (by omega), m0 47 (by omega)]
        · rw [if_neg e]; exact g3 j (by omega)
  have copy1 : ∀ (r k : Nat) (M1 : gl_N), k + r = 30 → (∀ a, a ≠ 43 → M1 a = M0 a) → (∀ j, j < k → M1 43 j = M 46 j) → gv l sc m_X11_becomes 18 [.ref 42, .int (nI k), .float 0, .float 0] [] M1 Q := by
    intro r
    induction r with
    | zero =>
      intro k M1 hk g1 g2
      have : k = 30 := by omega
      subst this
      exact w_X11_becomes_18 l sc M1 Q _ ⟨fun _ => copy2 54 0 M1 rfl (fun a a1 _ => g1 a a1) g2 (fun j hj => absurd hj (Nat.not_lt_zero _)), fun z => absurd (show nI 30 ≤ nI 30 from Int32.le_refl _) z⟩
    | succ r ih =>
      intro k M1 hk g1 g2
      refine w_X11_becomes_18 l sc M1 Q _ ⟨fun z => absurd z (sp_le_lit (N := 30) (by omega) (by omega) (by omega)), fun _ => ?_⟩
      rw [sp_cl (n := k) (by omega), nI_1]
      refine ⟨⟨sp_vp (by omega) (by omega), sp_vp (by omega) (by omega)⟩, ih (k + 1) _ (by omega) (fun a a1 => ?_) (fun j hj => ?_)⟩
      · rw [← g1 a a1]; simp [gl_u2, gl_u1, a1]
      · show (if j = k then M1 46 k else M1 43 j) = M 46 j
        by_cases e : j = k
        · rw [if_pos e, e, g1 46 (by omega), m0 46 (by omega)]
        · rw [if_neg e]; exact g2 j (by omega)
  refine e_X11_becomes l sc M Q ?_
  rw [← hM0]
  exact (copy1 30 0 M0 rfl (fun _ _ => rfl) (fun j hj => absurd hj (Nat.not_lt_zero _)))
end SP29

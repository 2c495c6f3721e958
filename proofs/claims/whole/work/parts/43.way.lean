section SP14
variable {PR : sp_PR} {l : Launch} {sc : Nat × (Nat → Int32)} {Q : Option Value → gl_N → Prop} {B : sp_B}
/-- only what is kept of ways has changed -/
theorem sp_I_wy {ch : Nat} {M M4 : gl_N} (hI : sp_Tx (M 1 1) (M 2) (M 42 18) (M 54) ∧ sp_Tn (M 20 1) (M 21) (M 48) ∧ sp_Ps (M 22 1) (M 22 2) (M 24) (M 25) (M 42 12) (M 49) ∧ sp_Im (M 27) (M 28) (M 50) (M 51) ∧ sp_Sn (M 29 2) (M 30) (M 31) (M 42 15) (M 52) (M 53) ∧ sp_Ch ch (M 20 2) (M 35 10)) (hB : sp_Bk sp_W PR M B)
    (ho : ∀ a, a ≠ 32 → a ≠ 33 → a ≠ 34 → a ≠ 42 → a ≠ 55 → a ≠ 56 → M4 a = M a) (h42 : ∀ j, j ≠ 0 → M4 42 j = M 42 j) (hW : sp_W B (M4 32 4) (M4 33)) : sp_I sp_W PR (ch + 1) M4 := by
  obtain ⟨h1, h2, h3, h4, h5, h6⟩ := hI
  obtain ⟨b1, b2, b3, -, b5⟩ := hB
  have o : ∀ a, a ∈ [1, 2, 12, 13, 14, 15, 16, 17, 18, 19, 20, 21, 22, 24, 25, 27, 28, 29, 30, 31, 35, 38, 43, 44, 45, 48, 49, 50, 51, 52, 53, 54] → M4 a = M a := fun a ha => by
    apply ho <;> (rintro rfl; revert ha; decide)
  refine ⟨?_, ?_, ?_, ?_, ?_, ?_, B, b1, ?_, ?_, hW, ?_⟩
  · rw [o 1 (by decide), o 2 (by decide), h42 18 (by decide), o 54 (by decide)]; exact h1
  · rw [o 20 (by decide), o 21 (by decide), o 48 (by decide)]; exact h2
  · rw [o 22 (by decide), o 24 (by decide), o 25 (by decide), h42 12 (by decide), o 49 (by decide)]; exact h3
  · rw [o 27 (by decide), o 28 (by decide), o 50 (by decide), o 51 (by decide)]; exact h4
  · rw [o 29 (by decide), o 30 (by decide), o 31 (by decide), h42 15 (by decide), o 52 (by decide), o 53 (by decide)]; exact h5
  · rw [o 20 (by decide), o 35 (by decide)]; exact h6.on
  · rw [o 12 (by decide), o 13 (by decide), o 14 (by decide), o 15 (by decide), o 16 (by decide), o 17 (by decide), o 18 (by decide), o 19 (by decide)]; exact b2
  · rw [h42 1 (by decide), h42 2 (by decide), o 43 (by decide), o 44 (by decide), o 45 (by decide)]; exact b3
  · rw [o 35 (by decide), o 20 (by decide), o 21 (by decide), o 38 (by decide)]; exact b5
theorem sp_E_symm {s t : Nat} (h : sp_E B s t) : sp_E B t s := by
  obtain ⟨k, p, h1, h2, h3, h4⟩ := h
  exact ⟨p, k, h2, h1, h3.symm, h4.symm⟩
/-- the lowest scale that is one nearer -/
def sp_nx (B : sp_B) (f : Nat → Nat) (a t : Nat) : Prop := t < 24 * sp_nm B ∧ (f t + 1 = f a ∧ sp_E B a t) ∧ ∀ u, u < t → ¬ (f u + 1 = f a ∧ sp_E B a u)
theorem sp_nx_uni {f : Nat → Nat} {a t u : Nat} (h : sp_nx B f a t) (k : sp_nx B f a u) : t = u := by
  rcases Nat.lt_trichotomy t u with e | e | e
  · exact absurd h.2.1 (k.2.2 t e)
  · exact e
  · exact absurd k.2.1 (h.2.2 u e)
def sp_wk (B : sp_B) (f : Nat → Nat) : Nat → Nat → Nat → Prop
  | 0, a, t => t = a
  | k + 1, a, t => ∃ b, sp_nx B f a b ∧ sp_wk B f k b t
theorem sp_wk_uni {f : Nat → Nat} : ∀ (k a t u : Nat), sp_wk B f k a t → sp_wk B f k a u → t = u := by
  intro k
  induction k with
  | zero => intro a t u h1 h2; exact h1.trans h2.symm
  | succ k ih =>
    rintro a t u ⟨b, h1, h2⟩ ⟨c, h3, h4⟩
    have := sp_nx_uni h1 h3
    subst this
    exact ih _ _ _ h2 h4
theorem sp_nx_ex {s : Nat} {f : Nat → Nat} (hD : bf_D (24 * sp_nm B) (sp_E B) s f) {a : Nat} (ha : a < 24 * sp_nm B) (h2 : 2 ≤ f a) : ∃ t, t < 24 * sp_nm B ∧ f t + 1 = f a ∧ sp_E B a t := by
  rcases hD.2.1 a ha (by omega) with h | ⟨u, u1, u2, u3, u4⟩
  · omega
  · exact ⟨u, u1, by omega, sp_E_symm u4⟩
theorem sp_pred {n : Nat} (h : 1 ≤ n) : nI n - 1 = nI (n - 1) := sp_sub1 h
theorem r_nearer {M : gl_N} (hC : sp_MC B M) {s : Nat} {f : Nat → Nat} (hD : bf_D (24 * sp_nm B) (sp_E B) s f) (hf : ∀ t, t < 24 * sp_nm B → M 33 t = nI (f t)) {a : Nat} (ha : a < 24 * sp_nm B) (h2 : 2 ≤ f a) (K : ∀ t, sp_nx B f a t → Q (some (.int (nI t))) M) : gr l sc m_X9_lowestNearer [.ref 32, .int (nI a)] M Q := by
  have hm6 : sp_nm B ≤ 6 := hC.1.2.2.1
  have hfa := hD.2.2.2 a ha
  have key : ∀ (r t : Nat), t + r = 24 * sp_nm B → (∀ u, u < t → ¬ (f u + 1 = f a ∧ sp_E B a u)) → gv l sc m_X9_lowestNearer 2 [.ref 32, .int (nI a), .int (nI t)] [] M Q := by
    intro r
    induction r with
    | zero =>
      intro t ht hno
      exfalso
      obtain ⟨u, u1, u2, u3⟩ := sp_nx_ex hD ha h2
      exact hno u (by omega) ⟨u2, u3⟩
    | succ r ih =>
      intro t ht hno
      have htN : t < 24 * sp_nm B := by omega
      have hft := hD.2.2.2 t htN
      have next : ¬ (f t + 1 = f a ∧ sp_E B a t) → gv l sc m_X9_lowestNearer 2 [.ref 32, .int (nI a), .int (nI (t + 1))] [] M Q := fun hn => ih _ (by omega) (fun u hu => by
        by_cases e : u = t
        · subst e; exact hn
        · exact hno u (by omega))
      refine w_X9_lowestNearer_2 l sc M Q _ _ (r_scaleCount hC ⟨_, rfl, fun q => absurd q (sp_le_lit (by omega) (by omega) (by omega)), fun _ => ?_⟩)
      rw [sp_cl (n := t) (by omega), sp_cl (n := a) (by omega), hf t htN, hf a ha, sp_pred (by omega), sp_eq (by omega) (by omega), nI_1]
      refine ⟨⟨sp_vp (by omega) (by omega), sp_vp (by omega) (by omega)⟩, fun hne => next (fun z => hne (by omega)), fun he => ⟨sp_vp (by omega) (by omega), fun q => ?_, fun q => r_sharesSome hC ha htN (fun hE => ⟨1, rfl, fun q => absurd q (by decide), fun _ => K t ⟨htN, ⟨by omega, hE⟩, hno⟩⟩) (fun hE => ⟨0, rfl, fun _ => next (fun z => hE z.2), fun q => absurd rfl q⟩)⟩⟩
      exfalso
      have := (sp_le (N := 0) (by omega) (by omega)).mp q
      omega
  exact e_X9_lowestNearer l sc M Q _ (key _ 0 (Nat.zero_add _) (fun u hu => absurd hu (Nat.not_lt_zero _)))
theorem r_walk {M : gl_N} (hC : sp_MC B M) {s : Nat} {f : Nat → Nat} (hD : bf_D (24 * sp_nm B) (sp_E B) s f) (hf : ∀ t, t < 24 * sp_nm B → M 33 t = nI (f t)) {a k : Nat} (ha : a < 24 * sp_nm B) (hk : k < f a) (K : ∀ t, sp_wk B f k a t → Q (some (.int (nI t))) M) : gr l sc m_X9_walk [.ref 32, .int (nI a), .int (nI k)] M Q := by
  have hm6 : sp_nm B ≤ 6 := hC.1.2.2.1
  have hfa := hD.2.2.2 a ha
  have key : ∀ (r i b : Nat), i + r = k → b < 24 * sp_nm B → r < f b → (∀ t, sp_wk B f r b t → Q (some (.int (nI t))) M) → gv l sc m_X9_walk 5 [.ref 32, .int (nI a), .int (nI k), .int (nI b), .int (nI i)] [] M Q := by
    intro r
    induction r with
    | zero =>
      intro i b hi hb hr K2
      have : i = k := by omega
      subst this
      exact w_X9_walk_5 l sc M Q _ _ _ _ ⟨fun _ => K2 b rfl, fun q => absurd (Int32.le_refl _) q⟩
    | succ r ih =>
      intro i b hi hb hr K2
      refine w_X9_walk_5 l sc M Q _ _ _ _ ⟨fun q => absurd q (sp_le_lit (by omega) (by omega) (by omega)), fun _ => r_nearer hC hD hf hb (by omega) (fun t ht => ⟨_, rfl, ?_⟩)⟩
      rw [nI_1]
      have := ht.2.1.1
      exact ih (i + 1) t (by omega) ht.1 (by omega) (fun u hu => K2 u ⟨t, ht, hu⟩)
  exact e_X9_walk l sc M Q _ _ (key k 0 a (Nat.zero_add _) ha hk K)
theorem r_wayR {M : gl_N} (hR : sp_MR B M) {s : Nat} {f : Nat → Nat} (hD : bf_D (24 * sp_nm B) (sp_E B) s f) (hf : ∀ t, t < 24 * sp_nm B → M 55 t = nI (f t)) {a k z : Nat} (hk : k ≤ 1000) : ∀ (r i b : Nat), i + r = k → b < 24 * sp_nm B → r < f b → (∀ t, sp_wk B f r b t → Q (some (.int (nI t))) M) → gv l sc m_X11_way 72 [.ref 42, .int (nI a), .int (nI z), .int (nI k), .int (nI b), .int (nI i), .float 0] [] M Q := by
  have hm6 : sp_nm B ≤ 6 := hR.1.2.2.1
  intro r
  induction r with
  | zero =>
    intro i b hi hb hr K
    have : i = k := by omega
    subst this
    exact w_X11_way_72 l sc M Q _ _ _ _ _ ⟨fun _ => K b rfl, fun q => absurd (Int32.le_refl _) q⟩
  | succ r ih =>
    intro i b hi hb hr K
    have hfb := hD.2.2.2 b hb
    refine w_X11_way_72 l sc M Q _ _ _ _ _ ⟨fun q => absurd q (sp_le_lit (by omega) (by omega) (by omega)), fun _ => ?_⟩
    have key : ∀ (n t : Nat), t + n = 24 * sp_nm B → (∀ u, u < t → ¬ (f u + 1 = f b ∧ sp_E B b u)) → gv l sc m_X11_way 81 [.ref 42, .int (nI a), .int (nI z), .int (nI k), .int (nI b), .int (nI i), .int (nI t)] [] M Q := by
      intro n
      induction n with
      | zero =>
        intro t ht hno
        exfalso
        obtain ⟨u, u1, u2, u3⟩ := sp_nx_ex hD hb (by omega)
        exact hno u (by omega) ⟨u2, u3⟩
      | succ n ihn =>
        intro t ht hno
        have htN : t < 24 * sp_nm B := by omega
        have hft := hD.2.2.2 t htN
        have next : ¬ (f t + 1 = f b ∧ sp_E B b t) → gv l sc m_X11_way 81 [.ref 42, .int (nI a), .int (nI z), .int (nI k), .int (nI b), .int (nI i), .int (nI (t + 1))] [] M Q := fun hn => ihn _ (by omega) (fun u hu => by
          by_cases e : u = t
          · subst e; exact hn
          · exact hno u (by omega))
        refine w_X11_way_81 l sc M Q _ _ _ _ _ _ ?_
        have e1 : nI t + 1 = nI (t + 1) := nI_1 t
        have e2 : nI i + 1 = nI (i + 1) := nI_1 i
        rw [sp_cl (n := t) (by omega), sp_cl (n := b) (by omega), hf t htN, hf b hb, sp_pred (by omega), sp_eq (by omega) (by omega), e1, e2]
        refine ⟨⟨sp_vp (by omega) (by omega), sp_vp (by omega) (by omega)⟩, fun hne => next (fun z => hne (by omega)), fun he => r_share hR hb htN (fun hE => ⟨1, rfl, fun _ => ih (i + 1) t (by omega) htN (by omega) (fun u hu => K u ⟨t, ⟨htN, ⟨by omega, hE⟩, hno⟩, hu⟩), fun q => absurd q (by decide)⟩) (fun hE => ⟨0, rfl, fun q => absurd rfl q, fun _ => next (fun z => hE z.2)⟩)⟩
    exact key _ 0 (Nat.zero_add _) (fun u hu => absurd hu (Nat.not_lt_zero _))
theorem s_way (x w y : Int32) : sp_S sp_W PR l sc m_X10_way m_X11_way [.int x, .int w, .int y] := by
  rintro ch M hch hI
  obtain ⟨i1, i2, i3, i4, i5, i6, B, hB⟩ := id hI
  obtain ⟨hw, hC, hR, hW, hPR⟩ := id hB
  have hI6 := And.intro i1 (And.intro i2 (And.intro i3 (And.intro i4 (And.intro i5 i6))))
  have hI0 := sp_I_0 hI
  have hMC : sp_MC B M := ⟨hw, hC⟩
  have hMR : sp_MR B (gl_u2 M 42 0 0) := ⟨hw, hR⟩
  have hm6 : sp_nm B ≤ 6 := hw.2.2.1
  refine e_X10_way l sc M _ x w y ?_
  refine r_isScale hMC (fun s hs e => ⟨1, rfl, fun h => absurd h (by decide), fun _ => ?_⟩) (fun hno => ⟨0, rfl, fun _ => ?_, fun h => absurd rfl h⟩)
  · subst e
    refine r_isScale hMC (fun t ht e => ⟨1, rfl, fun h => absurd h (by decide), fun _ => ⟨fun hy => ?_, fun hy => ?_⟩⟩) (fun hno => ⟨0, rfl, fun _ => ?_, fun h => absurd rfl h⟩)
    · subst e
      refine r_measure hMC hW ht (fun M1 f hr1 h4 hD hf => ⟨rfl, ?_⟩)
      have hC1 : sp_MC B M1 := by
        refine ⟨hw, ?_⟩
        rw [hr1 12 (by decide) (by decide) (by decide), hr1 13 (by decide) (by decide) (by decide), hr1 14 (by decide) (by decide) (by decide), hr1 15 (by decide) (by decide) (by decide), hr1 16 (by decide) (by decide) (by decide), hr1 17 (by decide) (by decide) (by decide), hr1 18 (by decide) (by decide) (by decide), hr1 19 (by decide) (by decide) (by decide)]
        exact hC
      have hR1 : sp_MR B (gl_u2 M1 42 0 0) := by
        refine ⟨hw, ?_⟩
        show sp_R B (M1 42 1) (M1 42 2) (M1 43) (M1 44) (M1 45)
        rw [hr1 42 (by decide) (by decide) (by decide), hr1 43 (by decide) (by decide) (by decide), hr1 44 (by decide) (by decide) (by decide), hr1 45 (by decide) (by decide) (by decide)]
        exact hR
      have hfs := hD.2.2.2 s hs
      rw [sp_cl (n := s) (by omega), hf s hs]
      have hW1 : sp_W B (M1 32 4) (M1 33) := Or.inr ⟨t, f, ht, h4, hD, hf⟩
      -- the reference, with any answer that fits
      have ref : ∀ v : Int32, (f s = 0 → v = -9) → (¬ f s = 0 → (y < nI (f s) → (0 ≤ y → ∀ k, k < 2147483648 → y = nI k → ∀ u, sp_wk B f k s u → v = nI u) ∧ (¬ 0 ≤ y → v = nI (f s))) ∧ (¬ y < nI (f s) → v = -9)) → gr l sc m_X11_way [.ref 42, .int (nI s), .int (nI t), .int y] M1 (fun r2 M3 => r2 = some (.int v) ∧ sp_I sp_W PR (ch + 1) M3) := by
        intro v v1 v2
        refine e_X11_way l sc M1 _ _ _ _ ?_
        refine r_isScaleR hR1 (fun _ _ _ => ⟨1, rfl, fun h => absurd h (by decide), fun _ => ?_⟩) (fun q => absurd rfl (q s hs))
        refine r_isScaleR hR1 (fun _ _ _ => ⟨1, rfl, fun h => absurd h (by decide), fun _ => ⟨fun _ => ?_, fun h => absurd hy h⟩⟩) (fun q => absurd rfl (q t ht))
        refine r_laysFar hR1 ht (fun M2 g hr2 hD2 hg => ⟨rfl, ?_⟩)
        have hgf : ∀ u, u < 24 * sp_nm B → M2 55 u = nI (f u) := fun u hu => by rw [hg u hu, bf_D_uni hD hD2 u hu]
        have hI2 : sp_I sp_W PR (ch + 1) M2 := by
          refine sp_I_wy hI6 hB (fun a a1 a2 a3 a4 a5 a6 => ?_) (fun j hj => ?_) ?_
          · rw [hr2 a a5 a6]
            show (if a = 42 then _ else M1 a) = M a
            rw [if_neg a4]; exact hr1 a a1 a2 a3
          · rw [hr2 42 (by decide) (by decide)]
            show (if j = 0 then _ else M1 42 j) = M 42 j
            rw [if_neg hj, hr1 42 (by decide) (by decide) (by decide)]
          · rw [hr2 32 (by decide) (by decide), hr2 33 (by decide) (by decide)]
            exact hW1
        rw [sp_cl (n := s) (by omega), hgf s hs]
        refine ⟨sp_vp (by omega) (by omega), fun q => ⟨?_, hI2⟩, fun q => ⟨sp_vp (by omega) (by omega), fun q1 => ⟨fun q2 => ?_, fun q2 => ⟨sp_vp (by omega) (by omega), ?_, hI2⟩⟩, fun q1 => ⟨?_, hI2⟩⟩⟩
        · rw [v1 ((sp_eq (N := 0) (by omega) (by omega)).mp q)]
        · have n0 : ¬ f s = 0 := fun e => q (by rw [e]; rfl)
          obtain ⟨k, hk, e⟩ := sp_of (Int32.not_lt.mpr q2)
          subst e
          have hkf : k < f s := (nI_ltI (by omega) (by omega)).mp q1
          refine r_wayR (hr2.mr hR1) hD hgf (by omega) k 0 s (Nat.zero_add _) hs hkf (fun u hu => ⟨?_, hI2⟩)
          rw [((v2 n0).1 q1).1 q2 k hk rfl u hu]
        · have n0 : ¬ f s = 0 := fun e => q (by rw [e]; rfl)
          rw [((v2 n0).1 q1).2 q2]
        · have n0 : ¬ f s = 0 := fun e => q (by rw [e]; rfl)
          rw [(v2 n0).2 q1]
      refine ⟨sp_vp (by omega) (by omega), fun q => ⟨fun q1 => ⟨fun q2 => ⟨_, rfl, ref _ (fun e => absurd (by rw [e]; rfl) q) (fun _ => ⟨fun z => absurd z (Int32.not_lt.mpr q2), fun _ => rfl⟩)⟩, fun q2 => ?_⟩, fun q1 => ⟨_, rfl, ref _ (fun e => absurd (by rw [e]; rfl) q) (fun _ => ⟨fun _ => ⟨fun z => ?_, fun _ => rfl⟩, fun z => ?_⟩)⟩⟩, fun q => ⟨_, rfl, ref _ (fun _ => rfl) (fun n0 => absurd ((sp_eq (N := 0) (by omega) (by omega)).mp q) n0)⟩⟩
      · have h0 : 0 ≤ y := by
          apply Int32.le_iff_toInt_le.mpr
          have p1 := Int32.le_iff_toInt_le.mp hy
          have z1 : (-1 : Int32).toInt = -1 := rfl
          have z0 : (0 : Int32).toInt = 0 := rfl
          have : ¬ y.toInt = -1 := fun q => q1 (Int32.toInt_inj.mp (by rw [z1]; exact q))
          omega
        obtain ⟨k, hk, e⟩ := sp_of (Int32.not_lt.mpr h0)
        subst e
        have hlt := Int32.not_le.mp q2
        have hkf : k < f s := (nI_ltI (by omega) (by omega)).mp hlt
        refine r_walk hC1 hD hf hs hkf (fun u hu => ⟨_, rfl, _, rfl, ref _ (fun e => absurd (by rw [e]; rfl) q) (fun _ => ⟨fun _ => ⟨fun _ k' hk' ek u' hu' => ?_, fun z => absurd h0 z⟩, fun z => absurd hlt z⟩)⟩)
        have : k = k' := (nI_eq (by omega) (by omega)).mp ek
        subst this
        rw [sp_wk_uni _ _ _ _ hu hu']
      · rw [q1] at z; exact absurd z (by decide)
      · rw [q1] at z
        exact absurd (Int32.lt_iff_toInt_lt.mpr (by rw [nI_toInt (by omega)]; have z1 : (-1 : Int32).toInt = -1 := rfl
                                                    omega)) z
    · subst e
      refine ⟨_, rfl, e_X11_way l sc M _ _ _ _ ?_⟩
      refine r_isScaleR hMR (fun _ _ _ => ⟨1, rfl, fun h => absurd h (by decide), fun _ => ?_⟩) (fun q => absurd rfl (q s hs))
      exact r_isScaleR hMR (fun _ _ _ => ⟨1, rfl, fun h => absurd h (by decide), fun _ => ⟨fun h => absurd h hy, fun _ => ⟨rfl, hI0⟩⟩⟩) (fun q => absurd rfl (q t ht))
    · refine ⟨_, rfl, e_X11_way l sc M _ _ _ _ ?_⟩
      refine r_isScaleR hMR (fun _ _ _ => ⟨1, rfl, fun h => absurd h (by decide), fun _ => ?_⟩) (fun q => absurd rfl (q s hs))
      exact r_isScaleR hMR (fun t ht e => absurd e (hno t ht)) (fun _ => ⟨0, rfl, fun _ => ⟨rfl, hI0⟩, fun h => absurd rfl h⟩)
  · exact ⟨_, rfl, e_X11_way l sc M _ _ _ _ (r_isScaleR hMR (fun s hs e => absurd e (hno s hs)) (fun _ => ⟨0, rfl, fun _ => ⟨rfl, hI0⟩, fun h => absurd rfl h⟩))⟩
/-- the lowest of the farthest -/
def sp_mx (B : sp_B) (f : Nat → Nat) (t : Nat) : Prop := t < 24 * sp_nm B ∧ ∀ u, u < 24 * sp_nm B → f u ≤ f t ∧ (f u = f t → t ≤ u)
theorem sp_mx_uni {f : Nat → Nat} {t u : Nat} (h : sp_mx B f t) (k : sp_mx B f u) : t = u := by
  have h1 := h.2 u k.1
  have h2 := k.2 t h.1
  have e : f u = f t := by omega
  have := h1.2 e
  have := h2.2 e.symm
  omega
theorem r_mostDistant {M : gl_N} (hC : sp_MC B M) {f : Nat → Nat} (hb : ∀ t, t < 24 * sp_nm B → f t ≤ 24 * sp_nm B) (hf : ∀ t, t < 24 * sp_nm B → M 33 t = nI (f t)) (h0 : 0 < sp_nm B) (K : ∀ t, sp_mx B f t → Q (some (.int (nI t))) M) : gr l sc m_X9_mostDistant [.ref 32] M Q := by
  have hm6 : sp_nm B ≤ 6 := hC.1.2.2.1
  have key : ∀ (r k a : Nat), k + r = 24 * sp_nm B → 1 ≤ k → a < k → (∀ u, u < k → f u ≤ f a ∧ (f u = f a → a ≤ u)) → gv l sc m_X9_mostDistant 4 [.ref 32, .int (nI a), .int (nI k)] [] M Q := by
    intro r
    induction r with
    | zero =>
      intro k a hk h1 ha hall
      have : k = 24 * sp_nm B := by omega
      subst this
      exact w_X9_mostDistant_4 l sc M Q _ _ (r_scaleCount hC ⟨_, rfl, fun _ => K a ⟨ha, hall⟩, fun q => absurd (Int32.le_refl _) q⟩)
    | succ r ih =>
      intro k a hk h1 ha hall
      have hkN : k < 24 * sp_nm B := by omega
      have haN : a < 24 * sp_nm B := by omega
      have := hb k hkN
      have := hb a haN
      refine w_X9_mostDistant_4 l sc M Q _ _ (r_scaleCount hC ⟨_, rfl, fun q => absurd q (sp_le_lit (by omega) (by omega) (by omega)), fun _ => ?_⟩)
      rw [sp_cl (n := k) (by omega), sp_cl (n := a) (by omega), hf k hkN, hf a haN, sp_le (by omega) (by omega), nI_1]
      refine ⟨⟨sp_vp (by omega) (by omega), sp_vp (by omega) (by omega)⟩, fun q => ih (k + 1) a (by omega) (by omega) (by omega) (fun u hu => ?_), fun q => ih (k + 1) k (by omega) (by omega) (by omega) (fun u hu => ?_)⟩
      · by_cases e : u = k
        · subst e; exact ⟨q, fun _ => by omega⟩
        · exact hall u (by omega)
      · by_cases e : u = k
        · subst e; exact ⟨Nat.le_refl _, fun _ => Nat.le_refl _⟩
        · have := (hall u (by omega)).1
          exact ⟨by omega, fun z => by omega⟩
  exact e_X9_mostDistant l sc M Q (key (24 * sp_nm B - 1) 1 0 (by omega) (by omega) (by omega) (fun u hu => by
    have : u = 0 := by omega
    subst this
    exact ⟨Nat.le_refl _, fun _ => Nat.le_refl _⟩))
theorem r_farR {M : gl_N} (hR : sp_MR B M) {f : Nat → Nat} (hb : ∀ t, t < 24 * sp_nm B → f t ≤ 24 * sp_nm B) (hf : ∀ t, t < 24 * sp_nm B → M 55 t = nI (f t)) {s : Nat} {y : Int32} (K : ∀ t, sp_mx B f t → (¬ y = 0 → Q (some (.int (nI t))) M) ∧ (y = 0 → Q (some (.int (nI (f t)))) M)) :
    ∀ (k a : Nat), k ≤ 24 * sp_nm B → a < 24 * sp_nm B → (∀ u, k ≤ u → u < 24 * sp_nm B → f u ≤ f a ∧ (f u = f a → a ≤ u)) → gv l sc m_X11_farthest 42 [.ref 42, .int (nI s), .int y, .int (nI a), .int (nI k - 1)] [] M Q := by
  have hm6 : sp_nm B ≤ 6 := hR.1.2.2.1
  intro k
  induction k with
  | zero =>
    intro a hk ha hall
    have := hb a ha
    refine w_X11_farthest_42 l sc M Q _ _ _ _ ⟨fun _ => ⟨fun q => (K a ⟨ha, fun u hu => hall u (Nat.zero_le _) hu⟩).1 q, fun q => ?_⟩, fun q => absurd (show nI 0 - 1 < 0 by decide) q⟩
    rw [sp_cl (n := a) (by omega), hf a ha]
    exact ⟨sp_vp (by omega) (by omega), (K a ⟨ha, fun u hu => hall u (Nat.zero_le _) hu⟩).2 q⟩
  | succ k ih =>
    intro a hk ha hall
    have hkN : k < 24 * sp_nm B := by omega
    have := hb k hkN
    have := hb a ha
    refine w_X11_farthest_42 l sc M Q _ _ _ _ ?_
    have e1 : nI k + (-1) = nI k - 1 := by rw [Int32.sub_eq_add_neg]
    rw [nI_pred, sp_cl (n := k) (by omega), sp_cl (n := a) (by omega), hf k hkN, hf a ha, sp_lt (by omega) (by omega), e1]
    refine ⟨fun q => absurd q (nI_pos (by omega)), fun _ => ⟨⟨sp_vp (by omega) (by omega), sp_vp (by omega) (by omega)⟩, fun q => ih a (by omega) ha (fun u h1 h2 => ?_), fun q => ih k (by omega) hkN (fun u h1 h2 => ?_)⟩⟩
    · by_cases e : u = k
      · subst e; exact ⟨by omega, fun z => by omega⟩
      · exact hall u (by omega) h2
    · by_cases e : u = k
      · subst e; exact ⟨Nat.le_refl _, fun _ => Nat.le_refl _⟩
      · have := (hall u (by omega) h2).1
        exact ⟨by omega, fun z => by omega⟩
theorem s_farthest (x y : Int32) : sp_S sp_W PR l sc m_X10_farthest m_X11_farthest [.int x, .int y] := by
  rintro ch M hch hI
  obtain ⟨i1, i2, i3, i4, i5, i6, B, hB⟩ := id hI
  obtain ⟨hw, hC, hR, hW, hPR⟩ := id hB
  have hI6 := And.intro i1 (And.intro i2 (And.intro i3 (And.intro i4 (And.intro i5 i6))))
  have hI0 := sp_I_0 hI
  have hMC : sp_MC B M := ⟨hw, hC⟩
  have hMR : sp_MR B (gl_u2 M 42 0 0) := ⟨hw, hR⟩
  have hm6 : sp_nm B ≤ 6 := hw.2.2.1
  refine e_X10_farthest l sc M _ x y ?_
  refine r_isScale hMC (fun s hs e => ⟨1, rfl, fun h => absurd h (by decide), fun _ => ?_⟩) (fun hno => ⟨0, rfl, fun _ => ?_, fun h => absurd rfl h⟩)
  · subst e
    refine r_within (fun c1 c2 => ⟨1, rfl, fun _ => ?_, fun h => absurd h (by decide)⟩) (fun c => ⟨0, rfl, fun h => absurd rfl h, fun _ => ?_⟩)
    · refine r_measure hMC hW hs (fun M1 f hr1 h4 hD hf => ⟨rfl, ?_⟩)
      have hC1 : sp_MC B M1 := by
        refine ⟨hw, ?_⟩
        rw [hr1 12 (by decide) (by decide) (by decide), hr1 13 (by decide) (by decide) (by decide), hr1 14 (by decide) (by decide) (by decide), hr1 15 (by decide) (by decide) (by decide), hr1 16 (by decide) (by decide) (by decide), hr1 17 (by decide) (by decide) (by decide), hr1 18 (by decide) (by decide) (by decide), hr1 19 (by decide) (by decide) (by decide)]
        exact hC
      have hR1 : sp_MR B (gl_u2 M1 42 0 0) := by
        refine ⟨hw, ?_⟩
        show sp_R B (M1 42 1) (M1 42 2) (M1 43) (M1 44) (M1 45)
        rw [hr1 42 (by decide) (by decide) (by decide), hr1 43 (by decide) (by decide) (by decide), hr1 44 (by decide) (by decide) (by decide), hr1 45 (by decide) (by decide) (by decide)]
        exact hR
      have hW1 : sp_W B (M1 32 4) (M1 33) := Or.inr ⟨s, f, hs, h4, hD, hf⟩
      have ref : ∀ (v : Int32) (t : Nat), sp_mx B f t → (¬ y = 0 → v = nI t) → (y = 0 → v = nI (f t)) → gr l sc m_X11_farthest [.ref 42, .int (nI s), .int y] M1 (fun r2 M3 => r2 = some (.int v) ∧ sp_I sp_W PR (ch + 1) M3) := by
        intro v t htx v1 v2
        refine e_X11_farthest l sc M1 _ _ _ ?_
        refine r_isScaleR hR1 (fun _ _ _ => ⟨1, rfl, fun h => absurd h (by decide), fun _ => ?_⟩) (fun q => absurd rfl (q s hs))
        refine r_in (fun _ _ => ⟨1, rfl, fun _ => ?_, fun h => absurd h (by decide)⟩) (fun c => absurd ⟨c1, c2⟩ c)
        refine r_laysFar hR1 hs (fun M2 g hr2 hD2 hg => ⟨rfl, ?_⟩)
        have hgf : ∀ u, u < 24 * sp_nm B → M2 55 u = nI (f u) := fun u hu => by rw [hg u hu, bf_D_uni hD hD2 u hu]
        have hI2 : sp_I sp_W PR (ch + 1) M2 := by
          refine sp_I_wy hI6 hB (fun a a1 a2 a3 a4 a5 a6 => ?_) (fun j hj => ?_) ?_
          · rw [hr2 a a5 a6]
            show (if a = 42 then _ else M1 a) = M a
            rw [if_neg a4]; exact hr1 a a1 a2 a3
          · rw [hr2 42 (by decide) (by decide)]
            show (if j = 0 then _ else M1 42 j) = M 42 j
            rw [if_neg hj, hr1 42 (by decide) (by decide) (by decide)]
          · rw [hr2 32 (by decide) (by decide), hr2 33 (by decide) (by decide)]
            exact hW1
        have eN : M2 42 2 = nI (sp_nm B) := (hr2.mr hR1).2.2.1
        have e24 : (24 : Int32) * M2 42 2 = nI (24 * sp_nm B) := by rw [eN, show (24 : Int32) = nI 24 from rfl, sp_mul]
        rw [e24]
        refine r_farR (hr2.mr hR1) hD.2.2.2 hgf (fun u hu => ⟨fun q => ⟨?_, hI2⟩, fun q => ⟨?_, hI2⟩⟩) _ s (Nat.le_refl _) hs (fun u h1 h2 => absurd h2 (by omega))
        · rw [v1 q, sp_mx_uni hu htx]
        · rw [v2 q, sp_mx_uni hu htx]
      refine r_mostDistant hC1 hD.2.2.2 hf (by omega) (fun t ht => ⟨_, rfl, fun q => ⟨_, rfl, ref _ t ht (fun _ => rfl) (fun z => absurd z q)⟩, fun q => ?_⟩)
      have htN := ht.1
      have := hD.2.2.2 t htN
      rw [sp_cl (n := t) (by omega), hf t htN]
      exact ⟨sp_vp (by omega) (by omega), _, rfl, ref _ t ht (fun z => absurd q z) (fun _ => rfl)⟩
    · refine ⟨_, rfl, e_X11_farthest l sc M _ _ _ ?_⟩
      refine r_isScaleR hMR (fun _ _ _ => ⟨1, rfl, fun h => absurd h (by decide), fun _ => ?_⟩) (fun q => absurd rfl (q s hs))
      exact r_in (fun c1 c2 => absurd ⟨c1, c2⟩ c) (fun _ => ⟨0, rfl, fun h => absurd rfl h, fun _ => ⟨rfl, hI0⟩⟩)
  · exact ⟨_, rfl, e_X11_farthest l sc M _ _ _ (r_isScaleR hMR (fun s hs e => absurd e (hno s hs)) (fun _ => ⟨0, rfl, fun _ => ⟨rfl, hI0⟩, fun h => absurd rfl h⟩))⟩
end SP14

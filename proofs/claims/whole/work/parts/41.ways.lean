section SP12
variable {l : Launch} {sc : Nat × (Nat → Int32)} {Q : Option Value → gl_N → Prop} {B : sp_B}
/-- two scales share a part -/
def sp_E (B : sp_B) (s t : Nat) : Prop := ∃ k p, k < sp_pn B s ∧ p < sp_pn B t ∧ sp_pl B t p = sp_pl B s k ∧ sp_pi B t p = sp_pi B s k
theorem sp_same_iff {s k t p : Nat} : sp_same B s k t p = true ↔ sp_pl B t p = sp_pl B s k ∧ sp_pi B t p = sp_pi B s k := by
  simp only [sp_same, Bool.and_eq_true, beq_iff_eq]
theorem sp_E_some {s k t p : Nat} (hk : k < sp_pn B s) (h : sp_sp B s k t = some p) : sp_E B s t := by
  obtain ⟨h1, h2, h3⟩ := sp_fs_some _ _ _ h
  obtain ⟨h4, h5⟩ := sp_same_iff.mp h3
  exact ⟨k, p, hk, by omega, h4, h5⟩
theorem sp_E_none {s t : Nat} (h : ∀ k, k < sp_pn B s → sp_sp B s k t = none) : ¬ sp_E B s t := by
  rintro ⟨k, p, hk, hp, h4, h5⟩
  have := sp_fs_none _ _ (h k hk) p (Nat.zero_le _) (by omega)
  rw [sp_same_iff.mpr ⟨h4, h5⟩] at this
  cases this
theorem r_sharesSome {M : gl_N} (h : sp_MC B M) {s t : Nat} (hs : s < 24 * sp_nm B) (ht : t < 24 * sp_nm B) (K1 : sp_E B s t → Q (some (.int 1)) M) (K0 : ¬ sp_E B s t → Q (some (.int 0)) M) : gr l sc m_X9_sharesSome [.ref 32, .int (nI s), .int (nI t)] M Q := by
  have h4 := (sp_sc h.1 hs).2.2.2.1
  have h5 := (sp_sc h.1 ht).2.2.2.1
  have key : ∀ (r k : Nat), k + r = sp_pn B s → (∀ k', k' < k → sp_sp B s k' t = none) → gv l sc m_X9_sharesSome 2 [.ref 32, .int (nI s), .int (nI t), .int (nI k)] [] M Q := by
    intro r
    induction r with
    | zero =>
      intro k hk hno
      have : k = sp_pn B s := by omega
      subst this
      exact w_X9_sharesSome_2 l sc M Q _ _ _ (r_partsOf h hs ⟨_, rfl, fun _ => K0 (sp_E_none hno), fun q => absurd (Int32.le_refl _) q⟩)
    | succ r ih =>
      intro k hk hno
      refine w_X9_sharesSome_2 l sc M Q _ _ _ (r_partsOf h hs ⟨_, rfl, fun q => absurd q (sp_le_lit (by omega) (by omega) (by omega)), fun _ => r_samePart h hs (by omega) ht ⟨_, rfl, ?_⟩⟩)
      rw [nI_1]
      cases hsp : sp_sp B s k t with
      | none =>
        refine ⟨fun _ => ih _ (by omega) (fun k' hk' => ?_), fun q => absurd rfl q⟩
        by_cases e : k' = k
        · subst e; exact hsp
        · exact hno k' (by omega)
      | some p =>
        have hp := sp_sp_lt hsp
        exact ⟨fun q => absurd q (sp_neg1 (by omega)), fun _ => K1 (sp_E_some (by omega) hsp)⟩
  exact e_X9_sharesSome l sc M Q _ _ (key _ 0 (Nat.zero_add _) (fun k hk => absurd hk (Nat.not_lt_zero _)))
theorem r_share {M : gl_N} (h : sp_MR B M) {s t : Nat} (hs : s < 24 * sp_nm B) (ht : t < 24 * sp_nm B) (K1 : sp_E B s t → Q (some (.int 1)) M) (K0 : ¬ sp_E B s t → Q (some (.int 0)) M) : gr l sc m_X11_share [.ref 42, .int (nI s), .int (nI t)] M Q := by
  have h4 := (sp_sc h.1 hs).2.2.2.1
  have h5 := (sp_sc h.1 ht).2.2.2.1
  have h10 : ¬ (1 : Int32) = 0 := by decide
  have key1 : sp_E B s t → ∀ (r k : Nat), k + r = sp_pn B s → gv l sc m_X11_share 5 [.ref 42, .int (nI s), .int (nI t), .int 1, .int (nI k)] [] M Q := by
    intro hE r
    induction r with
    | zero =>
      intro k hk
      have : k = sp_pn B s := by omega
      subst this
      exact w_X11_share_5 l sc M Q _ _ _ _ (r_parts h hs ⟨_, rfl, fun _ => ⟨Or.inr rfl, K1 hE⟩, fun q => absurd (Int32.le_refl _) q⟩)
    | succ r ih =>
      intro k hk
      refine w_X11_share_5 l sc M Q _ _ _ _ (r_parts h hs ⟨_, rfl, fun q => absurd q (sp_le_lit (by omega) (by omega) (by omega)), fun _ => ⟨fun _ => ?_, fun q => absurd q h10⟩⟩)
      rw [nI_1]
      exact ih _ (by omega)
  have key : ∀ (r k : Nat), k + r = sp_pn B s → (∀ k', k' < k → sp_sp B s k' t = none) → gv l sc m_X11_share 5 [.ref 42, .int (nI s), .int (nI t), .int 0, .int (nI k)] [] M Q := by
    intro r
    induction r with
    | zero =>
      intro k hk hno
      have : k = sp_pn B s := by omega
      subst this
      exact w_X11_share_5 l sc M Q _ _ _ _ (r_parts h hs ⟨_, rfl, fun _ => ⟨Or.inl rfl, K0 (sp_E_none hno)⟩, fun q => absurd (Int32.le_refl _) q⟩)
    | succ r ih =>
      intro k hk hno
      refine w_X11_share_5 l sc M Q _ _ _ _ (r_parts h hs ⟨_, rfl, fun q => absurd q (sp_le_lit (by omega) (by omega) (by omega)), fun _ => ⟨fun q => absurd rfl q, fun _ => r_sameIn h hs (by omega) ht ⟨_, rfl, ?_⟩⟩⟩)
      rw [nI_1]
      cases hsp : sp_sp B s k t with
      | none =>
        refine ⟨fun _ => ih _ (by omega) (fun k' hk' => ?_), fun q => absurd rfl q⟩
        by_cases e : k' = k
        · subst e; exact hsp
        · exact hno k' (by omega)
      | some p =>
        have hp := sp_sp_lt hsp
        exact ⟨fun q => absurd q (sp_neg9 (by omega)), fun _ => key1 (sp_E_some (by omega) hsp) r _ (by omega)⟩
  exact e_X11_share l sc M Q _ _ (key _ 0 (Nat.zero_add _) (fun k hk => absurd hk (Nat.not_lt_zero _)))
/-! the class's search -/
def sp_wm (B : sp_B) (M : gl_N) (X : bf_X) : Prop := M 32 3 = nI X.1 ∧ (∀ i, i < X.1 → M 34 i = nI (X.2.1 i)) ∧ ∀ t, t < 24 * sp_nm B → M 33 t = nI (X.2.2 t)
def sp_wr (M0 M : gl_N) : Prop := (∀ a, a ≠ 32 → a ≠ 33 → a ≠ 34 → M a = M0 a) ∧ ∀ j, j ≠ 3 → M 32 j = M0 32 j
theorem sp_wr.mc {M0 M : gl_N} (h : sp_wr M0 M) (k : sp_MC B M0) : sp_MC B M := by
  obtain ⟨k1, k2⟩ := k
  refine ⟨k1, ?_⟩
  rw [h.1 12 (by decide) (by decide) (by decide), h.1 13 (by decide) (by decide) (by decide), h.1 14 (by decide) (by decide) (by decide), h.1 15 (by decide) (by decide) (by decide), h.1 16 (by decide) (by decide) (by decide), h.1 17 (by decide) (by decide) (by decide), h.1 18 (by decide) (by decide) (by decide), h.1 19 (by decide) (by decide) (by decide)]
  exact k2
theorem sp_wr.rf (M : gl_N) : sp_wr M M := ⟨fun _ _ _ _ => rfl, fun _ _ => rfl⟩
theorem sp_wr.tr {A C D : gl_N} (h : sp_wr A C) (k : sp_wr C D) : sp_wr A D := ⟨fun a a1 a2 a3 => (k.1 a a1 a2 a3).trans (h.1 a a1 a2 a3), fun j hj => (k.2 j hj).trans (h.2 j hj)⟩
theorem r_enq {M : gl_N} {X : bf_X} {s h v t : Nat} (hw : sp_wf B) (hm : sp_wm B M X) (hJ : bf_J (24 * sp_nm B) (sp_E B) s h X) (ht : t < 24 * sp_nm B) (hv : v ≤ 1000) (K : ∀ M' : gl_N, sp_wr M M' → sp_wm B M' (bf_enq X t v) → Q none M') : gr l sc m_X9_enqueue [.ref 32, .int (nI t), .int (nI v)] M Q := by
  obtain ⟨m1, m2, m3⟩ := hm
  have hm6 : sp_nm B ≤ 6 := hw.2.2.1
  have hf : X.2.2 t ≤ 1000 := by
    by_cases h0 : X.2.2 t = 0
    · omega
    · obtain ⟨i, hi, e⟩ := hJ.2.2.1 t ht h0
      have h1 := (hJ.2.1 i hi).2.2
      have h2 := bf_cnt_le X.2.2 (24 * sp_nm B)
      have h3 := hJ.2.2.2.1
      rw [e] at h1
      omega
  refine e_X9_enqueue l sc M Q _ _ ?_
  rw [sp_cl (n := t) (by omega), m3 t ht]
  refine ⟨sp_vp (by omega) (by omega), fun hne => K M (sp_wr.rf M) ?_, fun he => ?_⟩
  · have h0 : ¬ X.2.2 t = 0 := fun q => hne (by rw [q]; rfl)
    unfold bf_enq
    rw [if_neg h0]
    exact ⟨m1, m2, m3⟩
  · have h0 : X.2.2 t = 0 := (sp_eq (N := 0) (by omega) (by omega)).mp he
    have hR : X.1 < 24 * sp_nm B := by rw [hJ.2.2.2.1]; exact bf_cnt_lt _ h0 _ ht
    rw [m1, sp_cl (n := X.1) (by omega), nI_1]
    refine ⟨fun q => absurd q (sp_le_lit (N := 144) (by omega) (by omega) (by omega)), fun _ => ⟨⟨sp_vp (by omega) (by omega), sp_vp (by omega) (by omega)⟩, K _ ⟨fun a a1 a2 a3 => ?_, fun j hj => ?_⟩ ?_⟩⟩
    · simp [gl_u2, gl_u1, a1, a2, a3]
    · show (if j = 3 then _ else M 32 j) = M 32 j
      rw [if_neg hj]
    · unfold bf_enq
      rw [if_pos h0]
      refine ⟨rfl, fun i hi => ?_, fun u hu => ?_⟩
      · show (if i = X.1 then nI t else M 34 i) = nI (if i = X.1 then t else X.2.1 i)
        have hi' : i < X.1 + 1 := hi
        by_cases e : i = X.1
        · rw [if_pos e, if_pos e]
        · rw [if_neg e, if_neg e]; exact m2 i (by omega)
      · show (if u = t then nI v else M 33 u) = nI (if u = t then v else X.2.2 u)
        by_cases e : u = t
        · rw [if_pos e, if_pos e]
        · rw [if_neg e, if_neg e]; exact m3 u hu
theorem r_es {M : gl_N} {X : bf_X} {s h k : Nat} (hC : sp_MC B M) (hm : sp_wm B M X) (hJ : bf_J (24 * sp_nm B) (sp_E B) s h X) (hh : h < X.1) (hk : k < sp_pn B (X.2.1 h))
    (K : ∀ (M' : gl_N) (X' : bf_X), sp_wr M M' → sp_wm B M' X' → bf_J (24 * sp_nm B) (sp_E B) s h X' → bf_ext X X' → (∀ t p, t < 24 * sp_nm B → p < sp_pn B t → sp_pl B t p = sp_pl B (X.2.1 h) k → sp_pi B t p = sp_pi B (X.2.1 h) k → X'.2.2 t ≠ 0) → Q none M') : gr l sc m_X9_enqueueSharers [.ref 32, .int (nI (X.2.1 h)), .int (nI k)] M Q := by
  have hu : X.2.1 h < 24 * sp_nm B := (hJ.2.1 h hh).1
  have hw := hC.1
  have hm6 : sp_nm B ≤ 6 := hw.2.2.1
  have hlt := sp_pl_lt hw hu hk
  have hpi := sp_pi_le hw hu hk
  refine e_X9_enqueueSharers l sc M Q _ _ (r_cellAt hC hu hk ⟨_, rfl, r_pitchAt hC hu hk ⟨_, rfl, ?_⟩⟩)
  have outer : ∀ (r m : Nat) (M1 : gl_N) (X1 : bf_X), m + r = sp_nm B → sp_wr M M1 → sp_wm B M1 X1 → bf_J (24 * sp_nm B) (sp_E B) s h X1 → bf_ext X X1 → (∀ t p, t < 24 * sp_nm B → p < sp_pn B t → t / 24 < m → sp_pl B t p = sp_pl B (X.2.1 h) k → sp_pi B t p = sp_pi B (X.2.1 h) k → X1.2.2 t ≠ 0) →
      gv l sc m_X9_enqueueSharers 24 [.ref 32, .int (nI (X.2.1 h)), .int (nI k), .int (nI (sp_pl B (X.2.1 h) k)), .int (nI (sp_pi B (X.2.1 h) k)), .int (nI m), .float 0, .float 0] [] M1 Q := by
    intro r
    induction r with
    | zero =>
      intro m M1 X1 hmr hr hm1 hJ1 hx hcov
      refine w_X9_enqueueSharers_24 l sc M1 Q _ _ _ _ _ ?_
      have eNM : M1 12 5 = nI (sp_nm B) := (hr.mc hC).2.2.1
      rw [eNM]
      exact ⟨fun _ => K M1 X1 hr hm1 hJ1 hx (fun t p ht hp e1 e2 => hcov t p ht hp (by omega) e1 e2), fun q => absurd ((sp_le (by omega) (by omega)).mpr (by omega)) q⟩
    | succ r ih =>
      intro m M1 X1 hmr hr hm1 hJ1 hx hcov
      refine w_X9_enqueueSharers_24 l sc M1 Q _ _ _ _ _ ?_
      have eNM : M1 12 5 = nI (sp_nm B) := (hr.mc hC).2.2.1
      rw [eNM]
      refine ⟨fun q => absurd q (sp_le_lit (by omega) (by omega) (by omega)), fun _ => ?_⟩
      have hmm : m < sp_nm B := by omega
      have hpm := (hw.2.2.2 m hmm).2.1
      have inner : ∀ (rr p : Nat) (M2 : gl_N) (X2 : bf_X), p + rr = B.2.2.2.2.1 m → sp_wr M M2 → sp_wm B M2 X2 → bf_J (24 * sp_nm B) (sp_E B) s h X2 → bf_ext X X2 → (∀ t p', t < 24 * sp_nm B → p' < sp_pn B t → (t / 24 < m ∨ (t / 24 = m ∧ p' < p)) → sp_pl B t p' = sp_pl B (X.2.1 h) k → sp_pi B t p' = sp_pi B (X.2.1 h) k → X2.2.2 t ≠ 0) →
          gv l sc m_X9_enqueueSharers 39 [.ref 32, .int (nI (X.2.1 h)), .int (nI k), .int (nI (sp_pl B (X.2.1 h) k)), .int (nI (sp_pi B (X.2.1 h) k)), .int (nI m), .int (nI p), .float 0] [] M2 Q := by
        intro rr
        induction rr with
        | zero =>
          intro p M2 X2 hpr hr2 hm2 hJ2 hx2 hcov2
          have hC2 := hr2.mc hC
          refine w_X9_enqueueSharers_39 l sc M2 Q _ _ _ _ _ _ ?_
          rw [sp_cl (n := m) (by omega), (hC2.2.2.2.2 m hmm).1, nI_1]
          refine ⟨sp_vp (by omega) (by omega), fun _ => ih (m + 1) M2 X2 (by omega) hr2 hm2 hJ2 hx2 (fun t p' ht hp' hlt' e1 e2 => ?_), fun q => absurd ((sp_le (by omega) (by omega)).mpr (by omega)) q⟩
          refine hcov2 t p' ht hp' ?_ e1 e2
          by_cases e : t / 24 = m
          · refine Or.inr ⟨e, ?_⟩
            have : sp_pn B t = B.2.2.2.2.1 m := by unfold sp_pn; rw [e]
            omega
          · exact Or.inl (by omega)
        | succ rr ihr =>
          intro p M2 X2 hpr hr2 hm2 hJ2 hx2 hcov2
          have hC2 := hr2.mc hC
          have hp : p < B.2.2.2.2.1 m := by omega
          obtain ⟨d1, d2⟩ := (hC2.2.2.2.2 m hmm).2 p hp
          have e4 : nI m * 4 + nI p = nI (4 * m + p) := by rw [show (4 : Int32) = nI 4 from rfl, sp_mul, nI_add, Nat.mul_comm]
          have hph := sp_ph_le hw hmm p hp
          have hpl : B.2.2.2.2.2.1 m p < B.1 := (hw.2.2.2 m hmm).2.2.2.1 p hp
          refine w_X9_enqueueSharers_39 l sc M2 Q _ _ _ _ _ _ ?_
          rw [sp_cl (n := m) (by omega), (hC2.2.2.2.2 m hmm).1, e4, sp_cl (n := 4 * m + p) (by omega), d1, d2, nI_1, nI_1, sp_eq (by omega) (by omega)]
          -- a part that does not match leaves the cover as it is
          have skip : ¬ (B.2.2.2.2.2.1 m p = sp_pl B (X.2.1 h) k ∧ ∃ rt, rt < 24 ∧ sp_pi B (X.2.1 h) k = rt + B.2.2.2.2.2.2 m p) → ∀ t p', t < 24 * sp_nm B → p' < sp_pn B t → (t / 24 < m ∨ (t / 24 = m ∧ p' < p + 1)) → sp_pl B t p' = sp_pl B (X.2.1 h) k → sp_pi B t p' = sp_pi B (X.2.1 h) k → X2.2.2 t ≠ 0 := by
            intro hno t p' ht hp' hor e1 e2
            refine hcov2 t p' ht hp' ?_ e1 e2
            rcases hor with ho | ⟨ho, ho2⟩
            · exact Or.inl ho
            · refine Or.inr ⟨ho, ?_⟩
              by_cases e : p' = p
              · exfalso
                subst e
                unfold sp_pl at e1
                unfold sp_pi at e2
                rw [ho] at e1 e2
                exact hno ⟨e1, t % 24, Nat.mod_lt _ (by omega), e2.symm⟩
              · omega
          refine ⟨sp_vp (by omega) (by omega), fun q => absurd q (sp_le_lit (by omega) (by omega) (by omega)), fun _ => ⟨⟨sp_vp (by omega) (by omega), sp_vp (by omega) (by omega)⟩, fun hne => ihr (p + 1) M2 X2 (by omega) hr2 hm2 hJ2 hx2 (skip (fun z => hne z.1)), fun he => ?_⟩⟩
          have hsub : B.2.2.2.2.2.2 m p ≤ sp_pi B (X.2.1 h) k → nI (sp_pi B (X.2.1 h) k) - nI (B.2.2.2.2.2.2 m p) = nI (sp_pi B (X.2.1 h) k - B.2.2.2.2.2.2 m p) := fun hle => by
            have : nI (sp_pi B (X.2.1 h) k) = nI (sp_pi B (X.2.1 h) k - B.2.2.2.2.2.2 m p) + nI (B.2.2.2.2.2.2 m p) := by rw [nI_add]; congr 1; omega
            rw [this, Int32.add_sub_cancel]
          have hneg : ¬ B.2.2.2.2.2.2 m p ≤ sp_pi B (X.2.1 h) k → nI (sp_pi B (X.2.1 h) k) - nI (B.2.2.2.2.2.2 m p) < 0 := fun hle => by
            rw [Int32.lt_iff_toInt_lt, Int32.toInt_sub, nI_toInt (by omega), nI_toInt (by omega)]
            have e0 : (0 : Int32).toInt = 0 := rfl
            rw [e0, Int.bmod_eq_of_le (by omega) (by omega)]
            omega
          refine r_within (fun c1 c2 => ⟨1, rfl, fun q => absurd q (by decide), fun _ => ?_⟩) (fun c => ⟨0, rfl, fun _ => ihr (p + 1) M2 X2 (by omega) hr2 hm2 hJ2 hx2 (skip ?_), fun q => absurd rfl q⟩)
          · have hle : B.2.2.2.2.2.2 m p ≤ sp_pi B (X.2.1 h) k := by
              by_cases hle : B.2.2.2.2.2.2 m p ≤ sp_pi B (X.2.1 h) k
              · exact hle
              · exact absurd c1 (Int32.not_le.mpr (hneg hle))
            rw [hsub hle] at c2 ⊢
            have hrt : sp_pi B (X.2.1 h) k - B.2.2.2.2.2.2 m p ≤ 23 := (sp_le (N := 23) (by omega) (by omega)).mp c2
            have hhX2 : h < X2.1 := Nat.lt_of_lt_of_le hh hx2.1
            have hq2 : X2.2.1 h = X.2.1 h := hx2.2.1 h hh
            have ht : m * 24 + (sp_pi B (X.2.1 h) k - B.2.2.2.2.2.2 m p) < 24 * sp_nm B := by omega
            generalize htd : m * 24 + (sp_pi B (X.2.1 h) k - B.2.2.2.2.2.2 m p) = t at ht
            have t1 : t / 24 = m := by omega
            have t2 : t % 24 = sp_pi B (X.2.1 h) k - B.2.2.2.2.2.2 m p := by omega
            have g1 : sp_pl B t p = sp_pl B (X.2.1 h) k := by unfold sp_pl; rw [t1]; exact he
            have g2 : sp_pi B t p = sp_pi B (X.2.1 h) k := by
              have : sp_pi B t p = t % 24 + B.2.2.2.2.2.2 (t / 24) p := rfl
              rw [this, t1, t2]; omega
            have g3 : p < sp_pn B t := by unfold sp_pn; rw [t1]; exact hp
            have hE : sp_E B (X2.2.1 h) t := by rw [hq2]; exact ⟨k, p, hk, g3, g1, g2⟩
            have e24 : nI m * 24 + nI (sp_pi B (X.2.1 h) k - B.2.2.2.2.2.2 m p) = nI t := by rw [show (24 : Int32) = nI 24 from rfl, sp_mul, nI_add, htd]
            rw [sp_cl (n := X.2.1 h) (by omega), hm2.2.2 _ hu, e24, nI_1]
            refine ⟨sp_vp (by omega) (by omega), r_enq (v := X2.2.2 (X.2.1 h) + 1) hw hm2 hJ2 ht ?_ (fun M3 hr3 hm3 => ⟨rfl, ?_⟩)⟩
            · have h1 := (hJ2.2.1 h hhX2).2.2
              have h2 := bf_cnt_le X2.2.2 (24 * sp_nm B)
              have h3 := hJ2.2.2.2.1
              rw [hq2] at h1
              omega
            · obtain ⟨j1, j2, j3⟩ := bf_J_enq hJ2 hhX2 ht hE
              rw [hq2] at j1 j2 j3
              refine ihr (p + 1) M3 _ (by omega) (hr2.tr hr3) hm3 j1 (hx2.tr j2) (fun t' p' ht' hp' hor e1 e2 => ?_)
              by_cases e : t' = t
              · rw [e]; exact j3
              · have : X2.2.2 t' ≠ 0 := by
                  refine hcov2 t' p' ht' hp' ?_ e1 e2
                  rcases hor with ho | ⟨ho, ho2⟩
                  · exact Or.inl ho
                  · refine Or.inr ⟨ho, ?_⟩
                    by_cases e5 : p' = p
                    · exfalso
                      subst e5
                      have u1 : sp_pi B t' p' = t' % 24 + B.2.2.2.2.2.2 (t' / 24) p' := rfl
                      rw [ho] at u1
                      have e6 : t' % 24 = t % 24 := by rw [t2]; exact Nat.eq_sub_of_add_eq (by rw [← u1, e2])
                      exact e (by rw [← Nat.div_add_mod t' 24, ← Nat.div_add_mod t 24, ho, t1, e6])
                    · clear skip; omega
                rw [j2.2.2 t' this]; exact this
          · rintro ⟨-, rt, hrt, e5⟩
            have hle : B.2.2.2.2.2.2 m p ≤ sp_pi B (X.2.1 h) k := by omega
            rw [hsub hle] at c
            exact c ⟨nI_pos' (by omega), (sp_le (N := 23) (by omega) (by omega)).mpr (by omega)⟩
      exact inner _ 0 M1 X1 (Nat.zero_add _) hr hm1 hJ1 hx (fun t p' ht hp' hor e1 e2 => hcov t p' ht hp' (by omega) e1 e2)
  exact outer _ 0 M X (Nat.zero_add _) (sp_wr.rf M) hm hJ (bf_ext.rf X) (fun t p ht hp hlt' => absurd hlt' (Nat.not_lt_zero _))
end SP12

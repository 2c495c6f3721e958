section SP13
variable {l : Launch} {sc : Nat × (Nat → Int32)} {Q : Option Value → gl_N → Prop} {B : sp_B}
def sp_fl (M : gl_N) (a : Nat) (v : Int32) (k n : Nat) : gl_N := gl_u1 M a (fun q => if k ≤ q ∧ q < n then v else M a q)
theorem sp_fl_end (M : gl_N) (a : Nat) (v : Int32) (n : Nat) : sp_fl M a v n n = M := by
  funext b
  by_cases hb : b = a
  · subst hb
    funext q
    simp only [sp_fl, gl_u1, if_true]
    rw [if_neg (by omega)]
  · simp [sp_fl, gl_u1, hb]
theorem sp_fl_step (M : gl_N) {a : Nat} {v : Int32} {k n : Nat} (hk : k < n) : sp_fl (gl_u2 M a k v) a v (k + 1) n = sp_fl M a v k n := by
  funext b
  by_cases hb : b = a
  · subst hb
    funext q
    simp only [sp_fl, gl_u2, gl_u1, if_true, upd]
    by_cases e : q = k
    · rw [if_neg (by omega), if_pos e, if_pos (by omega)]
    · by_cases e2 : k ≤ q ∧ q < n
      · rw [if_pos e2, if_pos (by omega)]
      · rw [if_neg e2, if_neg (by omega), if_neg e]
  · simp [sp_fl, gl_u2, gl_u1, hb]
theorem r_fill_27 {M : gl_N} {v : Int32} (K : Q none (sp_fl M 27 v 0 2)) : gr l sc m_J_fill [.ref 27, .int v] M Q := by
  have key : ∀ (r k : Nat) (M : gl_N), k + r = 2 → Q none (sp_fl M 27 v k 2) → gv l sc m_J_fill 5 [.ref 27, .int v, .int (nI k), .int 2] [] M Q := by
    intro r
    induction r with
    | zero =>
      intro k M hk K
      have : k = 2 := by omega
      subst this
      rw [sp_fl_end] at K
      exact w_J_fill_27_5 l sc M Q _ _ _ ⟨fun _ => K, fun q => absurd (show nI 2 ≤ nI 2 from Int32.le_refl _) q⟩
    | succ r ih =>
      intro k M hk K
      refine w_J_fill_27_5 l sc M Q _ _ _ ⟨fun q => absurd q (sp_le_lit (N := 2) (by omega) (by omega) (by omega)), fun _ => ?_⟩
      rw [sp_cl (n := k) (by omega), nI_1]
      refine ⟨sp_vp (by omega) (by omega), ih (k + 1) _ (by omega) ?_⟩
      rw [sp_fl_step M (by omega)]
      exact K
  exact e_J_fill_27 l sc M Q _ (key 2 0 M rfl K)
theorem r_fill_33 {M : gl_N} {v : Int32} (K : Q none (sp_fl M 33 v 0 144)) : gr l sc m_J_fill [.ref 33, .int v] M Q := by
  have key : ∀ (r k : Nat) (M : gl_N), k + r = 144 → Q none (sp_fl M 33 v k 144) → gv l sc m_J_fill 5 [.ref 33, .int v, .int (nI k), .int 144] [] M Q := by
    intro r
    induction r with
    | zero =>
      intro k M hk K
      have : k = 144 := by omega
      subst this
      rw [sp_fl_end] at K
      exact w_J_fill_33_5 l sc M Q _ _ _ ⟨fun _ => K, fun q => absurd (show nI 144 ≤ nI 144 from Int32.le_refl _) q⟩
    | succ r ih =>
      intro k M hk K
      refine w_J_fill_33_5 l sc M Q _ _ _ ⟨fun q => absurd q (sp_le_lit (N := 144) (by omega) (by omega) (by omega)), fun _ => ?_⟩
      rw [sp_cl (n := k) (by omega), nI_1]
      refine ⟨sp_vp (by omega) (by omega), ih (k + 1) _ (by omega) ?_⟩
      rw [sp_fl_step M (by omega)]
      exact K
  exact e_J_fill_33 l sc M Q _ (key 144 0 M rfl K)
theorem r_fill_37 {M : gl_N} {v : Int32} (K : Q none (sp_fl M 37 v 0 486)) : gr l sc m_J_fill [.ref 37, .int v] M Q := by
  have key : ∀ (r k : Nat) (M : gl_N), k + r = 486 → Q none (sp_fl M 37 v k 486) → gv l sc m_J_fill 5 [.ref 37, .int v, .int (nI k), .int 486] [] M Q := by
    intro r
    induction r with
    | zero =>
      intro k M hk K
      have : k = 486 := by omega
      subst this
      rw [sp_fl_end] at K
      exact w_J_fill_37_5 l sc M Q _ _ _ ⟨fun _ => K, fun q => absurd (show nI 486 ≤ nI 486 from Int32.le_refl _) q⟩
    | succ r ih =>
      intro k M hk K
      refine w_J_fill_37_5 l sc M Q _ _ _ ⟨fun q => absurd q (sp_le_lit (N := 486) (by omega) (by omega) (by omega)), fun _ => ?_⟩
      rw [sp_cl (n := k) (by omega), nI_1]
      refine ⟨sp_vp (by omega) (by omega), ih (k + 1) _ (by omega) ?_⟩
      rw [sp_fl_step M (by omega)]
      exact K
  exact e_J_fill_37 l sc M Q _ (key 486 0 M rfl K)
theorem r_fill_41 {M : gl_N} {v : Int32} (K : Q none (sp_fl M 41 v 0 486)) : gr l sc m_J_fill [.ref 41, .int v] M Q := by
  have key : ∀ (r k : Nat) (M : gl_N), k + r = 486 → Q none (sp_fl M 41 v k 486) → gv l sc m_J_fill 5 [.ref 41, .int v, .int (nI k), .int 486] [] M Q := by
    intro r
    induction r with
    | zero =>
      intro k M hk K
      have : k = 486 := by omega
      subst this
      rw [sp_fl_end] at K
      exact w_J_fill_41_5 l sc M Q _ _ _ ⟨fun _ => K, fun q => absurd (show nI 486 ≤ nI 486 from Int32.le_refl _) q⟩
    | succ r ih =>
      intro k M hk K
      refine w_J_fill_41_5 l sc M Q _ _ _ ⟨fun q => absurd q (sp_le_lit (N := 486) (by omega) (by omega) (by omega)), fun _ => ?_⟩
      rw [sp_cl (n := k) (by omega), nI_1]
      refine ⟨sp_vp (by omega) (by omega), ih (k + 1) _ (by omega) ?_⟩
      rw [sp_fl_step M (by omega)]
      exact K
  exact e_J_fill_41 l sc M Q _ (key 486 0 M rfl K)
/-- what the class keeps of ways -/
def sp_W : sp_WY := fun B src len => src = -1 ∨ ∃ (s : Nat) (f : Nat → Nat), s < 24 * sp_nm B ∧ src = nI s ∧ bf_D (24 * sp_nm B) (sp_E B) s f ∧ ∀ t, t < 24 * sp_nm B → len t = nI (f t)
theorem r_measure {M : gl_N} (hC : sp_MC B M) (hW : sp_W B (M 32 4) (M 33)) {s : Nat} (hs : s < 24 * sp_nm B) (K : ∀ (M' : gl_N) (f : Nat → Nat), (∀ a, a ≠ 32 → a ≠ 33 → a ≠ 34 → M' a = M a) → M' 32 4 = nI s → bf_D (24 * sp_nm B) (sp_E B) s f → (∀ t, t < 24 * sp_nm B → M' 33 t = nI (f t)) → Q none M') : gr l sc m_X9_measureFrom [.ref 32, .int (nI s)] M Q := by
  have hw := hC.1
  have hm6 : sp_nm B ≤ 6 := hw.2.2.1
  refine e_X9_measureFrom l sc M Q _ ⟨fun hne => ?_, fun he => ?_⟩
  · refine r_fill_33 ⟨rfl, ?_⟩
    refine e_X9_enqueue l sc _ _ _ _ ?_
    rw [sp_cl (n := s) (by omega)]
    have z0 : (gl_u2 (sp_fl (gl_u2 M 32 4 (nI s)) 33 0 0 144) 32 3 0) 33 s = 0 := by
      show (if 0 ≤ s ∧ s < 144 then (0 : Int32) else M 33 s) = 0
      rw [if_pos (by omega)]
    refine ⟨sp_vp (by omega) (by omega), fun q => absurd z0 q, fun _ => ⟨fun q => absurd q (by show ¬ (144 : Int32) ≤ 0; decide), fun _ => ⟨⟨sp_vp (by omega) (by omega), by show vp_in 0 144; unfold vp_in; decide⟩, rfl, ?_⟩⟩⟩
    generalize hM0 : gl_u2 (gl_u2 (gl_u2 (gl_u2 (sp_fl (gl_u2 M 32 4 (nI s)) 33 0 0 144) 32 3 0) 33 s 1) 34 ((gl_u2 (sp_fl (gl_u2 M 32 4 (nI s)) 33 0 0 144) 32 3 0) 32 3).toNatClampNeg (nI s)) 32 3 ((gl_u2 (sp_fl (gl_u2 M 32 4 (nI s)) 33 0 0 144) 32 3 0) 32 3 + 1) = M0
    have f0 : ∀ a, a ≠ 32 → a ≠ 33 → a ≠ 34 → M0 a = M a := fun a a1 a2 a3 => by
      rw [← hM0]; simp [gl_u2, gl_u1, sp_fl, a1, a2, a3]
    have f4 : M0 32 4 = nI s := by rw [← hM0]; rfl
    have hm0 : sp_wm B M0 (1, fun _ => s, bf_u (fun _ => 0) s 1) := by
      rw [← hM0]
      refine ⟨rfl, fun i hi => ?_, fun t ht => ?_⟩
      · have hi' : i < 1 := hi
        have : i = 0 := by omega
        subst this
        rfl
      · show (if t = s then (1 : Int32) else if 0 ≤ t ∧ t < 144 then 0 else M 33 t) = nI (if t = s then 1 else 0)
        by_cases e : t = s
        · rw [if_pos e, if_pos e]; rfl
        · rw [if_neg e, if_neg e, if_pos (by omega)]; rfl
    have hC0 : sp_MC B M0 := by
      refine ⟨hw, ?_⟩
      rw [f0 12 (by decide) (by decide) (by decide), f0 13 (by decide) (by decide) (by decide), f0 14 (by decide) (by decide) (by decide), f0 15 (by decide) (by decide) (by decide), f0 16 (by decide) (by decide) (by decide), f0 17 (by decide) (by decide) (by decide), f0 18 (by decide) (by decide) (by decide), f0 19 (by decide) (by decide) (by decide)]
      exact hC.2
    have done : ∀ (M1 : gl_N) (X : bf_X), sp_wr M0 M1 → sp_wm B M1 X → bf_J (24 * sp_nm B) (sp_E B) s X.1 X → Q none M1 := fun M1 X hr hm hJ =>
      K M1 X.2.2 (fun a a1 a2 a3 => (hr.1 a a1 a2 a3).trans (f0 a a1 a2 a3)) ((hr.2 4 (by decide)).trans f4) (bf_J_end hJ) hm.2.2
    have outer : ∀ (n h : Nat) (M1 : gl_N) (X : bf_X), h + n = 24 * sp_nm B → sp_wr M0 M1 → sp_wm B M1 X → bf_J (24 * sp_nm B) (sp_E B) s h X → gv l sc m_X9_measureFrom 35 [.ref 32, .int (nI s), .int (nI h), .float 0] [] M1 Q := by
      intro n
      induction n with
      | zero =>
        intro h M1 X hn hr hm hJ
        have hR : X.1 ≤ 24 * sp_nm B := by rw [hJ.2.2.2.1]; exact bf_cnt_le _ _
        have hle := hJ.2.2.2.2.2.1
        have e : h = X.1 := by omega
        subst e
        refine w_X9_measureFrom_35 l sc M1 Q _ _ ⟨fun _ => done M1 X hr hm hJ, fun q => absurd (by rw [hm.1]; exact Int32.le_refl _) q⟩
      | succ n ih =>
        intro h M1 X hn hr hm hJ
        have hR : X.1 ≤ 24 * sp_nm B := by rw [hJ.2.2.2.1]; exact bf_cnt_le _ _
        have hle := hJ.2.2.2.2.2.1
        refine w_X9_measureFrom_35 l sc M1 Q _ _ ⟨fun q => ?_, fun q => ⟨fun q2 => absurd q2 (sp_le_lit (N := 144) (by omega) (by omega) (by omega)), fun _ => ?_⟩⟩
        · rw [hm.1] at q
          have := (sp_le (by omega) (by omega)).mp q
          have e : h = X.1 := by omega
          subst e
          exact done M1 X hr hm hJ
        · rw [hm.1] at q
          have hh : h < X.1 := Nat.lt_of_not_le (fun z => q ((sp_le (by omega) (by omega)).mpr z))
          have hu : X.2.1 h < 24 * sp_nm B := (hJ.2.1 h hh).1
          have h4 := (sp_sc hw hu).2.2.2.1
          have inner : ∀ (r k : Nat) (M2 : gl_N) (X2 : bf_X), k + r = sp_pn B (X.2.1 h) → sp_wr M0 M2 → sp_wm B M2 X2 → bf_J (24 * sp_nm B) (sp_E B) s h X2 → bf_ext X X2 → (∀ k' t p, k' < k → t < 24 * sp_nm B → p < sp_pn B t → sp_pl B t p = sp_pl B (X.2.1 h) k' → sp_pi B t p = sp_pi B (X.2.1 h) k' → X2.2.2 t ≠ 0) → gv l sc m_X9_measureFrom 52 [.ref 32, .int (nI s), .int (nI h), .int (nI k)] [] M2 Q := by
            intro r
            induction r with
            | zero =>
              intro k M2 X2 hk hr2 hm2 hJ2 hx2 hcov
              have hh2 : h < X2.1 := Nat.lt_of_lt_of_le hh hx2.1
              have hq2 : X2.2.1 h = X.2.1 h := hx2.2.1 h hh
              refine w_X9_measureFrom_52 l sc M2 Q _ _ _ ?_
              rw [sp_cl (n := h) (by omega), hm2.2.1 h hh2, hq2, nI_1]
              refine ⟨sp_vp (by omega) (by omega), r_partsOf (hr2.mc hC0) hu ⟨_, rfl, fun _ => ih (h + 1) M2 X2 (by omega) hr2 hm2 (bf_J_next hJ2 hh2 (fun t ht hE => ?_)), fun q => absurd ((sp_le (by omega) (by omega)).mpr (by omega)) q⟩⟩
              rw [hq2] at hE
              obtain ⟨k', p, g1, g2, g3, g4⟩ := hE
              exact hcov k' t p (by omega) ht g2 g3 g4
            | succ r ihr =>
              intro k M2 X2 hk hr2 hm2 hJ2 hx2 hcov
              have hh2 : h < X2.1 := Nat.lt_of_lt_of_le hh hx2.1
              have hq2 : X2.2.1 h = X.2.1 h := hx2.2.1 h hh
              refine w_X9_measureFrom_52 l sc M2 Q _ _ _ ?_
              rw [sp_cl (n := h) (by omega), hm2.2.1 h hh2, hq2, nI_1, nI_1]
              refine ⟨sp_vp (by omega) (by omega), r_partsOf (hr2.mc hC0) hu ⟨_, rfl, fun q => absurd q (sp_le_lit (by omega) (by omega) (by omega)), fun _ => ⟨sp_vp (by omega) (by omega), ?_⟩⟩⟩
              rw [hm2.2.1 h hh2]
              refine r_es (hr2.mc hC0) hm2 hJ2 hh2 (by rw [hq2]; omega) (fun M3 X3 hr3 hm3 hJ3 hx3 hcov3 => ⟨rfl, ihr (k + 1) M3 X3 (by omega) (hr2.tr hr3) hm3 hJ3 (hx2.tr hx3) (fun k' t p hk' ht hp e1 e2 => ?_)⟩)
              by_cases e : k' = k
              · subst e
                rw [hq2] at hcov3
                exact hcov3 t p ht hp e1 e2
              · have := hcov k' t p (by omega) ht hp e1 e2
                rw [hx3.2.2 t this]
                exact this
          exact inner _ 0 M1 X (Nat.zero_add _) hr hm hJ (bf_ext.rf X) (fun k' t p hk' => absurd hk' (Nat.not_lt_zero _))
    exact outer _ 0 M0 _ (Nat.zero_add _) (sp_wr.rf M0) hm0 (bf_J_begin hs)
  · rcases hW with hW | ⟨s', f, h1, h2, h3, h4⟩
    · rw [hW] at he
      exact absurd he.symm (sp_neg1 (by omega))
    · rw [h2] at he
      have : s' = s := (sp_eq (by omega) (by omega)).mp he
      subst this
      exact K M f (fun _ _ _ _ => rfl) h2 h3 h4
/-! the reference's search -/
def sp_lm (B : sp_B) (M : gl_N) (X : bf_X) : Prop := (∀ i, i < X.1 → M 56 i = nI (X.2.1 i)) ∧ ∀ t, t < 24 * sp_nm B → M 55 t = nI (X.2.2 t)
def sp_lr (M0 M : gl_N) : Prop := ∀ a, a ≠ 55 → a ≠ 56 → M a = M0 a
theorem sp_lr.mr {M0 M : gl_N} (h : sp_lr M0 M) (k : sp_MR B M0) : sp_MR B M := by
  obtain ⟨k1, k2⟩ := k
  refine ⟨k1, ?_⟩
  rw [h 42 (by decide) (by decide), h 43 (by decide) (by decide), h 44 (by decide) (by decide), h 45 (by decide) (by decide)]
  exact k2
theorem sp_lr.tr {A C D : gl_N} (h : sp_lr A C) (k : sp_lr C D) : sp_lr A D := fun a a1 a2 => (k a a1 a2).trans (h a a1 a2)
theorem r_laysFar {M : gl_N} (hR : sp_MR B M) {s : Nat} (hs : s < 24 * sp_nm B) (K : ∀ (M' : gl_N) (f : Nat → Nat), sp_lr M M' → bf_D (24 * sp_nm B) (sp_E B) s f → (∀ t, t < 24 * sp_nm B → M' 55 t = nI (f t)) → Q none M') : gr l sc m_X11_laysFar [.ref 42, .int (nI s)] M Q := by
  have hw := hR.1
  have hm6 : sp_nm B ≤ 6 := hw.2.2.1
  have e24 : ∀ M1, sp_lr M M1 → (24 : Int32) * M1 42 2 = nI (24 * sp_nm B) := fun M1 hr => by
    have e : M1 42 2 = nI (sp_nm B) := (hr.mr hR).2.2.1
    rw [e, show (24 : Int32) = nI 24 from rfl, sp_mul]
  have outer : ∀ (n h : Nat) (M1 : gl_N) (X : bf_X), h + n = 24 * sp_nm B → sp_lr M M1 → sp_lm B M1 X → bf_J (24 * sp_nm B) (sp_E B) s h X → gv l sc m_X11_laysFar 44 [.ref 42, .int (nI s), .int (nI X.1), .int (nI h), .float 0] [] M1 Q := by
    intro n
    induction n with
    | zero =>
      intro h M1 X hn hr hm hJ
      have hRl : X.1 ≤ 24 * sp_nm B := by rw [hJ.2.2.2.1]; exact bf_cnt_le _ _
      have hle := hJ.2.2.2.2.2.1
      have e : h = X.1 := by omega
      subst e
      exact w_X11_laysFar_44 l sc M1 Q _ _ _ ⟨fun _ => K M1 X.2.2 hr (bf_J_end hJ) hm.2, fun q => absurd (Int32.le_refl _) q⟩
    | succ n ih =>
      intro h M1 X hn hr hm hJ
      have hRl : X.1 ≤ 24 * sp_nm B := by rw [hJ.2.2.2.1]; exact bf_cnt_le _ _
      have hle := hJ.2.2.2.2.2.1
      refine w_X11_laysFar_44 l sc M1 Q _ _ _ ⟨fun q => ?_, fun q => ?_⟩
      · have := (sp_le (by omega) (by omega)).mp q
        have e : h = X.1 := by omega
        subst e
        exact K M1 X.2.2 hr (bf_J_end hJ) hm.2
      · have hh : h < X.1 := Nat.lt_of_not_le (fun z => q ((sp_le (by omega) (by omega)).mpr z))
        have hu : X.2.1 h < 24 * sp_nm B := (hJ.2.1 h hh).1
        have inner : ∀ (r k : Nat) (M2 : gl_N) (X2 : bf_X), k + r = 24 * sp_nm B → sp_lr M M2 → sp_lm B M2 X2 → bf_J (24 * sp_nm B) (sp_E B) s h X2 → bf_ext X X2 → (∀ t, t < k → sp_E B (X.2.1 h) t → X2.2.2 t ≠ 0) → gv l sc m_X11_laysFar 52 [.ref 42, .int (nI s), .int (nI X2.1), .int (nI h), .int (nI k)] [] M2 Q := by
          intro r
          induction r with
          | zero =>
            intro k M2 X2 hk hr2 hm2 hJ2 hx2 hcov
            have hh2 : h < X2.1 := Nat.lt_of_lt_of_le hh hx2.1
            have hq2 : X2.2.1 h = X.2.1 h := hx2.2.1 h hh
            refine w_X11_laysFar_52 l sc M2 Q _ _ _ _ ?_
            rw [e24 M2 hr2, nI_1]
            refine ⟨fun _ => ih (h + 1) M2 X2 (by omega) hr2 hm2 (bf_J_next hJ2 hh2 (fun t ht hE => hcov t (by omega) (by rw [hq2] at hE; exact hE))), fun q => absurd ((sp_le (by omega) (by omega)).mpr (by omega)) q⟩
          | succ r ihr =>
            intro k M2 X2 hk hr2 hm2 hJ2 hx2 hcov
            have hh2 : h < X2.1 := Nat.lt_of_lt_of_le hh hx2.1
            have hq2 : X2.2.1 h = X.2.1 h := hx2.2.1 h hh
            have hkN : k < 24 * sp_nm B := by omega
            have hfb : X2.2.2 k ≤ 1000 := by
              by_cases h0 : X2.2.2 k = 0
              · omega
              · obtain ⟨i, hi, e⟩ := hJ2.2.2.1 k hkN h0
                have h1 := (hJ2.2.1 i hi).2.2
                have h2 := bf_cnt_le X2.2.2 (24 * sp_nm B)
                have h3 := hJ2.2.2.2.1
                rw [e] at h1
                omega
            refine w_X11_laysFar_52 l sc M2 Q _ _ _ _ ?_
            rw [e24 M2 hr2, sp_cl (n := k) (by omega), hm2.2 k hkN, sp_cl (n := h) (by omega), hm2.1 h hh2, hq2]
            have e1 : nI k + 1 = nI (k + 1) := nI_1 k
            rw [e1]
            refine ⟨fun q => absurd q (sp_le_lit (by omega) (by omega) (by omega)), fun _ => ⟨sp_vp (by omega) (by omega), fun hne => ihr (k + 1) M2 X2 (by omega) hr2 hm2 hJ2 hx2 (fun t ht hE => ?_), fun he => ⟨sp_vp (by omega) (by omega), r_share (hr2.mr hR) hu hkN (fun hE => ⟨1, rfl, fun q => absurd q (by decide), fun _ => ?_⟩) (fun hE => ⟨0, rfl, fun _ => ihr (k + 1) M2 X2 (by omega) hr2 hm2 hJ2 hx2 (fun t ht hE2 => ?_), fun q => absurd rfl q⟩)⟩⟩⟩
            · by_cases e : t = k
              · subst e
                exact fun z => hne (by rw [z]; rfl)
              · exact hcov t (by omega) hE
            · have h0 : X2.2.2 k = 0 := (sp_eq (N := 0) (by omega) (by omega)).mp he
              have hR2 : X2.1 < 24 * sp_nm B := by rw [hJ2.2.2.2.1]; exact bf_cnt_lt _ h0 _ hkN
              rw [hm2.1 h hh2, hq2, sp_cl (n := X.2.1 h) (by omega), hm2.2 _ hu, nI_1, nI_1, sp_cl (n := X2.1) (by omega)]
              refine ⟨⟨sp_vp (by omega) (by omega), sp_vp (by omega) (by omega), sp_vp (by omega) (by omega), sp_vp (by omega) (by omega)⟩, ?_⟩
              obtain ⟨j1, j2, j3⟩ := bf_J_enq hJ2 hh2 hkN (by rw [hq2]; exact hE)
              rw [hq2] at j1 j2 j3
              have hX3 : bf_enq X2 k (X2.2.2 (X.2.1 h) + 1) = (X2.1 + 1, bf_u X2.2.1 X2.1 k, bf_u X2.2.2 k (X2.2.2 (X.2.1 h) + 1)) := by unfold bf_enq; rw [if_pos h0]
              have := ihr (k + 1) (gl_u2 (gl_u2 M2 55 k (nI (X2.2.2 (X.2.1 h) + 1))) 56 X2.1 (nI k)) (bf_enq X2 k (X2.2.2 (X.2.1 h) + 1)) (by omega) (fun a a1 a2 => by rw [← hr2 a a1 a2]; simp [gl_u2, gl_u1, a1, a2]) ?_ j1 (hx2.tr j2) (fun t ht hE2 => ?_)
              · rw [hX3] at this
                exact this
              · rw [hX3]
                refine ⟨fun i hi => ?_, fun t ht => ?_⟩
                · show (if i = X2.1 then nI k else M2 56 i) = nI (if i = X2.1 then k else X2.2.1 i)
                  have hi' : i < X2.1 + 1 := hi
                  by_cases e : i = X2.1
                  · rw [if_pos e, if_pos e]
                  · rw [if_neg e, if_neg e]; exact hm2.1 i (by omega)
                · show (if t = k then nI (X2.2.2 (X.2.1 h) + 1) else M2 55 t) = nI (if t = k then X2.2.2 (X.2.1 h) + 1 else X2.2.2 t)
                  by_cases e : t = k
                  · rw [if_pos e, if_pos e]
                  · rw [if_neg e, if_neg e]; exact hm2.2 t ht
              · by_cases e : t = k
                · subst e; exact j3
                · have := hcov t (by omega) hE2
                  rw [j2.2.2 t this]; exact this
            · by_cases e : t = k
              · subst e; exact absurd hE2 hE
              · exact hcov t (by omega) hE2
        exact inner _ 0 M1 X (Nat.zero_add _) hr hm hJ (bf_ext.rf X) (fun t ht => absurd ht (Nat.not_lt_zero _))
  have zero : ∀ (r k : Nat) (M1 : gl_N), k + r = 24 * sp_nm B → sp_lr M M1 → (∀ t, t < k → M1 55 t = 0) → gv l sc m_X11_laysFar 2 [.ref 42, .int (nI s), .int (nI k), .float 0, .float 0] [] M1 Q := by
    intro r
    induction r with
    | zero =>
      intro k M1 hk hr hz
      have : k = 24 * sp_nm B := by omega
      subst this
      refine w_X11_laysFar_2 l sc M1 Q _ _ ?_
      rw [e24 M1 hr, sp_cl (n := s) (by omega)]
      refine ⟨fun _ => ⟨sp_vp (by omega) (by omega), outer _ 0 _ (1, fun _ => s, bf_u (fun _ => 0) s 1) (Nat.zero_add _) (fun a a1 a2 => by rw [← hr a a1 a2]; simp [gl_u2, gl_u1, a1, a2]) ⟨fun i hi => ?_, fun t ht => ?_⟩ (bf_J_begin hs)⟩, fun q => absurd (Int32.le_refl _) q⟩
      · have hi' : i < 1 := hi
        have : i = 0 := by omega
        subst this
        rfl
      · show (if t = s then (1 : Int32) else M1 55 t) = nI (if t = s then 1 else 0)
        by_cases e : t = s
        · rw [if_pos e, if_pos e]; rfl
        · rw [if_neg e, if_neg e, hz t ht]; rfl
    | succ r ih =>
      intro k M1 hk hr hz
      refine w_X11_laysFar_2 l sc M1 Q _ _ ?_
      rw [e24 M1 hr, sp_cl (n := k) (by omega), nI_1]
      refine ⟨fun q => absurd q (sp_le_lit (by omega) (by omega) (by omega)), fun _ => ⟨sp_vp (by omega) (by omega), ih (k + 1) _ (by omega) (fun a a1 a2 => by rw [← hr a a1 a2]; simp [gl_u2, gl_u1, a1, a2]) (fun t ht => ?_)⟩⟩
      show (if t = k then (0 : Int32) else M1 55 t) = 0
      by_cases e : t = k
      · rw [if_pos e]
      · rw [if_neg e]; exact hz t (by omega)
  exact e_X11_laysFar l sc M Q _ (zero _ 0 M (Nat.zero_add _) (fun _ _ _ => rfl) (fun t ht => absurd ht (Nat.not_lt_zero _)))
end SP13

section SP18
variable {l : Launch} {sc : Nat × (Nat → Int32)} {Q : Option Value → gl_N → Prop} {B : sp_B} {b : Nat → Int32}
/-- one may be at note k in what is placed at z -/
def pt_M (B : sp_B) (b : Nat → Int32) : Nat → Nat → Prop
  | 0, _ => True
  | k + 1, z => ∃ f q, pt_H B b k f ∧ q < sp_pn B (f / 4) ∧ sp_pl B (f / 4) q * 81 + sp_pi B (f / 4) q = z
theorem pt_H_K {k e : Nat} (h : pt_H B b k e) : pt_K B b k e := by
  cases k with
  | zero => exact h
  | succ k => exact h.1
theorem pt_M_H (hw : sp_wf B) {k e : Nat} : pt_H B b k e ↔ pt_K B b k e ∧ pt_M B b k (sp_pl B (e / 4) (e % 4) * 81 + sp_pi B (e / 4) (e % 4)) := by
  cases k with
  | zero => exact ⟨fun h => ⟨h, trivial⟩, fun h => h.1⟩
  | succ k =>
    constructor
    · rintro ⟨hK, f, c, h1, q, h2, h3⟩
      have hf := (pt_H_K h1).1
      obtain ⟨z1, z2, z3⟩ := (sp_sp_iff hw (pt_V_sc hf)).mp h2
      exact ⟨hK, f, q, h1, z1, by rw [z2, z3]⟩
    · rintro ⟨hK, f, q, h1, h2, h3⟩
      have hf := (pt_H_K h1).1
      have c1 := sp_pl_lt hw (pt_V_sc hf) h2
      have p1 := sp_pi_le hw (pt_V_sc hf) h2
      have c2 := sp_pl_lt hw (pt_V_sc hK.1) hK.1.2
      have p2 := sp_pi_le hw (pt_V_sc hK.1) hK.1.2
      exact ⟨hK, f, _, h1, q, (sp_sp_iff hw (pt_V_sc hf)).mpr ⟨h2, by omega, by omega⟩, rfl⟩
theorem pt_H_mono {k : Nat} : ∀ {d e : Nat}, pt_H B b (k + d) e → ∃ f, pt_H B b k f := by
  intro d
  induction d with
  | zero => intro e h; exact ⟨e, h⟩
  | succ d ih =>
    intro e h
    obtain ⟨f, hf⟩ := pt_H_down (k := k + d) h
    exact ih hf
def pt_lv (B : sp_B) (b : Nat → Int32) (k E s : Nat) (v : Int32) : Prop := (v = 0 ∧ ∀ e, e < E → e / 4 = s → ¬ pt_H B b k e) ∨ (v = 1 ∧ ∃ e, e < E ∧ e / 4 = s ∧ pt_H B b k e)
def pt_sm (B : sp_B) (b : Nat → Int32) (k E : Nat) (v : Int32) : Prop := (v = 0 ∧ ∀ e, e < E → ¬ pt_H B b k e) ∨ (v = 1 ∧ ∃ e, e < E ∧ pt_H B b k e)
theorem pt_lv.on {k E E' s : Nat} {v : Int32} (h : pt_lv B b k E s v) (hE : E ≤ E') (hno : ∀ e, E ≤ e → e < E' → e / 4 = s → ¬ pt_H B b k e) : pt_lv B b k E' s v := by
  rcases h with ⟨h1, h2⟩ | ⟨h1, e, h2, h3⟩
  · refine Or.inl ⟨h1, fun e he hs => ?_⟩
    by_cases q : e < E
    · exact h2 e q hs
    · exact hno e (by omega) he hs
  · exact Or.inr ⟨h1, e, by omega, h3⟩
theorem pt_sm.on {k E E' : Nat} {v : Int32} (h : pt_sm B b k E v) (hE : E ≤ E') (hno : ∀ e, E ≤ e → e < E' → ¬ pt_H B b k e) : pt_sm B b k E' v := by
  rcases h with ⟨h1, h2⟩ | ⟨h1, e, h2, h3⟩
  · refine Or.inl ⟨h1, fun e he => ?_⟩
    by_cases q : e < E
    · exact h2 e q
    · exact hno e (by omega) he
  · exact Or.inr ⟨h1, e, by omega, h3⟩
def pt_mk (B : sp_B) (b : Nat → Int32) (k : Nat) (M : gl_N) : Prop := ∀ z, z < 486 → ∃ j, M 41 z = nI j ∧ j ≤ k ∧ (j = k ↔ pt_M B b k z)
theorem r_findLive {M : gl_N} (hC : sp_MC B M) {k : Nat} (hk : k < 16) (hb : M 21 = b) (hy : sp_nt (b k)) (hm : pt_mk B b k M) (K : ∀ (M' : gl_N) (v : Int32), (∀ a, a ≠ 40 → M' a = M a) → pt_sm B b k (96 * sp_nm B) v → (∀ s, s < 24 * sp_nm B → pt_lv B b k (96 * sp_nm B) s (M' 40 s)) → Q (some (.int v)) M') : gr l sc m_X3_findLive [.ref 39, .int (nI k)] M Q := by
  have hw := hC.1
  have hm6 : sp_nm B ≤ 6 := hw.2.2.1
  obtain ⟨ey, ey60⟩ := sp_nt0 hy
  have outer : ∀ (r s : Nat) (M1 : gl_N) (x : Int32), s + r = 24 * sp_nm B → (∀ a, a ≠ 40 → M1 a = M a) → pt_sm B b k (4 * s) x → (∀ t, t < s → pt_lv B b k (4 * s) t (M1 40 t)) → gv l sc m_X3_findLive 4 [.ref 39, .int (nI k), .int x, .int (nI s), .float 0] [] M1 Q := by
    intro r
    induction r with
    | zero =>
      intro s M1 x hs h1 h2 h3
      have : s = 24 * sp_nm B := by omega
      subst this
      rw [show 4 * (24 * sp_nm B) = 96 * sp_nm B by omega] at h2 h3
      refine w_X3_findLive_4 l sc M1 Q _ _ _ (r_scaleCount (hC.mv fun a _ _ => h1 a (by omega)) ⟨_, rfl, fun _ => ⟨?_, K M1 x h1 h2 h3⟩, fun q => absurd (Int32.le_refl _) q⟩)
      rcases h2 with ⟨z, -⟩ | ⟨z, -⟩
      · exact Or.inl z
      · exact Or.inr z
    | succ r ih =>
      intro s M1 x hs h1 h2 h3
      have hsN : s < 24 * sp_nm B := by omega
      have h4 := (sp_sc hw hsN).2.2.2.1
      refine w_X3_findLive_4 l sc M1 Q _ _ _ (r_scaleCount (hC.mv fun a _ _ => h1 a (by omega)) ⟨_, rfl, fun q => absurd q (sp_le_lit (by omega) (by omega) (by omega)), fun _ => ⟨sp_vp (by omega) (by omega), ?_⟩⟩)
      rw [sp_cl (n := s) (by omega)]
      have inner : ∀ (r2 p : Nat) (M2 : gl_N) (x : Int32), p + r2 = sp_pn B s → (∀ a, a ≠ 40 → M2 a = M a) → pt_sm B b k (4 * s + p) x → (∀ t, t < s + 1 → pt_lv B b k (4 * s + p) t (M2 40 t)) → gv l sc m_X3_findLive 25 [.ref 39, .int (nI k), .int x, .int (nI s), .int (nI p)] [] M2 Q := by
        intro r2
        induction r2 with
        | zero =>
          intro p M2 x hp g1 g2 g3
          have : p = sp_pn B s := by omega
          subst this
          refine w_X3_findLive_25 l sc M2 Q _ _ _ _ (r_partsOf (hC.mv fun a _ _ => g1 a (by omega)) hsN ⟨_, rfl, fun _ => ?_, fun q => absurd (Int32.le_refl _) q⟩)
          have no : ∀ e, 4 * s + sp_pn B s ≤ e → e < 4 * (s + 1) → ¬ pt_H B b k e := fun e a1 a2 hH => by
            have := (pt_H_K hH).1.2
            rw [show e / 4 = s by omega] at this
            omega
          rw [nI_1]
          exact ih (s + 1) M2 x (by omega) g1 (g2.on (by omega) no) (fun t ht => (g3 t ht).on (by omega) (fun e a1 a2 _ => no e a1 a2))
        | succ r2 ih2 =>
          intro p M2 x hp g1 g2 g3
          have hpp : p < sp_pn B s := by omega
          have hMC := hC.mv (M' := M2) fun a _ _ => g1 a (by omega)
          have c1 := sp_pl_lt hw hsN hpp
          have p1 := sp_pi_le hw hsN hpp
          obtain ⟨v0, v1, v2⟩ := pt_V_mk hw hsN hpp
          refine w_X3_findLive_25 l sc M2 Q _ _ _ _ (r_partsOf hMC hsN ⟨_, rfl, fun q => absurd q (sp_le_lit (by omega) (by omega) (by omega)), fun _ => r_placed hMC hsN hpp ⟨_, rfl, sp_vp (by omega) (by omega), ?_⟩⟩)
          rw [sp_cl (n := sp_pl B s p * 81 + sp_pi B s p) (by omega), nI_1, g1 41 (by omega)]
          obtain ⟨j, j1, j2, j3⟩ := hm (sp_pl B s p * 81 + sp_pi B s p) (by omega)
          have hH : pt_H B b k (4 * s + p) ↔ pt_K B b k (4 * s + p) ∧ j = k := by
            rw [pt_M_H hw, v1, v2, j3]
          have skip : ¬ pt_H B b k (4 * s + p) → gv l sc m_X3_findLive 25 [.ref 39, .int (nI k), .int x, .int (nI s), .int (nI (p + 1))] [] M2 Q := fun hno =>
            ih2 (p + 1) M2 x (by omega) g1 (g2.on (by omega) (fun e a1 a2 => by rw [show e = 4 * s + p by omega]; exact hno)) (fun t ht => (g3 t ht).on (by omega) (fun e a1 a2 _ => by rw [show e = 4 * s + p by omega]; exact hno))
          rw [j1, sp_eq (by omega) (by omega)]
          refine ⟨fun q => skip (fun z => q (hH.mp z).2), fun q => ⟨sp_vp (by omega) (by omega), ?_⟩⟩
          rw [sp_cl (n := k) (by omega), g1 21 (by omega), hb, ey]
          refine r_isIn hMC hsN hpp (by omega) ⟨_, rfl, ?_⟩
          cases hin : sp_in B s p (b k).toNatClampNeg
          · refine ⟨fun _ => skip (fun z => ?_), fun q => absurd rfl q⟩
            have := (hH.mp z).1.2
            rw [v1, v2, hin] at this
            cases this
          · have hHH : pt_H B b k (4 * s + p) := hH.mpr ⟨⟨v0, by rw [v1, v2]; exact hin⟩, q⟩
            refine ⟨fun q => absurd q (by decide), fun _ => ⟨sp_vp (by omega) (by omega), ?_⟩⟩
            rw [sp_cl (n := s) (by omega)]
            refine ih2 (p + 1) _ 1 (by omega) (fun a a1 => by rw [← g1 a a1]; simp [gl_u2, gl_u1, a1]) (Or.inr ⟨rfl, _, by omega, hHH⟩) (fun t ht => ?_)
            show pt_lv B b k (4 * s + (p + 1)) t (if t = s then vp_nar .boolean 1 else M2 40 t)
            by_cases e : t = s
            · rw [if_pos e]
              exact Or.inr ⟨rfl, 4 * s + p, by omega, by omega, hHH⟩
            · rw [if_neg e]
              exact (g3 t ht).on (by omega) (fun e a1 a2 a3 => by omega)
      refine inner _ 0 _ x (Nat.zero_add _) (fun a a1 => by rw [← h1 a a1]; simp [gl_u2, gl_u1, a1]) h2 (fun t ht => ?_)
      show pt_lv B b k (4 * s + 0) t (if t = s then vp_nar .boolean 0 else M1 40 t)
      by_cases e : t = s
      · rw [if_pos e]
        exact Or.inl ⟨rfl, fun e a1 a2 => by omega⟩
      · rw [if_neg e]
        exact h3 t (by omega)
  exact e_X3_findLive l sc M Q _ (outer _ 0 M 0 (Nat.zero_add _) (fun _ _ => rfl) (Or.inl ⟨rfl, fun e he => by omega⟩) (fun t ht => absurd ht (Nat.not_lt_zero _)))
def pt_mj (B : sp_B) (b : Nat → Int32) (k E z : Nat) : Prop := ∃ f q, pt_H B b k f ∧ q < sp_pn B (f / 4) ∧ 4 * (f / 4) + q < E ∧ sp_pl B (f / 4) q * 81 + sp_pi B (f / 4) q = z
def pt_mm (B : sp_B) (b : Nat → Int32) (k E : Nat) (M : gl_N) : Prop := ∀ z, z < 486 → ∃ j, M 41 z = nI j ∧ j ≤ k + 1 ∧ (j = k + 1 ↔ pt_mj B b k E z)
theorem pt_mm.on {k E E' : Nat} {M : gl_N} (h : pt_mm B b k E M) (e : ∀ z, pt_mj B b k E' z ↔ pt_mj B b k E z) : pt_mm B b k E' M := fun z hz => by
  obtain ⟨j, j1, j2, j3⟩ := h z hz
  exact ⟨j, j1, j2, by rw [e z]; exact j3⟩
theorem r_markFromLive {M : gl_N} (hC : sp_MC B M) {k : Nat} (hk : k < 16) (hm : pt_mk B b k M) (hl : ∀ s, s < 24 * sp_nm B → pt_lv B b k (96 * sp_nm B) s (M 40 s)) (K : ∀ M', (∀ a, a ≠ 41 → M' a = M a) → pt_mk B b (k + 1) M' → Q none M') : gr l sc m_X3_markFromLive [.ref 39, .int (nI (k + 1))] M Q := by
  have hw := hC.1
  have hm6 : sp_nm B ≤ 6 := hw.2.2.1
  have outer : ∀ (r s : Nat) (M1 : gl_N), s + r = 24 * sp_nm B → (∀ a, a ≠ 41 → M1 a = M a) → pt_mm B b k (4 * s) M1 → gv l sc m_X3_markFromLive 2 [.ref 39, .int (nI (k + 1)), .int (nI s), .float 0] [] M1 Q := by
    intro r
    induction r with
    | zero =>
      intro s M1 hs h1 h2
      have : s = 24 * sp_nm B := by omega
      subst this
      refine w_X3_markFromLive_2 l sc M1 Q _ _ (r_scaleCount (hC.mv fun a _ _ => h1 a (by omega)) ⟨_, rfl, fun _ => K M1 h1 (fun z hz => ?_), fun q => absurd (Int32.le_refl _) q⟩)
      obtain ⟨j, j1, j2, j3⟩ := h2 z hz
      refine ⟨j, j1, j2, j3.trans ⟨?_, ?_⟩⟩
      · rintro ⟨f, q, a1, a2, a3, a4⟩
        exact ⟨f, q, a1, a2, a4⟩
      · rintro ⟨f, q, a1, a2, a4⟩
        have hf := pt_V_sc (pt_H_K a1).1
        have h4 := (sp_sc hw hf).2.2.2.1
        exact ⟨f, q, a1, a2, by omega, a4⟩
    | succ r ih =>
      intro s M1 hs h1 h2
      have hsN : s < 24 * sp_nm B := by omega
      have h4 := (sp_sc hw hsN).2.2.2.1
      refine w_X3_markFromLive_2 l sc M1 Q _ _ (r_scaleCount (hC.mv fun a _ _ => h1 a (by omega)) ⟨_, rfl, fun q => absurd q (sp_le_lit (by omega) (by omega) (by omega)), fun _ => ?_⟩)
      have e1 : nI s + 1 = nI (s + 1) := nI_1 s
      have inner : ∀ (r2 p : Nat) (M2 : gl_N), p + r2 = sp_pn B s → (∀ a, a ≠ 41 → M2 a = M a) → pt_mm B b k (4 * s + p) M2 → gv l sc m_X3_markFromLive 15 [.ref 39, .int (nI (k + 1)), .int (nI s), .int (nI p)] [] M2 Q := by
        intro r2
        induction r2 with
        | zero =>
          intro p M2 hp g1 g2
          have : p = sp_pn B s := by omega
          subst this
          have hMC := hC.mv (M' := M2) fun a _ _ => g1 a (by omega)
          have next : gv l sc m_X3_markFromLive 2 [.ref 39, .int (nI (k + 1)), .int (nI (s + 1)), .float 0] [] M2 Q := ih (s + 1) M2 (by omega) g1 (g2.on (fun z => ⟨fun ⟨f, q, a1, a2, a3, a4⟩ => ⟨f, q, a1, a2, by
            by_cases e : f / 4 = s
            · rw [e] at a2 ⊢; omega
            · have := (sp_sc hw (pt_V_sc (pt_H_K a1).1)).2.2.2.1
              omega, a4⟩, fun ⟨f, q, a1, a2, a3, a4⟩ => ⟨f, q, a1, a2, by omega, a4⟩⟩))
          refine w_X3_markFromLive_15 l sc M2 Q _ _ _ ⟨sp_vp (by omega) (by omega), ?_⟩
          rw [e1]
          exact ⟨fun _ => next, fun _ => r_partsOf hMC hsN ⟨_, rfl, fun _ => next, fun q => absurd (Int32.le_refl _) q⟩⟩
        | succ r2 ih2 =>
          intro p M2 hp g1 g2
          have hpp : p < sp_pn B s := by omega
          have hMC := hC.mv (M' := M2) fun a _ _ => g1 a (by omega)
          have c1 := sp_pl_lt hw hsN hpp
          have p1 := sp_pi_le hw hsN hpp
          refine w_X3_markFromLive_15 l sc M2 Q _ _ _ ⟨sp_vp (by omega) (by omega), ?_⟩
          rw [e1, sp_cl (n := s) (by omega), g1 40 (by omega)]
          refine ⟨fun q => ?_, fun q => r_partsOf hMC hsN ⟨_, rfl, fun q => absurd q (sp_le_lit (by omega) (by omega) (by omega)), fun _ => r_placed hMC hsN hpp ⟨_, rfl, sp_vp (by omega) (by omega), ?_⟩⟩⟩
          · rcases hl s hsN with ⟨-, hno⟩ | ⟨z, -⟩
            · refine ih (s + 1) M2 (by omega) g1 (g2.on (fun z => ⟨fun ⟨f, q, a1, a2, a3, a4⟩ => ⟨f, q, a1, a2, ?_, a4⟩, fun ⟨f, q, a1, a2, a3, a4⟩ => ⟨f, q, a1, a2, by omega, a4⟩⟩))
              by_cases e : f / 4 = s
              · exact absurd a1 (hno f (pt_H_K a1).1.1 e)
              · have := (sp_sc hw (pt_V_sc (pt_H_K a1).1)).2.2.2.1
                omega
            · rw [z] at q; exact absurd q (by decide)
          · rcases hl s hsN with ⟨z, -⟩ | ⟨-, f0, b1, b2, b3⟩
            · exact absurd z q
            rw [sp_cl (n := sp_pl B s p * 81 + sp_pi B s p) (by omega), nI_1]
            refine ih2 (p + 1) _ (by omega) (fun a a1 => by rw [← g1 a a1]; simp [gl_u2, gl_u1, a1]) (fun z hz => ?_)
            show ∃ j, (if z = sp_pl B s p * 81 + sp_pi B s p then nI (k + 1) else M2 41 z) = nI j ∧ j ≤ k + 1 ∧ (j = k + 1 ↔ pt_mj B b k (4 * s + (p + 1)) z)
            by_cases e : z = sp_pl B s p * 81 + sp_pi B s p
            · rw [if_pos e]
              refine ⟨k + 1, rfl, Nat.le_refl _, ⟨fun _ => ⟨f0, p, b3, by rw [b2]; exact hpp, by omega, by rw [b2]; exact e.symm⟩, fun _ => rfl⟩⟩
            · rw [if_neg e]
              obtain ⟨j, j1, j2, j3⟩ := g2 z hz
              refine ⟨j, j1, j2, j3.trans ⟨fun ⟨f, q, a1, a2, a3, a4⟩ => ⟨f, q, a1, a2, by omega, a4⟩, fun ⟨f, q, a1, a2, a3, a4⟩ => ⟨f, q, a1, a2, ?_, a4⟩⟩⟩
              by_cases e2 : 4 * (f / 4) + q = 4 * s + p
              · have h44 := (sp_sc hw (pt_V_sc (pt_H_K a1).1)).2.2.2.1
                have e3 : f / 4 = s := by omega
                have e4 : q = p := by omega
                rw [e3, e4] at a4
                exact absurd a4.symm e
              · omega
      exact inner _ 0 M1 (Nat.zero_add _) h1 h2
  refine e_X3_markFromLive l sc M Q _ (outer _ 0 M (Nat.zero_add _) (fun _ _ => rfl) (fun z hz => ?_))
  obtain ⟨j, j1, j2, j3⟩ := hm z hz
  exact ⟨j, j1, by omega, ⟨fun q => by omega, fun ⟨f, q, a1, a2, a3, a4⟩ => by omega⟩⟩
theorem r_longest {M : gl_N} (hC : sp_MC B M) {n : Nat} (hn : n ≤ 16) (ha : M 20 1 = nI n) (hb : M 21 = b) (hy : ∀ k, k < n → sp_nt (b k)) (K : ∀ M' r, (∀ a, a ≠ 40 → a ≠ 41 → M' a = M a) → pt_Z B b n r → Q (some (.int (nI r))) M') : gr l sc m_X3_longest [.ref 39] M Q := by
  refine e_X3_longest l sc M Q (r_fill_41 ⟨rfl, ?_⟩)
  have key : ∀ (r k : Nat) (M1 : gl_N), k + r = n → (∀ a, a ≠ 40 → a ≠ 41 → M1 a = M a) → pt_mk B b k M1 → (k = 0 ∨ ∃ e, pt_H B b (k - 1) e) → gv l sc m_X3_longest 10 [.ref 39, .int (nI k)] [] M1 Q := by
    intro r
    induction r with
    | zero =>
      intro k M1 hk h1 h2 h3
      have : k = n := by omega
      subst this
      have e : M1 20 1 = nI k := by rw [h1 20 (by omega) (by omega)]; exact ha
      refine w_X3_longest_10 l sc M1 Q _ ⟨fun _ => ?_, fun q => absurd (by rw [e]; exact Int32.le_refl _) q⟩
      rw [e]
      refine K M1 k h1 ⟨Nat.le_refl _, ?_, fun r' a1 a2 => by omega⟩
      rcases h3 with z | z
      · exact Or.inl z
      · exact Or.inr ((pt_H_iff _).mp z)
    | succ r ih =>
      intro k M1 hk h1 h2 h3
      have e : M1 20 1 = nI n := by rw [h1 20 (by omega) (by omega)]; exact ha
      have hC1 := hC.mv (M' := M1) fun a _ _ => h1 a (by omega) (by omega)
      refine w_X3_longest_10 l sc M1 Q _ ⟨fun q => absurd q (by rw [e]; exact sp_le_lit (by omega) (by omega) (by omega)), fun _ => ?_⟩
      refine r_findLive hC1 (by omega) (by rw [h1 21 (by omega) (by omega)]; exact hb) (hy k (by omega)) h2 (fun M2 v g1 g2 g3 => ⟨_, rfl, fun q => ?_, fun q => ?_⟩)
      · rw [nI_1]
        have h2' : pt_mk B b k M2 := fun z hz => by rw [g1 41 (by omega)]; exact h2 z hz
        refine r_markFromLive (hC1.mv fun a _ _ => g1 a (by omega)) (by omega) h2' g3 (fun M3 k1 k2 => ⟨rfl, ih (k + 1) M3 (by omega) (fun a a1 a2 => ?_) k2 (Or.inr ?_)⟩)
        · rw [k1 a a2, g1 a a1, h1 a a1 a2]
        · rcases g2 with ⟨z, -⟩ | ⟨-, e, -, z⟩
          · exact absurd z q
          · exact ⟨e, z⟩
      · refine K M2 k (fun a a1 a2 => by rw [g1 a a1, h1 a a1 a2]) ⟨by omega, ?_, fun r' a1 a2 hP => ?_⟩
        · rcases h3 with z | z
          · exact Or.inl z
          · exact Or.inr ((pt_H_iff _).mp z)
        · obtain ⟨e, he⟩ := (pt_H_iff _).mpr hP
          rw [show r' - 1 = k + (r' - 1 - k) by omega] at he
          obtain ⟨f, hf⟩ := pt_H_mono he
          rcases g2 with ⟨-, z⟩ | ⟨z, -⟩
          · exact z f (pt_H_K hf).1.1 hf
          · rw [z] at q; exact absurd q (by decide)
  refine key n 0 _ (Nat.zero_add _) (fun a a1 a2 => by simp [sp_fl, gl_u1, a2]) (fun z hz => ⟨0, ?_, Nat.le_refl _, ⟨fun _ => trivial, fun _ => rfl⟩⟩) (Or.inl rfl)
  show (if 0 ≤ z ∧ z < 486 then (0 : Int32) else M 41 z) = nI 0
  rw [if_pos (by omega)]; rfl
/-- what the class keeps of the parse -/
def sp_P : sp_PR := fun B a b fd s1 s2 re cm => ∃ n : Nat, n ≤ 16 ∧ a = nI n ∧ (∃ r, re = nI r ∧ pt_Z B b n r) ∧ pt_O B b n fd s1 s2 cm
theorem r_refresh {M : gl_N} (hC : sp_MC B M) {n : Nat} (hn : n ≤ 16) (ha : M 20 1 = nI n) (hy : ∀ k, k < n → sp_nt (M 21 k)) (hP : M 35 10 = M 20 2 → sp_P B (M 20 1) (M 21) (M 35 6) (M 35 7) (M 35 8) (M 35 9) (M 38)) (K : ∀ M', (∀ a, a ≠ 35 → a ≠ 36 → a ≠ 37 → a ≠ 38 → a ≠ 40 → a ≠ 41 → M' a = M a) → M' 35 10 = M 20 2 → sp_P B (M' 20 1) (M' 21) (M' 35 6) (M' 35 7) (M' 35 8) (M' 35 9) (M' 38) → Q none M') : gr l sc m_X1_refresh [.ref 35] M Q := by
  refine e_X1_refresh l sc M Q ⟨fun hne => ?_, fun he => K M (fun _ _ _ _ _ _ _ => rfl) he (hP he)⟩
  generalize hb : M 21 = b at hy
  have key : ∀ (j : Nat) (M1 : gl_N), j ≤ n → (∀ a, a ≠ 35 → a ≠ 36 → a ≠ 37 → M1 a = M a) → M1 35 10 = M 20 2 → (∀ k, j ≤ k → k < n → pt_R B b n k M1) → gv l sc m_X1_refresh 36 [.ref 35, .int (nI j - 1)] [] M1 Q := by
    intro j
    induction j with
    | zero =>
      intro M1 hj h1 h2 h3
      have hC1 := hC.mv (M' := M1) fun a _ _ => h1 a (by omega) (by omega) (by omega)
      have a1 : M1 20 1 = nI n := by rw [h1 20 (by omega) (by omega) (by omega)]; exact ha
      refine w_X1_refresh_36 l sc M1 Q _ ⟨fun _ => ?_, fun q => absurd (by decide) q⟩
      refine r_choose hC1 hn a1 (fun k hk => h3 k (Nat.zero_le _) hk) (fun M2 g1 g2 g3 => ⟨rfl, fun q => ?_, fun q => ?_⟩)
      · have a2 : M2 20 1 = nI n := by rw [g1 20 (by omega) (by omega)]; exact a1
        have b2 : M2 21 = b := by rw [g1 21 (by omega) (by omega), h1 21 (by omega) (by omega) (by omega)]; exact hb
        refine r_longest (hC1.mv fun a _ _ => g1 a (by omega) (by omega)) hn a2 b2 hy (fun M3 r k1 k2 => ⟨_, rfl, K _ (fun a b1 b2 b3 b4 b5 b6 => ?_) ?_ ⟨n, hn, ?_, ⟨r, rfl, ?_⟩, ?_⟩⟩)
        · have : (gl_u2 M3 35 9 (nI r)) a = M3 a := by simp [gl_u2, gl_u1, b1]
          rw [this, k1 a b5 b6, g1 a b1 b4, h1 a b1 b2 b3]
        · show M3 35 10 = M 20 2
          rw [k1 35 (by omega) (by omega), g2 10 (by omega)]; exact h2
        · show M3 20 1 = nI n
          rw [k1 20 (by omega) (by omega)]; exact a2
        · show pt_Z B (M3 21) n r
          rw [k1 21 (by omega) (by omega), b2]; exact k2
        · show pt_O B (M3 21) n (M3 35 6) (M3 35 7) (M3 35 8) (M3 38)
          rw [k1 21 (by omega) (by omega), k1 35 (by omega) (by omega), k1 38 (by omega) (by omega), b2]; exact g3
      · have a2 : M2 20 1 = nI n := by rw [g1 20 (by omega) (by omega)]; exact a1
        have b2 : M2 21 = b := by rw [g1 21 (by omega) (by omega), h1 21 (by omega) (by omega) (by omega)]; exact hb
        refine K _ (fun a b1 b2 b3 b4 b5 b6 => ?_) ?_ ⟨n, hn, a2, ⟨n, a2, ?_⟩, ?_⟩
        · have : (gl_u2 M2 35 9 (M2 20 1)) a = M2 a := by simp [gl_u2, gl_u1, b1]
          rw [this, g1 a b1 b4, h1 a b1 b2 b3]
        · show M2 35 10 = M 20 2
          rw [g2 10 (by omega)]; exact h2
        · show pt_Z B (M2 21) n n
          rw [b2]
          refine ⟨Nat.le_refl _, ?_, fun r' c1 c2 => by omega⟩
          rcases g3 with ⟨-, z, -⟩ | ⟨-, z, c, x, y, -, -, -, hY⟩ | ⟨z, -⟩
          · exact Or.inl z
          · obtain ⟨-, -, v, w, hF, -⟩ := pt_Y_cost (by omega) hY
            exact Or.inr ⟨_, v, hF.1⟩
          · exact absurd z q
        · show pt_O B (M2 21) n (M2 35 6) (M2 35 7) (M2 35 8) (M2 38)
          rw [b2]; exact g3
    | succ j ih =>
      intro M1 hj h1 h2 h3
      have hC1 := hC.mv (M' := M1) fun a _ _ => h1 a (by omega) (by omega) (by omega)
      have a1 : M1 20 1 = nI n := by rw [h1 20 (by omega) (by omega) (by omega)]; exact ha
      have e1 : nI (j + 1) - 1 = nI j := nI_pred j
      rw [e1]
      refine w_X1_refresh_36 l sc M1 Q _ ⟨fun q => absurd q (nI_pos (by omega)), fun _ => ?_⟩
      rw [nI_1, show nI j + (-1) = nI j - 1 from (Int32.sub_eq_add_neg _ _).symm]
      have rest : ∀ (M2 : gl_N), (∀ a, a ≠ 37 → M2 a = M1 a) → (j + 1 < n → pt_E B b n (j + 1) (96 * sp_nm B) M2) → gr l sc m_X1_measureRests [.ref 35, .int (nI j)] M2 (fun r8 M9 => r8 = none ∧ gv l sc m_X1_refresh 36 [.ref 35, .int (nI j - 1)] [] M9 Q) := fun M2 g1 g2 => by
        refine r_rests (n := n) (b := b) (hC1.mv fun a _ _ => g1 a (by omega)) hn (by omega) (by rw [g1 20 (by omega)]; exact a1) (by rw [g1 21 (by omega), h1 21 (by omega) (by omega) (by omega)]; exact hb) (hy j (by omega)) (fun hj1 e he => ?_) g2 (fun M3 k1 k2 k3 => ⟨rfl, ih M3 (by omega) (fun a b1 b2 b3 => ?_) ?_ (fun k c1 c2 => ?_)⟩)
        · rw [g1 36 (by omega)]
          exact h3 (j + 1) (Nat.le_refl _) hj1 e he
        · rw [k1 a b2, g1 a b3, h1 a b1 b2 b3]
        · rw [k1 35 (by omega), g1 35 (by omega)]; exact h2
        · by_cases e : k = j
          · subst e; exact k3
          · intro e he
            obtain ⟨v, v1, v2⟩ := h3 k (by omega) c2 e he
            exact ⟨v, by rw [k2 _ (by omega), g1 36 (by omega)]; exact v1, v2⟩
      by_cases hj1 : j + 1 < n
      · exact r_entries hC1 hn hj1 a1 (h3 (j + 1) (Nat.le_refl _) hj1) (fun M2 g1 g2 => ⟨rfl, rest M2 g1 (fun _ => g2)⟩)
      · exact e_X1_measureEntries l sc M1 _ _ ⟨fun q => absurd q (by rw [a1]; exact fun z => hj1 ((sp_lt (by omega) (by omega)).mp z)), fun _ => ⟨rfl, rest M1 (fun _ _ => rfl) (fun z => absurd z hj1)⟩⟩
  rw [ha]
  refine key n _ (Nat.le_refl _) (fun a b1 b2 b3 => by simp [gl_u2, gl_u1, b1]) rfl (fun k c1 c2 => by omega)
end SP18

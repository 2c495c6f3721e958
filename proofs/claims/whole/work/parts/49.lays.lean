section SP20
variable {l : Launch} {sc : Nat × (Nat → Int32)} {Q : Option Value → gl_N → Prop} {B : sp_B} {b : Nat → Int32}
theorem r_laysCosts {M : gl_N} (hR : sp_MR B M) {n : Nat} (hn : n ≤ 16) (ha : M 48 0 = nI n) (hb : ∀ j, j < n → M 48 (1 + j) = b j ∧ sp_nt (b j)) (K : ∀ M' L, (∀ a, a ≠ 57 → M' a = M a) → (n = 0 → L = 0) → (0 < n → L ≤ 100000 ∧ pt_A 100000 (fun w => ∃ e, pt_P B b (n - 1) 0 e w) L) → (∀ k, k < n → pt_RR B b n k M') → Q (some (.int (nI L))) M') : gr l sc m_X11_laysCosts [.ref 42] M Q := by
  have hw := hR.1
  have hm6 : sp_nm B ≤ 6 := hw.2.2.1
  have key : ∀ (j L : Nat) (M1 : gl_N), j ≤ n → 0 < n → (∀ a, a ≠ 57 → M1 a = M a) → L ≤ 100000 → pt_A 100000 (fun w => j = 0 ∧ ∃ e, pt_P B b (n - 1) 0 e w) L → (∀ k, j ≤ k → k < n → pt_RR B b n k M1) → gv l sc m_X11_laysCosts 25 [.ref 42, .int (nI L), .int (nI j - 1), .float 0, .float 0, .float 0, .float 0] [] M1 Q := by
    intro j
    induction j with
    | zero =>
      intro L M1 hj hn0 h1 h2 h3 h4
      refine w_X11_laysCosts_25 l sc M1 Q _ _ ⟨fun _ => K M1 L h1 (fun z => by omega) (fun _ => ⟨h2, h3.iff (fun w => ⟨fun z => z.2, fun z => ⟨rfl, z⟩⟩)⟩) (fun k hk => h4 k (Nat.zero_le _) hk), fun q => absurd (by decide) q⟩
    | succ k ih =>
      intro L M1 hj hn0 h1 h2 h3 h4
      have e1 : nI (k + 1) - 1 = nI k := nI_pred k
      rw [e1]
      refine w_X11_laysCosts_25 l sc M1 Q _ _ ⟨fun q => absurd q (nI_pos (by omega)), fun _ => ?_⟩
      have hL : L = 100000 := by
        by_cases z : L < 100000
        · exact absurd (h3.1 z).1 (by omega)
        · omega
      obtain ⟨ey, ey60⟩ := sp_nt0 (hb k (by omega)).2
      have outer : ∀ (r s L : Nat) (M2 : gl_N), s + r = 24 * sp_nm B → (∀ a, a ≠ 57 → M2 a = M a) → L ≤ 100000 → pt_A 100000 (fun w => k = 0 ∧ ∃ e, e < 4 * s ∧ pt_P B b (n - 1) 0 e w) L → (∀ i, (i < 576 * k ∨ 576 * (k + 1) ≤ i) → M2 57 i = M1 57 i) → (∀ e, pt_V B e → e < 4 * s → ∃ v, M2 57 (576 * k + e) = nI v ∧ v ≤ 100000 ∧ pt_A 100000 (pt_P B b (n - 1 - k) k e) v) → gv l sc m_X11_laysCosts 31 [.ref 42, .int (nI L), .int (nI k), .int (nI s), .float 0, .float 0, .float 0] [] M2 Q := by
        intro r
        induction r with
        | zero =>
          intro s L M2 hs g1 g2 g3 g4 g5
          have : s = 24 * sp_nm B := by omega
          subst this
          have e24 : (24 : Int32) * M2 42 2 = nI (24 * sp_nm B) := by rw [g1 42 (by omega), hR.2.2.1, show (24 : Int32) = nI 24 from rfl, sp_mul]
          refine w_X11_laysCosts_31 l sc M2 Q _ _ _ ?_
          rw [e24, show nI k + (-1) = nI k - 1 from (Int32.sub_eq_add_neg _ _).symm]
          refine ⟨fun _ => ih L M2 (by omega) hn0 g1 g2 (g3.iff (fun w => ⟨fun ⟨a1, e, a2, a3⟩ => ⟨a1, e, a3⟩, fun ⟨a1, e, a3⟩ => ⟨a1, e, by have := (pt_P_K a3).1.1; omega, a3⟩⟩)) (fun k2 c1 c2 => ?_), fun q => absurd (Int32.le_refl _) q⟩
          by_cases e : k2 = k
          · subst e
            exact fun e he => g5 e he (by have := he.1; omega)
          · intro e he
            obtain ⟨v, v1, v2⟩ := h4 k2 (by omega) c2 e he
            exact ⟨v, by rw [g4 _ (by omega)]; exact v1, v2⟩
        | succ r ihr =>
          intro s L M2 hs g1 g2 g3 g4 g5
          have hsN : s < 24 * sp_nm B := by omega
          have h4p := (sp_sc hw hsN).2.2.2.1
          have e24 : (24 : Int32) * M2 42 2 = nI (24 * sp_nm B) := by rw [g1 42 (by omega), hR.2.2.1, show (24 : Int32) = nI 24 from rfl, sp_mul]
          refine w_X11_laysCosts_31 l sc M2 Q _ _ _ ?_
          rw [e24]
          refine ⟨fun q => absurd q (sp_le_lit (by omega) (by omega) (by omega)), fun _ => ?_⟩
          have inner : ∀ (r2 p L : Nat) (M3 : gl_N), p + r2 = sp_pn B s → (∀ a, a ≠ 57 → M3 a = M a) → L ≤ 100000 → pt_A 100000 (fun w => k = 0 ∧ ∃ e, e < 4 * s + p ∧ pt_P B b (n - 1) 0 e w) L → (∀ i, (i < 576 * k ∨ 576 * (k + 1) ≤ i) → M3 57 i = M1 57 i) → (∀ e, pt_V B e → e < 4 * s + p → ∃ v, M3 57 (576 * k + e) = nI v ∧ v ≤ 100000 ∧ pt_A 100000 (pt_P B b (n - 1 - k) k e) v) → gv l sc m_X11_laysCosts 45 [.ref 42, .int (nI L), .int (nI k), .int (nI s), .int (nI p), .float 0, .float 0] [] M3 Q := by
            intro r2
            induction r2 with
            | zero =>
              intro p L M3 hp k1 k2 k3 k4 k5
              have : p = sp_pn B s := by omega
              subst this
              refine w_X11_laysCosts_45 l sc M3 Q _ _ _ _ (r_parts (hR.mv (by rw [k1 42 (by omega)]) (by rw [k1 42 (by omega)]) (fun a _ _ => k1 a (by omega))) hsN ⟨_, rfl, fun _ => ?_, fun q => absurd (Int32.le_refl _) q⟩)
              rw [nI_1]
              have no : ∀ e, pt_V B e → e < 4 * (s + 1) → e < 4 * s + sp_pn B s := fun e he hlt => by
                by_cases z : e < 4 * s
                · omega
                · have := he.2
                  rw [show e / 4 = s by omega] at this
                  omega
              exact ihr (s + 1) L M3 (by omega) k1 k2 (k3.iff (fun w => ⟨fun ⟨a1, e, a2, a3⟩ => ⟨a1, e, by omega, a3⟩, fun ⟨a1, e, a2, a3⟩ => ⟨a1, e, no e (pt_P_K a3).1 a2, a3⟩⟩)) k4 (fun e he hlt => k5 e he (no e he hlt))
            | succ r2 ih2 =>
              intro p L M3 hp k1 k2 k3 k4 k5
              have hpp : p < sp_pn B s := by omega
              have hR3 : sp_MR B M3 := hR.mv (by rw [k1 42 (by omega)]) (by rw [k1 42 (by omega)]) (fun a _ _ => k1 a (by omega))
              obtain ⟨v0, v1, v2⟩ := pt_V_mk hw hsN hpp
              have next : ∀ v : Nat, v ≤ 100000 → pt_A 100000 (pt_P B b (n - 1 - k) k (4 * s + p)) v → gr l sc m_X11_state [.int (nI k), .int (nI s), .int (nI p)] M3 (fun r10 M11 => ∃ v12 : Int32, r10 = some (.int v12) ∧ ((vp_in v12 9216) ∧ ((¬ nI k = 0 → gv l sc m_X11_laysCosts 45 [.ref 42, .int (nI L), .int (nI k), .int (nI s), .int (nI p + 1), .float 0, .float 0] [] (gl_u2 M11 57 (Int32.toNatClampNeg v12) (nI v)) Q) ∧ (nI k = 0 → (nI L ≤ nI v → gv l sc m_X11_laysCosts 45 [.ref 42, .int (nI L), .int (nI k), .int (nI s), .int (nI p + 1), .float 0, .float 0] [] (gl_u2 M11 57 (Int32.toNatClampNeg v12) (nI v)) Q) ∧ (¬ nI L ≤ nI v → gv l sc m_X11_laysCosts 45 [.ref 42, .int (nI v), .int (nI k), .int (nI s), .int (nI p + 1), .float 0, .float 0] [] (gl_u2 M11 57 (Int32.toNatClampNeg v12) (nI v)) Q))))) := fun v x1 x2 => by
                refine r_state ⟨_, rfl, sp_vp (by omega) (by omega), ?_⟩
                rw [sp_cl (n := 576 * k + (4 * s + p)) (by omega), nI_1, sp_le (by omega) (by omega), show (0 : Int32) = nI 0 from rfl, sp_eq (n := k) (N := 0) (by omega) (by omega)]
                have go : ∀ L', L' ≤ 100000 → pt_A 100000 (fun w => k = 0 ∧ ∃ e, e < 4 * s + (p + 1) ∧ pt_P B b (n - 1) 0 e w) L' → gv l sc m_X11_laysCosts 45 [.ref 42, .int (nI L'), .int (nI k), .int (nI s), .int (nI (p + 1)), .float 0, .float 0] [] (gl_u2 M3 57 (576 * k + (4 * s + p)) (nI v)) Q := fun L' y1 y2 => by
                  refine ih2 (p + 1) L' _ (by omega) (fun a a1 => by rw [← k1 a a1]; simp [gl_u2, gl_u1, a1]) y1 y2 (fun i hi => ?_) (fun e he hlt => ?_)
                  · show (if i = 576 * k + (4 * s + p) then nI v else M3 57 i) = M1 57 i
                    rw [if_neg (by omega), k4 i hi]
                  · show ∃ x, (if 576 * k + e = 576 * k + (4 * s + p) then nI v else M3 57 (576 * k + e)) = nI x ∧ x ≤ 100000 ∧ pt_A 100000 (pt_P B b (n - 1 - k) k e) x
                    by_cases q : e = 4 * s + p
                    · subst q; rw [if_pos rfl]; exact ⟨v, rfl, x1, x2⟩
                    · rw [if_neg (by omega)]; exact k5 e he (by omega)
                refine ⟨fun q => go L k2 (k3.iff (fun w => ⟨fun z => absurd z.1 q, fun z => absurd z.1 q⟩)), fun q => ?_⟩
                subst q
                rw [Nat.sub_zero] at x2
                have hset := (k3.or x2).iff (S' := fun w => 0 = 0 ∧ ∃ e, e < 4 * s + (p + 1) ∧ pt_P B b (n - 1) 0 e w) (fun w => by
                  constructor
                  · rintro (⟨a1, e, a2, a3⟩ | a)
                    · exact ⟨a1, e, by omega, a3⟩
                    · exact ⟨rfl, _, by omega, a⟩
                  · rintro ⟨a1, e, a2, a3⟩
                    by_cases z : e = 4 * s + p
                    · subst z; exact Or.inr a3
                    · exact Or.inl ⟨a1, e, by omega, a3⟩)
                refine ⟨fun q => go L k2 ?_, fun q => go v x1 ?_⟩
                · rw [if_neg (by omega)] at hset; exact hset
                · rw [if_pos (by omega)] at hset; exact hset
              refine w_X11_laysCosts_45 l sc M3 Q _ _ _ _ (r_parts hR3 hsN ⟨_, rfl, fun q => absurd q (sp_le_lit (by omega) (by omega) (by omega)), fun _ => ?_⟩)
              have e1k : (1 : Int32) + nI k = nI (1 + k) := nI_add 1 k
              have h48 : M3 48 = M 48 := k1 48 (by omega)
              rw [e1k, sp_cl (n := 1 + k) (by omega), h48, (hb k (by omega)).1, ey]
              refine ⟨sp_vp (by omega) (by omega), r_isInPart hR3 hsN hpp (by omega) ⟨_, rfl, ?_⟩⟩
              rw [h48, ha]
              cases hin : sp_in B s p (b k).toNatClampNeg
              · refine ⟨fun q => absurd rfl q, fun _ => next 100000 (Nat.le_refl _) (pt_A.no (fun w hP => ?_))⟩
                have := (pt_P_K hP).2
                rw [v1, v2, hin] at this
                cases this
              · have hK : pt_K B b k (4 * s + p) := ⟨v0, by rw [v1, v2]; exact hin⟩
                have en : nI n - 1 = nI (n - 1) := sp_sub1 (by omega)
                rw [en, sp_eq (n := k) (N := n - 1) (by omega) (by omega)]
                refine ⟨fun _ => ⟨fun q => ?_, fun q => next 0 (by omega) ⟨fun _ => ?_, fun w _ => Nat.zero_le _⟩⟩, fun q => absurd q (by decide)⟩
                · refine r_leastFrom (n := n) (b := b) hR3 hn (by omega) (fun j hj => by rw [h48]; exact hb j hj) (fun e he => ?_) hsN hpp (fun v x1 x2 => ⟨_, rfl, next v x1 (x2.iff (fun w => ?_))⟩)
                  · obtain ⟨v, c1, c2⟩ := h4 (k + 1) (Nat.le_refl _) (by omega) e he
                    exact ⟨v, by rw [k4 _ (by omega)]; exact c1, c2⟩
                  · have := pt_G_P (m := n - 1 - (k + 1)) (w := w) hw hK
                    rw [v1] at this
                    rw [this, show n - 1 - (k + 1) + 1 = n - 1 - k by omega]
                · rw [show n - 1 - k = 0 by omega]
                  exact ⟨hK, rfl⟩
          exact inner _ 0 L M2 (Nat.zero_add _) g1 g2 g3 g4 g5
      exact outer _ 0 L M1 (Nat.zero_add _) h1 h2 (h3.iff (fun w => ⟨fun z => by omega, fun ⟨_, e, z, _⟩ => by omega⟩)) (fun _ _ => rfl) (fun e _ he => by omega)
  refine e_X11_laysCosts l sc M Q ?_
  rw [ha]
  refine ⟨fun q => ?_, fun q => ?_⟩
  · have hn0 : 0 < n := by
      rcases Nat.eq_zero_or_pos n with z | z
      · rw [z] at q; exact absurd rfl q
      · exact z
    exact key n 100000 M (Nat.le_refl _) hn0 (fun _ _ => rfl) (Nat.le_refl _) (pt_A.no (fun w z => by omega)) (fun k c1 c2 => by omega)
  · have hn0 : n = 0 := (sp_eq (N := 0) (by omega) (by omega)).mp q
    subst hn0
    exact w_X11_laysCosts_25 l sc M Q _ _ ⟨fun _ => K M 0 (fun _ _ => rfl) (fun _ => rfl) (fun z => absurd z (Nat.lt_irrefl _)) (fun k hk => absurd hk (Nat.not_lt_zero _)), fun q => absurd (by decide) q⟩
theorem r_step {M : gl_N} (hR : sp_MR B M) {e f : Nat} (he : pt_V B e) (hf : pt_V B f) (K1 : ∀ c, pt_T B e f c → Q (some (.int (nI c))) M) (K0 : (∀ c, ¬ pt_T B e f c) → Q (some (.int (nI 100000))) M) : gr l sc m_X11_step [.ref 42, .int (nI (e / 4)), .int (nI (e % 4)), .int (nI (f / 4)), .int (nI (f % 4))] M Q := by
  have hw := hR.1
  have hm6 : sp_nm B ≤ 6 := hw.2.2.1
  have he1 := he.1
  have hf1 := hf.1
  refine e_X11_step l sc M Q _ _ _ _ (r_sameIn hR (pt_V_sc hf) hf.2 (pt_V_sc he) ⟨_, rfl, ?_⟩)
  cases hsp : sp_sp B (f / 4) (f % 4) (e / 4) with
  | none =>
    refine ⟨fun z => absurd rfl z, fun _ => K0 ?_⟩
    rintro c ⟨q', h1, -⟩
    rw [hsp] at h1
    cases h1
  | some q' =>
    have hq4 := ((sp_sp_iff hw (pt_V_sc he)).mp hsp).1
    have h4 := (sp_sc hw (pt_V_sc he)).2.2.2.1
    refine ⟨fun _ => ?_, fun z => absurd z (sp_neg9 (n := q') (by omega))⟩
    show (¬ nI q' = nI (e % 4) → _) ∧ (nI q' = nI (e % 4) → _)
    rw [sp_eq (by omega) (by omega), sp_eq (n := e / 4) (by omega) (by omega)]
    refine ⟨fun z => ⟨fun z2 => K1 11 ⟨q', hsp, ?_⟩, fun z2 => K1 1 ⟨q', hsp, ?_⟩⟩, fun z => ⟨fun z2 => K1 10 ⟨q', hsp, ?_⟩, fun z2 => K1 0 ⟨q', hsp, ?_⟩⟩⟩
    · unfold pt_c; rw [if_neg z, if_neg z2]
    · unfold pt_c; rw [if_neg z, if_pos z2]
    · unfold pt_c; rw [if_pos z, if_neg z2]
    · unfold pt_c; rw [if_pos z, if_pos z2]
end SP20

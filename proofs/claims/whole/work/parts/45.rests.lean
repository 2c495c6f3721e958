section SP16
variable {l : Launch} {sc : Nat × (Nat → Int32)} {Q : Option Value → gl_N → Prop} {B : sp_B} {b : Nat → Int32}
theorem sp_MC.mv {M M' : gl_N} (h : sp_MC B M) (e : ∀ a, 12 ≤ a → a ≤ 19 → M' a = M a) : sp_MC B M' := by
  refine ⟨h.1, ?_⟩
  rw [e 12 (by omega) (by omega), e 13 (by omega) (by omega), e 14 (by omega) (by omega), e 15 (by omega) (by omega), e 16 (by omega) (by omega), e 17 (by omega) (by omega), e 18 (by omega) (by omega), e 19 (by omega) (by omega)]
  exact h.2
theorem sp_min {x y : Nat} (hx : x ≤ 2000000) (hy : y ≤ 2000000) : (if nI x < nI y then nI x else nI y) = nI (if x < y then x else y) := by
  by_cases h : x < y
  · rw [if_pos h, if_pos ((nI_ltI (by omega) (by omega)).mpr h)]
  · rw [if_neg h, if_neg (fun q => h ((nI_ltI (by omega) (by omega)).mp q))]
theorem r_restAt {M : gl_N} {k e : Nat} (hk : k < 16) (he : e < 576) (K : Q (some (.int (M 36 (576 * k + e)))) M) : gr l sc m_X1_restAt [.ref 35, .int (nI k), .int (nI e)] M Q := by
  refine e_X1_restAt l sc M Q _ _ ?_
  have e1 : nI k * 576 + nI e = nI (576 * k + e) := by rw [show (576 : Int32) = nI 576 from rfl, sp_mul, nI_add, Nat.mul_comm]
  rw [e1, sp_cl (by omega)]
  exact ⟨sp_vp (by omega) (by omega), K⟩
theorem r_spotOf {M : gl_N} {s p : Nat} (K : Q (some (.int (nI (4 * s + p)))) M) : gr l sc m_X10_spotOf [.int (nI s), .int (nI p)] M Q := by
  refine e_X10_spotOf l sc M Q _ _ ?_
  rw [show nI s * 4 + nI p = nI (4 * s + p) by rw [show (4 : Int32) = nI 4 from rfl, sp_mul, nI_add, Nat.mul_comm]]
  exact K
/-- the class's rests at note k -/
def pt_R (B : sp_B) (b : Nat → Int32) (n k : Nat) (M : gl_N) : Prop := ∀ e, e < 96 * sp_nm B → ∃ v, M 36 (576 * k + e) = nI v ∧ v ≤ 1000000 ∧ pt_A 1000000 (pt_P B b (n - 1 - k) k e) v
/-- from note k in a spot below E that is placed at z -/
def pt_N (B : sp_B) (b : Nat → Int32) (m k E z w : Nat) : Prop := ∃ e, e < E ∧ pt_V B e ∧ sp_pl B (e / 4) (e % 4) * 81 + sp_pi B (e / 4) (e % 4) = z ∧ pt_P B b m k e w
def pt_E (B : sp_B) (b : Nat → Int32) (n k E : Nat) (M : gl_N) : Prop := ∀ z, z < 486 → ∃ v, M 37 z = nI v ∧ v ≤ 1000000 ∧ pt_A 1000000 (pt_N B b (n - 1 - k) k E z) v
theorem pt_E_skip {n k s : Nat} {M : gl_N} (h : pt_E B b n k (4 * s + sp_pn B s) M) (hp : sp_pn B s ≤ 4) : pt_E B b n k (4 * (s + 1)) M := by
  intro z hz
  obtain ⟨v, h1, h2, h3⟩ := h z hz
  refine ⟨v, h1, h2, h3.iff (fun w => ⟨?_, ?_⟩)⟩
  · rintro ⟨e, g1, g2⟩
    exact ⟨e, by omega, g2⟩
  · rintro ⟨e, g1, g2, g3⟩
    refine ⟨e, ?_, g2, g3⟩
    by_cases q : e < 4 * s
    · omega
    · have e4 : e / 4 = s := by omega
      have := g2.2
      rw [e4] at this
      omega
theorem r_entries {M : gl_N} (hC : sp_MC B M) {n k : Nat} (hn : n ≤ 16) (hk : k < n) (ha : M 20 1 = nI n) (hR : pt_R B b n k M) (K : ∀ M', (∀ a, a ≠ 37 → M' a = M a) → pt_E B b n k (96 * sp_nm B) M' → Q none M') : gr l sc m_X1_measureEntries [.ref 35, .int (nI k)] M Q := by
  have hw := hC.1
  have hm6 : sp_nm B ≤ 6 := hw.2.2.1
  refine e_X1_measureEntries l sc M Q _ ⟨fun _ => ?_, fun q => absurd (by rw [ha]; exact (sp_lt (by omega) (by omega)).mpr hk) q⟩
  refine r_fill_37 ⟨rfl, ?_⟩
  have outer : ∀ (r s : Nat) (M1 : gl_N), s + r = 24 * sp_nm B → (∀ a, a ≠ 37 → M1 a = M a) → pt_E B b n k (4 * s) M1 → gv l sc m_X1_measureEntries 23 [.ref 35, .int (nI k), .int (nI s), .float 0, .float 0] [] M1 Q := by
    intro r
    induction r with
    | zero =>
      intro s M1 hs h1 h2
      have : s = 24 * sp_nm B := by omega
      subst this
      refine w_X1_measureEntries_23 l sc M1 Q _ _ (r_scaleCount (hC.mv fun a _ _ => h1 a (by omega)) ⟨_, rfl, fun _ => K M1 h1 ?_, fun q => absurd (Int32.le_refl _) q⟩)
      rw [show 96 * sp_nm B = 4 * (24 * sp_nm B) by omega]
      exact h2
    | succ r ih =>
      intro s M1 hs h1 h2
      have hsN : s < 24 * sp_nm B := by omega
      have h4 := (sp_sc hw hsN).2.2.2.1
      refine w_X1_measureEntries_23 l sc M1 Q _ _ (r_scaleCount (hC.mv fun a _ _ => h1 a (by omega)) ⟨_, rfl, fun q => absurd q (sp_le_lit (by omega) (by omega) (by omega)), fun _ => ?_⟩)
      have inner : ∀ (r2 p : Nat) (M2 : gl_N), p + r2 = sp_pn B s → (∀ a, a ≠ 37 → M2 a = M a) → pt_E B b n k (4 * s + p) M2 → gv l sc m_X1_measureEntries 36 [.ref 35, .int (nI k), .int (nI s), .int (nI p), .float 0] [] M2 Q := by
        intro r2
        induction r2 with
        | zero =>
          intro p M2 hp g1 g2
          have : p = sp_pn B s := by omega
          subst this
          refine w_X1_measureEntries_36 l sc M2 Q _ _ _ (r_partsOf (hC.mv fun a _ _ => g1 a (by omega)) hsN ⟨_, rfl, fun _ => ?_, fun q => absurd (Int32.le_refl _) q⟩)
          rw [nI_1]
          exact ih (s + 1) M2 (by omega) g1 (pt_E_skip g2 h4)
        | succ r2 ih2 =>
          intro p M2 hp g1 g2
          have hpp : p < sp_pn B s := by omega
          have hMC := hC.mv (M' := M2) fun a _ _ => g1 a (by omega)
          have c1 := sp_pl_lt hw hsN hpp
          have p1 := sp_pi_le hw hsN hpp
          obtain ⟨v0, v1, v2⟩ := pt_V_mk hw hsN hpp
          refine w_X1_measureEntries_36 l sc M2 Q _ _ _ (r_partsOf hMC hsN ⟨_, rfl, fun q => absurd q (sp_le_lit (by omega) (by omega) (by omega)), fun _ => r_placed hMC hsN hpp ⟨_, rfl, sp_vp (by omega) (by omega), r_spotOf ⟨_, rfl, r_restAt (by omega) (by omega) ⟨_, rfl, sp_vp (by omega) (by omega), ?_⟩⟩⟩⟩)
          generalize hz : sp_pl B s p * 81 + sp_pi B s p = z
          have hzl : z < 486 := by omega
          rw [sp_cl (n := z) (by omega), nI_1]
          obtain ⟨x, x1, x2, x3⟩ := g2 z hzl
          obtain ⟨y, y1, y2, y3⟩ := hR (4 * s + p) v0.1
          have y4 : M2 36 (576 * k + (4 * s + p)) = nI y := by rw [g1 36 (by omega)]; exact y1
          rw [x1, y4, sp_min (by omega) (by omega)]
          refine ih2 (p + 1) _ (by omega) (fun a ha => ?_) (fun z' hz' => ?_)
          · rw [← g1 a ha]; simp [gl_u2, gl_u1, ha]
          · show ∃ v, (if z' = z then nI (if y < x then y else x) else M2 37 z') = nI v ∧ v ≤ 1000000 ∧ pt_A 1000000 (pt_N B b (n - 1 - k) k (4 * s + (p + 1)) z') v
            by_cases ez : z' = z
            · subst ez
              rw [if_pos rfl]
              refine ⟨_, rfl, by split <;> omega, (x3.or y3).iff (fun w => ⟨?_, ?_⟩)⟩
              · rintro (⟨e, q1, q2⟩ | q)
                · exact ⟨e, by omega, q2⟩
                · exact ⟨4 * s + p, by omega, v0, by rw [v1, v2]; exact hz, q⟩
              · rintro ⟨e, q1, q2, q3, q4⟩
                by_cases q5 : e = 4 * s + p
                · subst q5; exact Or.inr q4
                · exact Or.inl ⟨e, by omega, q2, q3, q4⟩
            · rw [if_neg ez]
              obtain ⟨x', a1, a2, a3⟩ := g2 z' hz'
              refine ⟨x', a1, a2, a3.iff (fun w => ⟨?_, ?_⟩)⟩
              · rintro ⟨e, q1, q2⟩
                exact ⟨e, by omega, q2⟩
              · rintro ⟨e, q1, q2, q3, q4⟩
                refine ⟨e, ?_, q2, q3, q4⟩
                by_cases q5 : e = 4 * s + p
                · subst q5; rw [v1, v2, hz] at q3; exact absurd q3.symm ez
                · omega
      exact inner _ 0 M1 (Nat.zero_add _) h1 h2
  refine outer _ 0 _ (Nat.zero_add _) (fun a ha => by simp [sp_fl, gl_u1, ha]) (fun z hz => ⟨1000000, ?_, Nat.le_refl _, pt_A.no ?_⟩)
  · show (if 0 ≤ z ∧ z < 486 then (1000000 : Int32) else M 37 z) = nI 1000000
    rw [if_pos (by omega)]; rfl
  · rintro w ⟨e, h1, -⟩
    omega
/-- on from e0 by one of the first p parts of its scale -/
def pt_G (B : sp_B) (b : Nat → Int32) (m k e0 p w : Nat) : Prop := ∃ f q w', q < p ∧ sp_sp B (f / 4) (f % 4) (e0 / 4) = some q ∧ pt_P B b m k f w' ∧ w = pt_c e0 f q + w'
def pt_J (B : sp_B) (b : Nat → Int32) (m k s p w : Nat) : Prop := ∃ f w', sp_sp B (f / 4) (f % 4) s = some p ∧ pt_P B b m k f w' ∧ w = w' + (if s = f / 4 then 0 else 10)
theorem pt_G_succ {m k s t p w : Nat} (ht : t < 4) : pt_G B b m k (4 * s + t) (p + 1) w ↔ pt_G B b m k (4 * s + t) p w ∨ ∃ w', pt_J B b m k s p w' ∧ w = w' + (if p = t then 0 else 1) := by
  have e1 : (4 * s + t) / 4 = s := by omega
  have e2 : (4 * s + t) % 4 = t := by omega
  unfold pt_G pt_J pt_c
  rw [e1, e2]
  constructor
  · rintro ⟨f, q, w', h1, h2, h3, h4⟩
    by_cases e : q = p
    · subst e
      exact Or.inr ⟨_, ⟨f, w', h2, h3, rfl⟩, by omega⟩
    · exact Or.inl ⟨f, q, w', by omega, h2, h3, h4⟩
  · rintro (⟨f, q, w', h1, h2, h3, h4⟩ | ⟨w2, ⟨f, w', h2, h3, h5⟩, h4⟩)
    · exact ⟨f, q, w', by omega, h2, h3, h4⟩
    · exact ⟨f, p, w', by omega, h2, h3, by omega⟩
theorem pt_stay (hw : sp_wf B) {C m k s p x y : Nat} (hs : s < 24 * sp_nm B) (hp : p < sp_pn B s) (hy : pt_A C (pt_P B b m k (4 * s + p)) y) (hx : pt_A C (pt_N B b m k (96 * sp_nm B) (sp_pl B s p * 81 + sp_pi B s p)) x) : pt_A C (pt_J B b m k s p) (if x + 10 < y then x + 10 else y) := by
  obtain ⟨v0, v1, v2⟩ := pt_V_mk hw hs hp
  have c1 := sp_pl_lt hw hs hp
  have p1 := sp_pi_le hw hs hp
  have h := hy.or (hx.add 10)
  have same : ∀ f, pt_V B f → (sp_sp B (f / 4) (f % 4) s = some p ↔ sp_pl B (f / 4) (f % 4) * 81 + sp_pi B (f / 4) (f % 4) = sp_pl B s p * 81 + sp_pi B s p) := fun f hf => by
    have c2 := sp_pl_lt hw (pt_V_sc hf) hf.2
    have p2 := sp_pi_le hw (pt_V_sc hf) hf.2
    rw [sp_sp_iff hw hs]
    constructor
    · rintro ⟨-, a1, a2⟩
      omega
    · intro a
      refine ⟨hp, by omega, by omega⟩
  have uni : ∀ f, pt_V B f → sp_sp B (f / 4) (f % 4) s = some p → f / 4 = s → f = 4 * s + p := fun f hf a e => by
    have z := ((sp_sp_iff hw hs).mp a).2.2
    have h2 := hf.2
    rw [e] at z h2
    have := sp_pi_inj hw hs hp h2 z
    omega
  refine ⟨fun q => ?_, ?_⟩
  · rcases h.1 q with g | ⟨w', ⟨e, g1, g2, g3, g4⟩, g5⟩
    · refine ⟨4 * s + p, _, (same _ v0).mpr (by rw [v1, v2]), g, ?_⟩
      rw [if_pos v1.symm]; rfl
    · have a := (same e g2).mpr g3
      refine ⟨e, w', a, g4, ?_⟩
      by_cases z : s = e / 4
      · exfalso
        have := uni e g2 a z.symm
        subst this
        have := h.2 w' (Or.inl g4)
        omega
      · rw [if_neg z]; exact g5
  · rintro w ⟨f, w', a, g4, g5⟩
    have hf := (pt_P_K g4).1
    by_cases z : s = f / 4
    · rw [if_pos z] at g5
      have := uni f hf a z.symm
      subst this
      exact h.2 w (Or.inl (by rw [g5]; exact g4))
    · rw [if_neg z] at g5
      exact h.2 w (Or.inr ⟨w', ⟨f, hf.1, hf, (same f hf).mp a, g4⟩, g5⟩)
theorem r_leastRest {M : gl_N} (hC : sp_MC B M) {n k s t : Nat} (hn : n ≤ 16) (hk : k + 1 < n) (ha : M 20 1 = nI n) (hR : pt_R B b n (k + 1) M) (hE : pt_E B b n (k + 1) (96 * sp_nm B) M) (hs : s < 24 * sp_nm B) (ht : t < sp_pn B s) (K : ∀ v, v ≤ 1000000 → pt_A 1000000 (pt_G B b (n - 1 - (k + 1)) (k + 1) (4 * s + t) (sp_pn B s)) v → Q (some (.int (nI v))) M) : gr l sc m_X1_leastRest [.ref 35, .int (nI k), .int (nI s), .int (nI t)] M Q := by
  have hw := hC.1
  have hm6 : sp_nm B ≤ 6 := hw.2.2.1
  have h4 := (sp_sc hw hs).2.2.2.1
  have key : ∀ (r p v : Nat), p + r = sp_pn B s → v ≤ 1000000 → pt_A 1000000 (pt_G B b (n - 1 - (k + 1)) (k + 1) (4 * s + t) p) v → gv l sc m_X1_leastRest 22 [.ref 35, .int (nI k), .int (nI s), .int (nI t), .int (nI v), .int (nI p), .float 0, .float 0, .float 0] [] M Q := by
    intro r
    induction r with
    | zero =>
      intro p v hp h1 h2
      have : p = sp_pn B s := by omega
      subst this
      exact w_X1_leastRest_22 l sc M Q _ _ _ _ _ (r_partsOf hC hs ⟨_, rfl, fun _ => K v h1 h2, fun q => absurd (Int32.le_refl _) q⟩)
    | succ r ih =>
      intro p v hp h1 h2
      have hpp : p < sp_pn B s := by omega
      have c1 := sp_pl_lt hw hs hpp
      have p1 := sp_pi_le hw hs hpp
      obtain ⟨v0, v1, v2⟩ := pt_V_mk hw hs hpp
      refine w_X1_leastRest_22 l sc M Q _ _ _ _ _ (r_partsOf hC hs ⟨_, rfl, fun q => absurd q (sp_le_lit (by omega) (by omega) (by omega)), fun _ => r_spotOf ⟨_, rfl, ?_⟩⟩)
      have ek : nI k + 1 = nI (k + 1) := nI_1 k
      rw [ek]
      refine r_restAt (by omega) (by omega) ⟨_, rfl, r_placed hC hs hpp ⟨_, rfl, sp_vp (by omega) (by omega), ?_⟩⟩
      obtain ⟨y, y1, y2, y3⟩ := hR (4 * s + p) v0.1
      obtain ⟨x, x1, x2, x3⟩ := hE (sp_pl B s p * 81 + sp_pi B s p) (by omega)
      have st := pt_stay hw hs hpp y3 x3
      generalize hX : (if x + 10 < y then x + 10 else y) = X at st
      have hXl : X ≤ 1000010 := by rw [← hX]; split <;> omega
      rw [sp_cl (n := sp_pl B s p * 81 + sp_pi B s p) (by omega), x1, y1, show nI x + 10 = nI (x + 10) from nI_add x 10, sp_min (x := x + 10) (by omega) (by omega), hX]
      have ep : nI p + 1 = nI (p + 1) := nI_1 p
      have e1 : nI X + 1 = nI (X + 1) := nI_1 X
      have e0 : nI X + 0 = nI X := Int32.add_zero _
      rw [ep, e1, e0, sp_min (x := X + 1) (by omega) (by omega), sp_min (x := X) (by omega) (by omega), sp_eq (by omega) (by omega)]
      refine ⟨fun q => ih (p + 1) _ (by omega) (by split <;> omega) ((h2.or (st.add 1)).iff (fun w => ?_)), fun q => ih (p + 1) _ (by omega) (by split <;> omega) ((h2.or (st.add 0)).iff (fun w => ?_))⟩
      · rw [pt_G_succ (by omega), if_neg q]
      · rw [pt_G_succ (by omega), if_pos q]
  exact e_X1_leastRest l sc M Q _ _ _ ⟨fun _ => key _ 0 1000000 (Nat.zero_add _) (Nat.le_refl _) (pt_A.no (by rintro w ⟨f, q, w', h1, -⟩; omega)), fun q => absurd (by rw [ha, nI_1]; exact (sp_lt (by omega) (by omega)).mpr (by omega)) q⟩
theorem pt_G_P {m k e w : Nat} (hw : sp_wf B) (hK : pt_K B b k e) : pt_G B b m (k + 1) e (sp_pn B (e / 4)) w ↔ pt_P B b (m + 1) k e w := by
  constructor
  · rintro ⟨f, q, w', h1, h2, h3, h4⟩
    exact ⟨hK, f, _, w', ⟨q, h2, rfl⟩, h3, h4⟩
  · rintro ⟨-, f, c, w', ⟨q, h2, rfl⟩, h3, h4⟩
    exact ⟨f, q, w', ((sp_sp_iff hw (pt_V_sc hK.1)).mp h2).1, h2, h3, h4⟩
theorem r_rests {M : gl_N} (hC : sp_MC B M) {n k : Nat} (hn : n ≤ 16) (hk : k < n) (ha : M 20 1 = nI n) (hb : M 21 = b) (hy : sp_nt (b k)) (hR : k + 1 < n → pt_R B b n (k + 1) M) (hE : k + 1 < n → pt_E B b n (k + 1) (96 * sp_nm B) M) (K : ∀ M', (∀ a, a ≠ 36 → M' a = M a) → (∀ i, (i < 576 * k ∨ 576 * (k + 1) ≤ i) → M' 36 i = M 36 i) → pt_R B b n k M' → Q none M') : gr l sc m_X1_measureRests [.ref 35, .int (nI k)] M Q := by
  have hw := hC.1
  have hm6 : sp_nm B ≤ 6 := hw.2.2.1
  obtain ⟨ey, ey60⟩ := sp_nt0 hy
  have rr : ∀ {M1 : gl_N}, (∀ i, (i < 576 * k ∨ 576 * (k + 1) ≤ i) → M1 36 i = M 36 i) → k + 1 < n → pt_R B b n (k + 1) M1 := fun {M1} h hk1 e he => by
    obtain ⟨v, h1, h2⟩ := hR hk1 e he
    exact ⟨v, by rw [h _ (by omega)]; exact h1, h2⟩
  have ee : ∀ {M1 : gl_N}, (∀ a, a ≠ 36 → M1 a = M a) → k + 1 < n → pt_E B b n (k + 1) (96 * sp_nm B) M1 := fun {M1} h hk1 z hz => by
    rw [h 37 (by omega)]
    exact hE hk1 z hz
  have outer : ∀ (r s : Nat) (M1 : gl_N), s + r = 24 * sp_nm B → (∀ a, a ≠ 36 → M1 a = M a) → (∀ i, (i < 576 * k ∨ 576 * (k + 1) ≤ i) → M1 36 i = M 36 i) → (∀ e, e < 4 * s → ∃ v, M1 36 (576 * k + e) = nI v ∧ v ≤ 1000000 ∧ pt_A 1000000 (pt_P B b (n - 1 - k) k e) v) → gv l sc m_X1_measureRests 12 [.ref 35, .int (nI k), .int (b k), .int (nI s), .float 0, .float 0] [] M1 Q := by
    intro r
    induction r with
    | zero =>
      intro s M1 hs h1 h2 h3
      have : s = 24 * sp_nm B := by omega
      subst this
      exact w_X1_measureRests_12 l sc M1 Q _ _ _ (r_scaleCount (hC.mv fun a _ _ => h1 a (by omega)) ⟨_, rfl, fun _ => K M1 h1 h2 (fun e he => h3 e (by omega)), fun q => absurd (Int32.le_refl _) q⟩)
    | succ r ih =>
      intro s M1 hs h1 h2 h3
      have hsN : s < 24 * sp_nm B := by omega
      have h4 := (sp_sc hw hsN).2.2.2.1
      refine w_X1_measureRests_12 l sc M1 Q _ _ _ (r_scaleCount (hC.mv fun a _ _ => h1 a (by omega)) ⟨_, rfl, fun q => absurd q (sp_le_lit (by omega) (by omega) (by omega)), fun _ => ?_⟩)
      have inner : ∀ (r2 p : Nat) (M2 : gl_N), p + r2 = 4 → (∀ a, a ≠ 36 → M2 a = M a) → (∀ i, (i < 576 * k ∨ 576 * (k + 1) ≤ i) → M2 36 i = M 36 i) → (∀ e, e < 4 * s + p → ∃ v, M2 36 (576 * k + e) = nI v ∧ v ≤ 1000000 ∧ pt_A 1000000 (pt_P B b (n - 1 - k) k e) v) → gv l sc m_X1_measureRests 26 [.ref 35, .int (nI k), .int (b k), .int (nI s), .int (nI p), .float 0] [] M2 Q := by
        intro r2
        induction r2 with
        | zero =>
          intro p M2 hp g1 g2 g3
          have : p = 4 := by omega
          subst this
          refine w_X1_measureRests_26 l sc M2 Q _ _ _ _ ⟨fun _ => ?_, fun q => absurd (show nI 4 ≤ nI 4 from Int32.le_refl _) q⟩
          rw [nI_1]
          exact ih (s + 1) M2 (by omega) g1 g2 (fun e he => g3 e (by omega))
        | succ r2 ih2 =>
          intro p M2 hp g1 g2 g3
          have hMC := hC.mv (M' := M2) fun a _ _ => g1 a (by omega)
          have next : ∀ v : Nat, v ≤ 1000000 → pt_A 1000000 (pt_P B b (n - 1 - k) k (4 * s + p)) v → gv l sc m_X1_measureRests 26 [.ref 35, .int (nI k), .int (b k), .int (nI s), .int (nI p + 1), .float 0] [] (gl_u2 M2 36 (576 * k + (4 * s + p)) (nI v)) Q := fun v v1 v2 => by
            rw [nI_1]
            refine ih2 (p + 1) _ (by omega) (fun a ha => by rw [← g1 a ha]; simp [gl_u2, gl_u1, ha]) (fun i hi => ?_) (fun e he => ?_)
            · show (if i = 576 * k + (4 * s + p) then nI v else M2 36 i) = M 36 i
              rw [if_neg (by omega), g2 i hi]
            · show ∃ x, (if 576 * k + e = 576 * k + (4 * s + p) then nI v else M2 36 (576 * k + e)) = nI x ∧ x ≤ 1000000 ∧ pt_A 1000000 (pt_P B b (n - 1 - k) k e) x
              by_cases q : e = 4 * s + p
              · subst q; rw [if_pos rfl]; exact ⟨v, rfl, v1, v2⟩
              · rw [if_neg (by omega)]; exact g3 e (by omega)
          have ei : nI k * 576 + nI (4 * s + p) = nI (576 * k + (4 * s + p)) := by rw [show (576 : Int32) = nI 576 from rfl, sp_mul, nI_add, Nat.mul_comm]
          have vi : vp_in (nI (576 * k + (4 * s + p))) 9216 := sp_vp (by omega) (by omega)
          have ci : (nI (576 * k + (4 * s + p))).toNatClampNeg = 576 * k + (4 * s + p) := sp_cl (by omega)
          have no : ¬ pt_K B b k (4 * s + p) → pt_A 1000000 (pt_P B b (n - 1 - k) k (4 * s + p)) 1000000 := fun hno => pt_A.no fun w hP => hno (pt_P_K hP)
          have e4 : (4 * s + p) / 4 = s := by omega
          have e5 : (4 * s + p) % 4 = p := by omega
          refine w_X1_measureRests_26 l sc M2 Q _ _ _ _ ⟨fun q => absurd q (sp_le_lit (N := 4) (by omega) (by omega) (by omega)), fun _ => r_partsOf hMC hsN ⟨_, rfl, fun q => r_spotOf ⟨_, rfl, ?_⟩, fun q => ?_⟩⟩
          · have hle := (sp_le (by omega) (by omega)).mp q
            rw [ei, ci]
            exact ⟨vi, next 1000000 (Nat.le_refl _) (no (fun hK => by have := hK.1.2; rw [e4, e5] at this; omega))⟩
          · have hpp : p < sp_pn B s := Nat.lt_of_not_le (fun z => q ((sp_le (by omega) (by omega)).mpr z))
            obtain ⟨v0, v1, v2⟩ := pt_V_mk hw hsN hpp
            rw [show (Value.int (b k)) = Value.int (nI (b k).toNatClampNeg) by rw [← ey]]
            refine r_isIn hMC hsN hpp (by omega) ⟨_, rfl, ?_⟩
            rw [← ey]
            cases hin : sp_in B s p (b k).toNatClampNeg
            · refine ⟨fun _ => r_spotOf ⟨_, rfl, ?_⟩, fun q => absurd rfl q⟩
              rw [ei, ci]
              exact ⟨vi, next 1000000 (Nat.le_refl _) (no (fun hK => by have := hK.2; rw [e4, e5, hin] at this; cases this))⟩
            · have hK : pt_K B b k (4 * s + p) := ⟨v0, by rw [e4, e5]; exact hin⟩
              refine ⟨fun q => absurd q (by decide), fun _ => r_spotOf ⟨_, rfl, ?_⟩⟩
              by_cases hk1 : k + 1 < n
              · refine r_leastRest hMC hn hk1 (by rw [g1 20 (by omega)]; exact ha) (rr g2 hk1) (ee g1 hk1) hsN hpp (fun v a1 a2 => ⟨_, rfl, ?_⟩)
                rw [ei, ci]
                refine ⟨vi, next v a1 (a2.iff (fun w => ?_))⟩
                have := pt_G_P (m := n - 1 - (k + 1)) (w := w) hw hK
                rw [e4] at this
                rw [this, show n - 1 - (k + 1) + 1 = n - 1 - k by omega]
              · refine e_X1_leastRest l sc M2 _ _ _ _ ⟨fun q => absurd q (by rw [show M2 20 1 = nI n by rw [g1 20 (by omega)]; exact ha, nI_1]; exact fun z => hk1 ((sp_lt (by omega) (by omega)).mp z)), fun _ => ⟨_, rfl, ?_⟩⟩
                rw [ei, ci]
                refine ⟨vi, next 0 (by omega) ⟨fun _ => ?_, fun w _ => Nat.zero_le _⟩⟩
                rw [show n - 1 - k = 0 by omega]
                exact ⟨hK, rfl⟩
      exact inner 4 0 M1 rfl h1 h2 (fun e he => h3 e (by omega))
  refine e_X1_measureRests l sc M Q _ ⟨sp_vp (by omega) (by omega), ?_⟩
  rw [sp_cl (n := k) (by omega), hb]
  exact outer _ 0 M (Nat.zero_add _) (fun _ _ => rfl) (fun _ _ => rfl) (fun e he => by omega)
end SP16

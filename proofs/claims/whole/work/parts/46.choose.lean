section SP17
variable {l : Launch} {sc : Nat × (Nat → Int32)} {Q : Option Value → gl_N → Prop} {B : sp_B} {b : Nat → Int32}
theorem r_scaleOfSpot {M : gl_N} {e : Nat} (he : e < 1000) (K : Q (some (.int (nI (e / 4)))) M) : gr l sc m_X10_scaleOfSpot [.int (nI e)] M Q := by
  refine e_X10_scaleOfSpot l sc M Q _ ?_
  rw [show nI e / 4 = nI (e / 4) from pk_div (d := 4) (by omega) (by omega) (by omega)]
  exact K
theorem r_partOfSpot {M : gl_N} {e : Nat} (he : e < 1000) (K : Q (some (.int (nI (e % 4)))) M) : gr l sc m_X10_partOfSpot [.int (nI e)] M Q := by
  refine e_X10_partOfSpot l sc M Q _ ?_
  rw [show nI e - nI e / 4 * 4 = nI (e % 4) from pk_rem (d := 4) (by omega) (by omega) (by omega)]
  exact K
theorem pt_T_same (hw : sp_wf B) {e f : Nat} (hf : pt_V B f) (h : e / 4 = f / 4) : pt_T B e f (if e = f then 0 else 1) := by
  have hs := pt_V_sc hf
  refine ⟨f % 4, ?_, ?_⟩
  · rw [h, sp_sp_iff hw hs]
    exact ⟨hf.2, rfl, rfl⟩
  · unfold pt_c
    rw [if_pos h]
    by_cases q : e = f
    · subst q; rw [if_pos rfl, if_pos rfl]
    · rw [if_neg q, if_neg (by omega)]
theorem r_changeCost {M : gl_N} (hC : sp_MC B M) {e f : Nat} (he : pt_V B e) (hf : pt_V B f) (K1 : ∀ c, pt_T B e f c → Q (some (.int (nI c))) M) (K0 : (∀ c, ¬ pt_T B e f c) → Q (some (.int 1000000)) M) : gr l sc m_X1_changeCost [.ref 35, .int (nI e), .int (nI f)] M Q := by
  have hw := hC.1
  have hm6 : sp_nm B ≤ 6 := hw.2.2.1
  have he1 := he.1
  have hf1 := hf.1
  refine e_X1_changeCost l sc M Q _ _ (r_scaleOfSpot (by omega) ⟨_, rfl, r_scaleOfSpot (by omega) ⟨_, rfl, ?_⟩⟩)
  rw [sp_eq (by omega) (by omega), sp_eq (by omega) (by omega)]
  refine ⟨fun q => r_partOfSpot (by omega) ⟨_, rfl, r_samePart hC (pt_V_sc hf) hf.2 (pt_V_sc he) ⟨_, rfl, ?_⟩⟩, fun q => ?_⟩
  · cases hsp : sp_sp B (f / 4) (f % 4) (e / 4) with
    | none =>
      refine ⟨fun z => absurd rfl z, fun _ => K0 ?_⟩
      rintro c ⟨q', h1, -⟩
      rw [hsp] at h1
      cases h1
    | some q' =>
      have hq4 := ((sp_sp_iff hw (pt_V_sc he)).mp hsp).1
      have h4 := (sp_sc hw (pt_V_sc he)).2.2.2.1
      refine ⟨fun _ => r_partOfSpot (by omega) ⟨_, rfl, ?_⟩, fun z => absurd z (sp_neg1 (n := q') (by omega))⟩
      show (¬ nI q' = nI (e % 4) → _) ∧ (nI q' = nI (e % 4) → _)
      rw [sp_eq (by omega) (by omega)]
      refine ⟨fun z => K1 11 ⟨q', hsp, ?_⟩, fun z => K1 10 ⟨q', hsp, ?_⟩⟩
      · unfold pt_c; rw [if_neg z, if_neg q]
      · unfold pt_c; rw [if_pos z, if_neg q]
  · have := pt_T_same hw hf q
    refine ⟨fun z => K1 1 (by rw [if_neg z] at this; exact this), fun z => K1 0 (by rw [if_pos z] at this; exact this)⟩
theorem r_spots {M : gl_N} (hC : sp_MC B M) (K : Q (some (.int (nI (96 * sp_nm B)))) M) : gr l sc m_X10_spotOf [.int (nI (24 * sp_nm B)), .int 0] M Q := by
  refine r_spotOf (s := 24 * sp_nm B) (p := 0) ?_
  rw [show 4 * (24 * sp_nm B) + 0 = 96 * sp_nm B by omega]
  exact K
theorem r_firstSpot {M : gl_N} (hC : sp_MC B M) {n : Nat} (hn : n ≤ 16) (hR : pt_R B b n 0 M) (K1 : ∀ f v, f < 96 * sp_nm B → pt_F B b n f v → Q (some (.int (nI f))) M) (K0 : (∀ e w, ¬ pt_P B b (n - 1) 0 e w) → Q (some (.int (-1))) M) : gr l sc m_X1_firstSpot [.ref 35] M Q := by
  have hw := hC.1
  have hm6 : sp_nm B ≤ 6 := hw.2.2.1
  have key : ∀ (r E : Nat) (x : Int32) (v : Nat), E + r = 96 * sp_nm B → ((x = -1 ∧ v = 1000000 ∧ ∀ e w, e < E → ¬ pt_P B b (n - 1) 0 e w) ∨ (∃ f, x = nI f ∧ f < E ∧ v < 1000000 ∧ pt_P B b (n - 1) 0 f v ∧ (∀ e w, e < E → pt_P B b (n - 1) 0 e w → v ≤ w) ∧ ∀ e, e < f → ¬ pt_P B b (n - 1) 0 e v)) → gv l sc m_X1_firstSpot 7 [.ref 35, .int x, .int (nI v), .int (nI E)] [] M Q := by
    intro r
    induction r with
    | zero =>
      intro E x v hE h
      have : E = 96 * sp_nm B := by omega
      subst this
      refine w_X1_firstSpot_7 l sc M Q _ _ _ (r_scaleCount hC ⟨_, rfl, r_spots hC ⟨_, rfl, fun _ => ?_, fun q => absurd (Int32.le_refl _) q⟩⟩)
      rcases h with ⟨h1, -, h3⟩ | ⟨f, h1, h2, -, h4, h5, h6⟩
      · rw [h1]
        exact K0 (fun e w hP => h3 e w (pt_P_K hP).1.1 hP)
      · rw [h1]
        exact K1 f v h2 ⟨h4, fun e w hP => h5 e w (pt_P_K hP).1.1 hP, h6⟩
    | succ r ih =>
      intro E x v hE h
      obtain ⟨y, y1, y2, y3⟩ := hR E (by omega)
      rw [Nat.mul_zero, Nat.zero_add] at y1
      have hv : v ≤ 1000000 := by
        rcases h with ⟨-, h2, -⟩ | ⟨f, -, -, h3, -⟩ <;> omega
      have hr : ∀ {Q : Option Value → gl_N → Prop}, Q (some (.int (nI y))) M → gr l sc m_X1_restAt [.ref 35, .int 0, .int (nI E)] M Q := fun {Q} K => by
        refine r_restAt (k := 0) (by omega) (by omega) ?_
        rw [Nat.mul_zero, Nat.zero_add, y1]
        exact K
      refine w_X1_firstSpot_7 l sc M Q _ _ _ (r_scaleCount hC ⟨_, rfl, r_spots hC ⟨_, rfl, fun q => absurd q (sp_le_lit (by omega) (by omega) (by omega)), fun _ => hr ⟨_, rfl, ?_⟩⟩⟩)
      rw [nI_1, nI_leI (by omega) (by omega)]
      refine ⟨fun q => ih (E + 1) x v (by omega) ?_, fun q => hr ⟨_, rfl, ih (E + 1) (nI E) y (by omega) (Or.inr ⟨E, rfl, by omega, by omega, y3.1 (by omega), fun e w he hP => ?_, fun e he hP => ?_⟩)⟩⟩
      · rcases h with ⟨h1, h2, h3⟩ | ⟨f, h1, h2, h3, h4, h5, h6⟩
        · refine Or.inl ⟨h1, h2, fun e w he hP => ?_⟩
          by_cases z : e = E
          · subst z
            have a := y3.2 w hP
            have c := pt_P_le hP
            omega
          · exact h3 e w (by omega) hP
        · refine Or.inr ⟨f, h1, by omega, h3, h4, fun e w he hP => ?_, h6⟩
          by_cases z : e = E
          · subst z
            have := y3.2 w hP
            omega
          · exact h5 e w (by omega) hP
      · by_cases z : e = E
        · subst z
          exact y3.2 w hP
        · rcases h with ⟨-, -, h3⟩ | ⟨f, -, -, -, -, h5, -⟩
          · exact absurd hP (h3 e w (by omega))
          · have := h5 e w (by omega) hP
            omega
      · rcases h with ⟨-, -, h3⟩ | ⟨f, -, -, -, -, h5, -⟩
        · exact absurd hP (h3 e y he)
        · have := h5 e y he hP
          omega
  exact e_X1_firstSpot l sc M Q (key _ 0 (-1) 1000000 (Nat.zero_add _) (Or.inl ⟨rfl, rfl, fun e w he => absurd he (Nat.not_lt_zero _)⟩))
theorem pt_min {S : Nat → Prop} : ∀ {w : Nat}, S w → ∃ v, pt_D S v := by
  intro w
  induction w using Nat.strongRecOn with
  | ind w ih =>
    intro h
    by_cases q : ∃ u, u < w ∧ S u
    · obtain ⟨u, h1, h2⟩ := q
      exact ih u h1 h2
    · exact ⟨w, h, fun u hu => Nat.le_of_not_lt (fun z => q ⟨u, z, hu⟩)⟩
/-- there is a next spot -/
theorem pt_on_ex {n k e v : Nat} (hk : k + 1 < n) (h : pt_D (pt_P B b (n - 1 - k) k e) v) : ∃ f c, f < 96 * sp_nm B ∧ pt_on B b n (k + 1) e f v c := by
  have hD := h.2
  have hP := h.1
  rw [show n - 1 - k = n - 1 - (k + 1) + 1 by omega] at hP hD
  obtain ⟨hK, f, c, w', h1, h2, h3⟩ := hP
  obtain ⟨u, hu⟩ := pt_min h2
  have a := hu.2 w' h2
  have d := hD (c + u) ⟨hK, f, c, u, h1, hu.1, rfl⟩
  exact ⟨f, c, (pt_P_K h2).1.1, u, hu, h1, by omega⟩
theorem r_nextSpot {M : gl_N} (hC : sp_MC B M) {n k e v : Nat} (hn : n ≤ 16) (hk : k + 1 < n) (he : pt_V B e) (hR : pt_R B b n k M) (hR1 : pt_R B b n (k + 1) M) (hv : pt_D (pt_P B b (n - 1 - k) k e) v) (K : ∀ f c, pt_V B f → pt_X B b n (k + 1) e f c → Q (some (.int (nI f))) M) : gr l sc m_X1_nextSpot [.ref 35, .int (nI (k + 1)), .int (nI e)] M Q := by
  have hw := hC.1
  have hm6 : sp_nm B ≤ 6 := hw.2.2.1
  have he1 := he.1
  have hvl := pt_P_le hv.1
  obtain ⟨g, d, hg1, hg2⟩ := pt_on_ex hk hv
  have key : ∀ (r E : Nat), E + r = 96 * sp_nm B → (∀ g, g < E → ∀ d, ¬ pt_on B b n (k + 1) e g v d) → gv l sc m_X1_nextSpot 12 [.ref 35, .int (nI (k + 1)), .int (nI e), .int (nI v), .int (nI E), .float 0] [] M Q := by
    intro r
    induction r with
    | zero =>
      intro E hE h
      exact absurd hg2 (h g (by omega) d)
    | succ r ih =>
      intro E hE h
      obtain ⟨y, y1, y2, y3⟩ := hR1 E (by omega)
      refine w_X1_nextSpot_12 l sc M Q _ _ _ _ (r_scaleCount hC ⟨_, rfl, r_spots hC ⟨_, rfl, fun q => absurd q (sp_le_lit (by omega) (by omega) (by omega)), fun _ => r_restAt (by omega) (by omega) ⟨_, rfl, ?_⟩⟩⟩)
      have e1 : nI E + 1 = nI (E + 1) := nI_1 E
      rw [y1, nI_ltI (by omega) (by omega), e1]
      have next : (∀ d, ¬ pt_on B b n (k + 1) e E v d) → gv l sc m_X1_nextSpot 12 [.ref 35, .int (nI (k + 1)), .int (nI e), .int (nI v), .int (nI (E + 1)), .float 0] [] M Q := fun hno => ih (E + 1) (by omega) (fun g hg d hd => by
        by_cases z : g = E
        · subst z; exact hno d hd
        · exact h g (by omega) d hd)
      refine ⟨fun q => next (fun d hd => ?_), fun q => ?_⟩
      · obtain ⟨w, w1, w2, w3⟩ := hd
        have := y3.2 w w1.1
        omega
      · have hD := y3.d (by omega)
        refine r_changeCost hC he (pt_P_K hD.1).1 (fun c hc => ⟨_, rfl, ?_⟩) (fun hno => ⟨_, rfl, ?_⟩)
        · have hcl := pt_T_le hc
          rw [nI_add, nI_eq (by omega) (by omega)]
          refine ⟨fun z => next (fun d hd => ?_), fun z => K E c (pt_P_K hD.1).1 ⟨v, ?_, ⟨y, hD, hc, by omega⟩, h⟩⟩
          · obtain ⟨w, w1, w2, w3⟩ := hd
            have := w1.uni hD
            have := pt_T_uni w2 hc
            omega
          · rw [show n - (k + 1) = n - 1 - k by omega, show k + 1 - 1 = k by omega]
            exact hv
        · refine ⟨fun _ => next (fun d hd => ?_), fun z => ?_⟩
          · obtain ⟨w, w1, w2, w3⟩ := hd
            exact hno d w2
          · exfalso
            have := (nI_eq (a := y + 1000000) (b := v) (by omega) (by omega)).mp ((nI_add y 1000000).symm.trans z)
            omega
  refine e_X1_nextSpot l sc M Q _ _ ?_
  rw [show nI (k + 1) - 1 = nI k from nI_pred k]
  refine r_restAt (by omega) (by omega) ⟨_, rfl, ?_⟩
  obtain ⟨y, y1, y2, y3⟩ := hR e he1
  rw [y1, y3.dv hv (by omega)]
  exact key _ 0 (Nat.zero_add _) (fun g hg => absurd hg (Nat.not_lt_zero _))
/-- what choose leaves -/
def pt_O (B : sp_B) (b : Nat → Int32) (n : Nat) (fd s1 s2 : Int32) (cm : Nat → Int32) : Prop :=
  (fd = 1 ∧ n = 0 ∧ s1 = 0 ∧ s2 = 0) ∨ (fd = 1 ∧ 0 < n ∧ ∃ (ch : Nat → Nat) (x y : Nat), s1 = nI x ∧ s2 = nI y ∧ (∀ k, k < n → cm k = nI (ch k) ∧ pt_V B (ch k)) ∧ pt_Y B b n ch (n - 1) x y) ∨ (fd = 0 ∧ 0 < n ∧ ∀ e w, ¬ pt_P B b (n - 1) 0 e w)
theorem r_choose {M : gl_N} (hC : sp_MC B M) {n : Nat} (hn : n ≤ 16) (ha : M 20 1 = nI n) (hR : ∀ k, k < n → pt_R B b n k M) (K : ∀ M', (∀ a, a ≠ 35 → a ≠ 38 → M' a = M a) → (∀ i, 9 ≤ i → M' 35 i = M 35 i) → pt_O B b n (M' 35 6) (M' 35 7) (M' 35 8) (M' 38) → Q none M') : gr l sc m_X1_choose [.ref 35] M Q := by
  have hw := hC.1
  have hm6 : sp_nm B ≤ 6 := hw.2.2.1
  refine e_X1_choose l sc M Q ⟨fun hne => ?_, fun he => ?_⟩
  · have hn0 : 0 < n := by
      rcases Nat.eq_zero_or_pos n with z | z
      · rw [ha, z] at hne; exact absurd rfl hne
      · exact z
    have rr : ∀ {M1 : gl_N}, (∀ a, a ≠ 35 → a ≠ 38 → M1 a = M a) → ∀ k, k < n → pt_R B b n k M1 := fun {M1} h k hk e he => by
      rw [h 36 (by omega) (by omega)]
      exact hR k hk e he
    have key : ∀ (r i : Nat) (M1 : gl_N) (ch : Nat → Nat) (x y : Nat) (z : Int32), i + 1 + r = n → (∀ a, a ≠ 35 → a ≠ 38 → M1 a = M a) → (∀ i, 9 ≤ i → M1 35 i = M 35 i) → M1 35 6 = 1 → M1 35 7 = nI x → M1 35 8 = nI y → (∀ j, j < i + 1 → M1 38 j = nI (ch j) ∧ pt_V B (ch j)) → pt_Y B b n ch i x y → gv l sc m_X1_choose 73 [.ref 35, .int z, .int (nI (i + 1))] [] M1 Q := by
      intro r
      induction r with
      | zero =>
        intro i M1 ch x y z hi h1 h2 h3 h4 h5 h6 h7
        have hi2 : i + 1 = n := by omega
        refine w_X1_choose_73 l sc M1 Q _ _ ⟨fun _ => K M1 h1 h2 (Or.inr (Or.inl ⟨h3, hn0, ch, x, y, h4, h5, fun k hk => h6 k (by omega), ?_⟩)), fun q => absurd ?_ q⟩
        · rw [show n - 1 = i by omega]; exact h7
        · rw [h1 20 (by omega) (by omega), ha, hi2]; exact Int32.le_refl _
      | succ r ih =>
        intro i M1 ch x y z hi h1 h2 h3 h4 h5 h6 h7
        have hC1 := hC.mv (M' := M1) fun a _ _ => h1 a (by omega) (by omega)
        obtain ⟨x1, y1, v, w, c1, c2, c3⟩ := pt_Y_cost (by omega) h7
        have hci := h6 i (by omega)
        refine w_X1_choose_73 l sc M1 Q _ _ ⟨fun q => absurd q (by rw [h1 20 (by omega) (by omega), ha]; exact sp_le_lit (by omega) (by omega) (by omega)), fun _ => ?_⟩
        have ei : nI (i + 1) - 1 = nI i := nI_pred i
        rw [ei, sp_cl (n := i) (by omega), sp_cl (n := i + 1) (by omega), hci.1]
        refine ⟨sp_vp (by omega) (by omega), r_nextSpot hC1 hn (by omega) hci.2 (rr h1 i (by omega)) (rr h1 (i + 1) (by omega)) c2 (fun f c hf hX => ⟨_, rfl, ⟨sp_vp (by omega) (by omega), sp_vp (by omega) (by omega), sp_vp (by omega) (by omega)⟩, ?_⟩)⟩
        have f1 : (gl_u2 M1 38 (i + 1) (nI f)) 38 i = nI (ch i) := by
          show (if i = i + 1 then nI f else M1 38 i) = nI (ch i)
          rw [if_neg (by omega), hci.1]
        have f2 : (gl_u2 M1 38 (i + 1) (nI f)) 38 (i + 1) = nI f := by
          show (if i + 1 = i + 1 then nI f else M1 38 (i + 1)) = nI f
          rw [if_pos rfl]
        have hTc : pt_T B (ch i) f c := by
          obtain ⟨_, _, ⟨_, _, t, _⟩, _⟩ := hX
          exact t
        rw [f1, f2]
        refine r_changeCost (hC.mv fun a a1 a2 => by rw [← h1 a (by omega) (by omega)]; simp [gl_u2, gl_u1, show a ≠ 38 by omega]) hci.2 hf (fun c' hc' => ⟨_, rfl, ?_⟩) (fun hno => absurd hTc (hno c))
        have := pt_T_uni hc' hTc
        subst this
        have hcl := pt_T_le hc'
        refine e_X1_countChange l sc _ _ _ ⟨rfl, ?_⟩
        rw [show nI c' / 10 = nI (c' / 10) from pk_div (d := 10) (by omega) (by omega) (by omega), show nI c' - nI (c' / 10) * 10 = nI (c' % 10) by rw [← show nI c' / 10 = nI (c' / 10) from pk_div (d := 10) (by omega) (by omega) (by omega)]; exact pk_rem (d := 10) (by omega) (by omega) (by omega), nI_1]
        refine ih (i + 1) _ (fun j => if j = i + 1 then f else ch j) (x + c' / 10) (y + c' % 10) z (by omega) (fun a a1 a2 => ?_) (fun j hj => ?_) ?_ ?_ ?_ (fun j hj => ?_) ⟨c', x, y, pt_Y_ext (fun j hj => ?_) h7, ?_, rfl, rfl⟩
        · rw [← h1 a a1 a2]; simp [gl_u2, gl_u1, a1, a2]
        · rw [← h2 j hj]
          show upd (upd (M1 35) 7 _) 8 _ j = M1 35 j
          simp only [upd]
          rw [if_neg (by omega), if_neg (by omega)]
        · exact h3
        · show M1 35 7 + nI (c' / 10) = nI (x + c' / 10)
          rw [h4, nI_add]
        · show M1 35 8 + nI (c' % 10) = nI (y + c' % 10)
          rw [h5, nI_add]
        · show (if j = i + 1 then nI f else M1 38 j) = nI (if j = i + 1 then f else ch j) ∧ pt_V B (if j = i + 1 then f else ch j)
          by_cases e : j = i + 1
          · rw [if_pos e, if_pos e]; exact ⟨rfl, hf⟩
          · rw [if_neg e, if_neg e]; exact h6 j (by omega)
        · show ch j = (if j = i + 1 then f else ch j)
          rw [if_neg (by omega)]
        · show pt_X B b n (i + 1) (if i = i + 1 then f else ch i) (if i + 1 = i + 1 then f else ch (i + 1)) c'
          rw [if_neg (by omega), if_pos rfl]
          exact hX
    have hfr : ∀ (x y z : Int32) (a : Nat), a ≠ 35 → (gl_u2 (gl_u2 (gl_u2 M 35 7 x) 35 8 y) 35 6 z) a = M a := fun x y z a ha => by simp [gl_u2, gl_u1, ha]
    have hsl : ∀ (x y z z' : Int32) (i : Nat), 9 ≤ i → (gl_u2 (gl_u2 (gl_u2 (gl_u2 M 35 7 x) 35 8 y) 35 6 z) 35 6 z') 35 i = M 35 i := fun x y z z' i hi => by
      show upd (upd (upd (upd (M 35) 7 x) 8 y) 6 z) 6 z' i = M 35 i
      simp only [upd]
      rw [if_neg (by omega), if_neg (by omega), if_neg (by omega), if_neg (by omega)]
    refine r_firstSpot (n := n) (b := b) (hC.mv fun a _ _ => hfr 0 0 0 a (by omega)) hn (rr (fun a a1 a2 => hfr 0 0 0 a a1) 0 hn0) (fun f v hf hF => ⟨_, rfl, fun q => absurd q (sp_neg1 (by omega)), fun _ => ?_⟩) (fun hno => ⟨_, rfl, fun _ => K _ (fun a a1 a2 => ?_) (fun i hi => hsl _ _ _ _ i hi) (Or.inr (Or.inr ⟨rfl, hn0, hno⟩)), fun q => absurd rfl q⟩)
    · refine key (n - 1) 0 _ (fun _ => f) 0 0 _ (by omega) (fun a a1 a2 => ?_) (fun i hi => hsl _ _ _ _ i hi) rfl rfl rfl (fun j hj => ?_) ⟨rfl, rfl, v, hF⟩
      · simp [gl_u2, gl_u1, a1, a2]
      · have : j = 0 := by omega
        subst this
        exact ⟨rfl, (pt_P_K hF.1).1⟩
    · simp [gl_u2, gl_u1, a1]
  · have hn0 : n = 0 := by
      rw [ha] at he
      exact (sp_eq (N := 0) (by omega) (by omega)).mp he
    refine K _ (fun a a1 a2 => by simp [gl_u2, gl_u1, a1]) (fun i hi => ?_) (Or.inl ⟨rfl, hn0, rfl, rfl⟩)
    show upd (upd (upd (M 35) 7 0) 8 0) 6 1 i = M 35 i
    simp only [upd]
    rw [if_neg (by omega), if_neg (by omega), if_neg (by omega)]
end SP17

section SP21
variable {l : Launch} {sc : Nat × (Nat → Int32)} {Q : Option Value → gl_N → Prop} {B : sp_B} {b : Nat → Int32}
theorem r_lp {mt : Nat → Nat → Prop} {M1 : gl_N} (hR1 : sp_MR B M1) {n i L : Nat} (hn : n ≤ 16) (hi : i < n) (hL : L < 100000) (hrow : pt_RR B b n i M1) (hcase : (i = 0 ∧ ∀ g d, mt g d ↔ d = 0 ∧ pt_D (pt_P B b (n - 1 - i) i g) L) ∨ (∃ j e v, i = j + 1 ∧ pt_V B e ∧ M1 58 j = nI e ∧ M1 57 (576 * j + e) = nI v ∧ v ≤ 11 * (n - 1) ∧ ∀ g d, mt g d ↔ pt_on B b n i e g v d)) (hex : ∃ g d, mt g d)
    (K : ∀ f c, pt_V B f → c ≤ 11 → mt f c → (∀ g, g < f → ∀ d, ¬ mt g d) → gv l sc m_X11_laysParse 12 [.ref 42, .int (nI L), .int (nI (i + 1)), .float 0, .float 0, .float 0, .float 0] [] (gl_u2 (gl_u2 (gl_u2 M1 58 i (nI f)) 42 27 (M1 42 27 + nI (c / 10))) 42 28 (M1 42 28 + nI (c % 10))) Q) : gv l sc m_X11_laysParse 31 [.ref 42, .int (nI L), .int (nI i), .int (-9), .int 0, .int (nI 0), .float 0] [] M1 Q := by
  have hw := hR1.1
  have hm6 : sp_nm B ≤ 6 := hw.2.2.1
  have hmt : ∀ g d, mt g d → ∃ w, pt_P B b (n - 1 - i) i g w := fun g d h => by
    rcases hcase with ⟨-, hc⟩ | ⟨j, e, v, -, -, -, -, -, hc⟩
    · exact ⟨L, ((hc g d).mp h).2.1⟩
    · obtain ⟨w, h1, -⟩ := (hc g d).mp h
      exact ⟨w, h1.1⟩
  have e96 : (96 : Int32) * M1 42 2 = nI (96 * sp_nm B) := by rw [hR1.2.2.1, show (96 : Int32) = nI 96 from rfl, sp_mul]
  have key : ∀ (r E : Nat) (x3 x4 : Int32), E + r = 96 * sp_nm B → ((x3 = -9 ∧ ∀ g, g < E → ∀ d, ¬ mt g d) ∨ (∃ f c, x3 = nI f ∧ x4 = nI c ∧ pt_V B f ∧ c ≤ 11 ∧ mt f c ∧ ∀ g, g < f → ∀ d, ¬ mt g d)) → gv l sc m_X11_laysParse 31 [.ref 42, .int (nI L), .int (nI i), .int x3, .int x4, .int (nI E), .float 0] [] M1 Q := by
    intro r
    induction r with
    | zero =>
      intro E x3 x4 hE h
      refine w_X11_laysParse_31 l sc M1 Q _ _ _ _ _ ?_
      rw [e96]
      refine ⟨fun _ => ⟨sp_vp (by omega) (by omega), ?_⟩, fun q => absurd ((sp_le (by omega) (by omega)).mpr (by omega)) q⟩
      rcases h with ⟨-, h⟩ | ⟨f, c, h1, h2, h3, h4, h5, h6⟩
      · exfalso
        obtain ⟨g, d, hg⟩ := hex
        obtain ⟨w, hP⟩ := hmt g d hg
        exact h g (by have := (pt_P_K hP).1.1; omega) d hg
      · have d10 : nI c / 10 = nI (c / 10) := pk_div (d := 10) (by omega) (by omega) (by omega)
        have m10 : nI c - nI (c / 10) * 10 = nI (c % 10) := by rw [← d10]; exact pk_rem (d := 10) (by omega) (by omega) (by omega)
        rw [h1, h2, d10, m10, nI_1, sp_cl (n := i) (by omega)]
        exact K f c h3 h4 h5 h6
    | succ r ih =>
      intro E x3 x4 hE h
      refine w_X11_laysParse_31 l sc M1 Q _ _ _ _ _ ?_
      rw [e96]
      refine ⟨fun q => absurd q (sp_le_lit (by omega) (by omega) (by omega)), fun _ => ⟨fun q => ⟨sp_vp (by omega) (by omega), ?_⟩, fun q => ?_⟩⟩
      · rcases h with ⟨h, -⟩ | ⟨f, c, h1, h2, h3, h4, h5, h6⟩
        · exact absurd h q
        · have d10 : nI c / 10 = nI (c / 10) := pk_div (d := 10) (by omega) (by omega) (by omega)
          have m10 : nI c - nI (c / 10) * 10 = nI (c % 10) := by rw [← d10]; exact pk_rem (d := 10) (by omega) (by omega) (by omega)
          rw [h1, h2, d10, m10, nI_1, sp_cl (n := i) (by omega)]
          exact K f c h3 h4 h5 h6
      · rcases h with ⟨-, h⟩ | ⟨f, c, h1, h2, h3, h4, h5, h6⟩
        · have d4 : nI E / 4 = nI (E / 4) := pk_div (d := 4) (by omega) (by omega) (by omega)
          have m4 : nI E - nI (E / 4) * 4 = nI (E % 4) := by rw [← d4]; exact pk_rem (d := 4) (by omega) (by omega) (by omega)
          have ei : (576 : Int32) * nI i + nI E = nI (576 * i + E) := by rw [show (576 : Int32) = nI 576 from rfl, sp_mul, nI_add]
          have eE : nI E + 1 = nI (E + 1) := nI_1 E
          rw [d4, m4, ei, eE, sp_cl (n := 576 * i + E) (by omega)]
          have skip : ∀ x4, (∀ d, ¬ mt E d) → gv l sc m_X11_laysParse 31 [.ref 42, .int (nI L), .int (nI i), .int (-9), .int x4, .int (nI (E + 1)), .float 0] [] M1 Q := fun x4 hno => ih (E + 1) (-9) x4 (by omega) (Or.inl ⟨rfl, fun g hg d hd => by
            by_cases z : g = E
            · subst z; exact hno d hd
            · exact h g (by omega) d hd⟩)
          have take : ∀ c, c ≤ 11 → pt_V B E → mt E c → gv l sc m_X11_laysParse 31 [.ref 42, .int (nI L), .int (nI i), .int (nI E), .int (nI c), .int (nI (E + 1)), .float 0] [] M1 Q := fun c hc hV hm => ih (E + 1) (nI E) (nI c) (by omega) (Or.inr ⟨E, c, rfl, rfl, hV, hc, hm, h⟩)
          have hEs : E / 4 < 24 * sp_nm B := by omega
          have h4p := (sp_sc hw hEs).2.2.2.1
          rw [q]
          refine r_parts hR1 hEs ⟨_, rfl, fun q => skip x4 (fun d hd => ?_), fun q => ⟨sp_vp (by omega) (by omega), ?_⟩⟩
          · obtain ⟨w, hP⟩ := hmt E d hd
            have := (pt_P_K hP).1.2
            have := (sp_le (by omega) (by omega)).mp q
            omega
          · have hV : pt_V B E := ⟨by omega, Nat.lt_of_not_le (fun z => q ((sp_le (by omega) (by omega)).mpr z))⟩
            obtain ⟨y, y1, y2, y3⟩ := hrow E hV
            rw [y1, show (100000 : Int32) = nI 100000 from rfl, sp_le (n := 100000) (by omega) (by omega)]
            refine ⟨fun q => skip x4 (fun d hd => ?_), fun q => ?_⟩
            · obtain ⟨w, hP⟩ := hmt E d hd
              have := y3.2 w hP
              have := pt_P_le hP
              omega
            · have hD := y3.d (by omega)
              rcases hcase with ⟨i0, hc⟩ | ⟨j, e, v, ij, he, h58, h57, hv, hc⟩
              · subst i0
                refine ⟨fun z => absurd rfl z, fun _ => ⟨fun z => absurd rfl z, fun _ => ⟨sp_vp (by omega) (by omega), ?_⟩⟩⟩
                rw [show (0 : Int32) + nI y = nI y from Int32.zero_add _, sp_eq (by omega) (by omega)]
                refine ⟨fun z => skip 0 (fun d hd => z (hD.uni ((hc E d).mp hd).2)), fun z => take 0 (by omega) hV ((hc E 0).mpr ⟨rfl, by rw [← z]; exact hD⟩)⟩
              · have he1 := he.1
                have ej : nI i - 1 = nI j := by rw [ij]; exact nI_pred j
                have ne0 : ¬ nI i = 0 := fun z => by
                  have := (sp_eq (n := i) (N := 0) (by omega) (by omega)).mp z
                  omega
                have d4e : nI e / 4 = nI (e / 4) := pk_div (d := 4) (by omega) (by omega) (by omega)
                have m4e : nI e - nI (e / 4) * 4 = nI (e % 4) := by rw [← d4e]; exact pk_rem (d := 4) (by omega) (by omega) (by omega)
                have eje : (576 : Int32) * nI j + nI e = nI (576 * j + e) := by rw [show (576 : Int32) = nI 576 from rfl, sp_mul, nI_add]
                rw [ej, sp_cl (n := j) (by omega), h58, d4e, m4e]
                refine ⟨fun _ => ⟨⟨sp_vp (by omega) (by omega), sp_vp (by omega) (by omega)⟩, r_step hR1 he hV (fun c hT => ⟨_, rfl, fun _ => ?_, fun z => absurd z ne0⟩) (fun hno => ⟨_, rfl, fun _ => ?_, fun z => absurd z ne0⟩)⟩, fun z => absurd z ne0⟩
                · have hcl := pt_T_le hT
                  rw [h58, eje, sp_cl (n := 576 * j + e) (by omega), h57, y1, nI_add, nI_eq (by omega) (by omega)]
                  refine ⟨⟨sp_vp (by omega) (by omega), sp_vp (by omega) (by omega), sp_vp (by omega) (by omega)⟩, fun z => skip _ (fun d hd => ?_), fun z => take c hcl hV ((hc E c).mpr ⟨y, hD, hT, z⟩)⟩
                  obtain ⟨w, w1, w2, w3⟩ := (hc E d).mp hd
                  have := w1.uni hD
                  have := pt_T_uni w2 hT
                  omega
                · rw [h58, eje, sp_cl (n := 576 * j + e) (by omega), h57, y1, nI_add, nI_eq (by omega) (by omega)]
                  refine ⟨⟨sp_vp (by omega) (by omega), sp_vp (by omega) (by omega), sp_vp (by omega) (by omega)⟩, fun z => skip _ (fun d hd => ?_), fun z => by omega⟩
                  obtain ⟨w, w1, w2, w3⟩ := (hc E d).mp hd
                  exact hno d w2
        · rw [q] at h1
          have := h3.1
          exact absurd h1.symm (sp_neg9 (by omega))
  exact key _ 0 (-9) 0 (Nat.zero_add _) (Or.inl ⟨rfl, fun g hg => absurd hg (Nat.not_lt_zero _)⟩)
theorem r_laysParse {M : gl_N} (hR : sp_MR B M) {n L : Nat} (hn : n ≤ 16) (ha : M 48 0 = nI n) (hL : L < 100000) (hm : 0 < n → pt_A 100000 (fun w => ∃ e, pt_P B b (n - 1) 0 e w) L) (hrow : ∀ k, k < n → pt_RR B b n k M)
    (K : ∀ M', (∀ a, a ≠ 42 → a ≠ 58 → M' a = M a) → (∀ i, i ≠ 27 → i ≠ 28 → M' 42 i = M 42 i) → (n = 0 → M' 42 27 = 0 ∧ M' 42 28 = 0) → (0 < n → ∃ (ch : Nat → Nat) (x y : Nat), M' 42 27 = nI x ∧ M' 42 28 = nI y ∧ (∀ k, k < n → M' 58 k = nI (ch k) ∧ pt_V B (ch k)) ∧ pt_Y B b n ch (n - 1) x y) → Q none M') : gr l sc m_X11_laysParse [.ref 42, .int (nI L)] M Q := by
  have key : ∀ (r i : Nat) (M1 : gl_N) (ch : Nat → Nat) (x y : Nat), i + r = n → (∀ a, a ≠ 42 → a ≠ 58 → M1 a = M a) → (∀ i, i ≠ 27 → i ≠ 28 → M1 42 i = M 42 i) → M1 42 27 = nI x → M1 42 28 = nI y → (∀ k, k < i → M1 58 k = nI (ch k) ∧ pt_V B (ch k)) → (i = 0 → x = 0 ∧ y = 0) → (0 < i → pt_Y B b n ch (i - 1) x y) → gv l sc m_X11_laysParse 12 [.ref 42, .int (nI L), .int (nI i), .float 0, .float 0, .float 0, .float 0] [] M1 Q := by
    intro r
    induction r with
    | zero =>
      intro i M1 ch x y hi h1 h2 h3 h4 h5 h6 h7
      have : i = n := by omega
      subst this
      refine w_X11_laysParse_12 l sc M1 Q _ _ ⟨fun _ => K M1 h1 h2 (fun z => ?_) (fun z => ⟨ch, x, y, h3, h4, h5, h7 z⟩), fun q => absurd (by rw [h1 48 (by omega) (by omega), ha]; exact Int32.le_refl _) q⟩
      obtain ⟨z1, z2⟩ := h6 z
      rw [h3, h4, z1, z2]
      exact ⟨rfl, rfl⟩
    | succ r ih =>
      intro i M1 ch x y hi h1 h2 h3 h4 h5 h6 h7
      have hR1 : sp_MR B M1 := hR.mv (h2 1 (by omega) (by omega)) (h2 2 (by omega) (by omega)) (fun a _ _ => h1 a (by omega) (by omega))
      have rows : ∀ k, k < n → pt_RR B b n k M1 := fun k hk e he => by rw [h1 57 (by omega) (by omega)]; exact hrow k hk e he
      refine w_X11_laysParse_12 l sc M1 Q _ _ ⟨fun q => absurd q (by rw [h1 48 (by omega) (by omega), ha]; exact sp_le_lit (by omega) (by omega) (by omega)), fun _ => ?_⟩
      have fin : ∀ (f c : Nat), pt_V B f → (i = 0 → c = 0) → pt_Y B b n (fun j => if j = i then f else ch j) i (x + c / 10) (y + c % 10) → gv l sc m_X11_laysParse 12 [.ref 42, .int (nI L), .int (nI (i + 1)), .float 0, .float 0, .float 0, .float 0] [] (gl_u2 (gl_u2 (gl_u2 M1 58 i (nI f)) 42 27 (M1 42 27 + nI (c / 10))) 42 28 (M1 42 28 + nI (c % 10))) Q := fun f c hf hc hY => by
        refine ih (i + 1) _ (fun j => if j = i then f else ch j) (x + c / 10) (y + c % 10) (by omega) (fun a a1 a2 => ?_) (fun j j1 j2 => ?_) ?_ ?_ (fun k hk => ?_) (fun z => by omega) (fun _ => hY)
        · rw [← h1 a a1 a2]; simp [gl_u2, gl_u1, a1, a2]
        · rw [← h2 j j1 j2]
          show upd (upd (M1 42) 27 _) 28 _ j = M1 42 j
          simp only [upd]
          rw [if_neg j2, if_neg j1]
        · show M1 42 27 + nI (c / 10) = nI (x + c / 10)
          rw [h3, nI_add]
        · show M1 42 28 + nI (c % 10) = nI (y + c % 10)
          rw [h4, nI_add]
        · show (if k = i then nI f else M1 58 k) = nI (if k = i then f else ch k) ∧ pt_V B (if k = i then f else ch k)
          by_cases e : k = i
          · rw [if_pos e, if_pos e]; exact ⟨rfl, hf⟩
          · rw [if_neg e, if_neg e]; exact h5 k (by omega)
      cases i with
      | zero =>
        obtain ⟨x0, y0⟩ := h6 rfl
        subst x0 y0
        have hA := hm (by omega)
        obtain ⟨e0, he0⟩ := hA.1 hL
        have dd : ∀ g, pt_P B b (n - 1) 0 g L → pt_D (pt_P B b (n - 1 - 0) 0 g) L := fun g hg => ⟨hg, fun w hw => hA.2 w ⟨g, hw⟩⟩
        refine r_lp (mt := fun g d => d = 0 ∧ pt_D (pt_P B b (n - 1 - 0) 0 g) L) hR1 hn (by omega) hL (rows 0 (by omega)) (Or.inl ⟨rfl, fun g d => Iff.rfl⟩) ⟨e0, 0, rfl, dd e0 he0⟩ (fun f c hf hcl hm hno => fin f c hf (fun _ => hm.1) ?_)
        obtain ⟨c0, hD⟩ := hm
        subst c0
        refine ⟨rfl, rfl, L, hD.1, fun e w hP => hA.2 w ⟨e, hP⟩, fun e he hP => hno e he 0 ⟨rfl, dd e hP⟩⟩
      | succ j =>
        have hY := h7 (by omega)
        rw [show j + 1 - 1 = j by omega] at hY
        obtain ⟨-, -, v, w, -, hD, -⟩ := pt_Y_cost (by omega) hY
        obtain ⟨m1, m2⟩ := h5 j (by omega)
        have hwl := pt_P_le hD.1
        obtain ⟨u, u1, u2, u3⟩ := rows j (by omega) (ch j) m2
        have := u3.dv hD (by omega)
        subst this
        obtain ⟨g, d, -, hg⟩ := pt_on_ex (by omega) hD
        refine r_lp (mt := fun g d => pt_on B b n (j + 1) (ch j) g u d) hR1 hn (by omega) hL (rows (j + 1) (by omega)) (Or.inr ⟨j, ch j, u, rfl, m2, m1, u1, by omega, fun g d => Iff.rfl⟩) ⟨g, d, hg⟩ (fun f c hf hcl hm hno => fin f c hf (fun z => by omega) ⟨c, x, y, pt_Y_ext (fun i hi => ?_) hY, ?_, rfl, rfl⟩)
        · show ch i = (if i = j + 1 then f else ch i)
          rw [if_neg (by omega)]
        · show pt_X B b n (j + 1) (if j = j + 1 then f else ch j) (if j + 1 = j + 1 then f else ch (j + 1)) c
          rw [if_neg (by omega), if_pos rfl]
          refine ⟨u, ?_, hm, hno⟩
          rw [show n - (j + 1) = n - 1 - j by omega, show j + 1 - 1 = j by omega]
          exact hD
  refine e_X11_laysParse l sc M Q _ (key n 0 _ (fun _ => 0) 0 0 (Nat.zero_add _) (fun a a1 a2 => by simp [gl_u2, gl_u1, a1]) (fun i i1 i2 => ?_) rfl rfl (fun k hk => absurd hk (Nat.not_lt_zero _)) (fun _ => ⟨rfl, rfl⟩) (fun z => absurd z (Nat.lt_irrefl _)))
  show upd (upd (M 42) 27 0) 28 0 i = M 42 i
  simp only [upd]
  rw [if_neg i2, if_neg i1]
end SP21

section SP19
variable {l : Launch} {sc : Nat × (Nat → Int32)} {Q : Option Value → gl_N → Prop} {B : sp_B} {b : Nat → Int32}
theorem sp_MR.mv {M M' : gl_N} (h : sp_MR B M) (e1 : M' 42 1 = M 42 1) (e2 : M' 42 2 = M 42 2) (e : ∀ a, 43 ≤ a → a ≤ 45 → M' a = M a) : sp_MR B M' := by
  refine ⟨h.1, ?_⟩
  rw [e1, e2, e 43 (by omega) (by omega), e 44 (by omega) (by omega), e 45 (by omega) (by omega)]
  exact h.2
/-- the reference's costs at note k -/
def pt_RR (B : sp_B) (b : Nat → Int32) (n k : Nat) (M : gl_N) : Prop := ∀ e, pt_V B e → ∃ v, M 57 (576 * k + e) = nI v ∧ v ≤ 100000 ∧ pt_A 100000 (pt_P B b (n - 1 - k) k e) v
theorem r_state {M : gl_N} {k s p : Nat} (K : Q (some (.int (nI (576 * k + (4 * s + p))))) M) : gr l sc m_X11_state [.int (nI k), .int (nI s), .int (nI p)] M Q := by
  refine e_X11_state l sc M Q _ _ _ ?_
  rw [show 576 * nI k + 4 * nI s + nI p = nI (576 * k + (4 * s + p)) by rw [show (576 : Int32) = nI 576 from rfl, show (4 : Int32) = nI 4 from rfl, sp_mul, sp_mul, nI_add, nI_add, Nat.add_assoc]]
  exact K
/-- on from a spot t of s by its part q, to a mode's part below E -/
def pt_Gi (B : sp_B) (b : Nat → Int32) (m k s t q E w : Nat) : Prop := ∃ f w', 4 * (f / 4 / 24) + f % 4 < E ∧ sp_sp B (f / 4) (f % 4) s = some q ∧ pt_P B b m k f w' ∧ w = pt_c (4 * s + t) f q + w'
theorem pt_Gi_skip {m k s t q E w : Nat} (h : ∀ f, pt_V B f → 4 * (f / 4 / 24) + f % 4 = E → sp_sp B (f / 4) (f % 4) s = some q → False) : pt_Gi B b m k s t q (E + 1) w ↔ pt_Gi B b m k s t q E w := by
  constructor
  · rintro ⟨f, w', h1, h2, h3, h4⟩
    refine ⟨f, w', ?_, h2, h3, h4⟩
    by_cases e : 4 * (f / 4 / 24) + f % 4 = E
    · exact absurd (h f (pt_P_K h3).1 e h2) id
    · omega
  · rintro ⟨f, w', h1, h2⟩
    exact ⟨f, w', by omega, h2⟩
theorem pt_Gi_one {m k s t q E w f : Nat} (hf : 4 * (f / 4 / 24) + f % 4 = E) (hs : sp_sp B (f / 4) (f % 4) s = some q) (h : ∀ g, pt_V B g → 4 * (g / 4 / 24) + g % 4 = E → sp_sp B (g / 4) (g % 4) s = some q → g = f) : pt_Gi B b m k s t q (E + 1) w ↔ pt_Gi B b m k s t q E w ∨ ∃ w', pt_P B b m k f w' ∧ w = w' + pt_c (4 * s + t) f q := by
  constructor
  · rintro ⟨g, w', h1, h2, h3, h4⟩
    by_cases e : 4 * (g / 4 / 24) + g % 4 = E
    · have := h g (pt_P_K h3).1 e h2
      subst this
      exact Or.inr ⟨w', h3, by omega⟩
    · exact Or.inl ⟨g, w', by omega, h2, h3, h4⟩
  · rintro (⟨g, w', h1, h2⟩ | ⟨w', h3, h4⟩)
    · exact ⟨g, w', by omega, h2⟩
    · exact ⟨f, w', by omega, hs, h3, by omega⟩
theorem pt_G_Gi {m k s t q w : Nat} (ht : t < 4) : pt_G B b m k (4 * s + t) (q + 1) w ↔ pt_G B b m k (4 * s + t) q w ∨ pt_Gi B b m k s t q (4 * sp_nm B) w := by
  have e1 : (4 * s + t) / 4 = s := by omega
  unfold pt_G pt_Gi
  rw [e1]
  constructor
  · rintro ⟨f, q', w', h1, h2, h3, h4⟩
    by_cases e : q' = q
    · subst e
      have := (pt_P_K h3).1.1
      exact Or.inr ⟨f, w', by omega, h2, h3, h4⟩
    · exact Or.inl ⟨f, q', w', by omega, h2, h3, h4⟩
  · rintro (⟨f, q', w', h1, h2, h3, h4⟩ | ⟨f, w', h1, h2, h3, h4⟩)
    · exact ⟨f, q', w', by omega, h2, h3, h4⟩
    · exact ⟨f, q, w', by omega, h2, h3, h4⟩
theorem sp_in_same {s k t p y : Nat} (h1 : sp_pl B t p = sp_pl B s k) (h2 : sp_pi B t p = sp_pi B s k) : sp_in B t p y = sp_in B s k y := by
  unfold sp_in
  rw [h1, h2]
theorem sp_subI {x y : Nat} (h : y ≤ x) : nI x - nI y = nI (x - y) := by
  have e : nI x = nI (x - y) + nI y := by rw [nI_add]; congr 1; omega
  rw [e, Int32.add_sub_cancel]
theorem sp_sub_neg {x y : Nat} (hx : x ≤ 1000) (hy : y ≤ 1000) (h : x < y) : ¬ (0 : Int32) ≤ nI x - nI y := by
  intro q
  have e : nI x - nI y = -nI (y - x) := by rw [← sp_subI (x := y) (y := x) (by omega), Int32.neg_sub]
  rw [e] at q
  have a := Int32.le_iff_toInt_le.mp q
  obtain ⟨d, hd⟩ : ∃ d, y - x = d := ⟨_, rfl⟩
  rw [hd] at a
  have hd1 : 1 ≤ d := by omega
  have hd2 : d ≤ 1000 := by omega
  rw [Int32.toInt_neg, nI_toInt (by omega)] at a
  have z : (0 : Int32).toInt = 0 := rfl
  rw [z, Int.bmod_eq_of_le (by omega) (by omega)] at a
  omega
theorem r_leastFrom {M : gl_N} (hR : sp_MR B M) {n k s t : Nat} (hn : n ≤ 16) (hk : k + 1 < n) (hb : ∀ j, j < n → M 48 (1 + j) = b j ∧ sp_nt (b j)) (hr : pt_RR B b n (k + 1) M) (hs : s < 24 * sp_nm B) (ht : t < sp_pn B s) (K : ∀ v, v ≤ 100000 → pt_A 100000 (pt_G B b (n - 1 - (k + 1)) (k + 1) (4 * s + t) (sp_pn B s)) v → Q (some (.int (nI v))) M) : gr l sc m_X11_leastFrom [.ref 42, .int (nI k), .int (nI s), .int (nI t)] M Q := by
  have hw := hR.1
  have hm6 : sp_nm B ≤ 6 := hw.2.2.1
  have h4 := (sp_sc hw hs).2.2.2.1
  obtain ⟨ey, ey60⟩ := sp_nt0 (hb (k + 1) hk).2
  have outer : ∀ (r q v : Nat), q + r = sp_pn B s → v ≤ 100000 → pt_A 100000 (pt_G B b (n - 1 - (k + 1)) (k + 1) (4 * s + t) q) v → gv l sc m_X11_leastFrom 7 [.ref 42, .int (nI k), .int (nI s), .int (nI t), .int (nI v), .int (nI q), .float 0, .float 0, .float 0, .float 0, .float 0, .float 0, .float 0] [] M Q := by
    intro r
    induction r with
    | zero =>
      intro q v hq h1 h2
      have : q = sp_pn B s := by omega
      subst this
      exact w_X11_leastFrom_7 l sc M Q _ _ _ _ _ (r_parts hR hs ⟨_, rfl, fun _ => K v h1 h2, fun z => absurd (Int32.le_refl _) z⟩)
    | succ r ih =>
      intro q v hq h1 h2
      have hqq : q < sp_pn B s := by omega
      have c1 := sp_pl_lt hw hs hqq
      have p1 := sp_pi_le hw hs hqq
      refine w_X11_leastFrom_7 l sc M Q _ _ _ _ _ (r_parts hR hs ⟨_, rfl, fun z => absurd z (sp_le_lit (by omega) (by omega) (by omega)), fun _ => r_cellOf hR hs hqq ⟨_, rfl, r_pitchOf hR hs hqq ⟨_, rfl, ?_⟩⟩⟩)
      have e2 : (2 : Int32) + nI k = nI (1 + (k + 1)) := by rw [show (2 : Int32) = nI 2 from rfl, nI_add]; congr 1; omega
      rw [e2, sp_cl (n := 1 + (k + 1)) (by omega), (hb (k + 1) hk).1, ey]
      refine ⟨sp_vp (by omega) (by omega), r_isInR hR c1.1 (by omega) (by omega) ⟨_, rfl, ?_⟩⟩
      rw [← show sp_in B s q (b (k + 1)).toNatClampNeg = (decide (sp_pi B s q ≤ (b (k + 1)).toNatClampNeg) && sp_hit B (sp_pl B s q) ((b (k + 1)).toNatClampNeg - sp_pi B s q) (B.2.1 (sp_pl B s q))) from rfl, nI_1]
      cases hin : sp_in B s q (b (k + 1)).toNatClampNeg
      · refine ⟨fun _ => ih (q + 1) v (by omega) h1 (h2.iff (fun w => ?_)), fun z => absurd rfl z⟩
        rw [pt_G_Gi (by omega)]
        refine ⟨Or.inl, ?_⟩
        rintro (z | ⟨f, w', -, g2, g3, -⟩)
        · exact z
        · exfalso
          obtain ⟨-, g4, g5⟩ := (sp_sp_iff hw hs).mp g2
          have := (pt_P_K g3).2
          rw [← sp_in_same g4 g5, hin] at this
          cases this
      · refine ⟨fun z => absurd z (by decide), fun _ => ?_⟩
        have inner : ∀ (r2 E v : Nat), E + r2 = 4 * sp_nm B → v ≤ 100000 → pt_A 100000 (fun w => pt_G B b (n - 1 - (k + 1)) (k + 1) (4 * s + t) q w ∨ pt_Gi B b (n - 1 - (k + 1)) (k + 1) s t q E w) v → gv l sc m_X11_leastFrom 57 [.ref 42, .int (nI k), .int (nI s), .int (nI t), .int (nI v), .int (nI q), .int (nI (sp_pl B s q)), .int (nI (sp_pi B s q)), .int (nI E), .float 0, .float 0, .float 0, .float 0] [] M Q := by
          intro r2
          induction r2 with
          | zero =>
            intro E v hE h1 h2
            have : E = 4 * sp_nm B := by omega
            subst this
            refine w_X11_leastFrom_57 l sc M Q _ _ _ _ _ _ _ _ ?_
            have e4 : (4 : Int32) * M 42 2 = nI (4 * sp_nm B) := by rw [hR.2.2.1, show (4 : Int32) = nI 4 from rfl, sp_mul]
            rw [e4, nI_1 q]
            exact ⟨fun _ => ih (q + 1) v (by omega) h1 (h2.iff (fun w => (pt_G_Gi (by omega)).symm)), fun z => absurd (Int32.le_refl _) z⟩
          | succ r2 ih2 =>
            intro E v hE h1 h2
            have hEm : E / 4 < sp_nm B := by omega
            refine w_X11_leastFrom_57 l sc M Q _ _ _ _ _ _ _ _ ?_
            have e4 : (4 : Int32) * M 42 2 = nI (4 * sp_nm B) := by rw [hR.2.2.1, show (4 : Int32) = nI 4 from rfl, sp_mul]
            have d4 : nI E / 4 = nI (E / 4) := pk_div (d := 4) (by omega) (by omega) (by omega)
            have m4 : nI E - nI (E / 4) * 4 = nI (E % 4) := by rw [← d4]; exact pk_rem (d := 4) (by omega) (by omega) (by omega)
            have e9 : (9 : Int32) * nI (E / 4) = nI (9 * (E / 4)) := by rw [show (9 : Int32) = nI 9 from rfl, sp_mul]
            have e10 : nI (9 * (E / 4)) + 2 + 2 * nI (E % 4) = nI (9 * (E / 4) + 2 + 2 * (E % 4)) := by rw [show (2 : Int32) = nI 2 from rfl, sp_mul, nI_add, nI_add]
            have eE : nI E + 1 = nI (E + 1) := nI_1 E
            obtain ⟨a1, a2⟩ := hR.2.2.2.2 (E / 4) hEm
            obtain ⟨b1, b2, b3, b4, b5⟩ := hw.2.2.2 (E / 4) hEm
            rw [e4, d4, m4, e9, e10, eE, sp_cl (n := E) (by omega), sp_cl (n := 9 * (E / 4)) (by omega), sp_cl (n := 9 * (E / 4) + 2 + 2 * (E % 4)) (by omega), a1]
            have skip : (∀ f, pt_V B f → 4 * (f / 4 / 24) + f % 4 = E → sp_sp B (f / 4) (f % 4) s = some q → False) → gv l sc m_X11_leastFrom 57 [.ref 42, .int (nI k), .int (nI s), .int (nI t), .int (nI v), .int (nI q), .int (nI (sp_pl B s q)), .int (nI (sp_pi B s q)), .int (nI (E + 1)), .float 0, .float 0, .float 0, .float 0] [] M Q := fun hno => ih2 (E + 1) v (by omega) h1 (h2.iff (fun w => by rw [pt_Gi_skip hno]))
            have idx : ∀ f, 4 * (f / 4 / 24) + f % 4 = E → f / 4 / 24 = E / 4 ∧ f % 4 = E % 4 := fun f hf => by omega
            refine ⟨fun z => absurd z (sp_le_lit (by omega) (by omega) (by omega)), fun _ => ⟨⟨sp_vp (by omega) (by omega), sp_vp (by omega) (by omega)⟩, fun z => skip (fun f f1 f2 f3 => ?_), fun z => ⟨sp_vp (by omega) (by omega), ?_⟩⟩⟩
            · have hle := (sp_le (by omega) (by omega)).mp z
              obtain ⟨i1, i2⟩ := idx f f2
              have := f1.2
              unfold sp_pn at this
              rw [i1, i2] at this
              omega
            have hpn : E % 4 < B.2.2.2.2.1 (E / 4) := Nat.lt_of_not_le (fun z2 => z ((sp_le (by omega) (by omega)).mpr z2))
            obtain ⟨a3, a4⟩ := a2 (E % 4) hpn
            have e6 : 4 * (E / 4) + E % 4 = E := by omega
            rw [e6] at a4
            rw [a3, a4]
            have hpl := b4 (E % 4) hpn
            have hph := sp_ph_le hw hEm (E % 4) hpn
            have hE4 : E % 4 ≤ 3 := by omega
            rw [sp_eq (by omega) (by omega)]
            refine ⟨fun z2 => skip (fun f f1 f2 f3 => ?_), fun z2 => ?_⟩
            · obtain ⟨i1, i2⟩ := idx f f2
              obtain ⟨-, g4, g5⟩ := (sp_sp_iff hw hs).mp f3
              unfold sp_pl at g4
              rw [i1, i2] at g4
              exact z2 (by unfold sp_pl; exact g4.symm)
            · by_cases hlt : sp_pi B s q < B.2.2.2.2.2.2 (E / 4) (E % 4)
              · refine r_in (fun z3 _ => absurd z3 (sp_sub_neg (by omega) (by omega) hlt)) (fun _ => ⟨_, rfl, fun _ => skip (fun f f1 f2 f3 => ?_), fun z => absurd rfl z⟩)
                obtain ⟨i1, i2⟩ := idx f f2
                obtain ⟨-, g4, g5⟩ := (sp_sp_iff hw hs).mp f3
                have g6 : sp_pi B (f / 4) (f % 4) = f / 4 % 24 + B.2.2.2.2.2.2 (E / 4) (E % 4) := by unfold sp_pi; rw [i1, i2]
                omega
              · rw [sp_subI (x := sp_pi B s q) (y := B.2.2.2.2.2.2 (E / 4) (E % 4)) (by omega)]
                generalize hrt : sp_pi B s q - B.2.2.2.2.2.2 (E / 4) (E % 4) = rt
                refine r_in (fun z3 z4 => ⟨_, rfl, fun z => absurd z (by decide), fun _ => ?_⟩) (fun z3 => ⟨_, rfl, fun _ => skip (fun f f1 f2 f3 => ?_), fun z => absurd rfl z⟩)
                · have hrt23 : rt ≤ 23 := (sp_le (N := 23) (by omega) (by omega)).mp z4
                  have eo : (24 : Int32) * nI (E / 4) + nI rt = nI (24 * (E / 4) + rt) := by rw [show (24 : Int32) = nI 24 from rfl, sp_mul, nI_add]
                  rw [eo]
                  generalize ho : 24 * (E / 4) + rt = o
                  have ho24 : o / 24 = E / 4 := by omega
                  have hoN : o < 24 * sp_nm B := by omega
                  have hop : E % 4 < sp_pn B o := by unfold sp_pn; rw [ho24]; exact hpn
                  obtain ⟨v0, v1, v2⟩ := pt_V_mk hw hoN hop
                  have hsp : sp_sp B ((4 * o + E % 4) / 4) ((4 * o + E % 4) % 4) s = some q := by
                    rw [v1, v2, sp_sp_iff hw hs]
                    refine ⟨hqq, ?_, ?_⟩
                    · unfold sp_pl; rw [ho24]; unfold sp_pl at z2; exact z2.symm
                    · have : sp_pi B o (E % 4) = o % 24 + B.2.2.2.2.2.2 (o / 24) (E % 4) := rfl
                      rw [this, ho24]
                      omega
                  have hone := fun w => pt_Gi_one (w := w) (b := b) (m := n - 1 - (k + 1)) (k := k + 1) (t := t) (E := E) (by rw [v1, v2]; omega) hsp (fun g g1 g2 g3 => by
                    obtain ⟨i1, i2⟩ := idx g g2
                    obtain ⟨-, -, g5⟩ := (sp_sp_iff hw hs).mp g3
                    have g6 : sp_pi B (g / 4) (g % 4) = g / 4 % 24 + B.2.2.2.2.2.2 (E / 4) (E % 4) := by unfold sp_pi; rw [i1, i2]
                    omega)
                  obtain ⟨y, y1, y2, y3⟩ := hr (4 * o + E % 4) v0
                  have fin : ∀ d, d = pt_c (4 * s + t) (4 * o + E % 4) q → gr l sc m_X11_state [.int (nI k + 1), .int (nI o), .int (nI (E % 4))] M (fun r4 M5 => ∃ v6 : Int32, r4 = some (.int v6) ∧ ((vp_in v6 9216) ∧ ((nI v ≤ nI d + M5 57 (Int32.toNatClampNeg v6) → gv l sc m_X11_leastFrom 57 [.ref 42, .int (nI k), .int (nI s), .int (nI t), .int (nI v), .int (nI q), .int (nI (sp_pl B s q)), .int (nI (sp_pi B s q)), .int (nI (E + 1)), .float 0, .float 0, .float 0, .float 0] [] M5 Q) ∧ (¬ nI v ≤ nI d + M5 57 (Int32.toNatClampNeg v6) → gv l sc m_X11_leastFrom 57 [.ref 42, .int (nI k), .int (nI s), .int (nI t), .int (nI d + M5 57 (Int32.toNatClampNeg v6)), .int (nI q), .int (nI (sp_pl B s q)), .int (nI (sp_pi B s q)), .int (nI (E + 1)), .float 0, .float 0, .float 0, .float 0] [] M5 Q)))) := fun d hd => by
                    have hdl := pt_c_le (4 * s + t) (4 * o + E % 4) q
                    rw [show nI k + 1 = nI (k + 1) from nI_1 k]
                    refine r_state ⟨_, rfl, sp_vp (by omega) (by omega), ?_⟩
                    rw [sp_cl (n := 576 * (k + 1) + (4 * o + E % 4)) (by omega), y1, nI_add, nI_leI (by omega) (by omega)]
                    have hset := (h2.or (y3.add d)).iff (S' := fun w => pt_G B b (n - 1 - (k + 1)) (k + 1) (4 * s + t) q w ∨ pt_Gi B b (n - 1 - (k + 1)) (k + 1) s t q (E + 1) w) (fun w => by rw [hone w, ← hd, or_assoc])
                    refine ⟨fun z => ih2 (E + 1) v (by omega) h1 ?_, fun z => ih2 (E + 1) (d + y) (by omega) (by omega) ?_⟩
                    · rw [if_neg (by omega)] at hset; exact hset
                    · rw [if_pos (by omega), Nat.add_comm y d] at hset; exact hset
                  have hc : ∀ x y : Nat, ((if q = t then 0 else 1) = x) → ((if s = o then 0 else 10) = y) → x + y = pt_c (4 * s + t) (4 * o + E % 4) q := fun x y hx hy => by
                    unfold pt_c
                    rw [show (4 * s + t) % 4 = t by omega, show (4 * s + t) / 4 = s by omega, v1, hx, hy]
                  rw [sp_eq (n := q) (by omega) (by omega), sp_eq (n := o) (by omega) (by omega), show (1 : Int32) + 10 = nI 11 from rfl, show (1 : Int32) + 0 = nI 1 from rfl, show (0 : Int32) + 10 = nI 10 from rfl, show (0 : Int32) + 0 = nI 0 from rfl]
                  refine ⟨fun w1 => ⟨fun w2 => fin 11 (hc 1 10 (if_neg w1) (if_neg (Ne.symm w2))), fun w2 => fin 1 (hc 1 0 (if_neg w1) (if_pos w2.symm))⟩, fun w1 => ⟨fun w2 => fin 10 (hc 0 10 (if_pos w1) (if_neg (Ne.symm w2))), fun w2 => fin 0 (hc 0 0 (if_pos w1) (if_pos w2.symm))⟩⟩
                · obtain ⟨i1, i2⟩ := idx f f2
                  obtain ⟨-, g4, g5⟩ := (sp_sp_iff hw hs).mp f3
                  have g6 : sp_pi B (f / 4) (f % 4) = f / 4 % 24 + B.2.2.2.2.2.2 (E / 4) (E % 4) := by unfold sp_pi; rw [i1, i2]
                  refine z3 ⟨nI_pos' (by omega), (sp_le (N := 23) (by omega) (by omega)).mpr (by omega)⟩
        refine inner _ 0 v (Nat.zero_add _) h1 (h2.iff (fun w => ⟨Or.inl, ?_⟩))
        rintro (z | ⟨f, w', z, -⟩)
        · exact z
        · omega
  exact e_X11_leastFrom l sc M Q _ _ _ (outer _ 0 100000 (Nat.zero_add _) (Nat.le_refl _) (pt_A.no (by rintro w ⟨f, q, w', h1, -⟩; omega)))
end SP19

section SP11
variable {WY : sp_WY} {PR : sp_PR} {l : Launch} {sc : Nat × (Nat → Int32)} {Q : Option Value → gl_N → Prop} {B : sp_B}
/-- how many of the first notes b are in some part of s -/
def sp_fit (B : sp_B) (b : Nat → Int32) (s : Nat) : Nat → Nat
  | 0 => 0
  | j + 1 => sp_fit B b s j + (if 0 < sp_cnt B s (b j).toNatClampNeg (sp_pn B s) then 1 else 0)
theorem sp_fit_le (B : sp_B) (b : Nat → Int32) (s : Nat) : ∀ n, sp_fit B b s n ≤ n := by
  intro n
  induction n with
  | zero => exact Nat.le_refl _
  | succ n ih => simp only [sp_fit]; split <;> omega
theorem sp_nt0 {x : Int32} (h : sp_nt x) : x = nI x.toNatClampNeg ∧ x.toNatClampNeg ≤ 60 := sp_ntN h.1 (N := 60) (by omega) h.2
theorem r_fitOfC {M : gl_N} (h : sp_MC B M) {n : Nat} (hn : n ≤ 16) (ha : M 20 1 = nI n) (hb : ∀ j, j < n → sp_nt (M 21 j)) {s : Nat} (hs : s < 24 * sp_nm B) (K : Q (some (.int (nI (sp_fit B (M 21) s n)))) M) : gr l sc m_X10_fitOf [.ref 0, .int (nI s)] M Q := by
  have key : ∀ (r k : Nat), k + r = n → gv l sc m_X10_fitOf 4 [.ref 0, .int (nI s), .int (nI (sp_fit B (M 21) s k)), .int (nI k)] [] M Q := by
    intro r
    induction r with
    | zero =>
      intro k hk
      have : k = n := by omega
      subst this
      exact w_X10_fitOf_4 l sc M Q _ _ _ ⟨fun _ => K, fun q => absurd (by rw [ha]; exact Int32.le_refl _) q⟩
    | succ r ih =>
      intro k hk
      refine w_X10_fitOf_4 l sc M Q _ _ _ ⟨fun q => absurd q (by rw [ha]; exact sp_le_lit (by omega) (by omega) (by omega)), fun _ => ?_⟩
      obtain ⟨e, hy⟩ := sp_nt0 (hb k (by omega))
      have h9 := ih (k + 1) (by omega)
      simp only [sp_fit] at h9
      rw [sp_cl (n := k) (by omega), nI_1, nI_1]
      refine ⟨sp_vp (by omega) (by omega), ?_⟩
      rw [e]
      have hcl := sp_cnt_le B s (M 21 k).toNatClampNeg (sp_pn B s)
      have h4 := (sp_sc h.1 hs).2.2.2.1
      refine r_partsWith h hs (by omega) ⟨_, rfl, fun q => ?_, fun q => ?_⟩
      · have : sp_cnt B s (M 21 k).toNatClampNeg (sp_pn B s) ≤ 0 := (sp_le (N := 0) (by omega) (by omega)).mp q
        rw [if_neg (by omega)] at h9
        exact h9
      · have : ¬ sp_cnt B s (M 21 k).toNatClampNeg (sp_pn B s) ≤ 0 := fun z => q ((sp_le (N := 0) (by omega) (by omega)).mpr z)
        rw [if_pos (by omega)] at h9
        exact h9
  exact e_X10_fitOf l sc M Q _ (key _ 0 (Nat.zero_add _))
theorem r_fitOfR {M : gl_N} (h : sp_MR B M) {n : Nat} (hn : n ≤ 16) (ha : M 48 0 = nI n) {b : Nat → Int32} (hb : ∀ j, j < n → M 48 (1 + j) = b j ∧ sp_nt (b j)) {s : Nat} (hs : s < 24 * sp_nm B) (K : Q (some (.int (nI (sp_fit B b s n)))) M) : gr l sc m_X11_fitOf [.ref 42, .int (nI s)] M Q := by
  have key : ∀ (r k : Nat), k + r = n → gv l sc m_X11_fitOf 4 [.ref 42, .int (nI s), .int (nI (sp_fit B b s k)), .int (nI k)] [] M Q := by
    intro r
    induction r with
    | zero =>
      intro k hk
      have : k = n := by omega
      subst this
      exact w_X11_fitOf_4 l sc M Q _ _ _ ⟨fun _ => K, fun q => absurd (by rw [ha]; exact Int32.le_refl _) q⟩
    | succ r ih =>
      intro k hk
      refine w_X11_fitOf_4 l sc M Q _ _ _ ⟨fun q => absurd q (by rw [ha]; exact sp_le_lit (by omega) (by omega) (by omega)), fun _ => ?_⟩
      obtain ⟨e, hy⟩ := sp_nt0 (hb k (by omega)).2
      have h9 := ih (k + 1) (by omega)
      simp only [sp_fit] at h9
      have e1 : (1 : Int32) + nI k = nI (1 + k) := nI_add 1 k
      rw [e1, sp_cl (n := 1 + k) (by omega), nI_1, nI_1, Int32.add_zero]
      refine ⟨sp_vp (by omega) (by omega), ?_⟩
      rw [(hb k (by omega)).1, e]
      have hcl := sp_cnt_le B s (b k).toNatClampNeg (sp_pn B s)
      have h4 := (sp_sc h.1 hs).2.2.2.1
      refine r_manyHave h hs (by omega) ⟨_, rfl, fun q => ?_, fun q => ?_⟩
      · have : sp_cnt B s (b k).toNatClampNeg (sp_pn B s) ≤ 0 := (sp_le (N := 0) (by omega) (by omega)).mp q
        rw [if_neg (by omega)] at h9
        exact h9
      · have : ¬ sp_cnt B s (b k).toNatClampNeg (sp_pn B s) ≤ 0 := fun z => q ((sp_le (N := 0) (by omega) (by omega)).mpr z)
        rw [if_pos (by omega)] at h9
        exact h9
  exact e_X11_fitOf l sc M Q _ (key _ 0 (Nat.zero_add _))
theorem s_fit (x : Int32) : sp_S WY PR l sc m_X10_fit m_X11_fit [.int x] := by
  rintro ch M hch hI
  obtain ⟨-, ⟨n, hn, ha, hc, hj⟩, -, -, -, -, B, hw, hC, hR, -⟩ := id hI
  have hI0 := sp_I_0 hI
  have hMC : sp_MC B M := ⟨hw, hC⟩
  have hMR : sp_MR B (gl_u2 M 42 0 0) := ⟨hw, hR⟩
  refine e_X10_fit l sc M _ x ?_
  refine r_isScale hMC (fun s hs e => ⟨1, rfl, fun h => absurd h (by decide), fun _ => ?_⟩) (fun hno => ⟨0, rfl, fun _ => ?_, fun h => absurd rfl h⟩)
  · subst e
    refine r_fitOfC hMC hn ha (fun j h => (hj j h).2) hs ⟨_, rfl, _, rfl, e_X11_fit l sc M _ _ ?_⟩
    refine r_isScaleR hMR (fun _ _ _ => ⟨1, rfl, fun h => absurd h (by decide), fun _ => ?_⟩) (fun q => absurd rfl (q s hs))
    exact r_fitOfR (M := gl_u2 M 42 0 0) hMR hn hc hj hs ⟨_, rfl, rfl, hI0⟩
  · exact ⟨_, rfl, e_X11_fit l sc M _ _ (r_isScaleR hMR (fun s hs e => absurd e (hno s hs)) (fun _ => ⟨0, rfl, fun _ => ⟨rfl, hI0⟩, fun h => absurd rfl h⟩))⟩
/-! home -/
def sp_hm (B : sp_B) (b : Nat → Int32) (n : Nat) : Nat → Nat → Int32 → Int32 → Int32
  | 0, _, its, _ => its
  | r + 1, s, its, most => if nI (sp_fit B b s n) ≤ most then sp_hm B b n r (s + 1) its most else sp_hm B b n r (s + 1) (nI s) (nI (sp_fit B b s n))
theorem s_home : sp_S WY PR l sc m_X10_home m_X11_home [] := by
  rintro ch M hch hI
  obtain ⟨-, ⟨n, hn, ha, hc, hj⟩, -, -, -, -, B, hw, hC, hR, -⟩ := id hI
  have hI0 := sp_I_0 hI
  have hMC : sp_MC B M := ⟨hw, hC⟩
  have hMR : sp_MR B (gl_u2 M 42 0 0) := ⟨hw, hR⟩
  have hm : sp_nm B ≤ 6 := hw.2.2.1
  have keyC : ∀ (Q : Option Value → gl_N → Prop) (r s : Nat) (its most : Int32), s + r = 24 * sp_nm B → Q (some (.int (sp_hm B (M 21) n r s its most))) M → gv l sc m_X10_home 7 [.ref 0, .int its, .int most, .int (nI s), .float 0] [] M Q := by
    intro Q r
    induction r with
    | zero =>
      intro s its most hs K
      have : s = 24 * sp_nm B := by omega
      subst this
      exact w_X10_home_7 l sc M Q _ _ _ (r_scaleCount hMC ⟨_, rfl, fun _ => K, fun q => absurd (Int32.le_refl _) q⟩)
    | succ r ih =>
      intro s its most hs K
      refine w_X10_home_7 l sc M Q _ _ _ (r_scaleCount hMC ⟨_, rfl, fun q => absurd q (sp_le_lit (by omega) (by omega) (by omega)), fun _ => r_fitOfC hMC hn ha (fun j h => (hj j h).2) (by omega) ⟨_, rfl, ?_⟩⟩)
      rw [nI_1]
      simp only [sp_hm] at K
      refine ⟨fun q => ih _ _ _ (by omega) ?_, fun q => ih _ _ _ (by omega) ?_⟩
      · rw [if_pos q] at K; exact K
      · rw [if_neg q] at K; exact K
  have keyR : ∀ (Q : Option Value → gl_N → Prop) (r s : Nat) (its most : Int32), s + r = 24 * sp_nm B → Q (some (.int (sp_hm B (M 21) n r s its most))) (gl_u2 M 42 0 0) → gv l sc m_X11_home 12 [.ref 42, .int its, .int most, .int (nI s), .float 0] [] (gl_u2 M 42 0 0) Q := by
    have e24 : (24 : Int32) * (gl_u2 M 42 0 0) 42 2 = nI (24 * sp_nm B) := by
      show (24 : Int32) * M 42 2 = _
      rw [hR.2.1, show (24 : Int32) = nI 24 from rfl, sp_mul]
    intro Q r
    induction r with
    | zero =>
      intro s its most hs K
      have : s = 24 * sp_nm B := by omega
      subst this
      refine w_X11_home_12 l sc _ Q _ _ _ ?_
      rw [e24]
      exact ⟨fun _ => K, fun q => absurd (Int32.le_refl _) q⟩
    | succ r ih =>
      intro s its most hs K
      refine w_X11_home_12 l sc _ Q _ _ _ ?_
      rw [e24, nI_1]
      refine ⟨fun q => absurd q (sp_le_lit (by omega) (by omega) (by omega)), fun _ => r_fitOfR (M := gl_u2 M 42 0 0) hMR hn hc hj (by omega) ⟨_, rfl, fun q => ⟨fun _ => ih _ _ _ (by omega) ?_, fun q2 => absurd q q2⟩, fun q => ⟨fun q2 => absurd q2 q, fun _ => ih _ _ _ (by omega) ?_⟩⟩⟩
      · simp only [sp_hm] at K; rw [if_pos q] at K; exact K
      · simp only [sp_hm] at K; rw [if_neg q] at K; exact K
  exact e_X10_home l sc M _ (keyC _ _ 0 _ _ (Nat.zero_add _) ⟨_, rfl, e_X11_home l sc M _ (keyR _ _ 0 _ _ (Nat.zero_add _) ⟨rfl, hI0⟩)⟩)
/-! unseen -/
def sp_ag (B : sp_B) (nt an : Nat → Int32) (s : Nat) : Nat → Bool
  | 0 => true
  | j + 1 => sp_ag B nt an s j && (decide (0 < sp_cnt B s (nt j).toNatClampNeg (sp_pn B s)) == decide (an j = 1))
def sp_un (B : sp_B) (nt an : Nat → Int32) (n : Nat) : Nat → Nat → Int32 → Int32
  | 0, _, a => a
  | r + 1, s, a => sp_un B nt an n r (s + 1) (if sp_ag B nt an s n = true then a ||| (1 <<< (nI s / 24 &&& 31)) else a)
theorem sp_ag_false {B : sp_B} {nt an : Nat → Int32} {s k : Nat} (h : sp_ag B nt an s k = false) : ∀ n, k ≤ n → sp_ag B nt an s n = false := by
  intro n
  induction n with
  | zero => intro hk; have : k = 0 := by omega
            subst this; exact h
  | succ n ih =>
    intro hk
    by_cases e : k = n + 1
    · subst e; exact h
    · simp only [sp_ag, ih (by omega), Bool.false_and]
theorem r_agrees {M : gl_N} (h : sp_MC B M) {n : Nat} (hn : n ≤ 8) (ha : M 29 2 = nI n) (hb : ∀ j, j < n → 0 ≤ M 30 j ∧ M 30 j ≤ 120 ∧ (M 31 j = 0 ∨ M 31 j = 1)) {s : Nat} (hs : s < 24 * sp_nm B) (K : Q (some (.int (if sp_ag B (M 30) (M 31) s n = true then 1 else 0))) M) : gr l sc m_X5_agreesWith [.ref 29, .ref 12, .int (nI s)] M Q := by
  have key : ∀ (r k : Nat), k + r = n → sp_ag B (M 30) (M 31) s k = true → gv l sc m_X5_agreesWith 2 [.ref 29, .ref 12, .int (nI s), .int (nI k), .float 0] [] M Q := by
    intro r
    induction r with
    | zero =>
      intro k hk hag
      have : k = n := by omega
      subst this
      rw [if_pos hag] at K
      exact w_X5_agreesWith_2 l sc M Q _ _ ⟨fun _ => K, fun q => absurd (by rw [ha]; exact Int32.le_refl _) q⟩
    | succ r ih =>
      intro k hk hag
      refine w_X5_agreesWith_2 l sc M Q _ _ ⟨fun q => absurd q (by rw [ha]; exact sp_le_lit (by omega) (by omega) (by omega)), fun _ => ?_⟩
      obtain ⟨b0, b1, b2⟩ := hb k (by omega)
      obtain ⟨e, hy⟩ := sp_ntN b0 (N := 120) (by omega) b1
      rw [sp_cl (n := k) (by omega), nI_1]
      refine ⟨sp_vp (by omega) (by omega), ?_⟩
      rw [e]
      have hcl := sp_cnt_le B s (M 30 k).toNatClampNeg (sp_pn B s)
      have h4 := (sp_sc h.1 hs).2.2.2.1
      have hno : sp_ag B (M 30) (M 31) s (k + 1) = false → Q (some (.int 0)) M := fun hf => by
        rw [if_neg (by rw [sp_ag_false hf n (by omega)]; decide)] at K
        exact K
      refine r_partsWith h hs (by omega) ⟨_, rfl, fun q => ⟨sp_vp (by omega) (by omega), fun q2 => ih (k + 1) (by omega) ?_, fun q2 => hno ?_⟩, fun q => ⟨sp_vp (by omega) (by omega), fun q2 => ih (k + 1) (by omega) ?_, fun q2 => hno ?_⟩⟩
      all_goals simp only [sp_ag, hag, Bool.true_and]
      · have : sp_cnt B s (M 30 k).toNatClampNeg (sp_pn B s) ≤ 0 := (sp_le (N := 0) (by omega) (by omega)).mp q
        have h1 : ¬ M 31 k = 1 := by rw [← q2]; decide
        have h0 : ¬ 0 < sp_cnt B s (M 30 k).toNatClampNeg (sp_pn B s) := by omega
        simp [h0, h1]
      · have : sp_cnt B s (M 30 k).toNatClampNeg (sp_pn B s) ≤ 0 := (sp_le (N := 0) (by omega) (by omega)).mp q
        have h1 : M 31 k = 1 := b2.resolve_left (fun z => q2 z.symm)
        have h0 : ¬ 0 < sp_cnt B s (M 30 k).toNatClampNeg (sp_pn B s) := by omega
        simp [h0, h1]
      · have : ¬ sp_cnt B s (M 30 k).toNatClampNeg (sp_pn B s) ≤ 0 := fun z => q ((sp_le (N := 0) (by omega) (by omega)).mpr z)
        have h1 : M 31 k = 1 := q2.symm
        have h0 : 0 < sp_cnt B s (M 30 k).toNatClampNeg (sp_pn B s) := by omega
        simp [h0, h1]
      · have : ¬ sp_cnt B s (M 30 k).toNatClampNeg (sp_pn B s) ≤ 0 := fun z => q ((sp_le (N := 0) (by omega) (by omega)).mpr z)
        have h1 : ¬ M 31 k = 1 := fun z => q2 z.symm
        have h0 : 0 < sp_cnt B s (M 30 k).toNatClampNeg (sp_pn B s) := by omega
        simp [h0, h1]
  exact e_X5_agreesWith l sc M Q _ (key n 0 (Nat.zero_add _) rfl)
theorem s_unseen : sp_S WY PR l sc m_X10_unseen m_X11_unseen [] := by
  rintro ch M hch hI
  obtain ⟨-, -, -, -, ⟨n, hn, ha, hc, hj⟩, -, B, hw, hC, hR, -⟩ := id hI
  have hI0 := sp_I_0 hI
  have hMC : sp_MC B M := ⟨hw, hC⟩
  have hMR : sp_MR B (gl_u2 M 42 0 0) := ⟨hw, hR⟩
  have hm : sp_nm B ≤ 6 := hw.2.2.1
  have keyC : ∀ (Q : Option Value → gl_N → Prop) (r s : Nat) (a : Int32), s + r = 24 * sp_nm B → Q (some (.int (sp_un B (M 30) (M 31) n r s a))) M → gv l sc m_X10_unseen 4 [.ref 0, .int a, .int (nI s)] [] M Q := by
    intro Q r
    induction r with
    | zero =>
      intro s a hs K
      have : s = 24 * sp_nm B := by omega
      subst this
      exact w_X10_unseen_4 l sc M Q _ _ (r_scaleCount hMC ⟨_, rfl, fun _ => K, fun q => absurd (Int32.le_refl _) q⟩)
    | succ r ih =>
      intro s a hs K
      refine w_X10_unseen_4 l sc M Q _ _ (r_scaleCount hMC ⟨_, rfl, fun q => absurd q (sp_le_lit (by omega) (by omega) (by omega)), fun _ => r_agrees hMC hn ha (fun j h => ⟨(hj j h).2.2.1, (hj j h).2.2.2.1, (hj j h).2.2.2.2⟩) (by omega) ⟨_, rfl, ?_⟩⟩)
      rw [nI_1]
      simp only [sp_un] at K
      cases hag : sp_ag B (M 30) (M 31) s n
      · rw [hag] at K
        exact ⟨fun q => ih _ _ (by omega) K, fun q => absurd rfl q⟩
      · rw [hag] at K
        exact ⟨fun q => absurd q (by decide), fun q => ih _ _ (by omega) K⟩
  have e24 : (24 : Int32) * (gl_u2 M 42 0 0) 42 2 = nI (24 * sp_nm B) := by
    show (24 : Int32) * M 42 2 = _
    rw [hR.2.1, show (24 : Int32) = nI 24 from rfl, sp_mul]
  have e15 : (gl_u2 M 42 0 0) 42 15 = nI n := hc
  have h10 : ¬ (1 : Int32) = 0 := by decide
  have keyI : ∀ (Q : Option Value → gl_N → Prop) (s : Nat) (a : Int32), s < 24 * sp_nm B → gv l sc m_X11_unseen 9 [.ref 42, .int (if sp_ag B (M 30) (M 31) s n = true then a ||| (1 <<< (nI s / 24 &&& 31)) else a), .int (nI (s + 1)), .float 0, .float 0] [] (gl_u2 M 42 0 0) Q → ∀ (r k : Nat), k + r = n → gv l sc m_X11_unseen 25 [.ref 42, .int a, .int (nI s), .int (if sp_ag B (M 30) (M 31) s k = true then 1 else 0), .int (nI k)] [] (gl_u2 M 42 0 0) Q := by
    intro Q s a hs K r
    induction r with
    | zero =>
      intro k hk
      have : k = n := by omega
      subst this
      refine w_X11_unseen_25 l sc _ Q _ _ _ _ ?_
      rw [e15, nI_1, Int32.or_zero]
      refine ⟨fun _ => ⟨fun q => ?_, fun q => ?_⟩, fun q => absurd (Int32.le_refl _) q⟩
      · cases hag : sp_ag B (M 30) (M 31) s k
        · rw [hag] at K; exact K
        · rw [hag] at q; exact absurd q h10
      · cases hag : sp_ag B (M 30) (M 31) s k
        · rw [hag] at q; exact absurd rfl q
        · rw [hag] at K; exact K
    | succ r ih =>
      intro k hk
      refine w_X11_unseen_25 l sc _ Q _ _ _ _ ?_
      rw [e15, sp_cl (n := k) (by omega), nI_1, nI_1, Int32.or_zero]
      obtain ⟨g1, g2, g3, g4, g5⟩ := hj k (by omega)
      obtain ⟨e, hy⟩ := sp_ntN g3 (N := 120) (by omega) g4
      refine ⟨fun q => absurd q (sp_le_lit (by omega) (by omega) (by omega)), fun _ => ⟨fun q => ?_, fun q => ?_⟩⟩
      · have hag : sp_ag B (M 30) (M 31) s k = false := by
          cases hag : sp_ag B (M 30) (M 31) s k
          · rfl
          · rw [hag] at q; exact absurd q h10
        rw [sp_ag_false hag n (by omega)] at K
        exact ⟨fun _ => K, fun q2 => absurd q q2⟩
      · have hag : sp_ag B (M 30) (M 31) s k = true := by
          cases hag : sp_ag B (M 30) (M 31) s k
          · rw [hag] at q; exact absurd rfl q
          · rfl
        refine ⟨sp_vp (by omega) (by omega), ?_⟩
        have d52 : (gl_u2 M 42 0 0) 52 k = nI (M 30 k).toNatClampNeg := g1.trans e
        rw [d52]
        have hcl := sp_cnt_le B s (M 30 k).toNatClampNeg (sp_pn B s)
        have h4 := (sp_sc hw hs).2.2.2.1
        have h9 := ih (k + 1) (by omega)
        simp only [sp_ag, hag, Bool.true_and] at h9
        refine r_manyHave hMR hs (by omega) ⟨_, rfl, fun q1 => ⟨sp_vp (by omega) (by omega), fun q2 => ?_, fun q2 => ?_⟩, fun q1 => ⟨sp_vp (by omega) (by omega), fun q2 => ?_, fun q2 => ?_⟩⟩
        · have : sp_cnt B s (M 30 k).toNatClampNeg (sp_pn B s) ≤ 0 := (sp_le (N := 0) (by omega) (by omega)).mp q1
          have h0 : ¬ 0 < sp_cnt B s (M 30 k).toNatClampNeg (sp_pn B s) := by omega
          have h1 : ¬ M 31 k = 1 := fun z => q2 (g2.trans z)
          simp only [h0, h1, decide_false, beq_self_eq_true, if_true] at h9
          exact h9
        · have : sp_cnt B s (M 30 k).toNatClampNeg (sp_pn B s) ≤ 0 := (sp_le (N := 0) (by omega) (by omega)).mp q1
          have h0 : ¬ 0 < sp_cnt B s (M 30 k).toNatClampNeg (sp_pn B s) := by omega
          have h1 : M 31 k = 1 := g2.symm.trans q2
          have hf : (decide (0 < sp_cnt B s (M 30 k).toNatClampNeg (sp_pn B s)) == decide (M 31 k = 1)) = false := by simp [h0, h1]
          rw [hf] at h9
          exact h9
        · have : ¬ sp_cnt B s (M 30 k).toNatClampNeg (sp_pn B s) ≤ 0 := fun z => q1 ((sp_le (N := 0) (by omega) (by omega)).mpr z)
          have h0 : 0 < sp_cnt B s (M 30 k).toNatClampNeg (sp_pn B s) := by omega
          have h1 : ¬ M 31 k = 1 := fun z => q2 (g2.trans z)
          have hf : (decide (0 < sp_cnt B s (M 30 k).toNatClampNeg (sp_pn B s)) == decide (M 31 k = 1)) = false := by simp [h0, h1]
          rw [hf] at h9
          exact h9
        · have : ¬ sp_cnt B s (M 30 k).toNatClampNeg (sp_pn B s) ≤ 0 := fun z => q1 ((sp_le (N := 0) (by omega) (by omega)).mpr z)
          have h0 : 0 < sp_cnt B s (M 30 k).toNatClampNeg (sp_pn B s) := by omega
          have h1 : M 31 k = 1 := g2.symm.trans q2
          have hf : (decide (0 < sp_cnt B s (M 30 k).toNatClampNeg (sp_pn B s)) == decide (M 31 k = 1)) = true := by simp [h0, h1]
          rw [hf] at h9
          exact h9
  have keyR : ∀ (Q : Option Value → gl_N → Prop) (r s : Nat) (a : Int32), s + r = 24 * sp_nm B → Q (some (.int (sp_un B (M 30) (M 31) n r s a))) (gl_u2 M 42 0 0) → gv l sc m_X11_unseen 9 [.ref 42, .int a, .int (nI s), .float 0, .float 0] [] (gl_u2 M 42 0 0) Q := by
    intro Q r
    induction r with
    | zero =>
      intro s a hs K
      have : s = 24 * sp_nm B := by omega
      subst this
      refine w_X11_unseen_9 l sc _ Q _ _ ?_
      rw [e24]
      exact ⟨fun _ => K, fun q => absurd (Int32.le_refl _) q⟩
    | succ r ih =>
      intro s a hs K
      refine w_X11_unseen_9 l sc _ Q _ _ ?_
      rw [e24]
      refine ⟨fun q => absurd q (sp_le_lit (by omega) (by omega) (by omega)), fun _ => keyI Q s a (by omega) (ih _ _ (by omega) K) n 0 (Nat.zero_add _)⟩
  exact e_X10_unseen l sc M _ (keyC _ _ 0 _ (Nat.zero_add _) ⟨_, rfl, e_X11_unseen l sc M _ (keyR _ _ 0 _ (Nat.zero_add _) ⟨rfl, hI0⟩)⟩)
end SP11

section SP25
variable {l : Launch} {sc : Nat × (Nat → Int32)} {Q : Option Value → gl_N → Prop} {B : sp_B} {N : Nat} {T : Nat → Nat}
/-- the class's text -/
def rd_T (N : Nat) (T : Nat → Nat) (M : gl_N) : Prop := N ≤ 130 ∧ M 1 1 = nI N ∧ ∀ j, j < N → M 2 j = nI (T j) ∧ T j ≤ 255
theorem rd_T.mv {M M' : gl_N} (h : rd_T N T M) (e1 : M' 1 = M 1) (e2 : M' 2 = M 2) : rd_T N T M' := by
  unfold rd_T
  rw [e1, e2]
  exact h
def rd_l (N : Nat) (T : Nat → Nat) (p : Nat) : Int32 := if p < N then nI (T p) else -1
theorem r_letterAt {M : gl_N} (hT : rd_T N T M) {p : Nat} (hp : p ≤ 1000) (K : Q (some (.int (rd_l N T p))) M) : gr l sc m_X7_letterAt [.ref 1, .int (nI p)] M Q := by
  obtain ⟨h1, h2, h3⟩ := hT
  refine e_X7_letterAt l sc M Q _ ⟨fun q => absurd q (nI_pos (by omega)), fun _ => ?_⟩
  rw [h2, sp_le (by omega) (by omega), sp_cl (n := p) (by omega)]
  unfold rd_l at K
  refine ⟨fun q => ?_, fun q => ⟨sp_vp (by omega) (by omega), ?_⟩⟩
  · rw [if_neg (by omega)] at K; exact K
  · rw [if_pos (by omega), ← (h3 p (by omega)).1] at K; exact K
theorem rd_l_eq (hT : ∀ j, j < N → T j ≤ 255) {p x : Nat} (hx : x ≤ 255) : rd_l N T p = nI x ↔ p < N ∧ T p = x := by
  unfold rd_l
  by_cases h : p < N
  · have := hT p h
    rw [if_pos h, sp_eq (by omega) (by omega)]
    exact ⟨fun q => ⟨h, q⟩, fun q => q.2⟩
  · rw [if_neg h]
    exact ⟨fun q => absurd q.symm (sp_neg1 (by omega)), fun q => absurd q.1 h⟩
theorem r_figC {M : gl_N} (hT : ∀ j, j < N → T j ≤ 255) {p : Nat} (K1 : rd_g N T p → Q (some (.int 1)) M) (K0 : ¬ rd_g N T p → Q (some (.int 0)) M) : gr l sc m_X4_isFigure [.int (rd_l N T p)] M Q := by
  refine e_X4_isFigure l sc M Q _ ?_
  unfold rd_l
  by_cases h : p < N
  · have := hT p h
    rw [if_pos h, show (48 : Int32) = nI 48 from rfl, show (57 : Int32) = nI 57 from rfl, sp_lt (by omega) (by omega), sp_lt (by omega) (by omega)]
    exact ⟨fun q => K0 (fun z => by omega), fun q => ⟨fun q2 => K0 (fun z => by omega), fun q2 => K1 ⟨h, by omega, by omega⟩⟩⟩
  · rw [if_neg h]
    exact ⟨fun _ => K0 (fun z => h z.1), fun q => absurd (by decide) q⟩
/-- only the reader's place has changed, or its fault -/
def rd_f (M M' : gl_N) : Prop := ∀ a, a ≠ 11 → M' a = M a
theorem r_skip {M : gl_N} (hT : rd_T N T M) {p : Nat} (hp : p ≤ N) (h11 : M 11 2 = nI p) (K : ∀ M', rd_f M M' → M' 11 2 = nI (rd_s N T p) → M' 11 3 = M 11 3 → Q none M') : gr l sc m_X4_skipBlanks [.ref 11] M Q := by
  have key : ∀ (f p : Nat) (M1 : gl_N), N - p = f → p ≤ N → rd_f M M1 → M1 11 2 = nI p → M1 11 3 = M 11 3 → (∀ M', rd_f M M' → M' 11 2 = nI (rd_s N T p) → M' 11 3 = M 11 3 → Q none M') → gv l sc m_X4_skipBlanks 0 [.ref 11] [] M1 Q := by
    intro f
    induction f with
    | zero =>
      intro p M1 hf hpN h1 h2 h3 K
      have hT1 := hT.mv (M' := M1) (h1 1 (by omega)) (h1 2 (by omega))
      refine w_X4_skipBlanks_0 l sc M1 Q ⟨fun _ => K M1 h1 ?_ h3, fun q => absurd ?_ q⟩
      · rw [rd_s_end (by omega)]; exact h2
      · rw [hT1.2.1, h2]; exact (sp_le (by have := hT.1; omega) (by have := hT.1; omega)).mpr (by omega)
    | succ f ih =>
      intro p M1 hf hpN h1 h2 h3 K
      have hT1 := hT.mv (M' := M1) (h1 1 (by omega)) (h1 2 (by omega))
      have hN := hT.1
      rw [rd_s_step (by omega)] at K
      refine w_X4_skipBlanks_0 l sc M1 Q ⟨fun q => absurd q (by rw [hT1.2.1, h2]; exact sp_le_lit (by omega) (by omega) (by omega)), fun _ => ?_⟩
      rw [h2]
      refine r_letterAt hT1 (by omega) ⟨_, rfl, ?_⟩
      rw [show (32 : Int32) = nI 32 from rfl, rd_l_eq (fun j hj => (hT.2.2 j hj).2) (by omega)]
      refine ⟨fun q => K M1 h1 ?_ h3, fun q => ?_⟩
      · rw [if_neg (fun z => q ⟨by omega, z⟩)]; exact h2
      · rw [if_pos q.2] at K
        rw [h2, nI_1]
        refine ih (p + 1) _ (by omega) (by omega) (fun a ha => by rw [← h1 a ha]; simp [gl_u2, gl_u1, ha]) rfl h3 K
  exact gr_of (by decide +kernel) (Nat.le_of_ble_eq_true rfl) (List.forall_mem_cons.mpr ⟨rfl, (fun _ h => absurd h List.not_mem_nil)⟩) (key _ p M rfl hp (fun _ _ => rfl) h11 rfl K)
theorem r_atEnd {M : gl_N} (hT : rd_T N T M) {p : Nat} (hp : p ≤ N) (h11 : M 11 2 = nI p) (K1 : ∀ M', rd_e N T p → rd_f M M' → M' 11 2 = nI (rd_s N T p) → M' 11 3 = M 11 3 → Q (some (.int 1)) M') (K0 : ∀ M', ¬ rd_e N T p → rd_f M M' → M' 11 2 = nI (rd_s N T p) → M' 11 3 = M 11 3 → Q (some (.int 0)) M') : gr l sc m_X4_atEnd [.ref 11] M Q := by
  have hN := hT.1
  have hs := rd_s_le (T := T) hp
  refine e_X4_atEnd l sc M Q (r_skip hT hp h11 (fun M1 h1 h2 h3 => ⟨rfl, ?_⟩))
  rw [h2]
  refine r_letterAt (hT.mv (h1 1 (by omega)) (h1 2 (by omega))) (by omega) ⟨_, rfl, ?_⟩
  rw [show (59 : Int32) = nI 59 from rfl, rd_l_eq (fun j hj => (hT.2.2 j hj).2) (by omega)]
  exact ⟨fun q => K0 M1 q h1 h2 h3, fun q => K1 M1 q h1 h2 h3⟩
theorem r_readEnd {M : gl_N} (hT : rd_T N T M) {p : Nat} (hp : p ≤ N) (h11 : M 11 2 = nI p) (K1 : ∀ M', rd_e N T p → rd_f M M' → M' 11 2 = nI (rd_s N T p + 1) → M' 11 3 = M 11 3 → Q none M') (K0 : ∀ M', ¬ rd_e N T p → rd_f M M' → M' 11 2 = nI (rd_s N T p) → M' 11 3 = nI (rd_s N T p) → Q none M') : gr l sc m_X4_readEnd [.ref 11] M Q := by
  refine e_X4_readEnd l sc M Q (r_atEnd hT hp h11 (fun M1 e h1 h2 h3 => ⟨_, rfl, fun q => absurd q (by decide), fun _ => K1 _ e (fun a ha => ?_) ?_ h3⟩) (fun M1 e h1 h2 h3 => ⟨_, rfl, fun _ => K0 _ e (fun a ha => ?_) h2 h2, fun q => absurd rfl q⟩))
  · rw [← h1 a ha]; simp [gl_u2, gl_u1, ha]
  · show M1 11 2 + 1 = _
    rw [h2, nI_1]
  · rw [← h1 a ha]; simp [gl_u2, gl_u1, ha]
theorem sp_hx {d hx : Nat} (hd : d ≤ 2000) (hh : hx ≤ 2000) : nI d ≤ nI hx - 1 ↔ d < hx := by
  rcases Nat.eq_zero_or_pos hx with z | z
  · subst z
    refine ⟨fun q => ?_, fun q => by omega⟩
    have a := Int32.le_iff_toInt_le.mp q
    rw [nI_toInt (by omega)] at a
    have e : (nI 0 - 1).toInt = -1 := rfl
    omega
  · rw [sp_sub1 z, sp_le (by omega) (by omega)]
    omega
theorem r_readNumber {M : gl_N} (hT : rd_T N T M) {p lo hx : Nat} (hp : p ≤ N) (h11 : M 11 2 = nI p) (hlo : lo ≤ 10) (hhx : hx ≤ 10) (K1 : ∀ M' d, rd_n N T lo hx (rd_s N T p) = some d → rd_f M M' → M' 11 2 = nI (rd_s N T p + 1) → M' 11 3 = M 11 3 → Q (some (.int (nI d))) M') (K0 : ∀ M', rd_n N T lo hx (rd_s N T p) = none → rd_f M M' → M' 11 2 = nI (rd_s N T p) → M' 11 3 = nI (rd_s N T p) → Q (some (.int (-1))) M') : gr l sc m_X4_readNumber [.ref 11, .int (nI lo), .int (nI hx - 1)] M Q := by
  have hN := hT.1
  have hs := rd_s_le (T := T) hp
  refine e_X4_readNumber l sc M Q _ _ (r_skip hT hp h11 (fun M1 h1 h2 h3 => ⟨rfl, ?_⟩))
  have hT1 := hT.mv (M' := M1) (h1 1 (by omega)) (h1 2 (by omega))
  have h255 : ∀ j, j < N → T j ≤ 255 := fun j hj => (hT.2.2 j hj).2
  have no : rd_n N T lo hx (rd_s N T p) = none → Q (some (.int (-1))) (gl_u2 M1 11 3 (M1 11 2)) := fun e => K0 _ e (fun a ha => by rw [← h1 a ha]; simp [gl_u2, gl_u1, ha]) h2 h2
  have e1 : nI (rd_s N T p) + 1 = nI (rd_s N T p + 1) := nI_1 _
  rw [show Value.int (M1 11 2) = Value.int (nI (rd_s N T p)) by rw [h2]]
  refine r_letterAt hT1 (by omega) ⟨_, rfl, r_figC h255 (fun g1 => ⟨_, rfl, fun q => absurd q (by decide), fun _ => ?_⟩) (fun g1 => ⟨_, rfl, fun _ => no ?_, fun q => absurd rfl q⟩)⟩
  rw [show Value.int (M1 11 2 + 1) = Value.int (nI (rd_s N T p + 1)) by rw [h2, e1]]
  refine r_letterAt hT1 (by omega) ⟨_, rfl, r_figC h255 (fun g2 => ⟨_, rfl, fun _ => no ?_, fun q => absurd q (by decide)⟩) (fun g2 => ⟨_, rfl, fun q => absurd rfl q, fun _ => ?_⟩)⟩
  · unfold rd_n
    rw [if_neg (fun z => z.2.1 g2)]
  · obtain ⟨z1, z2, z3⟩ := g1
    have el : rd_l N T (rd_s N T p) - 48 = nI (T (rd_s N T p) - 48) := by
      unfold rd_l
      rw [if_pos z1, show (48 : Int32) = nI 48 from rfl, sp_subI z2]
    rw [el]
    refine r_within (fun c1 c2 => ⟨_, rfl, fun _ => K1 _ _ ?_ (fun a ha => ?_) ?_ h3, fun q => absurd q (by decide)⟩) (fun c => ⟨_, rfl, fun q => absurd rfl q, fun _ => ?_⟩)
    · unfold rd_n
      rw [if_pos ⟨⟨z1, z2, z3⟩, g2, (sp_le (by omega) (by omega)).mp c1, (sp_hx (by omega) (by omega)).mp c2⟩]
    · rw [← h1 a ha]; simp [gl_u2, gl_u1, ha]
    · show M1 11 2 + 1 = _
      rw [h2, e1]
    · refine no ?_
      unfold rd_n
      rw [if_neg (fun z => c ⟨(sp_le (by omega) (by omega)).mpr z.2.2.1, (sp_hx (by omega) (by omega)).mpr z.2.2.2⟩)]
  · unfold rd_n
    rw [if_neg (fun z => g1 z.1)]
/-- only draft and reader have changed -/
def rd_F (M M' : gl_N) : Prop := ∀ a, a < 3 ∨ 11 < a → M' a = M a
theorem rd_F.tr {A C D : gl_N} (h : rd_F A C) (k : rd_F C D) : rd_F A D := fun a ha => (k a ha).trans (h a ha)
theorem rd_f.F {A C : gl_N} (h : rd_f A C) : rd_F A C := fun a ha => h a (by omega)
theorem rd_F.tx {A C : gl_N} (h : rd_F A C) (k : rd_T N T A) : rd_T N T C := k.mv (h 1 (by omega)) (h 2 (by omega))
theorem rd_f.D {A C : gl_N} (h : rd_f A C) (k : sp_CD B A) : sp_CD B C := k.mv (fun a _ _ => h a (by omega))
theorem r_readCell {M : gl_N} (hw : sp_wf B) (hT : rd_T N T M) (hD : sp_CD B M) (hc : B.1 < 6) {p : Nat} (hp : p ≤ N) (h2 : M 11 2 = nI p) (h3 : M 11 3 = -1)
    (K1 : ∀ M' p' k st, rd_c N T 4 0 p (fun _ => 0) = .inl (p', k, st) → rd_F M M' → M' 11 2 = nI p' → M' 11 3 = -1 → sp_CD (rd_ac B k st) M' → Q none M') (K0 : ∀ M' q p', rd_c N T 4 0 p (fun _ => 0) = .inr q → rd_F M M' → p' ≤ N → M' 11 2 = nI p' → M' 11 3 = nI q → Q none M') : gr l sc m_X4_readCell [.ref 11] M Q := by
  have hN := hT.1
  have key : ∀ (r k p : Nat) (st : Nat → Nat) (M1 : gl_N), k + r = 4 → p ≤ N → rd_F M M1 → M1 11 2 = nI p → M1 11 3 = -1 → sp_CD (rd_ac B k st) M1 → (∀ M' p' k' st', rd_c N T r k p st = .inl (p', k', st') → rd_F M M' → M' 11 2 = nI p' → M' 11 3 = -1 → sp_CD (rd_ac B k' st') M' → Q none M') → (∀ M' q p', rd_c N T r k p st = .inr q → rd_F M M' → p' ≤ N → M' 11 2 = nI p' → M' 11 3 = nI q → Q none M') → gv l sc m_X4_readCell 9 [.ref 11, .int (nI k), .float 0] [] M1 Q := by
    intro r
    induction r with
    | zero =>
      intro k p st M1 hk hp h1 h2 h3 h4 K1 K0
      have hs := rd_s_le (T := T) hp
      have : k = 4 := by omega
      subst this
      refine w_X4_readCell_9 l sc M1 Q _ ⟨fun _ => ?_, fun q => absurd (show nI 4 ≤ nI 4 from Int32.le_refl _) q⟩
      refine r_readEnd (h1.tx hT) hp h2 (fun M2 e g1 g2 g3 => ⟨rfl, K1 M2 _ _ _ ?_ (h1.tr g1.F) g2 (by rw [g3]; exact h3) (g1.D h4)⟩) (fun M2 e g1 g2 g3 => ⟨rfl, K0 M2 _ _ ?_ (h1.tr g1.F) hs.2 g2 g3⟩)
      · simp only [rd_c]; rw [if_pos e]
      · simp only [rd_c]; rw [if_neg e]
    | succ r ih =>
      intro k p st M1 hk hp h1 h2 h3 h4 K1 K0
      have hs := rd_s_le (T := T) hp
      have num : ∀ (M2 : gl_N) (p2 : Nat), p2 ≤ N → rd_s N T p2 = rd_s N T p → rd_F M M2 → M2 11 2 = nI p2 → M2 11 3 = -1 → sp_CD (rd_ac B k st) M2 → ¬ (0 < k ∧ rd_e N T p) → gr l sc m_X4_readNumber [.ref 11, .int 1, .int 4] M2 (fun r3 M4 => ∃ v5 : Int32, r3 = some (.int v5) ∧ ((¬ v5 = (-1) → gr l sc m_X0_addStep [.ref 3, .int v5] M4 (fun r6 M7 => r6 = none ∧ (gv l sc m_X4_readCell 9 [.ref 11, .int (nI k + 1), .float 0] [] M7 Q))) ∧ (v5 = (-1) → Q none M4))) := by
        intro M2 p2 hp2 hs2 g1 g2 g3 g4 hne
        refine r_readNumber (lo := 1) (hx := 5) (g1.tx hT) hp2 g2 (by omega) (by omega) (fun M3 d e k1 k2 k3 => ⟨_, rfl, fun _ => ?_, fun q => ?_⟩) (fun M3 e k1 k2 k3 => ⟨_, rfl, fun q => absurd rfl q, fun _ => K0 M3 _ _ ?_ (g1.tr k1.F) (by rw [hs2]; exact hs.2) k2 k3⟩)
        · rw [hs2] at e k2
          obtain ⟨d1, d2, d3, d4, d5, d6⟩ := rd_n_some e
          refine r_addStep hw (k1.D g4) hc (by omega) (fun M4 j1 j2 => ⟨rfl, ?_⟩)
          rw [nI_1]
          have hF : rd_F M M4 := (g1.tr k1.F).tr (fun a ha => j1 a (by omega))
          have h11 : M4 11 = M3 11 := j1 11 (by omega)
          refine ih (k + 1) (rd_s N T p + 1) _ M4 (by omega) d1 hF (by rw [h11]; exact k2) (by rw [h11, k3]; exact g3) j2 (fun M' p' k' st' he => K1 M' p' k' st' ?_) (fun M' q p' he => K0 M' q p' ?_)
          · simp only [rd_c]; rw [if_neg hne, e]; exact he
          · simp only [rd_c]; rw [if_neg hne, e]; exact he
        · have := rd_n_some e
          exact absurd q (sp_neg1 (by omega))
        · rw [hs2] at e ⊢
          simp only [rd_c]; rw [if_neg hne, e]
      refine w_X4_readCell_9 l sc M1 Q _ ⟨fun q => absurd q (sp_le_lit (N := 4) (by omega) (by omega) (by omega)), fun _ => ⟨fun q => ?_, fun q => ?_⟩⟩
      · have hk0 : k = 0 := by have := (sp_le (N := 0) (by omega) (by omega)).mp q; omega
        exact num M1 p hp rfl h1 h2 h3 h4 (fun z => by omega)
      · have hk0 : 0 < k := by
          have : ¬ k ≤ 0 := fun z => q ((sp_le (N := 0) (by omega) (by omega)).mpr z)
          omega
        refine r_atEnd (h1.tx hT) hp h2 (fun M2 e g1 g2 g3 => ⟨_, rfl, fun q => absurd q (by decide), fun _ => ?_⟩) (fun M2 e g1 g2 g3 => ⟨_, rfl, fun _ => ?_, fun q => absurd rfl q⟩)
        · have e2 : rd_e N T (rd_s N T p) := by unfold rd_e; rw [rd_s_idem hp]; exact e
          refine r_readEnd ((h1.tr g1.F).tx hT) hs.2 g2 (fun M3 e3 k1 k2 k3 => ⟨rfl, K1 M3 _ _ _ ?_ ((h1.tr g1.F).tr k1.F) k2 (by rw [k3, g3]; exact h3) (k1.D (g1.D h4))⟩) (fun M3 e3 _ _ _ => absurd e2 e3)
          simp only [rd_c]; rw [if_pos ⟨hk0, e⟩, rd_s_idem hp]
        · exact num M2 (rd_s N T p) hs.2 (rd_s_idem hp) (h1.tr g1.F) g2 (by rw [g3]; exact h3) (g1.D h4) (fun z => e z.2)
  refine e_X4_readCell l sc M Q (r_openCell hD hc (fun _ => 0) (fun M1 g1 g2 => ⟨rfl, ?_⟩))
  have h11 : M1 11 = M 11 := g1 11 (by omega)
  exact key 4 0 p (fun _ => 0) M1 (by omega) hp (fun a ha => g1 a (by omega)) (by rw [h11]; exact h2) (by rw [h11]; exact h3) g2 K1 K0
theorem r_readMode {M : gl_N} (hw : sp_wf B) (hT : rd_T N T M) (hD : sp_CD B M) (hm : B.2.2.2.1 < 6) {p : Nat} (hp : p ≤ N) (h2 : M 11 2 = nI p) (h3 : M 11 3 = -1)
    (K1 : ∀ M' c p' k pl ph, rd_n N T 0 B.1 (rd_s N T p) = some c → rd_m N T B 3 1 (rd_s N T p + 1) (fun _ => c) (fun _ => 0) = .inl (p', k, pl, ph) → rd_F M M' → M' 11 2 = nI p' → M' 11 3 = -1 → sp_CD (rd_am B k pl ph) M' → Q none M')
    (K0 : ∀ M' q p', ((rd_n N T 0 B.1 (rd_s N T p) = none ∧ q = rd_s N T p) ∨ ∃ c, rd_n N T 0 B.1 (rd_s N T p) = some c ∧ rd_m N T B 3 1 (rd_s N T p + 1) (fun _ => c) (fun _ => 0) = .inr q) → rd_F M M' → p' ≤ N → M' 11 2 = nI p' → M' 11 3 = nI q → Q none M') : gr l sc m_X4_readMode [.ref 11] M Q := by
  have hN := hT.1
  have hc6 : B.1 ≤ 6 := hw.1
  have hs0 := rd_s_le (T := T) hp
  have key : ∀ (r k p : Nat) (pl ph : Nat → Nat) (x : Int32) (M1 : gl_N), 1 ≤ k → k + r = 4 → p ≤ N → (∀ j, j < k → pl j < B.1) → rd_F M M1 → M1 11 2 = nI p → M1 11 3 = -1 → sp_CD (rd_am B k pl ph) M1 → (∀ M' p' k' pl' ph', rd_m N T B r k p pl ph = .inl (p', k', pl', ph') → rd_F M M' → M' 11 2 = nI p' → M' 11 3 = -1 → sp_CD (rd_am B k' pl' ph') M' → Q none M') → (∀ M' q p', rd_m N T B r k p pl ph = .inr q → rd_F M M' → p' ≤ N → M' 11 2 = nI p' → M' 11 3 = nI q → Q none M') → gv l sc m_X4_readMode 31 [.ref 11, .int x, .int (nI k), .float 0] [] M1 Q := by
    intro r
    induction r with
    | zero =>
      intro k p pl ph x M1 h1k hk hp hpl h1 h2 h3 h4 K1 K0
      have hs := rd_s_le (T := T) hp
      have : k = 4 := by omega
      subst this
      refine w_X4_readMode_31 l sc M1 Q _ _ ⟨fun _ => ?_, fun q => absurd (show nI 4 ≤ nI 4 from Int32.le_refl _) q⟩
      refine r_readEnd (h1.tx hT) hp h2 (fun M2 e g1 g2 g3 => ⟨rfl, K1 M2 _ _ _ _ ?_ (h1.tr g1.F) g2 (by rw [g3]; exact h3) (g1.D h4)⟩) (fun M2 e g1 g2 g3 => ⟨rfl, K0 M2 _ _ ?_ (h1.tr g1.F) hs.2 g2 g3⟩)
      · simp only [rd_m]; rw [if_pos e]
      · simp only [rd_m]; rw [if_neg e]
    | succ r ih =>
      intro k p pl ph x M1 h1k hk hp hpl h1 h2 h3 h4 K1 K0
      have hs := rd_s_le (T := T) hp
      refine w_X4_readMode_31 l sc M1 Q _ _ ⟨fun q => absurd q (sp_le_lit (N := 4) (by omega) (by omega) (by omega)), fun _ => ?_⟩
      refine r_atEnd (h1.tx hT) hp h2 (fun M2 e g1 g2 g3 => ⟨_, rfl, fun _ => ?_, fun q => absurd q (by decide)⟩) (fun M2 e g1 g2 g3 => ⟨_, rfl, fun q => absurd rfl q, fun _ => ?_⟩)
      · have e2 : rd_e N T (rd_s N T p) := by unfold rd_e; rw [rd_s_idem hp]; exact e
        refine r_readEnd ((h1.tr g1.F).tx hT) hs.2 g2 (fun M3 e3 k1 k2 k3 => ⟨rfl, K1 M3 _ _ _ _ ?_ ((h1.tr g1.F).tr k1.F) k2 (by rw [k3, g3]; exact h3) (k1.D (g1.D h4))⟩) (fun M3 e3 _ _ _ => absurd e2 e3)
        simp only [rd_m]; rw [if_pos e, rd_s_idem hp]
      · refine r_readNumber (lo := 0) (hx := 4) ((h1.tr g1.F).tx hT) hs.2 g2 (by omega) (by omega) (fun M3 g eg k1 k2 k3 => ⟨_, rfl, fun _ => ?_, fun q => ?_⟩) (fun M3 eg k1 k2 k3 => ⟨_, rfl, fun q => absurd rfl q, fun _ => K0 M3 _ _ ?_ ((h1.tr g1.F).tr k1.F) ?_ k2 k3⟩)
        · rw [rd_s_idem hp] at eg k2
          obtain ⟨d1, d2, d3, d4, d5, d6⟩ := rd_n_some eg
          have hs2 := rd_s_le (T := T) (N := N) (p := rd_s N T p + 1) d1
          have hF3 := (h1.tr g1.F).tr k1.F
          have hD3 := k1.D (g1.D h4)
          rw [show M3 3 0 = nI B.1 from hD3.1]
          refine r_readNumber (lo := 0) (hx := B.1) (hF3.tx hT) d1 k2 (by omega) (by omega) (fun M4 c ec j1 j2 j3 => ⟨_, rfl, fun _ => ?_, fun q => ?_⟩) (fun M4 ec j1 j2 j3 => ⟨_, rfl, fun q => absurd rfl q, fun _ => K0 M4 _ _ ?_ (hF3.tr j1.F) ?_ j2 j3⟩)
          · obtain ⟨c1, c2, c3, c4, c5, c6⟩ := rd_n_some ec
            refine r_addPart hw (j1.D hD3) hm h1k (by omega) (hpl (k - 1) (by omega)) (fun M5 i1 i2 => ⟨rfl, ?_⟩)
            rw [nI_1]
            have h11 : M5 11 = M4 11 := i1 11 (by omega)
            refine ih (k + 1) _ _ _ _ M5 (by omega) (by omega) c1 (fun j hj => ?_) ((hF3.tr j1.F).tr (fun a ha => i1 a (by omega))) (by rw [h11]; exact j2) (by rw [h11, j3, k3, g3]; exact h3) i2 (fun M' p' k' pl' ph' he => K1 M' p' k' pl' ph' ?_) (fun M' q p' he => K0 M' q p' ?_)
            · show (if j = k then c else pl j) < B.1
              by_cases z : j = k
              · rw [if_pos z]; exact c3
              · rw [if_neg z]; exact hpl j (by omega)
            · simp only [rd_m]; rw [if_neg e, eg]; simp only []; rw [ec]; exact he
            · simp only [rd_m]; rw [if_neg e, eg]; simp only []; rw [ec]; exact he
          · have := rd_n_some ec
            exact absurd q (sp_neg1 (by omega))
          · simp only [rd_m]; rw [if_neg e, eg]; simp only []; rw [ec]
          · exact hs2.2
        · have := rd_n_some eg
          exact absurd q (sp_neg1 (by omega))
        · rw [rd_s_idem hp] at eg ⊢
          simp only [rd_m]; rw [if_neg e, eg]
        · rw [rd_s_idem hp]; exact hs.2
  refine e_X4_readMode l sc M Q ?_
  rw [show M 3 0 = nI B.1 from hD.1]
  refine r_readNumber (lo := 0) (hx := B.1) hT hp h2 (by omega) (by omega) (fun M1 c ec j1 j2 j3 => ⟨_, rfl, fun _ => ?_, fun q => ?_⟩) (fun M1 ec j1 j2 j3 => ⟨_, rfl, fun q => absurd rfl q, fun _ => K0 M1 _ _ (Or.inl ⟨ec, rfl⟩) j1.F hs0.2 j2 j3⟩)
  · obtain ⟨c1, c2, c3, c4, c5, c6⟩ := rd_n_some ec
    refine r_openMode hw (j1.D hD) hm (fun M2 i1 i2 => ⟨rfl, ?_⟩)
    have h11 : M2 11 = M1 11 := i1 11 (by omega)
    exact key 3 1 _ _ _ _ M2 (by omega) (by omega) c1 (fun j _ => c3) (j1.F.tr (fun a ha => i1 a (by omega))) (by rw [h11]; exact j2) (by rw [h11, j3]; exact h3) i2 (fun M' p' k' pl' ph' he => K1 M' c p' k' pl' ph' ec he) (fun M' q p' he => K0 M' q p' (Or.inr ⟨c, ec, he⟩))
  · have := rd_n_some ec
    exact absurd q (sp_neg1 (by omega))
theorem r_readItem {M : gl_N} (hw : sp_wf B) (hT : rd_T N T M) (hD : sp_CD B M) {p : Nat} (hp : p < N) (h2 : M 11 2 = nI p) (h3 : M 11 3 = -1)
    (K1 : ∀ M' p' B', rd_i N T B p = .inl (p', B') → rd_F M M' → M' 11 2 = nI p' → M' 11 3 = -1 → sp_CD B' M' → Q none M') (K0 : ∀ M' q p', rd_i N T B p = .inr q → rd_F M M' → p' ≤ N → M' 11 2 = nI p' → M' 11 3 = nI q → Q none M') : gr l sc m_X4_readItem [.ref 11] M Q := by
  have hN := hT.1
  have hc6 : B.1 ≤ 6 := hw.1
  have hm6 : B.2.2.2.1 ≤ 6 := hw.2.2.1
  have h255 : ∀ j, j < N → T j ≤ 255 := fun j hj => (hT.2.2 j hj).2
  have fault : rd_i N T B p = .inr p → Q none (gl_u2 M 11 3 (M 11 2)) := fun e => K0 _ p p e (fun a ha => by simp [gl_u2, gl_u1, show a ≠ 11 by omega]) (by omega) h2 h2
  have mode : T p = 109 → B.2.2.2.1 < 6 → gr l sc m_X4_readMode [.ref 11] (gl_u2 M 11 2 (M 11 2 + 1)) (fun r4 M5 => r4 = none ∧ Q none M5) := fun e1 e2 => by
    have hn : ¬ (T p = 99 ∧ B.1 < 6) := fun z => by omega
    refine r_readMode hw (hT.mv rfl rfl) (hD.mv (fun a _ _ => by simp [gl_u2, gl_u1, show a ≠ 11 by omega])) e2 (p := p + 1) (by omega) (by show M 11 2 + 1 = _; rw [h2, nI_1]) h3 (fun M' c p' k pl ph ec em g1 g2 g3 g4 => ⟨rfl, K1 M' p' _ ?_ (fun a ha => ?_) g2 g3 g4⟩) (fun M' q p' eq g1 g2 g3 g4 => ⟨rfl, K0 M' q p' ?_ (fun a ha => ?_) g2 g3 g4⟩)
    · unfold rd_i; rw [if_neg hn, if_pos ⟨e1, e2⟩, ec]; simp only []; rw [em]
    · rw [g1 a ha]; simp [gl_u2, gl_u1, show a ≠ 11 by omega]
    · unfold rd_i; rw [if_neg hn, if_pos ⟨e1, e2⟩]
      rcases eq with ⟨z1, z2⟩ | ⟨c, z1, z2⟩
      · rw [z1, z2]
      · rw [z1]; simp only []; rw [z2]
    · rw [g1 a ha]; simp [gl_u2, gl_u1, show a ≠ 11 by omega]
  refine e_X4_readItem l sc M Q ?_
  have d0 : M 3 0 = nI B.1 := hD.1
  have d5 : M 3 5 = nI B.2.2.2.1 := hD.2.1
  rw [show Value.int (M 11 2) = Value.int (nI p) by rw [h2]]
  refine r_letterAt hT (by omega) ⟨_, rfl, ?_⟩
  rw [d0, d5, show (99 : Int32) = nI 99 from rfl, show (109 : Int32) = nI 109 from rfl, show (6 : Int32) = nI 6 from rfl, rd_l_eq h255 (by omega), rd_l_eq h255 (by omega), sp_le (by omega) (by omega), sp_le (by omega) (by omega)]
  refine ⟨fun q => ⟨fun q2 => fault ?_, fun q2 => ⟨fun q3 => fault ?_, fun q3 => mode q2.2 (by omega)⟩⟩, fun q => ⟨fun q1 => ⟨fun q2 => fault ?_, fun q2 => by omega⟩, fun q1 => ?_⟩⟩
  · unfold rd_i; rw [if_neg (fun z => q ⟨hp, z.1⟩), if_neg (fun z => q2 ⟨hp, z.1⟩)]
  · unfold rd_i; rw [if_neg (fun z => q ⟨hp, z.1⟩), if_neg (fun z => by omega)]
  · unfold rd_i; rw [if_neg (fun z => by omega), if_neg (fun z => by omega)]
  · have hpos : T p = 99 ∧ B.1 < 6 := ⟨q.2, by omega⟩
    refine r_readCell hw (hT.mv rfl rfl) (hD.mv (fun a _ _ => by simp [gl_u2, gl_u1, show a ≠ 11 by omega])) hpos.2 (p := p + 1) (by omega) (by show M 11 2 + 1 = _; rw [h2, nI_1]) h3 (fun M' p' k st ec g1 g2 g3 g4 => ⟨rfl, K1 M' p' _ ?_ (fun a ha => ?_) g2 g3 g4⟩) (fun M' q p' eq g1 g2 g3 g4 => ⟨rfl, K0 M' q p' ?_ (fun a ha => ?_) g2 g3 g4⟩)
    · unfold rd_i; rw [if_pos hpos, ec]
    · rw [g1 a ha]; simp [gl_u2, gl_u1, show a ≠ 11 by omega]
    · unfold rd_i; rw [if_pos hpos, eq]
    · rw [g1 a ha]; simp [gl_u2, gl_u1, show a ≠ 11 by omega]
end SP25

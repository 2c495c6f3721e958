section SP9
variable {l : Launch} {sc : Nat × (Nat → Int32)} {M : gl_N} {Q : Option Value → gl_N → Prop} {B : sp_B}
/-- in how many of the first n parts a note is -/
def sp_cnt (B : sp_B) (s y : Nat) : Nat → Nat
  | 0 => 0
  | k + 1 => sp_cnt B s y k + (if sp_in B s k y = true then 1 else 0)
theorem sp_cnt_le (B : sp_B) (s y : Nat) : ∀ n, sp_cnt B s y n ≤ n := by
  intro n
  induction n with
  | zero => exact Nat.le_refl _
  | succ n ih => simp only [sp_cnt]; split <;> omega
theorem r_partsWith (h : sp_MC B M) {s y : Nat} (hs : s < 24 * sp_nm B) (hy : y ≤ 1000) (K : Q (some (.int (nI (sp_cnt B s y (sp_pn B s))))) M) : gr l sc m_X0_partsWith [.ref 12, .int (nI s), .int (nI y)] M Q := by
  have h4 := (sp_sc h.1 hs).2.2.2.1
  have key : ∀ (r k : Nat), k + r = sp_pn B s → gv l sc m_X0_partsWith 5 [.ref 12, .int (nI s), .int (nI y), .int (nI (sp_cnt B s y k)), .int (nI k)] [] M Q := by
    intro r
    induction r with
    | zero =>
      intro k hk
      have : k = sp_pn B s := by omega
      subst this
      exact w_X0_partsWith_5 l sc M Q _ _ _ _ (r_partsOf h hs ⟨_, rfl, fun _ => K, fun q => absurd (Int32.le_refl _) q⟩)
    | succ r ih =>
      intro k hk
      refine w_X0_partsWith_5 l sc M Q _ _ _ _ (r_partsOf h hs ⟨_, rfl, fun q => absurd q (sp_le_lit (by omega) (by omega) (by omega)), fun _ => r_isIn h hs (by omega) hy ⟨_, rfl, ?_⟩⟩)
      have := ih (k + 1) (by omega)
      simp only [sp_cnt] at this
      rw [nI_1, nI_1]
      cases hin : sp_in B s k y
      · rw [hin] at this
        exact ⟨fun _ => this, fun q => absurd rfl q⟩
      · rw [hin] at this
        exact ⟨fun q => absurd q (by decide), fun _ => this⟩
  exact e_X0_partsWith l sc M Q _ _ (key _ 0 (Nat.zero_add _))
/-- the k-th part of s is the p-th of t -/
def sp_same (B : sp_B) (s k t p : Nat) : Bool := sp_pl B t p == sp_pl B s k && sp_pi B t p == sp_pi B s k
/-- which of t's parts from p on, n of them, is the k-th of s -/
def sp_fs (B : sp_B) (s k t : Nat) : Nat → Nat → Option Nat
  | 0, _ => none
  | n + 1, p => if sp_same B s k t p = true then some p else sp_fs B s k t n (p + 1)
def sp_sp (B : sp_B) (s k t : Nat) : Option Nat := sp_fs B s k t (sp_pn B t) 0
def sp_o (o : Option Nat) (z : Int32) : Int32 := match o with
  | some p => nI p
  | none => z
theorem sp_fs_some {B : sp_B} {s k t : Nat} : ∀ (n p q : Nat), sp_fs B s k t n p = some q → p ≤ q ∧ q < p + n ∧ sp_same B s k t q = true := by
  intro n
  induction n with
  | zero => intro p q h; cases h
  | succ n ih =>
    intro p q h
    simp only [sp_fs] at h
    split at h
    · cases h; exact ⟨Nat.le_refl _, by omega, by assumption⟩
    · obtain ⟨a, b, c⟩ := ih _ _ h
      exact ⟨by omega, by omega, c⟩
theorem sp_fs_none {B : sp_B} {s k t : Nat} : ∀ (n p : Nat), sp_fs B s k t n p = none → ∀ q, p ≤ q → q < p + n → sp_same B s k t q = false := by
  intro n
  induction n with
  | zero => intro p _ q h1 h2; omega
  | succ n ih =>
    intro p h q h1 h2
    simp only [sp_fs] at h
    split at h
    · cases h
    · rename_i hc
      by_cases e : q = p
      · subst e; simpa using hc
      · exact ih _ h q (by omega) (by omega)
theorem sp_placed_eq {a b c d : Nat} (hb : b ≤ 80) (hd : d ≤ 80) (ha : a ≤ 6) (hc : c ≤ 6) : nI (a * 81 + b) = nI (c * 81 + d) ↔ a = c ∧ b = d := by
  rw [sp_eq (by omega) (by omega)]
  constructor
  · intro h; constructor <;> omega
  · rintro ⟨rfl, rfl⟩; rfl
theorem r_samePart (h : sp_MC B M) {s k t : Nat} (hs : s < 24 * sp_nm B) (hk : k < sp_pn B s) (ht : t < 24 * sp_nm B) (K : Q (some (.int (sp_o (sp_sp B s k t) (-1)))) M) : gr l sc m_X0_samePart [.ref 12, .int (nI s), .int (nI k), .int (nI t)] M Q := by
  have h4 := (sp_sc h.1 ht).2.2.2.1
  have c1 := sp_pl_lt h.1 hs hk
  have p1 := sp_pi_le h.1 hs hk
  refine e_X0_samePart l sc M Q _ _ _ (r_placed h hs hk ⟨_, rfl, ?_⟩)
  have key : ∀ (r p : Nat), p + r = sp_pn B t → Q (some (.int (sp_o (sp_fs B s k t r p) (-1)))) M → gv l sc m_X0_samePart 11 [.ref 12, .int (nI s), .int (nI k), .int (nI t), .int (nI (sp_pl B s k * 81 + sp_pi B s k)), .int (nI p)] [] M Q := by
    intro r
    induction r with
    | zero =>
      intro p hp K
      have : p = sp_pn B t := by omega
      subst this
      exact w_X0_samePart_11 l sc M Q _ _ _ _ _ (r_partsOf h ht ⟨_, rfl, fun _ => K, fun q => absurd (Int32.le_refl _) q⟩)
    | succ r ih =>
      intro p hp K
      have c2 := sp_pl_lt h.1 ht (k := p) (by omega)
      have p2 := sp_pi_le h.1 ht (k := p) (by omega)
      refine w_X0_samePart_11 l sc M Q _ _ _ _ _ (r_partsOf h ht ⟨_, rfl, fun q => absurd q (sp_le_lit (by omega) (by omega) (by omega)), fun _ => r_placed h ht (by omega) ⟨_, rfl, ?_⟩⟩)
      rw [sp_placed_eq p2 p1 (by omega) (by omega), nI_1]
      simp only [sp_fs] at K
      refine ⟨fun q => ih (p + 1) (by omega) ?_, fun q => ?_⟩
      · rw [if_neg (by simp only [sp_same, Bool.and_eq_true, beq_iff_eq]; exact q)] at K
        exact K
      · rw [if_pos (by simp only [sp_same, Bool.and_eq_true, beq_iff_eq]; exact q)] at K
        exact K
  exact key _ 0 (Nat.zero_add _) K
/-! the reference -/
theorem r_isScaleR (h : sp_MR B M) {x : Int32} (K1 : ∀ s, s < 24 * sp_nm B → x = nI s → Q (some (.int 1)) M) (K0 : (∀ s, s < 24 * sp_nm B → ¬ x = nI s) → Q (some (.int 0)) M) : gr l sc m_X11_isScale [.ref 42, .int x] M Q := by
  have hm : sp_nm B ≤ 6 := h.1.2.2.1
  refine e_X11_isScale l sc M Q x ?_
  have e : (24 : Int32) * M 42 2 = nI (24 * sp_nm B) := by rw [h.2.2.1, show (24 : Int32) = nI 24 from rfl, sp_mul]
  rw [e]
  refine r_in (fun c1 c2 => ⟨1, rfl, Or.inr rfl, ?_⟩) (fun c => ⟨0, rfl, Or.inl rfl, K0 (fun k hk e => c ?_)⟩)
  · obtain ⟨k, hk, e⟩ := sp_of (Int32.not_lt.mpr c1)
    rcases Nat.eq_zero_or_pos (24 * sp_nm B) with h0 | h0
    · exfalso
      rw [h0, e] at c2
      have a := Int32.le_iff_toInt_le.mp c2
      rw [nI_toInt (by omega)] at a
      have b : (nI 0 - 1).toInt = -1 := rfl
      omega
    · rw [sp_sub1 h0, e] at c2
      have := (nI_leI (by omega) (by omega)).mp c2
      exact K1 k (by omega) e
  · rw [e, sp_sub1 (by omega)]
    exact ⟨nI_pos' (by omega), (sp_le (by omega) (by omega)).mpr (by omega)⟩
theorem r_parts (h : sp_MR B M) {s : Nat} (hs : s < 24 * sp_nm B) (K : Q (some (.int (nI (sp_pn B s)))) M) : gr l sc m_X11_parts [.ref 42, .int (nI s)] M Q := by
  obtain ⟨h1, h2, -, -, h3⟩ := sp_sc h.1 hs
  refine e_X11_parts l sc M Q _ ?_
  rw [sp_div24 h3, show (9 : Int32) = nI 9 from rfl, sp_mul, sp_cl (by omega), (h.2.2.2.2 (s / 24) h1).1]
  exact ⟨sp_vp (by omega) (by omega), K⟩
theorem r_cellOf (h : sp_MR B M) {s k : Nat} (hs : s < 24 * sp_nm B) (hk : k < sp_pn B s) (K : Q (some (.int (nI (sp_pl B s k)))) M) : gr l sc m_X11_cellOf [.ref 42, .int (nI s), .int (nI k)] M Q := by
  obtain ⟨h1, h2, -, h4, h3⟩ := sp_sc h.1 hs
  refine e_X11_cellOf l sc M Q _ _ ?_
  have e : (9 : Int32) * nI (s / 24) + 2 + 2 * nI k = nI (9 * (s / 24) + 2 + 2 * k) := by rw [show (9 : Int32) = nI 9 from rfl, show (2 : Int32) = nI 2 from rfl, sp_mul, sp_mul, nI_add, nI_add]
  rw [sp_div24 h3, e, sp_cl (by omega), ((h.2.2.2.2 (s / 24) h1).2 k hk).1]
  exact ⟨sp_vp (by omega) (by omega), K⟩
theorem r_pitchOf (h : sp_MR B M) {s k : Nat} (hs : s < 24 * sp_nm B) (hk : k < sp_pn B s) (K : Q (some (.int (nI (sp_pi B s k)))) M) : gr l sc m_X11_pitchOf [.ref 42, .int (nI s), .int (nI k)] M Q := by
  obtain ⟨h1, h2, -, h4, h3⟩ := sp_sc h.1 hs
  refine e_X11_pitchOf l sc M Q _ _ ?_
  have e : (4 : Int32) * nI (s / 24) + nI k = nI (4 * (s / 24) + k) := by rw [show (4 : Int32) = nI 4 from rfl, sp_mul, nI_add]
  rw [sp_rem24 h3, sp_div24 h3, e, sp_cl (by omega), ((h.2.2.2.2 (s / 24) h1).2 k hk).2, nI_add]
  exact ⟨sp_vp (by omega) (by omega), K⟩
theorem r_isInR (h : sp_MR B M) {c pt y : Nat} (hc : c < B.1) (hp : pt ≤ 1000) (hy : y ≤ 1000) (K : Q (some (.int (if (decide (pt ≤ y) && sp_hit B c (y - pt) (B.2.1 c)) = true then 1 else 0))) M) : gr l sc m_X11_isIn [.ref 42, .int (nI c), .int (nI pt), .int (nI y)] M Q := by
  have hc6 : B.1 ≤ 6 := h.1.1
  obtain ⟨q1, q2⟩ := h.2.2.2.1 c hc
  obtain ⟨w1, w2, w3⟩ := h.1.2.1 c hc
  have e5 : (5 : Int32) * nI c = nI (5 * c) := by rw [show (5 : Int32) = nI 5 from rfl, sp_mul]
  have key : ∀ (r k : Nat), k + r = B.2.1 c → gv l sc m_X11_isIn 19 [.ref 42, .int (nI c), .int (nI pt), .int (nI y), .int (nI (pt + sp_ht B c k)), .int (if (decide (pt ≤ y) && sp_hit B c (y - pt) k) = true then 1 else 0), .int (nI (k + 1))] [] M Q := by
    intro r
    induction r with
    | zero =>
      intro k hk
      have : k = B.2.1 c := by omega
      subst this
      refine w_X11_isIn_19 l sc M Q _ _ _ _ _ _ ?_
      rw [e5, sp_cl (by omega), q1]
      refine ⟨sp_vp (by omega) (by omega), fun _ => ⟨?_, K⟩, fun q => absurd ((sp_lt (by omega) (by omega)).mpr (by omega)) q⟩
      split
      · exact Or.inr rfl
      · exact Or.inl rfl
    | succ r ih =>
      intro k hk
      have hle := sp_ht_le h.1 hc k (by omega)
      have hs4 := (w3 k (by omega)).2
      refine w_X11_isIn_19 l sc M Q _ _ _ _ _ _ ?_
      have e6 : nI (5 * c) + nI (k + 1) = nI (5 * c + 1 + k) := by rw [nI_add]; congr 1; omega
      rw [e5, e6, sp_cl (by omega), sp_cl (by omega), q1, q2 k (by omega), nI_add, nI_1]
      have e7 : pt + sp_ht B c k + B.2.2.1 c k = pt + sp_ht B c (k + 1) := by show _ = pt + (sp_ht B c k + B.2.2.1 c k); omega
      rw [e7, sp_eq (by have : sp_ht B c (k + 1) = sp_ht B c k + B.2.2.1 c k := rfl
                        omega) (by omega)]
      have h9 := ih (k + 1) (by omega)
      refine ⟨sp_vp (by omega) (by omega), fun q => absurd ((sp_lt (by omega) (by omega)).mp q) (by omega), fun _ => ⟨sp_vp (by omega) (by omega), fun q => ?_, fun q => ⟨fun q2 => ?_, fun q2 => ?_⟩⟩⟩
      · have hb : (decide (pt ≤ y) && sp_hit B c (y - pt) k) = true := by
          cases hb : (decide (pt ≤ y) && sp_hit B c (y - pt) k)
          · rw [hb] at q; exact absurd rfl q
          · rfl
        have hb2 : (decide (pt ≤ y) && sp_hit B c (y - pt) (k + 1)) = true := by
          simp only [Bool.and_eq_true, sp_hit, Bool.or_eq_true] at hb ⊢
          exact ⟨hb.1, Or.inl hb.2⟩
        rw [hb2] at h9
        exact h9
      · have hb : (decide (pt ≤ y) && sp_hit B c (y - pt) k) = false := by
          cases hb : (decide (pt ≤ y) && sp_hit B c (y - pt) k)
          · rfl
          · rw [hb] at q; exact absurd q (by decide)
        have hb2 : (decide (pt ≤ y) && sp_hit B c (y - pt) (k + 1)) = false := by
          simp only [Bool.and_eq_false_iff, sp_hit, Bool.or_eq_false_iff, decide_eq_false_iff_not, beq_eq_false_iff_ne] at hb ⊢
          rcases hb with hb | hb
          · exact Or.inl hb
          · by_cases hle2 : pt ≤ y
            · exact Or.inr ⟨hb, by omega⟩
            · exact Or.inl hle2
        rw [hb2] at h9
        exact h9
      · have hb2 : (decide (pt ≤ y) && sp_hit B c (y - pt) (k + 1)) = true := by
          simp only [Bool.and_eq_true, sp_hit, Bool.or_eq_true, decide_eq_true_eq, beq_iff_eq]
          exact ⟨by omega, Or.inr (by omega)⟩
        rw [hb2] at h9
        exact h9
  refine e_X11_isIn l sc M Q _ _ _ ?_
  rw [sp_eq (by omega) (by omega)]
  have h9 := key (B.2.1 c) 0 (Nat.zero_add _)
  refine ⟨fun q => ?_, fun q => ?_⟩
  · have hb2 : (decide (pt ≤ y) && sp_hit B c (y - pt) 0) = false := by
      simp only [Bool.and_eq_false_iff, sp_hit, decide_eq_false_iff_not, beq_eq_false_iff_ne]
      omega
    rw [hb2] at h9
    exact h9
  · have hb2 : (decide (pt ≤ y) && sp_hit B c (y - pt) 0) = true := by
      simp only [Bool.and_eq_true, sp_hit, decide_eq_true_eq, beq_iff_eq]
      omega
    rw [hb2] at h9
    exact h9
theorem r_isInPart (h : sp_MR B M) {s k y : Nat} (hs : s < 24 * sp_nm B) (hk : k < sp_pn B s) (hy : y ≤ 1000) (K : Q (some (.int (if sp_in B s k y = true then 1 else 0))) M) : gr l sc m_X11_isInPart [.ref 42, .int (nI s), .int (nI k), .int (nI y)] M Q := by
  have hp := sp_pi_le h.1 hs hk
  refine e_X11_isInPart l sc M Q _ _ _ (r_cellOf h hs hk ⟨_, rfl, r_pitchOf h hs hk ⟨_, rfl, r_isInR h (sp_pl_lt h.1 hs hk).1 (by omega) hy ⟨_, rfl, ?_, K⟩⟩⟩)
  split
  · exact Or.inr rfl
  · exact Or.inl rfl
theorem r_manyHave (h : sp_MR B M) {s y : Nat} (hs : s < 24 * sp_nm B) (hy : y ≤ 1000) (K : Q (some (.int (nI (sp_cnt B s y (sp_pn B s))))) M) : gr l sc m_X11_manyHave [.ref 42, .int (nI s), .int (nI y)] M Q := by
  have h4 := (sp_sc h.1 hs).2.2.2.1
  have key : ∀ (r k : Nat), k + r = sp_pn B s → gv l sc m_X11_manyHave 5 [.ref 42, .int (nI s), .int (nI y), .int (nI (sp_cnt B s y k)), .int (nI k)] [] M Q := by
    intro r
    induction r with
    | zero =>
      intro k hk
      have : k = sp_pn B s := by omega
      subst this
      exact w_X11_manyHave_5 l sc M Q _ _ _ _ (r_parts h hs ⟨_, rfl, fun _ => K, fun q => absurd (Int32.le_refl _) q⟩)
    | succ r ih =>
      intro k hk
      refine w_X11_manyHave_5 l sc M Q _ _ _ _ (r_parts h hs ⟨_, rfl, fun q => absurd q (sp_le_lit (by omega) (by omega) (by omega)), fun _ => r_isInPart h hs (by omega) hy ⟨_, rfl, ?_⟩⟩)
      have := ih (k + 1) (by omega)
      simp only [sp_cnt] at this
      rw [nI_1, nI_1, Int32.add_zero]
      cases hin : sp_in B s k y
      · rw [hin] at this
        exact ⟨fun _ => this, fun q => absurd rfl q⟩
      · rw [hin] at this
        exact ⟨fun q => absurd q (by decide), fun _ => this⟩
  exact e_X11_manyHave l sc M Q _ _ (key _ 0 (Nat.zero_add _))
theorem r_sameIn (h : sp_MR B M) {s k t : Nat} (hs : s < 24 * sp_nm B) (hk : k < sp_pn B s) (ht : t < 24 * sp_nm B) (K : Q (some (.int (sp_o (sp_sp B s k t) (-9)))) M) : gr l sc m_X11_sameIn [.ref 42, .int (nI s), .int (nI k), .int (nI t)] M Q := by
  have h4 := (sp_sc h.1 ht).2.2.2.1
  have c1 := sp_pl_lt h.1 hs hk
  have p1 := sp_pi_le h.1 hs hk
  have key : ∀ (r p : Nat), p + r = sp_pn B t → Q (some (.int (sp_o (sp_fs B s k t r p) (-9)))) M → gv l sc m_X11_sameIn 3 [.ref 42, .int (nI s), .int (nI k), .int (nI t), .int (nI p)] [] M Q := by
    intro r
    induction r with
    | zero =>
      intro p hp K
      have : p = sp_pn B t := by omega
      subst this
      exact w_X11_sameIn_3 l sc M Q _ _ _ _ (r_parts h ht ⟨_, rfl, fun _ => K, fun q => absurd (Int32.le_refl _) q⟩)
    | succ r ih =>
      intro p hp K
      have c2 := sp_pl_lt h.1 ht (k := p) (by omega)
      have p2 := sp_pi_le h.1 ht (k := p) (by omega)
      have hpp : p < sp_pn B t := by omega
      refine w_X11_sameIn_3 l sc M Q _ _ _ _ (r_parts h ht ⟨_, rfl, fun q => absurd q (sp_le_lit (by omega) (by omega) (by omega)), fun _ => r_cellOf h ht hpp ⟨_, rfl, r_cellOf h hs hk ⟨_, rfl, ?_⟩⟩⟩)
      rw [sp_eq (by omega) (by omega), nI_1]
      simp only [sp_fs] at K
      refine ⟨fun q => ih (p + 1) (by omega) ?_, fun q => r_pitchOf h ht hpp ⟨_, rfl, r_pitchOf h hs hk ⟨_, rfl, ?_⟩⟩⟩
      · rw [if_neg (by simp only [sp_same, Bool.and_eq_true, beq_iff_eq]; exact fun z => q z.1)] at K
        exact K
      · rw [sp_eq (by omega) (by omega)]
        refine ⟨fun q2 => ih (p + 1) (by omega) ?_, fun q2 => ?_⟩
        · rw [if_neg (by simp only [sp_same, Bool.and_eq_true, beq_iff_eq]; exact fun z => q2 z.2)] at K
          exact K
        · rw [if_pos (by simp only [sp_same, Bool.and_eq_true, beq_iff_eq]; exact ⟨q, q2⟩)] at K
          exact K
  exact e_X11_sameIn l sc M Q _ _ _ (key _ 0 (Nat.zero_add _) K)
end SP9

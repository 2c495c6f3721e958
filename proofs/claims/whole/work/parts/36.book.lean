/-! THE BOOK: scales, parts, pitches, notes; class and reference -/
abbrev sp_nm (B : sp_B) : Nat := B.2.2.2.1
def sp_pn (B : sp_B) (s : Nat) : Nat := B.2.2.2.2.1 (s / 24)
def sp_pl (B : sp_B) (s k : Nat) : Nat := B.2.2.2.2.2.1 (s / 24) k
def sp_pi (B : sp_B) (s k : Nat) : Nat := s % 24 + B.2.2.2.2.2.2 (s / 24) k
def sp_hit (B : sp_B) (c d : Nat) : Nat → Bool
  | 0 => d == 0
  | i + 1 => sp_hit B c d i || d == sp_ht B c (i + 1)
def sp_in (B : sp_B) (s k y : Nat) : Bool := decide (sp_pi B s k ≤ y) && sp_hit B (sp_pl B s k) (y - sp_pi B s k) (B.2.1 (sp_pl B s k))
def sp_MC (B : sp_B) (M : gl_N) : Prop := sp_wf B ∧ sp_C B (M 12 0) (M 12 5) (M 13) (M 14) (M 15) (M 16) (M 17) (M 18) (M 19)
def sp_MR (B : sp_B) (M : gl_N) : Prop := sp_wf B ∧ sp_R B (M 42 1) (M 42 2) (M 43) (M 44) (M 45)
theorem sp_ht_mono (B : sp_B) (c : Nat) : ∀ (j i : Nat), i ≤ j → sp_ht B c i ≤ sp_ht B c j := by
  intro j
  induction j with
  | zero => intro i h; have : i = 0 := by omega
            subst this; exact Nat.le_refl _
  | succ j ih =>
    intro i h
    by_cases e : i = j + 1
    · subst e; exact Nat.le_refl _
    · exact Nat.le_trans (ih i (by omega)) (Nat.le_add_right _ _)
theorem sp_ht_le {B : sp_B} (hw : sp_wf B) {c : Nat} (hc : c < B.1) : ∀ i, i ≤ B.2.1 c → sp_ht B c i ≤ 4 * i := by
  intro i
  induction i with
  | zero => intro _; exact Nat.le_refl _
  | succ i ih =>
    intro h
    have h1 := ih (by omega)
    have h2 := ((hw.2.1 c hc).2.2 i (by omega)).2
    show sp_ht B c i + B.2.2.1 c i ≤ _
    omega
theorem sp_hit_iff (B : sp_B) (c d : Nat) : ∀ n, sp_hit B c d n = true ↔ ∃ i, i ≤ n ∧ d = sp_ht B c i := by
  intro n
  induction n with
  | zero =>
    simp only [sp_hit, beq_iff_eq]
    exact ⟨fun h => ⟨0, Nat.le_refl _, h⟩, fun ⟨i, hi, h⟩ => by have : i = 0 := by omega
                                                                subst this; exact h⟩
  | succ n ih =>
    simp only [sp_hit, Bool.or_eq_true, beq_iff_eq, ih]
    constructor
    · rintro (⟨i, hi, h⟩ | h)
      · exact ⟨i, by omega, h⟩
      · exact ⟨n + 1, Nat.le_refl _, h⟩
    · rintro ⟨i, hi, h⟩
      by_cases e : i = n + 1
      · subst e; exact Or.inr h
      · exact Or.inl ⟨i, by omega, h⟩
theorem sp_sc {B : sp_B} (hw : sp_wf B) {s : Nat} (hs : s < 24 * sp_nm B) : s / 24 < sp_nm B ∧ sp_nm B ≤ 6 ∧ 1 ≤ sp_pn B s ∧ sp_pn B s ≤ 4 ∧ s < 144 := by
  have h1 : s / 24 < sp_nm B := by omega
  have h2 := hw.2.2.1
  obtain ⟨h3, h4, -⟩ := hw.2.2.2 (s / 24) h1
  have h5 : B.2.2.2.1 = sp_nm B := rfl
  exact ⟨h1, by omega, h3, h4, by omega⟩
theorem sp_pl_lt {B : sp_B} (hw : sp_wf B) {s k : Nat} (hs : s < 24 * sp_nm B) (hk : k < sp_pn B s) : sp_pl B s k < B.1 ∧ B.1 ≤ 6 := ⟨(hw.2.2.2 (s / 24) (sp_sc hw hs).1).2.2.2.1 k hk, hw.1⟩
theorem sp_ph_le {B : sp_B} (hw : sp_wf B) {m : Nat} (hm : m < sp_nm B) : ∀ k, k < B.2.2.2.2.1 m → B.2.2.2.2.2.2 m k ≤ 19 * k := by
  obtain ⟨-, h2, h3, h4, h5⟩ := hw.2.2.2 m hm
  intro k
  induction k with
  | zero => intro _; rw [h3]; exact Nat.le_refl _
  | succ k ih =>
    intro hk
    obtain ⟨g, g1, g2⟩ := h5 k hk
    have h6 := ih (by omega)
    have h7 := h4 k (by omega)
    have h8 := sp_ht_le hw h7 _ (Nat.le_refl _)
    have h9 := (hw.2.1 _ h7).2.1
    rw [g2]
    omega
theorem sp_pi_le {B : sp_B} (hw : sp_wf B) {s k : Nat} (hs : s < 24 * sp_nm B) (hk : k < sp_pn B s) : sp_pi B s k ≤ 80 := by
  have h1 := sp_sc hw hs
  have h2 := sp_ph_le hw h1.1 k hk
  have h3 : k < 4 := Nat.lt_of_lt_of_le hk h1.2.2.2.1
  unfold sp_pi
  omega
theorem sp_div24 {s : Nat} (hs : s < 144) : nI s / 24 = nI (s / 24) := pk_div (d := 24) (by omega) (by omega) (by omega)
theorem sp_rem24 {s : Nat} (hs : s < 144) : nI s - nI s / 24 * 24 = nI (s % 24) := pk_rem (d := 24) (by omega) (by omega) (by omega)
section SP8
variable {l : Launch} {sc : Nat × (Nat → Int32)} {M : gl_N} {Q : Option Value → gl_N → Prop} {B : sp_B}
theorem r_scaleCount (h : sp_MC B M) (K : Q (some (.int (nI (24 * sp_nm B)))) M) : gr l sc m_X0_scaleCount [.ref 12] M Q := by
  refine e_X0_scaleCount l sc M Q ?_
  rw [h.2.2.1, show (24 : Int32) = nI 24 from rfl, sp_mul, Nat.mul_comm]
  exact K
theorem r_isScale (h : sp_MC B M) {x : Int32} (K1 : ∀ s, s < 24 * sp_nm B → x = nI s → Q (some (.int 1)) M) (K0 : (∀ s, s < 24 * sp_nm B → ¬ x = nI s) → Q (some (.int 0)) M) : gr l sc m_X0_isScale [.ref 12, .int x] M Q := by
  have hm : sp_nm B ≤ 6 := h.1.2.2.1
  refine e_X0_isScale l sc M Q x ⟨fun h0 => K0 (fun s hs e => ?_), fun h0 => r_scaleCount h ⟨_, rfl, fun h2 => K0 (fun s hs e => ?_), fun h2 => ?_⟩⟩
  · rw [e] at h0; exact nI_pos (by omega) h0
  · rw [e] at h2; have := (sp_le (by omega) (by omega)).mp h2; omega
  · obtain ⟨k, hk, e⟩ := sp_of h0
    rw [e] at h2
    have : ¬ 24 * sp_nm B ≤ k := fun q => h2 ((nI_leI (by omega) (by omega)).mpr q)
    exact K1 k (by omega) e
theorem r_partsOf (h : sp_MC B M) {s : Nat} (hs : s < 24 * sp_nm B) (K : Q (some (.int (nI (sp_pn B s)))) M) : gr l sc m_X0_partsOf [.ref 12, .int (nI s)] M Q := by
  obtain ⟨h1, h2, -, -, h3⟩ := sp_sc h.1 hs
  refine e_X0_partsOf l sc M Q _ ?_
  rw [sp_div24 h3, sp_cl (by omega), (h.2.2.2.2 (s / 24) h1).1]
  exact ⟨sp_vp (by omega) (by omega), K⟩
theorem r_cellAt (h : sp_MC B M) {s k : Nat} (hs : s < 24 * sp_nm B) (hk : k < sp_pn B s) (K : Q (some (.int (nI (sp_pl B s k)))) M) : gr l sc m_X0_cellAt [.ref 12, .int (nI s), .int (nI k)] M Q := by
  obtain ⟨h1, h2, -, h4, h3⟩ := sp_sc h.1 hs
  refine e_X0_cellAt l sc M Q _ _ ?_
  have e : nI (s / 24) * 4 + nI k = nI (4 * (s / 24) + k) := by rw [show (4 : Int32) = nI 4 from rfl, sp_mul, nI_add, Nat.mul_comm]
  rw [sp_div24 h3, e, sp_cl (by omega), ((h.2.2.2.2 (s / 24) h1).2 k hk).1]
  exact ⟨sp_vp (by omega) (by omega), K⟩
theorem r_pitchAt (h : sp_MC B M) {s k : Nat} (hs : s < 24 * sp_nm B) (hk : k < sp_pn B s) (K : Q (some (.int (nI (sp_pi B s k)))) M) : gr l sc m_X0_pitchAt [.ref 12, .int (nI s), .int (nI k)] M Q := by
  obtain ⟨h1, h2, -, h4, h3⟩ := sp_sc h.1 hs
  refine e_X0_pitchAt l sc M Q _ _ ?_
  have e : nI (s / 24) * 4 + nI k = nI (4 * (s / 24) + k) := by rw [show (4 : Int32) = nI 4 from rfl, sp_mul, nI_add, Nat.mul_comm]
  rw [sp_rem24 h3, sp_div24 h3, e, sp_cl (by omega), ((h.2.2.2.2 (s / 24) h1).2 k hk).2, nI_add]
  exact ⟨sp_vp (by omega) (by omega), K⟩
theorem r_placed (h : sp_MC B M) {s k : Nat} (hs : s < 24 * sp_nm B) (hk : k < sp_pn B s) (K : Q (some (.int (nI (sp_pl B s k * 81 + sp_pi B s k)))) M) : gr l sc m_X0_placedCell [.ref 12, .int (nI s), .int (nI k)] M Q := by
  refine e_X0_placedCell l sc M Q _ _ (r_cellAt h hs hk ⟨_, rfl, r_pitchAt h hs hk ⟨_, rfl, ?_⟩⟩)
  rw [show (81 : Int32) = nI 81 from rfl, sp_mul, nI_add]
  exact K
/-! the bits -/
def sp_bn (B : sp_B) (c : Nat) : Nat → Nat
  | 0 => 1
  | k + 1 => sp_bn B c k ||| 2 ^ sp_ht B c (k + 1)
theorem sp_or (a b : Nat) : nI a ||| nI b = nI (a ||| b) := by
  apply Int32.toBitVec_inj.mp
  rw [Int32.toBitVec_or]
  show BitVec.ofNat 32 a ||| BitVec.ofNat 32 b = BitVec.ofNat 32 (a ||| b)
  exact (BitVec.ofNat_or).symm
theorem sp_shl1 : ∀ h, h < 31 → (1 : Int32) <<< (nI h &&& 31) = nI (2 ^ h) := by decide +kernel
theorem sp_bits_eq {B : sp_B} (hw : sp_wf B) {c : Nat} (hc : c < B.1) : ∀ n, n ≤ B.2.1 c → sp_bits B c n = nI (sp_bn B c n) ∧ sp_bn B c n < 2 ^ 17 := by
  intro n
  induction n with
  | zero => intro _; exact ⟨rfl, by show 1 < 2 ^ 17; decide⟩
  | succ n ih =>
    intro hn
    obtain ⟨h1, h2⟩ := ih (by omega)
    have h3 := sp_ht_le hw hc (n + 1) hn
    have h4 := (hw.2.1 c hc).2.1
    simp only [sp_bits, sp_bn]
    rw [h1, sp_shl1 _ (by omega), sp_or]
    refine ⟨rfl, Nat.or_lt_two_pow h2 (Nat.pow_lt_pow_right (by omega) (by omega))⟩
theorem sp_bn_bit (B : sp_B) (c d : Nat) : ∀ n, (sp_bn B c n).testBit d = sp_hit B c d n := by
  intro n
  induction n with
  | zero =>
    show Nat.testBit 1 d = (d == 0)
    rw [show (1 : Nat) = 2 ^ 0 from rfl, Nat.testBit_two_pow]
    by_cases h : d = 0
    · subst h; rfl
    · simp [h, Ne.symm h]
  | succ n ih =>
    simp only [sp_bn, sp_hit, Nat.testBit_or, ih, Nat.testBit_two_pow]
    congr 1
    by_cases h : d = sp_ht B c (n + 1)
    · simp [h]
    · simp [h, Ne.symm h]
theorem sp_sh31 : ∀ d, d < 32 → (((nI d) &&& 31 : Int32).toBitVec.smod 32).toNat = d := by decide +kernel
theorem sp_test {N d : Nat} (hN : N < 2 ^ 17) (hd : d < 31) : ((nI N >>> (nI d &&& 31)) &&& 1 = 1) ↔ N.testBit d = true := by
  rw [pk_shrN (by omega) _ d (sp_sh31 d (by omega)), pk_andN (k := 1) (by have := Nat.div_le_self N (2 ^ d); omega) rfl, Nat.testBit_eq_decide_div_mod_eq, decide_eq_true_iff]
  show nI (N / 2 ^ d % 2 ^ 1) = nI 1 ↔ _
  rw [sp_eq (by omega) (by omega)]
theorem r_isIn (h : sp_MC B M) {s k y : Nat} (hs : s < 24 * sp_nm B) (hk : k < sp_pn B s) (hy : y ≤ 1000) (K : Q (some (.int (if sp_in B s k y = true then 1 else 0))) M) : gr l sc m_X0_isIn [.ref 12, .int (nI s), .int (nI k), .int (nI y)] M Q := by
  have hp := sp_pi_le h.1 hs hk
  obtain ⟨hl, hl6⟩ := sp_pl_lt h.1 hs hk
  obtain ⟨q1, q2, q3, q4⟩ := h.2.2.2.1 (sp_pl B s k) hl
  have hh := sp_ht_le h.1 hl _ (Nat.le_refl _)
  have hn4 := (h.1.2.1 _ hl).2.1
  refine e_X0_isIn l sc M Q _ _ _ (r_pitchAt h hs hk ⟨_, rfl, r_cellAt h hs hk ⟨_, rfl, ?_⟩⟩)
  rw [sp_cl (n := sp_pl B s k) (by omega), q3, q4]
  have hsub : sp_pi B s k ≤ y → nI y - nI (sp_pi B s k) = nI (y - sp_pi B s k) := fun hle => by
    have : nI y = nI (y - sp_pi B s k) + nI (sp_pi B s k) := by rw [nI_add]; congr 1; omega
    rw [this, Int32.add_sub_cancel]
  have hneg : ¬ sp_pi B s k ≤ y → nI y - nI (sp_pi B s k) < 0 := fun hle => by
    rw [Int32.lt_iff_toInt_lt, Int32.toInt_sub, nI_toInt (by omega), nI_toInt (by omega)]
    have e0 : (0 : Int32).toInt = 0 := rfl
    rw [e0, Int.bmod_eq_of_le (by omega) (by omega)]
    omega
  by_cases hle : sp_pi B s k ≤ y
  · rw [hsub hle]
    refine ⟨fun q => absurd q (nI_pos (by omega)), fun _ => ⟨sp_vp (by omega) (by omega), fun q => ?_, fun q => ⟨sp_vp (by omega) (by omega), ?_⟩⟩⟩
    · have hgt := (sp_lt (by omega) (by omega)).mp q
      have : sp_in B s k y = false := by
        simp only [sp_in, hle, decide_true, Bool.true_and]
        rw [Bool.eq_false_iff]
        intro hc
        obtain ⟨i, hi, e⟩ := (sp_hit_iff B _ _ _).mp hc
        have := sp_ht_mono B (sp_pl B s k) _ i hi
        omega
      rw [this] at K
      exact K
    · have hge : y - sp_pi B s k ≤ sp_ht B (sp_pl B s k) (B.2.1 (sp_pl B s k)) := by
        have := mt (sp_lt (n := sp_ht B (sp_pl B s k) (B.2.1 (sp_pl B s k))) (N := y - sp_pi B s k) (by omega) (by omega)).mpr q
        omega
      obtain ⟨b1, b2⟩ := sp_bits_eq h.1 hl _ (Nat.le_refl _)
      rw [b1, sp_test b2 (by omega), sp_bn_bit]
      have e : sp_in B s k y = sp_hit B (sp_pl B s k) (y - sp_pi B s k) (B.2.1 (sp_pl B s k)) := by simp [sp_in, hle]
      rw [e] at K
      refine ⟨fun q => ?_, fun q => ?_⟩
      · rw [if_neg q] at K; exact K
      · rw [if_pos q] at K; exact K
  · have e : sp_in B s k y = false := by simp [sp_in, hle]
    rw [e] at K
    exact ⟨fun _ => K, fun q => absurd (hneg hle) q⟩
end SP8

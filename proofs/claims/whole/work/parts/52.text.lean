/-! THE TEXT, purely: N letters T -/
section SP23
variable {N : Nat} {T : Nat → Nat} {B : sp_B}
def rd_sk (T : Nat → Nat) : Nat → Nat → Nat
  | 0, p => p
  | f + 1, p => if T p = 32 then rd_sk T f (p + 1) else p
/-- behind the blanks -/
def rd_s (N : Nat) (T : Nat → Nat) (p : Nat) : Nat := rd_sk T (N - p) p
theorem rd_sk_le (T : Nat → Nat) : ∀ f p, p ≤ rd_sk T f p ∧ rd_sk T f p ≤ p + f := by
  intro f
  induction f with
  | zero => intro p; exact ⟨Nat.le_refl _, Nat.le_refl _⟩
  | succ f ih =>
    intro p
    simp only [rd_sk]
    split
    · have := ih (p + 1); omega
    · omega
theorem rd_s_le {p : Nat} (hp : p ≤ N) : p ≤ rd_s N T p ∧ rd_s N T p ≤ N := by
  have := rd_sk_le T (N - p) p
  unfold rd_s
  omega
theorem rd_s_step {p : Nat} (hp : p < N) : rd_s N T p = if T p = 32 then rd_s N T (p + 1) else p := by
  unfold rd_s
  rw [show N - p = (N - (p + 1)) + 1 by omega]
  rfl
theorem rd_s_end {p : Nat} (hp : N ≤ p) : rd_s N T p = p := by
  unfold rd_s
  rw [show N - p = 0 by omega]
  rfl
theorem rd_s_nb : ∀ (f p : Nat), N - p = f → rd_s N T p < N → T (rd_s N T p) ≠ 32 := by
  intro f
  induction f with
  | zero =>
    intro p hf h
    rw [rd_s_end (by omega)] at h
    omega
  | succ f ih =>
    intro p hf h
    rw [rd_s_step (by omega)] at h ⊢
    by_cases e : T p = 32
    · rw [if_pos e] at h ⊢
      exact ih (p + 1) (by omega) h
    · rw [if_neg e]; exact e
theorem rd_s_idem {p : Nat} (hp : p ≤ N) : rd_s N T (rd_s N T p) = rd_s N T p := by
  by_cases h : rd_s N T p < N
  · rw [rd_s_step h, if_neg (rd_s_nb _ p rfl h)]
  · exact rd_s_end (by omega)
/-- a figure -/
abbrev rd_g (N : Nat) (T : Nat → Nat) (p : Nat) : Prop := p < N ∧ 48 ≤ T p ∧ T p ≤ 57
/-- a number from lo up to below hx, at q -/
def rd_n (N : Nat) (T : Nat → Nat) (lo hx q : Nat) : Option Nat := if rd_g N T q ∧ ¬ rd_g N T (q + 1) ∧ lo ≤ T q - 48 ∧ T q - 48 < hx then some (T q - 48) else none
abbrev rd_e (N : Nat) (T : Nat → Nat) (p : Nat) : Prop := rd_s N T p < N ∧ T (rd_s N T p) = 59
/-- steps: k of them are read -/
def rd_c (N : Nat) (T : Nat → Nat) : Nat → Nat → Nat → (Nat → Nat) → Sum (Nat × Nat × (Nat → Nat)) Nat
  | 0, k, p, st => if rd_e N T p then .inl (rd_s N T p + 1, k, st) else .inr (rd_s N T p)
  | r + 1, k, p, st => if 0 < k ∧ rd_e N T p then .inl (rd_s N T p + 1, k, st) else
    match rd_n N T 1 5 (rd_s N T p) with
    | none => .inr (rd_s N T p)
    | some d => rd_c N T r (k + 1) (rd_s N T p + 1) (fun j => if j = k then d else st j)
/-- parts: k of them are read -/
def rd_m (N : Nat) (T : Nat → Nat) (B : sp_B) : Nat → Nat → Nat → (Nat → Nat) → (Nat → Nat) → Sum (Nat × Nat × (Nat → Nat) × (Nat → Nat)) Nat
  | 0, k, p, pl, ph => if rd_e N T p then .inl (rd_s N T p + 1, k, pl, ph) else .inr (rd_s N T p)
  | r + 1, k, p, pl, ph => if rd_e N T p then .inl (rd_s N T p + 1, k, pl, ph) else
    match rd_n N T 0 4 (rd_s N T p) with
    | none => .inr (rd_s N T p)
    | some g =>
      match rd_n N T 0 B.1 (rd_s N T (rd_s N T p + 1)) with
      | none => .inr (rd_s N T (rd_s N T p + 1))
      | some c => rd_m N T B r (k + 1) (rd_s N T (rd_s N T p + 1) + 1) (fun j => if j = k then c else pl j) (fun j => if j = k then ph (k - 1) + sp_ht B (pl (k - 1)) (B.2.1 (pl (k - 1))) + g else ph j)
def rd_ac (B : sp_B) (k : Nat) (st : Nat → Nat) : sp_B := (B.1 + 1, (fun c => if c = B.1 then k else B.2.1 c), (fun c => if c = B.1 then st else B.2.2.1 c), B.2.2.2)
def rd_am (B : sp_B) (k : Nat) (pl ph : Nat → Nat) : sp_B := (B.1, B.2.1, B.2.2.1, B.2.2.2.1 + 1, (fun m => if m = B.2.2.2.1 then k else B.2.2.2.2.1 m), (fun m => if m = B.2.2.2.1 then pl else B.2.2.2.2.2.1 m), (fun m => if m = B.2.2.2.1 then ph else B.2.2.2.2.2.2 m))
/-- an item at p -/
def rd_i (N : Nat) (T : Nat → Nat) (B : sp_B) (p : Nat) : Sum (Nat × sp_B) Nat :=
  if T p = 99 ∧ B.1 < 6 then
    match rd_c N T 4 0 (p + 1) (fun _ => 0) with
    | .inl (p', k, st) => .inl (p', rd_ac B k st)
    | .inr q => .inr q
  else if T p = 109 ∧ B.2.2.2.1 < 6 then
    match rd_n N T 0 B.1 (rd_s N T (p + 1)) with
    | none => .inr (rd_s N T (p + 1))
    | some c =>
      match rd_m N T B 3 1 (rd_s N T (p + 1) + 1) (fun _ => c) (fun _ => 0) with
      | .inl (p', k, pl, ph) => .inl (p', rd_am B k pl ph)
      | .inr q => .inr q
  else .inr p
/-- all items from p on -/
def rd_a (N : Nat) (T : Nat → Nat) : Nat → Nat → Nat → sp_B → Sum (Nat × sp_B) Nat
  | 0, i, _, B => .inl (i, B)
  | f + 1, i, p, B => if N ≤ p then .inl (i, B) else
    match rd_i N T B p with
    | .inr q => .inr q
    | .inl (p', B') => rd_a N T f (i + 1) (rd_s N T p') B'
theorem rd_n_some {lo hx q d : Nat} (h : rd_n N T lo hx q = some d) : q < N ∧ lo ≤ d ∧ d < hx ∧ d ≤ 9 ∧ T q = 48 + d ∧ ¬ rd_g N T (q + 1) := by
  unfold rd_n at h
  split at h
  · rename_i hc
    obtain ⟨⟨h1, h2, h3⟩, h4, h5, h6⟩ := hc
    cases h
    exact ⟨h1, h5, h6, by omega, by omega, h4⟩
  · cases h
theorem rd_c_ok : ∀ (r k p : Nat) (st : Nat → Nat) {p' k' : Nat} {st' : Nat → Nat}, k + r = 4 → p ≤ N → (∀ j, j < k → 1 ≤ st j ∧ st j ≤ 4) → rd_c N T r k p st = .inl (p', k', st') → p < p' ∧ p' ≤ N ∧ 1 ≤ k' ∧ k' ≤ 4 ∧ ∀ j, j < k' → 1 ≤ st' j ∧ st' j ≤ 4 := by
  intro r
  induction r with
  | zero =>
    intro k p st p' k' st' hk hp hst h
    have hs := rd_s_le (T := T) hp
    simp only [rd_c] at h
    split at h
    · rename_i he
      cases h
      exact ⟨by omega, he.1, by omega, by omega, hst⟩
    · cases h
  | succ r ih =>
    intro k p st p' k' st' hk hp hst h
    have hs := rd_s_le (T := T) hp
    simp only [rd_c] at h
    split at h
    · rename_i he
      cases h
      exact ⟨by omega, he.2.1, by omega, by omega, hst⟩
    · split at h
      · cases h
      · rename_i d hd
        obtain ⟨d1, d2, d3, -, -, -⟩ := rd_n_some hd
        obtain ⟨a1, a2, a3⟩ := ih (k + 1) _ _ (by omega) d1 (fun j hj => by
          by_cases e : j = k
          · simp only [if_pos e]; omega
          · simp only [if_neg e]; exact hst j (by omega)) h
        exact ⟨by omega, a2, a3⟩
theorem rd_m_ok : ∀ (r k p : Nat) (pl ph : Nat → Nat) {p' k' : Nat} {pl' ph' : Nat → Nat}, 1 ≤ k → k + r = 4 → p ≤ N → ph 0 = 0 → (∀ j, j < k → pl j < B.1) → (∀ j, j + 1 < k → ∃ g, g ≤ 3 ∧ ph (j + 1) = ph j + sp_ht B (pl j) (B.2.1 (pl j)) + g) → rd_m N T B r k p pl ph = .inl (p', k', pl', ph') → p < p' ∧ p' ≤ N ∧ 1 ≤ k' ∧ k' ≤ 4 ∧ ph' 0 = 0 ∧ (∀ j, j < k' → pl' j < B.1) ∧ ∀ j, j + 1 < k' → ∃ g, g ≤ 3 ∧ ph' (j + 1) = ph' j + sp_ht B (pl' j) (B.2.1 (pl' j)) + g := by
  intro r
  induction r with
  | zero =>
    intro k p pl ph p' k' pl' ph' h1k hk hp h0 hpl hph h
    have hs := rd_s_le (T := T) hp
    simp only [rd_m] at h
    split at h
    · rename_i he
      cases h
      exact ⟨by omega, he.1, by omega, by omega, h0, hpl, hph⟩
    · cases h
  | succ r ih =>
    intro k p pl ph p' k' pl' ph' h1k hk hp h0 hpl hph h
    have hs := rd_s_le (T := T) hp
    simp only [rd_m] at h
    split at h
    · rename_i he
      cases h
      exact ⟨by omega, he.1, by omega, by omega, h0, hpl, hph⟩
    · split at h
      · cases h
      · rename_i g hg
        obtain ⟨g1, -, g2, -⟩ := rd_n_some hg
        have hs2 := rd_s_le (T := T) (N := N) (p := rd_s N T p + 1) g1
        split at h
        · cases h
        · rename_i c hc
          obtain ⟨c1, -, c2, -⟩ := rd_n_some hc
          obtain ⟨a1, a2, a3⟩ := ih (k + 1) _ _ _ (by omega) (by omega) c1 (by
            show (if 0 = k then _ else ph 0) = 0
            rw [if_neg (by omega)]; exact h0) (fun j hj => by
            show (if j = k then c else pl j) < B.1
            by_cases e : j = k
            · rw [if_pos e]; exact c2
            · rw [if_neg e]; exact hpl j (by omega)) (fun j hj => by
            show ∃ g', g' ≤ 3 ∧ (if j + 1 = k then ph (k - 1) + sp_ht B (pl (k - 1)) (B.2.1 (pl (k - 1))) + g else ph (j + 1)) = (if j = k then ph (k - 1) + sp_ht B (pl (k - 1)) (B.2.1 (pl (k - 1))) + g else ph j) + sp_ht B (if j = k then c else pl j) (B.2.1 (if j = k then c else pl j)) + g'
            rw [if_neg (show ¬ j = k by omega), if_neg (show ¬ j = k by omega)]
            by_cases e : j + 1 = k
            · rw [if_pos e, show k - 1 = j by omega]
              exact ⟨g, by omega, rfl⟩
            · rw [if_neg e]; exact hph j (by omega)) h
          exact ⟨by omega, a2, a3⟩
theorem sp_ht_ac {k c : Nat} {st : Nat → Nat} (h : c ≠ B.1) : ∀ j, sp_ht (rd_ac B k st) c j = sp_ht B c j := by
  intro j
  induction j with
  | zero => rfl
  | succ j ih =>
    show sp_ht (rd_ac B k st) c j + (if c = B.1 then st else B.2.2.1 c) j = sp_ht B c j + B.2.2.1 c j
    rw [ih, if_neg h]
theorem sp_ht_am {k : Nat} {pl ph : Nat → Nat} (c : Nat) : ∀ j, sp_ht (rd_am B k pl ph) c j = sp_ht B c j := by
  intro j
  induction j with
  | zero => rfl
  | succ j ih =>
    show sp_ht (rd_am B k pl ph) c j + B.2.2.1 c j = sp_ht B c j + B.2.2.1 c j
    rw [ih]
theorem sp_bits_ac {k c : Nat} {st : Nat → Nat} (h : c ≠ B.1) : ∀ j, sp_bits (rd_ac B k st) c j = sp_bits B c j := by
  intro j
  induction j with
  | zero => rfl
  | succ j ih =>
    simp only [sp_bits]
    rw [ih, sp_ht_ac h]
theorem sp_bits_am {k : Nat} {pl ph : Nat → Nat} (c : Nat) : ∀ j, sp_bits (rd_am B k pl ph) c j = sp_bits B c j := by
  intro j
  induction j with
  | zero => rfl
  | succ j ih =>
    simp only [sp_bits]
    rw [ih, sp_ht_am]
/-- of the new cell: only the steps so far -/
theorem sp_ht_new {k k2 : Nat} {st st2 : Nat → Nat} : ∀ j, (∀ i, i < j → st i = st2 i) → sp_ht (rd_ac B k st) B.1 j = sp_ht (rd_ac B k2 st2) B.1 j := by
  intro j
  induction j with
  | zero => intro _; rfl
  | succ j ih =>
    intro h
    show sp_ht (rd_ac B k st) B.1 j + (if B.1 = B.1 then st else B.2.2.1 B.1) j = sp_ht (rd_ac B k2 st2) B.1 j + (if B.1 = B.1 then st2 else B.2.2.1 B.1) j
    rw [ih (fun i hi => h i (by omega)), if_pos rfl, if_pos rfl, h j (by omega)]
theorem sp_bits_new {k k2 : Nat} {st st2 : Nat → Nat} : ∀ j, (∀ i, i < j → st i = st2 i) → sp_bits (rd_ac B k st) B.1 j = sp_bits (rd_ac B k2 st2) B.1 j := by
  intro j
  induction j with
  | zero => intro _; rfl
  | succ j ih =>
    intro h
    simp only [sp_bits]
    rw [ih (fun i hi => h i (by omega)), sp_ht_new (j + 1) h]
theorem sp_wf_ac (hw : sp_wf B) {k : Nat} {st : Nat → Nat} (hc : B.1 < 6) (h1 : 1 ≤ k) (h2 : k ≤ 4) (h3 : ∀ j, j < k → 1 ≤ st j ∧ st j ≤ 4) : sp_wf (rd_ac B k st) := by
  obtain ⟨w1, w2, w3, w4⟩ := hw
  refine ⟨hc, fun c hcl => ?_, w3, fun m hm => ?_⟩
  · have hcl : c < B.1 + 1 := hcl
    show 1 ≤ (if c = B.1 then k else B.2.1 c) ∧ (if c = B.1 then k else B.2.1 c) ≤ 4 ∧ ∀ j, j < (if c = B.1 then k else B.2.1 c) → 1 ≤ (if c = B.1 then st else B.2.2.1 c) j ∧ (if c = B.1 then st else B.2.2.1 c) j ≤ 4
    by_cases e : c = B.1
    · simp only [if_pos e]; exact ⟨h1, h2, h3⟩
    · simp only [if_neg e]; exact w2 c (by omega)
  · obtain ⟨m1, m2, m3, m4, m5⟩ := w4 m hm
    refine ⟨m1, m2, m3, fun j hj => Nat.lt_succ_of_lt (m4 j hj), fun j hj => ?_⟩
    have hj : j + 1 < B.2.2.2.2.1 m := hj
    obtain ⟨g, g1, g2⟩ := m5 j hj
    have hlt := m4 j (by omega)
    refine ⟨g, g1, ?_⟩
    show B.2.2.2.2.2.2 m (j + 1) = B.2.2.2.2.2.2 m j + sp_ht (rd_ac B k st) (B.2.2.2.2.2.1 m j) (if B.2.2.2.2.2.1 m j = B.1 then k else B.2.1 (B.2.2.2.2.2.1 m j)) + g
    rw [if_neg (by omega), sp_ht_ac (by omega)]
    exact g2
theorem sp_wf_am (hw : sp_wf B) {k : Nat} {pl ph : Nat → Nat} (hc : B.2.2.2.1 < 6) (h1 : 1 ≤ k) (h2 : k ≤ 4) (h0 : ph 0 = 0) (h3 : ∀ j, j < k → pl j < B.1) (h4 : ∀ j, j + 1 < k → ∃ g, g ≤ 3 ∧ ph (j + 1) = ph j + sp_ht B (pl j) (B.2.1 (pl j)) + g) : sp_wf (rd_am B k pl ph) := by
  obtain ⟨w1, w2, w3, w4⟩ := hw
  refine ⟨w1, w2, hc, fun m hm => ?_⟩
  have hm : m < B.2.2.2.1 + 1 := hm
  show 1 ≤ (if m = B.2.2.2.1 then k else B.2.2.2.2.1 m) ∧ (if m = B.2.2.2.1 then k else B.2.2.2.2.1 m) ≤ 4 ∧ (if m = B.2.2.2.1 then ph else B.2.2.2.2.2.2 m) 0 = 0 ∧ (∀ j, j < (if m = B.2.2.2.1 then k else B.2.2.2.2.1 m) → (if m = B.2.2.2.1 then pl else B.2.2.2.2.2.1 m) j < B.1) ∧ ∀ j, j + 1 < (if m = B.2.2.2.1 then k else B.2.2.2.2.1 m) → ∃ g, g ≤ 3 ∧ (if m = B.2.2.2.1 then ph else B.2.2.2.2.2.2 m) (j + 1) = (if m = B.2.2.2.1 then ph else B.2.2.2.2.2.2 m) j + sp_ht (rd_am B k pl ph) ((if m = B.2.2.2.1 then pl else B.2.2.2.2.2.1 m) j) (B.2.1 ((if m = B.2.2.2.1 then pl else B.2.2.2.2.2.1 m) j)) + g
  by_cases e : m = B.2.2.2.1
  · simp only [if_pos e, sp_ht_am]
    exact ⟨h1, h2, h0, h3, h4⟩
  · simp only [if_neg e, sp_ht_am]
    exact w4 m (by omega)
theorem rd_i_ok (hw : sp_wf B) {p p' : Nat} {B' : sp_B} (hp : p < N) (h : rd_i N T B p = .inl (p', B')) : p < p' ∧ p' ≤ N ∧ sp_wf B' := by
  unfold rd_i at h
  split at h
  · rename_i hc
    split at h
    · rename_i a b2 c2 he
      cases h
      obtain ⟨z1, z2, z3, z4, z5⟩ := rd_c_ok 4 0 (p + 1) _ (by omega) (by omega) (fun j hj => absurd hj (Nat.not_lt_zero _)) he
      exact ⟨by omega, z2, sp_wf_ac hw hc.2 z3 z4 z5⟩
    · cases h
  · split at h
    · rename_i hc
      split at h
      · cases h
      · rename_i c hd
        obtain ⟨c1, -, c2, -⟩ := rd_n_some hd
        have hs := rd_s_le (T := T) (N := N) (p := p + 1) (by omega)
        split at h
        · rename_i a b2 q2 d2 he
          cases h
          obtain ⟨z1, z2, z3, z4, z5, z6, z7⟩ := rd_m_ok 3 1 _ _ _ (by omega) (by omega) c1 rfl (fun j hj => c2) (fun j hj => by omega) he
          exact ⟨by omega, z2, sp_wf_am hw hc.2 z3 z4 z5 z6 z7⟩
        · cases h
    · cases h
end SP23

/-! BREADTH FIRST: R places of the row q are laid, f t is how many lie on the way to t (0: none yet); h are done -/
abbrev bf_X : Type := Nat × (Nat → Nat) × (Nat → Nat)
def bf_u (f : Nat → Nat) (k v : Nat) : Nat → Nat := fun j => if j = k then v else f j
def bf_cnt (f : Nat → Nat) : Nat → Nat
  | 0 => 0
  | n + 1 => bf_cnt f n + (if f n = 0 then 0 else 1)
theorem bf_cnt_le (f : Nat → Nat) : ∀ n, bf_cnt f n ≤ n := by
  intro n
  induction n with
  | zero => exact Nat.le_refl _
  | succ n ih => simp only [bf_cnt]; split <;> omega
theorem bf_cnt_lt (f : Nat → Nat) {t : Nat} (h0 : f t = 0) : ∀ n, t < n → bf_cnt f n < n := by
  intro n
  induction n with
  | zero => intro h; omega
  | succ n ih =>
    intro h
    have h1 := bf_cnt_le f n
    simp only [bf_cnt]
    by_cases e : t = n
    · subst e; rw [if_pos h0]; omega
    · have := ih (by omega); split <;> omega
theorem bf_cnt_same {f g : Nat → Nat} : ∀ n, (∀ t, t < n → (f t = 0 ↔ g t = 0)) → bf_cnt f n = bf_cnt g n := by
  intro n
  induction n with
  | zero => intro _; rfl
  | succ n ih =>
    intro h
    simp only [bf_cnt]
    rw [ih (fun t ht => h t (by omega))]
    have := h n (by omega)
    by_cases e : f n = 0
    · rw [if_pos e, if_pos (this.mp e)]
    · rw [if_neg e, if_neg (fun q => e (this.mpr q))]
theorem bf_cnt_u (f : Nat → Nat) {t v : Nat} (h0 : f t = 0) (hv : v ≠ 0) : ∀ n, t < n → bf_cnt (bf_u f t v) n = bf_cnt f n + 1 := by
  intro n
  induction n with
  | zero => intro h; omega
  | succ n ih =>
    intro h
    simp only [bf_cnt]
    by_cases e : t = n
    · subst e
      have : bf_cnt (bf_u f t v) t = bf_cnt f t := bf_cnt_same t (fun u hu => by simp [bf_u, Nat.ne_of_lt hu])
      rw [this, if_pos h0]
      simp [bf_u, hv]
    · rw [ih (by omega)]
      have : bf_u f t v n = f n := by simp [bf_u, Ne.symm e]
      rw [this]
      omega
theorem bf_cnt_0 : ∀ n, bf_cnt (fun _ => 0) n = 0 := by
  intro n
  induction n with
  | zero => rfl
  | succ n ih => simp only [bf_cnt, ih, if_true]
def bf_Jc (N : Nat) (E : Nat → Nat → Prop) (s h R : Nat) (q F : Nat → Nat) : Prop := (1 ≤ R ∧ q 0 = s ∧ F s = 1 ∧ s < N) ∧ (∀ i, i < R → q i < N ∧ F (q i) ≠ 0 ∧ F (q i) ≤ i + 1) ∧ (∀ t, t < N → F t ≠ 0 → ∃ i, i < R ∧ q i = t) ∧ R = bf_cnt F N ∧ (∀ i j, i ≤ j → j < R → F (q i) ≤ F (q j)) ∧ h ≤ R ∧ (h < R → ∀ j, j < R → F (q j) ≤ F (q h) + 1) ∧
  (∀ t, t < N → F t ≠ 0 → (t = s ∧ F t = 1) ∨ ∃ u, u < N ∧ F u ≠ 0 ∧ F t = F u + 1 ∧ E u t) ∧ (∀ i, i < h → ∀ t, t < N → E (q i) t → F t ≠ 0 ∧ F t ≤ F (q i) + 1)
def bf_J (N : Nat) (E : Nat → Nat → Prop) (s h : Nat) (X : bf_X) : Prop := bf_Jc N E s h X.1 X.2.1 X.2.2
def bf_enq (X : bf_X) (t v : Nat) : bf_X := if X.2.2 t = 0 then (X.1 + 1, bf_u X.2.1 X.1 t, bf_u X.2.2 t v) else X
def bf_ext (X Y : bf_X) : Prop := X.1 ≤ Y.1 ∧ (∀ i, i < X.1 → Y.2.1 i = X.2.1 i) ∧ ∀ t, X.2.2 t ≠ 0 → Y.2.2 t = X.2.2 t
theorem bf_ext.rf (X : bf_X) : bf_ext X X := ⟨Nat.le_refl _, fun _ _ => rfl, fun _ _ => rfl⟩
theorem bf_ext.tr {X Y Z : bf_X} (h : bf_ext X Y) (k : bf_ext Y Z) : bf_ext X Z := ⟨Nat.le_trans h.1 k.1, fun i hi => (k.2.1 i (Nat.lt_of_lt_of_le hi h.1)).trans (h.2.1 i hi), fun t ht => (k.2.2 t (by rw [h.2.2 t ht]; exact ht)).trans (h.2.2 t ht)⟩
theorem bf_J_enq {N : Nat} {E : Nat → Nat → Prop} {s h : Nat} {X : bf_X} (H : bf_J N E s h X) (hh : h < X.1) {t : Nat} (ht : t < N) (hE : E (X.2.1 h) t) : bf_J N E s h (bf_enq X t (X.2.2 (X.2.1 h) + 1)) ∧ bf_ext X (bf_enq X t (X.2.2 (X.2.1 h) + 1)) ∧ (bf_enq X t (X.2.2 (X.2.1 h) + 1)).2.2 t ≠ 0 := by
  unfold bf_enq
  by_cases h0 : X.2.2 t = 0
  · rw [if_pos h0]
    obtain ⟨⟨a1, a2, a3, a4⟩, b, c, d, e, f, g, p, cl⟩ := H
    obtain ⟨R, q, F⟩ := X
    dsimp only at *
    have hv : F (q h) + 1 ≠ 0 := by omega
    have hqi : ∀ i, i < R → q i ≠ t := fun i hi e => (b i hi).2.1 (by rw [e]; exact h0)
    have kq : ∀ i, i < R → bf_u q R t i = q i := fun i hi => by simp [bf_u, Nat.ne_of_lt hi]
    have kR : bf_u q R t R = t := by simp [bf_u]
    have kF : ∀ u, F u ≠ 0 → bf_u F t (F (q h) + 1) u = F u := fun u hu => by
      have : u ≠ t := fun e => hu (by rw [e]; exact h0)
      simp [bf_u, this]
    have kt : bf_u F t (F (q h) + 1) t = F (q h) + 1 := by simp [bf_u]
    have kz : ∀ u, bf_u F t (F (q h) + 1) u ≠ 0 → u = t ∨ F u ≠ 0 := fun u hu => by
      by_cases e : u = t
      · exact Or.inl e
      · exact Or.inr (by simpa [bf_u, e] using hu)
    have kFq : ∀ i, i < R → bf_u F t (F (q h) + 1) (q i) = F (q i) := fun i hi => kF _ (b i hi).2.1
    have main : bf_Jc N E s h (R + 1) (bf_u q R t) (bf_u F t (F (q h) + 1)) := by
     refine ⟨⟨by omega, by rw [kq 0 (by omega)]; exact a2, by rw [kF s (by omega)]; exact a3, a4⟩, fun i hi => ?_, fun u hu hu0 => ?_, ?_, fun i j hij hj => ?_, by omega, fun _ j hj => ?_, fun u hu hu0 => ?_, fun i hi u hu hEu => ?_⟩
     · by_cases e : i = R
       · subst e; rw [kR, kt]; exact ⟨ht, hv, by have := (b h hh).2.2; omega⟩
       · rw [kq i (by omega), kFq i (by omega)]; exact b i (by omega)
     · rcases kz u hu0 with e | e
       · exact ⟨R, by omega, by rw [kR]; exact e.symm⟩
       · obtain ⟨i, hi, e2⟩ := c u hu e
         exact ⟨i, by omega, by rw [kq i hi]; exact e2⟩
     · rw [bf_cnt_u F h0 hv N ht, d]
     · by_cases e1 : j = R
       · subst e1
         rw [kR, kt]
         by_cases e2 : i = j
         · subst e2; rw [kR, kt]; exact Nat.le_refl _
         · rw [kq i (by omega), kFq i (by omega)]; exact g hh i (by omega)
       · rw [kq i (by omega), kFq i (by omega), kq j (by omega), kFq j (by omega)]; exact e i j hij (by omega)
     · rw [kq h hh, kFq h hh]
       by_cases e1 : j = R
       · subst e1; rw [kR, kt]; exact Nat.le_refl _
       · rw [kq j (by omega), kFq j (by omega)]; exact g hh j (by omega)
     · rcases kz u hu0 with e1 | e1
       · subst e1
         exact Or.inr ⟨q h, (b h hh).1, by rw [kFq h hh]; exact (b h hh).2.1, by rw [kt, kFq h hh], hE⟩
       · rw [kF u e1]
         rcases p u hu e1 with p1 | ⟨w, w1, w2, w3, w4⟩
         · exact Or.inl p1
         · exact Or.inr ⟨w, w1, by rw [kF w w2]; exact w2, by rw [kF w w2]; exact w3, w4⟩
     · rw [kq i (by omega)] at hEu ⊢
       rw [kFq i (by omega)]
       obtain ⟨c1, c2⟩ := cl i hi u hu hEu
       rw [kF u c1]
       exact ⟨c1, c2⟩
    exact ⟨main, ⟨by show R ≤ R + 1; omega, kq, kF⟩, by show bf_u F t (F (q h) + 1) t ≠ 0; rw [kt]; exact hv⟩
  · rw [if_neg h0]
    exact ⟨H, bf_ext.rf X, h0⟩
theorem bf_J_next {N : Nat} {E : Nat → Nat → Prop} {s h : Nat} {X : bf_X} (H : bf_J N E s h X) (hh : h < X.1) (hc : ∀ t, t < N → E (X.2.1 h) t → X.2.2 t ≠ 0) : bf_J N E s (h + 1) X := by
  obtain ⟨a, b, c, d, e, f, g, p, cl⟩ := H
  refine ⟨a, b, c, d, e, hh, fun h1 j hj => ?_, p, fun i hi t ht hE => ?_⟩
  · have h2 := g hh j hj
    have h3 := e h (h + 1) (by omega) h1
    omega
  · by_cases e1 : i = h
    · subst e1
      have h0 := hc t ht hE
      obtain ⟨j, hj, e2⟩ := c t ht h0
      exact ⟨h0, by rw [← e2]; exact g hh j hj⟩
    · exact cl i (by omega) t ht hE
/-- the lengths of the shortest ways from s -/
def bf_D (N : Nat) (E : Nat → Nat → Prop) (s : Nat) (f : Nat → Nat) : Prop := f s = 1 ∧ (∀ t, t < N → f t ≠ 0 → (t = s ∧ f t = 1) ∨ ∃ u, u < N ∧ f u ≠ 0 ∧ f t = f u + 1 ∧ E u t) ∧ (∀ u t, u < N → t < N → f u ≠ 0 → E u t → f t ≠ 0 ∧ f t ≤ f u + 1) ∧ ∀ t, t < N → f t ≤ N
theorem bf_J_end {N : Nat} {E : Nat → Nat → Prop} {s : Nat} {X : bf_X} (H : bf_J N E s X.1 X) : bf_D N E s X.2.2 := by
  obtain ⟨a, b, c, d, e, f, g, p, cl⟩ := H
  refine ⟨a.2.2.1, p, fun u t hu ht h0 hE => ?_, fun t ht => ?_⟩
  · obtain ⟨i, hi, e1⟩ := c u hu h0
    rw [← e1] at hE ⊢
    exact cl i hi t ht hE
  · by_cases h0 : X.2.2 t = 0
    · omega
    · obtain ⟨i, hi, e1⟩ := c t ht h0
      have h1 := (b i hi).2.2
      have h2 := bf_cnt_le X.2.2 N
      rw [e1] at h1
      omega
theorem bf_J_begin {N : Nat} {E : Nat → Nat → Prop} {s : Nat} (hs : s < N) : bf_J N E s 0 (1, fun _ => s, bf_u (fun _ => 0) s 1) := by
  have k : bf_u (fun _ => 0) s 1 s = 1 := by simp [bf_u]
  have kz : ∀ t, bf_u (fun _ => 0) s 1 t ≠ 0 → t = s := fun t h => by
    by_cases e : t = s
    · exact e
    · simp [bf_u, e] at h
  have main : bf_Jc N E s 0 1 (fun _ => s) (bf_u (fun _ => 0) s 1) := by
    refine ⟨⟨Nat.le_refl _, rfl, k, hs⟩, fun i hi => ⟨hs, by rw [k]; decide, by rw [k]; omega⟩, fun t _ h => ⟨0, by omega, (kz t h).symm⟩, ?_, fun i j _ _ => Nat.le_refl _, by omega, fun _ j _ => Nat.le_succ _, fun t _ h => Or.inl ⟨kz t h, by rw [kz t h]; exact k⟩, fun i hi => absurd hi (Nat.not_lt_zero _)⟩
    rw [bf_cnt_u _ rfl (by decide) N hs, bf_cnt_0]
  exact main
theorem bf_D_le {N : Nat} {E : Nat → Nat → Prop} {s : Nat} {f g : Nat → Nat} (hf : bf_D N E s f) (hg : bf_D N E s g) : ∀ (k t : Nat), t < N → f t = k + 1 → g t ≠ 0 ∧ g t ≤ k + 1 := by
  intro k
  induction k with
  | zero =>
    intro t ht e
    rcases hf.2.1 t ht (by omega) with h | ⟨u, u1, u2, u3, u4⟩
    · rw [h.1, hg.1]; exact ⟨by decide, Nat.le_refl _⟩
    · omega
  | succ k ih =>
    intro t ht e
    rcases hf.2.1 t ht (by omega) with h | ⟨u, u1, u2, u3, u4⟩
    · omega
    · obtain ⟨g1, g2⟩ := ih u u1 (by omega)
      obtain ⟨g3, g4⟩ := hg.2.2.1 u t u1 ht g1 u4
      exact ⟨g3, by omega⟩
theorem bf_D_uni {N : Nat} {E : Nat → Nat → Prop} {s : Nat} {f g : Nat → Nat} (hf : bf_D N E s f) (hg : bf_D N E s g) : ∀ t, t < N → f t = g t := by
  intro t ht
  rcases Nat.eq_zero_or_pos (f t) with h | h
  · rcases Nat.eq_zero_or_pos (g t) with h2 | h2
    · omega
    · have := (bf_D_le hg hf (g t - 1) t ht (by omega)).1
      omega
  · have h1 := bf_D_le hf hg (f t - 1) t ht (by omega)
    have h2 := bf_D_le hg hf (g t - 1) t ht (by omega)
    omega

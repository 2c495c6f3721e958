/-! THE PARSE, purely: a part of a scale as one number e, scale e / 4, part e % 4 -/
section SP15
variable {B : sp_B} {b : Nat → Int32}
def pt_V (B : sp_B) (e : Nat) : Prop := e < 96 * sp_nm B ∧ e % 4 < sp_pn B (e / 4)
def pt_K (B : sp_B) (b : Nat → Int32) (k e : Nat) : Prop := pt_V B e ∧ sp_in B (e / 4) (e % 4) (b k).toNatClampNeg = true
def pt_c (e f q : Nat) : Nat := (if q = e % 4 then 0 else 1) + (if e / 4 = f / 4 then 0 else 10)
/-- from e to f at c -/
def pt_T (B : sp_B) (e f c : Nat) : Prop := ∃ q, sp_sp B (f / 4) (f % 4) (e / 4) = some q ∧ c = pt_c e f q
/-- from note k in e, m notes more, at w in all -/
def pt_P (B : sp_B) (b : Nat → Int32) : Nat → Nat → Nat → Nat → Prop
  | 0, k, e, w => pt_K B b k e ∧ w = 0
  | m + 1, k, e, w => pt_K B b k e ∧ ∃ f c w', pt_T B e f c ∧ pt_P B b m (k + 1) f w' ∧ w = c + w'
/-- v: the least of S, or not below C -/
def pt_A (C : Nat) (S : Nat → Prop) (v : Nat) : Prop := (v < C → S v) ∧ ∀ w, S w → v ≤ w
theorem pt_A.or {C v v' : Nat} {S S' : Nat → Prop} (h : pt_A C S v) (h' : pt_A C S' v') : pt_A C (fun w => S w ∨ S' w) (if v' < v then v' else v) := by
  by_cases e : v' < v
  · rw [if_pos e]
    refine ⟨fun q => Or.inr (h'.1 q), fun w hw => ?_⟩
    rcases hw with hw | hw
    · have := h.2 w hw; omega
    · exact h'.2 w hw
  · rw [if_neg e]
    refine ⟨fun q => Or.inl (h.1 q), fun w hw => ?_⟩
    rcases hw with hw | hw
    · exact h.2 w hw
    · have := h'.2 w hw; omega
theorem pt_A.add {C v : Nat} {S : Nat → Prop} (h : pt_A C S v) (c : Nat) : pt_A C (fun w => ∃ w', S w' ∧ w = w' + c) (v + c) := by
  refine ⟨fun q => ⟨v, h.1 (by omega), rfl⟩, ?_⟩
  rintro w ⟨w', h1, h2⟩
  have := h.2 w' h1
  omega
theorem pt_A.iff {C v : Nat} {S S' : Nat → Prop} (h : pt_A C S v) (e : ∀ w, S w ↔ S' w) : pt_A C S' v := ⟨fun q => (e v).mp (h.1 q), fun w hw => h.2 w ((e w).mpr hw)⟩
theorem pt_A.no {C : Nat} {S : Nat → Prop} (h : ∀ w, ¬ S w) : pt_A C S C := ⟨fun q => absurd q (Nat.lt_irrefl _), fun w hw => absurd hw (h w)⟩
theorem pt_A.uni {C C' v v' : Nat} {S : Nat → Prop} (h : pt_A C S v) (h' : pt_A C' S v') (e : v < C) (e' : v' < C') : v = v' := by
  have a := h.2 v' (h'.1 e')
  have c := h'.2 v (h.1 e)
  omega
theorem sp_ph_lt (hw : sp_wf B) {m : Nat} (hm : m < sp_nm B) : ∀ j i, i < j → j < B.2.2.2.2.1 m → B.2.2.2.2.2.2 m i < B.2.2.2.2.2.2 m j := by
  intro j
  induction j with
  | zero => intro i hi; omega
  | succ j ih =>
    intro i hi hj
    obtain ⟨-, -, -, h4, h5⟩ := hw.2.2.2 m hm
    obtain ⟨g, -, e⟩ := h5 j hj
    have hc := h4 j (by omega)
    obtain ⟨c1, -, c3⟩ := hw.2.1 _ hc
    have m1 := sp_ht_mono B (B.2.2.2.2.2.1 m j) (B.2.1 (B.2.2.2.2.2.1 m j)) 1 c1
    have m2 : sp_ht B (B.2.2.2.2.2.1 m j) 1 = 0 + B.2.2.1 (B.2.2.2.2.2.1 m j) 0 := rfl
    have m3 := (c3 0 (by omega)).1
    by_cases e2 : i = j
    · subst e2; omega
    · have := ih i (by omega) (by omega)
      omega
theorem sp_pi_inj (hw : sp_wf B) {t : Nat} (ht : t < 24 * sp_nm B) {p q : Nat} (hp : p < sp_pn B t) (hq : q < sp_pn B t) (e : sp_pi B t p = sp_pi B t q) : p = q := by
  have hm := (sp_sc hw ht).1
  unfold sp_pi at e
  rcases Nat.lt_trichotomy p q with h | h | h
  · have := sp_ph_lt hw hm q p h hq; omega
  · exact h
  · have := sp_ph_lt hw hm p q h hp; omega
theorem sp_sp_iff (hw : sp_wf B) {s k t q : Nat} (ht : t < 24 * sp_nm B) : sp_sp B s k t = some q ↔ q < sp_pn B t ∧ sp_pl B t q = sp_pl B s k ∧ sp_pi B t q = sp_pi B s k := by
  have sm : ∀ p, sp_same B s k t p = true ↔ sp_pl B t p = sp_pl B s k ∧ sp_pi B t p = sp_pi B s k := fun p => by simp only [sp_same, Bool.and_eq_true, beq_iff_eq]
  constructor
  · intro h
    obtain ⟨-, h2, h3⟩ := sp_fs_some _ _ _ h
    exact ⟨by omega, (sm q).mp h3⟩
  · rintro ⟨h1, h2⟩
    cases e : sp_sp B s k t with
    | none =>
      have := sp_fs_none _ _ e q (Nat.zero_le _) (by omega)
      rw [(sm q).mpr h2] at this
      cases this
    | some p =>
      obtain ⟨-, g2, g3⟩ := sp_fs_some _ _ _ e
      have g4 := (sm p).mp g3
      rw [sp_pi_inj hw ht (p := p) (q := q) (by omega) h1 (by omega)]
theorem pt_c_le (e f q : Nat) : pt_c e f q ≤ 11 := by
  unfold pt_c
  split <;> split <;> omega
theorem pt_T_le {e f c : Nat} (h : pt_T B e f c) : c ≤ 11 := by
  obtain ⟨q, -, rfl⟩ := h
  exact pt_c_le _ _ _
theorem pt_T_uni {e f c c' : Nat} (h : pt_T B e f c) (h' : pt_T B e f c') : c = c' := by
  obtain ⟨q, h1, rfl⟩ := h
  obtain ⟨q', h1', rfl⟩ := h'
  rw [h1] at h1'
  cases h1'
  rfl
theorem pt_P_le : ∀ {m k e w : Nat}, pt_P B b m k e w → w ≤ 11 * m := by
  intro m
  induction m with
  | zero => intro k e w h; rw [h.2]; omega
  | succ m ih =>
    rintro k e w ⟨-, f, c, w', h1, h2, h3⟩
    have := pt_T_le h1
    have := ih h2
    omega
theorem pt_P_K {m k e w : Nat} (h : pt_P B b m k e w) : pt_K B b k e := by
  cases m with
  | zero => exact h.1
  | succ m => exact h.1
theorem pt_V_sc {e : Nat} (h : pt_V B e) : e / 4 < 24 * sp_nm B := by have := h.1; omega
theorem pt_V_mk {s k : Nat} (hw : sp_wf B) (hs : s < 24 * sp_nm B) (hk : k < sp_pn B s) : pt_V B (4 * s + k) ∧ (4 * s + k) / 4 = s ∧ (4 * s + k) % 4 = k := by
  have h4 := (sp_sc hw hs).2.2.2.1
  have e1 : (4 * s + k) / 4 = s := by omega
  have e2 : (4 * s + k) % 4 = k := by omega
  refine ⟨⟨by omega, ?_⟩, e1, e2⟩
  rw [e1, e2]
  exact hk
/-- forward: one may be in e at note k -/
def pt_H (B : sp_B) (b : Nat → Int32) : Nat → Nat → Prop
  | 0, e => pt_K B b 0 e
  | k + 1, e => pt_K B b (k + 1) e ∧ ∃ f c, pt_H B b k f ∧ pt_T B f e c
theorem pt_H_P : ∀ {k m f w : Nat}, pt_H B b k f → pt_P B b m k f w → ∃ e w', pt_P B b (k + m) 0 e w' := by
  intro k
  induction k with
  | zero => intro m f w _ h; rw [Nat.zero_add]; exact ⟨f, w, h⟩
  | succ k ih =>
    rintro m f w ⟨-, g, c, h1, h2⟩ hP
    have hk : pt_K B b k g := by
      cases k with
      | zero => exact h1
      | succ k => exact h1.1
    obtain ⟨e, w', h⟩ := ih (m := m + 1) h1 ⟨hk, f, c, w, h2, hP, rfl⟩
    rw [show k + 1 + m = k + (m + 1) by omega]
    exact ⟨e, w', h⟩
theorem pt_P_H : ∀ {m k e w : Nat}, pt_H B b k e → pt_P B b m k e w → ∃ f, pt_H B b (k + m) f := by
  intro m
  induction m with
  | zero => intro k e w h _; exact ⟨e, h⟩
  | succ m ih =>
    rintro k e w h ⟨-, f, c, w', h1, h2, -⟩
    obtain ⟨g, hg⟩ := ih (k := k + 1) (e := f) ⟨pt_P_K h2, e, c, h, h1⟩ h2
    rw [show k + (m + 1) = k + 1 + m by omega]
    exact ⟨g, hg⟩
theorem pt_H_iff (k : Nat) : (∃ e, pt_H B b k e) ↔ ∃ e w, pt_P B b k 0 e w := by
  constructor
  · rintro ⟨e, h⟩
    have hk : pt_K B b k e := by
      cases k with
      | zero => exact h
      | succ k => exact h.1
    have := pt_H_P (m := 0) (w := 0) h ⟨hk, rfl⟩
    rw [Nat.add_zero] at this
    exact this
  · rintro ⟨e, w, h⟩
    have := pt_P_H (k := 0) (e := e) (pt_P_K h) h
    rw [Nat.zero_add] at this
    exact this
theorem pt_H_down {k e : Nat} (h : pt_H B b (k + 1) e) : ∃ f, pt_H B b k f := by
  obtain ⟨-, f, c, h1, -⟩ := h
  exact ⟨f, h1⟩
/-- how far the tune of n notes has a parse -/
def pt_Z (B : sp_B) (b : Nat → Int32) (n r : Nat) : Prop := r ≤ n ∧ (r = 0 ∨ ∃ e w, pt_P B b (r - 1) 0 e w) ∧ ∀ r', r < r' → r' ≤ n → ¬ ∃ e w, pt_P B b (r' - 1) 0 e w
theorem pt_Z_uni {n r r' : Nat} (h : pt_Z B b n r) (h' : pt_Z B b n r') : r = r' := by
  rcases Nat.lt_trichotomy r r' with q | q | q
  · rcases h'.2.1 with z | z
    · omega
    · exact absurd z (h.2.2 r' q h'.1)
  · exact q
  · rcases h.2.1 with z | z
    · omega
    · exact absurd z (h'.2.2 r q h.1)
/-- the first spot, and the next one -/
def pt_F (B : sp_B) (b : Nat → Int32) (n f v : Nat) : Prop := pt_P B b (n - 1) 0 f v ∧ (∀ e w, pt_P B b (n - 1) 0 e w → v ≤ w) ∧ ∀ e, e < f → ¬ pt_P B b (n - 1) 0 e v
def pt_D (S : Nat → Prop) (v : Nat) : Prop := S v ∧ ∀ w, S w → v ≤ w
theorem pt_D.uni {S : Nat → Prop} {v v' : Nat} (h : pt_D S v) (h' : pt_D S v') : v = v' := by
  have a := h.2 v' h'.1
  have c := h'.2 v h.1
  omega
theorem pt_A.d {C v : Nat} {S : Nat → Prop} (h : pt_A C S v) (e : v < C) : pt_D S v := ⟨h.1 e, h.2⟩
theorem pt_A.dv {C v w : Nat} {S : Nat → Prop} (h : pt_A C S v) (d : pt_D S w) (e : w < C) : v = w := by
  have a := h.2 w d.1
  have c := d.2 v (h.1 (by omega))
  omega
/-- from e with v left to f -/
def pt_on (B : sp_B) (b : Nat → Int32) (n k e f v c : Nat) : Prop := ∃ w, pt_D (pt_P B b (n - 1 - k) k f) w ∧ pt_T B e f c ∧ c + w = v
def pt_X (B : sp_B) (b : Nat → Int32) (n k e f c : Nat) : Prop := ∃ v, pt_D (pt_P B b (n - k) (k - 1) e) v ∧ pt_on B b n k e f v c ∧ ∀ g, g < f → ∀ d, ¬ pt_on B b n k e g v d
theorem pt_F_uni {n f f' v v' : Nat} (h : pt_F B b n f v) (h' : pt_F B b n f' v') : f = f' ∧ v = v' := by
  have a := h.2.1 f' v' h'.1
  have c := h'.2.1 f v h.1
  have e : v = v' := by omega
  subst e
  refine ⟨?_, rfl⟩
  rcases Nat.lt_trichotomy f f' with q | q | q
  · exact absurd h.1 (h'.2.2 f q)
  · exact q
  · exact absurd h'.1 (h.2.2 f' q)
theorem pt_X_uni {n k e f f' c c' : Nat} (h : pt_X B b n k e f c) (h' : pt_X B b n k e f' c') : f = f' ∧ c = c' := by
  obtain ⟨v, h1, h2, h3⟩ := h
  obtain ⟨v', h1', h2', h3'⟩ := h'
  have e1 := h1.uni h1'
  subst e1
  have e2 : f = f' := by
    rcases Nat.lt_trichotomy f f' with q | q | q
    · exact absurd h2 (h3' f q c)
    · exact q
    · exact absurd h2' (h3 f' q c')
  subst e2
  obtain ⟨w, -, t, -⟩ := h2
  obtain ⟨w', -, t', -⟩ := h2'
  exact ⟨rfl, pt_T_uni t t'⟩
/-- the parse up to note j, its changes of scale and of part -/
def pt_Y (B : sp_B) (b : Nat → Int32) (n : Nat) (ch : Nat → Nat) : Nat → Nat → Nat → Prop
  | 0, x, y => x = 0 ∧ y = 0 ∧ ∃ v, pt_F B b n (ch 0) v
  | j + 1, x, y => ∃ c x' y', pt_Y B b n ch j x' y' ∧ pt_X B b n (j + 1) (ch j) (ch (j + 1)) c ∧ x = x' + c / 10 ∧ y = y' + c % 10
theorem pt_Y_uni {n : Nat} {ch ch' : Nat → Nat} : ∀ {j x y x' y' : Nat}, pt_Y B b n ch j x y → pt_Y B b n ch' j x' y' → (∀ i, i ≤ j → ch i = ch' i) ∧ x = x' ∧ y = y' := by
  intro j
  induction j with
  | zero =>
    rintro x y x' y' ⟨h1, h2, v, h3⟩ ⟨h1', h2', v', h3'⟩
    have := (pt_F_uni h3 h3').1
    refine ⟨fun i hi => ?_, by omega, by omega⟩
    have : i = 0 := by omega
    subst this
    assumption
  | succ j ih =>
    rintro x y x' y' ⟨c, a1, a2, h1, h2, h3, h4⟩ ⟨c', a1', a2', h1', h2', h3', h4'⟩
    obtain ⟨i1, i2, i3⟩ := ih h1 h1'
    rw [i1 j (Nat.le_refl _)] at h2
    obtain ⟨z1, z2⟩ := pt_X_uni h2 h2'
    subst z2
    refine ⟨fun i hi => ?_, by omega, by omega⟩
    by_cases e : i = j + 1
    · subst e; exact z1
    · exact i1 i (by omega)
theorem pt_Y_ext {n : Nat} {ch ch' : Nat → Nat} : ∀ {j x y : Nat}, (∀ i, i ≤ j → ch i = ch' i) → pt_Y B b n ch j x y → pt_Y B b n ch' j x y := by
  intro j
  induction j with
  | zero =>
    rintro x y he ⟨h1, h2, v, h3⟩
    refine ⟨h1, h2, v, ?_⟩
    rw [← he 0 (Nat.le_refl _)]; exact h3
  | succ j ih =>
    rintro x y he ⟨c, a1, a2, h1, h2, h3, h4⟩
    refine ⟨c, a1, a2, ih (fun i hi => he i (by omega)) h1, ?_, h3, h4⟩
    rw [← he j (by omega), ← he (j + 1) (Nat.le_refl _)]; exact h2
theorem pt_T_dig {e f c : Nat} (h : pt_T B e f c) : 10 * (c / 10) + c % 10 = c ∧ c / 10 ≤ 1 ∧ c % 10 ≤ 1 := by
  obtain ⟨q, -, rfl⟩ := h
  unfold pt_c
  split <;> split <;> omega
/-- what is left at note j -/
theorem pt_Y_cost {n : Nat} {ch : Nat → Nat} : ∀ {j x y : Nat}, j < n → pt_Y B b n ch j x y → x ≤ j ∧ y ≤ j ∧ ∃ v w, pt_F B b n (ch 0) v ∧ pt_D (pt_P B b (n - 1 - j) j (ch j)) w ∧ v = 10 * x + y + w := by
  intro j
  induction j with
  | zero =>
    rintro x y hj ⟨h1, h2, v, h3⟩
    refine ⟨by omega, by omega, v, v, h3, ⟨h3.1, fun w hw => h3.2.1 _ w hw⟩, by omega⟩
  | succ j ih =>
    rintro x y hj ⟨c, a1, a2, h1, h2, h3, h4⟩
    obtain ⟨i1, i2, v, w, i3, i4, i5⟩ := ih (by omega) h1
    obtain ⟨v', k1, ⟨w', k2, k3, k4⟩, -⟩ := h2
    rw [show n - (j + 1) = n - 1 - j by omega, show j + 1 - 1 = j by omega] at k1
    have := k1.uni i4
    have d := pt_T_dig k3
    exact ⟨by omega, by omega, v, w', i3, k2, by omega⟩
end SP15

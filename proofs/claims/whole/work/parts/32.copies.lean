/-! the loops that copy rows; remember, undo, keep, back -/
def sp_cp (M : gl_N) (d s o o' k n : Nat) : gl_N := gl_u1 M d (fun q => if o + k ≤ q ∧ q < o + n then M s (o' + (q - o)) else M d q)
theorem sp_cp_end (M : gl_N) (d s o o' n : Nat) : sp_cp M d s o o' n n = M := by
  funext a
  by_cases ha : a = d
  · subst ha
    funext q
    simp only [sp_cp, gl_u1, if_true]
    rw [if_neg (by omega)]
  · simp [sp_cp, gl_u1, ha]
theorem sp_cp_step (M : gl_N) {d s o o' k n : Nat} (hs : s ≠ d) (hk : k < n) : sp_cp (gl_u2 M d (o + k) (M s (o' + k))) d s o o' (k + 1) n = sp_cp M d s o o' k n := by
  funext a
  by_cases ha : a = d
  · subst ha
    funext q
    simp only [sp_cp, gl_u2, gl_u1, if_true, if_neg hs, upd]
    by_cases e : q = o + k
    · rw [if_neg (by omega), if_pos e, if_pos (by omega), e]
      congr 1
      omega
    · by_cases e2 : o + k ≤ q ∧ q < o + n
      · rw [if_pos e2, if_pos (by omega)]
      · rw [if_neg e2, if_neg (by omega), if_neg e]
  · simp [sp_cp, gl_u2, gl_u1, ha]
theorem sp_cp_off (M : gl_N) {d s o o' k n a : Nat} (h : a ≠ d) : sp_cp M d s o o' k n a = M a := by simp [sp_cp, gl_u1, h]
theorem sp_mul (a b : Nat) : nI a * nI b = nI (a * b) := (Int32.ofNat_mul a b).symm
/-- past rows move down by one -/
def sp_dn (M : gl_N) (k : Nat) : gl_N := gl_u1 M 49 (fun q => if k ≤ q ∧ q < 153 then M 49 (q + 17) else M 49 q)
theorem sp_dn_step (M : gl_N) {k : Nat} (hk : k < 153) : sp_dn (gl_u2 M 49 k (M 49 (k + 17))) (k + 1) = sp_dn M k := by
  funext a
  by_cases ha : a = 49
  · subst ha
    funext q
    simp only [sp_dn, gl_u2, gl_u1, if_true, upd]
    by_cases e : q = k
    · rw [if_neg (by omega), if_pos e, if_pos (by omega), e]
    · by_cases e2 : k ≤ q ∧ q < 153
      · rw [if_pos e2, if_pos (by omega), if_neg (by omega)]
      · rw [if_neg e2, if_neg (by omega), if_neg e]
  · simp [sp_dn, gl_u2, gl_u1, ha]
theorem sp_dn_end (M : gl_N) : sp_dn M 153 = M := by
  funext a
  by_cases ha : a = 49
  · subst ha
    funext q
    simp only [sp_dn, gl_u1, if_true]
    rw [if_neg (by omega)]
  · simp [sp_dn, gl_u1, ha]
section SP4
variable {l : Launch} {sc : Nat × (Nat → Int32)} {Q : Option Value → gl_N → Prop}
theorem sp_le_lit {k N : Nat} (hk : k ≤ 100000) (hN : N ≤ 100000) (h : k < N) : ¬ nI N ≤ nI k := fun q => absurd ((sp_le hN hk).mp q) (by omega)
theorem r_keep_loop {i : Nat} (hi : i < 2) : ∀ (r k : Nat) (M : gl_N), k + r = 17 → Q (some (.int (M 48 0))) (gl_u2 (sp_cp M 50 48 (17 * i) 0 k 17) 51 i 1) → gv l sc m_X11_keep 18 [.ref 42, .int (nI i), .int (nI k)] [] M Q := by
  intro r
  induction r with
  | zero =>
    intro k M hk K
    have : k = 17 := by omega
    subst this
    rw [sp_cp_end] at K
    refine w_X11_keep_18 l sc M Q _ _ ⟨fun _ => ⟨sp_vp hi (by omega), ?_⟩, fun h => absurd (show nI 17 ≤ nI 17 from Int32.le_refl _) h⟩
    rw [sp_cl (by omega)]
    exact K
  | succ r ih =>
    intro k M hk K
    refine w_X11_keep_18 l sc M Q _ _ ⟨fun h => absurd h (sp_le_lit (N := 17) (by omega) (by omega) (by omega)), fun _ => ?_⟩
    have e1 : (17 : Int32) * nI i + nI k = nI (17 * i + k) := by rw [show (17 : Int32) = nI 17 from rfl, sp_mul, nI_add]
    rw [e1, sp_cl (n := k) (by omega), sp_cl (n := 17 * i + k) (by omega), nI_1]
    refine ⟨⟨sp_vp (by omega) (by omega), sp_vp (by omega) (by omega)⟩, ih (k + 1) _ (by omega) ?_⟩
    have := sp_cp_step M (d := 50) (s := 48) (o := 17 * i) (o' := 0) (k := k) (n := 17) (by omega) (by omega)
    rw [Nat.zero_add] at this
    rw [this]
    exact K
theorem r_back_loop {i : Nat} (hi : i < 2) : ∀ (r k : Nat) (M : gl_N), k + r = 17 → Q (some (.int (sp_cp M 48 50 0 (17 * i) k 17 48 0))) (gl_u2 (sp_cp M 48 50 0 (17 * i) k 17) 42 12 0) → gv l sc m_X11_back 30 [.ref 42, .int (nI i), .int (nI k)] [] M Q := by
  intro r
  induction r with
  | zero =>
    intro k M hk K
    have : k = 17 := by omega
    subst this
    rw [sp_cp_end] at K
    exact w_X11_back_30 l sc M Q _ _ ⟨fun _ => K, fun h => absurd (show nI 17 ≤ nI 17 from Int32.le_refl _) h⟩
  | succ r ih =>
    intro k M hk K
    refine w_X11_back_30 l sc M Q _ _ ⟨fun h => absurd h (sp_le_lit (N := 17) (by omega) (by omega) (by omega)), fun _ => ?_⟩
    have e1 : (17 : Int32) * nI i + nI k = nI (17 * i + k) := by rw [show (17 : Int32) = nI 17 from rfl, sp_mul, nI_add]
    rw [e1, sp_cl (n := k) (by omega), sp_cl (n := 17 * i + k) (by omega), nI_1]
    refine ⟨⟨sp_vp (by omega) (by omega), sp_vp (by omega) (by omega)⟩, ih (k + 1) _ (by omega) ?_⟩
    have := sp_cp_step M (d := 48) (s := 50) (o := 0) (o' := 17 * i) (k := k) (n := 17) (by omega) (by omega)
    rw [Nat.zero_add] at this
    rw [this]
    exact K
theorem r_undo_loop {u : Nat} (hu : u < 10) : ∀ (r k : Nat) (M : gl_N), M 42 12 = nI u → k + r = 17 → Q (some (.int (nI u))) (sp_cp M 48 49 0 (17 * u) k 17) → gv l sc m_X11_undo 27 [.ref 42, .int (nI k)] [] M Q := by
  intro r
  induction r with
  | zero =>
    intro k M hM hk K
    have : k = 17 := by omega
    subst this
    rw [sp_cp_end] at K
    refine w_X11_undo_27 l sc M Q _ ⟨fun _ => ?_, fun h => absurd (show nI 17 ≤ nI 17 from Int32.le_refl _) h⟩
    rw [hM]
    exact K
  | succ r ih =>
    intro k M hM hk K
    refine w_X11_undo_27 l sc M Q _ ⟨fun h => absurd h (sp_le_lit (N := 17) (by omega) (by omega) (by omega)), fun _ => ?_⟩
    have e1 : (17 : Int32) * M 42 12 + nI k = nI (17 * u + k) := by rw [hM, show (17 : Int32) = nI 17 from rfl, sp_mul, nI_add]
    rw [e1, sp_cl (n := k) (by omega), sp_cl (n := 17 * u + k) (by omega), nI_1]
    refine ⟨⟨sp_vp (by omega) (by omega), sp_vp (by omega) (by omega)⟩, ih (k + 1) _ hM (by omega) ?_⟩
    have := sp_cp_step M (d := 48) (s := 49) (o := 0) (o' := 17 * u) (k := k) (n := 17) (by omega) (by omega)
    rw [Nat.zero_add] at this
    rw [this]
    exact K
theorem r_rem_loop {u : Nat} (hu : u < 10) : ∀ (r k : Nat) (M : gl_N), M 42 12 = nI u → k + r = 17 → Q none (gl_u2 (sp_cp M 49 48 (17 * u) 0 k 17) 42 12 (nI (u + 1))) → gv l sc m_X11_remembers 51 [.ref 42, .int (nI k)] [] M Q := by
  intro r
  induction r with
  | zero =>
    intro k M hM hk K
    have : k = 17 := by omega
    subst this
    rw [sp_cp_end] at K
    refine w_X11_remembers_51 l sc M Q _ ⟨fun _ => ?_, fun h => absurd (show nI 17 ≤ nI 17 from Int32.le_refl _) h⟩
    rw [hM, nI_1]
    exact K
  | succ r ih =>
    intro k M hM hk K
    refine w_X11_remembers_51 l sc M Q _ ⟨fun h => absurd h (sp_le_lit (N := 17) (by omega) (by omega) (by omega)), fun _ => ?_⟩
    have e1 : (17 : Int32) * M 42 12 + nI k = nI (17 * u + k) := by rw [hM, show (17 : Int32) = nI 17 from rfl, sp_mul, nI_add]
    rw [e1, sp_cl (n := k) (by omega), sp_cl (n := 17 * u + k) (by omega), nI_1]
    refine ⟨⟨sp_vp (by omega) (by omega), sp_vp (by omega) (by omega)⟩, ih (k + 1) _ hM (by omega) ?_⟩
    have := sp_cp_step M (d := 49) (s := 48) (o := 17 * u) (o' := 0) (k := k) (n := 17) (by omega) (by omega)
    rw [Nat.zero_add] at this
    rw [this]
    exact K
theorem r_dn_loop : ∀ (r k : Nat) (M : gl_N), k + r = 153 → gv l sc m_X11_remembers 51 [.ref 42, .int 0] [] (gl_u2 (sp_dn M k) 42 12 (M 42 12 - 1)) Q → gv l sc m_X11_remembers 11 [.ref 42, .int (nI k)] [] M Q := by
  intro r
  induction r with
  | zero =>
    intro k M hk K
    have : k = 153 := by omega
    subst this
    rw [sp_dn_end] at K
    exact w_X11_remembers_11 l sc M Q _ ⟨fun _ => K, fun h => absurd (show nI 153 ≤ nI 153 from Int32.le_refl _) h⟩
  | succ r ih =>
    intro k M hk K
    refine w_X11_remembers_11 l sc M Q _ ⟨fun h => absurd h (sp_le_lit (N := 153) (by omega) (by omega) (by omega)), fun _ => ?_⟩
    have e1 : nI k + (17 : Int32) = nI (k + 17) := nI_add k 17
    rw [e1, sp_cl (n := k) (by omega), sp_cl (n := k + 17) (by omega), nI_1]
    refine ⟨⟨sp_vp (by omega) (by omega), sp_vp (by omega) (by omega)⟩, ih (k + 1) _ (by omega) ?_⟩
    rw [sp_dn_step M (by omega)]
    exact K
/-- the past with one tune more -/
def sp_pp (v : Nat) (p : Nat → Nat × (Nat → Int32)) (n : Nat) (b : Nat → Int32) : Nat × (Nat → Nat × (Nat → Int32)) := if v = 10 then (10, fun i => if i = 9 then (n, b) else p (i + 1)) else (v + 1, fun i => if i = v then (n, b) else p i)
theorem sp_pp_ok {v : Nat} {p : Nat → Nat × (Nat → Int32)} {n : Nat} {b : Nat → Int32} (h : sp_pk v p) (hn : n ≤ 16) (hb : ∀ j, j < n → sp_nt (b j)) : sp_pk (sp_pp v p n b).1 (sp_pp v p n b).2 := by
  obtain ⟨h1, h2⟩ := h
  unfold sp_pp
  by_cases hv : v = 10
  · rw [if_pos hv]
    refine ⟨Nat.le_refl _, fun i hi => ?_⟩
    by_cases e : i = 9
    · simp only [if_pos e]; exact ⟨hn, hb⟩
    · simp only [if_neg e]
      have : i < 10 := hi
      exact h2 (i + 1) (by omega)
  · rw [if_neg hv]
    refine ⟨by show v + 1 ≤ 10; omega, fun i hi => ?_⟩
    have hi' : i < v + 1 := hi
    by_cases e : i = v
    · simp only [if_pos e]; exact ⟨hn, hb⟩
    · simp only [if_neg e]; exact h2 i (by omega)
theorem r_remR {M : gl_N} {v n : Nat} {p : Nat → Nat × (Nat → Int32)} {b : Nat → Int32} (hk : sp_pk v p) (hp : sp_pr (M 42 12) (M 49) v p) (hn : M 48 0 = nI n) (hb : ∀ j, j < n → M 48 (1 + j) = b j) (hn16 : n ≤ 16)
    (K : ∀ M1 : gl_N, (∀ a, a ≠ 42 → a ≠ 49 → M1 a = M a) → (∀ j, j ≠ 12 → M1 42 j = M 42 j) → sp_pr (M1 42 12) (M1 49) (sp_pp v p n b).1 (sp_pp v p n b).2 → Q none M1) : gr l sc m_X11_remembers [.ref 42] M Q := by
  obtain ⟨hu, hpa⟩ := hp
  have hv := hk.1
  refine e_X11_remembers l sc M Q ⟨fun h => ?_, fun h => ?_⟩
  · have hu' : ¬ v = 10 := fun e => h (by rw [hu, e]; rfl)
    refine r_rem_loop (u := v) (by omega) 17 0 M hu rfl (K _ (fun a h1 h2 => ?_) (fun j hj => ?_) ?_)
    · simp [gl_u2, gl_u1, h1, sp_cp, h2]
    · simp [gl_u2, gl_u1, upd, hj, sp_cp]
    · unfold sp_pp
      rw [if_neg hu']
      refine ⟨rfl, fun i hi => ?_⟩
      show (if 17 * v + 0 ≤ 17 * i ∧ 17 * i < 17 * v + 17 then M 48 (0 + (17 * i - 17 * v)) else M 49 (17 * i)) = _ ∧ ∀ j, _ → (if 17 * v + 0 ≤ 17 * i + 1 + j ∧ 17 * i + 1 + j < 17 * v + 17 then M 48 (0 + (17 * i + 1 + j - 17 * v)) else M 49 (17 * i + 1 + j)) = _
      have hi' : i < v + 1 := hi
      by_cases e : i = v
      · simp only [if_pos e]
        subst e
        refine ⟨?_, fun j hj => ?_⟩
        · rw [if_pos (by omega), show 0 + (17 * i - 17 * i) = 0 by omega]; exact hn
        · have hj : j < n := hj
          rw [if_pos (by omega), show 0 + (17 * i + 1 + j - 17 * i) = 1 + j by omega]; exact hb j hj
      · simp only [if_neg e]
        obtain ⟨g1, g2⟩ := hpa i (by omega)
        have g3 := (hk.2 i (by omega)).1
        refine ⟨by rw [if_neg (by omega)]; exact g1, fun j hj => ?_⟩
        rw [if_neg (by omega)]
        exact g2 j hj
  · have hu' : v = 10 := by rw [hu] at h; exact (sp_eq (N := 10) (by omega) (by omega)).mp h
    refine r_dn_loop 153 0 M rfl ?_
    have e : M 42 12 - 1 = nI 9 := by rw [hu, hu']; rfl
    rw [e]
    refine r_rem_loop (u := 9) (by omega) 17 0 _ rfl rfl (K _ (fun a h1 h2 => ?_) (fun j hj => ?_) ?_)
    · simp [gl_u2, gl_u1, h1, sp_cp, h2, sp_dn]
    · simp [gl_u2, gl_u1, upd, hj, sp_cp, sp_dn]
    · unfold sp_pp
      rw [if_pos hu']
      refine ⟨rfl, fun i hi => ?_⟩
      show (if 153 ≤ 17 * i ∧ 17 * i < 170 then M 48 (0 + (17 * i - 153)) else if 0 ≤ 17 * i ∧ 17 * i < 153 then M 49 (17 * i + 17) else M 49 (17 * i)) = _ ∧ ∀ j, _ → (if 153 ≤ 17 * i + 1 + j ∧ 17 * i + 1 + j < 170 then M 48 (0 + (17 * i + 1 + j - 153)) else if 0 ≤ 17 * i + 1 + j ∧ 17 * i + 1 + j < 153 then M 49 (17 * i + 1 + j + 17) else M 49 (17 * i + 1 + j)) = _
      have hi' : i < 10 := hi
      by_cases e : i = 9
      · simp only [if_pos e]
        subst e
        refine ⟨?_, fun j hj => ?_⟩
        · rw [if_pos (by omega)]; exact hn
        · have hj : j < n := hj
          rw [if_pos (by omega), show 0 + (17 * 9 + 1 + j - 153) = 1 + j by omega]; exact hb j hj
      · simp only [if_neg e]
        obtain ⟨g1, g2⟩ := hpa (i + 1) (by omega)
        have g3 := (hk.2 (i + 1) (by omega)).1
        refine ⟨by rw [if_neg (by omega), if_pos (by omega)]; exact g1, fun j hj => ?_⟩
        have hj : j < (p (i + 1)).1 := hj
        rw [if_neg (by omega), if_pos (by omega), show 17 * i + 1 + j + 17 = 17 * (i + 1) + 1 + j by omega]
        exact g2 j hj
theorem r_remC {M : gl_N} {v n : Nat} {p : Nat → Nat × (Nat → Int32)} (hk : sp_pk v p) (hp : sp_pc (M 22 1) (M 22 2) (M 24) (M 25) v p) (hn : M 20 1 = nI n) (hn16 : n ≤ 16)
    (K : ∀ M1 : gl_N, (∀ a, a ≠ 22 → a ≠ 24 → a ≠ 25 → M1 a = M a) → sp_pc (M1 22 1) (M1 22 2) (M1 24) (M1 25) (sp_pp v p n (M 21)).1 (sp_pp v p n (M 21)).2 → Q none M1) : gr l sc m_X2_remember [.ref 22, .ref 20] M Q := by
  obtain ⟨o, ho, eo, eu, hs⟩ := hp
  have hv := hk.1
  refine e_X2_remember l sc M Q ⟨fun h => ?_, fun h => ?_⟩
  · have hv' : v = 10 := by
      rw [eu] at h
      have := (sp_le (n := 10) (by omega) (by omega)).mp h
      omega
    have e1 : M 22 1 + 1 - (M 22 1 + 1) / 10 * 10 = nI ((o + 1) % 10) := by rw [eo, nI_1]; exact pk_rem (d := 10) (by omega) (by omega) (by omega)
    have e2 : nI ((o + 1) % 10) + M 22 2 - 1 = nI (o + 1 + 9 - (if o = 9 then 10 else 0)) := by
      rw [eu, nI_add, sp_sub1 (by omega)]
      congr 1
      split <;> omega
    have e3 : nI (o + 1 + 9 - (if o = 9 then 10 else 0)) - nI (o + 1 + 9 - (if o = 9 then 10 else 0)) / 10 * 10 = nI o := by
      have : nI (o + 1 + 9 - (if o = 9 then 10 else 0)) - nI (o + 1 + 9 - (if o = 9 then 10 else 0)) / 10 * 10 = nI ((o + 1 + 9 - (if o = 9 then 10 else 0)) % 10) := pk_rem (d := 10) (by omega) (by omega) (by omega)
      rw [this]
      congr 1
      split <;> omega
    rw [e1, e2, e3]
    refine e_X6_put_p l sc _ _ _ ?_
    have em : nI o * 16 = nI (o * 16) := sp_mul o 16
    have c1 : (gl_u2 M 22 1 (nI ((o + 1) % 10))) 20 1 = nI n := hn
    rw [em, c1, sp_cl (n := n) (by omega), sp_cl (n := o * 16) (by omega), sp_cl (n := o) (by omega)]
    refine ⟨⟨sp_vp ho (by omega), nI_pos (by omega), nI_pos (by omega), by omega, by omega⟩, rfl, K _ (fun a h1 h2 h3 => ?_) ?_⟩
    · simp [gl_u1, gl_u2, h1, h2, h3]
    · unfold sp_pp
      rw [if_pos hv']
      refine ⟨(o + 1) % 10, by omega, rfl, by show M 22 2 = nI 10; rw [eu, hv'], fun i hi => ?_⟩
      show upd (M 24) o (nI n) (((o + 1) % 10 + i) % 10) = _ ∧ ∀ j, _ → va_cpy (M 21) (M 25) 0 (o * 16) n (16 * (((o + 1) % 10 + i) % 10) + j) = _
      have hi' : i < 10 := hi
      have em : ((o + 1) % 10 + i) % 10 = (o + (i + 1)) % 10 := by omega
      rw [em]
      simp only [upd, va_cpy]
      by_cases e : i = 9
      · simp only [if_pos e]
        subst e
        rw [show (o + (9 + 1)) % 10 = o by omega]
        refine ⟨if_pos rfl, fun j hj => ?_⟩
        have hj : j < n := hj
        rw [if_pos (by omega)]
        congr 1
        omega
      · simp only [if_neg e]
        obtain ⟨g1, g2⟩ := hs (i + 1) (by omega)
        have g3 := (hk.2 (i + 1) (by omega)).1
        have hne : (o + (i + 1)) % 10 ≠ o := by omega
        refine ⟨by rw [if_neg hne]; exact g1, fun j hj => ?_⟩
        have hj : j < (p (i + 1)).1 := hj
        rw [if_neg (by omega)]
        exact g2 j hj
  · have hv' : ¬ v = 10 := by
      intro e
      rw [eu, e] at h
      exact h (Int32.le_refl _)
    have e1 : M 22 1 + (M 22 2 + 1) - 1 = nI (o + v) := by rw [eo, eu, nI_1, nI_add, sp_sub1 (by omega)]; congr 1
    have e3 : nI (o + v) - nI (o + v) / 10 * 10 = nI ((o + v) % 10) := pk_rem (d := 10) (by omega) (by omega) (by omega)
    rw [e1, e3]
    refine e_X6_put_p l sc _ _ _ ?_
    have em : nI ((o + v) % 10) * 16 = nI ((o + v) % 10 * 16) := sp_mul _ 16
    have c1 : (gl_u2 M 22 2 (M 22 2 + 1)) 20 1 = nI n := hn
    rw [em, c1, sp_cl (n := n) (by omega), sp_cl (n := (o + v) % 10 * 16) (by omega), sp_cl (n := (o + v) % 10) (by omega)]
    refine ⟨⟨sp_vp (by omega) (by omega), nI_pos (by omega), nI_pos (by omega), by omega, by omega⟩, rfl, K _ (fun a h1 h2 h3 => ?_) ?_⟩
    · simp [gl_u1, gl_u2, h1, h2, h3]
    · unfold sp_pp
      rw [if_neg hv']
      refine ⟨o, ho, eo, by show M 22 2 + 1 = nI (v + 1); rw [eu]; exact nI_1 v, fun i hi => ?_⟩
      show upd (M 24) ((o + v) % 10) (nI n) ((o + i) % 10) = _ ∧ ∀ j, _ → va_cpy (M 21) (M 25) 0 ((o + v) % 10 * 16) n (16 * ((o + i) % 10) + j) = _
      have hi' : i < v + 1 := hi
      simp only [upd, va_cpy]
      by_cases e : i = v
      · simp only [if_pos e]
        subst e
        refine ⟨if_pos rfl, fun j hj => ?_⟩
        have hj : j < n := hj
        rw [if_pos (by omega)]
        congr 1
        omega
      · simp only [if_neg e]
        obtain ⟨g1, g2⟩ := hs i (by omega)
        have g3 := (hk.2 i (by omega)).1
        have hne : (o + i) % 10 ≠ (o + v) % 10 := by omega
        refine ⟨by rw [if_neg hne]; exact g1, fun j hj => ?_⟩
        have hj : j < (p i).1 := hj
        rw [if_neg (by omega)]
        exact g2 j hj
end SP4

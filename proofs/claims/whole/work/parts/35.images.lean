section SP7
variable {WY : sp_WY} {PR : sp_PR} {l : Launch} {sc : Nat × (Nat → Int32)} {Q : Option Value → gl_N → Prop}
theorem s_keep (x : Int32) : sp_S WY PR l sc m_X10_keep m_X11_keep [.int x] := by
  rintro ch M hch hI
  obtain ⟨h1, ⟨n, hn, ha, hc, hj⟩, h3, h4, h5, h6, h7⟩ := id hI
  refine e_X10_keep l sc M _ x ?_
  refine r_within (fun c1 c2 => ⟨1, rfl, fun _ => ?_, fun h => absurd h (by decide)⟩) (fun c => ⟨0, rfl, fun h => absurd rfl h, fun _ => ?_⟩)
  · obtain ⟨i, hi, rfl⟩ : ∃ i : Nat, i < 2 ∧ x = nI i := by
      rcases sp_01 c1 c2 with e | e
      · exact ⟨0, by omega, e⟩
      · exact ⟨1, by omega, e⟩
    refine e_X6_put_i l sc M _ _ ?_
    have em : nI i * 16 = nI (i * 16) := sp_mul _ 16
    rw [em, ha, sp_cl (n := i) (by omega), sp_cl (n := i * 16) (by omega), sp_cl (n := n) (by omega)]
    refine ⟨⟨sp_vp (by omega) (by omega), nI_pos (by omega), nI_pos (by omega), by omega, by omega⟩, rfl, _, rfl, ?_⟩
    refine e_X11_keep l sc _ _ _ ?_
    refine r_in (fun _ _ => ⟨1, rfl, fun _ => ?_, fun h => absurd h (by decide)⟩) (fun c => absurd ⟨c1, c2⟩ c)
    refine r_keep_loop hi 17 0 _ rfl ⟨?_, h1, ⟨n, hn, ha, hc, hj⟩, h3, ?_, h5, h6.on, h7⟩
    · show some (Value.int (M 48 0)) = some (Value.int (M 20 1))
      rw [hc, ha]
    · intro k hk
      show (upd (M 27) i (nI n) k = -1 ∧ upd (M 51) i 1 k = 0) ∨ ∃ n' : Nat, n' ≤ 16 ∧ upd (M 27) i (nI n) k = nI n' ∧ upd (M 51) i 1 k = 1 ∧ (if 17 * i + 0 ≤ 17 * k ∧ 17 * k < 17 * i + 17 then M 48 (0 + (17 * k - 17 * i)) else M 50 (17 * k)) = nI n' ∧ ∀ j, j < n' → (if 17 * i + 0 ≤ 17 * k + 1 + j ∧ 17 * k + 1 + j < 17 * i + 17 then M 48 (0 + (17 * k + 1 + j - 17 * i)) else M 50 (17 * k + 1 + j)) = va_cpy (M 21) (M 28) 0 (i * 16) n (16 * k + j) ∧ sp_nt (va_cpy (M 21) (M 28) 0 (i * 16) n (16 * k + j))
      simp only [upd, va_cpy]
      by_cases e : k = i
      · subst e
        refine Or.inr ⟨n, hn, if_pos rfl, if_pos rfl, ?_, fun j hj' => ?_⟩
        · rw [if_pos (by omega), show 0 + (17 * k - 17 * k) = 0 by omega]; exact hc
        · rw [if_pos (by omega), if_pos (by omega), show 0 + (17 * k + 1 + j - 17 * k) = 1 + j by omega, show 0 + (16 * k + j - k * 16) = j by omega]
          exact hj j hj'
      · rw [if_neg e, if_neg e]
        rcases h4 k hk with g | ⟨n', g1, g2, g3, g4, g5⟩
        · exact Or.inl g
        · refine Or.inr ⟨n', g1, g2, g3, ?_, fun j hj' => ?_⟩
          · rw [if_neg (by omega)]; exact g4
          · rw [if_neg (by omega), if_neg (by omega)]; exact g5 j hj'
  · refine ⟨_, rfl, e_X11_keep l sc _ _ x ?_⟩
    exact r_in (fun c1 c2 => absurd ⟨c1, c2⟩ c) (fun c => ⟨0, rfl, fun h => absurd rfl h, fun _ => ⟨rfl, sp_I_0 hI⟩⟩)
theorem s_back (x : Int32) : sp_S WY PR l sc m_X10_back m_X11_back [.int x] := by
  rintro ch M hch hI
  obtain ⟨h1, h2, h3, h4, h5, h6, h7⟩ := id hI
  refine e_X10_back l sc M _ x ?_
  refine r_within (fun c1 c2 => ⟨1, rfl, fun _ => ?_, fun h => absurd h (by decide)⟩) (fun c => ⟨0, rfl, fun h => absurd rfl h, fun _ => ?_⟩)
  · obtain ⟨i, hi, rfl⟩ : ∃ i : Nat, i < 2 ∧ x = nI i := by
      rcases sp_01 c1 c2 with e | e
      · exact ⟨0, by omega, e⟩
      · exact ⟨1, by omega, e⟩
    refine e_X6_isKept l sc M _ _ ?_
    rw [sp_cl (n := i) (by omega)]
    refine ⟨sp_vp (by omega) (by omega), fun hm => ⟨0, rfl, fun h => absurd rfl h, fun _ => ?_⟩, fun hm => ⟨1, rfl, fun _ => ?_, fun h => absurd h (by decide)⟩⟩
    · have hk : M 51 i = 0 := by
        rcases h4 i hi with g | ⟨n', g1, g2, -⟩
        · exact g.2
        · exfalso
          rw [g2] at hm
          have := congrArg Int32.toInt hm
          rw [nI_toInt (by omega)] at this
          have e1 : (-1 : Int32).toInt = -1 := rfl
          omega
      refine ⟨_, rfl, e_X11_back l sc _ _ _ ?_⟩
      refine r_in (fun _ _ => ⟨1, rfl, fun _ => ?_, fun h => absurd h (by decide)⟩) (fun c => absurd ⟨c1, c2⟩ c)
      rw [sp_cl (n := i) (by omega)]
      exact ⟨sp_vp (by omega) (by omega), fun hne => absurd hk hne, fun _ => ⟨rfl, sp_I_0 hI⟩⟩
    · rcases h4 i hi with g | ⟨n', g1, g2, g3, g4, g5⟩
      · exact absurd g.1 hm
      refine e_X6_giveTo_i l sc M _ _ ?_
      have em : nI i * 16 = nI (i * 16) := sp_mul _ 16
      rw [em, sp_cl (n := i) (by omega), sp_cl (n := i * 16) (by omega), g2, sp_cl (n := n') (by omega)]
      refine ⟨⟨sp_vp (by omega) (by omega), nI_pos (by omega), nI_pos (by omega), by omega, by omega⟩, rfl, ?_⟩
      refine e_X2_dropAll l sc _ _ ⟨rfl, _, rfl, ?_⟩
      refine e_X11_back l sc _ _ _ ?_
      refine r_in (fun _ _ => ⟨1, rfl, fun _ => ?_, fun h => absurd h (by decide)⟩) (fun c => absurd ⟨c1, c2⟩ c)
      rw [sp_cl (n := i) (by omega)]
      refine ⟨sp_vp (by omega) (by omega), fun _ => ?_, fun he => ?_⟩
      · refine r_back_loop hi 17 0 _ rfl ⟨?_, sp_I_tc hch hI (fun a a1 a2 a3 a4 a5 a6 a7 a8 => ?_) (fun j j1 j2 => ?_) rfl ⟨n', g1, rfl, ?_, ?_⟩ ⟨0, fun _ => (0, fun _ => 0), ⟨by omega, fun i hi => absurd hi (Nat.not_lt_zero _)⟩, ⟨0, by omega, rfl, rfl, fun i hi => absurd hi (Nat.not_lt_zero _)⟩, rfl, fun i hi => absurd hi (Nat.not_lt_zero _)⟩⟩
        · show some (Value.int (if 0 + 0 ≤ 0 ∧ 0 < 0 + 17 then M 50 (17 * i + (0 - 0)) else M 48 0)) = some (Value.int (nI n'))
          rw [if_pos (by omega)]
          exact congrArg (fun t => some (Value.int t)) g4
        · simp [sp_cp, gl_u2, gl_u1, a1, a2, a3, a4, a5, a6, a7, a8]
        · show (if j = 12 then _ else if j = 0 then _ else M 42 j) = M 42 j
          rw [if_neg j2, if_neg j1]
        · show (if 0 + 0 ≤ 0 ∧ 0 < 0 + 17 then M 50 (17 * i + (0 - 0)) else M 48 0) = nI n'
          rw [if_pos (by omega)]
          exact g4
        · show ∀ j, j < n' → (if 0 + 0 ≤ 1 + j ∧ 1 + j < 0 + 17 then M 50 (17 * i + (1 + j - 0)) else M 48 (1 + j)) = va_cpy (M 28) (M 21) (i * 16) 0 n' j ∧ sp_nt (va_cpy (M 28) (M 21) (i * 16) 0 n' j)
          intro j hj'
          have e5 : va_cpy (M 28) (M 21) (i * 16) 0 n' j = M 28 (16 * i + j) := by
            simp only [va_cpy]
            rw [if_pos (by omega)]
            congr 1
            omega
          rw [e5, if_pos (by omega), show 17 * i + (1 + j - 0) = 17 * i + 1 + j by omega]
          exact g5 j hj'
      · exfalso
        have he : M 51 i = 0 := he
        rw [g3] at he
        exact absurd he (by decide)
  · refine ⟨_, rfl, e_X11_back l sc _ _ x ?_⟩
    exact r_in (fun c1 c2 => absurd ⟨c1, c2⟩ c) (fun c => ⟨0, rfl, fun h => absurd rfl h, fun _ => ⟨rfl, sp_I_0 hI⟩⟩)
/-! moves -/
def sp_ok (x : Int32) : Prop := 0 ≤ x ∧ x ≤ 60
theorem r_canShift {M : gl_N} {n : Nat} (hn : n ≤ 16) (ha : M 20 1 = nI n) {x : Int32} (K1 : (∀ j, j < n → sp_ok (M 21 j + x)) → Q (some (.int 1)) M) (K0 : (∃ j, j < n ∧ ¬ sp_ok (M 21 j + x)) → Q (some (.int 0)) M) : gr l sc m_X8_canShift [.ref 20, .int x] M Q := by
  refine e_X8_canShift l sc M Q x ?_
  have key : ∀ (r k : Nat), k + r = n → (∀ j, j < k → sp_ok (M 21 j + x)) → gv l sc m_X8_canShift 2 [.ref 20, .int x, .int (nI k)] [] M Q := by
    intro r
    induction r with
    | zero =>
      intro k hk hall
      have : k = n := by omega
      subst this
      exact w_X8_canShift_2 l sc M Q x _ ⟨fun _ => K1 hall, fun h => absurd (by rw [ha]; exact Int32.le_refl _) h⟩
    | succ r ih =>
      intro k hk hall
      refine w_X8_canShift_2 l sc M Q x _ ⟨fun h => absurd h (by rw [ha]; exact sp_le_lit (by omega) (by omega) (by omega)), fun _ => ?_⟩
      rw [sp_cl (n := k) (by omega), nI_1]
      refine ⟨sp_vp (by omega) (by omega), r_within (fun c1 c2 => ⟨1, rfl, fun _ => ih (k + 1) (by omega) (fun j hj => ?_), fun h => absurd h (by decide)⟩) (fun c => ⟨0, rfl, fun h => absurd rfl h, fun _ => K0 ⟨k, by omega, c⟩⟩)⟩
      by_cases e : j = k
      · subst e; exact ⟨c1, c2⟩
      · exact hall j (by omega)
  exact key n 0 (by omega) (fun j hj => absurd hj (Nat.not_lt_zero _))
def sp_sf (M : gl_N) (c : Nat) (x : Int32) (k n : Nat) : gl_N := gl_u1 M c (fun q => if k ≤ q ∧ q < n then M c q + x else M c q)
theorem sp_sf_end (M : gl_N) (c : Nat) (x : Int32) (n : Nat) : sp_sf M c x n n = M := by
  funext a
  by_cases ha : a = c
  · subst ha
    funext q
    simp only [sp_sf, gl_u1, if_true]
    rw [if_neg (by omega)]
  · simp [sp_sf, gl_u1, ha]
theorem sp_sf_step (M : gl_N) {c : Nat} {x : Int32} {k n : Nat} (hk : k < n) : sp_sf (gl_u2 M c k (M c k + x)) c x (k + 1) n = sp_sf M c x k n := by
  funext a
  by_cases ha : a = c
  · subst ha
    funext q
    simp only [sp_sf, gl_u2, gl_u1, if_true, upd]
    by_cases e : q = k
    · rw [if_neg (by omega), if_pos e, if_pos (by omega), e]
    · by_cases e2 : k ≤ q ∧ q < n
      · rw [if_pos e2, if_pos (by omega), if_neg e]
      · rw [if_neg e2, if_neg (by omega), if_neg e]
  · simp [sp_sf, gl_u2, gl_u1, ha]
theorem r_shift {M : gl_N} {n : Nat} (hn : n ≤ 16) (ha : M 20 1 = nI n) {x : Int32} (K : Q none (gl_u2 (sp_sf M 21 x 0 n) 20 2 (M 20 2 + 1))) : gr l sc m_X8_shift [.ref 20, .int x] M Q := by
  refine e_X8_shift l sc M Q x ?_
  have key : ∀ (r k : Nat) (M : gl_N), M 20 1 = nI n → k + r = n → Q none (gl_u2 (sp_sf M 21 x k n) 20 2 (M 20 2 + 1)) → gv l sc m_X8_shift 2 [.ref 20, .int x, .int (nI k)] [] M Q := by
    intro r
    induction r with
    | zero =>
      intro k M ha hk K
      have : k = n := by omega
      subst this
      rw [sp_sf_end] at K
      exact w_X8_shift_2 l sc M Q x _ ⟨fun _ => K, fun h => absurd (by rw [ha]; exact Int32.le_refl _) h⟩
    | succ r ih =>
      intro k M ha hk K
      refine w_X8_shift_2 l sc M Q x _ ⟨fun h => absurd h (by rw [ha]; exact sp_le_lit (by omega) (by omega) (by omega)), fun _ => ?_⟩
      rw [sp_cl (n := k) (by omega), nI_1]
      refine ⟨⟨sp_vp (by omega) (by omega), sp_vp (by omega) (by omega)⟩, ih (k + 1) _ ha (by omega) ?_⟩
      rw [sp_sf_step M (by omega)]
      exact K
  exact key n 0 M ha (by omega) K
theorem r_mv81 {n : Nat} (hn : n ≤ 16) {x y : Int32} : ∀ (r k : Nat) (M : gl_N), 1 ≤ k → M 48 0 = nI n → k + r = n + 1 → Q (some (.int (nI n))) (sp_sf M 48 x k (n + 1)) → gv l sc m_X11_moves 81 [.ref 42, .int x, .int y, .int (nI k)] [] M Q := by
  intro r
  induction r with
  | zero =>
    intro k M h1 ha hk K
    have : k = n + 1 := by omega
    subst this
    rw [sp_sf_end] at K
    refine w_X11_moves_81 l sc M Q x y _ ⟨fun _ => by rw [ha]; exact K, fun h => absurd (by rw [ha]; exact (sp_lt (by omega) (by omega)).mpr (by omega)) h⟩
  | succ r ih =>
    intro k M h1 ha hk K
    refine w_X11_moves_81 l sc M Q x y _ ⟨fun h => absurd h (by rw [ha]; exact fun q => absurd ((sp_lt (by omega) (by omega)).mp q) (by omega)), fun _ => ?_⟩
    rw [sp_cl (n := k) (by omega), nI_1]
    refine ⟨⟨sp_vp (by omega) (by omega), sp_vp (by omega) (by omega)⟩, ih (k + 1) _ (by omega) ?_ (by omega) ?_⟩
    · show (if 0 = k then _ else M 48 0) = nI n
      rw [if_neg (by omega)]; exact ha
    · rw [sp_sf_step M (by omega)]
      exact K
theorem r_mv16 {M : gl_N} {n : Nat} (hn : n ≤ 16) (ha : M 48 0 = nI n) {x : Int32} (K1 : (∀ j, j < n → sp_ok (M 48 (1 + j) + x)) → (n = 0 → Q (some (.int (-2))) M) ∧ (¬ n = 0 → (¬ x = 0 → gr l sc m_X11_remembers [.ref 42] M (fun r1 M2 => r1 = none ∧ gv l sc m_X11_moves 81 [.ref 42, .int x, .int 1, .int 1] [] M2 Q)) ∧ (x = 0 → Q (some (.int (-2))) M))) (K0 : (∃ j, j < n ∧ ¬ sp_ok (M 48 (1 + j) + x)) → Q (some (.int (-1))) M) :
    ∀ (r k : Nat), k + r = n → (∀ j, j < k → sp_ok (M 48 (1 + j) + x)) → gv l sc m_X11_moves 16 [.ref 42, .int x, .int 1, .int (nI k)] [] M Q := by
  have hz : ∀ y : Int32, (∃ j, j < n ∧ ¬ sp_ok (M 48 (1 + j) + x)) → gv l sc m_X11_moves 16 [.ref 42, .int x, .int 0, .int y] [] M Q := by
    intro y hb
    exact w_X11_moves_16 l sc M Q x 0 y ⟨fun _ => ⟨fun h => absurd rfl h, fun _ => K0 hb⟩, fun _ => ⟨fun _ => ⟨fun h => absurd rfl h, fun _ => K0 hb⟩, fun h => absurd rfl h⟩⟩
  have h10 : ¬ (1 : Int32) = 0 := by decide
  intro r
  induction r with
  | zero =>
    intro k hk hall
    have : k = n := by omega
    subst this
    refine w_X11_moves_16 l sc M Q x 1 _ ⟨fun _ => ⟨fun _ => ⟨fun e => ?_, fun e => ?_⟩, fun h => absurd h h10⟩, fun h => absurd (by rw [ha]; exact Int32.le_refl _) h⟩
    · rw [ha] at e
      exact (K1 hall).1 ((sp_eq (N := 0) (by omega) (by omega)).mp e)
    · have e' : ¬ k = 0 := fun q => e (by rw [ha, q]; rfl)
      exact (K1 hall).2 e'
  | succ r ih =>
    intro k hk hall
    refine w_X11_moves_16 l sc M Q x 1 _ ⟨fun h => absurd h (by rw [ha]; exact sp_le_lit (by omega) (by omega) (by omega)), fun _ => ⟨fun h => absurd h h10, fun _ => ?_⟩⟩
    have e1 : (1 : Int32) + nI k = nI (1 + k) := nI_add 1 k
    rw [e1, sp_cl (n := 1 + k) (by omega), nI_1]
    refine ⟨sp_vp (by omega) (by omega), r_in (fun c1 c2 => ⟨1, rfl, ih (k + 1) (by omega) (fun j hj => ?_)⟩) (fun c => ⟨0, rfl, hz _ ⟨k, by omega, c⟩⟩)⟩
    by_cases e : j = k
    · subst e; exact ⟨c1, c2⟩
    · exact hall j (by omega)
theorem s_moves (x : Int32) : sp_S WY PR l sc m_X10_moves m_X11_moves [.int x] := by
  rintro ch M hch hI
  obtain ⟨h1, ⟨n, hn, ha, hc, hj⟩, ⟨v, p, hk, hpc, hpr⟩, -⟩ := id hI
  refine e_X10_moves l sc M _ x ?_
  refine r_within (fun c1 c2 => ⟨1, rfl, fun h => absurd h (by decide), fun _ => ?_⟩) (fun c => ⟨0, rfl, fun _ => ?_, fun h => absurd rfl h⟩)
  · refine r_canShift hn ha (fun hall => ⟨1, rfl, fun _ => ⟨fun e0 => ?_, fun e0 => ⟨fun ex => ?_, fun ex => ?_⟩⟩, fun h => absurd h (by decide)⟩) (fun hbad => ⟨0, rfl, fun h => absurd rfl h, fun _ => ?_⟩)
    · have hn0 : n = 0 := by rw [ha] at e0; exact (sp_eq (N := 0) (by omega) (by omega)).mp e0
      refine ⟨_, rfl, e_X11_moves l sc _ _ x ?_⟩
      refine r_in (fun _ _ => ⟨1, rfl, ?_⟩) (fun c => absurd ⟨c1, c2⟩ c)
      exact r_mv16 (n := n) (M := gl_u2 M 42 0 0) hn hc (fun _ => ⟨fun _ => ⟨rfl, sp_I_0 hI⟩, fun h => absurd hn0 h⟩) (fun ⟨j, hj', _⟩ => absurd hj' (by omega)) n 0 (by omega) (fun j hj => absurd hj (Nat.not_lt_zero _))
    · have hn0 : ¬ n = 0 := fun q => e0 (by rw [ha, q]; rfl)
      refine r_remC hk hpc ha hn (fun M1 f1 g1 => ⟨rfl, ?_⟩)
      have e20 : M1 20 = M 20 := f1 20 (by decide) (by decide) (by decide)
      have e21 : M1 21 = M 21 := f1 21 (by decide) (by decide) (by decide)
      have e42 : M1 42 = M 42 := f1 42 (by decide) (by decide) (by decide)
      have e48 : M1 48 = M 48 := f1 48 (by decide) (by decide) (by decide)
      have e49 : M1 49 = M 49 := f1 49 (by decide) (by decide) (by decide)
      refine r_shift hn (by rw [e20]; exact ha) ⟨rfl, _, rfl, ?_⟩
      refine e_X11_moves l sc _ _ x ?_
      refine r_in (fun _ _ => ⟨1, rfl, ?_⟩) (fun c => absurd ⟨c1, c2⟩ c)
      refine r_mv16 (n := n) hn (by show M1 48 0 = nI n; rw [e48]; exact hc) (fun _ => ⟨fun h => absurd h hn0, fun _ => ⟨fun _ => ?_, fun h => absurd h ex⟩⟩) (fun ⟨j, hj', hb⟩ => ?_) n 0 (by omega) (fun j hj => absurd hj (Nat.not_lt_zero _))
      · refine r_remR (v := v) (p := p) (n := n) (b := M 21) hk ?_ ?_ ?_ hn (fun M3 f3 g3 q3 => ⟨rfl, ?_⟩)
        · show sp_pr (M1 42 12) (M1 49) v p
          rw [e42, e49]; exact hpr
        · show M1 48 0 = nI n
          rw [e48]; exact hc
        · show ∀ j, j < n → M1 48 (1 + j) = M 21 j
          rw [e48]; exact fun j hj' => (hj j hj').1
        have k48 : M3 48 = M 48 := (f3 48 (by decide) (by decide)).trans e48
        have k20 : M3 20 = upd (M 20) 2 (M 20 2 + 1) := by
          rw [f3 20 (by decide) (by decide)]
          show upd (M1 20) 2 (M1 20 2 + 1) = _
          rw [e20]
        have k21 : M3 21 = fun q => if 0 ≤ q ∧ q < n then M 21 q + x else M 21 q := by
          rw [f3 21 (by decide) (by decide)]
          show (fun q => if 0 ≤ q ∧ q < n then M1 21 q + x else M1 21 q) = _
          rw [e21]
        refine r_mv81 hn n 1 M3 (by omega) (by rw [k48]; exact hc) (by omega) ⟨?_, sp_I_tc hch hI (fun a a1 a2 a3 a4 a5 a6 a7 a8 => ?_) (fun j j1 j2 => ?_) ?_ ⟨n, hn, ?_, ?_, ?_⟩ ⟨_, _, sp_pp_ok hk hn (fun j hj' => (hj j hj').2), ?_, ?_⟩⟩
        · show some (Value.int (nI n)) = some (Value.int (M1 20 1))
          rw [e20, ha]
        · show (if a = 48 then _ else M3 a) = M a
          rw [if_neg a7, f3 a a6 a8]
          show (if a = 42 then _ else if a = 20 then _ else if a = 21 then _ else M1 a) = M a
          rw [if_neg a6, if_neg a1, if_neg a2]
          exact f1 a a3 a4 a5
        · show M3 42 j = M 42 j
          rw [g3 j j2]
          show (if j = 0 then _ else M1 42 j) = M 42 j
          rw [if_neg j1, e42]
        · show M3 20 2 = M 20 2 + 1
          rw [k20]; rfl
        · show M3 20 1 = nI n
          rw [k20]; exact ha
        · show (if 1 ≤ 0 ∧ 0 < n + 1 then M3 48 0 + x else M3 48 0) = nI n
          rw [if_neg (by omega), k48]; exact hc
        · show ∀ j, j < n → (if 1 ≤ 1 + j ∧ 1 + j < n + 1 then M3 48 (1 + j) + x else M3 48 (1 + j)) = M3 21 j ∧ sp_nt (M3 21 j)
          rw [k21, k48]
          intro j hj'
          rw [if_pos (by omega), (hj j hj').1]
          show M 21 j + x = (if 0 ≤ j ∧ j < n then M 21 j + x else M 21 j) ∧ sp_nt (if 0 ≤ j ∧ j < n then M 21 j + x else M 21 j)
          rw [if_pos (by omega)]
          exact ⟨rfl, hall j hj'⟩
        · show sp_pc (M3 22 1) (M3 22 2) (M3 24) (M3 25) _ _
          rw [f3 22 (by decide) (by decide), f3 24 (by decide) (by decide), f3 25 (by decide) (by decide)]
          exact g1
        · exact q3
      · exfalso
        have hb : ¬ sp_ok (M1 48 (1 + j) + x) := hb
        rw [e48, (hj j hj').1] at hb
        exact hb (hall j hj')
    · refine ⟨_, rfl, e_X11_moves l sc _ _ x ?_⟩
      refine r_in (fun _ _ => ⟨1, rfl, ?_⟩) (fun c => absurd ⟨c1, c2⟩ c)
      refine r_mv16 (n := n) (M := gl_u2 M 42 0 0) hn hc (fun _ => ⟨fun _ => ⟨rfl, sp_I_0 hI⟩, fun _ => ⟨fun h => absurd ex h, fun _ => ⟨rfl, sp_I_0 hI⟩⟩⟩) (fun ⟨j, hj', hb⟩ => ?_) n 0 (by omega) (fun j hj => absurd hj (Nat.not_lt_zero _))
      exfalso
      have hb : ¬ sp_ok (M 48 (1 + j) + x) := hb
      rw [(hj j hj').1] at hb
      exact hb (hall j hj')
    · obtain ⟨j, hj', hb⟩ := hbad
      refine ⟨_, rfl, e_X11_moves l sc _ _ x ?_⟩
      refine r_in (fun _ _ => ⟨1, rfl, ?_⟩) (fun c => absurd ⟨c1, c2⟩ c)
      refine r_mv16 (n := n) (M := gl_u2 M 42 0 0) hn hc (fun hall => ?_) (fun _ => ⟨rfl, sp_I_0 hI⟩) n 0 (by omega) (fun j hj => absurd hj (Nat.not_lt_zero _))
      exfalso
      have := hall j hj'
      have t : sp_ok (M 48 (1 + j) + x) := this
      rw [(hj j hj').1] at t
      exact hb t
  · refine ⟨_, rfl, e_X11_moves l sc _ _ x ?_⟩
    refine r_in (fun c1 c2 => absurd ⟨c1, c2⟩ c) (fun _ => ⟨0, rfl, ?_⟩)
    exact w_X11_moves_16 l sc _ _ x 0 _ ⟨fun _ => ⟨fun h => absurd rfl h, fun _ => ⟨rfl, sp_I_0 hI⟩⟩, fun _ => ⟨fun _ => ⟨fun h => absurd rfl h, fun _ => ⟨rfl, sp_I_0 hI⟩⟩, fun h => absurd rfl h⟩⟩
end SP7

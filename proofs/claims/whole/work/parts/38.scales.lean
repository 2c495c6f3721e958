section SP10
variable {WY : sp_WY} {PR : sp_PR} {l : Launch} {sc : Nat × (Nat → Int32)} {Q : Option Value → gl_N → Prop} {B : sp_B}
theorem sp_ntN {x : Int32} (h0 : 0 ≤ x) {N : Nat} (hN : N ≤ 1000) (h1 : x ≤ nI N) : x = nI x.toNatClampNeg ∧ x.toNatClampNeg ≤ N := by
  obtain ⟨j, hj, e⟩ := sp_of (Int32.not_lt.mpr h0)
  rw [e] at h1 ⊢
  have := (nI_leI (by omega) (by omega)).mp h1
  rw [sp_cl (by omega)]
  exact ⟨rfl, this⟩
theorem sp_neg1 {n : Nat} (hn : n ≤ 100000) : ¬ nI n = -1 := by
  intro h
  have := congrArg Int32.toInt h
  rw [nI_toInt (by omega)] at this
  have e1 : (-1 : Int32).toInt = -1 := rfl
  omega
theorem sp_neg9 {n : Nat} (hn : n ≤ 100000) : ¬ nI n = -9 := by
  intro h
  have := congrArg Int32.toInt h
  rw [nI_toInt (by omega)] at this
  have e1 : (-9 : Int32).toInt = -9 := rfl
  omega
theorem sp_sp_lt {s k t p : Nat} (h : sp_sp B s k t = some p) : p < sp_pn B t := by
  have := (sp_fs_some _ _ _ h).2.1
  omega
theorem s_cell (x y : Int32) : sp_S WY PR l sc m_X10_cell m_X11_cell [.int x, .int y] := by
  rintro ch M hch hI
  obtain ⟨-, -, -, -, -, -, B, hw, hC, hR, -⟩ := id hI
  have hc6 := hw.1
  have hI0 := sp_I_0 hI
  have hn1 : ∀ c, c < B.1 → nI c ≤ nI B.1 - 1 := fun c hc => by rw [sp_sub1 (by omega)]; exact (sp_le (by omega) (by omega)).mpr (by omega)
  have hn2 : ∀ x : Int32, 0 ≤ x → x ≤ nI B.1 - 1 → ∃ c, c < B.1 ∧ x = nI c := fun x c1 c2 => by
    obtain ⟨k, hk, e⟩ := sp_of (Int32.not_lt.mpr c1)
    rcases Nat.eq_zero_or_pos B.1 with h0 | h0
    · exfalso
      rw [h0, e] at c2
      have a := Int32.le_iff_toInt_le.mp c2
      rw [nI_toInt (by omega)] at a
      have b : (nI 0 - 1).toInt = -1 := rfl
      omega
    · rw [sp_sub1 h0, e] at c2
      have := (nI_leI (by omega) (by omega)).mp c2
      exact ⟨k, by omega, e⟩
  refine e_X10_cell l sc M _ x y ?_
  rw [hC.1]
  refine r_within (fun c1 c2 => ⟨1, rfl, fun h => absurd h (by decide), fun _ => ⟨fun hy => ?_, fun hy => ?_⟩⟩) (fun c => ⟨0, rfl, fun _ => ?_, fun h => absurd rfl h⟩)
  · obtain ⟨c, hc, rfl⟩ := hn2 x c1 c2
    obtain ⟨a1, a2, -⟩ := hC.2.2.1 c hc
    obtain ⟨b1, b2⟩ := hR.2.2.1 c hc
    have w4 := (hw.2.1 c hc).2.1
    have e5 : (5 : Int32) * nI c = nI (5 * c) := by rw [show (5 : Int32) = nI 5 from rfl, sp_mul]
    have ref : ∀ (v : Int32), (∀ M3, M3 = gl_u2 M 42 0 0 → (0 ≤ y → (nI (B.2.1 c) ≤ y → v = -9) ∧ (¬ nI (B.2.1 c) ≤ y → ∀ k, k < B.2.1 c → y = nI k → v = nI (B.2.2.1 c k))) ∧ (¬ 0 ≤ y → v = nI (B.2.1 c))) → gr l sc m_X11_cell [.ref 42, .int (nI c), .int y] M (fun r2 M3 => r2 = some (.int v) ∧ sp_I WY PR (ch + 1) M3) := by
      intro v hv
      refine e_X11_cell l sc M _ _ y ?_
      rw [hR.1]
      refine r_in (fun _ _ => ⟨1, rfl, fun h => absurd h (by decide), fun _ => ⟨fun _ => ?_, fun h => absurd hy h⟩⟩) (fun q => absurd ⟨nI_pos' (by omega), hn1 c hc⟩ q)
      have d1 : (gl_u2 M 42 0 0) 43 (5 * c) = nI (B.2.1 c) := b1
      rw [e5, sp_cl (by omega), d1]
      refine ⟨sp_vp (by omega) (by omega), fun h0 => ⟨fun hle => ⟨?_, hI0⟩, fun hle => ?_⟩, fun h0 => ⟨?_, hI0⟩⟩
      · rw [((hv _ rfl).1 h0).1 hle]
      · obtain ⟨k, hk, e⟩ := sp_of (Int32.not_lt.mpr h0)
        have hk2 : k < B.2.1 c := by
          rw [e] at hle
          exact Nat.lt_of_not_le (fun q => hle ((nI_leI (by omega) (by omega)).mpr q))
        have e6 : nI (5 * c) + 1 + y = nI (5 * c + 1 + k) := by rw [e, nI_1, nI_add]
        rw [e6, sp_cl (by omega)]
        refine ⟨sp_vp (by omega) (by omega), ?_, hI0⟩
        show some (Value.int (M 43 (5 * c + 1 + k))) = _
        rw [b2 k hk2, ((hv _ rfl).1 h0).2 hle k hk2 e]
      · rw [(hv _ rfl).2 h0]
    rw [sp_cl (n := c) (by omega), a1]
    refine ⟨fun hne => ⟨sp_vp (by omega) (by omega), fun hle => ⟨_, rfl, ref _ (fun _ _ => ⟨fun _ => ⟨fun _ => rfl, fun h => absurd hle h⟩, fun h => ?_⟩)⟩, fun hle => ?_⟩, fun he => ⟨sp_vp (by omega) (by omega), _, rfl, ref _ (fun _ _ => ⟨fun h => ?_, fun _ => rfl⟩)⟩⟩
    · exfalso
      have p1 := Int32.le_iff_toInt_le.mp hy
      have p2 := mt Int32.le_iff_toInt_le.mpr h
      have z1 : (-1 : Int32).toInt = -1 := rfl
      have z0 : (0 : Int32).toInt = 0 := rfl
      exact hne (Int32.toInt_inj.mp (by rw [z1]; omega))
    · have h0 : 0 ≤ y := by
        apply Int32.le_iff_toInt_le.mpr
        have p1 := Int32.le_iff_toInt_le.mp hy
        have z1 : (-1 : Int32).toInt = -1 := rfl
        have z0 : (0 : Int32).toInt = 0 := rfl
        have : ¬ y.toInt = -1 := fun q => hne (Int32.toInt_inj.mp (by rw [z1]; exact q))
        omega
      obtain ⟨k, hk, rfl⟩ := sp_of (Int32.not_lt.mpr h0)
      have hk2 : k < B.2.1 c := Nat.lt_of_not_le (fun q => hle ((nI_leI (by omega) (by omega)).mpr q))
      refine e_X0_stepAt l sc M _ _ _ ?_
      have e6 : nI c * 4 + nI k = nI (4 * c + k) := by rw [show (4 : Int32) = nI 4 from rfl, sp_mul, nI_add, Nat.mul_comm]
      rw [e6, sp_cl (by omega), a2 k hk2]
      exact ⟨sp_vp (by omega) (by omega), _, rfl, _, rfl, ref _ (fun _ _ => ⟨fun _ => ⟨fun h => absurd h hle, fun _ k' hk' e => by rw [(nI_eq (by omega) (by omega)).mp e]⟩, fun h => absurd h0 h⟩)⟩
    · exfalso
      rw [he] at h
      exact absurd h (by decide)
  · obtain ⟨c, hc, rfl⟩ := hn2 x c1 c2
    refine ⟨_, rfl, e_X11_cell l sc M _ _ y ?_⟩
    rw [hR.1]
    exact r_in (fun _ _ => ⟨1, rfl, fun h => absurd h (by decide), fun _ => ⟨fun h => absurd h hy, fun _ => ⟨rfl, hI0⟩⟩⟩) (fun q => absurd ⟨nI_pos' (by omega), hn1 c hc⟩ q)
  · refine ⟨_, rfl, e_X11_cell l sc M _ _ y ?_⟩
    rw [hR.1]
    exact r_in (fun d1 d2 => absurd ⟨d1, d2⟩ c) (fun _ => ⟨0, rfl, fun _ => ⟨rfl, hI0⟩, fun h => absurd rfl h⟩)
theorem s_part (x y w : Int32) : sp_S WY PR l sc m_X10_part m_X11_part [.int x, .int y, .int w] := by
  rintro ch M hch hI
  obtain ⟨-, -, -, -, -, -, B, hw, hC, hR, -⟩ := id hI
  have hI0 := sp_I_0 hI
  have hMC : sp_MC B M := ⟨hw, hC⟩
  have hMR : sp_MR B (gl_u2 M 42 0 0) := ⟨hw, hR⟩
  refine e_X10_part l sc M _ x y w ?_
  refine r_isScale hMC (fun s hs e => ⟨1, rfl, fun h => absurd h (by decide), fun _ => ⟨fun hy => ?_, fun hy => ?_⟩⟩) (fun hno => ⟨0, rfl, fun _ => ?_, fun h => absurd rfl h⟩)
  · subst e
    exact ⟨_, rfl, e_X11_part l sc M _ _ y w (r_isScaleR hMR (fun _ _ _ => ⟨1, rfl, fun h => absurd h (by decide), fun _ => ⟨fun _ => ⟨rfl, hI0⟩, fun h => absurd hy h⟩⟩) (fun q => absurd rfl (q s hs)))⟩
  · subst e
    have h4 := (sp_sc hw hs).2.2.2.1
    have hy1 : (-1 : Int32) ≤ y := Int32.not_lt.mp hy
    refine r_within (fun c1 c2 => ⟨1, rfl, fun _ => r_partsOf hMC hs ⟨_, rfl, fun hne => ⟨fun hlt => ?_, fun hlt => ?_⟩, fun he => ?_⟩, fun h => absurd h (by decide)⟩) (fun c => ⟨0, rfl, fun h => absurd rfl h, fun _ => ?_⟩)
    · have h0 : 0 ≤ y := by
        apply Int32.le_iff_toInt_le.mpr
        have p1 := Int32.le_iff_toInt_le.mp hy1
        have z1 : (-1 : Int32).toInt = -1 := rfl
        have z0 : (0 : Int32).toInt = 0 := rfl
        have : ¬ y.toInt = -1 := fun q => hne (Int32.toInt_inj.mp (by rw [z1]; exact q))
        omega
      obtain ⟨k, hk, rfl⟩ := sp_of (Int32.not_lt.mpr h0)
      have hk2 : k < sp_pn B s := (nI_ltI (by omega) (by omega)).mp hlt
      refine ⟨fun hne0 => r_pitchAt hMC hs hk2 ⟨_, rfl, _, rfl, ?_⟩, fun he0 => r_cellAt hMC hs hk2 ⟨_, rfl, _, rfl, ?_⟩⟩
      · refine e_X11_part l sc M _ _ _ w (r_isScaleR hMR (fun _ _ _ => ⟨1, rfl, fun h => absurd h (by decide), fun _ => ⟨fun h => absurd h hy, fun _ => ?_⟩⟩) (fun q => absurd rfl (q s hs)))
        exact r_in (fun _ _ => ⟨1, rfl, fun _ => ⟨fun _ => r_parts hMR hs ⟨_, rfl, fun _ => ⟨fun _ => r_pitchOf hMR hs hk2 ⟨_, rfl, rfl, hI0⟩, fun h => absurd h hne0⟩, fun h => absurd hlt h⟩, fun h => absurd h0 h⟩, fun h => absurd h (by decide)⟩) (fun c => absurd ⟨c1, c2⟩ c)
      · refine e_X11_part l sc M _ _ _ w (r_isScaleR hMR (fun _ _ _ => ⟨1, rfl, fun h => absurd h (by decide), fun _ => ⟨fun h => absurd h hy, fun _ => ?_⟩⟩) (fun q => absurd rfl (q s hs)))
        exact r_in (fun _ _ => ⟨1, rfl, fun _ => ⟨fun _ => r_parts hMR hs ⟨_, rfl, fun _ => ⟨fun h => absurd he0 h, fun _ => r_cellOf hMR hs hk2 ⟨_, rfl, rfl, hI0⟩⟩, fun h => absurd hlt h⟩, fun h => absurd h0 h⟩, fun h => absurd h (by decide)⟩) (fun c => absurd ⟨c1, c2⟩ c)
    · have h0 : 0 ≤ y := by
        apply Int32.le_iff_toInt_le.mpr
        have p1 := Int32.le_iff_toInt_le.mp hy1
        have z1 : (-1 : Int32).toInt = -1 := rfl
        have z0 : (0 : Int32).toInt = 0 := rfl
        have : ¬ y.toInt = -1 := fun q => hne (Int32.toInt_inj.mp (by rw [z1]; exact q))
        omega
      refine ⟨_, rfl, e_X11_part l sc M _ _ _ w (r_isScaleR hMR (fun _ _ _ => ⟨1, rfl, fun h => absurd h (by decide), fun _ => ⟨fun h => absurd h hy, fun _ => ?_⟩⟩) (fun q => absurd rfl (q s hs)))⟩
      exact r_in (fun _ _ => ⟨1, rfl, fun _ => ⟨fun _ => r_parts hMR hs ⟨_, rfl, fun h => absurd h hlt, fun _ => ⟨rfl, hI0⟩⟩, fun h => absurd h0 h⟩, fun h => absurd h (by decide)⟩) (fun c => absurd ⟨c1, c2⟩ c)
    · have h0 : ¬ 0 ≤ y := by rw [he]; decide
      refine ⟨_, rfl, e_X11_part l sc M _ _ _ w (r_isScaleR hMR (fun _ _ _ => ⟨1, rfl, fun h => absurd h (by decide), fun _ => ⟨fun h => absurd h hy, fun _ => ?_⟩⟩) (fun q => absurd rfl (q s hs)))⟩
      exact r_in (fun _ _ => ⟨1, rfl, fun _ => ⟨fun h => absurd h h0, fun _ => r_parts hMR hs ⟨_, rfl, rfl, hI0⟩⟩, fun h => absurd h (by decide)⟩) (fun c => absurd ⟨c1, c2⟩ c)
    · refine ⟨_, rfl, e_X11_part l sc M _ _ _ w (r_isScaleR hMR (fun _ _ _ => ⟨1, rfl, fun h => absurd h (by decide), fun _ => ⟨fun h => absurd h hy, fun _ => ?_⟩⟩) (fun q => absurd rfl (q s hs)))⟩
      exact r_in (fun c1 c2 => absurd ⟨c1, c2⟩ c) (fun _ => ⟨0, rfl, fun h => absurd rfl h, fun _ => ⟨rfl, hI0⟩⟩)
  · exact ⟨_, rfl, e_X11_part l sc M _ _ y w (r_isScaleR hMR (fun s hs e => absurd e (hno s hs)) (fun _ => ⟨0, rfl, fun _ => ⟨rfl, hI0⟩, fun h => absurd rfl h⟩))⟩
theorem s_has (x y : Int32) : sp_S WY PR l sc m_X10_has m_X11_has [.int x, .int y] := by
  rintro ch M hch hI
  obtain ⟨-, -, -, -, -, -, B, hw, hC, hR, -⟩ := id hI
  have hI0 := sp_I_0 hI
  have hMC : sp_MC B M := ⟨hw, hC⟩
  have hMR : sp_MR B (gl_u2 M 42 0 0) := ⟨hw, hR⟩
  refine e_X10_has l sc M _ x y ?_
  refine r_isScale hMC (fun s hs e => ⟨1, rfl, fun h => absurd h (by decide), fun _ => ?_⟩) (fun hno => ⟨0, rfl, fun _ => ?_, fun h => absurd rfl h⟩)
  · subst e
    refine r_within (fun c1 c2 => ⟨1, rfl, fun _ => ?_, fun h => absurd h (by decide)⟩) (fun c => ⟨0, rfl, fun h => absurd rfl h, fun _ => ?_⟩)
    · obtain ⟨e, hy⟩ := sp_ntN c1 (N := 60) (by omega) c2
      rw [e] at c1 c2 ⊢
      refine r_partsWith hMC hs (by omega) ⟨_, rfl, _, rfl, e_X11_has l sc M _ _ _ (r_isScaleR hMR (fun _ _ _ => ⟨1, rfl, fun h => absurd h (by decide), fun _ => ?_⟩) (fun q => absurd rfl (q s hs)))⟩
      exact r_in (fun _ _ => ⟨1, rfl, fun h => absurd h (by decide), fun _ => r_manyHave hMR hs (by omega) ⟨_, rfl, rfl, hI0⟩⟩) (fun c => absurd ⟨c1, c2⟩ c)
    · refine ⟨_, rfl, e_X11_has l sc M _ _ _ (r_isScaleR hMR (fun _ _ _ => ⟨1, rfl, fun h => absurd h (by decide), fun _ => ?_⟩) (fun q => absurd rfl (q s hs)))⟩
      exact r_in (fun c1 c2 => absurd ⟨c1, c2⟩ c) (fun _ => ⟨0, rfl, fun _ => ⟨rfl, hI0⟩, fun h => absurd rfl h⟩)
  · exact ⟨_, rfl, e_X11_has l sc M _ _ y (r_isScaleR hMR (fun s hs e => absurd e (hno s hs)) (fun _ => ⟨0, rfl, fun _ => ⟨rfl, hI0⟩, fun h => absurd rfl h⟩))⟩
/-! shares -/
def sp_sl (B : sp_B) (s t : Nat) (y : Int32) : Nat → Nat → Nat → Int32
  | 0, _, n => if y = -1 then nI n else -9
  | r + 1, e, n => match sp_sp B s e t with
    | none => sp_sl B s t y r (e + 1) n
    | some _ => if nI n = y then nI e else sp_sl B s t y r (e + 1) (n + 1)
theorem r_sharesC {M : gl_N} (h : sp_MC B M) {s t : Nat} (hs : s < 24 * sp_nm B) (ht : t < 24 * sp_nm B) {y : Int32} : ∀ (r e n : Nat), e + r = sp_pn B s → n ≤ e → Q (some (.int (sp_sl B s t y r e n))) M → gv l sc m_X10_shares 35 [.ref 0, .int (nI s), .int (nI t), .int y, .int (nI n), .int (nI e)] [] M Q := by
  have h4 := (sp_sc h.1 hs).2.2.2.1
  have h5 := (sp_sc h.1 ht).2.2.2.1
  intro r
  induction r with
  | zero =>
    intro e n he hn K
    have : e = sp_pn B s := by omega
    subst this
    refine w_X10_shares_35 l sc M Q _ _ _ _ _ (r_partsOf h hs ⟨_, rfl, fun _ => ⟨fun q => ?_, fun q => ?_⟩, fun q => absurd (Int32.le_refl _) q⟩)
    · simp only [sp_sl, if_neg q] at K; exact K
    · simp only [sp_sl, if_pos q] at K; exact K
  | succ r ih =>
    intro e n he hn K
    refine w_X10_shares_35 l sc M Q _ _ _ _ _ (r_partsOf h hs ⟨_, rfl, fun q => absurd q (sp_le_lit (by omega) (by omega) (by omega)), fun _ => r_samePart h hs (by omega) ht ⟨_, rfl, ?_⟩⟩)
    simp only [sp_sl] at K
    rw [nI_1, nI_1]
    cases hsp : sp_sp B s e t with
    | none =>
      rw [hsp] at K
      exact ⟨fun _ => ih _ _ (by omega) (by omega) K, fun q => absurd rfl q⟩
    | some p =>
      rw [hsp] at K
      have hp := sp_sp_lt hsp
      refine ⟨fun q => absurd q (sp_neg1 (by omega)), fun _ => ⟨fun q => ih _ _ (by omega) (by omega) ?_, fun q => ?_⟩⟩
      · simp only [if_neg q] at K; exact K
      · simp only [if_pos q] at K; exact K
theorem r_sharesR {M : gl_N} (h : sp_MR B M) {s t : Nat} (hs : s < 24 * sp_nm B) (ht : t < 24 * sp_nm B) {y : Int32} (hy : -1 ≤ y) : ∀ (r e n : Nat), e + r = sp_pn B s → n ≤ e → Q (some (.int (sp_sl B s t y r e n))) M → gv l sc m_X11_shares 34 [.ref 42, .int (nI s), .int (nI t), .int y, .int (nI n), .int (nI e)] [] M Q := by
  have h4 := (sp_sc h.1 hs).2.2.2.1
  have h5 := (sp_sc h.1 ht).2.2.2.1
  intro r
  induction r with
  | zero =>
    intro e n he hn K
    have : e = sp_pn B s := by omega
    subst this
    refine w_X11_shares_34 l sc M Q _ _ _ _ _ (r_parts h hs ⟨_, rfl, fun _ => ⟨fun q => ?_, fun q => ?_⟩, fun q => absurd (Int32.le_refl _) q⟩)
    · have : ¬ y = -1 := by rintro rfl; exact absurd q (by decide)
      simp only [sp_sl, if_neg this] at K; exact K
    · have : y = -1 := by
        have p1 := Int32.le_iff_toInt_le.mp hy
        have p2 := mt Int32.le_iff_toInt_le.mpr q
        have z1 : (-1 : Int32).toInt = -1 := rfl
        have z0 : (0 : Int32).toInt = 0 := rfl
        exact Int32.toInt_inj.mp (by rw [z1]; omega)
      simp only [sp_sl, if_pos this] at K; exact K
  | succ r ih =>
    intro e n he hn K
    refine w_X11_shares_34 l sc M Q _ _ _ _ _ (r_parts h hs ⟨_, rfl, fun q => absurd q (sp_le_lit (by omega) (by omega) (by omega)), fun _ => r_sameIn h hs (by omega) ht ⟨_, rfl, ?_⟩⟩)
    simp only [sp_sl] at K
    rw [nI_1, nI_1]
    cases hsp : sp_sp B s e t with
    | none =>
      rw [hsp] at K
      exact ⟨fun _ => ih _ _ (by omega) (by omega) K, fun q => absurd rfl q⟩
    | some p =>
      rw [hsp] at K
      have hp := sp_sp_lt hsp
      refine ⟨fun q => absurd q (sp_neg9 (by omega)), fun _ => ⟨fun q => ih _ _ (by omega) (by omega) ?_, fun q => ?_⟩⟩
      · simp only [if_neg q] at K; exact K
      · simp only [if_pos q] at K; exact K
theorem s_shares (x w y : Int32) : sp_S WY PR l sc m_X10_shares m_X11_shares [.int x, .int w, .int y] := by
  rintro ch M hch hI
  obtain ⟨-, -, -, -, -, -, B, hw, hC, hR, -⟩ := id hI
  have hI0 := sp_I_0 hI
  have hMC : sp_MC B M := ⟨hw, hC⟩
  have hMR : sp_MR B (gl_u2 M 42 0 0) := ⟨hw, hR⟩
  refine e_X10_shares l sc M _ x w y ?_
  refine r_isScale hMC (fun s hs e => ⟨1, rfl, fun h => absurd h (by decide), fun _ => ?_⟩) (fun hno => ⟨0, rfl, fun _ => ?_, fun h => absurd rfl h⟩)
  · subst e
    refine r_isScale hMC (fun t ht e => ⟨1, rfl, fun h => absurd h (by decide), fun _ => ⟨fun hy => ?_, fun hy => ?_⟩⟩) (fun hno => ⟨0, rfl, fun _ => ?_, fun h => absurd rfl h⟩)
    · subst e
      refine r_sharesC hMC hs ht _ 0 0 (Nat.zero_add _) (Nat.le_refl _) ⟨_, rfl, e_X11_shares l sc M _ _ _ _ ?_⟩
      refine r_isScaleR hMR (fun _ _ _ => ⟨1, rfl, fun h => absurd h (by decide), fun _ => ?_⟩) (fun q => absurd rfl (q s hs))
      refine r_isScaleR hMR (fun _ _ _ => ⟨1, rfl, fun h => absurd h (by decide), fun _ => ⟨fun _ => ?_, fun h => absurd hy h⟩⟩) (fun q => absurd rfl (q t ht))
      exact r_sharesR hMR hs ht hy _ 0 0 (Nat.zero_add _) (Nat.le_refl _) ⟨rfl, hI0⟩
    · subst e
      refine ⟨_, rfl, e_X11_shares l sc M _ _ _ _ ?_⟩
      refine r_isScaleR hMR (fun _ _ _ => ⟨1, rfl, fun h => absurd h (by decide), fun _ => ?_⟩) (fun q => absurd rfl (q s hs))
      exact r_isScaleR hMR (fun _ _ _ => ⟨1, rfl, fun h => absurd h (by decide), fun _ => ⟨fun h => absurd h hy, fun _ => ⟨rfl, hI0⟩⟩⟩) (fun q => absurd rfl (q t ht))
    · refine ⟨_, rfl, e_X11_shares l sc M _ _ _ _ ?_⟩
      refine r_isScaleR hMR (fun _ _ _ => ⟨1, rfl, fun h => absurd h (by decide), fun _ => ?_⟩) (fun q => absurd rfl (q s hs))
      exact r_isScaleR hMR (fun t ht e => absurd e (hno t ht)) (fun _ => ⟨0, rfl, fun _ => ⟨rfl, hI0⟩, fun h => absurd rfl h⟩)
  · exact ⟨_, rfl, e_X11_shares l sc M _ _ _ _ (r_isScaleR hMR (fun s hs e => absurd e (hno s hs)) (fun _ => ⟨0, rfl, fun _ => ⟨rfl, hI0⟩, fun h => absurd rfl h⟩))⟩
end SP10

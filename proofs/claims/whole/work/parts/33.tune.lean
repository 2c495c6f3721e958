section SP5
variable {WY : sp_WY} {PR : sp_PR} {l : Launch} {sc : Nat × (Nat → Int32)} {Q : Option Value → gl_N → Prop}
/-- the tune (and the past) has changed, nothing else -/
theorem sp_I_tc {ch : Nat} {M M4 : gl_N} (hch : ch < 1000) (hI : sp_I WY PR ch M) (hoff : ∀ a, a ≠ 20 → a ≠ 21 → a ≠ 22 → a ≠ 24 → a ≠ 25 → a ≠ 42 → a ≠ 48 → a ≠ 49 → M4 a = M a) (h42 : ∀ j, j ≠ 0 → j ≠ 12 → M4 42 j = M 42 j) (hg : M4 20 2 = M 20 2 + 1)
    (hTn : sp_Tn (M4 20 1) (M4 21) (M4 48)) (hPs : sp_Ps (M4 22 1) (M4 22 2) (M4 24) (M4 25) (M4 42 12) (M4 49)) : sp_I WY PR (ch + 1) M4 := by
  obtain ⟨h1, -, -, h4, h5, ⟨c, c1, c2, c3⟩, B, b1, b2, b3, b4, -⟩ := hI
  have o : ∀ a, a ∈ [1, 2, 12, 13, 14, 15, 16, 17, 18, 19, 27, 28, 29, 30, 31, 32, 33, 35, 38, 43, 44, 45, 50, 51, 52, 53, 54] → M4 a = M a := fun a ha => by
    apply hoff <;> (rintro rfl; revert ha; decide)
  have hc4 : M4 20 2 = nI (c + 1) := by rw [hg, c2]; exact nI_1 c
  refine ⟨?_, hTn, hPs, ?_, ?_, ⟨c + 1, by omega, hc4, ?_⟩, B, b1, ?_, ?_, ?_, fun e => ?_⟩
  · rw [o 1 (by decide), o 2 (by decide), h42 18 (by decide) (by decide), o 54 (by decide)]; exact h1
  · rw [o 27 (by decide), o 28 (by decide), o 50 (by decide), o 51 (by decide)]; exact h4
  · rw [o 29 (by decide), o 30 (by decide), o 31 (by decide), h42 15 (by decide) (by decide), o 52 (by decide), o 53 (by decide)]; exact h5
  · rw [o 35 (by decide)]
    rcases c3 with c3 | ⟨q, q1, q2⟩
    · exact Or.inl c3
    · exact Or.inr ⟨q, by omega, q2⟩
  · rw [o 12 (by decide), o 13 (by decide), o 14 (by decide), o 15 (by decide), o 16 (by decide), o 17 (by decide), o 18 (by decide), o 19 (by decide)]; exact b2
  · rw [h42 1 (by decide) (by decide), h42 2 (by decide) (by decide), o 43 (by decide), o 44 (by decide), o 45 (by decide)]; exact b3
  · rw [o 32 (by decide), o 33 (by decide)]; exact b4
  · exfalso
    rw [o 35 (by decide), hc4] at e
    rcases c3 with c3 | ⟨q, q1, q2⟩
    · rw [c3] at e
      have := congrArg Int32.toInt e
      rw [nI_toInt (by omega)] at this
      have e1 : (-1 : Int32).toInt = -1 := rfl
      omega
    · rw [q2] at e
      have := (nI_eq (by omega) (by omega)).mp e
      omega
/-- nothing that counts has changed -/
theorem sp_I_0 {ch : Nat} {M : gl_N} (hI : sp_I WY PR ch M) : sp_I WY PR (ch + 1) (gl_u2 M 42 0 0) := by
  obtain ⟨h1, h2, h3, h4, h5, h6, h7⟩ := hI
  exact ⟨h1, h2, h3, h4, h5, h6.on, h7⟩
theorem s_plays (x : Int32) : sp_S WY PR l sc m_X10_plays m_X11_plays [.int x] := by
  rintro ch M hch hI
  obtain ⟨h1, ⟨n, hn, ha, hc, hj⟩, ⟨v, p, hk, hpc, hpr⟩, -⟩ := id hI
  refine e_X10_plays l sc M _ x ?_
  refine r_within (fun c1 c2 => ⟨1, rfl, fun _ => ⟨fun hlt => ?_, fun hlt => ?_⟩, fun h => absurd h (by decide)⟩) (fun c => ⟨0, rfl, fun h => absurd rfl h, fun _ => ?_⟩)
  · have hn' : n < 16 := by rw [ha] at hlt; exact (sp_lt (by omega) (by omega)).mp hlt
    refine r_remC hk hpc ha hn (fun M1 f1 g1 => ⟨rfl, ?_⟩)
    have e20 : M1 20 = M 20 := f1 20 (by decide) (by decide) (by decide)
    have e21 : M1 21 = M 21 := f1 21 (by decide) (by decide) (by decide)
    have e42 : M1 42 = M 42 := f1 42 (by decide) (by decide) (by decide)
    have e48 : M1 48 = M 48 := f1 48 (by decide) (by decide) (by decide)
    have e49 : M1 49 = M 49 := f1 49 (by decide) (by decide) (by decide)
    refine e_X8_append l sc M1 _ x ⟨by rw [e20, ha]; exact sp_vp hn' (by omega), rfl, _, rfl, ?_⟩
    refine e_X11_plays l sc _ _ x ?_
    refine r_in (fun _ _ => ⟨1, rfl, fun _ => ⟨fun hne => ?_, fun he => ?_⟩, fun h => absurd h (by decide)⟩) (fun c => absurd ⟨c1, c2⟩ c)
    · refine r_remR (v := v) (p := p) (n := n) (b := M 21) hk ?_ ?_ ?_ hn (fun M3 f3 g3 q3 => ⟨rfl, ?_⟩)
      · show sp_pr (M1 42 12) (M1 49) v p
        rw [e42, e49]; exact hpr
      · show M1 48 0 = nI n
        rw [e48]; exact hc
      · show ∀ j, j < n → M1 48 (1 + j) = M 21 j
        rw [e48]; exact fun j hj' => (hj j hj').1
      have k48 : M3 48 = M 48 := (f3 48 (by decide) (by decide)).trans e48
      have d0 : M3 48 0 + 1 = nI (n + 1) := by rw [k48, hc]; exact nI_1 n
      have k20 : M3 20 = upd (upd (M 20) 1 (nI (n + 1))) 2 (M 20 2 + 1) := by
        rw [f3 20 (by decide) (by decide)]
        show upd (upd (M1 20) 1 (M1 20 1 + 1)) 2 (M1 20 2 + 1) = _
        rw [e20, ha, nI_1]
      have k21 : M3 21 = upd (M 21) n x := by
        rw [f3 21 (by decide) (by decide)]
        show upd (M1 21) (M1 20 1).toNatClampNeg x = _
        rw [e21, e20, ha, sp_cl (by omega)]
      rw [d0, sp_cl (by omega)]
      refine ⟨sp_vp (by omega) (by omega), ?_, sp_I_tc hch hI (fun a a1 a2 a3 a4 a5 a6 a7 a8 => ?_) (fun j j1 j2 => ?_) ?_ ⟨n + 1, hn', ?_, ?_, ?_⟩ ⟨_, _, sp_pp_ok hk hn (fun j hj' => (hj j hj').2), ?_, ?_⟩⟩
      · show some (Value.int (if 0 = n + 1 then x else nI (n + 1))) = some (Value.int (M1 20 1 + 1))
        rw [if_neg (by omega), e20, ha, nI_1]
      · show (if a = 48 then _ else if a = 48 then _ else M3 a) = M a
        rw [if_neg a7, if_neg a7, f3 a a6 a8]
        show (if a = 42 then _ else if a = 20 then _ else if a = 20 then _ else if a = 21 then _ else M1 a) = M a
        rw [if_neg a6, if_neg a1, if_neg a1, if_neg a2]
        exact f1 a a3 a4 a5
      · show M3 42 j = M 42 j
        rw [g3 j j2]
        show (if j = 0 then _ else M1 42 j) = M 42 j
        rw [if_neg j1, e42]
      · show M3 20 2 = M 20 2 + 1
        rw [k20]; rfl
      · show M3 20 1 = nI (n + 1)
        rw [k20]; rfl
      · show (if 0 = n + 1 then x else nI (n + 1)) = nI (n + 1)
        rw [if_neg (by omega)]
      · show ∀ j, j < n + 1 → (if 1 + j = n + 1 then x else if 1 + j = 0 then nI (n + 1) else M3 48 (1 + j)) = M3 21 j ∧ sp_nt (M3 21 j)
        rw [k21, k48]
        intro j hj'
        simp only [upd]
        by_cases e : j = n
        · rw [if_pos (by omega), if_pos e]; exact ⟨rfl, c1, c2⟩
        · rw [if_neg (by omega), if_neg (by omega), if_neg e]; exact hj j (by omega)
      · show sp_pc (M3 22 1) (M3 22 2) (M3 24) (M3 25) _ _
        rw [f3 22 (by decide) (by decide), f3 24 (by decide) (by decide), f3 25 (by decide) (by decide)]
        exact g1
      · exact q3
    · exfalso
      have he : M1 48 0 = nI 16 := he
      rw [e48, hc] at he
      exact absurd ((sp_eq (by omega) (by omega)).mp he) (by omega)
  · have hn' : n = 16 := by
      rw [ha] at hlt
      have := mt (sp_lt (n := n) (N := 16) (by omega) (by omega)).mpr hlt
      omega
    refine ⟨_, rfl, e_X11_plays l sc _ _ x ?_⟩
    refine r_in (fun _ _ => ⟨1, rfl, fun _ => ⟨fun hne => absurd ?_ hne, fun he => ⟨rfl, sp_I_0 hI⟩⟩, fun h => absurd h (by decide)⟩) (fun c => absurd ⟨c1, c2⟩ c)
    show M 48 0 = nI 16
    rw [hc, hn']
  · refine ⟨_, rfl, e_X11_plays l sc _ _ x ?_⟩
    exact r_in (fun c1 c2 => absurd ⟨c1, c2⟩ c) (fun c => ⟨0, rfl, fun h => absurd rfl h, fun _ => ⟨rfl, sp_I_0 hI⟩⟩)
end SP5

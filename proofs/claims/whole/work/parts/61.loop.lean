section SP32
variable {l : Launch} {sc : Nat × (Nat → Int32)} {Q : Option Value → gl_N → Prop}
theorem lw_c0 {mc mr : gl_M} {as : List Value} {ch : Nat} {M : gl_N} {NX Z : gl_N → Prop} (h : sp_S sp_W sp_P l sc mc mr as) (hch : ch < 1000) (hI : sp_I sp_W sp_P ch M) (next : ∀ M', sp_I sp_W sp_P (ch + 1) M' → NX M') : gr l sc mc (.ref 0 :: as) M (fun r1 M2 => ∃ v3 : Int32, r1 = some (.int v3) ∧ (gr l sc mr (.ref 42 :: as) M2 (fun r4 M5 => ∃ v6 : Int32, r4 = some (.int v6) ∧ ((v3 = v6 → NX M5) ∧ (¬ v3 = v6 → Z M5))))) :=
  gr_mono (h ch M hch hI) (fun r1 M2 ⟨v, e, g⟩ => ⟨v, e, gr_mono g (fun r2 M3 ⟨e2, hI2⟩ => ⟨v, e2, fun _ => next M3 hI2, fun z => absurd rfl z⟩)⟩)
theorem lw_c1 {V : Prop} (hV : V) {mc mr : gl_M} {as : List Value} {ch : Nat} {M : gl_N} {NX Z : gl_N → Prop} (h : sp_S sp_W sp_P l sc mc mr as) (hch : ch < 1000) (hI : sp_I sp_W sp_P ch M) (next : ∀ M', sp_I sp_W sp_P (ch + 1) M' → NX M') : V ∧ gr l sc mc (.ref 0 :: as) M (fun r1 M2 => ∃ v3 : Int32, r1 = some (.int v3) ∧ (V ∧ gr l sc mr (.ref 42 :: as) M2 (fun r4 M5 => ∃ v6 : Int32, r4 = some (.int v6) ∧ ((v3 = v6 → NX M5) ∧ (¬ v3 = v6 → Z M5))))) :=
  ⟨hV, gr_mono (h ch M hch hI) (fun r1 M2 ⟨v, e, g⟩ => ⟨v, e, hV, gr_mono g (fun r2 M3 ⟨e2, hI2⟩ => ⟨v, e2, fun _ => next M3 hI2, fun z => absurd rfl z⟩)⟩)⟩
theorem sp_begin : sp_I sp_W sp_P 0 gl_M0 := by
  refine ⟨⟨0, Nat.zero_le _, rfl, rfl, fun j h => absurd h (Nat.not_lt_zero _)⟩, ⟨0, Nat.zero_le _, rfl, rfl, fun j h => absurd h (Nat.not_lt_zero _)⟩, ⟨0, fun _ => (0, fun _ => 0), ⟨Nat.zero_le _, fun i h => absurd h (Nat.not_lt_zero _)⟩, ⟨0, by omega, rfl, rfl, fun i h => absurd h (Nat.not_lt_zero _)⟩, rfl, fun i h => absurd h (Nat.not_lt_zero _)⟩, fun i h => Or.inl ⟨?_, rfl⟩, ⟨0, Nat.zero_le _, rfl, rfl, fun j h => absurd h (Nat.not_lt_zero _)⟩, ⟨0, Nat.zero_le _, rfl, Or.inl rfl⟩, rd_0, rd_0_wf, ⟨rfl, rfl, fun c h => absurd h (Nat.not_lt_zero _), fun m h => absurd h (Nat.not_lt_zero _)⟩, ⟨rfl, rfl, fun c h => absurd h (Nat.not_lt_zero _), fun m h => absurd h (Nat.not_lt_zero _)⟩, Or.inl rfl, fun z => ?_⟩
  · have : i = 0 ∨ i = 1 := by omega
    rcases this with z | z
    · rw [z]; rfl
    · rw [z]; rfl
  · exact absurd z (show ¬ (-1 : Int32) = 0 by decide)
theorem law_ok (l : Launch) (sc : Nat × (Nat → Int32)) (hL : sc.1 ≤ 2048) : gv l sc m_L_law 18 [.long 0, .ref 0, .ref 42, .int 0] [] gl_M0 (fun r _ => r = some (.int 1)) := by
  have key : ∀ (r ch : Nat) (M : gl_N), sc.1 < 4 * (ch + r) + 4 → ch ≤ 1000 → sp_I sp_W sp_P ch M → gv l sc m_L_law 18 [.long 0, .ref 0, .ref 42, .int (nI (4 * ch))] [] M (fun r _ => r = some (.int 1)) := by
    intro r
    induction r with
    | zero =>
      intro ch M hr hc hI
      refine w_L_law_18 l sc M _ _ ⟨fun _ => rfl, fun z => absurd ?_ z⟩
      show nI sc.1 - nI 4 < nI (4 * ch)
      by_cases h4 : 4 ≤ sc.1
      · rw [sp_subI h4]
        exact (sp_lt (by omega) (by omega)).mpr (by omega)
      · exact Int32.not_le.mp (fun q => sp_sub_neg (x := sc.1) (y := 4) (by omega) (by omega) (by omega) (Int32.le_trans (nI_pos' (by omega)) q))
    | succ r ih =>
      intro ch M hr hc hI
      refine w_L_law_18 l sc M _ _ ⟨fun _ => rfl, fun z => ?_⟩
      have z : ¬ nI sc.1 - nI 4 < nI (4 * ch) := z
      have h4 : 4 ≤ sc.1 := by
        by_cases h4 : 4 ≤ sc.1
        · exact h4
        · exact absurd (Int32.not_le.mp (fun q => sp_sub_neg (x := sc.1) (y := 4) (by omega) (by omega) (by omega) (Int32.le_trans (nI_pos' (by omega)) q))) z
      rw [sp_subI h4] at z
      have hlt : 4 * ch + 4 ≤ sc.1 := by
        have : ¬ sc.1 - 4 < 4 * ch := fun q => z ((sp_lt (by omega) (by omega)).mpr q)
        omega
      have v0 : vp_in (nI (4 * ch)) sc.1 := sp_vp (by omega) (by omega)
      have v1 : vp_in (nI (4 * ch) + 1) sc.1 := by rw [nI_1]; exact sp_vp (by omega) (by omega)
      have v2 : vp_in (nI (4 * ch) + 2) sc.1 := by rw [show (2 : Int32) = nI 2 from rfl, nI_add]; exact sp_vp (by omega) (by omega)
      have v3 : vp_in (nI (4 * ch) + 3) sc.1 := by rw [show (3 : Int32) = nI 3 from rfl, nI_add]; exact sp_vp (by omega) (by omega)
      have hch : ch < 1000 := by omega
      have next : ∀ M', sp_I sp_W sp_P (ch + 1) M' → gv l sc m_L_law 18 [.long 0, .ref 0, .ref 42, .int (nI (4 * ch) + 4)] [] M' (fun r _ => r = some (.int 1)) := fun M' h => by
        rw [show nI (4 * ch) + 4 = nI (4 * (ch + 1)) from nI_add (4 * ch) 4]
        exact ih (ch + 1) M' (by omega) (by omega) h
      have stay : gv l sc m_L_law 18 [.long 0, .ref 0, .ref 42, .int (nI (4 * ch) + 4)] [] M (fun r _ => r = some (.int 1)) := by
        refine next M ?_
        obtain ⟨i1, i2, i3, i4, i5, i6, i7⟩ := hI
        exact ⟨i1, i2, i3, i4, i5, i6.on, i7⟩
      refine ⟨v0, ?_⟩
      refine ⟨?_, ?_, ?_, ?_, ?_, ?_, ?_, ?_, ?_, ?_, ?_, ?_, ?_, ?_, ?_, ?_, ?_, ?_, ?_, ?_, ?_, ?_, ?_, ?_, ?_, ?_, ?_⟩
      · exact fun _ => lw_c1 v1 (s_type _) hch hI next
      · exact fun _ => lw_c0 s_clear hch hI next
      · exact fun _ => lw_c0 s_modes hch hI next
      · exact fun _ => lw_c1 ⟨v1, v2⟩ (s_cell _ _) hch hI next
      · exact fun _ => lw_c1 ⟨v1, v2, v3⟩ (s_part _ _ _) hch hI next
      · exact fun _ => lw_c1 v1 (s_plays _) hch hI next
      · exact fun _ => lw_c0 s_cuts hch hI next
      · exact fun _ => lw_c1 ⟨v1, v2⟩ (s_mends _ _) hch hI next
      · exact fun _ => lw_c1 v1 (s_moves _) hch hI next
      · exact fun _ => lw_c0 s_undo hch hI next
      · exact fun _ => lw_c1 v1 (s_note _) hch hI next
      · exact fun _ => lw_c1 ⟨v1, v2⟩ (s_has _ _) hch hI next
      · exact fun _ => lw_c1 ⟨v1, v2, v3⟩ (s_shares _ _ _) hch hI next
      · exact fun _ => lw_c1 ⟨v1, v2, v3⟩ (s_way _ _ _) hch hI next
      · exact fun _ => lw_c1 ⟨v1, v2⟩ (s_farthest _ _) hch hI next
      · exact fun _ => lw_c1 v1 (s_parse _) hch hI next
      · exact fun _ => lw_c1 ⟨v1, v2⟩ (s_parsed _ _) hch hI next
      · exact fun _ => lw_c0 s_reach hch hI next
      · exact fun _ => lw_c1 v1 (s_fit _) hch hI next
      · exact fun _ => lw_c0 s_home hch hI next
      · exact fun _ => lw_c1 ⟨v1, v2⟩ (s_sees _ _) hch hI next
      · exact fun _ => lw_c0 s_forget hch hI next
      · exact fun _ => lw_c0 s_unseen hch hI next
      · exact fun _ => lw_c1 v1 (s_keep _) hch hI next
      · exact fun _ => lw_c1 v1 (s_back _) hch hI next
      · exact fun _ => lw_c1 v1 (s_count _) hch hI next
      · exact fun _ _ _ _ _ _ _ _ _ _ _ _ _ _ _ _ _ _ _ _ _ _ _ _ _ _ => stay
  exact key 600 0 gl_M0 (by omega) (by omega) sp_begin
end SP32

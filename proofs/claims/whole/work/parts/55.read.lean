section SP26
variable {l : Launch} {sc : Nat × (Nat → Int32)} {Q : Option Value → gl_N → Prop} {B : sp_B} {N : Nat} {T : Nat → Nat}
theorem rd_c_flt : ∀ (r k p : Nat) (st : Nat → Nat) {q : Nat}, p ≤ N → rd_c N T r k p st = .inr q → q ≤ N := by
  intro r
  induction r with
  | zero =>
    intro k p st q hp h
    have hs := rd_s_le (T := T) hp
    simp only [rd_c] at h
    split at h
    · cases h
    · cases h; exact hs.2
  | succ r ih =>
    intro k p st q hp h
    have hs := rd_s_le (T := T) hp
    simp only [rd_c] at h
    split at h
    · cases h
    · split at h
      · cases h; exact hs.2
      · rename_i d hd
        exact ih _ _ _ (rd_n_some hd).1 h
theorem rd_m_flt : ∀ (r k p : Nat) (pl ph : Nat → Nat) {q : Nat}, p ≤ N → rd_m N T B r k p pl ph = .inr q → q ≤ N := by
  intro r
  induction r with
  | zero =>
    intro k p pl ph q hp h
    have hs := rd_s_le (T := T) hp
    simp only [rd_m] at h
    split at h
    · cases h
    · cases h; exact hs.2
  | succ r ih =>
    intro k p pl ph q hp h
    have hs := rd_s_le (T := T) hp
    simp only [rd_m] at h
    split at h
    · cases h
    · split at h
      · cases h; exact hs.2
      · rename_i g hg
        have hs2 := rd_s_le (T := T) (N := N) (p := rd_s N T p + 1) (rd_n_some hg).1
        split at h
        · cases h; exact hs2.2
        · rename_i c hc
          exact ih _ _ _ _ (rd_n_some hc).1 h
theorem rd_i_flt {p q : Nat} (hp : p < N) (h : rd_i N T B p = .inr q) : q ≤ N := by
  unfold rd_i at h
  split at h
  · split at h
    · cases h
    · rename_i he
      cases h
      exact rd_c_flt 4 0 (p + 1) _ (by omega) he
  · split at h
    · have hs := rd_s_le (T := T) (N := N) (p := p + 1) (by omega)
      split at h
      · cases h; exact hs.2
      · rename_i c hc
        split at h
        · cases h
        · rename_i he
          cases h
          exact rd_m_flt 3 1 _ _ _ (rd_n_some hc).1 he
    · cases h; omega
def rd_0 : sp_B := (0, fun _ => 0, fun _ _ => 0, 0, fun _ => 0, fun _ _ => 0, fun _ _ => 0)
theorem rd_0_wf : sp_wf rd_0 := ⟨Nat.zero_le _, fun c hc => absurd hc (Nat.not_lt_zero _), Nat.zero_le _, fun m hm => absurd hm (Nat.not_lt_zero _)⟩
theorem r_read {M : gl_N} (hT : rd_T N T M) (K1 : ∀ M' i B', rd_a N T 130 0 (rd_s N T 0) rd_0 = .inl (i, B') → rd_F M M' → sp_CD B' M' → sp_wf B' → i ≤ 130 → Q (some (.int (nI i))) M') (K0 : ∀ M' q, rd_a N T 130 0 (rd_s N T 0) rd_0 = .inr q → q ≤ N → rd_F M M' → Q (some (.int (-10 - nI q))) M') : gr l sc m_X4_read [.ref 11] M Q := by
  have hN := hT.1
  have key : ∀ (f i p : Nat) (B : sp_B) (M1 : gl_N), i + f = 130 → p ≤ N → i ≤ p → sp_wf B → rd_F M M1 → M1 11 2 = nI p → M1 11 3 = -1 → sp_CD B M1 → (∀ M' i' B', rd_a N T f i p B = .inl (i', B') → rd_F M M' → sp_CD B' M' → sp_wf B' → i' ≤ 130 → Q (some (.int (nI i'))) M') → (∀ M' q, rd_a N T f i p B = .inr q → q ≤ N → rd_F M M' → Q (some (.int (-10 - nI q))) M') → gv l sc m_X4_read 25 [.ref 11, .int (nI i), .int (nI i)] [] M1 Q := by
    intro f
    induction f with
    | zero =>
      intro i p B M1 hi hp hip hw h1 h2 h3 h4 K1 K0
      have : i = 130 := by omega
      subst this
      exact w_X4_read_25 l sc M1 Q _ _ ⟨fun _ => ⟨fun q => absurd h3 q, fun _ => K1 M1 _ _ rfl h1 h4 hw (Nat.le_refl _)⟩, fun q => absurd (show nI 130 ≤ nI 130 from Int32.le_refl _) q⟩
    | succ f ih =>
      intro i p B M1 hi hp hip hw h1 h2 h3 h4 K1 K0
      refine w_X4_read_25 l sc M1 Q _ _ ⟨fun q => absurd q (sp_le_lit (N := 130) (by omega) (by omega) (by omega)), fun _ => ?_⟩
      have hT1 := h1.tx hT
      rw [hT1.2.1, h2, sp_le (by omega) (by omega)]
      refine ⟨fun q => ⟨fun z => absurd h3 z, fun _ => K1 M1 i B ?_ h1 h4 hw (by omega)⟩, fun q => ⟨fun z => absurd h3 z, fun _ => ?_⟩⟩
      · simp only [rd_a]; rw [if_pos q]
      · refine r_readItem hw hT1 h4 (by omega) h2 h3 (fun M2 p' B' e g1 g2 g3 g4 => ⟨rfl, ?_⟩) (fun M2 q2 p' e g1 g2 g3 g4 => ⟨rfl, ?_⟩)
        · obtain ⟨o1, o2, o3⟩ := rd_i_ok hw (by omega) e
          have hs := rd_s_le (T := T) o2
          refine r_skip ((h1.tr g1).tx hT) o2 g2 (fun M3 k1 k2 k3 => ⟨rfl, ?_⟩)
          rw [nI_1]
          refine ih (i + 1) (rd_s N T p') B' M3 (by omega) hs.2 (by omega) o3 ((h1.tr g1).tr k1.F) k2 (by rw [k3]; exact g3) (k1.D g4) (fun M' i' B2 he => K1 M' i' B2 ?_) (fun M' q' he => K0 M' q' ?_)
          · simp only [rd_a]; rw [if_neg q, e]; exact he
          · simp only [rd_a]; rw [if_neg q, e]; exact he
        · have hq := rd_i_flt (by omega) e
          refine r_skip ((h1.tr g1).tx hT) g2 g3 (fun M3 k1 k2 k3 => ⟨rfl, ?_⟩)
          have e3 : M3 11 3 = nI q2 := by rw [k3]; exact g4
          have hne : ¬ M3 11 3 = -1 := by rw [e3]; exact sp_neg1 (by omega)
          have fin : Q (some (.int (-10 - M3 11 3))) M3 := by
            rw [e3]
            refine K0 M3 q2 ?_ hq ((h1.tr g1).tr k1.F)
            simp only [rd_a]; rw [if_neg q, e]
          exact w_X4_read_25 l sc M3 Q _ _ ⟨fun _ => ⟨fun _ => fin, fun z => absurd z hne⟩, fun _ => ⟨fun _ => ⟨fun _ => fin, fun z => absurd z hne⟩, fun _ => ⟨fun _ => ⟨fun _ => fin, fun z => absurd z hne⟩, fun z => absurd z hne⟩⟩⟩
  refine e_X4_read l sc M Q (e_X0_dropAll l sc M _ ⟨rfl, ?_⟩)
  have hs := rd_s_le (T := T) (N := N) (p := 0) (Nat.zero_le _)
  refine r_skip (N := N) (T := T) (p := 0) (hT.mv rfl rfl) (Nat.zero_le _) rfl (fun M2 g1 g2 g3 => ⟨rfl, ?_⟩)
  refine key 130 0 _ rd_0 M2 (by omega) hs.2 (Nat.zero_le _) rd_0_wf (fun a ha => ?_) g2 g3 (g1.D ?_) K1 K0
  · rw [g1 a (by omega)]; simp [gl_u2, gl_u1, show a ≠ 11 by omega, show a ≠ 3 by omega]
  · exact ⟨rfl, rfl, fun c hc => absurd hc (Nat.not_lt_zero _), fun m hm => absurd hm (Nat.not_lt_zero _)⟩
end SP26

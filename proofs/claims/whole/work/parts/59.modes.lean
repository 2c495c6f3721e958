section SP30
variable {PR : sp_PR} {l : Launch} {sc : Nat × (Nat → Int32)} {Q : Option Value → gl_N → Prop} {B : sp_B} {N : Nat} {T : Nat → Nat}
theorem rd_r.rf (M : gl_N) : rd_r M M := ⟨fun _ _ _ _ => rfl, fun _ _ _ _ _ _ => rfl⟩
theorem r_modesR {M : gl_N} (hU : rd_U N T M)
    (K1 : ∀ M' M1 i B', rd_a N T 130 0 (rd_s N T 0) rd_0 = .inl (i, B') → rd_r (gl_u2 M 42 0 0) M1 → (∀ a, a ≠ 42 → a ≠ 43 → a ≠ 44 → a ≠ 45 → a ≠ 48 → a ≠ 51 → M' a = M1 a) → (∀ i, i ≠ 1 → i ≠ 2 → i ≠ 12 → i ≠ 15 → M' 42 i = M1 42 i) → sp_R B' (M' 42 1) (M' 42 2) (M' 43) (M' 44) (M' 45) → M' 48 0 = 0 → M' 42 12 = 0 → M' 42 15 = 0 → M' 51 0 = 0 → M' 51 1 = 0 → Q (some (.int (nI i))) (gl_u2 M' 42 18 0))
    (K0 : ∀ M' q, rd_a N T 130 0 (rd_s N T 0) rd_0 = .inr q → rd_r (gl_u2 M 42 0 0) M' → Q (some (.int (-10 - nI q))) M') : gr l sc m_X11_modes [.ref 42] M Q := by
  have hN := hU.1
  have h255 : ∀ j, j < N → T j ≤ 255 := fun j hj => (hU.2.2 j hj).2
  have key : ∀ (f i p : Nat) (B : sp_B) (M1 : gl_N), i + f = 130 → p ≤ N → i ≤ rd_s N T p → sp_wf B → rd_r (gl_u2 M 42 0 0) M1 → rd_la N T p M1 → sp_RD B M1 → (∀ i' B', rd_a N T f i (rd_s N T p) B = .inl (i', B') → rd_a N T 130 0 (rd_s N T 0) rd_0 = .inl (i', B')) → (∀ q, rd_a N T f i (rd_s N T p) B = .inr q → rd_a N T 130 0 (rd_s N T 0) rd_0 = .inr q) → gv l sc m_X11_modes 26 [.ref 42, .int (nI i), .float 0] [] M1 Q := by
    intro f
    induction f with
    | zero =>
      intro i p B M1 hi hp hip hw h1 h2 h3 E1 E0
      have hs := rd_s_le (T := T) hp
      have hend : M1 42 22 = -1 := by rw [h2.2.1]; exact (rd_t_end h255).mpr (by omega)
      exact w_X11_modes_26 l sc M1 Q _ ⟨fun _ => r_becomes hw h3 (fun M2 g1 g2 g3 g4 g5 g6 g7 g8 => ⟨rfl, K1 M2 M1 i B (E1 _ _ rfl) h1 g1 g2 g3 g4 g5 g6 g7 g8⟩), fun z => absurd hend z⟩
    | succ f ih =>
      intro i p B M1 hi hp hip hw h1 h2 h3 E1 E0
      have hs := rd_s_le (T := T) hp
      have hc6 : B.1 ≤ 6 := hw.1
      have hm6 : B.2.2.2.1 ≤ 6 := hw.2.2.1
      have hU1 : rd_U N T M1 := h1.u hU
      have nextI : ∀ (M2 : gl_N) (p' : Nat) (B' : sp_B), ¬ N ≤ rd_s N T p → rd_i N T B (rd_s N T p) = .inl (p', B') → rd_r M1 M2 → M2 42 20 = nI p' → sp_RD B' M2 → gr l sc m_X11_takes [.ref 42] M2 (fun r6 M7 => r6 = none ∧ (gv l sc m_X11_modes 26 [.ref 42, .int (nI i + 1), .float 0] [] M7 Q)) := fun M2 p' B' hlt e g1 g2 g3 => by
        obtain ⟨o1, o2, o3⟩ := rd_i_ok hw (by omega) e
        have hs2 := rd_s_le (T := T) o2
        refine r_takes ((h1.tr g1).u hU) o2 g2 (fun M3 k1 k2 => ⟨rfl, ?_⟩)
        rw [nI_1]
        refine ih (i + 1) p' B' M3 (by omega) o2 (by omega) o3 ((h1.tr g1).tr k1.r) k2 (k1.d g3) (fun i' B2 he => E1 i' B2 ?_) (fun q he => E0 q ?_)
        · simp only [rd_a]; rw [if_neg hlt, e]; exact he
        · simp only [rd_a]; rw [if_neg hlt, e]; exact he
      have faultI : ∀ (M2 : gl_N) (q : Nat), ¬ N ≤ rd_s N T p → rd_i N T B (rd_s N T p) = .inr q → rd_r M1 M2 → M2 42 21 = nI q → Q (some (.int (-10 - M2 42 21))) M2 := fun M2 q hlt e g1 g2 => by
        rw [g2]
        refine K0 M2 q (E0 q ?_) (h1.tr g1)
        simp only [rd_a]; rw [if_neg hlt, e]
      refine w_X11_modes_26 l sc M1 Q _ ⟨fun z => ?_, fun z => ?_⟩
      · rw [h2.2.1] at z
        have hle := (rd_t_end h255).mp z
        refine r_becomes hw h3 (fun M2 g1 g2 g3 g4 g5 g6 g7 g8 => ⟨rfl, K1 M2 M1 i B (E1 _ _ ?_) h1 g1 g2 g3 g4 g5 g6 g7 g8⟩)
        simp only [rd_a]; rw [if_pos hle]
      · rw [h2.2.1] at z
        have hlt : ¬ N ≤ rd_s N T p := fun q => z ((rd_t_end h255).mpr q)
        have t99 : M1 42 22 = 99 ↔ T (rd_s N T p) = 99 := by rw [h2.2.1]; exact (rd_t_eq (x := 99) h255 (by omega) (by omega)).trans ⟨fun q => q.2, fun q => ⟨by omega, q⟩⟩
        have t109 : M1 42 22 = 109 ↔ T (rd_s N T p) = 109 := by rw [h2.2.1]; exact (rd_t_eq (x := 109) h255 (by omega) (by omega)).trans ⟨fun q => q.2, fun q => ⟨by omega, q⟩⟩
        rw [t99, t109]
        refine ⟨fun q => ⟨fun q2 => faultI M1 _ hlt ?_ (rd_r.rf _) h2.1, fun q2 => ?_⟩, fun q => ?_⟩
        · unfold rd_i; rw [if_neg (fun w => q w.1), if_neg (fun w => q2 w.1)]
        · have hn20 := h2.2.2 (by omega) (fun w => by have := w.1; omega)
          by_cases hm : B.2.2.2.1 < 6
          · have hpos : T (rd_s N T p) = 109 ∧ B.2.2.2.1 < 6 := ⟨q2, hm⟩
            refine r_readsMode hw hU1 h3 hm (p := rd_s N T p + 1) (by omega) hn20 (fun M2 c p' k pl ph ec em g1 g2 g3 g4 => ⟨_, rfl, fun w => absurd w (by decide), fun _ => ⟨fun _ => nextI M2 p' _ hlt ?_ g1 g3 g4, fun w => absurd g2 w⟩⟩) (fun M2 qq v eq g1 g2 g3 => ⟨_, rfl, ?_⟩)
            · unfold rd_i; rw [if_neg (fun w => q w.1), if_pos hpos, ec]; simp only []; rw [em]
            · have ei : rd_i N T B (rd_s N T p) = .inr qq := by
                unfold rd_i; rw [if_neg (fun w => q w.1), if_pos hpos]
                rcases eq with ⟨z1, z2⟩ | ⟨c, z1, z2⟩
                · rw [z1, z2]
                · rw [z1]; simp only []; rw [z2]
              refine ⟨fun _ => faultI M2 qq hlt ei g1 g2, fun w => ⟨fun w2 => ?_, fun _ => faultI M2 qq hlt ei g1 g2⟩⟩
              rcases g3 with g3 | g3
              · exact absurd g3 w
              · exact absurd w2 g3
          · refine e_X11_readsMode l sc M1 _ ⟨fun w => absurd (by rw [h3.2.1, show B.2.2.2.1 = 6 by omega]; rfl) w, fun _ => ⟨_, rfl, fun _ => faultI M1 _ hlt ?_ (rd_r.rf _) h2.1, fun w => absurd rfl w⟩⟩
            unfold rd_i; rw [if_neg (fun w => q w.1), if_neg (fun w => hm w.2)]
        · have hn20 := h2.2.2 (by omega) (fun w => by have := w.1; omega)
          by_cases hc : B.1 < 6
          · have hpos : T (rd_s N T p) = 99 ∧ B.1 < 6 := ⟨q, hc⟩
            refine r_readsCell hw hU1 h3 hc (p := rd_s N T p + 1) (by omega) hn20 (fun M2 p' k st ec g1 g2 g3 g4 => ⟨_, rfl, fun w => absurd w (by decide), fun _ => ⟨fun _ => nextI M2 p' _ hlt ?_ g1 g3 g4, fun w => absurd g2 w⟩⟩) (fun M2 qq v eq g1 g2 g3 => ⟨_, rfl, ?_⟩)
            · unfold rd_i; rw [if_pos hpos, ec]
            · have ei : rd_i N T B (rd_s N T p) = .inr qq := by unfold rd_i; rw [if_pos hpos, eq]
              refine ⟨fun _ => faultI M2 qq hlt ei g1 g2, fun w => ⟨fun w2 => ?_, fun _ => faultI M2 qq hlt ei g1 g2⟩⟩
              rcases g3 with g3 | g3
              · exact absurd g3 w
              · exact absurd w2 g3
          · refine e_X11_readsCell l sc M1 _ ⟨fun w => absurd (by rw [h3.1, show B.1 = 6 by omega]; rfl) w, fun _ => ⟨_, rfl, fun _ => faultI M1 _ hlt ?_ (rd_r.rf _) h2.1, fun w => absurd rfl w⟩⟩
            unfold rd_i; rw [if_neg (fun w => hc w.2), if_neg (fun w => by omega)]
  refine e_X11_modes l sc M Q ?_
  have hr0 : rd_r (gl_u2 M 42 0 0) (gl_u2 (gl_u2 (gl_u2 (gl_u2 M 42 0 0) 42 6 0) 42 7 0) 42 20 0) := ⟨fun a a1 _ _ => by simp [gl_u2, gl_u1, a1], fun i i1 i2 i3 _ _ => by
    show (if i = 20 then (0 : Int32) else if i = 7 then 0 else if i = 6 then 0 else upd (M 42) 0 0 i) = upd (M 42) 0 0 i
    rw [if_neg i3, if_neg i2, if_neg i1]⟩
  refine r_takes (N := N) (T := T) (p := 0) (hr0.u hU) (Nat.zero_le _) rfl (fun M1 k1 k2 => ⟨rfl, ?_⟩)
  refine key 130 0 0 rd_0 M1 (by omega) (Nat.zero_le _) (Nat.zero_le _) rd_0_wf (hr0.tr k1.r) k2 (k1.d ?_) (fun _ _ he => he) (fun _ he => he)
  exact ⟨rfl, rfl, fun c hc => absurd hc (Nat.not_lt_zero _), fun m hm => absurd hm (Nat.not_lt_zero _)⟩
theorem va_all {f g : Nat → Int32} {n j : Nat} (h : j < n) : va_cpy f g 0 0 n j = f j := by
  simp only [va_cpy]
  rw [if_pos (by omega)]
  congr 1
  omega
theorem sp_neg10 {q : Nat} (hq : q ≤ 1000) : ¬ (0 : Int32) ≤ -10 - nI q := by
  intro z
  have e : (-10 : Int32) - nI q = -nI (10 + q) := by
    rw [show (-10 : Int32) = -nI 10 from rfl, ← nI_add 10 q, Int32.neg_add]
  rw [e] at z
  have a := Int32.le_iff_toInt_le.mp z
  rw [Int32.toInt_neg, nI_toInt (by omega)] at a
  have z0 : (0 : Int32).toInt = 0 := rfl
  rw [z0, Int.bmod_eq_of_le (by omega) (by omega)] at a
  omega
end SP30

section SP28
variable {l : Launch} {sc : Nat × (Nat → Int32)} {Q : Option Value → gl_N → Prop} {B : sp_B} {N : Nat} {T : Nat → Nat}
/-- what the reference has read -/
def sp_RD (B : sp_B) (M : gl_N) : Prop := M 42 6 = nI B.1 ∧ M 42 7 = nI B.2.2.2.1 ∧
  (∀ c, c < B.1 → M 46 (5 * c) = nI (B.2.1 c) ∧ ∀ k, k < B.2.1 c → M 46 (5 * c + 1 + k) = nI (B.2.2.1 c k)) ∧
  ∀ m, m < B.2.2.2.1 → M 47 (9 * m) = nI (B.2.2.2.2.1 m) ∧ ∀ k, k < B.2.2.2.2.1 m → M 47 (9 * m + 2 + 2 * k) = nI (B.2.2.2.2.2.1 m k) ∧ ∃ g, M 47 (9 * m + 1 + 2 * k) = nI g ∧ (k = 0 → g = 0) ∧ ∀ i, k = i + 1 → B.2.2.2.2.2.2 m k = B.2.2.2.2.2.2 m i + sp_ht B (B.2.2.2.2.2.1 m i) (B.2.1 (B.2.2.2.2.2.1 m i)) + g
theorem rd_q.d {A C : gl_N} (h : rd_q A C) (k : sp_RD B A) : sp_RD B C := by
  unfold sp_RD
  rw [h.2 6 (by omega) (by omega) (by omega), h.2 7 (by omega) (by omega) (by omega), h.1 46 (by omega), h.1 47 (by omega)]
  exact k
theorem r_readsCell {M : gl_N} (hw : sp_wf B) (hU : rd_U N T M) (hD : sp_RD B M) (hc : B.1 < 6) {p : Nat} (hp : p ≤ N) (h20 : M 42 20 = nI p)
    (K1 : ∀ M' p' k st, rd_c N T 4 0 p (fun _ => 0) = .inl (p', k, st) → rd_r M M' → M' 42 22 = 59 → M' 42 20 = nI p' → sp_RD (rd_ac B k st) M' → Q (some (.int 1)) M')
    (K0 : ∀ M' q v, rd_c N T 4 0 p (fun _ => 0) = .inr q → rd_r M M' → M' 42 21 = nI q → (v = 0 ∨ ¬ M' 42 22 = 59) → Q (some (.int v)) M') : gr l sc m_X11_readsCell [.ref 42] M Q := by
  have hN := hU.1
  have h255 : ∀ j, j < N → T j ≤ 255 := fun j hj => (hU.2.2 j hj).2
  obtain ⟨d1, d2, d3, d4⟩ := id hD
  have t59 : ∀ q, rd_t N T q = 59 ↔ q < N ∧ T q = 59 := fun q => rd_t_eq (x := 59) h255 (by omega) (by omega)
  refine e_X11_readsCell l sc M Q ⟨fun _ => ?_, fun z => ?_⟩
  · refine r_takes hU hp h20 (fun M0 f1 f2 => ⟨rfl, ?_⟩)
    have e6 : M 42 6 = nI B.1 := d1
    rw [e6, show (5 : Int32) * nI B.1 = nI (5 * B.1) by rw [show (5 : Int32) = nI 5 from rfl, sp_mul]]
    have fin : ∀ (k : Nat) (st : Nat → Nat) (M1 : gl_N), rd_r M M1 → M1 42 6 = nI B.1 → M1 42 7 = M 42 7 → (∀ j, j < 5 * B.1 → M1 46 j = M 46 j) → M1 47 = M 47 → (∀ j, j < k → M1 46 (5 * B.1 + 1 + j) = nI (st j)) → rd_r M (gl_u2 (gl_u2 M1 46 (5 * B.1) (nI k)) 42 6 (M1 42 6 + 1)) ∧ sp_RD (rd_ac B k st) (gl_u2 (gl_u2 M1 46 (5 * B.1) (nI k)) 42 6 (M1 42 6 + 1)) := by
      intro k st M1 g1 g6 g7 g2 g3 g4
      refine ⟨⟨fun a a1 a2 a3 => ?_, fun i i1 i2 i3 i4 i5 => ?_⟩, ?_, ?_, fun c hcl => ?_, fun m hm => ?_⟩
      · rw [← g1.1 a a1 a2 a3]; simp [gl_u2, gl_u1, a1, a2]
      · rw [← g1.2 i i1 i2 i3 i4 i5]
        show (if i = 6 then M1 42 6 + 1 else M1 42 i) = M1 42 i
        rw [if_neg i1]
      · show M1 42 6 + 1 = nI (B.1 + 1)
        rw [g6, nI_1]
      · show M1 42 7 = nI B.2.2.2.1
        rw [g7]; exact d2
      · have hcl : c < B.1 + 1 := hcl
        show (if 5 * c = 5 * B.1 then nI k else M1 46 (5 * c)) = nI (if c = B.1 then k else B.2.1 c) ∧ ∀ j, j < (if c = B.1 then k else B.2.1 c) → (if 5 * c + 1 + j = 5 * B.1 then nI k else M1 46 (5 * c + 1 + j)) = nI ((if c = B.1 then st else B.2.2.1 c) j)
        by_cases e : c = B.1
        · simp only [if_pos e]
          refine ⟨if_pos (by omega), fun j hj => ?_⟩
          rw [if_neg (by omega), e]
          exact g4 j hj
        · simp only [if_neg e]
          have h4 := (hw.2.1 c (by omega)).2.1
          refine ⟨?_, fun j hj => ?_⟩
          · rw [if_neg (by omega), g2 _ (by omega)]; exact (d3 c (by omega)).1
          · rw [if_neg (by omega), g2 _ (by omega)]; exact (d3 c (by omega)).2 j hj
      · show M1 47 (9 * m) = nI (B.2.2.2.2.1 m) ∧ ∀ j, j < B.2.2.2.2.1 m → M1 47 (9 * m + 2 + 2 * j) = nI (B.2.2.2.2.2.1 m j) ∧ ∃ g, M1 47 (9 * m + 1 + 2 * j) = nI g ∧ (j = 0 → g = 0) ∧ ∀ i, j = i + 1 → B.2.2.2.2.2.2 m j = B.2.2.2.2.2.2 m i + sp_ht (rd_ac B k st) (B.2.2.2.2.2.1 m i) (if B.2.2.2.2.2.1 m i = B.1 then k else B.2.1 (B.2.2.2.2.2.1 m i)) + g
        obtain ⟨q1, q2⟩ := d4 m hm
        rw [g3]
        refine ⟨q1, fun j hj => ?_⟩
        obtain ⟨r1, g, r2, r3, r4⟩ := q2 j hj
        refine ⟨r1, g, r2, r3, fun i hi => ?_⟩
        have := (hw.2.2.2 m hm).2.2.2.1 i (by omega)
        rw [if_neg (by omega), sp_ht_ac (by omega)]
        exact r4 i hi
    have key : ∀ (r k p : Nat) (st : Nat → Nat) (M1 : gl_N), k + r = 4 → p ≤ N → rd_r M M1 → M1 42 6 = nI B.1 → M1 42 7 = M 42 7 → (∀ j, j < 5 * B.1 → M1 46 j = M 46 j) → M1 47 = M 47 → (∀ j, j < k → M1 46 (5 * B.1 + 1 + j) = nI (st j)) → rd_la N T p M1 → (∀ M' p' k' st', rd_c N T r k p st = .inl (p', k', st') → rd_r M M' → M' 42 22 = 59 → M' 42 20 = nI p' → sp_RD (rd_ac B k' st') M' → Q (some (.int 1)) M') → (∀ M' q v, rd_c N T r k p st = .inr q → rd_r M M' → M' 42 21 = nI q → (v = 0 ∨ ¬ M' 42 22 = 59) → Q (some (.int v)) M') → gv l sc m_X11_readsCell 24 [.ref 42, .int (nI (5 * B.1)), .int (nI k)] [] M1 Q := by
      intro r
      induction r with
      | zero =>
        intro k p st M1 hk hp g1 g6 g7 g2 g3 g4 g5 K1 K0
        have : k = 4 := by omega
        subst this
        refine w_X11_readsCell_24 l sc M1 Q _ _ ⟨fun _ => ⟨sp_vp (by omega) (by omega), fun z => absurd z (by decide), fun _ => ⟨fun z => absurd z (by decide), fun _ => ?_⟩⟩, fun q => absurd (show nI 4 ≤ nI 4 from Int32.le_refl _) q⟩
        rw [sp_cl (n := 5 * B.1) (by omega)]
        obtain ⟨x1, x2⟩ := fin 4 st M1 g1 g6 g7 g2 g3 g4
        by_cases e : rd_e N T p
        · refine K1 _ (rd_s N T p + 1) _ _ ?_ x1 ?_ ?_ x2
          · simp only [rd_c]; rw [if_pos e]
          · show M1 42 22 = 59
            rw [g5.2.1]; exact (t59 _).mpr e
          · exact g5.2.2 e.1 (fun z => by have := z.1; have := e.2; omega)
        · refine K0 _ _ _ ?_ x1 g5.1 (Or.inr ?_)
          · simp only [rd_c]; rw [if_neg e]
          · show ¬ M1 42 22 = 59
            rw [g5.2.1]; exact fun z => e ((t59 _).mp z)
      | succ r ih =>
        intro k p st M1 hk hp g1 g6 g7 g2 g3 g4 g5 K1 K0
        have hs := rd_s_le (T := T) hp
        refine w_X11_readsCell_24 l sc M1 Q _ _ ⟨fun q => absurd q (sp_le_lit (N := 4) (by omega) (by omega) (by omega)), fun _ => ?_⟩
        refine r_isNumber (lo := 1) (hx := 5) h255 (by omega) (by omega) g5.2.1 (fun d ed e22 => ⟨_, rfl, fun z => absurd z (by decide), fun _ => ?_⟩) (fun en => ⟨_, rfl, fun _ => ⟨sp_vp (by omega) (by omega), ?_⟩, fun z => absurd rfl z⟩)
        · obtain ⟨d1', d2', d3', d4', d5', d6'⟩ := rd_n_some ed
          have hne : ¬ (0 < k ∧ rd_e N T p) := fun z => by have := z.2.2; omega
          rw [e22, show nI (1000 + d) - 1000 = nI d by rw [show (1000 : Int32) = nI 1000 from rfl, sp_subI (by omega), Nat.add_sub_cancel_left]]
          rw [show nI (5 * B.1) + (nI k + 1) = nI (5 * B.1 + 1 + k) by rw [nI_1, nI_add]; congr 1; omega, sp_cl (n := 5 * B.1 + 1 + k) (by omega), nI_1]
          refine ⟨sp_vp (by omega) (by omega), ?_⟩
          have hr2 : rd_r M (gl_u2 M1 46 (5 * B.1 + 1 + k) (nI d)) := ⟨fun a a1 a2 a3 => by rw [← g1.1 a a1 a2 a3]; simp [gl_u2, gl_u1, a2], fun i i1 i2 i3 i4 i5 => g1.2 i i1 i2 i3 i4 i5⟩
          refine r_takes (hr2.u hU) (p := rd_s N T p + 1) d1' (g5.2.2 d1' (fun z => d6' z.2)) (fun M2 k1 k2 => ⟨rfl, ?_⟩)
          have e46 : ∀ j, M2 46 j = if j = 5 * B.1 + 1 + k then nI d else M1 46 j := fun j => by rw [k1.1 46 (by omega)]; rfl
          refine ih (k + 1) (rd_s N T p + 1) (fun j => if j = k then d else st j) M2 (by omega) d1' (hr2.tr k1.r) ?_ ?_ (fun j hj => ?_) ?_ (fun j hj => ?_) k2 (fun M' p' k' st' he => K1 M' p' k' st' ?_) (fun M' q v he => K0 M' q v ?_)
          · rw [k1.2 6 (by omega) (by omega) (by omega)]; exact g6
          · rw [k1.2 7 (by omega) (by omega) (by omega)]; exact g7
          · rw [e46, if_neg (by omega)]; exact g2 j hj
          · rw [k1.1 47 (by omega)]; exact g3
          · rw [e46]
            show _ = nI (if j = k then d else st j)
            by_cases z : j = k
            · rw [if_pos (by omega), if_pos z]
            · rw [if_neg (by omega), if_neg z]; exact g4 j (by omega)
          · simp only [rd_c]; rw [if_neg hne, ed]; exact he
          · simp only [rd_c]; rw [if_neg hne, ed]; exact he
        · rw [sp_cl (n := 5 * B.1) (by omega)]
          refine ⟨fun z => ⟨fun _ => ?_, fun z2 => absurd z z2⟩, fun z => ⟨fun z2 => absurd z2 z, fun _ => ?_⟩⟩
          · have hk0 : k = 0 := by have := (sp_le (N := 0) (by omega) (by omega)).mp z; omega
            refine K0 _ _ 0 ?_ ⟨fun a a1 a2 a3 => ?_, fun i i1 i2 i3 i4 i5 => ?_⟩ g5.1 (Or.inl rfl)
            · simp only [rd_c]; rw [if_neg (fun z => by omega), en]
            · rw [← g1.1 a a1 a2 a3]; simp [gl_u2, gl_u1, a1, a2]
            · rw [← g1.2 i i1 i2 i3 i4 i5]
              show (if i = 6 then M1 42 6 + 0 else M1 42 i) = M1 42 i
              rw [if_neg i1]
          · have hk0 : 0 < k := by
              have : ¬ k ≤ 0 := fun z2 => z ((sp_le (N := 0) (by omega) (by omega)).mpr z2)
              omega
            obtain ⟨x1, x2⟩ := fin k st M1 g1 g6 g7 g2 g3 g4
            by_cases e : rd_e N T p
            · refine K1 _ (rd_s N T p + 1) _ _ ?_ x1 ?_ ?_ x2
              · simp only [rd_c]; rw [if_pos ⟨hk0, e⟩]
              · show M1 42 22 = 59
                rw [g5.2.1]; exact (t59 _).mpr e
              · exact g5.2.2 e.1 (fun z => by have := z.1; have := e.2; omega)
            · refine K0 _ _ _ ?_ x1 g5.1 (Or.inr ?_)
              · simp only [rd_c]; rw [if_neg (fun z => e z.2), en]
              · show ¬ M1 42 22 = 59
                rw [g5.2.1]; exact fun z => e ((t59 _).mp z)
    exact key 4 0 p (fun _ => 0) M0 (by omega) hp f1.r (by rw [f1.2 6 (by omega) (by omega) (by omega)]; exact d1) (f1.2 7 (by omega) (by omega) (by omega)) (fun j _ => by rw [f1.1 46 (by omega)]) (f1.1 47 (by omega)) (fun j hj => absurd hj (Nat.not_lt_zero _)) f2 K1 K0
  · exfalso
    rw [d1] at z
    have := (sp_eq (N := 6) (by omega) (by omega)).mp z
    omega
/-- a mode's first k parts are read -/
def rd_sm (B : sp_B) (k : Nat) (pl ph : Nat → Nat) (f : Nat → Int32) : Prop := ∀ j, j < k → f (9 * B.2.2.2.1 + 2 + 2 * j) = nI (pl j) ∧ ∃ g, f (9 * B.2.2.2.1 + 1 + 2 * j) = nI g ∧ (j = 0 → g = 0) ∧ ∀ i, j = i + 1 → ph j = ph i + sp_ht B (pl i) (B.2.1 (pl i)) + g
theorem r_readsMode {M : gl_N} (hw : sp_wf B) (hU : rd_U N T M) (hD : sp_RD B M) (hm : B.2.2.2.1 < 6) {p : Nat} (hp : p ≤ N) (h20 : M 42 20 = nI p)
    (K1 : ∀ M' c p' k pl ph, rd_n N T 0 B.1 (rd_s N T p) = some c → rd_m N T B 3 1 (rd_s N T p + 1) (fun _ => c) (fun _ => 0) = .inl (p', k, pl, ph) → rd_r M M' → M' 42 22 = 59 → M' 42 20 = nI p' → sp_RD (rd_am B k pl ph) M' → Q (some (.int 1)) M')
    (K0 : ∀ M' q v, ((rd_n N T 0 B.1 (rd_s N T p) = none ∧ q = rd_s N T p) ∨ ∃ c, rd_n N T 0 B.1 (rd_s N T p) = some c ∧ rd_m N T B 3 1 (rd_s N T p + 1) (fun _ => c) (fun _ => 0) = .inr q) → rd_r M M' → M' 42 21 = nI q → (v = 0 ∨ ¬ M' 42 22 = 59) → Q (some (.int v)) M') : gr l sc m_X11_readsMode [.ref 42] M Q := by
  have hN := hU.1
  have hc6 : B.1 ≤ 6 := hw.1
  have h255 : ∀ j, j < N → T j ≤ 255 := fun j hj => (hU.2.2 j hj).2
  obtain ⟨d1, d2, d3, d4⟩ := id hD
  have t59 : ∀ q, rd_t N T q = 59 ↔ q < N ∧ T q = 59 := fun q => rd_t_eq (x := 59) h255 (by omega) (by omega)
  have nM : ∀ j : Nat, nI (9 * B.2.2.2.1) + 1 + 2 * nI j = nI (9 * B.2.2.2.1 + 1 + 2 * j) ∧ nI (9 * B.2.2.2.1) + 2 + 2 * nI j = nI (9 * B.2.2.2.1 + 2 + 2 * j) := fun j => by
    refine ⟨?_, ?_⟩
    · rw [show (2 : Int32) = nI 2 from rfl, show (1 : Int32) = nI 1 from rfl, sp_mul, nI_add, nI_add]
    · rw [show (2 : Int32) = nI 2 from rfl, sp_mul, nI_add, nI_add]
  /- what holds on while a mode is read -/
  let H : gl_N → Prop := fun M1 => rd_r M M1 ∧ M1 42 6 = nI B.1 ∧ M1 42 7 = nI B.2.2.2.1 ∧ M1 46 = M 46 ∧ ∀ j, j < 9 * B.2.2.2.1 → M1 47 j = M 47 j
  have Hq : ∀ {M1 M2 : gl_N}, H M1 → rd_q M1 M2 → H M2 := fun {M1 M2} h k => ⟨h.1.tr k.r, by rw [k.2 6 (by omega) (by omega) (by omega)]; exact h.2.1, by rw [k.2 7 (by omega) (by omega) (by omega)]; exact h.2.2.1, by rw [k.1 46 (by omega)]; exact h.2.2.2.1, fun j hj => by rw [k.1 47 (by omega)]; exact h.2.2.2.2 j hj⟩
  have fin : ∀ (k p : Nat) (pl ph : Nat → Nat) (x : Int32) (M1 : gl_N), H M1 → rd_la N T p M1 → rd_sm B k pl ph (M1 47) → (∀ M', rd_e N T p → rd_r M M' → M' 42 22 = 59 → M' 42 20 = nI (rd_s N T p + 1) → sp_RD (rd_am B k pl ph) M' → Q (some (.int 1)) M') → (∀ M' v, ¬ rd_e N T p → rd_r M M' → M' 42 21 = nI (rd_s N T p) → (v = 0 ∨ ¬ M' 42 22 = 59) → Q (some (.int v)) M') → gv l sc m_X11_readsMode 30 [.ref 42, .int (nI (9 * B.2.2.2.1)), .int (nI k), .int x, .int 0] [] M1 Q := by
    intro k p pl ph x M1 h hla hsm K1 K0
    obtain ⟨g1, g6, g7, g2, g3⟩ := h
    refine w_X11_readsMode_30 l sc M1 Q _ _ _ _ ⟨fun _ => ⟨sp_vp (by omega) (by omega), ?_⟩, fun z => absurd rfl z⟩
    rw [sp_cl (n := 9 * B.2.2.2.1) (by omega)]
    have x1 : rd_r M (gl_u2 (gl_u2 M1 47 (9 * B.2.2.2.1) (nI k)) 42 7 (M1 42 7 + 1)) := ⟨fun a a1 a2 a3 => by rw [← g1.1 a a1 a2 a3]; simp [gl_u2, gl_u1, a1, a3], fun i i1 i2 i3 i4 i5 => by
      rw [← g1.2 i i1 i2 i3 i4 i5]
      show (if i = 7 then M1 42 7 + 1 else M1 42 i) = M1 42 i
      rw [if_neg i2]⟩
    have x2 : sp_RD (rd_am B k pl ph) (gl_u2 (gl_u2 M1 47 (9 * B.2.2.2.1) (nI k)) 42 7 (M1 42 7 + 1)) := by
      refine ⟨g6, ?_, fun c hcl => ?_, fun m hml => ?_⟩
      · show M1 42 7 + 1 = nI (B.2.2.2.1 + 1)
        rw [g7, nI_1]
      · show M1 46 (5 * c) = _ ∧ ∀ j, j < B.2.1 c → M1 46 (5 * c + 1 + j) = nI (B.2.2.1 c j)
        rw [g2]; exact d3 c hcl
      · have hml : m < B.2.2.2.1 + 1 := hml
        show (if 9 * m = 9 * B.2.2.2.1 then nI k else M1 47 (9 * m)) = nI (if m = B.2.2.2.1 then k else B.2.2.2.2.1 m) ∧ ∀ j, j < (if m = B.2.2.2.1 then k else B.2.2.2.2.1 m) → (if 9 * m + 2 + 2 * j = 9 * B.2.2.2.1 then nI k else M1 47 (9 * m + 2 + 2 * j)) = nI ((if m = B.2.2.2.1 then pl else B.2.2.2.2.2.1 m) j) ∧ ∃ g, (if 9 * m + 1 + 2 * j = 9 * B.2.2.2.1 then nI k else M1 47 (9 * m + 1 + 2 * j)) = nI g ∧ (j = 0 → g = 0) ∧ ∀ i, j = i + 1 → (if m = B.2.2.2.1 then ph else B.2.2.2.2.2.2 m) j = (if m = B.2.2.2.1 then ph else B.2.2.2.2.2.2 m) i + sp_ht (rd_am B k pl ph) ((if m = B.2.2.2.1 then pl else B.2.2.2.2.2.1 m) i) (B.2.1 ((if m = B.2.2.2.1 then pl else B.2.2.2.2.2.1 m) i)) + g
        by_cases e : m = B.2.2.2.1
        · simp only [if_pos e, sp_ht_am]
          refine ⟨if_pos (by omega), fun j hj => ?_⟩
          rw [if_neg (by omega), if_neg (by omega), e]
          exact hsm j hj
        · simp only [if_neg e, sp_ht_am]
          have h4 := (hw.2.2.2 m (by omega)).2.1
          obtain ⟨q1, q2⟩ := d4 m (by omega)
          refine ⟨by rw [if_neg (by omega), g3 _ (by omega)]; exact q1, fun j hj => ?_⟩
          rw [if_neg (by omega), if_neg (by omega), g3 _ (by omega), g3 _ (by omega)]
          exact q2 j hj
    by_cases e : rd_e N T p
    · refine K1 _ e x1 ?_ (hla.2.2 e.1 (fun z => by have := z.1; have := e.2; omega)) x2
      show M1 42 22 = 59
      rw [hla.2.1]; exact (t59 _).mpr e
    · refine K0 _ _ e x1 hla.1 (Or.inr ?_)
      show ¬ M1 42 22 = 59
      rw [hla.2.1]; exact fun z => e ((t59 _).mp z)
  /- a cell, at the loop's head -/
  have cellStep : ∀ (k p g : Nat) (M1 : gl_N), k < 4 → p ≤ N → H M1 → rd_la N T p M1 → (rd_n N T 0 B.1 (rd_s N T p) = none → Q (some (.int 0)) M1) → (∀ c M5, rd_n N T 0 B.1 (rd_s N T p) = some c → H M5 → rd_la N T (rd_s N T p + 1) M5 → (∀ j, M5 47 j = if j = 9 * B.2.2.2.1 + 2 + 2 * k then nI c else if j = 9 * B.2.2.2.1 + 1 + 2 * k then nI g else M1 47 j) → ((4 ≤ nI (k + 1) → gv l sc m_X11_readsMode 30 [.ref 42, .int (nI (9 * B.2.2.2.1)), .int (nI (k + 1)), .int (nI g), .int 0] [] M5 Q) ∧ (¬ 4 ≤ nI (k + 1) → gr l sc m_X11_isNumber [.ref 42, .int 0, .int 3] M5 (fun r6 M7 => ∃ v8 : Int32, r6 = some (.int v8) ∧ ((v8 = 0 → gv l sc m_X11_readsMode 30 [.ref 42, .int (nI (9 * B.2.2.2.1)), .int (nI (k + 1)), .int (nI g), .int 0] [] M7 Q) ∧ (¬ v8 = 0 → gr l sc m_X11_takes [.ref 42] M7 (fun r9 M10 => r9 = none ∧ (gv l sc m_X11_readsMode 30 [.ref 42, .int (nI (9 * B.2.2.2.1)), .int (nI (k + 1)), .int ((M7 42 22) - 1000), .int 1] [] M10 Q)))))))) → gv l sc m_X11_readsMode 30 [.ref 42, .int (nI (9 * B.2.2.2.1)), .int (nI k), .int (nI g), .int 1] [] M1 Q := by
    intro k p g M1 hk hp h hla K0 K1
    refine w_X11_readsMode_30 l sc M1 Q _ _ _ _ ⟨fun z => absurd z (by decide), fun _ => ?_⟩
    rw [h.2.1]
    refine r_isNumber (lo := 0) (hx := B.1) h255 (by omega) (by omega) hla.2.1 (fun c ec e22 => ⟨_, rfl, fun _ => ?_, fun z => absurd z (by decide)⟩) (fun en => ⟨_, rfl, fun z => absurd rfl z, fun _ => K0 en⟩)
    obtain ⟨c1, c2, c3, c4, c5, c6⟩ := rd_n_some ec
    obtain ⟨n1, n2⟩ := nM k
    rw [n1, n2, e22, show nI (1000 + c) - 1000 = nI c by rw [show (1000 : Int32) = nI 1000 from rfl, sp_subI (by omega), Nat.add_sub_cancel_left], sp_cl (n := 9 * B.2.2.2.1 + 1 + 2 * k) (by omega), sp_cl (n := 9 * B.2.2.2.1 + 2 + 2 * k) (by omega), nI_1]
    have hH : H (gl_u2 (gl_u2 M1 47 (9 * B.2.2.2.1 + 1 + 2 * k) (nI g)) 47 (9 * B.2.2.2.1 + 2 + 2 * k) (nI c)) := by
      obtain ⟨g1, g6, g7, g2, g3⟩ := h
      refine ⟨⟨fun a a1 a2 a3 => by rw [← g1.1 a a1 a2 a3]; simp [gl_u2, gl_u1, a3], fun i i1 i2 i3 i4 i5 => g1.2 i i1 i2 i3 i4 i5⟩, g6, g7, g2, fun j hj => ?_⟩
      show (if j = 9 * B.2.2.2.1 + 2 + 2 * k then nI c else if j = 9 * B.2.2.2.1 + 1 + 2 * k then nI g else M1 47 j) = M 47 j
      rw [if_neg (by omega), if_neg (by omega)]; exact g3 j hj
    refine ⟨⟨sp_vp (by omega) (by omega), sp_vp (by omega) (by omega)⟩, r_takes (hH.1.u hU) (p := rd_s N T p + 1) c1 (hla.2.2 c1 (fun z => c6 z.2)) (fun M5 k1 k2 => ⟨rfl, K1 c M5 ec (Hq hH k1) k2 (fun j => ?_)⟩)⟩
    rw [k1.1 47 (by omega)]
    rfl
  /- behind a cell -/
  have more : ∀ (r k p : Nat) (pl ph : Nat → Nat) (x : Int32) (M5 : gl_N), 1 ≤ k → k + r = 4 → p ≤ N → H M5 → rd_la N T p M5 → rd_sm B k pl ph (M5 47) → (∀ M' p' k' pl' ph', rd_m N T B r k p pl ph = .inl (p', k', pl', ph') → rd_r M M' → M' 42 22 = 59 → M' 42 20 = nI p' → sp_RD (rd_am B k' pl' ph') M' → Q (some (.int 1)) M') → (∀ M' q v, rd_m N T B r k p pl ph = .inr q → rd_r M M' → M' 42 21 = nI q → (v = 0 ∨ ¬ M' 42 22 = 59) → Q (some (.int v)) M') → ((4 ≤ nI k → gv l sc m_X11_readsMode 30 [.ref 42, .int (nI (9 * B.2.2.2.1)), .int (nI k), .int x, .int 0] [] M5 Q) ∧ (¬ 4 ≤ nI k → gr l sc m_X11_isNumber [.ref 42, .int 0, .int 3] M5 (fun r6 M7 => ∃ v8 : Int32, r6 = some (.int v8) ∧ ((v8 = 0 → gv l sc m_X11_readsMode 30 [.ref 42, .int (nI (9 * B.2.2.2.1)), .int (nI k), .int x, .int 0] [] M7 Q) ∧ (¬ v8 = 0 → gr l sc m_X11_takes [.ref 42] M7 (fun r9 M10 => r9 = none ∧ (gv l sc m_X11_readsMode 30 [.ref 42, .int (nI (9 * B.2.2.2.1)), .int (nI k), .int ((M7 42 22) - 1000), .int 1] [] M10 Q))))))) := by
    intro r
    induction r with
    | zero =>
      intro k p pl ph x M5 h1k hk hp h hla hsm K1 K0
      have : k = 4 := by omega
      subst this
      refine ⟨fun _ => fin 4 p pl ph x M5 h hla hsm (fun M' e a1 a2 a3 a4 => K1 M' _ _ _ _ ?_ a1 a2 a3 a4) (fun M' v e a1 a2 a3 => K0 M' _ v ?_ a1 a2 a3), fun z => absurd (show nI 4 ≤ nI 4 from Int32.le_refl _) z⟩
      · simp only [rd_m]; rw [if_pos e]
      · simp only [rd_m]; rw [if_neg e]
    | succ r ih =>
      intro k p pl ph x M5 h1k hk hp h hla hsm K1 K0
      have hs := rd_s_le (T := T) hp
      refine ⟨fun z => absurd z (sp_le_lit (N := 4) (by omega) (by omega) (by omega)), fun _ => ?_⟩
      refine r_isNumber (lo := 0) (hx := 4) h255 (by omega) (by omega) hla.2.1 (fun g eg e22 => ⟨_, rfl, fun z => absurd z (by decide), fun _ => ?_⟩) (fun en => ⟨_, rfl, fun _ => ?_, fun z => absurd rfl z⟩)
      · obtain ⟨c1, c2, c3, c4, c5, c6⟩ := rd_n_some eg
        have hne : ¬ rd_e N T p := fun z => by have := z.2; omega
        rw [e22, show nI (1000 + g) - 1000 = nI g by rw [show (1000 : Int32) = nI 1000 from rfl, sp_subI (by omega), Nat.add_sub_cancel_left]]
        refine r_takes (h.1.u hU) (p := rd_s N T p + 1) c1 (hla.2.2 c1 (fun z => c6 z.2)) (fun M6 k1 k2 => ⟨rfl, ?_⟩)
        have hs2 := rd_s_le (T := T) (N := N) (p := rd_s N T p + 1) c1
        refine cellStep k (rd_s N T p + 1) g M6 (by omega) c1 (Hq h k1) k2 (fun en => ?_) (fun c M8 ec h8 la8 e47 => ?_)
        · refine K0 M6 _ 0 ?_ (h.1.tr k1.r) k2.1 (Or.inl rfl)
          simp only [rd_m]; rw [if_neg hne, eg]; simp only []; rw [en]
        · obtain ⟨j1, j2, j3, j4, j5, j6⟩ := rd_n_some ec
          refine ih (k + 1) _ (fun j => if j = k then c else pl j) (fun j => if j = k then ph (k - 1) + sp_ht B (pl (k - 1)) (B.2.1 (pl (k - 1))) + g else ph j) _ M8 (by omega) (by omega) j1 h8 la8 (fun j hj => ?_) (fun M' p' k' pl' ph' he => K1 M' p' k' pl' ph' ?_) (fun M' q v he => K0 M' q v ?_)
          · by_cases z : j = k
            · subst z
              refine ⟨?_, g, ?_, fun z => by omega, fun i hi => ?_⟩
              · dsimp only
                rw [e47, if_pos rfl, if_pos rfl]
              · rw [e47, if_neg (by omega), if_pos rfl]
              · dsimp only
                rw [if_pos rfl, if_neg (by omega), if_neg (by omega), show j - 1 = i by omega]
            · obtain ⟨o1, g', o2, o3, o4⟩ := hsm j (by omega)
              refine ⟨?_, g', ?_, o3, fun i hi => ?_⟩
              · dsimp only
                rw [e47, if_neg (by omega), if_neg (by omega), if_neg z, k1.1 47 (by omega)]; exact o1
              · rw [e47, if_neg (by omega), if_neg (by omega), k1.1 47 (by omega)]; exact o2
              · dsimp only
                rw [if_neg z, if_neg (by omega), if_neg (by omega)]; exact o4 i hi
          · simp only [rd_m]; rw [if_neg hne, eg]; simp only []; rw [ec]; exact he
          · simp only [rd_m]; rw [if_neg hne, eg]; simp only []; rw [ec]; exact he
      · refine fin k p pl ph x M5 h hla hsm (fun M' e a1 a2 a3 a4 => K1 M' _ _ _ _ ?_ a1 a2 a3 a4) (fun M' v e a1 a2 a3 => K0 M' _ v ?_ a1 a2 a3)
        · simp only [rd_m]; rw [if_pos e]
        · simp only [rd_m]; rw [if_neg e, en]
  refine e_X11_readsMode l sc M Q ⟨fun _ => ?_, fun z => ?_⟩
  · refine r_takes hU hp h20 (fun M0 f1 f2 => ⟨rfl, ?_⟩)
    rw [show M 42 7 = nI B.2.2.2.1 from d2, show (9 : Int32) * nI B.2.2.2.1 = nI (9 * B.2.2.2.1) by rw [show (9 : Int32) = nI 9 from rfl, sp_mul]]
    have h0 : H M0 := Hq ⟨⟨fun _ _ _ _ => rfl, fun _ _ _ _ _ _ => rfl⟩, d1, d2, rfl, fun _ _ => rfl⟩ f1
    refine cellStep 0 p 0 M0 (by omega) hp h0 f2 (fun en => K0 M0 _ 0 (Or.inl ⟨en, rfl⟩) f1.r f2.1 (Or.inl rfl)) (fun c M8 ec h8 la8 e47 => ?_)
    obtain ⟨j1, j2, j3, j4, j5, j6⟩ := rd_n_some ec
    refine more 3 1 _ (fun _ => c) (fun _ => 0) _ M8 (by omega) (by omega) j1 h8 la8 (fun j hj => ?_) (fun M' p' k' pl' ph' he => K1 M' c p' k' pl' ph' ec he) (fun M' q v he => K0 M' q v (Or.inr ⟨c, ec, he⟩))
    have : j = 0 := by omega
    subst this
    refine ⟨?_, 0, ?_, fun _ => rfl, fun i hi => by omega⟩
    · rw [e47, if_pos rfl]
    · rw [e47, if_neg (by omega), if_pos rfl]
  · exfalso
    rw [d2] at z
    have := (sp_eq (N := 6) (by omega) (by omega)).mp z
    omega
end SP28

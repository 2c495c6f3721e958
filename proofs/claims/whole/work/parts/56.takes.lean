section SP27
variable {l : Launch} {sc : Nat × (Nat → Int32)} {Q : Option Value → gl_N → Prop} {B : sp_B} {N : Nat} {T : Nat → Nat}
/-- the reference's text -/
def rd_U (N : Nat) (T : Nat → Nat) (M : gl_N) : Prop := N ≤ 130 ∧ M 42 18 = nI N ∧ ∀ j, j < N → M 54 j = nI (T j) ∧ T j ≤ 255
/-- the token at q -/
def rd_t (N : Nat) (T : Nat → Nat) (q : Nat) : Int32 := if N ≤ q then -1 else if rd_g N T q then (if rd_g N T (q + 1) then 2000 else nI (1000 + (T q - 48))) else nI (T q)
def rd_r (M M' : gl_N) : Prop := (∀ a, a ≠ 42 → a ≠ 46 → a ≠ 47 → M' a = M a) ∧ ∀ i, i ≠ 6 → i ≠ 7 → i ≠ 20 → i ≠ 21 → i ≠ 22 → M' 42 i = M 42 i
/-- the next token only -/
def rd_q (M M' : gl_N) : Prop := (∀ a, a ≠ 42 → M' a = M a) ∧ ∀ i, i ≠ 20 → i ≠ 21 → i ≠ 22 → M' 42 i = M 42 i
theorem rd_r.tr {A C D : gl_N} (h : rd_r A C) (k : rd_r C D) : rd_r A D := ⟨fun a a1 a2 a3 => (k.1 a a1 a2 a3).trans (h.1 a a1 a2 a3), fun i i1 i2 i3 i4 i5 => (k.2 i i1 i2 i3 i4 i5).trans (h.2 i i1 i2 i3 i4 i5)⟩
theorem rd_q.r {A C : gl_N} (h : rd_q A C) : rd_r A C := ⟨fun a a1 _ _ => h.1 a a1, fun i _ _ i3 i4 i5 => h.2 i i3 i4 i5⟩
theorem rd_q.tr {A C D : gl_N} (h : rd_q A C) (k : rd_q C D) : rd_q A D := ⟨fun a a1 => (k.1 a a1).trans (h.1 a a1), fun i i3 i4 i5 => (k.2 i i3 i4 i5).trans (h.2 i i3 i4 i5)⟩
theorem rd_r.u {A C : gl_N} (h : rd_r A C) (k : rd_U N T A) : rd_U N T C := by
  unfold rd_U
  rw [h.2 18 (by omega) (by omega) (by omega) (by omega) (by omega), h.1 54 (by omega) (by omega) (by omega)]
  exact k
theorem rd_q_u (M : gl_N) {i : Nat} (v : Int32) (h : i = 20 ∨ i = 21 ∨ i = 22) : rd_q M (gl_u2 M 42 i v) := by
  refine ⟨fun a ha => by simp [gl_u2, gl_u1, ha], fun j j1 j2 j3 => ?_⟩
  show (if j = i then v else M 42 j) = M 42 j
  rw [if_neg (by omega)]
def rd_la (N : Nat) (T : Nat → Nat) (p : Nat) (M : gl_N) : Prop := M 42 21 = nI (rd_s N T p) ∧ M 42 22 = rd_t N T (rd_s N T p) ∧ (rd_s N T p < N → ¬ (rd_g N T (rd_s N T p) ∧ rd_g N T (rd_s N T p + 1)) → M 42 20 = nI (rd_s N T p + 1))
theorem r_figR {M : gl_N} (hU : rd_U N T M) {p : Nat} (hp : p ≤ 1000) (K1 : rd_g N T p → Q (some (.int 1)) M) (K0 : ¬ rd_g N T p → Q (some (.int 0)) M) : gr l sc m_X11_isFigure [.ref 42, .int (nI p)] M Q := by
  obtain ⟨h1, h2, h3⟩ := hU
  refine e_X11_isFigure l sc M Q _ ?_
  rw [h2, sp_le (by omega) (by omega), sp_cl (n := p) (by omega)]
  refine ⟨fun q => K0 (fun z => by omega), fun q => ⟨sp_vp (by omega) (by omega), ?_⟩⟩
  obtain ⟨e, e2⟩ := h3 p (by omega)
  rw [e]
  refine r_in (fun c1 c2 => ⟨_, rfl, fun z => absurd z (by decide), fun _ => K1 ⟨by omega, (sp_le (n := 48) (by omega) (by omega)).mp c1, (sp_le (N := 57) (by omega) (by omega)).mp c2⟩⟩) (fun c => ⟨_, rfl, fun _ => K0 (fun z => c ⟨(sp_le (n := 48) (by omega) (by omega)).mpr z.2.1, (sp_le (N := 57) (by omega) (by omega)).mpr z.2.2⟩), fun z => absurd rfl z⟩)
theorem r_takes {M : gl_N} (hU : rd_U N T M) {p : Nat} (hp : p ≤ N) (h20 : M 42 20 = nI p) (K : ∀ M', rd_q M M' → rd_la N T p M' → Q none M') : gr l sc m_X11_takes [.ref 42] M Q := by
  have hN := hU.1
  have uq : ∀ {M1 : gl_N}, rd_q M M1 → rd_U N T M1 := fun h => h.r.u hU
  have many : ∀ (f j q : Nat) (M1 : gl_N), N - j = f → j ≤ N → q + 2 ≤ j → q < N → M1 42 21 = nI q → M1 42 20 = nI j → rd_q M M1 → (∀ M', rd_q M M' → M' 42 21 = nI q → M' 42 22 = 2000 → Q none M') → gv l sc m_X11_takes 111 [.ref 42] [] M1 Q := by
    intro f
    induction f with
    | zero =>
      intro j q M1 hf hj hq hqN h21 h20 hr K
      refine w_X11_takes_111 l sc M1 Q ?_
      rw [show Value.int (M1 42 20) = Value.int (nI j) by rw [h20]]
      refine r_figR (uq hr) (by omega) (fun g => by omega) (fun g => ⟨_, rfl, fun _ => ?_, fun z => absurd rfl z⟩)
      rw [h20, h21, nI_1, sp_le (by omega) (by omega)]
      exact ⟨fun z => by omega, fun _ => K _ (hr.tr (rd_q_u _ _ (by omega))) h21 rfl⟩
    | succ f ih =>
      intro j q M1 hf hj hq hqN h21 h20 hr K
      refine w_X11_takes_111 l sc M1 Q ?_
      rw [show Value.int (M1 42 20) = Value.int (nI j) by rw [h20]]
      refine r_figR (uq hr) (by omega) (fun g => ⟨_, rfl, fun z => absurd z (by decide), fun _ => ?_⟩) (fun g => ⟨_, rfl, fun _ => ?_, fun z => absurd rfl z⟩)
      · rw [h20, nI_1]
        exact ih (j + 1) q _ (by omega) (by omega) (by omega) hqN h21 rfl (hr.tr (rd_q_u _ _ (by omega))) K
      · rw [h20, h21, nI_1, sp_le (by omega) (by omega)]
        exact ⟨fun z => by omega, fun _ => K _ (hr.tr (rd_q_u _ _ (by omega))) h21 rfl⟩
  /- at q, no blank -/
  have fig : ∀ (q : Nat) (M1 : gl_N), q < N → rd_s N T p = q → rd_g N T q → M1 42 21 = nI q → M1 42 20 = nI q → rd_q M M1 → gv l sc m_X11_takes 111 [.ref 42] [] M1 Q := by
    intro q M1 hq hs hg h21 h20 hr
    refine w_X11_takes_111 l sc M1 Q ?_
    rw [show Value.int (M1 42 20) = Value.int (nI q) by rw [h20]]
    refine r_figR (uq hr) (by omega) (fun g => ⟨_, rfl, fun z => absurd z (by decide), fun _ => ?_⟩) (fun g => absurd hg g)
    rw [h20, nI_1]
    have hr2 := hr.tr (rd_q_u M1 (i := 20) (nI (q + 1)) (by omega))
    refine w_X11_takes_111 l sc _ Q ?_
    rw [show Value.int ((gl_u2 M1 42 20 (nI (q + 1))) 42 20) = Value.int (nI (q + 1)) from rfl]
    refine r_figR (uq hr2) (by omega) (fun g2 => ⟨_, rfl, fun z => absurd z (by decide), fun _ => ?_⟩) (fun g2 => ⟨_, rfl, fun _ => ?_, fun z => absurd rfl z⟩)
    · rw [show (gl_u2 M1 42 20 (nI (q + 1))) 42 20 = nI (q + 1) from rfl, nI_1]
      refine many _ (q + 1 + 1) q _ rfl (by omega) (by omega) hq h21 rfl (hr2.tr (rd_q_u _ _ (by omega))) (fun M' k1 k2 k3 => K M' k1 ⟨?_, ?_, fun _ z => ?_⟩)
      · rw [hs]; exact k2
      · rw [hs, k3]; unfold rd_t; rw [if_neg (by omega), if_pos hg, if_pos g2]
      · rw [hs] at z; exact absurd ⟨hg, g2⟩ z
    · show (nI (q + 1) ≤ M1 42 21 + 1 → _) ∧ _
      rw [show (gl_u2 M1 42 20 (nI (q + 1))) 42 21 = M1 42 21 from rfl, h21, nI_1]
      refine ⟨fun _ => ⟨sp_vp (by omega) (by omega), ?_⟩, fun z => absurd (Int32.le_refl _) z⟩
      rw [sp_cl (n := q) (by omega), show (gl_u2 M1 42 20 (nI (q + 1))) 54 q = M1 54 q from rfl, ((uq hr).2.2 q hq).1]
      refine K _ (hr2.tr (rd_q_u _ _ (by omega))) ⟨?_, ?_, fun _ _ => ?_⟩
      · rw [hs]; exact h21
      · rw [hs]
        show 1000 + nI (T q) - 48 = _
        unfold rd_t
        rw [if_neg (by omega), if_pos hg, if_neg g2, show (1000 : Int32) = nI 1000 from rfl, nI_add, show (48 : Int32) = nI 48 from rfl, sp_subI (by omega)]
        congr 1; omega
      · rw [hs]; rfl
  have here : ∀ (q : Nat) (M1 : gl_N) (v : Int32), q ≤ N → rd_s N T p = q → (N ≤ q → v = -1) → (q < N → v = nI (T q)) → M1 42 20 = nI q → rd_q M M1 → gr l sc m_X11_isFigure [.ref 42, .int (M1 42 20)] (gl_u2 (gl_u2 M1 42 21 (M1 42 20)) 42 22 v) (fun r1 M2 => ∃ v3 : Int32, r1 = some (.int v3) ∧ ((¬ v3 = 0 → gv l sc m_X11_takes 111 [.ref 42] [] M2 Q) ∧ (v3 = 0 → ((M2 42 18) ≤ (M2 42 20) → Q none (gl_u2 M2 42 20 ((M2 42 20) + 0))) ∧ (¬ (M2 42 18) ≤ (M2 42 20) → Q none (gl_u2 M2 42 20 ((M2 42 20) + 1)))))) := by
    intro q M1 v hq hs v1 v2 h20 hr
    have hr2 : rd_q M (gl_u2 (gl_u2 M1 42 21 (M1 42 20)) 42 22 v) := (hr.tr (rd_q_u _ _ (by omega))).tr (rd_q_u _ _ (by omega))
    rw [h20]
    rw [h20] at hr2
    refine r_figR (uq hr2) (by omega) (fun g => ⟨_, rfl, fun _ => fig q _ g.1 hs g rfl h20 hr2, fun z => absurd z (by decide)⟩) (fun g => ⟨_, rfl, fun z => absurd rfl z, fun _ => ?_⟩)
    show (M1 42 18 ≤ M1 42 20 → Q none (gl_u2 (gl_u2 (gl_u2 M1 42 21 (nI q)) 42 22 v) 42 20 (M1 42 20 + 0))) ∧ (¬ M1 42 18 ≤ M1 42 20 → Q none (gl_u2 (gl_u2 (gl_u2 M1 42 21 (nI q)) 42 22 v) 42 20 (M1 42 20 + 1)))
    rw [(uq hr).2.1, h20, sp_le (by omega) (by omega), nI_1]
    refine ⟨fun z => K _ (hr2.tr (rd_q_u _ _ (by omega))) ⟨?_, ?_, fun z2 => ?_⟩, fun z => K _ (hr2.tr (rd_q_u _ _ (by omega))) ⟨?_, ?_, fun _ _ => ?_⟩⟩
    · rw [hs]; rfl
    · rw [hs]; show v = _; unfold rd_t; rw [if_pos z, v1 z]
    · rw [hs] at z2; omega
    · rw [hs]; rfl
    · rw [hs]; show v = _; unfold rd_t; rw [if_neg z, if_neg g, v2 (by omega)]
    · rw [hs]; rfl
  have key : ∀ (f q : Nat) (M1 : gl_N), N - q = f → q ≤ N → rd_s N T p = rd_s N T q → M1 42 20 = nI q → rd_q M M1 → gv l sc m_X11_takes 0 [.ref 42] [] M1 Q := by
    intro f
    induction f with
    | zero =>
      intro q M1 hf hq hs h20 hr
      have hle : M1 42 18 ≤ M1 42 20 := by rw [(uq hr).2.1, h20]; exact (sp_le (by omega) (by omega)).mpr (by omega)
      rw [rd_s_end (p := q) (by omega)] at hs
      exact w_X11_takes_0 l sc M1 Q ⟨fun _ => ⟨fun _ => here q M1 (-1) hq hs (fun _ => rfl) (fun z => by omega) h20 hr, fun z => absurd hle z⟩, fun z => absurd hle z⟩
    | succ f ih =>
      intro q M1 hf hq hs h20 hr
      have hle : ¬ M1 42 18 ≤ M1 42 20 := by rw [(uq hr).2.1, h20]; exact sp_le_lit (by omega) (by omega) (by omega)
      obtain ⟨t1, t2⟩ := (uq hr).2.2 q (by omega)
      have e54 : M1 54 (Int32.toNatClampNeg (M1 42 20)) = nI (T q) := by rw [h20, sp_cl (by omega)]; exact t1
      have hv : vp_in (M1 42 20) 130 := by rw [h20]; exact sp_vp (by omega) (by omega)
      rw [rd_s_step (p := q) (by omega)] at hs
      refine w_X11_takes_0 l sc M1 Q ⟨fun z => absurd z hle, fun _ => ⟨hv, ?_⟩⟩
      rw [e54, show (32 : Int32) = nI 32 from rfl, sp_eq (by omega) (by omega)]
      refine ⟨fun z => ⟨fun z2 => absurd z2 hle, fun _ => ⟨hv, here q M1 _ hq (by rw [hs, if_neg z]) (fun z => by omega) (fun _ => rfl) h20 hr⟩⟩, fun z => ?_⟩
      rw [if_pos z] at hs
      rw [h20, nI_1]
      exact ih (q + 1) _ (by omega) (by omega) hs rfl (hr.tr (rd_q_u _ _ (by omega)))
  exact gr_of (by decide +kernel) (Nat.le_of_ble_eq_true rfl) (List.forall_mem_cons.mpr ⟨rfl, (fun _ h => absurd h List.not_mem_nil)⟩) (key _ p M rfl hp rfl h20 ⟨fun _ _ => rfl, fun _ _ _ _ => rfl⟩)
theorem rd_t_eq (hT : ∀ j, j < N → T j ≤ 255) {q x : Nat} (hx : x ≤ 255) (hx2 : x < 48 ∨ 57 < x) : rd_t N T q = nI x ↔ q < N ∧ T q = x := by
  unfold rd_t
  by_cases h : N ≤ q
  · rw [if_pos h]
    exact ⟨fun z => absurd z.symm (sp_neg1 (by omega)), fun z => by omega⟩
  · have := hT q (by omega)
    rw [if_neg h]
    by_cases g : rd_g N T q
    · rw [if_pos g]
      by_cases g2 : rd_g N T (q + 1)
      · rw [if_pos g2, show (2000 : Int32) = nI 2000 from rfl, sp_eq (by omega) (by omega)]
        exact ⟨fun z => by omega, fun z => by omega⟩
      · rw [if_neg g2, sp_eq (by omega) (by omega)]
        exact ⟨fun z => by omega, fun z => by omega⟩
    · rw [if_neg g, sp_eq (by omega) (by omega)]
      exact ⟨fun z => ⟨by omega, z⟩, fun z => z.2⟩
theorem rd_t_end (hT : ∀ j, j < N → T j ≤ 255) {q : Nat} : rd_t N T q = -1 ↔ N ≤ q := by
  unfold rd_t
  by_cases h : N ≤ q
  · rw [if_pos h]
    exact ⟨fun _ => h, fun _ => rfl⟩
  · have := hT q (by omega)
    rw [if_neg h]
    refine ⟨fun z => ?_, fun z => absurd z h⟩
    exfalso
    by_cases g : rd_g N T q
    · rw [if_pos g] at z
      by_cases g2 : rd_g N T (q + 1)
      · rw [if_pos g2] at z; exact absurd z (by decide)
      · rw [if_neg g2] at z; exact sp_neg1 (by omega) z
    · rw [if_neg g] at z; exact sp_neg1 (by omega) z
theorem r_isNumber {M : gl_N} (hT : ∀ j, j < N → T j ≤ 255) {q lo hx : Nat} (hlo : lo ≤ 10) (hhx : hx ≤ 10) (h22 : M 42 22 = rd_t N T q) (K1 : ∀ d, rd_n N T lo hx q = some d → M 42 22 = nI (1000 + d) → Q (some (.int 1)) M) (K0 : rd_n N T lo hx q = none → Q (some (.int 0)) M) : gr l sc m_X11_isNumber [.ref 42, .int (nI lo), .int (nI hx - 1)] M Q := by
  refine e_X11_isNumber l sc M Q _ _ ?_
  have e1 : (1000 : Int32) + nI lo = nI (1000 + lo) := nI_add 1000 lo
  have e2 : (1000 : Int32) + (nI hx - 1) = nI (1000 + hx) - 1 := by rw [← nI_add 1000 hx, Int32.sub_eq_add_neg, Int32.sub_eq_add_neg, Int32.add_assoc]; rfl
  rw [e1, e2]
  have num : rd_g N T q → ¬ rd_g N T (q + 1) → M 42 22 = nI (1000 + (T q - 48)) := fun g g2 => by
    rw [h22]; unfold rd_t; rw [if_neg (by omega), if_pos g, if_neg g2]
  refine r_in (fun c1 c2 => ⟨_, rfl, Or.inr rfl, ?_⟩) (fun c => ⟨_, rfl, Or.inl rfl, K0 ?_⟩)
  · by_cases g : rd_g N T q
    · by_cases g2 : rd_g N T (q + 1)
      · exfalso
        rw [h22] at c2
        unfold rd_t at c2
        rw [if_neg (by omega), if_pos g, if_pos g2] at c2
        have := (sp_hx (d := 2000) (hx := 1000 + hx) (by omega) (by omega)).mp c2
        omega
      · rw [num g g2] at c1 c2
        have a1 := (sp_le (by omega) (by omega)).mp c1
        have a2 := (sp_hx (by omega) (by omega)).mp c2
        refine K1 (T q - 48) ?_ (num g g2)
        unfold rd_n
        rw [if_pos ⟨g, g2, by omega, by omega⟩]
    · exfalso
      rw [h22] at c1
      unfold rd_t at c1
      by_cases h : N ≤ q
      · rw [if_pos h] at c1
        have a := Int32.le_iff_toInt_le.mp c1
        rw [nI_toInt (by omega)] at a
        have e : (-1 : Int32).toInt = -1 := rfl
        omega
      · rw [if_neg h, if_neg g] at c1
        have := hT q (by omega)
        have := (sp_le (by omega) (by omega)).mp c1
        omega
  · unfold rd_n
    rw [if_neg]
    rintro ⟨g, g2, z1, z2⟩
    refine c ?_
    rw [num g g2]
    exact ⟨(sp_le (by omega) (by omega)).mpr (by omega), (sp_hx (by omega) (by omega)).mpr (by omega)⟩
end SP27

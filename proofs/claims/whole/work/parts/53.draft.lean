section SP24
variable {l : Launch} {sc : Nat × (Nat → Int32)} {Q : Option Value → gl_N → Prop} {B : sp_B} {N : Nat} {T : Nat → Nat}
/-- the class's draft holds B -/
def sp_CD (B : sp_B) (M : gl_N) : Prop := sp_C B (M 3 0) (M 3 5) (M 4) (M 5) (M 6) (M 7) (M 8) (M 9) (M 10)
theorem sp_CD.mv {M M' : gl_N} (h : sp_CD B M) (e : ∀ a, 3 ≤ a → a ≤ 10 → M' a = M a) : sp_CD B M' := by
  unfold sp_CD
  rw [e 3 (by omega) (by omega), e 4 (by omega) (by omega), e 5 (by omega) (by omega), e 6 (by omega) (by omega), e 7 (by omega) (by omega), e 8 (by omega) (by omega), e 9 (by omega) (by omega), e 10 (by omega) (by omega)]
  exact h
theorem r_openCell {M : gl_N} (hD : sp_CD B M) (hc : B.1 < 6) (st : Nat → Nat) (K : ∀ M', (∀ a, a < 3 ∨ 10 < a → M' a = M a) → sp_CD (rd_ac B 0 st) M' → Q none M') : gr l sc m_X0_openCell [.ref 3] M Q := by
  obtain ⟨d1, d2, d3, d4⟩ := hD
  refine e_X0_openCell l sc M Q ?_
  rw [d1, sp_cl (n := B.1) (by omega), nI_1]
  refine ⟨⟨sp_vp (by omega) (by omega), sp_vp (by omega) (by omega), sp_vp (by omega) (by omega)⟩, K _ (fun a ha => ?_) ⟨rfl, d2, fun c hcl => ?_, d4⟩⟩
  · simp [gl_u2, gl_u1, show a ≠ 3 by omega, show a ≠ 4 by omega, show a ≠ 6 by omega, show a ≠ 7 by omega]
  · have hcl : c < B.1 + 1 := hcl
    show (if c = B.1 then (0 : Int32) else M 4 c) = nI (if c = B.1 then 0 else B.2.1 c) ∧ (∀ k, k < (if c = B.1 then 0 else B.2.1 c) → M 5 (4 * c + k) = nI ((if c = B.1 then st else B.2.2.1 c) k)) ∧ (if c = B.1 then (0 : Int32) else M 6 c) = nI (sp_ht (rd_ac B 0 st) c (if c = B.1 then 0 else B.2.1 c)) ∧ (if c = B.1 then (1 : Int32) else M 7 c) = sp_bits (rd_ac B 0 st) c (if c = B.1 then 0 else B.2.1 c)
    by_cases e : c = B.1
    · simp only [if_pos e]
      exact ⟨rfl, fun k hk => absurd hk (Nat.not_lt_zero _), rfl, rfl⟩
    · simp only [if_neg e, sp_ht_ac e, sp_bits_ac e]
      exact d3 c (by omega)
theorem r_addStep {M : gl_N} (hw : sp_wf B) {k d : Nat} {st : Nat → Nat} (hD : sp_CD (rd_ac B k st) M) (hc : B.1 < 6) (hk : k < 4) (K : ∀ M', (∀ a, a < 3 ∨ 10 < a → M' a = M a) → sp_CD (rd_ac B (k + 1) (fun j => if j = k then d else st j)) M' → Q none M') : gr l sc m_X0_addStep [.ref 3, .int (nI d)] M Q := by
  obtain ⟨d1, d2, d3, d4⟩ := hD
  have d1 : M 3 0 = nI (B.1 + 1) := d1
  have hcn : (rd_ac B k st).1 = B.1 + 1 := rfl
  obtain ⟨n1, n2, n3, n4⟩ := d3 B.1 (by rw [hcn]; omega)
  have hk2 : (rd_ac B k st).2.1 B.1 = k := if_pos rfl
  rw [hk2] at n1 n2 n3 n4
  refine e_X0_addStep l sc M Q _ ?_
  have e1 : M 3 0 - 1 = nI B.1 := by rw [d1]; exact nI_pred _
  rw [e1, sp_cl (n := B.1) (by omega), n1]
  have e2 : nI B.1 * 4 + nI k = nI (4 * B.1 + k) := by rw [show (4 : Int32) = nI 4 from rfl, sp_mul, nI_add, Nat.mul_comm]
  rw [e2, sp_cl (n := 4 * B.1 + k) (by omega), nI_1]
  have hv : vp_in (nI B.1) 6 := sp_vp (by omega) (by omega)
  refine ⟨⟨hv, sp_vp (by omega) (by omega), hv, hv, hv, hv, hv, hv, hv⟩, K _ (fun a ha => ?_) ⟨d1, d2, fun c hcl => ?_, d4⟩⟩
  · simp [gl_u2, gl_u1, show a ≠ 5 by omega, show a ≠ 4 by omega, show a ≠ 6 by omega, show a ≠ 7 by omega]
  · have hcl : c < B.1 + 1 := hcl
    show (if c = B.1 then nI (k + 1) else M 4 c) = nI (if c = B.1 then k + 1 else B.2.1 c) ∧ (∀ j, j < (if c = B.1 then k + 1 else B.2.1 c) → (if 4 * c + j = 4 * B.1 + k then nI d else M 5 (4 * c + j)) = nI ((if c = B.1 then (fun j => if j = k then d else st j) else B.2.2.1 c) j)) ∧ (if c = B.1 then M 6 B.1 + nI d else M 6 c) = nI (sp_ht (rd_ac B (k + 1) (fun j => if j = k then d else st j)) c (if c = B.1 then k + 1 else B.2.1 c)) ∧ (if c = B.1 then M 7 B.1 ||| (1 <<< ((if B.1 = B.1 then M 6 B.1 + nI d else M 6 B.1) &&& 31)) else M 7 c) = sp_bits (rd_ac B (k + 1) (fun j => if j = k then d else st j)) c (if c = B.1 then k + 1 else B.2.1 c)
    by_cases e : c = B.1
    · subst e
      simp only [if_true]
      have hh : sp_ht (rd_ac B (k + 1) (fun j => if j = k then d else st j)) B.1 (k + 1) = sp_ht (rd_ac B k st) B.1 k + d := by
        show sp_ht (rd_ac B (k + 1) (fun j => if j = k then d else st j)) B.1 k + (if B.1 = B.1 then (fun j => if j = k then d else st j) else B.2.2.1 B.1) k = _
        rw [if_pos rfl, sp_ht_new (k2 := k) (st2 := st) k (fun i hi => by show (if i = k then d else st i) = st i; rw [if_neg (by omega)])]
        show _ + (if k = k then d else st k) = _
        rw [if_pos rfl]
      refine ⟨trivial, fun j hj => ?_, ?_, ?_⟩
      · by_cases z : j = k
        · rw [if_pos (by omega), if_pos z]
        · rw [if_neg (by omega), if_neg z, n2 j (by omega)]
          show nI ((if B.1 = B.1 then st else B.2.2.1 B.1) j) = nI (st j)
          rw [if_pos rfl]
      · rw [n3, nI_add, hh]
      · show _ = sp_bits (rd_ac B (k + 1) (fun j => if j = k then d else st j)) B.1 k ||| (1 <<< (nI (sp_ht (rd_ac B (k + 1) (fun j => if j = k then d else st j)) B.1 (k + 1)) &&& 31))
        rw [hh, n4, n3, nI_add, sp_bits_new (k := k + 1) (st := fun j => if j = k then d else st j) (k2 := k) (st2 := st) k (fun i hi => by show (if i = k then d else st i) = st i; rw [if_neg (by omega)])]
    · simp only [if_neg e, sp_ht_ac e, sp_bits_ac e]
      have := d3 c (by rw [hcn]; omega)
      rw [show (rd_ac B k st).2.1 c = B.2.1 c from if_neg e, show (rd_ac B k st).2.2.1 c = B.2.2.1 c from if_neg e, sp_ht_ac e, sp_bits_ac e] at this
      refine ⟨this.1, fun j hj => ?_, this.2.2⟩
      by_cases z : 4 * c + j = 4 * B.1 + k
      · exfalso
        have := (hw.2.1 c (by omega)).2.1
        omega
      · rw [if_neg z]; exact this.2.1 j hj
theorem r_openMode {M : gl_N} (hw : sp_wf B) (hD : sp_CD B M) (hm : B.2.2.2.1 < 6) {c : Nat} (K : ∀ M', (∀ a, a < 3 ∨ 10 < a → M' a = M a) → sp_CD (rd_am B 1 (fun _ => c) (fun _ => 0)) M' → Q none M') : gr l sc m_X0_openMode [.ref 3, .int (nI c)] M Q := by
  obtain ⟨d1, d2, d3, d4⟩ := hD
  refine e_X0_openMode l sc M Q _ ?_
  have e2 : nI B.2.2.2.1 * 4 = nI (4 * B.2.2.2.1) := by rw [show (4 : Int32) = nI 4 from rfl, sp_mul, Nat.mul_comm]
  rw [d2, e2, sp_cl (n := B.2.2.2.1) (by omega), sp_cl (n := 4 * B.2.2.2.1) (by omega), nI_1]
  refine ⟨⟨sp_vp (by omega) (by omega), sp_vp (by omega) (by omega), sp_vp (by omega) (by omega)⟩, K _ (fun a ha => ?_) ⟨d1, rfl, fun c' hcl => ?_, fun m hml => ?_⟩⟩
  · simp [gl_u2, gl_u1, show a ≠ 9 by omega, show a ≠ 10 by omega, show a ≠ 8 by omega, show a ≠ 3 by omega]
  · have := d3 c' hcl
    rw [← sp_ht_am (B := B) (k := 1) (pl := fun _ => c) (ph := fun _ => 0), ← sp_bits_am (B := B) (k := 1) (pl := fun _ => c) (ph := fun _ => 0)] at this
    exact this
  · have hml : m < B.2.2.2.1 + 1 := hml
    show (if m = B.2.2.2.1 then (1 : Int32) else M 8 m) = nI (if m = B.2.2.2.1 then 1 else B.2.2.2.2.1 m) ∧ ∀ j, j < (if m = B.2.2.2.1 then 1 else B.2.2.2.2.1 m) → (if 4 * m + j = 4 * B.2.2.2.1 then nI c else M 9 (4 * m + j)) = nI ((if m = B.2.2.2.1 then (fun _ => c) else B.2.2.2.2.2.1 m) j) ∧ (if 4 * m + j = 4 * B.2.2.2.1 then (0 : Int32) else M 10 (4 * m + j)) = nI ((if m = B.2.2.2.1 then (fun _ => 0) else B.2.2.2.2.2.2 m) j)
    by_cases e : m = B.2.2.2.1
    · simp only [if_pos e]
      refine ⟨rfl, fun j hj => ?_⟩
      rw [if_pos (by omega), if_pos (by omega)]
      exact ⟨rfl, rfl⟩
    · simp only [if_neg e]
      have := (hw.2.2.2 m (by omega)).2.1
      refine ⟨(d4 m (by omega)).1, fun j hj => ?_⟩
      rw [if_neg (by omega), if_neg (by omega)]
      exact (d4 m (by omega)).2 j hj
theorem r_addPart {M : gl_N} (hw : sp_wf B) {k c g : Nat} {pl ph : Nat → Nat} (hD : sp_CD (rd_am B k pl ph) M) (hm : B.2.2.2.1 < 6) (h1 : 1 ≤ k) (hk : k < 4) (hpl : pl (k - 1) < B.1) (K : ∀ M', (∀ a, a < 3 ∨ 10 < a → M' a = M a) → sp_CD (rd_am B (k + 1) (fun j => if j = k then c else pl j) (fun j => if j = k then ph (k - 1) + sp_ht B (pl (k - 1)) (B.2.1 (pl (k - 1))) + g else ph j)) M' → Q none M') : gr l sc m_X0_addPart [.ref 3, .int (nI g), .int (nI c)] M Q := by
  obtain ⟨d1, d2, d3, d4⟩ := hD
  have hc6 : B.1 ≤ 6 := hw.1
  have d2 : M 3 5 = nI (B.2.2.2.1 + 1) := d2
  have hmn : (rd_am B k pl ph).2.2.2.1 = B.2.2.2.1 + 1 := rfl
  obtain ⟨n1, n2⟩ := d4 B.2.2.2.1 (by rw [hmn]; omega)
  rw [show (rd_am B k pl ph).2.2.2.2.1 B.2.2.2.1 = k from if_pos rfl, show (rd_am B k pl ph).2.2.2.2.2.1 B.2.2.2.1 = pl from if_pos rfl, show (rd_am B k pl ph).2.2.2.2.2.2 B.2.2.2.1 = ph from if_pos rfl] at n2
  rw [show (rd_am B k pl ph).2.2.2.2.1 B.2.2.2.1 = k from if_pos rfl] at n1
  refine e_X0_addPart l sc M Q _ _ ?_
  have e1 : M 3 5 - 1 = nI B.2.2.2.1 := by rw [d2]; exact nI_pred _
  have e2 : nI B.2.2.2.1 * 4 + nI k = nI (4 * B.2.2.2.1 + k) := by rw [show (4 : Int32) = nI 4 from rfl, sp_mul, nI_add, Nat.mul_comm]
  have e3 : nI (4 * B.2.2.2.1 + k) - 1 = nI (4 * B.2.2.2.1 + (k - 1)) := by rw [sp_sub1 (by omega)]; congr 1; omega
  obtain ⟨p1, p2⟩ := n2 (k - 1) (by omega)
  have e4 : (gl_u2 M 9 (4 * B.2.2.2.1 + k) (nI c)) 9 (4 * B.2.2.2.1 + (k - 1)) = nI (pl (k - 1)) := by
    show (if 4 * B.2.2.2.1 + (k - 1) = 4 * B.2.2.2.1 + k then nI c else M 9 (4 * B.2.2.2.1 + (k - 1))) = _
    rw [if_neg (by omega), p1]
  have h6 : M 6 (pl (k - 1)) = nI (sp_ht B (pl (k - 1)) (B.2.1 (pl (k - 1)))) := by
    have := (d3 (pl (k - 1)) hpl).2.2.1
    rw [sp_ht_am] at this
    exact this
  rw [e1, sp_cl (n := B.2.2.2.1) (by omega), n1, e2, e3, sp_cl (n := 4 * B.2.2.2.1 + k) (by omega), sp_cl (n := 4 * B.2.2.2.1 + (k - 1)) (by omega), e4, sp_cl (n := pl (k - 1)) (by omega), p2, h6, nI_add, nI_add, nI_1]
  have hv : vp_in (nI B.2.2.2.1) 6 := sp_vp (by omega) (by omega)
  refine ⟨⟨hv, sp_vp (by omega) (by omega), sp_vp (by omega) (by omega), sp_vp (by omega) (by omega), sp_vp (by omega) (by omega), sp_vp (by omega) (by omega), hv, hv⟩, K _ (fun a ha => ?_) ⟨d1, d2, fun c' hcl => ?_, fun m hml => ?_⟩⟩
  · simp [gl_u2, gl_u1, show a ≠ 9 by omega, show a ≠ 10 by omega, show a ≠ 8 by omega]
  · have := d3 c' hcl
    rw [sp_ht_am, sp_bits_am] at this
    rw [sp_ht_am, sp_bits_am]
    exact this
  · have hml : m < B.2.2.2.1 + 1 := hml
    show (if m = B.2.2.2.1 then nI (k + 1) else M 8 m) = nI (if m = B.2.2.2.1 then k + 1 else B.2.2.2.2.1 m) ∧ ∀ j, j < (if m = B.2.2.2.1 then k + 1 else B.2.2.2.2.1 m) → (if 4 * m + j = 4 * B.2.2.2.1 + k then nI c else M 9 (4 * m + j)) = nI ((if m = B.2.2.2.1 then (fun j => if j = k then c else pl j) else B.2.2.2.2.2.1 m) j) ∧ (if 4 * m + j = 4 * B.2.2.2.1 + k then nI (ph (k - 1) + sp_ht B (pl (k - 1)) (B.2.1 (pl (k - 1))) + g) else M 10 (4 * m + j)) = nI ((if m = B.2.2.2.1 then (fun j => if j = k then ph (k - 1) + sp_ht B (pl (k - 1)) (B.2.1 (pl (k - 1))) + g else ph j) else B.2.2.2.2.2.2 m) j)
    by_cases e : m = B.2.2.2.1
    · subst e
      simp only [if_true]
      refine ⟨trivial, fun j hj => ?_⟩
      by_cases z : j = k
      · have q : 4 * B.2.2.2.1 + j = 4 * B.2.2.2.1 + k := by omega
        exact ⟨by rw [if_pos q, if_pos z], by rw [if_pos q, if_pos z]⟩
      · have q : ¬ 4 * B.2.2.2.1 + j = 4 * B.2.2.2.1 + k := by omega
        exact ⟨by rw [if_neg q, if_neg z]; exact (n2 j (by omega)).1, by rw [if_neg q, if_neg z]; exact (n2 j (by omega)).2⟩
    · simp only [if_neg e]
      have h4 := (hw.2.2.2 m (by omega)).2.1
      have := d4 m (by rw [hmn]; omega)
      rw [show (rd_am B k pl ph).2.2.2.2.1 m = B.2.2.2.2.1 m from if_neg e, show (rd_am B k pl ph).2.2.2.2.2.1 m = B.2.2.2.2.2.1 m from if_neg e, show (rd_am B k pl ph).2.2.2.2.2.2 m = B.2.2.2.2.2.2 m from if_neg e] at this
      refine ⟨this.1, fun j hj => ?_⟩
      rw [if_neg (by omega), if_neg (by omega)]
      exact this.2 j hj
end SP24

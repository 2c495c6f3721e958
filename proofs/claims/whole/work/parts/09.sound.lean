theorem gl_okc_ty : ∀ (ci : Nat) (q : vw_C), gl_cls[ci]? = some q → gl_okc q (gl_Y (gl_dts.getD ci [])) := by
  intro ci q hq
  match ci, hq with
  | 0, hq => cases hq; exact gl_okc0
  | 1, hq => cases hq; exact gl_okc1
  | 2, hq => cases hq; exact gl_okc2
  | 3, hq => cases hq; exact gl_okc3
  | 4, hq => cases hq; exact gl_okc4
  | 5, hq => cases hq; exact gl_okc5
  | 6, hq => cases hq; exact gl_okc6
  | 7, hq => cases hq; exact gl_okc7
  | 8, hq => cases hq; exact gl_okc8
  | 9, hq => cases hq; exact gl_okc9
  | 10, hq => cases hq; exact gl_okc10
  | 11, hq => cases hq; exact gl_okc11
  | k + 12, hq => simp [gl_cls] at hq
theorem gl_df_len : ∀ (ci : Nat) (q : vw_C), gl_cls[ci]? = some q → (gl_df ci).length = q.2.2 ∧ ∀ j, j < q.2.2 → (gl_df ci)[j]? = some (defaultValue (gl_Y (gl_dts.getD ci []) j)) ∧ (gl_Y (gl_dts.getD ci []) j = .int ∨ gl_Y (gl_dts.getD ci []) j = .boolean ∨ (∃ c, gl_Y (gl_dts.getD ci []) j = .object c) ∨ ∃ t, gl_Y (gl_dts.getD ci []) j = .array t) := by
  have key : ∀ (D : List FieldType) (N : Nat), D.length = N → (∀ t ∈ D, t = .int ∨ t = .boolean ∨ (∃ c, t = .object c) ∨ ∃ u, t = .array u) → (D.map defaultValue).length = N ∧ ∀ j, j < N → (D.map defaultValue)[j]? = some (defaultValue (gl_Y D j)) ∧ (gl_Y D j = .int ∨ gl_Y D j = .boolean ∨ (∃ c, gl_Y D j = .object c) ∨ ∃ t, gl_Y D j = .array t) := by
    intro D N hN hall
    refine ⟨by rw [List.length_map]; exact hN, fun j hj => ?_⟩
    have hj' : j < D.length := by omega
    have hg : gl_Y D j = D[j] := by simp [gl_Y, List.getD_eq_getElem?_getD, hj']
    rw [hg]
    exact ⟨by simp [hj'], hall _ (List.getElem_mem hj')⟩
  intro ci q hq
  unfold gl_df
  match ci, hq with
  | 0, hq => cases hq; exact key gl_D0 _ rfl (by simp [gl_D0])
  | 1, hq => cases hq; exact key gl_D1 _ rfl (by simp [gl_D1])
  | 2, hq => cases hq; exact key gl_D2 _ rfl (by simp [gl_D2])
  | 3, hq => cases hq; exact key gl_D3 _ rfl (by simp [gl_D3])
  | 4, hq => cases hq; exact key gl_D4 _ rfl (by simp [gl_D4])
  | 5, hq => cases hq; exact key gl_D5 _ rfl (by simp [gl_D5])
  | 6, hq => cases hq; exact key gl_D6 _ rfl (by simp [gl_D6])
  | 7, hq => cases hq; exact key gl_D7 _ rfl (by simp [gl_D7])
  | 8, hq => cases hq; exact key gl_D8 _ rfl (by simp [gl_D8])
  | 9, hq => cases hq; exact key gl_D9 _ rfl (by simp [gl_D9])
  | 10, hq => cases hq; exact key gl_D10 _ rfl (by simp [gl_D10])
  | 11, hq => cases hq; exact key gl_D11 _ rfl (by simp [gl_D11])
  | k + 12, hq => simp [gl_cls] at hq
/-- what is checked of an instruction, by the kernel: its pool's entry, its number -/
def gl_lf (Mt : gl_M) (o : gl_O) (i : Nat) (q : vw_C) : Bool := decide (gl_tb[o.2.2.2.1]? = some (.fieldLink Mt.1.cls i (q.2.1 o.2.2.1).1 (q.2.1 o.2.2.1).2.1 (q.2.1 o.2.2.1).2.2.1))
def gl_ln (Mt : gl_M) (o : gl_O) (i : Nat) (q : vw_C) : Bool := decide (gl_tb[o.2.2.2.1]? = some (.fieldLinkNest Mt.1.cls i (q.2.1 o.2.2.1).1 (q.2.1 o.2.2.1).2.1 (q.2.1 o.2.2.1).2.2.1 "ModeCells"))
def gl_res (mn : List MethodName) (Mt : gl_M) (o : gl_O) : Bool := match o.1 with
  | .iconst a => decide (Int32.ofInt a = o.2.2.2.2)
  | .bipush a => decide ((Int8.ofInt a).toInt32 = o.2.2.2.2)
  | .sipush a => decide ((Int16.ofInt a).toInt32 = o.2.2.2.2)
  | .iinc _ a => decide (Int32.ofInt a = o.2.2.2.2)
  | .ldc i => decide (gl_tb[o.2.2.2.1]? = some (.constant Mt.1.cls i o.2.2.2.2))
  | .getfield i => match gl_cls[o.2.1]? with
    | some q => decide (o.2.2.1 < q.2.2) && (gl_lf Mt o i q || gl_ln Mt o i q)
    | none => false
  | .putfield i => match gl_cls[o.2.1]? with
    | some q => decide (o.2.2.1 < q.2.2) && ((gl_lf Mt o i q && (decide ((q.2.1 o.2.2.1).2.2.2 = false) || (decide (Mt.1.name = "<init>") && decide ((q.2.1 o.2.2.1).1 = Mt.1.cls)))) || (gl_ln Mt o i q && decide ((q.2.1 o.2.2.1).2.2.2 = false)))
    | none => false
  | .new i => match gl_cls[o.2.1]? with
    | some q => decide (gl_tb[o.2.2.2.1]? = some (.classLink Mt.1.cls i q.1))
    | none => false
  | .invokestatic i => match o.2.1 with
    | 0 => match mn[o.2.2.1]? with
      | some y => decide (gl_tb[o.2.2.2.1]? = some (.methodLink Mt.1.cls i y)) || decide (gl_tb[o.2.2.2.1]? = some (.methodLinkNest Mt.1.cls i y "ModeCells"))
      | none => false
    | 1 => decide (gl_tb[o.2.2.2.1]? = some (.methodLink Mt.1.cls i Lib.Math.min.name)) && decide (1 ≤ Mt.2.2.2.2.1) && decide (26 ≤ Mt.2.2.2.2.2)
    | _ => decide (gl_tb[o.2.2.2.1]? = some (.methodLink Mt.1.cls i arraycopyName)) && decide (1 ≤ Mt.2.2.2.2.1) && decide (26 ≤ Mt.2.2.2.2.2)
  | .invokespecial i => match o.2.1 with
    | 3 => decide (gl_tb[o.2.2.2.1]? = some (.methodLink Mt.1.cls i Lib.objectInit)) && decide (1 ≤ Mt.2.2.2.2.1) && decide (26 ≤ Mt.2.2.2.2.2)
    | _ => match mn[o.2.2.1]? with
      | some y => decide (gl_tb[o.2.2.2.1]? = some (.methodLink Mt.1.cls i y)) || decide (gl_tb[o.2.2.2.1]? = some (.methodLinkNest Mt.1.cls i y "ModeCells"))
      | none => false
  | .invokevirtual i => match mn[o.2.2.1]? with
      | some y => decide (gl_tb[o.2.2.2.1]? = some (.methodLink Mt.1.cls i y)) || decide (gl_tb[o.2.2.2.1]? = some (.methodLinkNest Mt.1.cls i y "ModeCells"))
      | none => false
  | _ => true
def gl_ok1 (mn : List MethodName) (Mt : gl_M) (q : Nat × gl_O) : Bool := decide (decode Mt.2.1 q.1 = .ok (q.2.1, gl_len q.2.1)) && gl_res mn Mt q.2
theorem gl_fl_of {Mt : gl_M} {o : gl_O} {i : Nat} {q : vw_C} (h : (gl_lf Mt o i q || gl_ln Mt o i q) = true) : gl_fl Mt.1.cls i q.2.1 o.2.2.1 := by
  rcases (Bool.or_eq_true _ _).mp h with h | h
  · exact Or.inl (List.mem_of_getElem? (of_decide_eq_true h))
  · exact Or.inr (List.mem_of_getElem? (of_decide_eq_true h))

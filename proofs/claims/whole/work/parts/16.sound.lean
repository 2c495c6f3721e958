theorem gl_okc_ty : ∀ (ci : Nat) (q : vw_C), gl_cls[ci]? = some q → gl_okc q (gl_Y (gl_dts.getD ci [])) := by
  intro ci q hq
  match ci, hq with
  | 0, hq => cases hq; exact gl_okc0
  | 1, hq => cases hq; exact gl_okc1
  | 2, hq => cases hq; exact gl_okc2
  | 3, hq => cases hq; exact gl_okc3
  | 4, hq => cases hq; exact gl_okc4
  | 5, hq => cases hq; exact gl_okc5
  | 6, hq => cases hq; exact gl_okc6
  | 7, hq => cases hq; exact gl_okc7
  | 8, hq => cases hq; exact gl_okc8
  | 9, hq => cases hq; exact gl_okc9
  | 10, hq => cases hq; exact gl_okc10
  | 11, hq => cases hq; exact gl_okc11
  | k + 12, hq => simp [gl_cls] at hq
theorem gl_df_len : ∀ (ci : Nat) (q : vw_C), gl_cls[ci]? = some q → (gl_df ci).length = q.2.2 ∧ ∀ j, j < q.2.2 → (gl_df ci)[j]? = some (defaultValue (gl_Y (gl_dts.getD ci []) j)) ∧ (gl_Y (gl_dts.getD ci []) j = .int ∨ gl_Y (gl_dts.getD ci []) j = .boolean ∨ (∃ c, gl_Y (gl_dts.getD ci []) j = .object c) ∨ ∃ t, gl_Y (gl_dts.getD ci []) j = .array t) := by
  have key : ∀ (D : List FieldType) (N : Nat), D.length = N → (∀ t ∈ D, t = .int ∨ t = .boolean ∨ (∃ c, t = .object c) ∨ ∃ u, t = .array u) → (D.map defaultValue).length = N ∧ ∀ j, j < N → (D.map defaultValue)[j]? = some (defaultValue (gl_Y D j)) ∧ (gl_Y D j = .int ∨ gl_Y D j = .boolean ∨ (∃ c, gl_Y D j = .object c) ∨ ∃ t, gl_Y D j = .array t) := by
    intro D N hN hall
    refine ⟨by rw [List.length_map]; exact hN, fun j hj => ?_⟩
    have hj' : j < D.length := by omega
    have hg : gl_Y D j = D[j] := by simp [gl_Y, List.getD_eq_getElem?_getD, hj']
    rw [hg]
    exact ⟨by simp [hj'], hall _ (List.getElem_mem hj')⟩
  intro ci q hq
  unfold gl_df
  match ci, hq with
  | 0, hq => cases hq; exact key gl_D0 _ rfl (by simp [gl_D0])
  | 1, hq => cases hq; exact key gl_D1 _ rfl (by simp [gl_D1])
  | 2, hq => cases hq; exact key gl_D2 _ rfl (by simp [gl_D2])
  | 3, hq => cases hq; exact key gl_D3 _ rfl (by simp [gl_D3])
  | 4, hq => cases hq; exact key gl_D4 _ rfl (by simp [gl_D4])
  | 5, hq => cases hq; exact key gl_D5 _ rfl (by simp [gl_D5])
  | 6, hq => cases hq; exact key gl_D6 _ rfl (by simp [gl_D6])
  | 7, hq => cases hq; exact key gl_D7 _ rfl (by simp [gl_D7])
  | 8, hq => cases hq; exact key gl_D8 _ rfl (by simp [gl_D8])
  | 9, hq => cases hq; exact key gl_D9 _ rfl (by simp [gl_D9])
  | 10, hq => cases hq; exact key gl_D10 _ rfl (by simp [gl_D10])
  | 11, hq => cases hq; exact key gl_D11 _ rfl (by simp [gl_D11])
  | k + 12, hq => simp [gl_cls] at hq
theorem gl_fl_of {Mt : gl_M} {o : gl_O} {i : Nat} {q : vw_C} (h : (gl_lf Mt o i q || gl_ln Mt o i q) = true) : gl_fl Mt.1.cls i q.2.1 o.2.2.1 := by
  rcases (Bool.or_eq_true _ _).mp h with h | h
  · exact Or.inl (List.mem_of_getElem? (of_decide_eq_true h))
  · exact Or.inr (List.mem_of_getElem? (of_decide_eq_true h))

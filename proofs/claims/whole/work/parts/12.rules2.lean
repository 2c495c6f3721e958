theorem gl_okc_all : ∀ (ci : Nat) (q : vw_C), gl_cls[ci]? = some q → ∃ ty : Nat → FieldType, gl_okc q ty := by
  intro ci q hq
  match ci, hq with
  | 0, hq => cases hq; exact ⟨_, gl_okc0⟩
  | 1, hq => cases hq; exact ⟨_, gl_okc1⟩
  | 2, hq => cases hq; exact ⟨_, gl_okc2⟩
  | 3, hq => cases hq; exact ⟨_, gl_okc3⟩
  | 4, hq => cases hq; exact ⟨_, gl_okc4⟩
  | 5, hq => cases hq; exact ⟨_, gl_okc5⟩
  | 6, hq => cases hq; exact ⟨_, gl_okc6⟩
  | 7, hq => cases hq; exact ⟨_, gl_okc7⟩
  | 8, hq => cases hq; exact ⟨_, gl_okc8⟩
  | 9, hq => cases hq; exact ⟨_, gl_okc9⟩
  | 10, hq => cases hq; exact ⟨_, gl_okc10⟩
  | 11, hq => cases hq; exact ⟨_, gl_okc11⟩
  | k + 12, hq => simp [gl_cls] at hq
section GLS
variable {l : Launch} {sc : Nat × (Nat → Int32)} {Mt : gl_M} {pc : Nat} {ls st : List Value} {h : List gl_E} {z zy : Bool} {k n : Nat} {Q : Option Value → List gl_E → Prop}
/-- a field's link, plain or to a nest mate -/
def gl_fl (own : String) (idx : Nat) (T : u_T) (j : Nat) : Prop := Cond.fieldLink own idx (T j).1 (T j).2.1 (T j).2.2.1 ∈ gl_tb ∨ Cond.fieldLinkNest own idx (T j).1 (T j).2.1 (T j).2.2.1 "ModeCells" ∈ gl_tb
theorem gl_r_get {o ci j idx : Nat} {q : vw_C} {fs : List Value} {v : Value} (hcl : gl_cls[ci]? = some q) (hj : j < q.2.2) (hw : gl_fl Mt.1.cls idx q.2.1 j) (ho : h[o]? = some (.inr (ci, fs))) (hv : fs[j]? = some v) (hd : decode Mt.2.1 pc = .ok (.getfield idx, 3)) (K : gl_Ev l sc Mt (pc + 3) ls (v :: st) h z zy k n Q) : gl_Ev l sc Mt pc ls (.ref o :: st) h z zy k n Q := by
  intro base b D cI cB p e R s m args below meth c H locs cells slots A QW C W0 S0 hc hs hL fin
  obtain ⟨ty, hin, -⟩ := gl_okc_all ci q hcl
  have hv' : (fs.map (gl_mv base b))[j]? = some (gl_mv base b v) := by rw [List.getElem?_map, hv]; rfl
  have K' := K base b D cI cB p e R s m args below meth c H locs cells slots A QW C W0 S0 hc hs hL fin
  rcases hw with hw | hw
  · exact va_get (C := q.1) (T := q.2.1) (N := q.2.2) C.1 C.2.1 C.2.2.2.2.2.1 hin C.2.2.2.2.1 C.2.2.2.2.2.2.1 W0.1 o (gl_ws_at ho) hcl j hj (C.2.2.2.2.2.1 _ hw) (fun _ h9 => h9) hv' hd K'
  · exact va_getN (C := q.1) (T := q.2.1) (N := q.2.2) C.1 C.2.1 C.2.2.2.2.2.1 hin C.2.2.2.2.1 C.2.2.2.2.2.2.1 W0.1 o (gl_ws_at ho) hcl j hj (C.2.2.2.2.2.1 _ hw) (fun _ h9 => h9) hv' hd K'
/-- a value that a field of a type takes -/
def gl_tk (ty : FieldType) (v : Value) : Prop := (ty = .int ∧ ∃ x, v = .int x) ∨ (ty = .boolean ∧ ∃ x : Int32, v = .int x ∧ (x = 0 ∨ x = 1)) ∨ (((∃ c, ty = .object c) ∨ ∃ t, ty = .array t) ∧ ∃ a, v = .ref a)
theorem gl_narrow_b {x : Int32} (h : x = 0 ∨ x = 1) : narrow .boolean (.int x) = .int x := by rcases h with rfl | rfl <;> rfl
theorem gl_tk_ok {base b : Nat} {ty : FieldType} {v : Value} (h : gl_tk ty v) : narrow ty (gl_mv base b v) = gl_mv base b v ∧ fits ty (gl_mv base b v) = true := by
  rcases h with ⟨rfl, x, rfl⟩ | ⟨rfl, x, rfl, hx⟩ | ⟨⟨c, rfl⟩ | ⟨t, rfl⟩, a, rfl⟩
  · exact ⟨rfl, rfl⟩
  · exact ⟨gl_narrow_b hx, by rcases hx with rfl | rfl <;> rfl⟩
  · exact ⟨rfl, rfl⟩
  · exact ⟨rfl, rfl⟩
theorem gl_r_put {o ci j idx : Nat} {q : vw_C} {fs : List Value} {v : Value} (hcl : gl_cls[ci]? = some q) (hj : j < q.2.2) (hw : gl_fl Mt.1.cls idx q.2.1 j) (hfin : (q.2.1 j).2.2.2 = false ∨ (Cond.fieldLink Mt.1.cls idx (q.2.1 j).1 (q.2.1 j).2.1 (q.2.1 j).2.2.1 ∈ gl_tb ∧ Mt.1.name = "<init>" ∧ (q.2.1 j).1 = Mt.1.cls)) (ho : h[o]? = some (.inr (ci, fs))) (hl : j < fs.length)
    (hty : ∀ ty, parseFieldDescriptor (q.2.1 j).2.2.1 = some ty → gl_tk ty v) (hd : decode Mt.2.1 pc = .ok (.putfield idx, 3)) (K : gl_Ev l sc Mt (pc + 3) ls st (h.set o (.inr (ci, fs.set j v))) z zy k n Q) : gl_Ev l sc Mt pc ls (v :: .ref o :: st) h z zy k n Q := by
  intro base b D cI cB p e R s m args below meth c H locs cells slots A QW C W0 S0 hc hs hL fin
  obtain ⟨Cn, T, N⟩ := q
  obtain ⟨ty0, hin, hty0, hnm, -⟩ := gl_okc_all ci _ hcl
  dsimp only at hin hty0 hnm hj hw hfin hty
  have hts := C.2.2.2.2.2.1
  have hK := C.2.2.2.2.2.2.1
  have hown := C.2.2.2.2.1
  have hD := gl_D base b cI cB h
  have hap := va_apart (own := Cn) hts hin ty0 hty0 hnm hK hcl
  have he := gl_ws_at (base := base) (b := b) (cI := cI) (cB := cB) ho
  obtain ⟨r, h1, cell, q1, q2, q3, q4⟩ := W0.1 o _ he
  have hr : r = (Cn, T, N) := Option.some.inj (h1.symm.trans hcl)
  subst hr
  obtain ⟨hS, hfc, kC, hkC, hkind⟩ := hK.1 ci _ hcl
  obtain ⟨cf, kf, fi, f, hi, hsl⟩ := hS j hj
  have hst := (u_facts hfc hkC (u_lays hts hin hj) hi).1
  have htk := gl_tk_ok (base := base) (b := b) (hty _ (hty0 j hj))
  have hlay := hts _ (hin _ (u_in_lay hj))
  unfold u_lay at hlay
  have kk : ∀ H' : Heap, H'[base + o]? = some (cell.setSlot f.slot (gl_mv base b v)) → H'.size = H.size → (∀ q, q ≠ base + o → H'[q]? = H[q]?) → W p l e R s m args below meth c H' (locs ++ [⟨base + o, f.slot⟩]) cells slots QW (F0 m (pc + 3) A (st.map (gl_mv base b))) := by
    intro H' e1 e2 e3
    rw [hsl] at e1 ⊢
    have hl' : j < (fs.map (gl_mv base b)).length := by rw [List.length_map]; exact hl
    have hP := W0.1.set hD he (e := .inr (ci, (fs.map (gl_mv base b)).set j (gl_mv base b v))) ⟨_, hcl, t_OB.to (V := updV (vp_V (fs.map (gl_mv base b))) j (gl_mv base b v)) ⟨_, e1, q2, q3, t_set q4 hap hj (gl_mv base b v)⟩ (fun i _ => vp_updV_set hl' (gl_mv base b v) i)⟩ e3
    have hset : (gl_ws base b cI cB h).set o (base + o, .inr (ci, (fs.map (gl_mv base b)).set j (gl_mv base b v))) = gl_ws base b cI cB (h.set o (.inr (ci, fs.set j v))) := by
      rw [← gl_ws_set]
      simp only [gl_e, List.map_set]
    rw [hset] at hP
    exact K base b D cI cB p e R s m args below meth c H' _ cells slots A QW C ⟨hP, fun hz => by rw [e2, List.length_set]; exact W0.2 hz⟩ (S0.put e2 e3 (Nat.le_add_right _ _)) hc hs hL fin
  by_cases hfn : (T j).2.2.2 = true
  · rcases hfin with hfin | ⟨hw1, hn1, hn2⟩
    · rw [hfn] at hfin; cases hfin
    · rw [if_pos hfn] at hlay
      have hcf : m.cls = cf := by
        obtain ⟨_, _, c', _, _, _, -, -, hf', -, -, -, hown2, -⟩ := Cond.laysFinal_spec hlay
        have e1 : c' = cf := by have := hi.symm.trans hf'; simp at this; exact this.1.symm
        rw [hn2] at hown2
        rw [← e1]; exact Option.some.inj (hown.symm.trans hown2)
      have h6 := u_fits hfc hkC hkind (Or.inr hlay) hi (hty0 j hj) htk.1 htk.2
      exact W.putFinK C.1 C.2.1 hown (hts _ hw1) hi hst hcf (C.2.2.2.2.2.2.2.2.2.2.1 hn1) (by rw [q2]; exact h6) q1 q3 (by rw [hsl]; exact k2_hasslot (q4 j hj)) rfl rfl hd kk
  · rw [if_neg hfn] at hlay
    have h6 := u_store hfc hkC hkind hlay hi (hty0 j hj) htk.1 htk.2
    rcases hw with hw | hw
    · exact W.putK C.1 C.2.1 (f := f) ⟨hown, hts _ hw, ⟨_, _, _, hi⟩, hst⟩ (by rw [q2]; exact h6) q1 q3 (by rw [hsl]; exact k2_hasslot (q4 j hj)) rfl rfl hd kk
    · exact va_WputK C.1 C.2.1 hown (hts _ hw) hi hst (by rw [q2]; exact h6) q1 q3 (by rw [hsl]; exact k2_hasslot (q4 j hj)) rfl rfl hd kk
end GLS

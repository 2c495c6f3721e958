/-! THE MEMORY behind the constructors: cell a holds M a; references stand fast -/
abbrev gl_N : Type := Nat → Nat → Int32
def gl_shape : List ((Bool × Nat) ⊕ (Nat × List (Option Value))) := [.inr (10, [some (.ref 1), some (.ref 11), some (.ref 12), some (.ref 3), some (.ref 20), some (.ref 22), some (.ref 26), some (.ref 29), some (.ref 32), some (.ref 35)]), .inr (7, [some (.ref 2), none]), .inl (false, 130), .inr (0, [none, some (.ref 4), some (.ref 5), some (.ref 6), some (.ref 7), none, some (.ref 8), some (.ref 9), some (.ref 10)]), .inl (false, 6), .inl (false, 24), .inl (false, 6), .inl (false, 6), .inl (false, 6), .inl (false, 24), .inl (false, 24), .inr (4, [some (.ref 1), some (.ref 3), none, none]), .inr (0, [none, some (.ref 13), some (.ref 14), some (.ref 15), some (.ref 16), none, some (.ref 17), some (.ref 18), some (.ref 19)]), .inl (false, 6), .inl (false, 24), .inl (false, 6), .inl (false, 6), .inl (false, 6), .inl (false, 24), .inl (false, 24), .inr (8, [some (.ref 21), none, none]), .inl (false, 16), .inr (2, [some (.ref 23), none, none]), .inr (6, [some (.ref 24), some (.ref 25)]), .inl (false, 10), .inl (false, 160), .inr (6, [some (.ref 27), some (.ref 28)]), .inl (false, 2), .inl (false, 32), .inr (5, [some (.ref 30), some (.ref 31), none]), .inl (false, 8), .inl (false, 8), .inr (9, [some (.ref 12), some (.ref 33), some (.ref 34), none, none]), .inl (false, 144), .inl (false, 144), .inr (1, [some (.ref 12), some (.ref 20), some (.ref 36), some (.ref 37), some (.ref 39), some (.ref 38), none, none, none, none, none]), .inl (false, 9216), .inl (false, 486), .inl (false, 16), .inr (3, [some (.ref 12), some (.ref 20), some (.ref 40), some (.ref 41)]), .inl (true, 144), .inl (false, 486), .inr (11, [none, none, none, some (.ref 43), some (.ref 44), some (.ref 45), none, none, some (.ref 46), some (.ref 47), some (.ref 48), some (.ref 49), none, some (.ref 50), some (.ref 51), none, some (.ref 52), some (.ref 53), none, some (.ref 54), none, none, none, some (.ref 55), some (.ref 56), some (.ref 57), some (.ref 58), none, none]), .inl (false, 30), .inl (false, 54), .inl (false, 24), .inl (false, 30), .inl (false, 54), .inl (false, 17), .inl (false, 170), .inl (false, 34), .inl (true, 2), .inl (false, 8), .inl (false, 8), .inl (false, 130), .inl (false, 144), .inl (false, 144), .inl (false, 9216), .inl (false, 16)]
def gl_cell (M : gl_N) (a : Nat) (e : (Bool × Nat) ⊕ (Nat × List (Option Value))) : gl_E := match e with
  | .inl x => .inl (x.1, x.2, M a)
  | .inr x => .inr (x.1, x.2.mapIdx (fun j v => v.getD (.int (M a j))))
def gl_hp (M : gl_N) : List gl_E := gl_shape.mapIdx (gl_cell M)
def gl_u1 (M : gl_N) (a : Nat) (g : Nat → Int32) : gl_N := fun b => if b = a then g else M b
def gl_u2 (M : gl_N) (a j : Nat) (x : Int32) : gl_N := gl_u1 M a (upd (M a) j x)
def gl_IM : gl_I gl_N := (fun M o ci j => match gl_shape[o]? with
    | some (.inr (c, fs)) => if c = ci then (match fs[j]? with
      | some (some v) => some v
      | some none => some (.int (M o j))
      | none => none) else none
    | _ => none,
  fun M o ci j v => match gl_shape[o]? with
    | some (.inr (c, fs)) => if c = ci then (match fs[j]? with
      | some none => (match v with
        | .int x => some (gl_u2 M o j x)
        | _ => none)
      | _ => none) else none
    | _ => none,
  fun M a => match gl_shape[a]? with
    | some (.inl x) => some (x.1, x.2, M a)
    | _ => none,
  fun M a g => gl_u1 M a g, fun _ => 0, fun _ _ => none)
theorem gl_hp_at (M : gl_N) (a : Nat) : (gl_hp M)[a]? = (gl_shape[a]?).map (gl_cell M a) := by simp [gl_hp, List.getElem?_mapIdx]
theorem gl_hp_u1 (M : gl_N) (a : Nat) (g : Nat → Int32) (e : gl_E) (he : ∀ x, gl_shape[a]? = some x → gl_cell (gl_u1 M a g) a x = e) : gl_hp (gl_u1 M a g) = (gl_hp M).set a e := by
  apply List.ext_getElem?
  intro b
  rw [gl_hp_at, List.getElem?_set]
  by_cases hb : a = b
  · subst hb
    rw [if_pos rfl]
    have hlen : (gl_hp M).length = gl_shape.length := by simp [gl_hp]
    cases hx : gl_shape[a]? with
    | none =>
      have : ¬ a < gl_shape.length := by rw [List.getElem?_eq_none_iff] at hx; omega
      simp [hlen, this]
    | some x =>
      have : a < gl_shape.length := (List.getElem?_eq_some_iff.mp hx).1
      simp [hlen, this, he x hx]
  · rw [if_neg hb, gl_hp_at]
    cases hx : gl_shape[b]? with
    | none => rfl
    | some x =>
      have hM : gl_u1 M a g b = M b := by simp [gl_u1, Ne.symm hb]
      cases x with
      | inl x => simp [gl_cell, hM]
      | inr x => simp [gl_cell, hM]
theorem gl_IM_law : gl_law gl_IM gl_hp := by
  refine ⟨fun M o ci j v hx => ?_, fun M o ci j v M' hx => ?_, fun M a x hx => ?_, fun M a x g hx => ?_, fun M e M' hx => ?_⟩
  · simp only [gl_IM] at hx
    split at hx
    · rename_i c fs hs
      split at hx
      · rename_i hc
        subst hc
        refine ⟨fs.mapIdx (fun j v => v.getD (.int (M o j))), by rw [gl_hp_at, hs]; rfl, ?_⟩
        rw [List.getElem?_mapIdx]
        split at hx
        · rename_i hv; cases hx; rw [hv]; rfl
        · rename_i hv; cases hx; rw [hv]; rfl
        · cases hx
      · cases hx
    · cases hx
  · simp only [gl_IM] at hx
    split at hx
    · rename_i c fs hs
      split at hx
      · rename_i hc
        subst hc
        split at hx
        · rename_i hv
          split at hx
          · rename_i x
            cases hx
            refine ⟨fs.mapIdx (fun j v => v.getD (.int (M o j))), by rw [gl_hp_at, hs]; rfl, by rw [List.length_mapIdx]; exact (List.getElem?_eq_some_iff.mp hv).1, ?_⟩
            refine gl_hp_u1 M o _ _ (fun y hy => ?_)
            rw [hs] at hy
            cases hy
            simp only [gl_cell]
            congr 2
            apply List.ext_getElem?
            intro i
            rw [List.getElem?_set, List.getElem?_mapIdx, List.getElem?_mapIdx, List.length_mapIdx]
            by_cases hi : j = i
            · subst hi
              have : j < fs.length := (List.getElem?_eq_some_iff.mp hv).1
              have hg : fs[j] = none := (List.getElem?_eq_some_iff.mp hv).2
              simp [this, gl_u1, upd, hg]
            · simp [hi, gl_u1, upd, Ne.symm hi]
          · cases hx
        · cases hx
      · cases hx
    · cases hx
  · simp only [gl_IM] at hx
    split at hx
    · rename_i y hs
      cases hx
      rw [gl_hp_at, hs]
      rfl
    · cases hx
  · simp only [gl_IM] at hx
    split at hx
    · rename_i y hs
      cases hx
      refine gl_hp_u1 M a g _ (fun y hy => ?_)
      rw [hs] at hy
      cases hy
      simp [gl_cell, gl_u1]
    · cases hx
  · simp [gl_IM] at hx
def gl_IH : gl_I (List gl_E) := (fun m o ci j => match m[o]? with
    | some (.inr (c, fs)) => if c = ci then fs[j]? else none
    | _ => none,
  fun m o ci j v => match m[o]? with
    | some (.inr (c, fs)) => if c = ci then (if j < fs.length then some (m.set o (.inr (c, fs.set j v))) else none) else none
    | _ => none,
  fun m a => match m[a]? with
    | some (.inl x) => some x
    | _ => none,
  fun m a g => match m[a]? with
    | some (.inl x) => m.set a (.inl (x.1, x.2.1, g))
    | _ => m, fun m => m.length, fun m e => some (m ++ [e]))
theorem gl_IH_law : gl_law gl_IH id := by
  refine ⟨fun M o ci j v hx => ?_, fun M o ci j v M' hx => ?_, fun M a x hx => ?_, fun M a x g hx => ?_, fun M e M' hx => ?_⟩
  · simp only [gl_IH] at hx
    split at hx
    · rename_i c fs hs
      split at hx
      · rename_i hc; subst hc; exact ⟨fs, hs, hx⟩
      · cases hx
    · cases hx
  · simp only [gl_IH] at hx
    split at hx
    · rename_i c fs hs
      split at hx
      · rename_i hc
        subst hc
        split at hx
        · rename_i hj; cases hx; exact ⟨fs, hs, hj, rfl⟩
        · cases hx
      · cases hx
    · cases hx
  · simp only [gl_IH] at hx
    split at hx
    · rename_i y hs; cases hx; exact hs
    · cases hx
  · simp only [gl_IH] at hx ⊢
    split at hx
    · rename_i y hs; cases hx; rfl
    · cases hx
  · simp only [gl_IH] at hx
    cases hx
    exact ⟨rfl, rfl⟩
/-! over the memory M: a place of a method comes to Q; a contract -/
def gv (l : Launch) (sc : Nat × (Nat → Int32)) (Mt : gl_M) (pc : Nat) (ls st : List Value) (M : gl_N) (Q : Option Value → gl_N → Prop) : Prop := gl_Ev l sc Mt pc ls st (gl_hp M) false false 0 0 (fun r h' => ∃ M', h' = gl_hp M' ∧ Q r M')
def gr (l : Launch) (sc : Nat × (Nat → Int32)) (Mt : gl_M) (av : List Value) (M : gl_N) (Q : Option Value → gl_N → Prop) : Prop := gl_Ret l sc Mt av (gl_hp M) false 0 0 (fun r h' => ∃ M', h' = gl_hp M' ∧ Q r M')
section GV
variable {l : Launch} {sc : Nat × (Nat → Int32)} {Mt M' : gl_M} {pc : Nat} {ls st : List Value} {M : gl_N} {Q : Option Value → gl_N → Prop}
theorem gl_sub {mn : List MethodName} {c : List (Nat × gl_O)} (h : c.all (gl_ok1 mn Mt) = true) (j n : Nat) : ∀ q ∈ (c.drop j).take n, gl_ok1 mn Mt q = true := fun q hq => List.all_eq_true.mp h q (List.mem_of_mem_drop (List.mem_of_mem_take hq))
theorem gl_dec {mn : List MethodName} {c : List (Nat × gl_O)} (h : c.all (gl_ok1 mn Mt) = true) (j p : Nat) (i : Instr) (n : Nat) (hj : (c[j]?).map (fun q => (q.1, q.2.1, gl_len q.2.1)) = some (p, i, n)) : decode Mt.2.1 p = .ok (i, n) := by
  cases hq : c[j]? with
  | none => rw [hq] at hj; cases hj
  | some q =>
    rw [hq] at hj
    have h1 := of_decide_eq_true ((Bool.and_eq_true _ _).mp (List.all_eq_true.mp h q (List.mem_of_getElem? hq))).1
    have h2 : (q.1, q.2.1, gl_len q.2.1) = (p, i, n) := Option.some.inj hj
    have e1 : q.1 = p := congrArg (fun t => t.1) h2
    have e2 : q.2.1 = i := congrArg (fun t => t.2.1) h2
    have e3 : gl_len q.2.1 = n := congrArg (fun t => t.2.2) h2
    rw [e1, e3, e2] at h1
    exact h1
theorem gl_lnk {mn : List MethodName} {c : List (Nat × gl_O)} (h : c.all (gl_ok1 mn Mt) = true) (j : Nat) {p i x y w : Nat} {e : Int32} {v : MethodName} (hj : c[j]? = some (p, .invokevirtual i, x, y, w, e)) (hv : mn[y]? = some v) : gl_lk Mt.1.cls i v := by
  have h1 := ((Bool.and_eq_true _ _).mp (List.all_eq_true.mp h _ (List.mem_of_getElem? hj))).2
  simp only [gl_res, hv] at h1
  rcases (Bool.or_eq_true _ _).mp h1 with g | g
  · exact Or.inl (List.mem_of_getElem? (of_decide_eq_true g))
  · exact Or.inr (List.mem_of_getElem? (of_decide_eq_true g))
theorem gl_lnkS {mn : List MethodName} {c : List (Nat × gl_O)} (h : c.all (gl_ok1 mn Mt) = true) (j : Nat) {p i y w : Nat} {e : Int32} {v : MethodName} (hj : c[j]? = some (p, .invokestatic i, 0, y, w, e)) (hv : mn[y]? = some v) : gl_lk Mt.1.cls i v := by
  have h1 := ((Bool.and_eq_true _ _).mp (List.all_eq_true.mp h _ (List.mem_of_getElem? hj))).2
  simp only [gl_res, hv] at h1
  rcases (Bool.or_eq_true _ _).mp h1 with g | g
  · exact Or.inl (List.mem_of_getElem? (of_decide_eq_true g))
  · exact Or.inr (List.mem_of_getElem? (of_decide_eq_true g))
theorem gl_lnkI {mn : List MethodName} {c : List (Nat × gl_O)} (h : c.all (gl_ok1 mn Mt) = true) (j : Nat) {p i y w : Nat} {e : Int32} {v : MethodName} (hj : c[j]? = some (p, .invokespecial i, 0, y, w, e)) (hv : mn[y]? = some v) : gl_lk Mt.1.cls i v := by
  have h1 := ((Bool.and_eq_true _ _).mp (List.all_eq_true.mp h _ (List.mem_of_getElem? hj))).2
  simp only [gl_res, hv] at h1
  rcases (Bool.or_eq_true _ _).mp h1 with g | g
  · exact Or.inl (List.mem_of_getElem? (of_decide_eq_true g))
  · exact Or.inr (List.mem_of_getElem? (of_decide_eq_true g))
/-- a straight row of instructions -/
theorem gv_seg {mn : List MethodName} {c : List (Nat × gl_O)} (h : c.all (gl_ok1 mn Mt) = true) (j n : Nat) {Ps : List Prop} {pc' : Nat} {ls' st' : List Value} {M2 : gl_N} (hx : gl_X gl_IM sc false ((c.drop j).take n) pc ls st M 0 0 = some (Ps, pc', ls', st', M2, 0, 0)) (hP : gl_all Ps) (K : gv l sc Mt pc' ls' st' M2 Q) : gv l sc Mt pc ls st M Q :=
  gl_run gl_IM_law _ _ _ _ _ _ _ _ _ _ _ _ _ _ (gl_sub h j n) hx hP K
theorem gv_vcall {idx o ci : Nat} {q : vw_C} {fs : List (Option Value)} {As : List Value} {Q' : Option Value → gl_N → Prop} (hd : decode Mt.2.1 pc = .ok (.invokevirtual idx, 3)) (hlk : gl_lk Mt.1.cls idx M'.1) (hm : gl_mw M' As.length) (hi : Cond.instanceMethod M'.1 ∈ gl_tb) (hse : Cond.selects M'.1.cls M'.1 M'.1 ∈ gl_tb) (hcr : gl_cr Mt M') (hcl : gl_cls[ci]? = some q) (hq : q.1 = M'.1.cls) (ho : gl_shape[o]? = some (.inr (ci, fs))) (hst : st.all gl_is = true ∧ st.length ≤ 8)
    (hM : gr l sc M' (.ref o :: As) M Q') (K : ∀ (r : Option Value) (M2 : gl_N), Q' r M2 → gv l sc Mt (pc + 3) ls (r.toList ++ st) M2 Q) : gv l sc Mt pc ls (As.reverse ++ .ref o :: st) M Q := by
  refine gl_r_vcall hM hm hi hse hlk hcr hcl hq (fs := fs.mapIdx (fun j v => v.getD (.int (M o j)))) (by rw [gl_hp_at, ho]; rfl) hst (k2 := 0) (n2 := 0) (Nat.le_refl _) (Nat.le_refl _) hd ?_
  intro r h' hq2
  obtain ⟨M2, e, h2⟩ := hq2
  rw [e]
  exact K r M2 h2
theorem gv_scall {idx : Nat} {As : List Value} {Q' : Option Value → gl_N → Prop} (hd : decode Mt.2.1 pc = .ok (.invokestatic idx, 3)) (hlk : gl_lk Mt.1.cls idx M'.1) (hm : gl_mw M' As.length) (hi : Cond.static M'.1 ∈ gl_tb) (hcr : gl_cr Mt M') (hst : st.all gl_is = true ∧ st.length ≤ 8)
    (hM : gr l sc M' As M Q') (K : ∀ (r : Option Value) (M2 : gl_N), Q' r M2 → gv l sc Mt (pc + 3) ls (r.toList ++ st) M2 Q) : gv l sc Mt pc ls (As.reverse ++ st) M Q := by
  refine gl_r_scall hM hm hi hlk hcr hst (k2 := 0) (n2 := 0) (Nat.le_refl _) (Nat.le_refl _) hd ?_
  intro r h' hq2
  obtain ⟨M2, e, h2⟩ := hq2
  rw [e]
  exact K r M2 h2
theorem gv_retI {v : Int32} (hd : decode Mt.2.1 pc = .ok (.ireturn, 1)) (hr : Mt.2.2.2.1 = some .int) (hQ : Q (some (.int v)) M) : gv l sc Mt pc ls [.int v] M Q :=
  gl_r_ret (r := some (.int v)) (fun q => by cases q) (Or.inr ⟨v, rfl, hd, Or.inl hr⟩) ⟨M, rfl, hQ⟩
theorem gv_retZ {v : Int32} (hd : decode Mt.2.1 pc = .ok (.ireturn, 1)) (hr : Mt.2.2.2.1 = some .boolean) (hv : v = 0 ∨ v = 1) (hQ : Q (some (.int v)) M) : gv l sc Mt pc ls [.int v] M Q :=
  gl_r_ret (r := some (.int v)) (fun q => by cases q) (Or.inr ⟨v, rfl, hd, Or.inr ⟨hr, gl_narrow_b hv⟩⟩) ⟨M, rfl, hQ⟩
theorem gv_retV (hd : decode Mt.2.1 pc = .ok (.return_, 1)) (hr : Mt.2.2.2.1 = none) (hQ : Q none M) : gv l sc Mt pc ls [] M Q :=
  gl_r_ret (r := none) (fun q => by cases q) (Or.inl ⟨rfl, hr, hd⟩) ⟨M, rfl, hQ⟩
theorem gr_of {av : List Value} (hy : plainName Mt.1.cls = true) (hav : av.length ≤ Mt.2.2.1) (his : ∀ v ∈ av, gl_is v = true) (E : gv l sc Mt 0 (gl_en Mt av) [] M Q) : gr l sc Mt av M Q := gl_meth hy hav his E
end GV

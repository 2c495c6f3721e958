/-! THE PURE WORLD: a heap as a list of cells; a reference is a place in it; '.long' stands for the script, '.float' and '.double' for a local that is not set -/
abbrev gl_E : Type := (Bool × Nat × (Nat → Int32)) ⊕ (Nat × List Value)
def gl_mv (base b : Nat) (v : Value) : Value := match v with
  | .ref i => .ref (base + i)
  | .long _ => .ref b
  | w => w
def gl_e (base b cI cB : Nat) (e : gl_E) : va_E := match e with
  | .inl a => .inl (if a.1 = true then cB else cI, a.2.1, .inl a.2.2)
  | .inr o => .inr (o.1, o.2.map (gl_mv base b))
def gl_ws (base b cI cB : Nat) (h : List gl_E) : va_W := h.mapIdx (fun i e => (base + i, gl_e base b cI cB e))
theorem gl_ws_at {base b cI cB : Nat} {h : List gl_E} {i : Nat} {e : gl_E} (hi : h[i]? = some e) : (gl_ws base b cI cB h)[i]? = some (base + i, gl_e base b cI cB e) := by
  simp [gl_ws, List.getElem?_mapIdx, hi]
theorem gl_ws_back {base b cI cB : Nat} {h : List gl_E} {i : Nat} {q : Nat × va_E} (hi : (gl_ws base b cI cB h)[i]? = some q) : ∃ e, h[i]? = some e ∧ q = (base + i, gl_e base b cI cB e) := by
  simp only [gl_ws, List.getElem?_mapIdx] at hi
  cases hh : h[i]? with
  | none => rw [hh] at hi; cases hi
  | some e => rw [hh] at hi; exact ⟨e, rfl, (Option.some.inj hi).symm⟩
theorem gl_ws_set {base b cI cB : Nat} (h : List gl_E) (i : Nat) (e : gl_E) : (gl_ws base b cI cB h).set i (base + i, gl_e base b cI cB e) = gl_ws base b cI cB (h.set i e) := by
  apply List.ext_getElem?
  intro j
  simp only [gl_ws, List.getElem?_set, List.getElem?_mapIdx, List.length_mapIdx]
  by_cases hj : i = j
  · subst hj
    by_cases hl : i < h.length <;> simp [hl]
  · simp [hj]
theorem gl_ws_app {base b cI cB : Nat} (h : List gl_E) (e : gl_E) : gl_ws base b cI cB (h ++ [e]) = gl_ws base b cI cB h ++ [(base + h.length, gl_e base b cI cB e)] := by
  simp [gl_ws, List.mapIdx_append]
theorem gl_D (base b cI cB : Nat) (h : List gl_E) : va_D (fun q : Nat => base ≤ q) (gl_ws base b cI cB h) := by
  refine ⟨fun i j p q hi hj hpq => ?_, fun k q hk => ?_⟩
  · obtain ⟨e1, -, rfl⟩ := gl_ws_back hi
    obtain ⟨e2, -, rfl⟩ := gl_ws_back hj
    simp only at hpq
    omega
  · obtain ⟨e1, -, rfl⟩ := gl_ws_back hk
    simp
/-- the heap H holds the cells h; where z is true nothing lies behind them -/
def gl_Wd (base b : Nat) (D : va_G) (cI cB : Nat) (z : Bool) (h : List gl_E) (H : Heap) : Prop := va_P D gl_cls (gl_ws base b cI cB h) H ∧ (z = true → H.size = base + h.length)
def gl_tys (cI cB : Nat) : List (ClassId × FieldType) := [(cI, .int), (cB, .boolean)]
def gl_is (v : Value) : Bool := match v with
  | .float _ => false
  | .double _ => false
  | _ => true
def gl_lv (base b : Nat) (ls : List Value) : List (Nat × Value) := (ls.zipIdx.filter (fun q => gl_is q.1)).map (fun q => (q.2, gl_mv base b q.1))
theorem gl_lv_mem {base b : Nat} {ls : List Value} {q : Nat × Value} : q ∈ gl_lv base b ls ↔ ∃ v, ls[q.1]? = some v ∧ gl_is v = true ∧ q.2 = gl_mv base b v := by
  simp only [gl_lv, List.mem_map, List.mem_filter]
  constructor
  · rintro ⟨⟨v, i⟩, ⟨h1, h2⟩, rfl⟩
    exact ⟨v, List.mem_zipIdx_iff_getElem?.mp h1, h2, rfl⟩
  · rintro ⟨v, h1, h2, h3⟩
    exact ⟨(v, q.1), ⟨List.mem_zipIdx_iff_getElem?.mpr h1, h2⟩, by rw [← h3]⟩
theorem gl_cat {base b : Nat} {v : Value} (h : gl_is v = true) : (gl_mv base b v).category = 1 := by
  cases v <;> first | rfl | (simp [gl_is] at h)
def gl_L (base b n : Nat) (ls : List Value) (A : Array Slot) : Prop := lv_has A n (gl_lv base b ls) ∧ ls.length = n
theorem gl_L.get {base b n : Nat} {ls : List Value} {A : Array Slot} (h : gl_L base b n ls A) {i : Nat} {v : Value} (hi : ls[i]? = some v) (hv : gl_is v = true) : A[i]? = some (.val (gl_mv base b v)) :=
  h.1.2.2 (i, gl_mv base b v) (gl_lv_mem.mpr ⟨v, hi, hv, rfl⟩)
theorem gl_L.stored {base b n : Nat} {ls : List Value} {A A' : Array Slot} {i : Nat} {v : Value} (h : gl_L base b n ls A)
    (h' : lv_has A' n ((i, gl_mv base b v) :: (gl_lv base b ls).filter (fun q => !(q.1 == i) && !(q.1 + 1 == i && q.2.category == 2)))) : gl_L base b n (ls.set i v) A' := by
  refine ⟨⟨h'.1, h'.2.1, fun q hq => ?_⟩, by rw [List.length_set]; exact h.2⟩
  obtain ⟨w, h1, h2, h3⟩ := gl_lv_mem.mp hq
  rw [List.getElem?_set] at h1
  by_cases hj : i = q.1
  · rw [if_pos hj] at h1
    split at h1
    · cases h1
      have := h'.2.2 (i, gl_mv base b v) List.mem_cons_self
      rw [h3, ← hj]
      exact this
    · cases h1
  · rw [if_neg hj] at h1
    refine h'.2.2 q (List.mem_cons_of_mem _ (List.mem_filter.mpr ⟨gl_lv_mem.mpr ⟨w, h1, h2, h3⟩, ?_⟩))
    have hc : q.2.category = 1 := by rw [h3]; exact gl_cat h2
    simp [hc, Ne.symm hj]
/-- the world of a script, a method, a state at its start -/
def gl_Cx (sc : Nat × (Nat → Int32)) (Mt : gl_M) (base b : Nat) (D : va_G) (cI cB : Nat) (p : Program) (R : Room) (s : State) (m : MethodId) (args : Array Value) (meth : Method) (c : Code) : Prop :=
  p.tables.exec = Jvm.exec ∧ c.code = Mt.2.1 ∧ meth.sig.returnType = Mt.2.2.2.1 ∧ c.maxLocals = Mt.2.2.1 ∧ s.vm.findClass Mt.1.cls = some m.cls ∧ (∀ w ∈ gl_tb, w.before args s = true) ∧ va_K D gl_cls (gl_tys cI cB) s ∧ va_X b sc.1 sc.2 s s.heap ∧ b < base ∧ base ≤ s.heap.size ∧ (Mt.1.name = "<init>" → meth.name = "<init>") ∧ Mt.2.2.2.2.1 ≤ R.frames ∧ Mt.2.2.2.2.2 ≤ R.locals
/-- at pc stands a return that gives r -/
def gl_rt (Mt : gl_M) (pc : Nat) (r : Option Value) : Prop := (r = none ∧ Mt.2.2.2.1 = none ∧ decode Mt.2.1 pc = .ok (.return_, 1)) ∨ ∃ v : Int32, r = some (.int v) ∧ decode Mt.2.1 pc = .ok (.ireturn, 1) ∧ (Mt.2.2.2.1 = some .int ∨ (Mt.2.2.2.1 = some .boolean ∧ narrow .boolean (.int v) = .int v))
/-- from this place of the method, with these locals, this stack, these cells, k cells and n slots yet to be made: it comes to a return with Q -/
def gl_Ev (l : Launch) (sc : Nat × (Nat → Int32)) (Mt : gl_M) (pc : Nat) (ls st : List Value) (h : List gl_E) (z y : Bool) (k n : Nat) (Q : Option Value → List gl_E → Prop) : Prop :=
  ∀ (base b : Nat) (D : va_G) (cI cB : Nat) (p : Program) (e : Env) (R : Room) (s : State) (m : MethodId) (args : Array Value) (below : List Frame) (meth : Method) (c : Code) (H : Heap) (locs : List Loc) (cells slots : Nat) (A : Array Slot) (QW : State → Prop),
    gl_Cx sc Mt base b D cI cB p R s m args meth c → gl_Wd base b D cI cB z h H → va_S (fun q : Nat => base ≤ q) s.heap H locs → cells + k ≤ R.cells → slots + n ≤ R.slots → gl_L base b Mt.2.2.1 ls A →
    (∀ (r : Option Value) (h' : List gl_E) (H' : Heap) (locs' : List Loc) (pc' : Nat) (A' : Array Slot), Q r h' → gl_Wd base b D cI cB y h' H' → va_S (fun q : Nat => base ≤ q) s.heap H' locs' → gl_rt Mt pc' r → W p l e R s m args below meth c H' locs' R.cells R.slots QW (F0 m pc' A' (r.toList.map (gl_mv base b)))) →
    W p l e R s m args below meth c H locs cells slots QW (F0 m pc A (st.map (gl_mv base b)))

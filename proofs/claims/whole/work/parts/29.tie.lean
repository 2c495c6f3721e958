/-! THE CLAIM OUT OF ONE WALK OF THE LAW'S BODY. Your part is whole_start (and what it stands on); all else here is the same for every law, but numbers. -/
def R_law : String := "ModeCellsLaw"
def lw_P (b : Addr) (xs : List Int32) (args : Array Value) (s : State) : Prop := args = #[.ref b] ∧ s.IntsAt b xs ∧ xs.length ≤ 2048 ∧ (Jvm.Cond.and given_1 narrow_1).before args s = true
def lw_Q (_ : Array Value) (s : State) (o : Outcome) (t : State) : Prop := o = .returned (some (.int 1)) ∧ Framed s o t [] 600000 7302250
def lw_Z (below : List Frame) (a : Array Value) (s : State) : State → Prop := fun t => ∃ o, t.status = .running ∧ Ended t below o ∧ lw_Q a s o t
/-- the law's own end, with 1 on the stack, nothing written that was there before, its room as the claim has it -/
theorem lw_ret {p : Program} {l : Launch} {e : Env} {s : State} {m : MethodId} {below : List Frame} {meth : Method} {c : Code} {b : Nat} (hx : p.tables.exec = Jvm.exec) (hb : c.code = code) (hr : meth.sig.returnType = ret) (hlocks : meth.locks = false) {pc : Nat} {H : Heap} {ls : Array Slot} (hdg : decode code pc = .ok (.ireturn, 1)) : W p l e room_1 s m #[Value.ref b] below meth c H [] 600000 7302250 (lw_Z below #[Value.ref b] s) (F0 m pc ls [.int 1]) := by
  intro T hT X
  obtain ⟨fs, hret, hrun, hended, hW, hframe⟩ := X.leave (v := some (.int 1)) (hlocks := hlocks) (fun h => by rw [hr] at h; cases h)
  have hmeth' : T.vm.method? m = some meth := X.method'
  refine ⟨T.setFrames fs, ?_, .returned (some (.int 1)), hrun, hended, rfl, ⟨_, rfl⟩, hW, hframe⟩
  jvm_step X.here [X.here.top, hx, hb, hdg, hmeth', hr, ret, narrow_b1]
  (try refine ⟨rfl, ?_⟩); (try refine ⟨rfl, ?_⟩)
  first | (intro acts; rw [hret _ acts rfl rfl rfl]) | rw [hret _ _ rfl rfl rfl]
  exact Steps.refl _
/-- what holds at the law's entry: the machine, the code, the tables' words (any of lw_tbl by 'hts w (by decide +kernel)'), the script of L ints xs at the cell b, what the Statement gives of the start (any of its parts by flat_of_before) -/
def lw_At (p : Program) (s : State) (m : MethodId) (meth : Method) (c : Code) (b L : Nat) (xs : Nat → Int32) : Prop :=
  p.tables.exec = Jvm.exec ∧ c.code = code ∧ meth.sig.returnType = ret ∧ c.maxLocals = 4 ∧ s.vm.findClass R_law = some m.cls ∧ (∀ w ∈ lw_tbl, w.before #[Value.ref b] s = true) ∧ va_X b L xs s s.heap ∧ b < s.heap.size ∧ meth.locks = false ∧ (Jvm.Cond.and given_1 narrow_1).before #[Value.ref b] s = true
/-- the law from its entry, by its loop over the memory -/
theorem gl_whole (hloop : ∀ (l : Launch) (sc : Nat × (Nat → Int32)), sc.1 ≤ 2048 → gv l sc m_L_law 18 [.long 0, .ref 0, .ref 42, .int 0] [] gl_M0 (fun r _ => r = some (.int 1)))
    {p : Program} {e : Env} {s : State} {m : MethodId} {below : List Frame} {meth : Method} {c : Code} (l : Launch) {b L : Nat} {xs : Nat → Int32} (hL : L ≤ 2048) (C0 : lw_At p s m meth c b L xs) : W p l e room_1 s m #[Value.ref b] below meth c s.heap [] 0 0 (lw_Z below #[Value.ref b] s) (entryFrame m ([Value.ref b] : List Value).toArray 4) := by
  obtain ⟨hx, hb, hr, hml, hown, hts0, hX, hbl, hlocks, hgv⟩ := C0
  have hts : ∀ w ∈ gl_tb, w.before #[Value.ref b] s = true := fun w hw => hts0 w (gl_tb_mem w hw)
  have hcls : ∀ ci : Nat, ∃ (cC : ClassId) (iS : Nat → Nat), ∀ q, gl_cls[ci]? = some q → u_Kn s q.1 q.2.1 q.2.2 cC iS := by
    intro ci
    cases hq : gl_cls[ci]? with
    | none => exact ⟨0, fun _ => 0, fun q h => by cases h⟩
    | some q =>
      obtain ⟨ty, h1, h2, h3, h4, -⟩ := gl_okc_all ci q hq
      obtain ⟨cC, iS, hK⟩ := u_known (C := q.1) (T := q.2.1) (N := q.2.2) hts h1 (hts _ h4)
      exact ⟨cC, iS, fun q' h => by cases h; exact hK⟩
  obtain ⟨cI, kI, compI, i1, i2, i3⟩ := Cond.arrayClass_spec (hts _ gl_w_ai)
  obtain ⟨cB, kB, compB, z1, z2, z3⟩ := Cond.arrayClass_spec (hts _ gl_w_az)
  have hK : va_K (fun ci => (hcls ci).choose, fun ci => (hcls ci).choose_spec.choose) gl_cls (gl_tys cI cB) s := by
    refine ⟨fun ci q hq => (hcls ci).choose_spec.choose_spec q hq, fun k q hq => ?_⟩
    match k, hq with
    | 0, hq => cases hq; exact ⟨fun n z => ⟨fun k h => (by cases h), kI, i2, compI, i3⟩, i1⟩
    | 1, hq => cases hq; exact ⟨fun n z => ⟨fun k h => (by cases h), kB, z2, compB, z3⟩, z1⟩
    | k + 2, hq => simp [gl_tys] at hq
  generalize hD : ((fun ci => (hcls ci).choose, fun ci => (hcls ci).choose_spec.choose) : va_G) = D at hK
  have hl := lv_entry ([.ref b]) (n := 4) (Nat.le_of_ble_eq_true rfl)
  rw [lg_entry_eq]
  generalize (lg_sl ([.ref b]) ++ List.replicate (4 - (lg_sl ([.ref b])).length) Slot.unset).toArray = A at hl ⊢
  have hl : lv_has A 4 [(0, .ref b)] := hl
  have hLL : gl_L s.heap.size b 4 [.long 0, .float 0, .float 0, .float 0] A := by
    refine ⟨⟨hl.1, hl.2.1, fun q hq => hl.2.2 q ?_⟩, rfl⟩
    have hq' : q ∈ [(0, Value.ref b)] := hq
    exact hq'
  have C : gl_Cx (L, xs) m_L_law s.heap.size b D cI cB p room_1 s m #[Value.ref b] meth c := ⟨hx, hb, hr, hml, hown, hts, hK, hX, hbl, Nat.le_refl _, fun h => absurd h (by decide +kernel), by decide, by decide⟩
  refine law_begin l (L, xs) _ (hloop l (L, xs) hL) s.heap.size b D cI cB p e room_1 s m #[Value.ref b] below meth c s.heap [] 0 0 A _ C ⟨fun k q h => by simp [gl_ws] at h, fun _ => rfl⟩ va_S.rf (Nat.le_of_ble_eq_true rfl) (Nat.le_of_ble_eq_true rfl) hLL ?_
  intro r h' H' locs' pc' A' hQ W1 S1 hrt
  obtain ⟨M', -, rfl⟩ := hQ
  rcases hrt with ⟨h1, -⟩ | ⟨v, h1, h2, -⟩
  · cases h1
  · cases h1
    refine va_forget (fun q hq => S1.2.2 q hq) ?_
    exact lw_ret hx hb hr hlocks h2

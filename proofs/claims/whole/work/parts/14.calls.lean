/-! CONTRACTS: a method, called with these arguments over these cells, returns with Q -/
def gl_Pc (sc : Nat × (Nat → Int32)) (base b : Nat) (D : va_G) (cI cB : Nat) (z : Bool) (av : List Value) (h : List gl_E) : Array Value → State → Prop := fun v U => v = (av.map (gl_mv base b)).toArray ∧ gl_Wd base b D cI cB z h U.heap ∧ va_K D gl_cls (gl_tys cI cB) U ∧ va_X b sc.1 sc.2 U U.heap ∧ b < base ∧ base ≤ U.heap.size
def gl_Qc (base b : Nat) (D : va_G) (cI cB : Nat) (z : Bool) (Q : Option Value → List gl_E → Prop) : Array Value → State → Outcome → State → Prop := fun _ st o t => ∃ (r : Option Value) (h' : List gl_E), o = .returned (r.map (gl_mv base b)) ∧ Q r h' ∧ gl_Wd base b D cI cB z h' t.heap ∧ va_F (fun q : Nat => base ≤ q) st t
def gl_wsM (Mt : gl_M) : List Cond := Cond.code Mt.1 Mt.2.1 Mt.2.2.1 Mt.2.2.2.1 :: gl_tb
def gl_rm (Mt : gl_M) (k n : Nat) : Room := { frames := Mt.2.2.2.2.1, cells := k, slots := n, locals := Mt.2.2.2.2.2 }
def gl_Ret (l : Launch) (sc : Nat × (Nat → Int32)) (Mt : gl_M) (av : List Value) (h : List gl_E) (z : Bool) (k n : Nat) (Q : Option Value → List gl_E → Prop) : Prop :=
  ∀ (base b : Nat) (D : va_G) (cI cB : Nat), Met l Mt.1 (gl_wsM Mt) (gl_rm Mt k n) (gl_Pc sc base b D cI cB z av h) (gl_Qc base b D cI cB z Q) k n (fun q : Nat => base ≤ q)
section GLC
variable {l : Launch} {sc : Nat × (Nat → Int32)} {Mt : gl_M} {pc : Nat} {ls st : List Value} {h : List gl_E} {z zy : Bool} {k n : Nat} {Q : Option Value → List gl_E → Prop}
theorem gl_args_mem : ∀ (vs : List Value) (i j : Nat) (v : Value), (∀ w ∈ vs, w.category = 1) → vs[j]? = some v → (i + j, v) ∈ lv_args i vs := by
  intro vs
  induction vs with
  | nil => intro i j v _ h; cases h
  | cons w r ih =>
    intro i j v hc h
    have hw : w.category = 1 := hc w List.mem_cons_self
    cases j with
    | zero => cases h; exact List.mem_cons_self
    | succ j =>
      refine List.mem_cons_of_mem _ ?_
      rw [if_neg (by rw [hw]; decide)]
      have := ih (i + 1) j v (fun u hu => hc u (List.mem_cons_of_mem _ hu)) h
      rw [show i + (j + 1) = i + 1 + j by omega]
      exact this
theorem gl_sl_len : ∀ (vs : List Value), (∀ w ∈ vs, w.category = 1) → (lg_sl vs).length = vs.length := by
  intro vs
  induction vs with
  | nil => intro _; rfl
  | cons w r ih =>
    intro hc
    have hw : w.category = 1 := hc w List.mem_cons_self
    have := ih (fun u hu => hc u (List.mem_cons_of_mem _ hu))
    simp only [lg_sl, List.flatMap_cons, List.length_append, List.length_cons]
    rw [if_neg (by rw [hw]; decide)]
    simp only [lg_sl] at this
    rw [this]
    simp
    omega
def gl_en (Mt : gl_M) (av : List Value) : List Value := av ++ List.replicate (Mt.2.2.1 - av.length) (.float 0)
/-- a contract out of the walk of the body -/
theorem gl_meth {av : List Value} (hy : plainName Mt.1.cls = true) (hav : av.length ≤ Mt.2.2.1) (his : ∀ v ∈ av, gl_is v = true) (E : gl_Ev l sc Mt 0 (gl_en Mt av) [] h z z k n Q) : gl_Ret l sc Mt av h z k n Q := by
  intro base b D cI cB
  refine Met.ofW (cc := Mt.2.1) (maxL := Mt.2.2.1) (ret := Mt.2.2.2.1) hy rfl ?_
  intro p e s m args below meth c s₁ B hml hv
  obtain ⟨rfl, W0, hK, hX, hbb, hsz⟩ := hv
  have hts0 := atoms_spec (ws := gl_wsM Mt) B.pre
  have hts : ∀ w ∈ gl_tb, w.before (av.map (gl_mv base b)).toArray s = true := fun w hw => hts0 w (List.mem_cons_of_mem _ hw)
  have hown : s.vm.findClass Mt.1.cls = some m.cls := findClass_of_methodNamed B.named
  have hlocks := B.notSynchronized
  have hin : meth.name = Mt.1.name := (name_of_methodNamed B.named B.method).1
  have hcat : ∀ w ∈ av.map (gl_mv base b), w.category = 1 := by
    intro w hw
    obtain ⟨v, hv, rfl⟩ := List.mem_map.mp hw
    exact gl_cat (his v hv)
  have hlen := gl_sl_len _ hcat
  have hl := lv_entry (av.map (gl_mv base b)) (n := Mt.2.2.1) (by rw [hlen, List.length_map]; exact hav)
  rw [lg_entry_eq]
  generalize (lg_sl (av.map (gl_mv base b)) ++ List.replicate (Mt.2.2.1 - (lg_sl (av.map (gl_mv base b))).length) Slot.unset).toArray = A at hl ⊢
  have hL : gl_L base b Mt.2.2.1 (gl_en Mt av) A := by
    refine ⟨⟨hl.1, hl.2.1, fun q hq => hl.2.2 q ?_⟩, by simp [gl_en]; omega⟩
    obtain ⟨v, h1, h2, h3⟩ := gl_lv_mem.mp hq
    by_cases hq1 : q.1 < av.length
    · rw [gl_en, List.getElem?_append_left hq1] at h1
      have := gl_args_mem (av.map (gl_mv base b)) 0 q.1 (gl_mv base b v) hcat (by rw [List.getElem?_map, h1]; rfl)
      rw [Nat.zero_add, ← h3] at this
      exact this
    · rw [gl_en, List.getElem?_append_right (by omega), List.getElem?_replicate] at h1
      split at h1
      · cases h1; cases h2
      · cases h1
  have C : gl_Cx sc Mt base b D cI cB p (gl_rm Mt k n) s m (av.map (gl_mv base b)).toArray meth c := ⟨B.exec, B.bytes, B.returns, hml, hown, hts, hK, hX, hbb, hsz, fun h => hin.trans h, Nat.le_refl _, Nat.le_refl _⟩
  refine E base b D cI cB p e (gl_rm Mt k n) s m _ below meth c s.heap [] 0 0 A _ C W0 va_S.rf (by show 0 + k ≤ k; omega) (by show 0 + n ≤ n; omega) hL ?_
  intro r h' H' locs' pc' A' hQ W1 S1 hrt
  have hb := B.bytes
  have hx := B.exec
  have hr := B.returns
  rcases hrt with ⟨rfl, h2, h3⟩ | ⟨v, rfl, h3, h4⟩
  · exact W.vret hx hb (by rw [hr]; exact h2) (fun t ht hW => ⟨none, h', rfl, hQ, by rw [ht]; exact W1, S1.F ht⟩) S1.2.2 h3
  · rcases h4 with h4 | ⟨h4, h5⟩
    · exact W.iret hx hb (by rw [hr]; exact h4) (fun t ht hW => ⟨some (.int v), h', rfl, hQ, by rw [ht]; exact W1, S1.F ht⟩) S1.2.2 h3
    · exact W.zret hx hb (by rw [hr]; exact h4) h5 (fun t ht hW => ⟨some (.int v), h', rfl, hQ, by rw [ht]; exact W1, S1.F ht⟩) S1.2.2 h3
/-- a return -/
theorem gl_r_ret {r : Option Value} (hzy : zy = true → z = true) (hrt : gl_rt Mt pc r) (hQ : Q r h) : gl_Ev l sc Mt pc ls r.toList h z zy k n Q := by
  intro base b D cI cB p e R s m args below meth c H locs cells slots A QW C W0 S0 hc hs hL fin
  exact W.widen (by omega) (by omega) (fin r h H locs pc A hQ ⟨W0.1, fun q => W0.2 (hzy q)⟩ S0 hrt)
/-- nothing more is to be made: the heap's size is let go -/
theorem gl_forget (K : gl_Ev l sc Mt pc ls st h false zy k n Q) : gl_Ev l sc Mt pc ls st h z zy k n Q := by
  intro base b D cI cB p e R s m args below meth c H locs cells slots A QW C W0 S0 hc hs hL fin
  exact K base b D cI cB p e R s m args below meth c H locs cells slots A QW C ⟨W0.1, fun q => by cases q⟩ S0 hc hs hL fin
/-- behind a call -/
theorem gl_after {p : Program} {e : Env} {R : Room} {s : State} {m : MethodId} {args a : Array Value} {below : List Frame} {meth : Method} {c : Code} {H : Heap} {locs : List Loc} {cells slots mc ms base b cI cB : Nat} {D : va_G} {A : Array Slot} {st0 rest : List Value} {QW : State → Prop}
    (hr : va_Run p l e R s m args below meth c H locs cells slots mc ms (F0 m pc A st0) rest (gl_Qc base b D cI cB z Q a) (fun q : Nat => base ≤ q)) (hS : va_S (fun q : Nat => base ≤ q) s.heap H locs)
    (kk : ∀ (r : Option Value) (h' : List gl_E) (H1 : Heap) (locs1 : List Loc), Q r h' → gl_Wd base b D cI cB z h' H1 → va_S (fun q : Nat => base ≤ q) s.heap H1 locs1 → W p l e R s m args below meth c H1 locs1 (cells + mc) (slots + ms) QW (F0 m (pc + 3) A ((r.map (gl_mv base b)).toList ++ rest))) : W p l e R s m args below meth c H locs cells slots QW (F0 m pc A st0) := by
  intro T hT X
  obtain ⟨v, st₀, t, T', L, h0, X', hL, e1, e2, ⟨r, h', hv, hQ, hW, hz, hk⟩, st⟩ := hr T hT X
  cases hv
  rw [h0] at hz hk
  obtain ⟨t2, a1, b1⟩ := kk r h' T'.heap (locs ++ L) hQ (by rw [e1]; exact hW)
    ⟨Nat.le_trans hS.1 (by rw [e1]; exact hz), fun q h1 h2 => by rw [e1, hk q (Nat.lt_of_lt_of_le h1 hS.1) h2]; exact hS.2.1 q h1 h2, fun q hq => by
      rcases List.mem_append.mp hq with h | h
      · exact hS.2.2 q h
      · exact hL q h⟩ T' rfl X'
  exact ⟨t2, st t2 a1, b1⟩
end GLC
/-- all words of the tables are such as stay -/
def gl_nw (w : Cond) : Bool := match w with
  | .fieldLinkNest _ _ _ _ _ _ => true
  | .methodLinkNest _ _ _ _ => true
  | _ => false
def gl_gw (w : Cond) : Bool := gl_nw w || goodWord w
theorem gl_good1 : (k2_sels lw_privs).all gl_gw = true := by decide +kernel
theorem gl_good2 : (tables_1_1.filter gl_np).all gl_gw = true := by decide +kernel
theorem gl_good3 : (tables_1_2.filter gl_np).all gl_gw = true := by decide +kernel
theorem gl_good4 : (tables_1_3.filter gl_np).all gl_gw = true := by decide +kernel
theorem gl_good5 : (tables_1_4.filter gl_np).all gl_gw = true := by decide +kernel
theorem gl_good6 : (tables_1_5.filter gl_np).all gl_gw = true := by decide +kernel
theorem gl_good : gl_tb.all gl_gw = true := by
  simp only [gl_tb, tables_1, List.filter_append, List.all_append, gl_good1, gl_good2, gl_good3, gl_good4, gl_good5, gl_good6, Bool.and_self]
theorem gl_stay1 {w : Cond} (hw : gl_gw w = true) {args : Array Value} {s : State} (h : w.before args s = true) (a' : Array Value) (U : State) (hW : s.WarmedH U.vm) : w.before a' U = true := by
  unfold gl_gw at hw
  rcases (Bool.or_eq_true _ _).mp hw with hw | hw
  · unfold gl_nw at hw
    split at hw
    · exact va_Nw.use rfl (va_Nw.warmF hW (va_Nw.of rfl h))
    · exact va_Nw.use rfl (va_Nw.warmM hW (va_Nw.of rfl h))
    · cases hw
  · exact word_at hW (good_of_word hw) h
theorem gl_stay {args : Array Value} {s : State} (hts : ∀ w ∈ gl_tb, w.before args s = true) {Mt : gl_M} (hm : Cond.code Mt.1 Mt.2.1 Mt.2.2.1 Mt.2.2.2.1 ∈ gl_tb) : ∀ w ∈ gl_wsM Mt, ∀ (a' : Array Value) (U : State), s.WarmedH U.vm → w.before a' U = true := by
  intro w hw a' U hW
  have hm : w ∈ gl_tb := by
    rcases List.mem_cons.mp hw with rfl | h1
    · exact hm
    · exact h1
  exact gl_stay1 (List.all_eq_true.mp gl_good w hm) (hts w hm) a' U hW
theorem gl_blind {sc : Nat × (Nat → Int32)} {base b : Nat} {D : va_G} {cI cB : Nat} {z : Bool} {av : List Value} {h : List gl_E} : FrameBlind (gl_Pc sc base b D cI cB z av h) := by
  intro a U g mk ⟨q0, q1, q2, q3, q4, q5⟩
  exact ⟨q0, q1, va_K.moved (u := U) (U := U.calling g mk a) (Vm.Alike.refl U.vm) q2, va_X.moved (u := U) (U := U.calling g mk a) (Vm.Alike.refl U.vm) q3, q4, q5⟩
def gl_cr (Mt M' : gl_M) : Prop := M'.2.2.2.2.1 + 1 ≤ Mt.2.2.2.2.1 ∧ 8 + (M'.2.2.1 + 11) + M'.2.2.2.2.2 ≤ Mt.2.2.2.2.2
def gl_lk (own : String) (idx : Nat) (y : MethodName) : Prop := Cond.methodLink own idx y ∈ gl_tb ∨ Cond.methodLinkNest own idx y "ModeCells" ∈ gl_tb
theorem gl_mw.par {M' : gl_M} {np : Nat} (h : gl_mw M' np) : ∀ sig, parseMethodDescriptor M'.1.desc = some sig → np = sig.parameters.length := by
  intro sig hs
  have := h.2.2.2
  rw [hs] at this
  exact (Option.some.inj this).symm
theorem gl_catsum1 (base b : Nat) (l : List Value) (h : ∀ v ∈ l, gl_is v = true) : ((l.map (gl_mv base b)).map fun v => v.category).sum = l.length := by
  induction l with
  | nil => simp
  | cons v r ih =>
    have hv := gl_cat (base := base) (b := b) (h v List.mem_cons_self)
    have := ih (fun u hu => h u (List.mem_cons_of_mem _ hu))
    simp only [List.map_cons, List.sum_cons, List.length_cons]
    omega
section GLK
variable {l : Launch} {sc : Nat × (Nat → Int32)} {Mt M' : gl_M} {pc : Nat} {ls st : List Value} {h : List gl_E} {z zy : Bool} {k n k1 n1 k2 n2 : Nat} {Q Q' : Option Value → List gl_E → Prop}
theorem gl_pre {sc : Nat × (Nat → Int32)} {base b : Nat} {D : va_G} {cI cB : Nat} {s : State} {p : Program} {R : Room} {m : MethodId} {args : Array Value} {meth : Method} {c : Code} {av : List Value} {H : Heap} {locs : List Loc} (C : gl_Cx sc Mt base b D cI cB p R s m args meth c) (W0 : gl_Wd base b D cI cB z h H) (S0 : va_S (fun q : Nat => base ≤ q) s.heap H locs) : ∀ U : State, U.heap = H → s.WarmedH U.vm → gl_Pc sc base b D cI cB z av h (av.map (gl_mv base b)).toArray U := by
  intro U hU hW
  have hb := C.2.2.2.2.2.2.2.2.1
  have hs := C.2.2.2.2.2.2.2.2.2.1
  refine ⟨rfl, by rw [hU]; exact W0, va_K.moved hW.alike C.2.2.2.2.2.2.1, ?_, hb, by rw [hU]; exact Nat.le_trans hs S0.1⟩
  rw [hU]
  exact va_X.moved hW.alike (va_X.kept C.2.2.2.2.2.2.2.1 (S0.2.1 b (Nat.lt_of_lt_of_le hb hs) (Nat.not_le.mpr hb)))
/-- a call of an instance's method -/
theorem gl_r_vcall {idx o ci : Nat} {q : vw_C} {fs : List Value} {As : List Value} (hM : gl_Ret l sc M' (.ref o :: As) h z k1 n1 Q') (hm : gl_mw M' As.length) (hi : Cond.instanceMethod M'.1 ∈ gl_tb) (hse : Cond.selects M'.1.cls M'.1 M'.1 ∈ gl_tb) (hlk : gl_lk Mt.1.cls idx M'.1) (hcr : gl_cr Mt M') (hcl : gl_cls[ci]? = some q) (hq : q.1 = M'.1.cls) (ho : h[o]? = some (.inr (ci, fs))) (hst : st.all gl_is = true ∧ st.length ≤ 8) (hk : k1 + k2 ≤ k) (hn : n1 + n2 ≤ n)
    (hd : decode Mt.2.1 pc = .ok (.invokevirtual idx, 3)) (K : ∀ (r : Option Value) (h' : List gl_E), Q' r h' → gl_Ev l sc Mt (pc + 3) ls (r.toList ++ st) h' z zy k2 n2 Q) : gl_Ev l sc Mt pc ls (As.reverse ++ .ref o :: st) h z zy k n Q := by
  intro base b D cI cB p e R s m args below meth c H locs cells slots A QW C W0 S0 hc hs hL fin
  have hts := C.2.2.2.2.2.1
  have hR1 := C.2.2.2.2.2.2.2.2.2.2.2.1
  have hR2 := C.2.2.2.2.2.2.2.2.2.2.2.2
  have hrecv := va_recv C.2.2.2.2.2.2.1 W0.1 hcl (gl_ws_at ho)
  rw [hq] at hrecv
  have hsum := gl_catsum1 base b st (List.all_eq_true.mp hst.1)
  have hst2 := hst.2
  have hmap : ((As.reverse ++ Value.ref o :: st).map (gl_mv base b)) = (As.map (gl_mv base b)).reverse ++ Value.ref (base + o) :: st.map (gl_mv base b) := by simp [gl_mv]
  have hpre := gl_pre (av := .ref o :: As) C W0 S0
  have hroom : 2 * (F0 m pc A ((As.reverse ++ Value.ref o :: st).map (gl_mv base b))).monitorRoom + ((st.map (gl_mv base b)).map fun v => v.category).sum ≤ 8 := by
    show 2 * 0 + _ ≤ 8
    omega
  have hrun : va_Run p l e R s m args below meth c H locs cells slots k1 n1 (F0 m pc A ((As.reverse ++ Value.ref o :: st).map (gl_mv base b))) (st.map (gl_mv base b)) (gl_Qc base b D cI cB z Q' (Value.ref (base + o) :: As.map (gl_mv base b)).toArray) (fun q : Nat => base ≤ q) := by
    rcases hlk with hlk | hlk
    · exact va_runV (Ts := gl_tb) (own := Mt.1.cls) (C := M'.1.cls) (bytes := M'.2.1) (maxL := M'.2.2.1) (ret := M'.2.2.2.1) (n := As.length) ⟨C.1, C.2.1, C.2.2.2.1, C.2.2.2.2.1, hts⟩ (hM base b D cI cB)
        ⟨⟨rfl, rfl, Nat.le_trans hcr.1 hR1, Nat.le_trans hcr.2 hR2, gl_stay hts hm.1, List.mem_cons_self, hts _ hm.1, hts _ hm.2.1, hm.2.2.1, hm.par, hts _ hlk⟩, hts _ hi, hts _ hse⟩
        ⟨gl_blind, hrecv, hpre⟩ rfl (by simp) hL.1.1 hmap hroom hd ⟨by omega, by omega⟩
    · exact va_runVN (Ts := gl_tb) (own := Mt.1.cls) (C := M'.1.cls) (host := "ModeCells") (bytes := M'.2.1) (maxL := M'.2.2.1) (ret := M'.2.2.2.1) (n := As.length) ⟨C.1, C.2.1, C.2.2.2.1, C.2.2.2.2.1, hts⟩ (hM base b D cI cB)
        ⟨⟨⟨rfl, rfl, Nat.le_trans hcr.1 hR1, Nat.le_trans hcr.2 hR2, gl_stay hts hm.1, List.mem_cons_self⟩, hts _ hm.1, hts _ hm.2.1, hm.2.2.1, hm.par, hts _ hlk⟩, hts _ hi, hts _ hse⟩
        ⟨gl_blind, hrecv, hpre⟩ rfl (by simp) hL.1.1 hmap hroom hd ⟨by omega, by omega⟩
  refine gl_after hrun S0 fun r h' H1 locs1 hQ W1 S1 => ?_
  have K' := K r h' hQ base b D cI cB p e R s m args below meth c H1 locs1 (cells + k1) (slots + n1) A QW C W1 S1 (by omega) (by omega) hL fin
  have hres : (r.map (gl_mv base b)).toList ++ st.map (gl_mv base b) = (r.toList ++ st).map (gl_mv base b) := by cases r <;> simp
  rw [hres]
  exact K'
/-- a call of a static method -/
theorem gl_r_scall {idx : Nat} {As : List Value} (hM : gl_Ret l sc M' As h z k1 n1 Q') (hm : gl_mw M' As.length) (hi : Cond.static M'.1 ∈ gl_tb) (hlk : gl_lk Mt.1.cls idx M'.1) (hcr : gl_cr Mt M') (hst : st.all gl_is = true ∧ st.length ≤ 8) (hk : k1 + k2 ≤ k) (hn : n1 + n2 ≤ n)
    (hd : decode Mt.2.1 pc = .ok (.invokestatic idx, 3)) (K : ∀ (r : Option Value) (h' : List gl_E), Q' r h' → gl_Ev l sc Mt (pc + 3) ls (r.toList ++ st) h' z zy k2 n2 Q) : gl_Ev l sc Mt pc ls (As.reverse ++ st) h z zy k n Q := by
  intro base b D cI cB p e R s m args below meth c H locs cells slots A QW C W0 S0 hc hs hL fin
  have hts := C.2.2.2.2.2.1
  have hR1 := C.2.2.2.2.2.2.2.2.2.2.2.1
  have hR2 := C.2.2.2.2.2.2.2.2.2.2.2.2
  have hsum := gl_catsum1 base b st (List.all_eq_true.mp hst.1)
  have hst2 := hst.2
  have hmap : ((As.reverse ++ st).map (gl_mv base b)) = (As.map (gl_mv base b)).reverse ++ st.map (gl_mv base b) := by simp
  have hpre := gl_pre (av := As) C W0 S0
  have hroom : 2 * (F0 m pc A ((As.reverse ++ st).map (gl_mv base b))).monitorRoom + ((st.map (gl_mv base b)).map fun v => v.category).sum ≤ 8 := by
    show 2 * 0 + _ ≤ 8
    omega
  have hrun : va_Run p l e R s m args below meth c H locs cells slots k1 n1 (F0 m pc A ((As.reverse ++ st).map (gl_mv base b))) (st.map (gl_mv base b)) (gl_Qc base b D cI cB z Q' (As.map (gl_mv base b)).toArray) (fun q : Nat => base ≤ q) := by
    rcases hlk with hlk | hlk
    · exact va_runS (Ts := gl_tb) (own := Mt.1.cls) (bytes := M'.2.1) (maxL := M'.2.2.1) (ret := M'.2.2.2.1) (n := As.length) ⟨C.1, C.2.1, C.2.2.2.1, C.2.2.2.2.1, hts⟩ (hM base b D cI cB)
        ⟨⟨rfl, rfl, Nat.le_trans hcr.1 hR1, Nat.le_trans hcr.2 hR2, gl_stay hts hm.1, List.mem_cons_self, hts _ hm.1, hts _ hm.2.1, hm.2.2.1, hm.par, hts _ hlk⟩, hts _ hi⟩
        ⟨gl_blind, hpre⟩ rfl (by simp) hL.1.1 hmap hroom hd ⟨by omega, by omega⟩
    · exact va_runSN (Ts := gl_tb) (own := Mt.1.cls) (host := "ModeCells") (bytes := M'.2.1) (maxL := M'.2.2.1) (ret := M'.2.2.2.1) (n := As.length) ⟨C.1, C.2.1, C.2.2.2.1, C.2.2.2.2.1, hts⟩ (hM base b D cI cB)
        ⟨⟨⟨rfl, rfl, Nat.le_trans hcr.1 hR1, Nat.le_trans hcr.2 hR2, gl_stay hts hm.1, List.mem_cons_self⟩, hts _ hm.1, hts _ hm.2.1, hm.2.2.1, hm.par, hts _ hlk⟩, hts _ hi, trivial⟩
        ⟨gl_blind, hpre⟩ rfl (by simp) hL.1.1 hmap hroom hd ⟨by omega, by omega⟩
  refine gl_after hrun S0 fun r h' H1 locs1 hQ W1 S1 => ?_
  have K' := K r h' hQ base b D cI cB p e R s m args below meth c H1 locs1 (cells + k1) (slots + n1) A QW C W1 S1 (by omega) (by omega) hL fin
  have hres : (r.map (gl_mv base b)).toList ++ st.map (gl_mv base b) = (r.toList ++ st).map (gl_mv base b) := by cases r <;> simp
  rw [hres]
  exact K'
/-- a call of a constructor -/
theorem gl_r_icall {idx o : Nat} {As : List Value} (hM : gl_Ret l sc M' (.ref o :: As) h z k1 n1 Q') (hm : gl_mw M' As.length) (hi : Cond.instanceMethod M'.1 ∈ gl_tb) (hnm : M'.1.name = "<init>") (hrt : M'.2.2.2.1 = none) (hlk : gl_lk Mt.1.cls idx M'.1) (hcr : gl_cr Mt M') (hst : st.all gl_is = true ∧ st.length ≤ 8) (hk : k1 + k2 ≤ k) (hn : n1 + n2 ≤ n)
    (hd : decode Mt.2.1 pc = .ok (.invokespecial idx, 3)) (K : ∀ (r : Option Value) (h' : List gl_E), Q' r h' → gl_Ev l sc Mt (pc + 3) ls (r.toList ++ st) h' z zy k2 n2 Q) : gl_Ev l sc Mt pc ls (As.reverse ++ .ref o :: st) h z zy k n Q := by
  intro base b D cI cB p e R s m args below meth c H locs cells slots A QW C W0 S0 hc hs hL fin
  have hts := C.2.2.2.2.2.1
  have hR1 := C.2.2.2.2.2.2.2.2.2.2.2.1
  have hR2 := C.2.2.2.2.2.2.2.2.2.2.2.2
  have hsum := gl_catsum1 base b st (List.all_eq_true.mp hst.1)
  have hst2 := hst.2
  have hmap : ((As.reverse ++ Value.ref o :: st).map (gl_mv base b)) = (As.map (gl_mv base b)).reverse ++ Value.ref (base + o) :: st.map (gl_mv base b) := by simp [gl_mv]
  have hpre := gl_pre (av := .ref o :: As) C W0 S0
  have hcm := hm.1
  rw [hrt] at hcm
  have hin : Cond.code M'.1 M'.2.1 M'.2.2.1 none ∈ gl_wsM M' := List.mem_cons_of_mem _ hcm
  have hroom : 2 * (F0 m pc A ((As.reverse ++ Value.ref o :: st).map (gl_mv base b))).monitorRoom + ((st.map (gl_mv base b)).map fun v => v.category).sum ≤ 8 := by
    show 2 * 0 + _ ≤ 8
    omega
  have hrun : va_Run p l e R s m args below meth c H locs cells slots k1 n1 (F0 m pc A ((As.reverse ++ Value.ref o :: st).map (gl_mv base b))) (st.map (gl_mv base b)) (gl_Qc base b D cI cB z Q' (Value.ref (base + o) :: As.map (gl_mv base b)).toArray) (fun q : Nat => base ≤ q) := by
    rcases hlk with hlk | hlk
    · exact va_runI (Ts := gl_tb) (own := Mt.1.cls) (bytes := M'.2.1) (maxL := M'.2.2.1) (n := As.length) ⟨C.1, C.2.1, C.2.2.2.1, C.2.2.2.2.1, hts⟩ (hM base b D cI cB)
        ⟨⟨rfl, rfl, Nat.le_trans hcr.1 hR1, Nat.le_trans hcr.2 hR2, gl_stay hts hm.1, hin, hts _ hcm, hts _ hm.2.1, hm.2.2.1, hm.par, hts _ hlk⟩, hnm, hts _ hi⟩
        ⟨gl_blind, hpre⟩ rfl (by simp) hL.1.1 hmap hroom hd ⟨by omega, by omega⟩
    · exact va_runIN (Ts := gl_tb) (own := Mt.1.cls) (host := "ModeCells") (bytes := M'.2.1) (maxL := M'.2.2.1) (n := As.length) ⟨C.1, C.2.1, C.2.2.2.1, C.2.2.2.2.1, hts⟩ (hM base b D cI cB)
        ⟨⟨⟨rfl, rfl, Nat.le_trans hcr.1 hR1, Nat.le_trans hcr.2 hR2, gl_stay hts hm.1, hin⟩, hts _ hcm, hts _ hm.2.1, hm.2.2.1, hm.par, hts _ hlk⟩, hnm, hts _ hi⟩
        ⟨gl_blind, hpre⟩ rfl (by simp) hL.1.1 hmap hroom hd ⟨by omega, by omega⟩
  refine gl_after hrun S0 fun r h' H1 locs1 hQ W1 S1 => ?_
  have K' := K r h' hQ base b D cI cB p e R s m args below meth c H1 locs1 (cells + k1) (slots + n1) A QW C W1 S1 (by omega) (by omega) hL fin
  have hres : (r.map (gl_mv base b)).toList ++ st.map (gl_mv base b) = (r.toList ++ st).map (gl_mv base b) := by cases r <;> simp
  rw [hres]
  exact K'
end GLK

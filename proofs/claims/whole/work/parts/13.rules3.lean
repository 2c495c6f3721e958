section GLA
variable {l : Launch} {sc : Nat × (Nat → Int32)} {Mt : gl_M} {pc : Nat} {ls st : List Value} {h : List gl_E} {z zy : Bool} {k n : Nat} {Q : Option Value → List gl_E → Prop}
theorem gl_catsum (base b : Nat) (l : List Value) : ((l.map (gl_mv base b)).map fun v => v.category).sum ≤ 2 * l.length := by
  induction l with
  | nil => simp
  | cons v r ih =>
    have hv : (gl_mv base b v).category ≤ 2 := by rcases lv_cat (gl_mv base b v) with h | h <;> omega
    simp only [List.map_cons, List.sum_cons, List.length_cons]
    omega
theorem gl_r_iald {a nn : Nat} {f : Nat → Int32} {i : Int32} (ha : h[a]? = some (.inl (false, nn, f))) (hi : vp_in i nn) (hd : decode Mt.2.1 pc = .ok (.iaload, 1)) (K : gl_Ev l sc Mt (pc + 1) ls (.int (f i.toNatClampNeg) :: st) h z zy k n Q) : gl_Ev l sc Mt pc ls (.int i :: .ref a :: st) h z zy k n Q := by
  intro base b D cI cB p e R s m args below meth c H locs cells slots A QW C W0 S0 hc hs hL fin
  exact va_iald C.1 C.2.1 C.2.2.2.2.2.2.1 W0.1 a 0 (gl_ws_at ha) rfl hi hd (K base b D cI cB p e R s m args below meth c H locs cells slots A QW C W0 S0 hc hs hL fin)
theorem gl_r_zald {a nn : Nat} {f : Nat → Int32} {i : Int32} (ha : h[a]? = some (.inl (true, nn, f))) (hi : vp_in i nn) (hd : decode Mt.2.1 pc = .ok (.baload, 1)) (K : gl_Ev l sc Mt (pc + 1) ls (.int (f i.toNatClampNeg) :: st) h z zy k n Q) : gl_Ev l sc Mt pc ls (.int i :: .ref a :: st) h z zy k n Q := by
  intro base b D cI cB p e R s m args below meth c H locs cells slots A QW C W0 S0 hc hs hL fin
  exact va_zald C.1 C.2.1 C.2.2.2.2.2.2.1 W0.1 a 1 (gl_ws_at ha) rfl hi hd (K base b D cI cB p e R s m args below meth c H locs cells slots A QW C W0 S0 hc hs hL fin)
theorem gl_r_sald {t : Int64} {i : Int32} (hi : vp_in i sc.1) (hd : decode Mt.2.1 pc = .ok (.iaload, 1)) (K : gl_Ev l sc Mt (pc + 1) ls (.int (sc.2 i.toNatClampNeg) :: st) h z zy k n Q) : gl_Ev l sc Mt pc ls (.int i :: .long t :: st) h z zy k n Q := by
  intro base b D cI cB p e R s m args below meth c H locs cells slots A QW C W0 S0 hc hs hL fin
  exact va_sld C.1 C.2.1 C.2.2.2.2.2.2.2.1 (Nat.lt_of_lt_of_le C.2.2.2.2.2.2.2.2.1 C.2.2.2.2.2.2.2.2.2.1) (Nat.not_le.mpr C.2.2.2.2.2.2.2.2.1) S0 hi hd (K base b D cI cB p e R s m args below meth c H locs cells slots A QW C W0 S0 hc hs hL fin)
theorem gl_r_slen {t : Int64} (hd : decode Mt.2.1 pc = .ok (.arraylength, 1)) (K : gl_Ev l sc Mt (pc + 1) ls (.int (Int32.ofNat sc.1) :: st) h z zy k n Q) : gl_Ev l sc Mt pc ls (.long t :: st) h z zy k n Q := by
  intro base b D cI cB p e R s m args below meth c H locs cells slots A QW C W0 S0 hc hs hL fin
  exact va_slen C.1 C.2.1 C.2.2.2.2.2.2.2.1 (Nat.lt_of_lt_of_le C.2.2.2.2.2.2.2.2.1 C.2.2.2.2.2.2.2.2.2.1) (Nat.not_le.mpr C.2.2.2.2.2.2.2.2.1) S0 hd (K base b D cI cB p e R s m args below meth c H locs cells slots A QW C W0 S0 hc hs hL fin)
theorem gl_r_alen {a nn : Nat} {bz : Bool} {f : Nat → Int32} (ha : h[a]? = some (.inl (bz, nn, f))) (hd : decode Mt.2.1 pc = .ok (.arraylength, 1)) (K : gl_Ev l sc Mt (pc + 1) ls (.int (Int32.ofNat nn) :: st) h z zy k n Q) : gl_Ev l sc Mt pc ls (.ref a :: st) h z zy k n Q := by
  intro base b D cI cB p e R s m args below meth c H locs cells slots A QW C W0 S0 hc hs hL fin
  have K' := K base b D cI cB p e R s m args below meth c H locs cells slots A QW C W0 S0 hc hs hL fin
  cases bz with
  | false => exact va_alen C.1 C.2.1 C.2.2.2.2.2.2.1 W0.1 a 0 (gl_ws_at ha) rfl rfl hd K'
  | true => exact va_alen C.1 C.2.1 C.2.2.2.2.2.2.1 W0.1 a 1 (gl_ws_at ha) rfl rfl hd K'
theorem gl_r_iast {a nn : Nat} {f : Nat → Int32} {i x : Int32} (ha : h[a]? = some (.inl (false, nn, f))) (hi : vp_in i nn) (hd : decode Mt.2.1 pc = .ok (.iastore, 1)) (K : gl_Ev l sc Mt (pc + 1) ls st (h.set a (.inl (false, nn, upd f i.toNatClampNeg x))) z zy k n Q) : gl_Ev l sc Mt pc ls (.int x :: .int i :: .ref a :: st) h z zy k n Q := by
  intro base b D cI cB p e R s m args below meth c H locs cells slots A QW C W0 S0 hc hs hL fin
  have he := gl_ws_at (base := base) (b := b) (cI := cI) (cB := cB) ha
  have hD := gl_D base b cI cB h
  refine W.iast C.1 C.2.1 (W0.1 a _ he) ((C.2.2.2.2.2.2.1.2 0 _ rfl).1 nn (fun j => .int (f j))) (fun q => by cases q) (by show ¬ (i < 0 ∨ (arrV _ _ _).slots.size ≤ _); rw [arrV_size]; exact hi) rfl rfl hd fun H1 e1 z1 oq => ?_
  have hP := W0.1.set hD he (H1 := H1) (e := gl_e base b cI cB (.inl (false, nn, upd f i.toNatClampNeg x))) (by
    show H1[base + a]? = some (vp_cell _ _)
    rw [e1]
    show some ((vp_cell cI (nn, .inl f)).setSlot _ _) = some (vp_cell cI (nn, .inl _))
    rw [vp_cell_i, vp_cell_i, arrV_store]
    congr 2
    funext q
    by_cases hq : q = i.toNatClampNeg
    · subst hq; simp [updV, upd]
    · simp [updV, upd, hq]) oq
  rw [gl_ws_set] at hP
  exact K base b D cI cB p e R s m args below meth c H1 _ cells slots A QW C ⟨hP, fun hz => by rw [z1, List.length_set]; exact W0.2 hz⟩ (S0.put z1 oq (Nat.le_add_right _ _)) hc hs hL fin
theorem gl_r_zast {a nn : Nat} {f : Nat → Int32} {i x : Int32} (hz : z = false) (ha : h[a]? = some (.inl (true, nn, f))) (hi : vp_in i nn) (hd : decode Mt.2.1 pc = .ok (.bastore, 1)) (K : gl_Ev l sc Mt (pc + 1) ls st (h.set a (.inl (true, nn, upd f i.toNatClampNeg (vp_nar .boolean x)))) z zy k n Q) : gl_Ev l sc Mt pc ls (.int x :: .int i :: .ref a :: st) h z zy k n Q := by
  intro base b D cI cB p e R s m args below meth c H locs cells slots A QW C W0 S0 hc hs hL fin
  subst hz
  have he := gl_ws_at (base := base) (b := b) (cI := cI) (cB := cB) ha
  refine va_zast C.1 C.2.1 C.2.2.2.2.2.2.1 W0.1 (gl_D base b cI cB h) S0 a 1 he rfl hi hd fun H1 locs1 hP hD hS => ?_
  have hP' : va_P D gl_cls ((gl_ws base b cI cB h).set a (base + a, gl_e base b cI cB (.inl (true, nn, upd f i.toNatClampNeg (vp_nar .boolean x))))) H1 := hP
  rw [gl_ws_set] at hP'
  exact K base b D cI cB p e R s m args below meth c H1 _ cells slots A QW C ⟨hP', fun hz => by cases hz⟩ hS hc hs hL fin
theorem gl_r_copy {a a' nn nn' : Nat} {f g : Nat → Int32} {sp dp cn : Int32} {idx : Nat} (hz : z = false) (hw : Cond.methodLink Mt.1.cls idx arraycopyName ∈ gl_tb) (hn1 : Cond.native arraycopyName ∈ gl_tb) (hn2 : Cond.static arraycopyName ∈ gl_tb) (hn3 : Cond.initialized "java/lang/System" ∈ gl_tb)
    (ha : h[a]? = some (.inl (false, nn, f))) (ha' : h[a']? = some (.inl (false, nn', g))) (h1 : ¬ sp < 0) (h2 : ¬ dp < 0) (h3 : ¬ cn < 0) (h4 : sp.toNatClampNeg + cn.toNatClampNeg ≤ nn) (h5 : dp.toNatClampNeg + cn.toNatClampNeg ≤ nn') (hr1 : 1 ≤ Mt.2.2.2.2.1) (hr2 : 2 * st.length + 18 ≤ Mt.2.2.2.2.2) (hd : decode Mt.2.1 pc = .ok (.invokestatic idx, 3))
    (K : gl_Ev l sc Mt (pc + 3) ls st (h.set a' (.inl (false, nn', va_cpy f g sp.toNatClampNeg dp.toNatClampNeg cn.toNatClampNeg))) z zy k n Q) : gl_Ev l sc Mt pc ls (.int cn :: .int dp :: .ref a' :: .int sp :: .ref a :: st) h z zy k n Q := by
  intro base b D cI cB p e R s m args below meth c H locs cells slots A QW C W0 S0 hc hs hL fin
  subst hz
  have hts := C.2.2.2.2.2.1
  have hsum := gl_catsum base b st
  have hR1 := C.2.2.2.2.2.2.2.2.2.2.2.1
  have hR2 := C.2.2.2.2.2.2.2.2.2.2.2.2
  have h7 : nativeFrameWords "java/lang/System" "arraycopy" 5 = 7 := by decide
  refine va_copyi (rest := st.map (gl_mv base b)) C.1 C.2.1 (by rw [C.2.2.2.1]; exact hL.1.1.symm) C.2.2.2.2.1 (hts _ hw) (hts _ hn1) (hts _ hn2) (hts _ hn3) C.2.2.2.2.2.2.1 W0.1 (gl_D base b cI cB h) S0 a a' 0 0 (gl_ws_at ha) (gl_ws_at ha') rfl rfl rfl h1 h2 h3 h4 h5 (fun _ _ => rfl) (Nat.le_trans hr1 hR1) (by rw [h7]; omega) hd fun H1 locs1 hP hD hS => ?_
  have hP' : va_P D gl_cls ((gl_ws base b cI cB h).set a' (base + a', gl_e base b cI cB (.inl (false, nn', va_cpy f g sp.toNatClampNeg dp.toNatClampNeg cn.toNatClampNeg)))) H1 := hP
  rw [gl_ws_set] at hP'
  exact K base b D cI cB p e R s m args below meth c H1 _ cells slots A QW C ⟨hP', fun hz => by cases hz⟩ hS hc hs hL fin
theorem gl_r_min {x y : Int32} {idx : Nat} (hw : Cond.methodLink Mt.1.cls idx Lib.Math.min.name ∈ gl_tb) (hn1 : Cond.static Lib.Math.min.name ∈ gl_tb) (hn2 : Cond.initialized "java/lang/Math" ∈ gl_tb) (hn3 : Cond.code Lib.Math.min.name Lib.Math.min.code 2 (some .int) ∈ gl_tb)
    (hr1 : 1 ≤ Mt.2.2.2.2.1) (hr2 : 2 * st.length + 13 ≤ Mt.2.2.2.2.2) (hd : decode Mt.2.1 pc = .ok (.invokestatic idx, 3)) (K : gl_Ev l sc Mt (pc + 3) ls (.int (if y < x then y else x) :: st) h z zy k n Q) : gl_Ev l sc Mt pc ls (.int y :: .int x :: st) h z zy k n Q := by
  intro base b D cI cB p e R s m args below meth c H locs cells slots A QW C W0 S0 hc hs hL fin
  have hts := C.2.2.2.2.2.1
  have hsum := gl_catsum base b st
  have hR1 := C.2.2.2.2.2.2.2.2.2.2.2.1
  have hR2 := C.2.2.2.2.2.2.2.2.2.2.2.2
  exact va_mmin C.1 C.2.1 (by rw [C.2.2.2.1]; exact hL.1.1.symm) C.2.2.2.2.1 (hts _ hw) (hts _ hn1) (hts _ hn2) (hts _ hn3) (Nat.le_trans hr1 hR1) (by omega) (by omega) (by omega) hd (K base b D cI cB p e R s m args below meth c H locs cells slots A QW C W0 S0 hc hs hL fin)
theorem gl_r_obj {a : Nat} {idx : Nat} (hw : Cond.methodLink Mt.1.cls idx Lib.objectInit ∈ gl_tb) (hn1 : Cond.instanceMethod Lib.objectInit ∈ gl_tb) (hn2 : Cond.code Lib.objectInit ⟨#[0xb1]⟩ 1 none ∈ gl_tb)
    (hr1 : 1 ≤ Mt.2.2.2.2.1) (hr2 : 2 * st.length + 12 ≤ Mt.2.2.2.2.2) (hd : decode Mt.2.1 pc = .ok (.invokespecial idx, 3)) (K : gl_Ev l sc Mt (pc + 3) ls st h z zy k n Q) : gl_Ev l sc Mt pc ls (.ref a :: st) h z zy k n Q := by
  intro base b D cI cB p e R s m args below meth c H locs cells slots A QW C W0 S0 hc hs hL fin
  have hts := C.2.2.2.2.2.1
  have hsum := gl_catsum base b st
  have hR1 := C.2.2.2.2.2.2.2.2.2.2.2.1
  have hR2 := C.2.2.2.2.2.2.2.2.2.2.2.2
  have h0 : (F0 m pc A ((Value.ref a :: st).map (gl_mv base b))).monitorRoom = 0 := rfl
  exact W.objInit (rest := st.map (gl_mv base b)) C.1 C.2.1 C.2.2.2.2.1 (hts _ hw) (hts _ hn1) (hts _ hn2) rfl (by rw [C.2.2.2.1]; exact hL.1.1) rfl hd (Nat.le_trans hr1 hR1) (by rw [h0]; omega) (K base b D cI cB p e R s m args below meth c H locs cells slots A QW C W0 S0 hc hs hL fin)
theorem gl_Wpush {base b cI cB : Nat} {D : va_G} {h : List gl_E} {H H1 : Heap} (W0 : gl_Wd base b D cI cB true h H) (e : gl_E) (he : va_at D gl_cls (base + h.length, gl_e base b cI cB e) H1) (z1 : H1.size = H.size + 1) (o1 : ∀ q, q < H.size → H1[q]? = H[q]?) : gl_Wd base b D cI cB true (h ++ [e]) H1 := by
  refine ⟨?_, fun _ => by rw [z1, W0.2 rfl, List.length_append]; rfl⟩
  rw [gl_ws_app]
  refine (W0.1.kept (fun j q hq => o1 q.1 ((W0.1 j q hq).lt))).app (fun j q hq => ?_)
  have hj : j < 1 := (List.getElem?_eq_some_iff.mp hq).1
  rw [show j = 0 by omega] at hq
  cases hq
  exact he
theorem gl_r_newi {i : Int32} {N k' n' : Nat} (hw : Cond.arrayClass .int ∈ gl_tb) (hz : z = true) (hi : ¬ i < 0) (hN : i.toNatClampNeg = N) (hN2 : N ≤ 65536) (hk : k' + 1 ≤ k) (hn : n' + N ≤ n) (hd : decode Mt.2.1 pc = .ok (.newarray .int, 2)) (K : gl_Ev l sc Mt (pc + 2) ls (.ref h.length :: st) (h ++ [.inl (false, N, fun _ => 0)]) z zy k' n' Q) : gl_Ev l sc Mt pc ls (.int i :: st) h z zy k n Q := by
  intro base b D cI cB p e R s m args below meth c H locs cells slots A QW C W0 S0 hc hs hL fin
  subst hz
  have hts := C.2.2.2.2.2.1
  have hcls : s.vm.findClass ("[" ++ FieldType.int.toString) = some cI := (C.2.2.2.2.2.2.1.2 0 _ rfl).2
  refine va_newaK (atype := .int) C.1 C.2.1 (hts _ hw) rfl hd rfl hi hN (by show N * 4 ≤ _; omega) (by omega) (by omega) (W0.2 rfl) fun H1 cA e1 z1 o1 hAr hNm => ?_
  have hcA : cA = cI := Option.some.inj (hNm.symm.trans hcls)
  subst hcA
  have W1 := gl_Wpush (H1 := H1) W0 (.inl (false, N, fun _ => 0)) (by show H1[base + h.length]? = some (vp_cell _ _); rw [e1]; rfl) (by rw [z1, W0.2 rfl]) (fun q hq => o1 q (by rw [W0.2 rfl] at hq; exact hq))
  exact K base b D cA cB p e R s m args below meth c H1 locs (cells + 1) (slots + N) A QW C W1 ⟨Nat.le_trans S0.1 (by have := W0.2 rfl; omega), fun q q1 q2 => (o1 q (by have := W0.2 rfl; have := S0.1; omega)).trans (S0.2.1 q q1 q2), S0.2.2⟩ (by omega) (by omega) hL fin
theorem gl_r_newz {i : Int32} {N k' n' : Nat} (hw : Cond.arrayClass .boolean ∈ gl_tb) (hz : z = true) (hi : ¬ i < 0) (hN : i.toNatClampNeg = N) (hN2 : N ≤ 65536) (hk : k' + 1 ≤ k) (hn : n' + N ≤ n) (hd : decode Mt.2.1 pc = .ok (.newarray .boolean, 2)) (K : gl_Ev l sc Mt (pc + 2) ls (.ref h.length :: st) (h ++ [.inl (true, N, fun _ => 0)]) z zy k' n' Q) : gl_Ev l sc Mt pc ls (.int i :: st) h z zy k n Q := by
  intro base b D cI cB p e R s m args below meth c H locs cells slots A QW C W0 S0 hc hs hL fin
  subst hz
  have hts := C.2.2.2.2.2.1
  have hcls : s.vm.findClass ("[" ++ FieldType.boolean.toString) = some cB := (C.2.2.2.2.2.2.1.2 1 _ rfl).2
  refine va_newaK (atype := .boolean) C.1 C.2.1 (hts _ hw) rfl hd rfl hi hN (by show N * 1 ≤ _; omega) (by omega) (by omega) (W0.2 rfl) fun H1 cA e1 z1 o1 hAr hNm => ?_
  have hcA : cA = cB := Option.some.inj (hNm.symm.trans hcls)
  subst hcA
  have W1 := gl_Wpush (H1 := H1) W0 (.inl (true, N, fun _ => 0)) (by show H1[base + h.length]? = some (vp_cell _ _); rw [e1]; rfl) (by rw [z1, W0.2 rfl]) (fun q hq => o1 q (by rw [W0.2 rfl] at hq; exact hq))
  exact K base b D cI cA p e R s m args below meth c H1 locs (cells + 1) (slots + N) A QW C W1 ⟨Nat.le_trans S0.1 (by have := W0.2 rfl; omega), fun q q1 q2 => (o1 q (by have := W0.2 rfl; have := S0.1; omega)).trans (S0.2.1 q q1 q2), S0.2.2⟩ (by omega) (by omega) hL fin
theorem gl_r_new {ci idx k' n' : Nat} {q : vw_C} {fs : List Value} (hcl : gl_cls[ci]? = some q) (hw : Cond.classLink Mt.1.cls idx q.1 ∈ gl_tb) (hfs : ∀ j ty, j < q.2.2 → parseFieldDescriptor (q.2.1 j).2.2.1 = some ty → fs[j]? = some (defaultValue ty) ∧ ∀ base b, gl_mv base b (defaultValue ty) = defaultValue ty) (hz : z = true) (hk : k' + 1 ≤ k) (hn : n' + q.2.2 ≤ n) (hd : decode Mt.2.1 pc = .ok (.new idx, 3)) (K : gl_Ev l sc Mt (pc + 3) ls (.ref h.length :: st) (h ++ [.inr (ci, fs)]) z zy k' n' Q) : gl_Ev l sc Mt pc ls st h z zy k n Q := by
  intro base b D cI cB p e R s m args below meth c H locs cells slots A QW C W0 S0 hc hs hL fin
  subst hz
  obtain ⟨ty0, hin, hty0, hnm, hi1, hi2, -⟩ := gl_okc_all ci _ hcl
  have hts := C.2.2.2.2.2.1
  have hKn := C.2.2.2.2.2.2.1.1 ci _ hcl
  refine W.newcK C.1 C.2.1 C.2.2.2.2.1 (hts _ hw) (hts _ hi1) (hts _ hi2) rfl hd (by omega) (by omega) hKn.2.1 (W0.2 rfl) fun H1 kC hkC e1 z1 o1 => ?_
  have W1 := gl_Wpush (H1 := H1) W0 (.inr (ci, fs)) ⟨_, hcl, (u_born ty0 hts hin hKn hkC e1 hty0).to (fun j hj => by
    obtain ⟨f1, f2⟩ := hfs j _ hj (hty0 j hj)
    simp only [vp_V, List.getD_eq_getElem?_getD, List.getElem?_map, f1, Option.map_some, Option.getD_some]
    exact (f2 base b).symm)⟩ (by rw [z1, W0.2 rfl]) (fun q hq => o1 q (by rw [W0.2 rfl] at hq; exact hq))
  exact K base b D cI cB p e R s m args below meth c H1 locs (cells + 1) (slots + q.2.2) A QW C W1 ⟨Nat.le_trans S0.1 (by have := W0.2 rfl; omega), fun q q1 q2 => (o1 q (by have := W0.2 rfl; have := S0.1; omega)).trans (S0.2.1 q q1 q2), S0.2.2⟩ (by omega) (by omega) hL fin
end GLA

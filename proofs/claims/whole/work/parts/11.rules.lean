section GLR
variable {l : Launch} {sc : Nat × (Nat → Int32)} {Mt : gl_M} {pc : Nat} {ls st : List Value} {h : List gl_E} {z zy : Bool} {k n : Nat} {Q : Option Value → List gl_E → Prop}
theorem gl_r_iconst {a : Int} (hd : decode Mt.2.1 pc = .ok (.iconst a, 1)) (K : gl_Ev l sc Mt (pc + 1) ls (.int (Int32.ofInt a) :: st) h z zy k n Q) : gl_Ev l sc Mt pc ls st h z zy k n Q := by
  intro base b D cI cB p e R s m args below meth c H locs cells slots A QW C W0 S0 hc hs hL fin
  exact lv_iconst C.1 C.2.1 hd rfl (K base b D cI cB p e R s m args below meth c H locs cells slots A QW C W0 S0 hc hs hL fin)
theorem gl_r_bipush {a : Int} (hd : decode Mt.2.1 pc = .ok (.bipush a, 2)) (K : gl_Ev l sc Mt (pc + 2) ls (.int ((Int8.ofInt a).toInt32) :: st) h z zy k n Q) : gl_Ev l sc Mt pc ls st h z zy k n Q := by
  intro base b D cI cB p e R s m args below meth c H locs cells slots A QW C W0 S0 hc hs hL fin
  exact lv_bipush C.1 C.2.1 hd rfl (K base b D cI cB p e R s m args below meth c H locs cells slots A QW C W0 S0 hc hs hL fin)
theorem gl_r_sipush {a : Int} (hd : decode Mt.2.1 pc = .ok (.sipush a, 3)) (K : gl_Ev l sc Mt (pc + 3) ls (.int ((Int16.ofInt a).toInt32) :: st) h z zy k n Q) : gl_Ev l sc Mt pc ls st h z zy k n Q := by
  intro base b D cI cB p e R s m args below meth c H locs cells slots A QW C W0 S0 hc hs hL fin
  exact lv_sipush C.1 C.2.1 hd rfl (K base b D cI cB p e R s m args below meth c H locs cells slots A QW C W0 S0 hc hs hL fin)
theorem gl_r_ldc {a : Nat} {v : Int32} (hw : (Cond.constant Mt.1.cls a v) ∈ gl_tb) (hd : decode Mt.2.1 pc = .ok (.ldc a, 2)) (K : gl_Ev l sc Mt (pc + 2) ls (.int v :: st) h z zy k n Q) : gl_Ev l sc Mt pc ls st h z zy k n Q := by
  intro base b D cI cB p e R s m args below meth c H locs cells slots A QW C W0 S0 hc hs hL fin
  exact lv_ldc C.1 C.2.1 C.2.2.2.2.1 (C.2.2.2.2.2.1 _ hw) hd (K base b D cI cB p e R s m args below meth c H locs cells slots A QW C W0 S0 hc hs hL fin)
theorem gl_r_iload_n {i : Fin 4} {x : Int32} (hi : ls[(i : Nat)]? = some (.int x)) (hd : decode Mt.2.1 pc = .ok (.iload_n i, 1)) (K : gl_Ev l sc Mt (pc + 1) ls (.int x :: st) h z zy k n Q) : gl_Ev l sc Mt pc ls st h z zy k n Q := by
  intro base b D cI cB p e R s m args below meth c H locs cells slots A QW C W0 S0 hc hs hL fin
  exact lv_iload_n C.1 C.2.1 hd rfl (hL.get hi rfl) (K base b D cI cB p e R s m args below meth c H locs cells slots A QW C W0 S0 hc hs hL fin)
theorem gl_r_iload {i : Nat} {x : Int32} (hi : ls[i]? = some (.int x)) (hd : decode Mt.2.1 pc = .ok (.iload i, 2)) (K : gl_Ev l sc Mt (pc + 2) ls (.int x :: st) h z zy k n Q) : gl_Ev l sc Mt pc ls st h z zy k n Q := by
  intro base b D cI cB p e R s m args below meth c H locs cells slots A QW C W0 S0 hc hs hL fin
  exact lv_iload C.1 C.2.1 hd (hL.get hi rfl) (K base b D cI cB p e R s m args below meth c H locs cells slots A QW C W0 S0 hc hs hL fin)
theorem gl_r_aload_n {i : Fin 4} {x : Nat} (hi : ls[(i : Nat)]? = some (.ref x)) (hd : decode Mt.2.1 pc = .ok (.aload_n i, 1)) (K : gl_Ev l sc Mt (pc + 1) ls (.ref x :: st) h z zy k n Q) : gl_Ev l sc Mt pc ls st h z zy k n Q := by
  intro base b D cI cB p e R s m args below meth c H locs cells slots A QW C W0 S0 hc hs hL fin
  exact lv_aload_n C.1 C.2.1 hd rfl (hL.get hi rfl) (K base b D cI cB p e R s m args below meth c H locs cells slots A QW C W0 S0 hc hs hL fin)
theorem gl_r_sload_n {i : Fin 4} {x : Int64} (hi : ls[(i : Nat)]? = some (.long x)) (hd : decode Mt.2.1 pc = .ok (.aload_n i, 1)) (K : gl_Ev l sc Mt (pc + 1) ls (.long x :: st) h z zy k n Q) : gl_Ev l sc Mt pc ls st h z zy k n Q := by
  intro base b D cI cB p e R s m args below meth c H locs cells slots A QW C W0 S0 hc hs hL fin
  exact lv_aload_n C.1 C.2.1 hd rfl (hL.get hi rfl) (K base b D cI cB p e R s m args below meth c H locs cells slots A QW C W0 S0 hc hs hL fin)
theorem gl_r_aload {i : Nat} {x : Nat} (hi : ls[i]? = some (.ref x)) (hd : decode Mt.2.1 pc = .ok (.aload i, 2)) (K : gl_Ev l sc Mt (pc + 2) ls (.ref x :: st) h z zy k n Q) : gl_Ev l sc Mt pc ls st h z zy k n Q := by
  intro base b D cI cB p e R s m args below meth c H locs cells slots A QW C W0 S0 hc hs hL fin
  exact lv_aload C.1 C.2.1 hd (hL.get hi rfl) (K base b D cI cB p e R s m args below meth c H locs cells slots A QW C W0 S0 hc hs hL fin)
theorem gl_r_istore_n {i : Fin 4} {x : Int32} (hi : (i : Nat) < ls.length) (hd : decode Mt.2.1 pc = .ok (.istore_n i, 1)) (K : gl_Ev l sc Mt (pc + 1) (ls.set (i : Nat) (.int x)) st h z zy k n Q) : gl_Ev l sc Mt pc ls (.int x :: st) h z zy k n Q := by
  intro base b D cI cB p e R s m args below meth c H locs cells slots A QW C W0 S0 hc hs hL fin
  exact lv_istore_n (k := i) (i := (i : Nat)) C.1 C.2.1 hd rfl hL.1 (by rw [← hL.2]; exact hi) rfl (fun A' hA' => K base b D cI cB p e R s m args below meth c H locs cells slots A' QW C W0 S0 hc hs (hL.stored hA') fin)
theorem gl_r_istore {i : Nat} {x : Int32} (hi : i < ls.length) (hd : decode Mt.2.1 pc = .ok (.istore i, 2)) (K : gl_Ev l sc Mt (pc + 2) (ls.set i (.int x)) st h z zy k n Q) : gl_Ev l sc Mt pc ls (.int x :: st) h z zy k n Q := by
  intro base b D cI cB p e R s m args below meth c H locs cells slots A QW C W0 S0 hc hs hL fin
  exact lv_istore C.1 C.2.1 hd hL.1 (by rw [← hL.2]; exact hi) rfl (fun A' hA' => K base b D cI cB p e R s m args below meth c H locs cells slots A' QW C W0 S0 hc hs (hL.stored hA') fin)
theorem gl_r_astore_n {i : Fin 4} {x : Nat} (hi : (i : Nat) < ls.length) (hd : decode Mt.2.1 pc = .ok (.astore_n i, 1)) (K : gl_Ev l sc Mt (pc + 1) (ls.set (i : Nat) (.ref x)) st h z zy k n Q) : gl_Ev l sc Mt pc ls (.ref x :: st) h z zy k n Q := by
  intro base b D cI cB p e R s m args below meth c H locs cells slots A QW C W0 S0 hc hs hL fin
  exact lv_astore_n (k := i) (i := (i : Nat)) C.1 C.2.1 hd rfl hL.1 (by rw [← hL.2]; exact hi) rfl (fun A' hA' => K base b D cI cB p e R s m args below meth c H locs cells slots A' QW C W0 S0 hc hs (hL.stored (v := .ref x) hA') fin)
theorem gl_r_iinc {i : Nat} {a : Int} {x : Int32} (hi : ls[i]? = some (.int x)) (hd : decode Mt.2.1 pc = .ok (.iinc i a, 3)) (K : gl_Ev l sc Mt (pc + 3) (ls.set i (.int (x + Int32.ofInt a))) st h z zy k n Q) : gl_Ev l sc Mt pc ls st h z zy k n Q := by
  intro base b D cI cB p e R s m args below meth c H locs cells slots A QW C W0 S0 hc hs hL fin
  obtain ⟨q, hq⟩ := List.getElem?_of_mem (gl_lv_mem (base := base) (b := b) (ls := ls) (q := (i, .int x)) |>.mpr ⟨.int x, hi, rfl, rfl⟩)
  have hlt : i < ls.length := (List.getElem?_eq_some_iff.mp hi).1
  exact lv_iinc C.1 C.2.1 hd hL.1 hq rfl (by rw [← hL.2]; exact hlt) rfl (fun A' hA' => K base b D cI cB p e R s m args below meth c H locs cells slots A' QW C W0 S0 hc hs (hL.stored hA') fin)
theorem gl_r_iadd {x y : Int32} (hd : decode Mt.2.1 pc = .ok (.iadd, 1)) (K : gl_Ev l sc Mt (pc + 1) ls (.int (x + y) :: st) h z zy k n Q) : gl_Ev l sc Mt pc ls (.int y :: .int x :: st) h z zy k n Q := by
  intro base b D cI cB p e R s m args below meth c H locs cells slots A QW C W0 S0 hc hs hL fin
  exact lv_iadd C.1 C.2.1 hd (K base b D cI cB p e R s m args below meth c H locs cells slots A QW C W0 S0 hc hs hL fin)
theorem gl_r_isub {x y : Int32} (hd : decode Mt.2.1 pc = .ok (.isub, 1)) (K : gl_Ev l sc Mt (pc + 1) ls (.int (x - y) :: st) h z zy k n Q) : gl_Ev l sc Mt pc ls (.int y :: .int x :: st) h z zy k n Q := by
  intro base b D cI cB p e R s m args below meth c H locs cells slots A QW C W0 S0 hc hs hL fin
  exact lv_isub C.1 C.2.1 hd (K base b D cI cB p e R s m args below meth c H locs cells slots A QW C W0 S0 hc hs hL fin)
theorem gl_r_imul {x y : Int32} (hd : decode Mt.2.1 pc = .ok (.imul, 1)) (K : gl_Ev l sc Mt (pc + 1) ls (.int (x * y) :: st) h z zy k n Q) : gl_Ev l sc Mt pc ls (.int y :: .int x :: st) h z zy k n Q := by
  intro base b D cI cB p e R s m args below meth c H locs cells slots A QW C W0 S0 hc hs hL fin
  exact lv_imul C.1 C.2.1 hd (K base b D cI cB p e R s m args below meth c H locs cells slots A QW C W0 S0 hc hs hL fin)
theorem gl_r_iand {x y : Int32} (hd : decode Mt.2.1 pc = .ok (.iand, 1)) (K : gl_Ev l sc Mt (pc + 1) ls (.int (x &&& y) :: st) h z zy k n Q) : gl_Ev l sc Mt pc ls (.int y :: .int x :: st) h z zy k n Q := by
  intro base b D cI cB p e R s m args below meth c H locs cells slots A QW C W0 S0 hc hs hL fin
  exact lv_iand C.1 C.2.1 hd (K base b D cI cB p e R s m args below meth c H locs cells slots A QW C W0 S0 hc hs hL fin)
theorem gl_r_ior {x y : Int32} (hd : decode Mt.2.1 pc = .ok (.ior, 1)) (K : gl_Ev l sc Mt (pc + 1) ls (.int (x ||| y) :: st) h z zy k n Q) : gl_Ev l sc Mt pc ls (.int y :: .int x :: st) h z zy k n Q := by
  intro base b D cI cB p e R s m args below meth c H locs cells slots A QW C W0 S0 hc hs hL fin
  exact lv_ior C.1 C.2.1 hd (K base b D cI cB p e R s m args below meth c H locs cells slots A QW C W0 S0 hc hs hL fin)
theorem gl_r_ishl {x y : Int32} (hd : decode Mt.2.1 pc = .ok (.ishl, 1)) (K : gl_Ev l sc Mt (pc + 1) ls (.int (x <<< (y &&& 31)) :: st) h z zy k n Q) : gl_Ev l sc Mt pc ls (.int y :: .int x :: st) h z zy k n Q := by
  intro base b D cI cB p e R s m args below meth c H locs cells slots A QW C W0 S0 hc hs hL fin
  exact lv_ishl C.1 C.2.1 hd (K base b D cI cB p e R s m args below meth c H locs cells slots A QW C W0 S0 hc hs hL fin)
theorem gl_r_ishr {x y : Int32} (hd : decode Mt.2.1 pc = .ok (.ishr, 1)) (K : gl_Ev l sc Mt (pc + 1) ls (.int (x >>> (y &&& 31)) :: st) h z zy k n Q) : gl_Ev l sc Mt pc ls (.int y :: .int x :: st) h z zy k n Q := by
  intro base b D cI cB p e R s m args below meth c H locs cells slots A QW C W0 S0 hc hs hL fin
  exact lv_ishr C.1 C.2.1 hd (K base b D cI cB p e R s m args below meth c H locs cells slots A QW C W0 S0 hc hs hL fin)
theorem gl_r_idiv {x y : Int32} (hy : ¬ y = 0) (hd : decode Mt.2.1 pc = .ok (.idiv, 1)) (K : gl_Ev l sc Mt (pc + 1) ls (.int (x / y) :: st) h z zy k n Q) : gl_Ev l sc Mt pc ls (.int y :: .int x :: st) h z zy k n Q := by
  intro base b D cI cB p e R s m args below meth c H locs cells slots A QW C W0 S0 hc hs hL fin
  exact lv_idiv C.1 C.2.1 hd hy (K base b D cI cB p e R s m args below meth c H locs cells slots A QW C W0 S0 hc hs hL fin)
theorem gl_r_irem {x y : Int32} (hy : ¬ y = 0) (hd : decode Mt.2.1 pc = .ok (.irem, 1)) (K : gl_Ev l sc Mt (pc + 1) ls (.int (x - x / y * y) :: st) h z zy k n Q) : gl_Ev l sc Mt pc ls (.int y :: .int x :: st) h z zy k n Q := by
  intro base b D cI cB p e R s m args below meth c H locs cells slots A QW C W0 S0 hc hs hL fin
  exact lv_irem C.1 C.2.1 hd hy (K base b D cI cB p e R s m args below meth c H locs cells slots A QW C W0 S0 hc hs hL fin)
theorem gl_r_dup {v : Value} (hv : gl_is v = true) (hd : decode Mt.2.1 pc = .ok (.dup, 1)) (K : gl_Ev l sc Mt (pc + 1) ls (v :: v :: st) h z zy k n Q) : gl_Ev l sc Mt pc ls (v :: st) h z zy k n Q := by
  intro base b D cI cB p e R s m args below meth c H locs cells slots A QW C W0 S0 hc hs hL fin
  exact lv_dup C.1 C.2.1 hd (gl_cat hv) (K base b D cI cB p e R s m args below meth c H locs cells slots A QW C W0 S0 hc hs hL fin)
theorem gl_r_pop {v : Value} (hv : gl_is v = true) (hd : decode Mt.2.1 pc = .ok (.pop, 1)) (K : gl_Ev l sc Mt (pc + 1) ls st h z zy k n Q) : gl_Ev l sc Mt pc ls (v :: st) h z zy k n Q := by
  intro base b D cI cB p e R s m args below meth c H locs cells slots A QW C W0 S0 hc hs hL fin
  exact lv_pop C.1 C.2.1 hd (gl_cat hv) (K base b D cI cB p e R s m args below meth c H locs cells slots A QW C W0 S0 hc hs hL fin)
theorem gl_r_dup2 {v w : Value} (hv : gl_is v = true) (hw : gl_is w = true) (hd : decode Mt.2.1 pc = .ok (.dup2, 1)) (K : gl_Ev l sc Mt (pc + 1) ls (v :: w :: v :: w :: st) h z zy k n Q) : gl_Ev l sc Mt pc ls (v :: w :: st) h z zy k n Q := by
  intro base b D cI cB p e R s m args below meth c H locs cells slots A QW C W0 S0 hc hs hL fin
  exact lv_dup2_11 C.1 C.2.1 hd (gl_cat hv) (gl_cat hw) (K base b D cI cB p e R s m args below meth c H locs cells slots A QW C W0 S0 hc hs hL fin)
theorem gl_r_goto0 (hd : decode Mt.2.1 pc = .ok (.goto 3, 3)) (K : gl_Ev l sc Mt (pc + 3) ls st h z zy k n Q) : gl_Ev l sc Mt pc ls st h z zy k n Q := by
  intro base b D cI cB p e R s m args below meth c H locs cells slots A QW C W0 S0 hc hs hL fin
  exact lv_goto C.1 C.2.1 hd (by simp) (K base b D cI cB p e R s m args below meth c H locs cells slots A QW C W0 S0 hc hs hL fin)
theorem gl_r_goto {a : Int} {t : Nat} (ht : (pc : Int) + a = (t : Int)) (hd : decode Mt.2.1 pc = .ok (.goto a, 3)) (K : gl_Ev l sc Mt t ls st h z zy k n Q) : gl_Ev l sc Mt pc ls st h z zy k n Q := by
  intro base b D cI cB p e R s m args below meth c H locs cells slots A QW C W0 S0 hc hs hL fin
  exact lv_goto C.1 C.2.1 hd ht (K base b D cI cB p e R s m args below meth c H locs cells slots A QW C W0 S0 hc hs hL fin)
theorem gl_r_icmp_eq {a : Int} {t : Nat} {x y : Int32} (ht : (pc : Int) + a = (t : Int)) (hd : decode Mt.2.1 pc = .ok (.if_icmp .eq a, 3)) (Kt : x = y → gl_Ev l sc Mt t ls st h z zy k n Q) (Kf : ¬ x = y → gl_Ev l sc Mt (pc + 3) ls st h z zy k n Q) : gl_Ev l sc Mt pc ls (.int y :: .int x :: st) h z zy k n Q := by
  intro base b D cI cB p e R s m args below meth c H locs cells slots A QW C W0 S0 hc hs hL fin
  exact lv_icmp_eq C.1 C.2.1 hd ht (fun q => Kt q base b D cI cB p e R s m args below meth c H locs cells slots A QW C W0 S0 hc hs hL fin) (fun q => Kf q base b D cI cB p e R s m args below meth c H locs cells slots A QW C W0 S0 hc hs hL fin)
theorem gl_r_if_eq {a : Int} {t : Nat} {x : Int32} (ht : (pc : Int) + a = (t : Int)) (hd : decode Mt.2.1 pc = .ok (.ifCond .eq a, 3)) (Kt : x = 0 → gl_Ev l sc Mt t ls st h z zy k n Q) (Kf : ¬ x = 0 → gl_Ev l sc Mt (pc + 3) ls st h z zy k n Q) : gl_Ev l sc Mt pc ls (.int x :: st) h z zy k n Q := by
  intro base b D cI cB p e R s m args below meth c H locs cells slots A QW C W0 S0 hc hs hL fin
  exact lv_if_eq C.1 C.2.1 hd ht (fun q => Kt q base b D cI cB p e R s m args below meth c H locs cells slots A QW C W0 S0 hc hs hL fin) (fun q => Kf q base b D cI cB p e R s m args below meth c H locs cells slots A QW C W0 S0 hc hs hL fin)
theorem gl_r_icmp_ne {a : Int} {t : Nat} {x y : Int32} (ht : (pc : Int) + a = (t : Int)) (hd : decode Mt.2.1 pc = .ok (.if_icmp .ne a, 3)) (Kt : ¬ x = y → gl_Ev l sc Mt t ls st h z zy k n Q) (Kf : x = y → gl_Ev l sc Mt (pc + 3) ls st h z zy k n Q) : gl_Ev l sc Mt pc ls (.int y :: .int x :: st) h z zy k n Q := by
  intro base b D cI cB p e R s m args below meth c H locs cells slots A QW C W0 S0 hc hs hL fin
  exact lv_icmp_ne C.1 C.2.1 hd ht (fun q => Kt q base b D cI cB p e R s m args below meth c H locs cells slots A QW C W0 S0 hc hs hL fin) (fun q => Kf q base b D cI cB p e R s m args below meth c H locs cells slots A QW C W0 S0 hc hs hL fin)
theorem gl_r_if_ne {a : Int} {t : Nat} {x : Int32} (ht : (pc : Int) + a = (t : Int)) (hd : decode Mt.2.1 pc = .ok (.ifCond .ne a, 3)) (Kt : ¬ x = 0 → gl_Ev l sc Mt t ls st h z zy k n Q) (Kf : x = 0 → gl_Ev l sc Mt (pc + 3) ls st h z zy k n Q) : gl_Ev l sc Mt pc ls (.int x :: st) h z zy k n Q := by
  intro base b D cI cB p e R s m args below meth c H locs cells slots A QW C W0 S0 hc hs hL fin
  exact lv_if_ne C.1 C.2.1 hd ht (fun q => Kt q base b D cI cB p e R s m args below meth c H locs cells slots A QW C W0 S0 hc hs hL fin) (fun q => Kf q base b D cI cB p e R s m args below meth c H locs cells slots A QW C W0 S0 hc hs hL fin)
theorem gl_r_icmp_lt {a : Int} {t : Nat} {x y : Int32} (ht : (pc : Int) + a = (t : Int)) (hd : decode Mt.2.1 pc = .ok (.if_icmp .lt a, 3)) (Kt : x < y → gl_Ev l sc Mt t ls st h z zy k n Q) (Kf : ¬ x < y → gl_Ev l sc Mt (pc + 3) ls st h z zy k n Q) : gl_Ev l sc Mt pc ls (.int y :: .int x :: st) h z zy k n Q := by
  intro base b D cI cB p e R s m args below meth c H locs cells slots A QW C W0 S0 hc hs hL fin
  exact lv_icmp_lt C.1 C.2.1 hd ht (fun q => Kt q base b D cI cB p e R s m args below meth c H locs cells slots A QW C W0 S0 hc hs hL fin) (fun q => Kf q base b D cI cB p e R s m args below meth c H locs cells slots A QW C W0 S0 hc hs hL fin)
theorem gl_r_if_lt {a : Int} {t : Nat} {x : Int32} (ht : (pc : Int) + a = (t : Int)) (hd : decode Mt.2.1 pc = .ok (.ifCond .lt a, 3)) (Kt : x < 0 → gl_Ev l sc Mt t ls st h z zy k n Q) (Kf : ¬ x < 0 → gl_Ev l sc Mt (pc + 3) ls st h z zy k n Q) : gl_Ev l sc Mt pc ls (.int x :: st) h z zy k n Q := by
  intro base b D cI cB p e R s m args below meth c H locs cells slots A QW C W0 S0 hc hs hL fin
  exact lv_if_lt C.1 C.2.1 hd ht (fun q => Kt q base b D cI cB p e R s m args below meth c H locs cells slots A QW C W0 S0 hc hs hL fin) (fun q => Kf q base b D cI cB p e R s m args below meth c H locs cells slots A QW C W0 S0 hc hs hL fin)
theorem gl_r_icmp_ge {a : Int} {t : Nat} {x y : Int32} (ht : (pc : Int) + a = (t : Int)) (hd : decode Mt.2.1 pc = .ok (.if_icmp .ge a, 3)) (Kt : y ≤ x → gl_Ev l sc Mt t ls st h z zy k n Q) (Kf : ¬ y ≤ x → gl_Ev l sc Mt (pc + 3) ls st h z zy k n Q) : gl_Ev l sc Mt pc ls (.int y :: .int x :: st) h z zy k n Q := by
  intro base b D cI cB p e R s m args below meth c H locs cells slots A QW C W0 S0 hc hs hL fin
  exact lv_icmp_ge C.1 C.2.1 hd ht (fun q => Kt q base b D cI cB p e R s m args below meth c H locs cells slots A QW C W0 S0 hc hs hL fin) (fun q => Kf q base b D cI cB p e R s m args below meth c H locs cells slots A QW C W0 S0 hc hs hL fin)
theorem gl_r_if_ge {a : Int} {t : Nat} {x : Int32} (ht : (pc : Int) + a = (t : Int)) (hd : decode Mt.2.1 pc = .ok (.ifCond .ge a, 3)) (Kt : 0 ≤ x → gl_Ev l sc Mt t ls st h z zy k n Q) (Kf : ¬ 0 ≤ x → gl_Ev l sc Mt (pc + 3) ls st h z zy k n Q) : gl_Ev l sc Mt pc ls (.int x :: st) h z zy k n Q := by
  intro base b D cI cB p e R s m args below meth c H locs cells slots A QW C W0 S0 hc hs hL fin
  exact lv_if_ge C.1 C.2.1 hd ht (fun q => Kt q base b D cI cB p e R s m args below meth c H locs cells slots A QW C W0 S0 hc hs hL fin) (fun q => Kf q base b D cI cB p e R s m args below meth c H locs cells slots A QW C W0 S0 hc hs hL fin)
theorem gl_r_icmp_gt {a : Int} {t : Nat} {x y : Int32} (ht : (pc : Int) + a = (t : Int)) (hd : decode Mt.2.1 pc = .ok (.if_icmp .gt a, 3)) (Kt : y < x → gl_Ev l sc Mt t ls st h z zy k n Q) (Kf : ¬ y < x → gl_Ev l sc Mt (pc + 3) ls st h z zy k n Q) : gl_Ev l sc Mt pc ls (.int y :: .int x :: st) h z zy k n Q := by
  intro base b D cI cB p e R s m args below meth c H locs cells slots A QW C W0 S0 hc hs hL fin
  exact lv_icmp_gt C.1 C.2.1 hd ht (fun q => Kt q base b D cI cB p e R s m args below meth c H locs cells slots A QW C W0 S0 hc hs hL fin) (fun q => Kf q base b D cI cB p e R s m args below meth c H locs cells slots A QW C W0 S0 hc hs hL fin)
theorem gl_r_if_gt {a : Int} {t : Nat} {x : Int32} (ht : (pc : Int) + a = (t : Int)) (hd : decode Mt.2.1 pc = .ok (.ifCond .gt a, 3)) (Kt : 0 < x → gl_Ev l sc Mt t ls st h z zy k n Q) (Kf : ¬ 0 < x → gl_Ev l sc Mt (pc + 3) ls st h z zy k n Q) : gl_Ev l sc Mt pc ls (.int x :: st) h z zy k n Q := by
  intro base b D cI cB p e R s m args below meth c H locs cells slots A QW C W0 S0 hc hs hL fin
  exact lv_if_gt C.1 C.2.1 hd ht (fun q => Kt q base b D cI cB p e R s m args below meth c H locs cells slots A QW C W0 S0 hc hs hL fin) (fun q => Kf q base b D cI cB p e R s m args below meth c H locs cells slots A QW C W0 S0 hc hs hL fin)
theorem gl_r_icmp_le {a : Int} {t : Nat} {x y : Int32} (ht : (pc : Int) + a = (t : Int)) (hd : decode Mt.2.1 pc = .ok (.if_icmp .le a, 3)) (Kt : x ≤ y → gl_Ev l sc Mt t ls st h z zy k n Q) (Kf : ¬ x ≤ y → gl_Ev l sc Mt (pc + 3) ls st h z zy k n Q) : gl_Ev l sc Mt pc ls (.int y :: .int x :: st) h z zy k n Q := by
  intro base b D cI cB p e R s m args below meth c H locs cells slots A QW C W0 S0 hc hs hL fin
  exact lv_icmp_le C.1 C.2.1 hd ht (fun q => Kt q base b D cI cB p e R s m args below meth c H locs cells slots A QW C W0 S0 hc hs hL fin) (fun q => Kf q base b D cI cB p e R s m args below meth c H locs cells slots A QW C W0 S0 hc hs hL fin)
theorem gl_r_if_le {a : Int} {t : Nat} {x : Int32} (ht : (pc : Int) + a = (t : Int)) (hd : decode Mt.2.1 pc = .ok (.ifCond .le a, 3)) (Kt : x ≤ 0 → gl_Ev l sc Mt t ls st h z zy k n Q) (Kf : ¬ x ≤ 0 → gl_Ev l sc Mt (pc + 3) ls st h z zy k n Q) : gl_Ev l sc Mt pc ls (.int x :: st) h z zy k n Q := by
  intro base b D cI cB p e R s m args below meth c H locs cells slots A QW C W0 S0 hc hs hL fin
  exact lv_if_le C.1 C.2.1 hd ht (fun q => Kt q base b D cI cB p e R s m args below meth c H locs cells slots A QW C W0 S0 hc hs hL fin) (fun q => Kf q base b D cI cB p e R s m args below meth c H locs cells slots A QW C W0 S0 hc hs hL fin)
end GLR

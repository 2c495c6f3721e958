theorem gl_w_ai : Cond.arrayClass .int ∈ gl_tb := List.mem_of_getElem? (i := 127) (by decide +kernel)
theorem gl_w_az : Cond.arrayClass .boolean ∈ gl_tb := List.mem_of_getElem? (i := 316) (by decide +kernel)
theorem gl_w_ms : Cond.static Lib.Math.min.name ∈ gl_tb := List.mem_of_getElem? (i := 458) (by decide +kernel)
theorem gl_w_mi : Cond.initialized "java/lang/Math" ∈ gl_tb := List.mem_of_getElem? (i := 102) (by decide +kernel)
theorem gl_w_mc : Cond.code Lib.Math.min.name Lib.Math.min.code 2 (some .int) ∈ gl_tb := List.mem_of_getElem? (i := 459) (by decide +kernel)
theorem gl_w_cn : Cond.native arraycopyName ∈ gl_tb := List.mem_of_getElem? (i := 462) (by decide +kernel)
theorem gl_w_cs : Cond.static arraycopyName ∈ gl_tb := List.mem_of_getElem? (i := 461) (by decide +kernel)
theorem gl_w_ci : Cond.initialized "java/lang/System" ∈ gl_tb := List.mem_of_getElem? (i := 103) (by decide +kernel)
theorem gl_w_oi : Cond.instanceMethod Lib.objectInit ∈ gl_tb := List.mem_of_getElem? (i := 110) (by decide +kernel)
theorem gl_w_oc : Cond.code Lib.objectInit ⟨#[0xb1]⟩ 1 none ∈ gl_tb := List.mem_of_getElem? (i := 111) (by decide +kernel)
section GLX
variable {μ : Type} {I : gl_I μ} {emb : μ → List gl_E} {mn : List MethodName} {l : Launch} {sc : Nat × (Nat → Int32)} {Mt : gl_M} {pc : Nat} {ls st ls' st' : List Value} {m m' : μ} {z zy : Bool} {k n k' n' : Nat} {Q : Option Value → List gl_E → Prop} {Ps : List Prop}
theorem gl_step (hI : gl_law I emb) (o : gl_O) (hok : gl_ok1 mn Mt (pc, o) = true) (hx : gl_x1 I sc z o ls st m k n = some (Ps, ls', st', m', k', n')) (hP : ∀ p ∈ Ps, p) (K : gl_Ev l sc Mt (pc + gl_len o.1) ls' st' (emb m') z zy k' n' Q) : gl_Ev l sc Mt pc ls st (emb m) z zy k n Q := by
  obtain ⟨hI1, hI2, hI3, hI4, hI5⟩ := hI
  obtain ⟨i, x, y, w, c⟩ := o
  have hd := of_decide_eq_true ((Bool.and_eq_true _ _).mp hok).1
  have hr := ((Bool.and_eq_true _ _).mp hok).2
  dsimp only at hd K hr
  cases i with
  | iconst a =>
    simp only [gl_x1] at hx
    cases hx
    have e := of_decide_eq_true hr
    dsimp only at e
    have K2 := K
    rw [← e] at K2
    exact gl_r_iconst hd K2
  | bipush a =>
    simp only [gl_x1] at hx
    cases hx
    have e := of_decide_eq_true hr
    dsimp only at e
    have K2 := K
    rw [← e] at K2
    exact gl_r_bipush hd K2
  | sipush a =>
    simp only [gl_x1] at hx
    cases hx
    have e := of_decide_eq_true hr
    dsimp only at e
    have K2 := K
    rw [← e] at K2
    exact gl_r_sipush hd K2
  | ldc a =>
    simp only [gl_x1] at hx
    cases hx
    exact gl_r_ldc (List.mem_of_getElem? (of_decide_eq_true hr)) hd K
  | iload i =>
    simp only [gl_x1] at hx
    split at hx
    · cases hx; exact gl_r_iload (by assumption) hd K
    · cases hx
  | iload_n i =>
    simp only [gl_x1] at hx
    split at hx
    · cases hx; exact gl_r_iload_n (by assumption) hd K
    · cases hx
  | aload i =>
    simp only [gl_x1] at hx
    split at hx
    · cases hx; exact gl_r_aload (by assumption) hd K
    · cases hx
  | aload_n i =>
    simp only [gl_x1] at hx
    split at hx
    · cases hx; exact gl_r_aload_n (by assumption) hd K
    · cases hx; exact gl_r_sload_n (by assumption) hd K
    · cases hx
  | istore i =>
    simp only [gl_x1] at hx
    split at hx
    · split at hx
      · cases hx; exact gl_r_istore (by assumption) hd K
      · cases hx
    · cases hx
  | istore_n i =>
    simp only [gl_x1] at hx
    split at hx
    · split at hx
      · cases hx; exact gl_r_istore_n (by assumption) hd K
      · cases hx
    · cases hx
  | astore_n i =>
    simp only [gl_x1] at hx
    split at hx
    · split at hx
      · cases hx; exact gl_r_astore_n (by assumption) hd K
      · cases hx
    · cases hx
  | iinc i a =>
    simp only [gl_x1] at hx
    split at hx
    · cases hx
      have e := of_decide_eq_true hr
      dsimp only at e
      have K2 := K
      rw [← e] at K2
      exact gl_r_iinc (by assumption) hd K2
    · cases hx
  | iadd =>
    simp only [gl_x1] at hx
    split at hx
    · cases hx; exact gl_r_iadd hd K
    · cases hx
  | isub =>
    simp only [gl_x1] at hx
    split at hx
    · cases hx; exact gl_r_isub hd K
    · cases hx
  | imul =>
    simp only [gl_x1] at hx
    split at hx
    · cases hx; exact gl_r_imul hd K
    · cases hx
  | iand =>
    simp only [gl_x1] at hx
    split at hx
    · cases hx; exact gl_r_iand hd K
    · cases hx
  | ior =>
    simp only [gl_x1] at hx
    split at hx
    · cases hx; exact gl_r_ior hd K
    · cases hx
  | ishl =>
    simp only [gl_x1] at hx
    split at hx
    · cases hx; exact gl_r_ishl hd K
    · cases hx
  | ishr =>
    simp only [gl_x1] at hx
    split at hx
    · cases hx; exact gl_r_ishr hd K
    · cases hx
  | idiv =>
    simp only [gl_x1] at hx
    split at hx
    · cases hx; exact gl_r_idiv (hP _ List.mem_cons_self) hd K
    · cases hx
  | irem =>
    simp only [gl_x1] at hx
    split at hx
    · cases hx; exact gl_r_irem (hP _ List.mem_cons_self) hd K
    · cases hx
  | dup =>
    simp only [gl_x1] at hx
    split at hx
    · cases hx; exact gl_r_dup rfl hd K
    · cases hx; exact gl_r_dup rfl hd K
    · cases hx
  | pop =>
    simp only [gl_x1] at hx
    split at hx
    · cases hx; exact gl_r_pop rfl hd K
    · cases hx; exact gl_r_pop rfl hd K
    · cases hx
  | dup2 =>
    simp only [gl_x1] at hx
    split at hx
    · cases hx; exact gl_r_dup2 rfl rfl hd K
    · cases hx
  | getfield a =>
    simp only [gl_x1] at hx
    split at hx
    · split at hx
      · cases hx
        rename_i v hv
        obtain ⟨fs, h1, h2⟩ := hI1 _ _ _ _ _ hv
        simp only [gl_res] at hr
        split at hr
        · rename_i q hq
          have hr2 := (Bool.and_eq_true _ _).mp hr
          exact gl_r_get hq (of_decide_eq_true hr2.1) (gl_fl_of hr2.2) h1 h2 hd K
        · cases hr
      · cases hx
    · cases hx
  | putfield a =>
    simp only [gl_x1] at hx
    split at hx
    · split at hx
      · split at hx
        · cases hx
          rename_i hty m2 hv
          obtain ⟨fs, h1, h2, h3⟩ := hI2 _ _ _ _ _ _ hv
          simp only [gl_res] at hr
          split at hr
          · rename_i q hq
            obtain ⟨hr1, hr2⟩ := (Bool.and_eq_true _ _).mp hr
            have hr1 := of_decide_eq_true hr1
            obtain ⟨hk1, hk2, -⟩ := gl_okc_ty _ _ hq
            refine gl_r_put hq hr1 (gl_fl_of (o := (.putfield a, x, y, w, c)) ?_) ?_ h1 h2 (fun ty ht => ?_) hd (by rw [← h3]; exact K)
            · rcases (Bool.or_eq_true _ _).mp hr2 with h | h
              · rw [((Bool.and_eq_true _ _).mp h).1]; rfl
              · rw [((Bool.and_eq_true _ _).mp h).1, Bool.or_true]
            · rcases (Bool.or_eq_true _ _).mp hr2 with h | h
              · obtain ⟨g1, g2⟩ := (Bool.and_eq_true _ _).mp h
                rcases (Bool.or_eq_true _ _).mp g2 with g3 | g3
                · exact Or.inl (of_decide_eq_true g3)
                · obtain ⟨g4, g5⟩ := (Bool.and_eq_true _ _).mp g3
                  exact Or.inr ⟨List.mem_of_getElem? (of_decide_eq_true g1), of_decide_eq_true g4, of_decide_eq_true g5⟩
              · exact Or.inl (of_decide_eq_true ((Bool.and_eq_true _ _).mp h).2)
            · have e2 : ty = gl_Y (gl_dts.getD x []) y := Option.some.inj (ht.symm.trans (hk2 _ hr1))
              have e3 : gl_Y (gl_dts.getD x []) y = _ := hty
              rw [e2, e3]
              exact Or.inl ⟨rfl, _, rfl⟩
          · cases hr
        · cases hx
      · split at hx
        · cases hx
          rename_i hty m2 hv
          obtain ⟨fs, h1, h2, h3⟩ := hI2 _ _ _ _ _ _ hv
          simp only [gl_res] at hr
          split at hr
          · rename_i q hq
            obtain ⟨hr1, hr2⟩ := (Bool.and_eq_true _ _).mp hr
            have hr1 := of_decide_eq_true hr1
            obtain ⟨hk1, hk2, -⟩ := gl_okc_ty _ _ hq
            refine gl_r_put hq hr1 (gl_fl_of (o := (.putfield a, x, y, w, c)) ?_) ?_ h1 h2 (fun ty ht => ?_) hd (by rw [← h3]; exact K)
            · rcases (Bool.or_eq_true _ _).mp hr2 with h | h
              · rw [((Bool.and_eq_true _ _).mp h).1]; rfl
              · rw [((Bool.and_eq_true _ _).mp h).1, Bool.or_true]
            · rcases (Bool.or_eq_true _ _).mp hr2 with h | h
              · obtain ⟨g1, g2⟩ := (Bool.and_eq_true _ _).mp h
                rcases (Bool.or_eq_true _ _).mp g2 with g3 | g3
                · exact Or.inl (of_decide_eq_true g3)
                · obtain ⟨g4, g5⟩ := (Bool.and_eq_true _ _).mp g3
                  exact Or.inr ⟨List.mem_of_getElem? (of_decide_eq_true g1), of_decide_eq_true g4, of_decide_eq_true g5⟩
              · exact Or.inl (of_decide_eq_true ((Bool.and_eq_true _ _).mp h).2)
            · have e2 : ty = gl_Y (gl_dts.getD x []) y := Option.some.inj (ht.symm.trans (hk2 _ hr1))
              have e3 : gl_Y (gl_dts.getD x []) y = _ := hty
              rw [e2, e3]
              exact Or.inr (Or.inl ⟨rfl, _, rfl, hP _ List.mem_cons_self⟩)
          · cases hr
        · cases hx
      · cases hx
    · split at hx
      · split at hx
        · cases hx
          rename_i hty m2 hv
          obtain ⟨fs, h1, h2, h3⟩ := hI2 _ _ _ _ _ _ hv
          simp only [gl_res] at hr
          split at hr
          · rename_i q hq
            obtain ⟨hr1, hr2⟩ := (Bool.and_eq_true _ _).mp hr
            have hr1 := of_decide_eq_true hr1
            obtain ⟨hk1, hk2, -⟩ := gl_okc_ty _ _ hq
            refine gl_r_put hq hr1 (gl_fl_of (o := (.putfield a, x, y, w, c)) ?_) ?_ h1 h2 (fun ty ht => ?_) hd (by rw [← h3]; exact K)
            · rcases (Bool.or_eq_true _ _).mp hr2 with h | h
              · rw [((Bool.and_eq_true _ _).mp h).1]; rfl
              · rw [((Bool.and_eq_true _ _).mp h).1, Bool.or_true]
            · rcases (Bool.or_eq_true _ _).mp hr2 with h | h
              · obtain ⟨g1, g2⟩ := (Bool.and_eq_true _ _).mp h
                rcases (Bool.or_eq_true _ _).mp g2 with g3 | g3
                · exact Or.inl (of_decide_eq_true g3)
                · obtain ⟨g4, g5⟩ := (Bool.and_eq_true _ _).mp g3
                  exact Or.inr ⟨List.mem_of_getElem? (of_decide_eq_true g1), of_decide_eq_true g4, of_decide_eq_true g5⟩
              · exact Or.inl (of_decide_eq_true ((Bool.and_eq_true _ _).mp h).2)
            · have e2 : ty = gl_Y (gl_dts.getD x []) y := Option.some.inj (ht.symm.trans (hk2 _ hr1))
              have e3 : gl_Y (gl_dts.getD x []) y = _ := hty
              rw [e2, e3]
              exact Or.inr (Or.inr ⟨Or.inl ⟨_, rfl⟩, _, rfl⟩)
          · cases hr
        · cases hx
      · split at hx
        · cases hx
          rename_i hty m2 hv
          obtain ⟨fs, h1, h2, h3⟩ := hI2 _ _ _ _ _ _ hv
          simp only [gl_res] at hr
          split at hr
          · rename_i q hq
            obtain ⟨hr1, hr2⟩ := (Bool.and_eq_true _ _).mp hr
            have hr1 := of_decide_eq_true hr1
            obtain ⟨hk1, hk2, -⟩ := gl_okc_ty _ _ hq
            refine gl_r_put hq hr1 (gl_fl_of (o := (.putfield a, x, y, w, c)) ?_) ?_ h1 h2 (fun ty ht => ?_) hd (by rw [← h3]; exact K)
            · rcases (Bool.or_eq_true _ _).mp hr2 with h | h
              · rw [((Bool.and_eq_true _ _).mp h).1]; rfl
              · rw [((Bool.and_eq_true _ _).mp h).1, Bool.or_true]
            · rcases (Bool.or_eq_true _ _).mp hr2 with h | h
              · obtain ⟨g1, g2⟩ := (Bool.and_eq_true _ _).mp h
                rcases (Bool.or_eq_true _ _).mp g2 with g3 | g3
                · exact Or.inl (of_decide_eq_true g3)
                · obtain ⟨g4, g5⟩ := (Bool.and_eq_true _ _).mp g3
                  exact Or.inr ⟨List.mem_of_getElem? (of_decide_eq_true g1), of_decide_eq_true g4, of_decide_eq_true g5⟩
              · exact Or.inl (of_decide_eq_true ((Bool.and_eq_true _ _).mp h).2)
            · have e2 : ty = gl_Y (gl_dts.getD x []) y := Option.some.inj (ht.symm.trans (hk2 _ hr1))
              have e3 : gl_Y (gl_dts.getD x []) y = _ := hty
              rw [e2, e3]
              exact Or.inr (Or.inr ⟨Or.inr ⟨_, rfl⟩, _, rfl⟩)
          · cases hr
        · cases hx
      · cases hx
    · cases hx
  | iaload =>
    simp only [gl_x1] at hx
    split at hx
    · split at hx
      · cases hx
        rename_i hv
        exact gl_r_iald (hI3 _ _ _ hv) (hP _ List.mem_cons_self) hd K
      · cases hx
    · cases hx
      exact gl_r_sald (hP _ List.mem_cons_self) hd K
    · cases hx
  | baload =>
    simp only [gl_x1] at hx
    split at hx
    · split at hx
      · cases hx
        rename_i hv
        exact gl_r_zald (hI3 _ _ _ hv) (hP _ List.mem_cons_self) hd K
      · cases hx
    · cases hx
  | iastore =>
    simp only [gl_x1] at hx
    split at hx
    · split at hx
      · cases hx
        rename_i hv
        exact gl_r_iast (hI3 _ _ _ hv) (hP _ List.mem_cons_self) hd (by rw [← hI4 _ _ _ _ hv]; exact K)
      · cases hx
    · cases hx
  | bastore =>
    simp only [gl_x1] at hx
    split at hx
    · cases hx
    · split at hx
      · split at hx
        · cases hx
          rename_i hv
          exact gl_r_zast rfl (hI3 _ _ _ hv) (hP _ List.mem_cons_self) hd (by rw [← hI4 _ _ _ _ hv]; exact K)
        · cases hx
      · cases hx
  | arraylength =>
    simp only [gl_x1] at hx
    split at hx
    · split at hx
      · cases hx
        rename_i hv
        exact gl_r_alen (hI3 _ _ _ hv) hd K
      · cases hx
    · cases hx
      exact gl_r_slen hd K
    · cases hx
  | invokestatic a =>
    simp only [gl_x1] at hx
    split at hx
    · cases hx
    · split at hx
      · split at hx
        · cases hx
          simp only [gl_res] at hr
          obtain ⟨hr1, hr2⟩ := (Bool.and_eq_true _ _).mp hr
          obtain ⟨hr1, hr3⟩ := (Bool.and_eq_true _ _).mp hr1
          have hr2 := of_decide_eq_true hr2
          exact gl_r_min (List.mem_of_getElem? (of_decide_eq_true hr1)) gl_w_ms gl_w_mi gl_w_mc (of_decide_eq_true hr3) (by omega) hd K
        · cases hx
      · cases hx
    · rename_i hx0 hx1
      split at hx
      · cases hx
      · split at hx
        · split at hx
          · split at hx
            · cases hx
              rename_i ha ha' _
              simp only [gl_res] at hr
              obtain ⟨hr1, hr2⟩ := (Bool.and_eq_true _ _).mp hr
              obtain ⟨hr1, hr3⟩ := (Bool.and_eq_true _ _).mp hr1
              have hr2 := of_decide_eq_true hr2
              have hP2 := (gl_all_iff _).mpr hP
              exact gl_r_copy rfl (List.mem_of_getElem? (of_decide_eq_true hr1)) gl_w_cn gl_w_cs gl_w_ci (hI3 _ _ _ ha) (hI3 _ _ _ ha') hP2.1 hP2.2.1 hP2.2.2.1 hP2.2.2.2.1 hP2.2.2.2.2 (of_decide_eq_true hr3) (by omega) hd (by rw [← hI4 _ _ _ _ ha']; exact K)
            · cases hx
          · cases hx
        · cases hx
  | invokespecial a =>
    simp only [gl_x1] at hx
    split at hx
    · split at hx
      · split at hx
        · cases hx
          simp only [gl_res] at hr
          obtain ⟨hr1, hr2⟩ := (Bool.and_eq_true _ _).mp hr
          obtain ⟨hr1, hr3⟩ := (Bool.and_eq_true _ _).mp hr1
          have hr2 := of_decide_eq_true hr2
          exact gl_r_obj (List.mem_of_getElem? (of_decide_eq_true hr1)) gl_w_oi gl_w_oc (of_decide_eq_true hr3) (by omega) hd K
        · cases hx
      · cases hx
    · cases hx
  | newarray t =>
    simp only [gl_x1] at hx
    split at hx
    · cases hx
    · split at hx
      · split at hx
        · split at hx
          · cases hx
            rename_i m2 hv
            obtain ⟨h1, h2⟩ := hI5 _ _ _ hv
            have hP2 := (gl_all_iff _).mpr hP
            rw [h2, h1] at K
            exact gl_r_newi gl_w_ai rfl hP2.1 rfl hP2.2.1 (by have h9 : 1 ≤ k := hP2.2.2.1; omega) (by have h9 : _ ≤ n := hP2.2.2.2; omega) hd K
          · cases hx
        · split at hx
          · cases hx
            rename_i m2 hv
            obtain ⟨h1, h2⟩ := hI5 _ _ _ hv
            have hP2 := (gl_all_iff _).mpr hP
            rw [h2, h1] at K
            exact gl_r_newz gl_w_az rfl hP2.1 rfl hP2.2.1 (by have h9 : 1 ≤ k := hP2.2.2.1; omega) (by have h9 : _ ≤ n := hP2.2.2.2; omega) hd K
          · cases hx
        · cases hx
      · cases hx
  | new a =>
    simp only [gl_x1] at hx
    split at hx
    · cases hx
    · split at hx
      · cases hx
        rename_i m2 hv
        obtain ⟨h1, h2⟩ := hI5 _ _ _ hv
        have hP2 := (gl_all_iff _).mpr hP
        rw [h2, h1] at K
        simp only [gl_res] at hr
        split at hr
        · rename_i q hq
          obtain ⟨e1, e2⟩ := gl_df_len _ _ hq
          obtain ⟨-, hk2, -⟩ := gl_okc_ty _ _ hq
          refine gl_r_new hq (List.mem_of_getElem? (of_decide_eq_true hr)) (fun j ty hj ht => ?_) rfl (by have h9 : 1 ≤ k := hP2.1; omega) (by have h9 : (gl_df x).length ≤ n := hP2.2; rw [← e1]; omega) hd K
          have e3 : ty = gl_Y (gl_dts.getD x []) j := Option.some.inj (ht.symm.trans (hk2 _ hj))
          rw [e3]
          obtain ⟨f1, f2⟩ := e2 j hj
          refine ⟨f1, fun base b => ?_⟩
          rcases f2 with f | f | ⟨c, f⟩ | ⟨t, f⟩ <;> rw [f] <;> rfl
        · cases hr
      · cases hx
  | _ => simp [gl_x1] at hx
theorem gl_run (hI : gl_law I emb) : ∀ (ops : List (Nat × gl_O)) (pc : Nat) (ls st : List Value) (m : μ) (k n : Nat) (Ps : List Prop) (pc' : Nat) (ls' st' : List Value) (m' : μ) (k' n' : Nat), (∀ q ∈ ops, gl_ok1 mn Mt q = true) → gl_X I sc z ops pc ls st m k n = some (Ps, pc', ls', st', m', k', n') → gl_all Ps → gl_Ev l sc Mt pc' ls' st' (emb m') z zy k' n' Q → gl_Ev l sc Mt pc ls st (emb m) z zy k n Q := by
  intro ops
  induction ops with
  | nil => intro pc ls st m k n Ps pc' ls' st' m' k' n' _ hx _ K; cases hx; exact K
  | cons o r ih =>
    intro pc ls st m k n Ps pc' ls' st' m' k' n' hok hx hP K
    simp only [gl_X] at hx
    split at hx
    · rename_i hpc
      split at hx
      · rename_i P1 l1 s1 m1 k1 n1 h1
        split at hx
        · rename_i P2 R h2
          cases hx
          have hP' := (gl_all_iff _).mp hP
          refine gl_step hI o.2 (by rw [← hpc]; exact hok o List.mem_cons_self) h1 (fun p hp => hP' p (List.mem_append_left _ hp)) ?_
          exact ih _ _ _ _ _ _ _ _ _ _ _ _ _ (fun q hq => hok q (List.mem_cons_of_mem _ hq)) h2 ((gl_all_iff _).mpr (fun p hp => hP' p (List.mem_append_right _ hp))) K
        · cases hx
      · cases hx
    · cases hx
end GLX

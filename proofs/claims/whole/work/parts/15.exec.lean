/-! THE EXECUTOR: straight rows of instructions, run over a memory that any interface I gives; what must hold on the way comes back as a list -/
abbrev gl_I (μ : Type) : Type := (μ → Nat → Nat → Nat → Option Value) × (μ → Nat → Nat → Nat → Value → Option μ) × (μ → Nat → Option (Bool × Nat × (Nat → Int32))) × (μ → Nat → (Nat → Int32) → μ) × (μ → Nat) × (μ → gl_E → Option μ)
def gl_law {μ : Type} (I : gl_I μ) (emb : μ → List gl_E) : Prop :=
  (∀ m o ci j v, I.1 m o ci j = some v → ∃ fs, (emb m)[o]? = some (.inr (ci, fs)) ∧ fs[j]? = some v) ∧
  (∀ m o ci j v m', I.2.1 m o ci j v = some m' → ∃ fs, (emb m)[o]? = some (.inr (ci, fs)) ∧ j < fs.length ∧ emb m' = (emb m).set o (.inr (ci, fs.set j v))) ∧
  (∀ m a x, I.2.2.1 m a = some x → (emb m)[a]? = some (.inl x)) ∧
  (∀ m a x g, I.2.2.1 m a = some x → emb (I.2.2.2.1 m a g) = (emb m).set a (.inl (x.1, x.2.1, g))) ∧
  (∀ m e m', I.2.2.2.2.2 m e = some m' → emb m' = emb m ++ [e] ∧ I.2.2.2.2.1 m = (emb m).length)
def gl_df (ci : Nat) : List Value := (gl_dts.getD ci []).map defaultValue
def gl_x1 {μ : Type} (I : gl_I μ) (sc : Nat × (Nat → Int32)) (z : Bool) (o : gl_O) (ls st : List Value) (m : μ) (k n : Nat) : Option (List Prop × List Value × List Value × μ × Nat × Nat) := match o.1 with
  | .iconst _ => some ([], ls, .int o.2.2.2.2 :: st, m, k, n)
  | .bipush _ => some ([], ls, .int o.2.2.2.2 :: st, m, k, n)
  | .sipush _ => some ([], ls, .int o.2.2.2.2 :: st, m, k, n)
  | .ldc _ => some ([], ls, .int o.2.2.2.2 :: st, m, k, n)
  | .iload i => match ls[i]? with
    | some (.int x) => some ([], ls, .int x :: st, m, k, n)
    | _ => none
  | .iload_n i => match ls[(i : Nat)]? with
    | some (.int x) => some ([], ls, .int x :: st, m, k, n)
    | _ => none
  | .aload i => match ls[i]? with
    | some (.ref x) => some ([], ls, .ref x :: st, m, k, n)
    | _ => none
  | .aload_n i => match ls[(i : Nat)]? with
    | some (.ref x) => some ([], ls, .ref x :: st, m, k, n)
    | some (.long x) => some ([], ls, .long x :: st, m, k, n)
    | _ => none
  | .istore i => match st with
    | .int x :: r => if i < ls.length then some ([], ls.set i (.int x), r, m, k, n) else none
    | _ => none
  | .istore_n i => match st with
    | .int x :: r => if (i : Nat) < ls.length then some ([], ls.set (i : Nat) (.int x), r, m, k, n) else none
    | _ => none
  | .astore_n i => match st with
    | .ref x :: r => if (i : Nat) < ls.length then some ([], ls.set (i : Nat) (.ref x), r, m, k, n) else none
    | _ => none
  | .iinc i _ => match ls[i]? with
    | some (.int x) => some ([], ls.set i (.int (x + o.2.2.2.2)), st, m, k, n)
    | _ => none
  | .iadd => match st with
    | .int y :: .int x :: r => some ([], ls, .int (x + y) :: r, m, k, n)
    | _ => none
  | .isub => match st with
    | .int y :: .int x :: r => some ([], ls, .int (x - y) :: r, m, k, n)
    | _ => none
  | .imul => match st with
    | .int y :: .int x :: r => some ([], ls, .int (x * y) :: r, m, k, n)
    | _ => none
  | .iand => match st with
    | .int y :: .int x :: r => some ([], ls, .int (x &&& y) :: r, m, k, n)
    | _ => none
  | .ior => match st with
    | .int y :: .int x :: r => some ([], ls, .int (x ||| y) :: r, m, k, n)
    | _ => none
  | .ishl => match st with
    | .int y :: .int x :: r => some ([], ls, .int (x <<< (y &&& 31)) :: r, m, k, n)
    | _ => none
  | .ishr => match st with
    | .int y :: .int x :: r => some ([], ls, .int (x >>> (y &&& 31)) :: r, m, k, n)
    | _ => none
  | .idiv => match st with
    | .int y :: .int x :: r => some ([¬ y = 0], ls, .int (x / y) :: r, m, k, n)
    | _ => none
  | .irem => match st with
    | .int y :: .int x :: r => some ([¬ y = 0], ls, .int (x - x / y * y) :: r, m, k, n)
    | _ => none
  | .dup => match st with
    | .int x :: r => some ([], ls, .int x :: .int x :: r, m, k, n)
    | .ref x :: r => some ([], ls, .ref x :: .ref x :: r, m, k, n)
    | _ => none
  | .pop => match st with
    | .int _ :: r => some ([], ls, r, m, k, n)
    | .ref _ :: r => some ([], ls, r, m, k, n)
    | _ => none
  | .dup2 => match st with
    | .int x :: .ref y :: r => some ([], ls, .int x :: .ref y :: .int x :: .ref y :: r, m, k, n)
    | _ => none
  | .getfield _ => match st with
    | .ref a :: r => match I.1 m a o.2.1 o.2.2.1 with
      | some v => some ([], ls, v :: r, m, k, n)
      | none => none
    | _ => none
  | .putfield _ => match st with
    | .int x :: .ref a :: r => match (gl_dts.getD o.2.1 []).getD o.2.2.1 .int with
      | .int => match I.2.1 m a o.2.1 o.2.2.1 (.int x) with
        | some m' => some ([], ls, r, m', k, n)
        | none => none
      | .boolean => match I.2.1 m a o.2.1 o.2.2.1 (.int x) with
        | some m' => some ([x = 0 ∨ x = 1], ls, r, m', k, n)
        | none => none
      | _ => none
    | .ref x :: .ref a :: r => match (gl_dts.getD o.2.1 []).getD o.2.2.1 .int with
      | .object _ => match I.2.1 m a o.2.1 o.2.2.1 (.ref x) with
        | some m' => some ([], ls, r, m', k, n)
        | none => none
      | .array _ => match I.2.1 m a o.2.1 o.2.2.1 (.ref x) with
        | some m' => some ([], ls, r, m', k, n)
        | none => none
      | _ => none
    | _ => none
  | .iaload => match st with
    | .int i :: .ref a :: r => match I.2.2.1 m a with
      | some (false, nn, f) => some ([vp_in i nn], ls, .int (f i.toNatClampNeg) :: r, m, k, n)
      | _ => none
    | .int i :: .long _ :: r => some ([vp_in i sc.1], ls, .int (sc.2 i.toNatClampNeg) :: r, m, k, n)
    | _ => none
  | .baload => match st with
    | .int i :: .ref a :: r => match I.2.2.1 m a with
      | some (true, nn, f) => some ([vp_in i nn], ls, .int (f i.toNatClampNeg) :: r, m, k, n)
      | _ => none
    | _ => none
  | .iastore => match st with
    | .int x :: .int i :: .ref a :: r => match I.2.2.1 m a with
      | some (false, nn, f) => some ([vp_in i nn], ls, r, I.2.2.2.1 m a (upd f i.toNatClampNeg x), k, n)
      | _ => none
    | _ => none
  | .bastore => match z with
    | true => none
    | false => match st with
      | .int x :: .int i :: .ref a :: r => match I.2.2.1 m a with
        | some (true, nn, f) => some ([vp_in i nn], ls, r, I.2.2.2.1 m a (upd f i.toNatClampNeg (vp_nar .boolean x)), k, n)
        | _ => none
      | _ => none
  | .arraylength => match st with
    | .ref a :: r => match I.2.2.1 m a with
      | some (_, nn, _) => some ([], ls, .int (Int32.ofNat nn) :: r, m, k, n)
      | _ => none
    | .long _ :: r => some ([], ls, .int (Int32.ofNat sc.1) :: r, m, k, n)
    | _ => none
  | .invokestatic _ => match o.2.1 with
    | 0 => none
    | 1 => match st with
      | .int y :: .int x :: r => if r.length ≤ 4 then some ([], ls, .int (if y < x then y else x) :: r, m, k, n) else none
      | _ => none
    | _ => match z with
      | true => none
      | false => match st with
        | .int cn :: .int dp :: .ref a' :: .int sp :: .ref a :: r => match I.2.2.1 m a, I.2.2.1 m a' with
          | some (false, nn, f), some (false, nn', g) => if r.length ≤ 4 then some ([¬ sp < 0, ¬ dp < 0, ¬ cn < 0, sp.toNatClampNeg + cn.toNatClampNeg ≤ nn, dp.toNatClampNeg + cn.toNatClampNeg ≤ nn'], ls, r, I.2.2.2.1 m a' (va_cpy f g sp.toNatClampNeg dp.toNatClampNeg cn.toNatClampNeg), k, n) else none
          | _, _ => none
        | _ => none
  | .invokespecial _ => match o.2.1 with
    | 3 => match st with
      | .ref _ :: r => if r.length ≤ 4 then some ([], ls, r, m, k, n) else none
      | _ => none
    | _ => none
  | .newarray t => match z with
    | false => none
    | true => match st with
      | .int i :: r => match t with
        | .int => match I.2.2.2.2.2 m (.inl (false, i.toNatClampNeg, fun _ => 0)) with
          | some m' => some ([¬ i < 0, i.toNatClampNeg ≤ 65536, 1 ≤ k, i.toNatClampNeg ≤ n], ls, .ref (I.2.2.2.2.1 m) :: r, m', k - 1, n - i.toNatClampNeg)
          | none => none
        | .boolean => match I.2.2.2.2.2 m (.inl (true, i.toNatClampNeg, fun _ => 0)) with
          | some m' => some ([¬ i < 0, i.toNatClampNeg ≤ 65536, 1 ≤ k, i.toNatClampNeg ≤ n], ls, .ref (I.2.2.2.2.1 m) :: r, m', k - 1, n - i.toNatClampNeg)
          | none => none
        | _ => none
      | _ => none
  | .new _ => match z with
    | false => none
    | true => match I.2.2.2.2.2 m (.inr (o.2.1, gl_df o.2.1)) with
      | some m' => some ([1 ≤ k, (gl_df o.2.1).length ≤ n], ls, .ref (I.2.2.2.2.1 m) :: st, m', k - 1, n - (gl_df o.2.1).length)
      | none => none
  | _ => none
def gl_all : List Prop → Prop
  | [] => True
  | [p] => p
  | p :: q :: r => p ∧ gl_all (q :: r)
theorem gl_all_iff : ∀ (l : List Prop), gl_all l ↔ ∀ p ∈ l, p := by
  intro l
  induction l with
  | nil => exact ⟨fun _ p hp => absurd hp List.not_mem_nil, fun _ => trivial⟩
  | cons p r ih =>
    cases r with
    | nil => exact ⟨fun h q hq => by rw [List.mem_singleton.mp hq]; exact h, fun h => h p List.mem_cons_self⟩
    | cons q r => exact ⟨fun h => List.forall_mem_cons.mpr ⟨h.1, ih.mp h.2⟩, fun h => ⟨h p List.mem_cons_self, ih.mpr (fun x hx => h x (List.mem_cons_of_mem _ hx))⟩⟩
/-- the rows, one behind another -/
def gl_X {μ : Type} (I : gl_I μ) (sc : Nat × (Nat → Int32)) (z : Bool) : List (Nat × gl_O) → Nat → List Value → List Value → μ → Nat → Nat → Option (List Prop × Nat × List Value × List Value × μ × Nat × Nat)
  | [], pc, ls, st, m, k, n => some ([], pc, ls, st, m, k, n)
  | o :: r, pc, ls, st, m, k, n => if o.1 = pc then match gl_x1 I sc z o.2 ls st m k n with
    | some (P, ls', st', m', k', n') => match gl_X I sc z r (pc + gl_len o.2.1) ls' st' m' k' n' with
      | some (P2, R) => some (P ++ P2, R)
      | none => none
    | none => none
    else none

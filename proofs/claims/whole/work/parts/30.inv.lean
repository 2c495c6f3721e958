/-! THE PURE PART. What holds of the memory between two calls of the law: class and reference hold the same. -/
abbrev sp_B : Type := Nat × (Nat → Nat) × (Nat → Nat → Nat) × Nat × (Nat → Nat) × (Nat → Nat → Nat) × (Nat → Nat → Nat)
/-- a cell's note k above its pitch: the first k steps -/
def sp_ht (B : sp_B) (c : Nat) : Nat → Nat
  | 0 => 0
  | k + 1 => sp_ht B c k + B.2.2.1 c k
/-- the bits of a cell's notes -/
def sp_bits (B : sp_B) (c : Nat) : Nat → Int32
  | 0 => 1
  | k + 1 => sp_bits B c k ||| (1 <<< (nI (sp_ht B c (k + 1)) &&& 31))
/-- numbers of cells nc, steps sn c, ss c k; of modes nm, parts pn m, their cells pl m k and heights ph m k -/
def sp_wf (B : sp_B) : Prop := B.1 ≤ 6 ∧ (∀ c, c < B.1 → 1 ≤ B.2.1 c ∧ B.2.1 c ≤ 4 ∧ ∀ k, k < B.2.1 c → 1 ≤ B.2.2.1 c k ∧ B.2.2.1 c k ≤ 4) ∧ B.2.2.2.1 ≤ 6 ∧
  (∀ m, m < B.2.2.2.1 → 1 ≤ B.2.2.2.2.1 m ∧ B.2.2.2.2.1 m ≤ 4 ∧ B.2.2.2.2.2.2 m 0 = 0 ∧ (∀ k, k < B.2.2.2.2.1 m → B.2.2.2.2.2.1 m k < B.1) ∧ ∀ k, k + 1 < B.2.2.2.2.1 m → ∃ g, g ≤ 3 ∧ B.2.2.2.2.2.2 m (k + 1) = B.2.2.2.2.2.2 m k + sp_ht B (B.2.2.2.2.2.1 m k) (B.2.1 (B.2.2.2.2.2.1 m k)) + g)
/-- the class's book holds B -/
def sp_C (B : sp_B) (nc nm : Int32) (sn ss hs nb pn pl ph : Nat → Int32) : Prop := nc = nI B.1 ∧ nm = nI B.2.2.2.1 ∧
  (∀ c, c < B.1 → sn c = nI (B.2.1 c) ∧ (∀ k, k < B.2.1 c → ss (4 * c + k) = nI (B.2.2.1 c k)) ∧ hs c = nI (sp_ht B c (B.2.1 c)) ∧ nb c = sp_bits B c (B.2.1 c)) ∧
  ∀ m, m < B.2.2.2.1 → pn m = nI (B.2.2.2.2.1 m) ∧ ∀ k, k < B.2.2.2.2.1 m → pl (4 * m + k) = nI (B.2.2.2.2.2.1 m k) ∧ ph (4 * m + k) = nI (B.2.2.2.2.2.2 m k)
/-- the reference's book holds B -/
def sp_R (B : sp_B) (nc nm : Int32) (cell mode above : Nat → Int32) : Prop := nc = nI B.1 ∧ nm = nI B.2.2.2.1 ∧
  (∀ c, c < B.1 → cell (5 * c) = nI (B.2.1 c) ∧ ∀ k, k < B.2.1 c → cell (5 * c + 1 + k) = nI (B.2.2.1 c k)) ∧
  ∀ m, m < B.2.2.2.1 → mode (9 * m) = nI (B.2.2.2.2.1 m) ∧ ∀ k, k < B.2.2.2.2.1 m → mode (9 * m + 2 + 2 * k) = nI (B.2.2.2.2.2.1 m k) ∧ above (4 * m + k) = nI (B.2.2.2.2.2.2 m k)
def sp_nt (x : Int32) : Prop := 0 ≤ x ∧ x ≤ 60
def sp_Tx (a : Int32) (b : Nat → Int32) (c : Int32) (d : Nat → Int32) : Prop := ∃ n : Nat, n ≤ 130 ∧ a = nI n ∧ c = nI n ∧ ∀ j, j < n → d j = b j ∧ 0 ≤ b j ∧ b j ≤ 255
def sp_Tn (a : Int32) (b d : Nat → Int32) : Prop := ∃ n : Nat, n ≤ 16 ∧ a = nI n ∧ d 0 = nI n ∧ ∀ j, j < n → d (1 + j) = b j ∧ sp_nt (b j)
/-- the past: v tunes p, the oldest first; in the class's ring, in the reference's rows -/
def sp_pk (v : Nat) (p : Nat → Nat × (Nat → Int32)) : Prop := v ≤ 10 ∧ ∀ i, i < v → (p i).1 ≤ 16 ∧ ∀ j, j < (p i).1 → sp_nt ((p i).2 j)
def sp_pc (o u : Int32) (sz nt : Nat → Int32) (v : Nat) (p : Nat → Nat × (Nat → Int32)) : Prop := ∃ o' : Nat, o' < 10 ∧ o = nI o' ∧ u = nI v ∧ ∀ i, i < v → sz ((o' + i) % 10) = nI (p i).1 ∧ ∀ j, j < (p i).1 → nt (16 * ((o' + i) % 10) + j) = (p i).2 j
def sp_pr (u : Int32) (pa : Nat → Int32) (v : Nat) (p : Nat → Nat × (Nat → Int32)) : Prop := u = nI v ∧ ∀ i, i < v → pa (17 * i) = nI (p i).1 ∧ ∀ j, j < (p i).1 → pa (17 * i + 1 + j) = (p i).2 j
def sp_Ps (o u : Int32) (sz nt : Nat → Int32) (u' : Int32) (pa : Nat → Int32) : Prop := ∃ (v : Nat) (p : Nat → Nat × (Nat → Int32)), sp_pk v p ∧ sp_pc o u sz nt v p ∧ sp_pr u' pa v p
def sp_Im (sz nt kp kn : Nat → Int32) : Prop := ∀ i, i < 2 → (sz i = -1 ∧ kn i = 0) ∨ ∃ n : Nat, n ≤ 16 ∧ sz i = nI n ∧ kn i = 1 ∧ kp (17 * i) = nI n ∧ ∀ j, j < n → kp (17 * i + 1 + j) = nt (16 * i + j) ∧ sp_nt (nt (16 * i + j))
def sp_Sn (a : Int32) (nt an : Nat → Int32) (a' : Int32) (nt' an' : Nat → Int32) : Prop := ∃ n : Nat, n ≤ 8 ∧ a = nI n ∧ a' = nI n ∧ ∀ j, j < n → nt' j = nt j ∧ an' j = an j ∧ 0 ≤ nt j ∧ nt j ≤ 120 ∧ (an j = 0 ∨ an j = 1)
def sp_Ch (ch : Nat) (a p : Int32) : Prop := ∃ c : Nat, c ≤ ch ∧ a = nI c ∧ (p = -1 ∨ ∃ q : Nat, q ≤ c ∧ p = nI q)
abbrev sp_WY : Type := sp_B → Int32 → (Nat → Int32) → Prop
abbrev sp_PR : Type := sp_B → Int32 → (Nat → Int32) → Int32 → Int32 → Int32 → Int32 → (Nat → Int32) → Prop
/-- the book, and what the class keeps of ways and of the parse -/
def sp_Bk (WY : sp_WY) (PR : sp_PR) (M : gl_N) (B : sp_B) : Prop := sp_wf B ∧ sp_C B (M 12 0) (M 12 5) (M 13) (M 14) (M 15) (M 16) (M 17) (M 18) (M 19) ∧ sp_R B (M 42 1) (M 42 2) (M 43) (M 44) (M 45) ∧ WY B (M 32 4) (M 33) ∧ (M 35 10 = M 20 2 → PR B (M 20 1) (M 21) (M 35 6) (M 35 7) (M 35 8) (M 35 9) (M 38))
/-- between two calls; ch: how many there were -/
def sp_I (WY : sp_WY) (PR : sp_PR) (ch : Nat) (M : gl_N) : Prop := sp_Tx (M 1 1) (M 2) (M 42 18) (M 54) ∧ sp_Tn (M 20 1) (M 21) (M 48) ∧ sp_Ps (M 22 1) (M 22 2) (M 24) (M 25) (M 42 12) (M 49) ∧ sp_Im (M 27) (M 28) (M 50) (M 51) ∧ sp_Sn (M 29 2) (M 30) (M 31) (M 42 15) (M 52) (M 53) ∧ sp_Ch ch (M 20 2) (M 35 10) ∧ ∃ B, sp_Bk WY PR M B
/-- a call of the class, then the same of the reference: the same answer, and all holds on -/
def sp_S (WY : sp_WY) (PR : sp_PR) (l : Launch) (sc : Nat × (Nat → Int32)) (mc mr : gl_M) (as : List Value) : Prop :=
  ∀ (ch : Nat) (M : gl_N), ch < 1000 → sp_I WY PR ch M → gr l sc mc (.ref 0 :: as) M (fun r1 M2 => ∃ v : Int32, r1 = some (.int v) ∧ gr l sc mr (.ref 42 :: as) M2 (fun r2 M3 => r2 = some (.int v) ∧ sp_I WY PR (ch + 1) M3))
theorem sp_Ch.on {ch : Nat} {a p : Int32} (h : sp_Ch ch a p) : sp_Ch (ch + 1) a p := by
  obtain ⟨c, h1, h2⟩ := h
  exact ⟨c, by omega, h2⟩
section SP1
variable {l : Launch} {sc : Nat × (Nat → Int32)} {M : gl_N} {Q : Option Value → gl_N → Prop}
theorem r_within {a b c : Int32} (K1 : b ≤ a → a ≤ c → Q (some (.int 1)) M) (K0 : ¬ (b ≤ a ∧ a ≤ c) → Q (some (.int 0)) M) : gr l sc m_X10_within [.int a, .int b, .int c] M Q :=
  e_X10_within l sc M Q a b c ⟨fun h => K0 (fun q => Int32.not_le.mpr h q.1), fun h => ⟨fun h2 => K0 (fun q => Int32.not_le.mpr h2 q.2), fun h2 => K1 (Int32.not_lt.mp h) (Int32.not_lt.mp h2)⟩⟩
theorem r_in {a b c : Int32} (K1 : b ≤ a → a ≤ c → Q (some (.int 1)) M) (K0 : ¬ (b ≤ a ∧ a ≤ c) → Q (some (.int 0)) M) : gr l sc m_X11_in [.int a, .int b, .int c] M Q :=
  e_X11_in l sc M Q a b c ⟨fun h => K0 (fun q => Int32.not_le.mpr h q.1), fun h => ⟨fun h2 => K0 (fun q => Int32.not_le.mpr h2 q.2), fun h2 => K1 (Int32.not_lt.mp h) (Int32.not_lt.mp h2)⟩⟩
theorem sp_vp {n N : Nat} (h : n < N) (hN : N ≤ 2147483647) : vp_in (nI n) N := nI_in h (by omega)
theorem sp_cl {n : Nat} (h : n ≤ 100000) : (nI n).toNatClampNeg = n := nI_clamp (by omega)
theorem sp_lit (n : Nat) : (OfNat.ofNat n : Int32) = nI n := rfl
end SP1

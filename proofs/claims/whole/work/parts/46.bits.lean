/-! Bits of a long. -/
def pb (x : Int64) (k : Nat) : Bool := x.toBitVec.getLsbD k
theorem pb_and {x y : Int64} {k : Nat} : pb (x &&& y) k = (pb x k && pb y k) := by
  unfold pb
  rw [Int64.toBitVec_and, BitVec.getLsbD_and]
theorem pb_or {x y : Int64} {k : Nat} : pb (x ||| y) k = (pb x k || pb y k) := by
  unfold pb
  rw [Int64.toBitVec_or, BitVec.getLsbD_or]
theorem pb_xor {x y : Int64} {k : Nat} : pb (x ^^^ y) k = (pb x k ^^ pb y k) := by
  unfold pb
  rw [Int64.toBitVec_xor, BitVec.getLsbD_xor]
theorem pb_0 {k : Nat} : pb 0 k = false := by
  show (0#64).getLsbD k = false
  exact BitVec.getLsbD_zero
theorem pb_m {k : Nat} (h : k < 64) : pb (-1) k = true := by
  show (BitVec.allOnes 64).getLsbD k = true
  rw [BitVec.getLsbD_allOnes]
  exact decide_eq_true h
theorem pb_not {x : Int64} {k : Nat} (h : k < 64) : pb (x ^^^ (-1)) k = !pb x k := by
  rw [pb_xor, pb_m h]
  cases pb x k <;> rfl
theorem pb_ge {x : Int64} {k : Nat} (h : 64 ≤ k) : pb x k = false := BitVec.getLsbD_of_ge _ _ h
theorem pb_ext {x y : Int64} (h : ∀ k, k < 64 → pb x k = pb y k) : x = y := by
  apply Int64.toBitVec_inj.mp
  apply BitVec.eq_of_getLsbD_eq
  intro i hi
  exact h i hi
theorem sh_am : ∀ a : Fin 64, (nI a.1).toInt64 &&& 63 = Int64.ofNat a.1 := by decide
theorem sh_au : ∀ a : Fin 64, (nI a.1).toInt64.toUInt64 &&& Int64.toUInt64 63 = UInt64.ofNat a.1 := by decide
theorem pb_shr {x : Int64} {a k : Nat} (ha : a < 64) : pb (x.toUInt64 >>> UInt64.ofNat a).toInt64 k = pb x (a + k) := by
  show (x.toUInt64 >>> UInt64.ofNat a).toBitVec.getLsbD k = x.toBitVec.getLsbD (a + k)
  rw [UInt64.toBitVec_shiftRight]
  have : (UInt64.ofNat a).toBitVec % 64 = BitVec.ofNat 64 a := by
    apply BitVec.eq_of_toNat_eq
    rw [BitVec.toNat_umod]
    show a % 2 ^ 64 % 64 = a % 2 ^ 64
    omega
  rw [this]
  show (x.toBitVec >>> (BitVec.ofNat 64 a).toNat).getLsbD k = _
  rw [BitVec.getLsbD_ushiftRight, BitVec.toNat_ofNat, Nat.mod_eq_of_lt (by omega)]
theorem pb_shl {x : Int64} {a k : Nat} (ha : a < 64) : pb (x <<< Int64.ofNat a) k = (decide (k < 64) && !decide (k < a) && pb x (k - a)) := by
  unfold pb
  rw [Int64.toBitVec_shiftLeft]
  have : (Int64.ofNat a).toBitVec.smod 64 = BitVec.ofNat 64 a := by
    have h : ∀ a : Fin 64, (Int64.ofNat a.1).toBitVec.smod 64 = BitVec.ofNat 64 a.1 := by decide
    exact h ⟨a, ha⟩
  rw [this]
  show (x.toBitVec <<< (BitVec.ofNat 64 a).toNat).getLsbD k = _
  rw [BitVec.getLsbD_shiftLeft, BitVec.toNat_ofNat, Nat.mod_eq_of_lt (by omega)]
theorem pb_1 {k : Nat} : pb 1 k = decide (k = 0) := by
  show (1#64).getLsbD k = _
  rw [BitVec.getLsbD_one]
  simp
theorem pb_one {a k : Nat} (ha : a < 64) (hk : k < 64) : pb ((1 : Int64) <<< ((nI a).toInt64 &&& 63)) k = decide (k = a) := by
  rw [sh_am ⟨a, ha⟩, pb_shl ha, pb_1]
  by_cases h : k = a
  · subst h
    simp [hk]
  · simp only [h]
    by_cases h2 : k < a
    · simp [h2]
    · have : ¬ k - a = 0 := by omega
      simp [this]
theorem pbit_pb {x : Int64} {a : Nat} (ha : a < 64) : pbit x a = if pb x a then 1 else 0 := by
  unfold pbit
  rw [sh_au ⟨a, ha⟩]
  apply pb_ext
  intro k hk
  rw [pb_and, pb_shr ha, pb_1]
  by_cases h : k = 0
  · subst h
    cases hb : pb x a
    · simp [hb, pb_0]
    · simp [hb, pb_1]
  · cases hb : pb x a
    · simp [h, pb_0]
    · simp [h, pb_1]
theorem pbit_1 {x : Int64} {a : Nat} (ha : a < 64) : pbit x a = 1 ↔ pb x a = true := by
  rw [pbit_pb ha]
  cases pb x a
  · simp
  · simp
theorem pbit_0 {x : Int64} {a : Nat} (ha : a < 64) : pbit x a = 0 ↔ pb x a = false := by
  rw [pbit_pb ha]
  cases pb x a
  · simp
  · simp
theorem pbit_n1 {x : Int64} {a : Nat} (ha : a < 64) : ¬ pbit x a = 1 ↔ pb x a = false := by
  rw [pbit_pb ha]
  cases pb x a
  · simp
  · simp
/-- how many of the first n lanes are in a set -/
def pcn (x : Int64) : Nat → Nat
  | 0 => 0
  | n + 1 => pcn x n + (if pb x n then 1 else 0)
theorem pcn_le {x : Int64} {n : Nat} : pcn x n ≤ n := by
  induction n with
  | zero => exact Nat.le_refl _
  | succ n ih =>
    unfold pcn
    split <;> omega
theorem pcn_mono {x y : Int64} {n : Nat} (h : ∀ k, k < n → pb x k = true → pb y k = true) : pcn x n ≤ pcn y n := by
  induction n with
  | zero => exact Nat.le_refl _
  | succ n ih =>
    have := ih (fun k hk => h k (by omega))
    have h2 := h n (by omega)
    unfold pcn
    cases hx : pb x n <;> cases hy : pb y n <;> simp_all <;> omega
theorem pcn_lt {x y : Int64} {n b : Nat} (h : ∀ k, k < n → pb x k = true → pb y k = true) (hb : b < n) (h1 : pb x b = false) (h2 : pb y b = true) : pcn x n < pcn y n := by
  induction n with
  | zero => omega
  | succ n ih =>
    unfold pcn
    by_cases e : b = n
    · subst e
      have := pcn_mono (n := b) (fun k hk => h k (by omega))
      simp [h1, h2]
      omega
    · have := ih (fun k hk => h k (by omega)) (by omega)
      have h3 := h n (by omega)
      cases hx : pb x n <;> cases hy : pb y n <;> simp_all <;> omega

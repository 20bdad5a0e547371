/-! Long.bitCount. -/
def u6 (x : Int64) : Nat := x.toBitVec.toNat
theorem u6_lt {x : Int64} : u6 x < 18446744073709551616 := x.toBitVec.isLt
theorem u6_and {x y : Int64} : u6 (x &&& y) = u6 x &&& u6 y := by
  unfold u6
  rw [Int64.toBitVec_and, BitVec.toNat_and]
theorem u6_add {x y : Int64} (h : u6 x + u6 y < 18446744073709551616) : u6 (x + y) = u6 x + u6 y := by
  unfold u6 at h ⊢
  rw [Int64.toBitVec_add, BitVec.toNat_add, Nat.mod_eq_of_lt h]
theorem u6_sub {x y : Int64} (h : u6 y ≤ u6 x) : u6 (x - y) = u6 x - u6 y := by
  have h1 := x.toBitVec.isLt
  have h2 := y.toBitVec.isLt
  unfold u6 at h ⊢
  rw [Int64.toBitVec_sub, BitVec.toNat_sub]
  omega
theorem u6_sh {x : Int64} {m : Int32} {a : Nat} (h : m.toInt64.toUInt64 &&& Int64.toUInt64 63 = UInt64.ofNat a) (ha : a < 64) : u6 (jsh x m) = u6 x / 2 ^ a := by
  unfold jsh
  rw [h]
  show (x.toUInt64 >>> UInt64.ofNat a).toBitVec.toNat = _
  rw [UInt64.toBitVec_shiftRight]
  have : (UInt64.ofNat a).toBitVec % 64 = BitVec.ofNat 64 a := by
    apply BitVec.eq_of_toNat_eq
    rw [BitVec.toNat_umod]
    show a % 2 ^ 64 % 64 = a % 2 ^ 64
    omega
  rw [this]
  show (x.toBitVec >>> (BitVec.ofNat 64 a).toNat).toNat = _
  rw [BitVec.toNat_ushiftRight, BitVec.toNat_ofNat, Nat.mod_eq_of_lt (by omega), Nat.shiftRight_eq_div_pow]
  rfl
theorem and_sp {a b c d : Nat} (ha : a < 256) (hc : c < 256) : (a + 256 * b) &&& (c + 256 * d) = (a &&& c) + 256 * (b &&& d) := by
  have hac : a &&& c < 2 ^ 8 := Nat.and_lt_two_pow a (show c < 2 ^ 8 from hc)
  apply Nat.eq_of_testBit_eq
  intro i
  rw [Nat.testBit_and, Nat.add_comm a, Nat.add_comm c, Nat.add_comm (a &&& c), show 256 = 2 ^ 8 from rfl, Nat.testBit_two_pow_mul_add _ (show a < 2 ^ 8 from ha), Nat.testBit_two_pow_mul_add _ (show c < 2 ^ 8 from hc), Nat.testBit_two_pow_mul_add _ hac, Nat.testBit_and, Nat.testBit_and]
  split <;> rfl
/-- masks of n bytes -/
def mb (c : Nat) : Nat → Nat
  | 0 => 0
  | n + 1 => c + 256 * mb c n
def st1 (n x : Nat) : Nat := x - ((x / 2) &&& mb 85 n)
def st2 (n x : Nat) : Nat := (x &&& mb 51 n) + ((x / 4) &&& mb 51 n)
def st3 (n x : Nat) : Nat := (x + x / 16) &&& mb 15 n
set_option maxRecDepth 100000 in
theorem b1 : ∀ lo : Fin 256, ∀ h : Fin 2, (lo.1 / 2 + 128 * h.1) &&& 85 = (lo.1 / 2) &&& 85 := by decide
set_option maxRecDepth 100000 in
theorem b1l : ∀ lo : Fin 256, (lo.1 / 2) &&& 85 ≤ lo.1 := by decide
set_option maxRecDepth 100000 in
theorem b2 : ∀ lo : Fin 256, ∀ h : Fin 4, (lo.1 / 4 + 64 * h.1) &&& 51 = (lo.1 / 4) &&& 51 := by decide
theorem b1' {lo h : Nat} (hl : lo < 256) (hh : h < 2) : (lo / 2 + 128 * h) &&& 85 = (lo / 2) &&& 85 := b1 ⟨lo, hl⟩ ⟨h, hh⟩
theorem b2' {lo h : Nat} (hl : lo < 256) (hh : h < 4) : (lo / 4 + 64 * h) &&& 51 = (lo / 4) &&& 51 := b2 ⟨lo, hl⟩ ⟨h, hh⟩
theorem st1_s {n lo hi : Nat} (hl : lo < 256) : st1 (n + 1) (lo + 256 * hi) = (lo - ((lo / 2) &&& 85)) + 256 * st1 n hi ∧ ((hi / 2) &&& mb 85 n ≤ hi) := by
  have e : (lo + 256 * hi) / 2 = (lo / 2 + 128 * (hi % 2)) + 256 * (hi / 2) := by omega
  have h2 : (hi / 2) &&& mb 85 n ≤ hi := Nat.le_trans Nat.and_le_left (by omega)
  refine ⟨?_, h2⟩
  unfold st1
  rw [e, show mb 85 (n + 1) = 85 + 256 * mb 85 n from rfl, and_sp (by omega) (by decide), b1' hl (show hi % 2 < 2 by omega)]
  have h1 := b1l ⟨lo, hl⟩
  simp only at h1
  omega
theorem st2_s {n lo hi : Nat} (hl : lo < 256) : st2 (n + 1) (lo + 256 * hi) = ((lo &&& 51) + ((lo / 4) &&& 51)) + 256 * st2 n hi := by
  have e : (lo + 256 * hi) / 4 = (lo / 4 + 64 * (hi % 4)) + 256 * (hi / 4) := by omega
  unfold st2
  rw [e, show mb 51 (n + 1) = 51 + 256 * mb 51 n from rfl, and_sp (by omega) (by decide), and_sp (by omega) (by decide), b2' hl (show hi % 4 < 4 by omega)]
  omega
/-- a byte's bits -/
def pc8 (b : Nat) : Nat := b % 2 + b / 2 % 2 + b / 4 % 2 + b / 8 % 2 + b / 16 % 2 + b / 32 % 2 + b / 64 % 2 + b / 128 % 2
def f1 (b : Nat) : Nat := b - ((b / 2) &&& 85)
def f2 (b : Nat) : Nat := (b &&& 51) + ((b / 4) &&& 51)
def f3 (b : Nat) : Nat := f2 (f1 b)
set_option maxRecDepth 100000 in
theorem f1_lt : ∀ b : Fin 256, f1 b.1 < 256 := by decide
set_option maxRecDepth 100000 in
theorem f3_lt : ∀ b : Fin 256, f3 b.1 ≤ 68 ∧ f3 b.1 % 16 ≤ 4 ∧ f3 b.1 / 16 ≤ 4 := by decide
set_option maxRecDepth 100000 in
theorem f3_pc : ∀ b : Fin 256, (f3 b.1 + f3 b.1 / 16) &&& 15 = pc8 b.1 := by decide
set_option maxRecDepth 100000 in
theorem f3_h : ∀ v : Fin 69, ∀ h : Fin 5, (v.1 + v.1 / 16 + 16 * h.1) &&& 15 = (v.1 + v.1 / 16) &&& 15 := by decide
/-- bytes put together -/
def by8 (b : Nat → Nat) : Nat → Nat → Nat
  | 0, _ => 0
  | n + 1, i => b i + 256 * by8 b n (i + 1)
theorem st1_b {b : Nat → Nat} (hb : ∀ i, b i < 256) : ∀ n i, st1 n (by8 b n i) = by8 (fun j => f1 (b j)) n i := by
  intro n
  induction n with
  | zero => intro i; simp [st1, by8]
  | succ n ih =>
    intro i
    show st1 (n + 1) (b i + 256 * by8 b n (i + 1)) = _
    rw [(st1_s (hb i)).1, ih]
    rfl
theorem st2_b {b : Nat → Nat} (hb : ∀ i, b i < 256) : ∀ n i, st2 n (by8 b n i) = by8 (fun j => f2 (b j)) n i := by
  intro n
  induction n with
  | zero => intro i; simp [st2, by8]
  | succ n ih =>
    intro i
    show st2 (n + 1) (b i + 256 * by8 b n (i + 1)) = _
    rw [st2_s (hb i), ih]
    rfl
theorem f3_h' {v h : Nat} (hv : v ≤ 68) (hh : h ≤ 4) : (v + v / 16 + 16 * h) &&& 15 = (v + v / 16) &&& 15 := f3_h ⟨v, by omega⟩ ⟨h, by omega⟩
theorem by8_mod {b : Nat → Nat} {n i : Nat} (hb : ∀ i, b i ≤ 68 ∧ b i % 16 ≤ 4 ∧ b i / 16 ≤ 4) : by8 b n i % 16 ≤ 4 := by
  cases n with
  | zero => exact Nat.zero_le _
  | succ n =>
    have := hb i
    show (b i + 256 * by8 b n (i + 1)) % 16 ≤ 4
    omega
theorem st3_b {b : Nat → Nat} (hb : ∀ i, b i ≤ 68 ∧ b i % 16 ≤ 4 ∧ b i / 16 ≤ 4) : ∀ n i, st3 n (by8 b n i) = by8 (fun j => (b j + b j / 16) &&& 15) n i := by
  intro n
  induction n with
  | zero => intro i; simp [st3, by8]
  | succ n ih =>
    intro i
    have h1 := hb i
    have h2 := by8_mod (n := n) (i := i + 1) hb
    have ih2 := ih (i + 1)
    unfold st3 at ih2
    show st3 (n + 1) (b i + 256 * by8 b n (i + 1)) = ((b i + b i / 16) &&& 15) + 256 * by8 (fun j => (b j + b j / 16) &&& 15) n (i + 1)
    generalize by8 b n (i + 1) = hi at *
    unfold st3
    rw [← ih2, show b i + 256 * hi + (b i + 256 * hi) / 16 = (b i + b i / 16 + 16 * (hi % 16)) + 256 * (hi + hi / 16) by omega, show mb 15 (n + 1) = 15 + 256 * mb 15 n from rfl, and_sp (by omega) (by decide), f3_h' h1.1 h2]
theorem by8_lt {b : Nat → Nat} (hb : ∀ i, b i < 256) : ∀ n i, by8 b n i < 256 ^ n := by
  intro n
  induction n with
  | zero => intro i; exact Nat.zero_lt_one
  | succ n ih =>
    intro i
    have h1 := ih (i + 1)
    have h2 := hb i
    show b i + 256 * by8 b n (i + 1) < 256 ^ (n + 1)
    rw [Nat.pow_succ]
    omega
theorem by8_of {x : Nat} : ∀ n i, by8 (fun j => x / 256 ^ j % 256) n i = x / 256 ^ i % 256 ^ n := by
  intro n
  induction n with
  | zero => intro i; rw [Nat.pow_zero, Nat.mod_one]; rfl
  | succ n ih =>
    intro i
    show x / 256 ^ i % 256 + 256 * by8 (fun j => x / 256 ^ j % 256) n (i + 1) = _
    rw [ih, Nat.pow_succ 256 i, ← Nat.div_div_eq_div_mul, Nat.pow_succ 256 n, Nat.mul_comm (256 ^ n) 256, Nat.mod_mul]
theorem dv {a b : Nat} (h : a < 256) : (a + 256 * b) / 256 = b := by omega
theorem fin8 (e0 e1 e2 e3 e4 e5 e6 e7 : Nat) (h0 : e0 ≤ 8) (h1 : e1 ≤ 8) (h2 : e2 ≤ 8) (h3 : e3 ≤ 8) (h4 : e4 ≤ 8) (h5 : e5 ≤ 8) (h6 : e6 ≤ 8) (h7 : e7 ≤ 8) (n s1 s2 : Nat) (hn : n = e0 + 256 * (e1 + 256 * (e2 + 256 * (e3 + 256 * (e4 + 256 * (e5 + 256 * (e6 + 256 * e7))))))) (hs1 : s1 = n + n / 256) (hs2 : s2 = s1 + s1 / 65536) : s2 < 18446744073709551616 ∧ s1 < 18446744073709551616 ∧ s2 + s2 / 4294967296 < 18446744073709551616 ∧ (s2 + s2 / 4294967296) % 128 = e0 + e1 + e2 + e3 + e4 + e5 + e6 + e7 := by
  have a0 : n / 256 = e1 + 256 * (e2 + 256 * (e3 + 256 * (e4 + 256 * (e5 + 256 * (e6 + 256 * e7))))) := by rw [hn, dv (by omega)]
  have a1 : s1 = (e0 + e1) + 256 * ((e1 + e2) + 256 * ((e2 + e3) + 256 * ((e3 + e4) + 256 * ((e4 + e5) + 256 * ((e5 + e6) + 256 * ((e6 + e7) + 256 * e7)))))) := by
    rw [hs1, a0, hn]
    clear hs1 hs2 a0 hn
    simp only [Nat.mul_add, Nat.add_assoc]
    omega
  have a2 : s1 / 65536 = (e2 + e3) + 256 * ((e3 + e4) + 256 * ((e4 + e5) + 256 * ((e5 + e6) + 256 * ((e6 + e7) + 256 * e7)))) := by
    rw [a1, show 65536 = 256 * 256 from rfl, ← Nat.div_div_eq_div_mul, dv (by clear hs1 hs2 a0 hn a1; omega), dv (by clear hs1 hs2 a0 hn a1; omega)]
  have a3 : s2 = (e0 + e1 + e2 + e3) + 256 * ((e1 + e2 + e3 + e4) + 256 * ((e2 + e3 + e4 + e5) + 256 * ((e3 + e4 + e5 + e6) + 256 * ((e4 + e5 + e6 + e7) + 256 * ((e5 + e6 + e7) + 256 * ((e6 + e7) + 256 * e7)))))) := by
    rw [hs2, a2, a1]
    clear hs1 hs2 a0 hn a1 a2
    simp only [Nat.mul_add, Nat.add_assoc]
    omega
  have a4 : s2 / 4294967296 = (e4 + e5 + e6 + e7) + 256 * ((e5 + e6 + e7) + 256 * ((e6 + e7) + 256 * e7)) := by
    rw [a3, show 4294967296 = 256 * 256 * 256 * 256 from rfl, ← Nat.div_div_eq_div_mul, ← Nat.div_div_eq_div_mul, ← Nat.div_div_eq_div_mul, dv (by clear hs1 hs2 a0 hn a1 a2 a3; omega), dv (by clear hs1 hs2 a0 hn a1 a2 a3; omega), dv (by clear hs1 hs2 a0 hn a1 a2 a3; omega), dv (by clear hs1 hs2 a0 hn a1 a2 a3; omega)]
  have a5 : s2 + s2 / 4294967296 = (e0 + e1 + e2 + e3 + e4 + e5 + e6 + e7) + 256 * ((e1 + e2 + e3 + e4 + e5 + e6 + e7) + 256 * ((e2 + e3 + e4 + e5 + e6 + e7) + 256 * ((e3 + e4 + e5 + e6 + e7) + 256 * ((e4 + e5 + e6 + e7) + 256 * ((e5 + e6 + e7) + 256 * ((e6 + e7) + 256 * e7)))))) := by
    rw [a4, a3]
    clear hs1 hs2 a0 hn a1 a2 a3 a4
    simp only [Nat.mul_add, Nat.add_assoc]
    omega
  clear hs1 hs2 a0 hn a2 a4
  refine ⟨by rw [a3]; clear a1 a3 a5; omega, by rw [a1]; clear a1 a3 a5; omega, by rw [a5]; clear a1 a3 a5; omega, ?_⟩
  rw [a5]
  clear a1 a3 a5
  generalize ((e1 + e2 + e3 + e4 + e5 + e6 + e7) + 256 * ((e2 + e3 + e4 + e5 + e6 + e7) + 256 * ((e3 + e4 + e5 + e6 + e7) + 256 * ((e4 + e5 + e6 + e7) + 256 * ((e5 + e6 + e7) + 256 * ((e6 + e7) + 256 * e7)))))) = T
  generalize hS : e0 + e1 + e2 + e3 + e4 + e5 + e6 + e7 = S
  have : S ≤ 64 := by omega
  omega
theorem by8_le {b : Nat → Nat} {c : Nat} (hb : ∀ i, b i ≤ c) : ∀ n i, by8 b n i ≤ mb c n := by
  intro n
  induction n with
  | zero => intro i; exact Nat.le_refl _
  | succ n ih =>
    intro i
    have h1 := ih (i + 1)
    have h2 := hb i
    show b i + 256 * by8 b n (i + 1) ≤ c + 256 * mb c n
    omega
theorem pb_u {x : Int64} {k : Nat} : pb x k = (u6 x).testBit k := by
  unfold pb u6
  rw [BitVec.testBit_toNat]
theorem pb_d {x : Int64} {k : Nat} : (if pb x k then 1 else 0) = u6 x / 2 ^ k % 2 := by
  rw [pb_u, Nat.testBit_eq_decide_div_mod_eq]
  have : u6 x / 2 ^ k % 2 < 2 := Nat.mod_lt _ (by decide)
  generalize u6 x / 2 ^ k % 2 = r at *
  match r, this with
  | 0, _ => rfl
  | 1, _ => rfl
  | n + 2, h => exact absurd h (by omega)
theorem pcn_8 {x : Int64} {i : Nat} : pcn x (8 * i + 8) = pcn x (8 * i) + pc8 (u6 x / 256 ^ i % 256) := by
  have e : ∀ j, u6 x / 2 ^ (8 * i + j) = u6 x / 256 ^ i / 2 ^ j := by
    intro j
    rw [Nat.pow_add, ← Nat.div_div_eq_div_mul, Nat.pow_mul]
  have e0 : u6 x / 2 ^ (8 * i) = u6 x / 256 ^ i := by rw [Nat.pow_mul]
  simp only [pcn, pb_d, e, e0]
  generalize u6 x / 256 ^ i = N
  unfold pc8
  simp only [Nat.reducePow]
  omega
theorem pc8_le {b : Nat} : pc8 b ≤ 8 := by
  unfold pc8
  omega
theorem qb_i32 {x : Int64} {k : Nat} (hk : k < 32) : qb x.toInt32 k = pb x k := by
  unfold qb pb
  rw [Int64.toBitVec_toInt32, BitVec.getLsbD_signExtend]
  simp [hk, show k < 64 by omega]
theorem i32_127 {x : Int64} : x.toInt32 &&& 127 = nI (u6 x % 128) := by
  apply qb_ext
  intro k hk
  rw [qb_and, show (127 : Int32) = nI 127 from rfl, qb_nI, qb_nI, qb_i32 hk, pb_u, show 128 = 2 ^ 7 from rfl, Nat.testBit_mod_two_pow, show 127 = 2 ^ 7 - 1 from rfl, Nat.testBit_two_pow_sub_one]
  simp only [hk, decide_true, Bool.true_and]
  exact Bool.and_comm _ _
theorem jbc_cn {x : Int64} : jbc x = nI (pcn x 64) := by
  have hx := u6_lt (x := x)
  have hb : ∀ i, u6 x / 256 ^ i % 256 < 256 := fun i => Nat.mod_lt _ (by decide)
  have h0 : u6 x = by8 (fun j => u6 x / 256 ^ j % 256) 8 0 := by
    rw [by8_of, Nat.pow_zero, Nat.div_one, Nat.mod_eq_of_lt (by exact hx)]
  have h1 : u6 (jb1 x) = st1 8 (u6 x) := by
    have e1 : u6 (jsh x 1 &&& 6148914691236517205) = (u6 x / 2) &&& mb 85 8 := by
      rw [u6_and, u6_sh (a := 1) (by decide) (by decide)]
      rfl
    have e2 : (u6 x / 2) &&& mb 85 8 ≤ u6 x := Nat.le_trans Nat.and_le_left (by omega)
    unfold jb1 st1
    rw [u6_sub (by rw [e1]; exact e2), e1]
  have h1b : u6 (jb1 x) = by8 (fun j => f1 (u6 x / 256 ^ j % 256)) 8 0 := by
    rw [h1]
    have := st1_b (b := fun j => u6 x / 256 ^ j % 256) hb 8 0
    rw [← h0] at this
    exact this
  have h2 : u6 (jb2 (jb1 x)) = st2 8 (u6 (jb1 x)) := by
    have e1 : u6 (jb1 x &&& 3689348814741910323) = u6 (jb1 x) &&& mb 51 8 := by
      rw [u6_and]
      rfl
    have e2 : u6 (jsh (jb1 x) 2 &&& 3689348814741910323) = (u6 (jb1 x) / 4) &&& mb 51 8 := by
      rw [u6_and, u6_sh (a := 2) (by decide) (by decide)]
      rfl
    have l1 : u6 (jb1 x) &&& mb 51 8 ≤ mb 51 8 := Nat.and_le_right
    have l2 : (u6 (jb1 x) / 4) &&& mb 51 8 ≤ mb 51 8 := Nat.and_le_right
    have l3 : mb 51 8 = 3689348814741910323 := rfl
    unfold jb2 st2
    rw [u6_add (by rw [e1, e2]; omega), e1, e2]
  have h2b : u6 (jb2 (jb1 x)) = by8 (fun j => f3 (u6 x / 256 ^ j % 256)) 8 0 := by
    rw [h2, h1b]
    exact st2_b (b := fun j => f1 (u6 x / 256 ^ j % 256)) (fun i => f1_lt ⟨_, hb i⟩) 8 0
  have h3 : u6 (jb3 (jb2 (jb1 x))) = st3 8 (u6 (jb2 (jb1 x))) := by
    have e1 : u6 (jsh (jb2 (jb1 x)) 4) = u6 (jb2 (jb1 x)) / 16 := by
      rw [u6_sh (a := 4) (by decide) (by decide)]
    have l1 : u6 (jb2 (jb1 x)) ≤ mb 68 8 := by
      rw [h2b]
      exact by8_le (fun i => (f3_lt ⟨_, hb i⟩).1) 8 0
    have l3 : mb 68 8 = 4919131752989213764 := rfl
    unfold jb3 st3
    rw [u6_and, u6_add (by rw [e1]; omega), e1]
    rfl
  have h3b : u6 (jb3 (jb2 (jb1 x))) = by8 (fun j => pc8 (u6 x / 256 ^ j % 256)) 8 0 := by
    rw [h3, h2b, st3_b (b := fun j => f3 (u6 x / 256 ^ j % 256)) (fun i => f3_lt ⟨_, hb i⟩) 8 0]
    congr 1
    funext j
    exact f3_pc ⟨_, hb j⟩
  show (jb4 (jb4 (jb4 (jb3 (jb2 (jb1 x))) 8) 16) 32).toInt32 &&& 127 = _
  generalize jb3 (jb2 (jb1 x)) = z at h3b ⊢
  have hz := fin8 (pc8 (u6 x / 256 ^ 0 % 256)) (pc8 (u6 x / 256 ^ 1 % 256)) (pc8 (u6 x / 256 ^ 2 % 256)) (pc8 (u6 x / 256 ^ 3 % 256)) (pc8 (u6 x / 256 ^ 4 % 256)) (pc8 (u6 x / 256 ^ 5 % 256)) (pc8 (u6 x / 256 ^ 6 % 256)) (pc8 (u6 x / 256 ^ 7 % 256)) pc8_le pc8_le pc8_le pc8_le pc8_le pc8_le pc8_le pc8_le (u6 z) (u6 z + u6 z / 256) _ (by rw [h3b]; simp only [by8, Nat.mul_zero, Nat.add_zero, Nat.zero_add, Nat.reduceAdd]) rfl rfl
  obtain ⟨z1, z2, z3, z4⟩ := hz
  have g1 : u6 (jb4 z 8) = u6 z + u6 z / 256 := by
    have e1 : u6 (jsh z 8) = u6 z / 256 := by rw [u6_sh (a := 8) (by decide) (by decide)]
    unfold jb4
    rw [u6_add (by rw [e1]; exact z2), e1]
  have g2 : u6 (jb4 (jb4 z 8) 16) = (u6 z + u6 z / 256) + (u6 z + u6 z / 256) / 65536 := by
    have e1 : u6 (jsh (jb4 z 8) 16) = (u6 z + u6 z / 256) / 65536 := by rw [u6_sh (a := 16) (by decide) (by decide), g1]
    show u6 (jb4 z 8 + jsh (jb4 z 8) 16) = _
    rw [u6_add (by rw [e1, g1]; exact z1), e1, g1]
  have g3 : u6 (jb4 (jb4 (jb4 z 8) 16) 32) = ((u6 z + u6 z / 256) + (u6 z + u6 z / 256) / 65536) + ((u6 z + u6 z / 256) + (u6 z + u6 z / 256) / 65536) / 4294967296 := by
    have e1 : u6 (jsh (jb4 (jb4 z 8) 16) 32) = ((u6 z + u6 z / 256) + (u6 z + u6 z / 256) / 65536) / 4294967296 := by rw [u6_sh (a := 32) (by decide) (by decide), g2]
    show u6 (jb4 (jb4 z 8) 16 + jsh (jb4 (jb4 z 8) 16) 32) = _
    rw [u6_add (by rw [e1, g2]; exact z3), e1, g2]
  rw [i32_127, g3, z4]
  congr 1
  have p1 := pcn_8 (x := x) (i := 7)
  have p2 := pcn_8 (x := x) (i := 6)
  have p3 := pcn_8 (x := x) (i := 5)
  have p4 := pcn_8 (x := x) (i := 4)
  have p5 := pcn_8 (x := x) (i := 3)
  have p6 := pcn_8 (x := x) (i := 2)
  have p7 := pcn_8 (x := x) (i := 1)
  have p8 := pcn_8 (x := x) (i := 0)
  simp only [Nat.reduceMul, Nat.reduceAdd] at p1 p2 p3 p4 p5 p6 p7 p8
  have p9 : pcn x 0 = 0 := rfl
  omega
theorem msz_cn {x : Int64} : ∀ n, n ≤ 64 → msz x n = nI (pcn x n) := by
  intro n
  induction n with
  | zero => intro _; rfl
  | succ n ih =>
    intro hn
    show msz x n + (if pbit x n = 1 then 1 else 0) = nI (pcn x n + (if pb x n then 1 else 0))
    rw [ih (by omega), pbit_pb (by omega)]
    cases pb x n
    · rw [if_neg (by decide), if_neg (by decide), ← n0, nI_add]
    · rw [if_pos (by decide), if_pos rfl, nI_succ]
theorem jbc_msz {x : Int64} : jbc x = msz x 64 := by rw [jbc_cn, msz_cn 64 (Nat.le_refl _)]
/-! numberOfTrailingZeros. -/
/-- t is the lowest lane of a set -/
def Low (x : Int64) (t : Nat) : Prop := t < 64 ∧ pb x t = true ∧ ∀ k, k < t → pb x k = false
theorem jtz_t : ∀ t : Fin 32, jtz ((1 : Int32) <<< (nI t.1 &&& 31)) = nI t.1 := by decide
theorem low_n {n t : Nat} (h1 : n.testBit t = true) (h2 : ∀ k, k < t → n.testBit k = false) : ∃ q, n = 2 ^ (t + 1) * q + 2 ^ t := by
  refine ⟨n / 2 ^ (t + 1), ?_⟩
  have h3 : n % 2 ^ t = 0 := by
    apply Nat.eq_of_testBit_eq
    intro i
    rw [Nat.testBit_mod_two_pow, Nat.zero_testBit]
    by_cases h : i < t
    · rw [h2 i h]
      simp
    · simp [h]
  have h4 : n / 2 ^ t % 2 = 1 := by
    rw [Nat.testBit_eq_decide_div_mod_eq] at h1
    exact of_decide_eq_true h1
  have h5 := Nat.div_add_mod n (2 ^ t)
  have h6 := Nat.div_add_mod (n / 2 ^ t) 2
  rw [Nat.pow_succ, ← Nat.div_div_eq_div_mul, Nat.mul_assoc]
  rw [h4] at h6
  rw [h3, Nat.add_zero] at h5
  calc n = 2 ^ t * (n / 2 ^ t) := h5.symm
    _ = 2 ^ t * (2 * (n / 2 ^ t / 2) + 1) := by rw [h6]
    _ = 2 ^ t * (2 * (n / 2 ^ t / 2)) + 2 ^ t := by rw [Nat.mul_add, Nat.mul_one]
theorem jtz_low {y : Int32} {t : Nat} (ht : t < 32) (h1 : qb y t = true) (h2 : ∀ k, k < t → qb y k = false) : jtz y = nI t := by
  have hn : ∀ k, qb y k = y.toBitVec.toNat.testBit k := fun k => by unfold qb; rw [BitVec.testBit_toNat]
  obtain ⟨q, hq⟩ := low_n (n := y.toBitVec.toNat) (by rw [← hn]; exact h1) (fun k hk => by rw [← hn]; exact h2 k hk)
  have hp : 0 < 2 ^ t := Nat.two_pow_pos t
  have hlt := y.toBitVec.isLt
  have hm : (y - 1).toBitVec.toNat = 2 ^ (t + 1) * q + (2 ^ t - 1) := by
    rw [Int32.toBitVec_sub, BitVec.toNat_sub]
    show (2 ^ 32 - 1 + y.toBitVec.toNat) % 2 ^ 32 = _
    omega
  have key : (y ^^^ (-1)) &&& (y - 1) = (((1 : Int32) <<< (nI t &&& 31)) ^^^ (-1)) &&& (((1 : Int32) <<< (nI t &&& 31)) - 1) := by
    have gen : ∀ z : Int32, ∀ q, z.toBitVec.toNat = 2 ^ (t + 1) * q + 2 ^ t → (z - 1).toBitVec.toNat = 2 ^ (t + 1) * q + (2 ^ t - 1) → ∀ k, k < 32 → qb ((z ^^^ (-1)) &&& (z - 1)) k = decide (k < t) := by
      intro z q hz hz1 k hk
      have hb : ∀ j, qb z j = z.toBitVec.toNat.testBit j := fun j => by unfold qb; rw [BitVec.testBit_toNat]
      have hb1 : ∀ j, qb (z - 1) j = (z - 1).toBitVec.toNat.testBit j := fun j => by unfold qb; rw [BitVec.testBit_toNat]
      have hm1 : qb (-1) k = true := by
        show (BitVec.allOnes 32).getLsbD k = true
        rw [BitVec.getLsbD_allOnes]
        exact decide_eq_true hk
      rw [qb_and, qb_xor, hm1, hb, hb1, hz, hz1, Nat.testBit_two_pow_mul_add _ (show 2 ^ t < 2 ^ (t + 1) by rw [Nat.pow_succ]; omega), Nat.testBit_two_pow_mul_add _ (show 2 ^ t - 1 < 2 ^ (t + 1) by rw [Nat.pow_succ]; omega)]
      by_cases c : k < t + 1
      · rw [if_pos c, if_pos c, Nat.testBit_two_pow, Nat.testBit_two_pow_sub_one]
        by_cases e : k = t
        · simp [e]
        · have : k < t := by omega
          simp [this, show ¬ t = k by omega]
      · rw [if_neg c, if_neg c]
        cases q.testBit (k - (t + 1)) <;> simp <;> omega
    have ho : ((1 : Int32) <<< (nI t &&& 31)).toBitVec.toNat = 2 ^ t := by
      have : ∀ t : Fin 32, ((1 : Int32) <<< (nI t.1 &&& 31)).toBitVec.toNat = 2 ^ t.1 := by decide
      exact this ⟨t, ht⟩
    have ho1 : (((1 : Int32) <<< (nI t &&& 31)) - 1).toBitVec.toNat = 2 ^ t - 1 := by
      have : ∀ t : Fin 32, (((1 : Int32) <<< (nI t.1 &&& 31)) - 1).toBitVec.toNat = 2 ^ t.1 - 1 := by decide
      exact this ⟨t, ht⟩
    apply qb_ext
    intro k hk
    rw [gen y q hq hm k hk, gen _ 0 (by rw [ho, Nat.mul_zero, Nat.zero_add]) (by rw [ho1, Nat.mul_zero, Nat.zero_add]) k hk]
  have : jtz y = jtz ((1 : Int32) <<< (nI t &&& 31)) := by
    unfold jtz
    rw [key]
    rfl
  rw [this, jtz_t ⟨t, ht⟩]
theorem jtl_low {x : Int64} {t : Nat} (h : Low x t) : jtl x = nI t := by
  obtain ⟨ht, h1, h2⟩ := h
  unfold jtl
  by_cases c : t < 32
  · have hne : ¬ x.toInt32 = 0 := by
      intro z
      have := qb_i32 (x := x) c
      rw [z, qb_0, h1] at this
      cases this
    rw [if_neg hne]
    exact jtz_low c (by rw [qb_i32 c]; exact h1) (fun k hk => by rw [qb_i32 (by omega)]; exact h2 k hk)
  · have hz : x.toInt32 = 0 := by
      apply qb_ext
      intro k hk
      rw [qb_i32 hk, qb_0]
      exact h2 k (by omega)
    rw [if_pos hz]
    have hs : ∀ k, k < 32 → qb (jsh x 32).toInt32 k = pb x (32 + k) := fun k hk => by
      rw [qb_i32 hk]
      exact pb_jsh (n := 0) (by decide) (by decide)
    rw [jtz_low (t := t - 32) (by omega) (by rw [hs _ (by omega), show 32 + (t - 32) = t by omega]; exact h1) (fun k hk => by rw [hs _ (by omega)]; exact h2 _ (by omega)), show (32 : Int32) = nI 32 from rfl, nI_add]
    congr 1
    omega
theorem low_ex {x : Int64} (h : ¬ x = 0) : ∃ t, Low x t := by
  have key : ∀ n, n ≤ 64 → (∀ k, k < n → pb x k = false) ∨ ∃ t, Low x t := by
    intro n
    induction n with
    | zero => intro _; exact Or.inl (fun k hk => absurd hk (Nat.not_lt_zero _))
    | succ n ih =>
      intro hn
      rcases ih (by omega) with hz | hz
      · cases hb : pb x n
        · refine Or.inl (fun k hk => ?_)
          by_cases e : k = n
          · rw [e]; exact hb
          · exact hz k (by omega)
        · exact Or.inr ⟨n, by omega, hb, hz⟩
      · exact Or.inr hz
  rcases key 64 (Nat.le_refl _) with hz | hz
  · exact absurd (pb_ext (fun k hk => by rw [hz k hk, pb_0])) h
  · exact hz

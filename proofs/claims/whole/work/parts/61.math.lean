/-! What the reference makes of two numbers. -/
theorem i8_toNat {a : BitVec 8} : a.toNat < 256 := a.isLt
theorem i8_inj {a b : BitVec 8} (h : i8 a = i8 b) : a = b := by
  apply BitVec.eq_of_toNat_eq
  have h1 := a.isLt
  have h2 := b.isLt
  exact (nI_eq (by omega) (by omega)).mp h
theorem i8_eq {a b : BitVec 8} : i8 a = i8 b ↔ a = b := ⟨i8_inj, fun h => by rw [h]⟩
theorem i8_lt {a b : BitVec 8} : i8 a < i8 b ↔ a < b := by
  have h1 := a.isLt
  have h2 := b.isLt
  rw [BitVec.lt_def]
  constructor
  · intro h
    refine Classical.byContradiction (fun hc => ?_)
    exact nI_nlt (show b.toNat ≤ a.toNat by omega) (by omega) h
  · intro h
    exact nI_lt h (by omega)
theorem i8_z {a : BitVec 8} : i8 a = 0 ↔ a = 0#8 := by
  rw [show (0 : Int32) = i8 0#8 from rfl]
  exact i8_eq
theorem i8_if {c : Prop} [Decidable c] {a b : BitVec 8} : i8 (if c then a else b) = if c then i8 a else i8 b := by
  by_cases h : c
  · rw [if_pos h, if_pos h]
  · rw [if_neg h, if_neg h]
theorem and255 {n : Nat} : nI n &&& 255 = nI (n % 256) := by
  apply qb_ext
  intro k hk
  rw [qb_and, show (255 : Int32) = nI 255 from rfl, qb_nI, qb_nI, qb_nI, show 256 = 2 ^ 8 from rfl, Nat.testBit_mod_two_pow, show 255 = 2 ^ 8 - 1 from rfl, Nat.testBit_two_pow_sub_one]
  simp only [hk, decide_true, Bool.true_and]
  exact Bool.and_comm _ _
theorem i8_and {a b : BitVec 8} : i8 a &&& i8 b = i8 (a &&& b) := by
  apply qb_ext
  intro k hk
  rw [qb_and, qb_i8, qb_i8, qb_i8, BitVec.getLsbD_and]
theorem nI_sub8 {a b : Nat} (ha : a < 256) (hb : b < 256) : nI a - nI b = nI (a + 4294967296 - b) := by
  apply Int32.toBitVec_inj.mp
  apply BitVec.eq_of_toNat_eq
  show (BitVec.ofNat 32 a - BitVec.ofNat 32 b).toNat = (BitVec.ofNat 32 (a + 4294967296 - b)).toNat
  rw [BitVec.toNat_sub, BitVec.toNat_ofNat, BitVec.toNat_ofNat, BitVec.toNat_ofNat]
  omega
theorem mwk_8 {op : Nat} (ho : op < 6) {a b : BitVec 8} : mwk (4 + op) (i8 a) (i8 b) = i8 (w8 op a b) := by
  have ha := a.isLt
  have hb := b.isLt
  match op, ho with
  | 0, _ =>
    show (nI a.toNat + nI b.toNat) &&& 255 = nI (a + b).toNat
    rw [nI_add, and255, BitVec.toNat_add]
  | 1, _ =>
    show (nI a.toNat - nI b.toNat) &&& 255 = nI (a - b).toNat
    rw [nI_sub8 ha hb, and255, BitVec.toNat_sub]
    congr 1
    omega
  | 2, _ =>
    show (nI a.toNat * nI b.toNat) &&& 255 = nI (a * b).toNat
    rw [pk_mul, and255, BitVec.toNat_mul]
  | 3, _ => exact i8_and
  | 4, _ =>
    show (if i8 a < i8 b then (1 : Int32) else 0) = i8 (if a < b then 1#8 else 0#8)
    rw [i8_if]
    simp only [i8_lt]
    rfl
  | 5, _ =>
    show (if i8 a = i8 b then (1 : Int32) else 0) = i8 (if a = b then 1#8 else 0#8)
    rw [i8_if]
    simp only [i8_eq]
    rfl
  | n + 6, h => exact absurd h (by omega)
theorem mdv_8 {op : Nat} (ho : op < 8) {a b : BitVec 8} : mdv op (i8 a) (i8 b) = i8 (w8 op a b) := by
  unfold mdv
  by_cases h6 : op < 6
  · rw [if_pos h6, mwk_8 h6]
  · rw [if_neg h6]
    by_cases e : op = 6
    · subst e
      rw [if_pos rfl]
      show _ = i8 (if a < b then a else b)
      rw [i8_if]
      simp only [i8_lt]
    · have : op = 7 := by omega
      subst this
      rw [if_neg (by decide)]
      show _ = i8 (if a < b then b else a)
      rw [i8_if]
      simp only [i8_lt]
theorem i8_not {a : BitVec 8} : 255 - i8 a = i8 (~~~ a) := by
  have ha := a.isLt
  show nI 255 - nI a.toNat = nI (~~~ a).toNat
  rw [pk_sub (by omega), BitVec.toNat_not]
/-! Neighbours. -/
theorem c7F : ∀ l : Fin 64, pb 9187201950435737471 l.1 = decide (l.1 % 8 < 7) := by decide
theorem c80 : ∀ l : Fin 64, pb (-9187201950435737472) l.1 = !decide (l.1 % 8 < 7) := by decide
theorem cFE : ∀ l : Fin 64, pb (-72340172838076674) l.1 = decide (0 < l.1 % 8) := by decide
theorem c01 : ∀ l : Fin 64, pb 72340172838076673 l.1 = !decide (0 < l.1 % 8) := by decide
theorem pb_jsh {x n : Int64} {k : Nat} {m : Int32} {a : Nat} (h : m.toInt64.toUInt64 &&& Int64.toUInt64 63 = UInt64.ofNat a) (ha : a < 64) : pb (jsh x m) k = pb x (a + k) := by
  unfold jsh
  rw [h]
  exact pb_shr ha
theorem pb_jsl {x : Int64} {k : Nat} {m : Int32} {a : Nat} (h : m.toInt64 &&& 63 = Int64.ofNat a) (ha : a < 64) (hk : k < 64) : pb (x <<< (m.toInt64 &&& 63)) k = (!decide (k < a) && pb x (k - a)) := by
  rw [h, pb_shl ha]
  simp [hk]
/-- the set's bit at the lane that bes tells -/
def pbi (x : Int64) (j : Int32) : Bool := if j < 0 then false else pb x j.toNatClampNeg
theorem pbi_n {x : Int64} : pbi x (-1) = false := rfl
theorem pbi_i {x : Int64} {j : Nat} (h : j < 64) : pbi x (nI j) = pb x j := by
  unfold pbi
  rw [if_neg (nI_pos (by omega)), nI_clamp (by omega)]
theorem pshf_bes {x : Int64} {l wy : Nat} {e : Int32} (hl : l < 64) (hy : wy < 4) (he : e = 0 ∨ e = 1) : pb (pshf x (nI wy) e) l = pbi x (bes l wy e) := by
  have L8 : ∀ k, k < 64 → pb (x <<< ((8 : Int32).toInt64 &&& 63)) k = (!decide (k < 8) && pb x (k - 8)) := fun k hk => pb_jsl (a := 8) (by decide) (by decide) hk
  have L7 : ∀ k, k < 64 → pb (x <<< ((7 : Int32).toInt64 &&& 63)) k = (!decide (k < 7) && pb x (k - 7)) := fun k hk => pb_jsl (a := 7) (by decide) (by decide) hk
  have L1 : ∀ k, k < 64 → pb (x <<< ((1 : Int32).toInt64 &&& 63)) k = (!decide (k < 1) && pb x (k - 1)) := fun k hk => pb_jsl (a := 1) (by decide) (by decide) hk
  have L56 : ∀ k, k < 64 → pb (x <<< ((-8 : Int32).toInt64 &&& 63)) k = (!decide (k < 56) && pb x (k - 56)) := fun k hk => pb_jsl (a := 56) (by decide) (by decide) hk
  have R8 : ∀ k, pb (jsh x 8) k = pb x (8 + k) := fun k => pb_jsh (n := 0) (by decide) (by decide)
  have R56 : ∀ k, pb (jsh x (-8)) k = pb x (56 + k) := fun k => pb_jsh (n := 0) (by decide) (by decide)
  have R1 : ∀ k, pb (jsh x 1) k = pb x (1 + k) := fun k => pb_jsh (n := 0) (by decide) (by decide)
  have R7 : ∀ k, pb (jsh x 7) k = pb x (7 + k) := fun k => pb_jsh (n := 0) (by decide) (by decide)
  have z0 : ¬ (0 : Int32) = 1 := by decide
  have z1 : ¬ (1 : Int32) = 0 := by decide
  unfold pshf bes
  match wy, hy with
  | 0, _ =>
    simp only [show nI 0 = 0 from rfl, if_true]
    rcases he with rfl | rfl
    · simp only [z0, if_false, if_true, L8 l hl]
      by_cases h : 8 ≤ l
      · rw [if_pos h, pbi_i (by omega)]
        simp [h]
      · rw [if_neg h, pbi_n]
        simp [h]
    · simp only [z1, if_true, if_false, jrl, pb_or, L8 l hl, R56]
      by_cases h : 8 ≤ l
      · rw [if_pos h, pbi_i (by omega), pb_ge (show 64 ≤ 56 + l by omega)]
        simp [h]
      · rw [if_neg h, pbi_i (by omega), Nat.add_comm 56 l]
        simp [h]
  | 1, _ =>
    simp only [show nI 1 = 1 from rfl, z1, if_true, if_false]
    rw [pb_or, pb_and, R1, c7F ⟨l, hl⟩]
    rcases he with rfl | rfl
    · simp only [z0, if_false, if_true, pb_0, Bool.or_false]
      by_cases h : l % 8 < 7
      · rw [if_pos h, pbi_i (by omega), Nat.add_comm 1 l]
        simp [h]
      · rw [if_neg h, pbi_n]
        simp [h]
    · simp only [z1, if_false, if_true, pb_and, L7 l hl, c80 ⟨l, hl⟩]
      by_cases h : l % 8 < 7
      · rw [if_pos h, pbi_i (by omega), Nat.add_comm 1 l]
        simp [h]
      · have h7 : ¬ l < 7 := by omega
        rw [if_neg h, pbi_i (by omega)]
        simp [h, h7]
  | 2, _ =>
    simp only [show nI 2 = 2 from rfl, show ¬ (2 : Int32) = 0 by decide, show ¬ (2 : Int32) = 1 by decide, if_true, if_false]
    rcases he with rfl | rfl
    · simp only [z0, if_false, if_true, R8]
      by_cases h : l < 56
      · rw [if_pos h, pbi_i (by omega), Nat.add_comm 8 l]
      · rw [if_neg h, pbi_n, pb_ge (by omega)]
    · simp only [z1, if_true, if_false, jrr, pb_or, R8, L56 l hl]
      by_cases h : l < 56
      · rw [if_pos h, pbi_i (by omega), Nat.add_comm 8 l]
        simp [h]
      · rw [if_neg h, pbi_i (by omega), pb_ge (show 64 ≤ 8 + l by omega)]
        simp [h]
  | 3, _ =>
    simp only [show nI 3 = 3 from rfl, show ¬ (3 : Int32) = 0 by decide, show ¬ (3 : Int32) = 1 by decide, show ¬ (3 : Int32) = 2 by decide, if_true, if_false]
    rw [pb_or, pb_and, L1 l hl, cFE ⟨l, hl⟩]
    rcases he with rfl | rfl
    · simp only [z0, if_false, if_true, pb_0, Bool.or_false]
      by_cases h : 0 < l % 8
      · have h1 : ¬ l < 1 := by omega
        rw [if_pos h, pbi_i (by omega)]
        simp only [h, h1, decide_true, decide_false, Bool.not_false, Bool.true_and, Bool.and_true]
      · rw [if_neg h, pbi_n]
        simp [h]
    · simp only [z1, if_false, if_true, pb_and, R7, c01 ⟨l, hl⟩]
      by_cases h : 0 < l % 8
      · have h1 : ¬ l < 1 := by omega
        rw [if_pos h, pbi_i (by omega)]
        simp only [h, h1, decide_true, decide_false, Bool.not_false, Bool.true_and, Bool.and_true, Bool.not_true, Bool.and_false, Bool.or_false]
      · rw [if_neg h, pbi_i (by omega), Nat.add_comm 7 l]
        simp only [h, decide_false, Bool.and_false, Bool.false_or, Bool.not_false, Bool.and_true]
/-- what comes from a side -/
def y8 (y : Nat → BitVec 8) (j : Int32) : BitVec 8 := if j < 0 then 0#8 else y j.toNatClampNeg
theorem y8_n {y : Nat → BitVec 8} : y8 y (-1) = 0#8 := rfl
theorem y8_i {y : Nat → BitVec 8} {j : Nat} (h : j < 64) : y8 y (nI j) = y j := by
  unfold y8
  rw [if_neg (nI_pos (by omega)), nI_clamp (by omega)]
theorem cut_come {G : Nat → Int64} {y : Nat → BitVec 8} (h : Cut G y) {wy : Nat} {e : Int32} (hy : wy < 4) (he : e = 0 ∨ e = 1) : Cut (fun k => pshf (G k) (nI wy) e) (fun l => y8 y (bes l wy e)) := by
  intro l hl k hk
  show pb (pshf (G k) (nI wy) e) l = (y8 y (bes l wy e)).getLsbD k
  rw [pshf_bes hl hy he]
  rcases bes_in (wy := wy) (e := e) hl with hb | ⟨j, hj, hb⟩
  · rw [hb, pbi_n, y8_n, BitVec.getLsbD_zero]
  · rw [hb, pbi_i hj, y8_i hj, h j hj k hk]
theorem cut_lan : Cut mf2 (fun l => BitVec.ofNat 8 l) := by
  have h : ∀ l : Fin 64, ∀ k : Fin 8, pb (mf2 k.1) l.1 = (BitVec.ofNat 8 l.1).getLsbD k.1 := by decide
  intro l hl k hk
  exact h ⟨l, hl⟩ ⟨k, hk⟩

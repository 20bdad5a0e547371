/-! reduce, part, rank, alike: the same answers. -/
theorem b8_sum : ∀ b : Fin 256, b.1 = (if b.1.testBit 0 then 1 else 0) + 2 * (if b.1.testBit 1 then 1 else 0) + 4 * (if b.1.testBit 2 then 1 else 0) + 8 * (if b.1.testBit 3 then 1 else 0) + 16 * (if b.1.testBit 4 then 1 else 0) + 32 * (if b.1.testBit 5 then 1 else 0) + 64 * (if b.1.testBit 6 then 1 else 0) + 128 * (if b.1.testBit 7 then 1 else 0) := by
  intro b
  have im : ∀ n : Nat, (if n % 2 = 1 then 1 else 0) = n % 2 := fun n => by
    split <;> omega
  simp only [Nat.testBit_eq_decide_div_mod_eq, decide_eq_true_eq, im, Nat.reducePow]
  have := b.2
  omega
theorem v8_sum {b : BitVec 8} : b.toNat = (if b.getLsbD 0 then 1 else 0) + 2 * (if b.getLsbD 1 then 1 else 0) + 4 * (if b.getLsbD 2 then 1 else 0) + 8 * (if b.getLsbD 3 then 1 else 0) + 16 * (if b.getLsbD 4 then 1 else 0) + 32 * (if b.getLsbD 5 then 1 else 0) + 64 * (if b.getLsbD 6 then 1 else 0) + 128 * (if b.getLsbD 7 then 1 else 0) := by
  simp only [← BitVec.testBit_toNat]
  exact b8_sum ⟨b.toNat, b.isLt⟩
/-- the sum over the lanes below n -/
def sml (y : Nat → BitVec 8) (m : Int64) : Nat → Nat
  | 0 => 0
  | n + 1 => sml y m n + (if pb m n then (y n).toNat else 0)
theorem sml_le {y : Nat → BitVec 8} {m : Int64} : ∀ n, sml y m n ≤ 255 * n := by
  intro n
  induction n with
  | zero => exact Nat.le_refl _
  | succ n ih =>
    have := (y n).isLt
    show sml y m n + (if pb m n then (y n).toNat else 0) ≤ _
    split <;> omega
theorem sml_pc {F : Nat → Int64} {y : Nat → BitVec 8} {m : Int64} (h : Cut F y) : ∀ n, n ≤ 64 → sml y m n = pcn (F 0 &&& m) n + 2 * pcn (F 1 &&& m) n + 4 * pcn (F 2 &&& m) n + 8 * pcn (F 3 &&& m) n + 16 * pcn (F 4 &&& m) n + 32 * pcn (F 5 &&& m) n + 64 * pcn (F 6 &&& m) n + 128 * pcn (F 7 &&& m) n := by
  intro n
  induction n with
  | zero => intro _; rfl
  | succ n ih =>
    intro hn
    have := v8_sum (b := y n)
    show sml y m n + (if pb m n then (y n).toNat else 0) = _
    rw [ih (by omega)]
    simp only [pcn, pb_and, h n (by omega) 0 (by decide), h n (by omega) 1 (by decide), h n (by omega) 2 (by decide), h n (by omega) 3 (by decide), h n (by omega) 4 (by decide), h n (by omega) 5 (by decide), h n (by omega) 6 (by decide), h n (by omega) 7 (by decide)]
    cases hm : pb m n
    · simp
    · simp only [Bool.and_true, if_true]
      omega
theorem shlA {n k : Nat} (hk : k < 8) (hn : n ≤ 64) : nI n <<< (nI k &&& 31) = nI (n * 2 ^ k) := by
  match k, hk with
  | 0, _ => exact pk_shlN _ 0 (by decide) (by omega)
  | 1, _ => exact pk_shlN _ 1 (by decide) (by omega)
  | 2, _ => exact pk_shlN _ 2 (by decide) (by omega)
  | 3, _ => exact pk_shlN _ 3 (by decide) (by omega)
  | 4, _ => exact pk_shlN _ 4 (by decide) (by omega)
  | 5, _ => exact pk_shlN _ 5 (by decide) (by omega)
  | 6, _ => exact pk_shlN _ 6 (by decide) (by omega)
  | 7, _ => exact pk_shlN _ 7 (by decide) (by omega)
theorem psum_n {F : Nat → Int64} {y : Nat → BitVec 8} {m : Int64} (h : Cut F y) : psum F m 8 = nI (sml y m 64) := by
  have l : ∀ x : Int64, pcn x 64 ≤ 64 := fun x => pcn_le
  simp only [psum, jbc_cn]
  rw [shlA (by decide) (l _), shlA (by decide) (l _), shlA (by decide) (l _), shlA (by decide) (l _), shlA (by decide) (l _), shlA (by decide) (l _), shlA (by decide) (l _), shlA (by decide) (l _), show (0 : Int32) = nI 0 from rfl]
  simp only [nI_add]
  congr 1
  rw [sml_pc h 64 (Nat.le_refl _)]
  omega
theorem mrs_n {x : Nat → Int32} {y : Nat → BitVec 8} {m : Int64} {v : Nat} (h : ∀ l, l < 64 → x (64 * v + l) = i8 (y l)) : ∀ n, n ≤ 64 → mrs x v m n = nI (sml y m n) := by
  intro n
  induction n with
  | zero => intro _; rfl
  | succ n ih =>
    intro hn
    show (if pbit m n = 1 then mrs x v m n + x (64 * v + n) else mrs x v m n) = nI (sml y m n + (if pb m n then (y n).toNat else 0))
    rw [ih (by omega), pbit_pb (by omega), h n (by omega)]
    cases pb m n
    · rw [if_neg (by decide), if_neg (by decide), Nat.add_zero]
    · rw [if_pos (by decide), if_pos rfl]
      exact nI_add _ _
theorem s_sum {F : Nat → Int64} {x : Nat → Int32} {y : Nat → BitVec 8} {m : Int64} {v : Nat} (hc : Cut F y) (h : ∀ l, l < 64 → x (64 * v + l) = i8 (y l)) : psum F m 8 = mrs x v m 64 := by
  rw [psum_n hc, mrs_n h 64 (Nat.le_refl _)]
/-! any, all -/
theorem mra_b {x : Nat → Int32} {y : Nat → BitVec 8} {m : Int64} {v : Nat} (h : ∀ l, l < 64 → x (64 * v + l) = i8 (y l)) : ∀ n, n ≤ 64 → ∀ i, i < 32 → (qb (mra x v m n) i = true ↔ ∃ l, l < n ∧ pb m l = true ∧ (y l).getLsbD i = true) := by
  intro n
  induction n with
  | zero =>
    intro _ i hi
    rw [show mra x v m 0 = 0 from rfl, qb_0]
    simp
  | succ n ih =>
    intro hn i hi
    have ih := ih (by omega) i hi
    show qb (if pbit m n = 1 then mra x v m n ||| x (64 * v + n) else mra x v m n) i = true ↔ _
    rw [pbit_pb (by omega)]
    cases hb : pb m n
    · rw [if_neg (by decide), ih]
      constructor
      · rintro ⟨l, h1, h2, h3⟩
        exact ⟨l, by omega, h2, h3⟩
      · rintro ⟨l, h1, h2, h3⟩
        by_cases e : l = n
        · rw [e, hb] at h2
          cases h2
        · exact ⟨l, by omega, h2, h3⟩
    · rw [if_pos (by decide), qb_or, h n (by omega), qb_i8, Bool.or_eq_true, ih]
      constructor
      · rintro (⟨l, h1, h2, h3⟩ | h1)
        · exact ⟨l, by omega, h2, h3⟩
        · exact ⟨n, by omega, hb, h1⟩
      · rintro ⟨l, h1, h2, h3⟩
        by_cases e : l = n
        · rw [e] at h3
          exact Or.inr h3
        · exact Or.inl ⟨l, by omega, h2, h3⟩
theorem z_iff {x : Int64} : x = 0 ↔ ∀ l, l < 64 → pb x l = false := by
  constructor
  · intro h l _
    rw [h, pb_0]
  · intro h
    exact pb_ext (fun l hl => by rw [h l hl, pb_0])
theorem pbny_b {F : Nat → Int64} {y : Nat → BitVec 8} {m : Int64} (hc : Cut F y) : ∀ n, n ≤ 8 → ∀ i, i < 32 → (qb (pbny F m n) i = true ↔ i < n ∧ ∃ l, l < 64 ∧ pb m l = true ∧ (y l).getLsbD i = true) := by
  intro n
  induction n with
  | zero =>
    intro _ i hi
    rw [show pbny F m 0 = 0 from rfl, qb_0]
    simp
  | succ n ih =>
    intro hn i hi
    have ih := ih (by omega) i hi
    show qb (pbny F m n ||| (if F n &&& m = 0 then 0 else (1 : Int32) <<< (nI n &&& 31))) i = true ↔ _
    rw [qb_or, Bool.or_eq_true, ih]
    by_cases c : F n &&& m = 0
    · rw [if_pos c, qb_0]
      have cz := z_iff.mp c
      constructor
      · rintro (⟨h1, h2⟩ | h1)
        · exact ⟨by omega, h2⟩
        · cases h1
      · rintro ⟨h1, l, h2, h3, h4⟩
        by_cases e : i = n
        · have := cz l h2
          rw [pb_and, h3, hc l h2 n (by omega), ← e, h4] at this
          cases this
        · exact Or.inl ⟨by omega, l, h2, h3, h4⟩
    · rw [if_neg c, qb_one (by omega) hi]
      constructor
      · rintro (⟨h1, h2⟩ | h1)
        · exact ⟨by omega, h2⟩
        · have e := of_decide_eq_true h1
          refine ⟨by omega, Classical.byContradiction (fun hz => c (z_iff.mpr (fun l hl => ?_)))⟩
          rw [pb_and, hc l hl n (by omega)]
          cases hb : pb m l
          · simp
          · cases hy : (y l).getLsbD n
            · simp
            · exact absurd ⟨l, hl, hb, by rw [e]; exact hy⟩ hz
      · rintro ⟨h1, h2⟩
        by_cases e : i = n
        · exact Or.inr (decide_eq_true e)
        · exact Or.inl ⟨by omega, h2⟩
theorem b_ext {a b : Bool} (h : a = true ↔ b = true) : a = b := by
  cases a <;> cases b <;> simp_all
theorem s_any {F : Nat → Int64} {x : Nat → Int32} {y : Nat → BitVec 8} {m : Int64} {v : Nat} (hc : Cut F y) (h : ∀ l, l < 64 → x (64 * v + l) = i8 (y l)) : pbny F m 8 = mra x v m 64 := by
  apply qb_ext
  intro i hi
  apply b_ext
  rw [pbny_b hc 8 (Nat.le_refl _) i hi, mra_b h 64 (Nat.le_refl _) i hi]
  constructor
  · exact fun z => z.2
  · rintro ⟨l, h1, h2, h3⟩
    refine ⟨?_, l, h1, h2, h3⟩
    refine Classical.byContradiction (fun z => ?_)
    rw [BitVec.getLsbD_of_ge _ _ (by omega)] at h3
    cases h3
theorem mrl_b {x : Nat → Int32} {y : Nat → BitVec 8} {m : Int64} {v : Nat} (h : ∀ l, l < 64 → x (64 * v + l) = i8 (y l)) : ∀ n, n ≤ 64 → ∀ i, i < 32 → (qb (mrl x v m n) i = true ↔ i < 8 ∧ ∀ l, l < n → pb m l = true → (y l).getLsbD i = true) := by
  have h255 : ∀ k : Fin 32, qb 255 k.1 = decide (k.1 < 8) := by decide
  intro n
  induction n with
  | zero =>
    intro _ i hi
    rw [show mrl x v m 0 = 255 from rfl, h255 ⟨i, hi⟩]
    simp
  | succ n ih =>
    intro hn i hi
    have ih := ih (by omega) i hi
    show qb (if pbit m n = 1 then mrl x v m n &&& x (64 * v + n) else mrl x v m n) i = true ↔ _
    rw [pbit_pb (by omega)]
    cases hb : pb m n
    · rw [if_neg (by decide), ih]
      constructor
      · rintro ⟨h1, h2⟩
        refine ⟨h1, fun l hl hm => ?_⟩
        by_cases e : l = n
        · rw [e, hb] at hm
          cases hm
        · exact h2 l (by omega) hm
      · rintro ⟨h1, h2⟩
        exact ⟨h1, fun l hl hm => h2 l (by omega) hm⟩
    · rw [if_pos (by decide), qb_and, h n (by omega), qb_i8, Bool.and_eq_true, ih]
      constructor
      · rintro ⟨⟨h1, h2⟩, h3⟩
        refine ⟨h1, fun l hl hm => ?_⟩
        by_cases e : l = n
        · rw [e]
          exact h3
        · exact h2 l (by omega) hm
      · rintro ⟨h1, h2⟩
        exact ⟨⟨h1, fun l hl hm => h2 l (by omega) hm⟩, h2 n (by omega) hb⟩
theorem pbll_b {F : Nat → Int64} {y : Nat → BitVec 8} {m : Int64} (hc : Cut F y) : ∀ n, n ≤ 8 → ∀ i, i < 32 → (qb (pbll F m n) i = true ↔ i < n ∧ ∀ l, l < 64 → pb m l = true → (y l).getLsbD i = true) := by
  intro n
  induction n with
  | zero =>
    intro _ i hi
    rw [show pbll F m 0 = 0 from rfl, qb_0]
    simp
  | succ n ih =>
    intro hn i hi
    have ih := ih (by omega) i hi
    show qb (pbll F m n ||| (if (F n ^^^ (-1)) &&& m = 0 then (1 : Int32) <<< (nI n &&& 31) else 0)) i = true ↔ _
    rw [qb_or, Bool.or_eq_true, ih]
    by_cases c : (F n ^^^ (-1)) &&& m = 0
    · rw [if_pos c, qb_one (by omega) hi]
      have cz := z_iff.mp c
      constructor
      · rintro (⟨h1, h2⟩ | h1)
        · exact ⟨by omega, h2⟩
        · have e := of_decide_eq_true h1
          refine ⟨by omega, fun l hl hm => ?_⟩
          have := cz l hl
          rw [pb_and, pb_not hl, hm, hc l hl n (by omega), ← e] at this
          cases hy : (y l).getLsbD i
          · rw [hy] at this
            cases this
          · rfl
      · rintro ⟨h1, h2⟩
        by_cases e : i = n
        · exact Or.inr (decide_eq_true e)
        · exact Or.inl ⟨by omega, h2⟩
    · rw [if_neg c, qb_0]
      constructor
      · rintro (⟨h1, h2⟩ | h1)
        · exact ⟨by omega, h2⟩
        · cases h1
      · rintro ⟨h1, h2⟩
        by_cases e : i = n
        · exfalso
          apply c
          apply z_iff.mpr
          intro l hl
          rw [pb_and, pb_not hl, hc l hl n (by omega)]
          cases hm : pb m l
          · simp
          · rw [← e, h2 l hl hm]
            rfl
        · exact Or.inl ⟨by omega, h2⟩
theorem s_allb {F : Nat → Int64} {x : Nat → Int32} {y : Nat → BitVec 8} {m : Int64} {v : Nat} (hc : Cut F y) (h : ∀ l, l < 64 → x (64 * v + l) = i8 (y l)) : pbll F m 8 = mrl x v m 64 := by
  apply qb_ext
  intro i hi
  apply b_ext
  rw [pbll_b hc 8 (Nat.le_refl _) i hi, mrl_b h 64 (Nat.le_refl _) i hi]
/-! how many aren't 0 -/
theorem s_many {F : Nat → Int64} {x : Nat → Int32} {y : Nat → BitVec 8} {m : Int64} {v : Nat} (hc : Cut F y) (h : ∀ l, l < 64 → x (64 * v + l) = i8 (y l)) : jbc (pany F 8 &&& m) = mrn x v m 64 := by
  rw [jbc_cn]
  have key : ∀ n, n ≤ 64 → nI (pcn (pany F 8 &&& m) n) = mrn x v m n := by
    intro n
    induction n with
    | zero => intro _; rfl
    | succ n ih =>
      intro hn
      show nI (pcn (pany F 8 &&& m) n + (if pb (pany F 8 &&& m) n then 1 else 0)) = (if pbit m n = 1 then mrn x v m n + (if x (64 * v + n) = 0 then 0 else 1) else mrn x v m n)
      rw [← ih (by omega), pb_and, cut_any hc (by omega), pbit_pb (by omega), h n (by omega)]
      simp only [i8_z]
      cases pb m n
      · simp
      · by_cases c : y n = 0#8
        · simp only [c, decide_true, Bool.not_true, Bool.false_and, if_true, Bool.false_eq_true, if_false, Nat.add_zero]
          rw [a0]
        · simp only [c, decide_false, Bool.not_false, Bool.true_and, if_true, if_false]
          rw [nI_succ]
  exact key 64 (Nat.le_refl _)
/-! the most, the first of them, the least -/
/-- t is the first of the lanes in m, below n, with the most -/
def Fst (y : Nat → BitVec 8) (m : Int64) (n t : Nat) : Prop := t < n ∧ pb m t = true ∧ (∀ l, l < n → pb m l = true → (y l).toNat ≤ (y t).toNat) ∧ ∀ l, l < t → pb m l = true → (y l).toNat < (y t).toNat
theorem mrm_f {x : Nat → Int32} {y : Nat → BitVec 8} {m : Int64} {v : Nat} (h : ∀ l, l < 64 → x (64 * v + l) = i8 (y l)) : ∀ n, n ≤ 64 → ((∀ l, l < n → pb m l = false) ∧ mrm' x v m n = -1 ∧ mrf x v m n = -1) ∨ ∃ t, Fst y m n t ∧ mrm' x v m n = i8 (y t) ∧ mrf x v m n = nI t := by
  intro n
  induction n with
  | zero => intro _; exact Or.inl ⟨fun l hl => absurd hl (Nat.not_lt_zero _), rfl, rfl⟩
  | succ n ih =>
    intro hn
    have e1 : mrm' x v m (n + 1) = if pbit m n = 1 then (if x (64 * v + n) ≤ mrm' x v m n then mrm' x v m n else x (64 * v + n)) else mrm' x v m n := rfl
    have e2 : mrf x v m (n + 1) = if pbit m n = 1 then (if x (64 * v + n) ≤ mrm' x v m n then mrf x v m n else nI n) else mrf x v m n := rfl
    rw [e1, e2, pbit_pb (by omega), h n (by omega)]
    cases hb : pb m n
    · rw [if_neg (by decide), if_neg (by decide)]
      rcases ih (by omega) with ⟨h1, h2, h3⟩ | ⟨t, ⟨h1, h2, h3, h4⟩, h5, h6⟩
      · refine Or.inl ⟨fun l hl => ?_, h2, h3⟩
        by_cases e : l = n
        · rw [e]; exact hb
        · exact h1 l (by omega)
      · refine Or.inr ⟨t, ⟨by omega, h2, fun l hl hm => ?_, h4⟩, h5, h6⟩
        by_cases e : l = n
        · rw [e, hb] at hm
          cases hm
        · exact h3 l (by omega) hm
    · rw [if_pos (show (if true = true then (1 : Int64) else 0) = 1 from rfl), if_pos (show (if true = true then (1 : Int64) else 0) = 1 from rfl)]
      have hy := (y n).isLt
      rcases ih (by omega) with ⟨h1, h2, h3⟩ | ⟨t, ⟨h1, h2, h3, h4⟩, h5, h6⟩
      · have c : ¬ i8 (y n) ≤ -1 := by
          intro z
          have := Int32.lt_of_le_of_lt z (show (-1 : Int32) < 0 by decide)
          exact nI_pos (show (y n).toNat < 2 ^ 31 by omega) this
        rw [h2, if_neg c, if_neg c]
        refine Or.inr ⟨n, ⟨by omega, hb, fun l hl hm => ?_, fun l hl hm => ?_⟩, rfl, rfl⟩
        · by_cases e : l = n
          · rw [e]; exact Nat.le_refl _
          · rw [h1 l (by omega)] at hm
            cases hm
        · rw [h1 l hl] at hm
          cases hm
      · have ht := (y t).isLt
        rw [h5, h6]
        by_cases c : (y n).toNat ≤ (y t).toNat
        · have c' : i8 (y n) ≤ i8 (y t) := nI_le c (by omega)
          rw [if_pos c', if_pos c']
          refine Or.inr ⟨t, ⟨by omega, h2, fun l hl hm => ?_, h4⟩, rfl, rfl⟩
          by_cases e : l = n
          · rw [e]; exact c
          · exact h3 l (by omega) hm
        · have c' : ¬ i8 (y n) ≤ i8 (y t) := nI_ge (by omega) (by omega)
          rw [if_neg c', if_neg c']
          refine Or.inr ⟨n, ⟨by omega, hb, fun l hl hm => ?_, fun l hl hm => ?_⟩, rfl, rfl⟩
          · by_cases e : l = n
            · rw [e]; exact Nat.le_refl _
            · have := h3 l (by omega) hm
              omega
          · have := h3 l hl hm
            omega
theorem top_s {b : BitVec 8} {n : Nat} (hn : n < 8) : b.toNat / 2 ^ (8 - (n + 1)) = 2 * (b.toNat / 2 ^ (8 - n)) + (if b.getLsbD (7 - n) then 1 else 0) := by
  rw [← BitVec.testBit_toNat, Nat.testBit_eq_decide_div_mod_eq]
  have e1 : 8 - n = (7 - n) + 1 := by omega
  have e2 : 8 - (n + 1) = 7 - n := by omega
  rw [e1, e2, Nat.pow_succ, ← Nat.div_div_eq_div_mul]
  generalize b.toNat / 2 ^ (7 - n) = r
  simp only [decide_eq_true_eq]
  split <;> omega
theorem pgre_i {F : Nat → Int64} {y : Nat → BitVec 8} {m : Int64} (hc : Cut F y) (hm : ¬ m = 0) : ∀ n, n ≤ 8 → (∃ t, t < 64 ∧ pb (pgre F m n) t = true) ∧ (∀ l, l < 64 → pb (pgre F m n) l = true → pb m l = true ∧ ∀ k, k < 64 → pb m k = true → (y k).toNat / 2 ^ (8 - n) ≤ (y l).toNat / 2 ^ (8 - n)) ∧ (∀ l k, l < 64 → k < 64 → pb (pgre F m n) l = true → pb m k = true → (y k).toNat / 2 ^ (8 - n) = (y l).toNat / 2 ^ (8 - n) → pb (pgre F m n) k = true) := by
  intro n
  induction n with
  | zero =>
    intro _
    obtain ⟨t, h1, h2, _⟩ := low_ex hm
    have z : ∀ b : BitVec 8, b.toNat / 2 ^ (8 - 0) = 0 := fun b => Nat.div_eq_of_lt b.isLt
    refine ⟨⟨t, h1, h2⟩, fun l _ hl => ⟨hl, fun k _ _ => ?_⟩, fun l k _ _ _ hk _ => hk⟩
    rw [z, z]
    exact Nat.le_refl _
  | succ n ih =>
    intro hn
    obtain ⟨⟨t0, a0, a1⟩, i1, i2⟩ := ih (by omega)
    have e : pgre F m (n + 1) = if pgre F m n &&& F (7 - n) = 0 then pgre F m n else pgre F m n &&& F (7 - n) := rfl
    have hF : ∀ l, l < 64 → pb (F (7 - n)) l = (y l).getLsbD (7 - n) := fun l hl => hc l hl _ (by omega)
    rw [e]
    by_cases c : pgre F m n &&& F (7 - n) = 0
    · rw [if_pos c]
      have cz := z_iff.mp c
      have hz : ∀ l, l < 64 → pb (pgre F m n) l = true → (y l).getLsbD (7 - n) = false := fun l hl hp => by
        have := cz l hl
        rw [pb_and, hp, hF l hl] at this
        simpa using this
      refine ⟨⟨t0, a0, a1⟩, fun l hl hp => ⟨(i1 l hl hp).1, fun k hk hmk => ?_⟩, fun l k hl hk hp hmk he => ?_⟩
      · have q := (i1 l hl hp).2 k hk hmk
        rw [top_s (by omega), top_s (by omega), hz l hl hp]
        by_cases q2 : (y k).toNat / 2 ^ (8 - n) = (y l).toNat / 2 ^ (8 - n)
        · rw [hz k hk (i2 l k hl hk hp hmk q2)]
          simp only [Bool.false_eq_true, if_false]
          omega
        · simp only [Bool.false_eq_true, if_false]
          split <;> omega
      · rw [top_s (by omega), top_s (by omega), hz l hl hp] at he
        refine i2 l k hl hk hp hmk ?_
        simp only [Bool.false_eq_true, if_false] at he
        revert he
        split <;> omega
    · rw [if_neg c]
      obtain ⟨t, t1, t2, _⟩ := low_ex c
      have hz : ∀ l, l < 64 → pb (pgre F m n &&& F (7 - n)) l = true → pb (pgre F m n) l = true ∧ (y l).getLsbD (7 - n) = true := fun l hl hp => by
        rw [pb_and, hF l hl, Bool.and_eq_true] at hp
        exact hp
      refine ⟨⟨t, t1, t2⟩, fun l hl hp => ?_, fun l k hl hk hp hmk he => ?_⟩
      · obtain ⟨p1, p2⟩ := hz l hl hp
        refine ⟨(i1 l hl p1).1, fun k hk hmk => ?_⟩
        have q := (i1 l hl p1).2 k hk hmk
        rw [top_s (by omega), top_s (by omega), p2]
        simp only [if_true]
        split <;> omega
      · obtain ⟨p1, p2⟩ := hz l hl hp
        have q := (i1 l hl p1).2 k hk hmk
        rw [top_s (by omega), top_s (by omega), p2] at he
        simp only [if_true] at he
        have hb : (y k).getLsbD (7 - n) = true := by
          cases hb : (y k).getLsbD (7 - n)
          · rw [hb] at he
            simp only [Bool.false_eq_true, if_false] at he
            omega
          · rfl
        rw [hb] at he
        simp only [if_true] at he
        rw [pb_and, hF k hk, hb, i2 l k hl hk p1 hmk (by omega)]
        rfl
theorem pgre_low {F : Nat → Int64} {y : Nat → BitVec 8} {m : Int64} {t : Nat} (hc : Cut F y) (hm : ¬ m = 0) (ht : Fst y m 64 t) : Low (pgre F m 8) t := by
  obtain ⟨⟨t0, a0, a1⟩, i1, i2⟩ := pgre_i hc hm 8 (Nat.le_refl _)
  obtain ⟨h1, h2, h3, h4⟩ := ht
  have d1 : ∀ b : BitVec 8, b.toNat / 2 ^ (8 - 8) = b.toNat := fun b => by
    rw [Nat.sub_self, Nat.pow_zero, Nat.div_one]
  simp only [d1] at i1 i2
  have q1 := (i1 t0 a0 a1).2 t h1 h2
  have q2 := h3 t0 a0 (i1 t0 a0 a1).1
  refine ⟨h1, i2 t0 t a0 h1 a1 h2 (by omega), fun k hk => ?_⟩
  refine Bool.eq_false_iff.mpr (fun hp => ?_)
  have q3 := h4 k hk (i1 k (by omega) hp).1
  have q4 := (i1 k (by omega) hp).2 t h1 h2
  omega
theorem s_most {F : Nat → Int64} {x : Nat → Int32} {y : Nat → BitVec 8} {m : Int64} {v : Nat} (hc : Cut F y) (h : ∀ l, l < 64 → x (64 * v + l) = i8 (y l)) : (m = 0 → mrm' x v m 64 = -1 ∧ mrf x v m 64 = -1) ∧ (¬ m = 0 → mrm' x v m 64 = plan F (jtl (pgre F m 8)) 8 ∧ mrf x v m 64 = jtl (pgre F m 8)) := by
  constructor
  · intro hm
    rcases mrm_f (m := m) h 64 (Nat.le_refl _) with ⟨_, h2, h3⟩ | ⟨t, ⟨h1, h2, _⟩, _⟩
    · exact ⟨h2, h3⟩
    · rw [hm, pb_0] at h2
      cases h2
  · intro hm
    rcases mrm_f (m := m) h 64 (Nat.le_refl _) with ⟨h1, _⟩ | ⟨t, ht, h5, h6⟩
    · exact absurd (z_iff.mpr h1) hm
    · rw [jtl_low (pgre_low hc hm ht), cut_plan hc ht.1]
      exact ⟨h5, h6⟩

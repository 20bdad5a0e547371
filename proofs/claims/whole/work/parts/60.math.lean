/-! Times, bit by bit. -/
theorem updL_1 {f : Nat → Int64} {k j : Nat} {v : Int64} : vp_updL f k v j = if j = k then v else f j := rfl
def mlA (a b : BitVec 8) : Nat → BitVec 8
  | 0 => 0#8
  | n + 1 => mlA a b n + (if a.getLsbD (7 - n) then b <<< (7 - n) else 0#8)
theorem car_low {u v : BitVec 8} {j : Nat} (hu : ∀ k, k < j → u.getLsbD k = false) (hv : ∀ k, k < j → v.getLsbD k = false) : ∀ k, k ≤ j → BitVec.carry k u v false = false := by
  intro k
  induction k with
  | zero => intro _; rw [BitVec.carry_zero]
  | succ k ih =>
    intro hk
    rw [BitVec.carry_succ, ih (by omega), hu k (by omega), hv k (by omega)]
    rfl
theorem shl_low {b : BitVec 8} {j k : Nat} (h : k < j) : (b <<< j).getLsbD k = false := by
  rw [BitVec.getLsbD_shiftLeft]
  simp [h]
theorem sel_low {c : Bool} {b : BitVec 8} {j k : Nat} (h : k < j) : (if c = true then b <<< j else 0#8).getLsbD k = false := by
  cases c
  · exact BitVec.getLsbD_zero
  · exact shl_low h
theorem mlA_low {a b : BitVec 8} : ∀ n, n ≤ 8 → ∀ k, k < 8 - n → (mlA a b n).getLsbD k = false := by
  intro n
  induction n with
  | zero => intro _ k hk; exact BitVec.getLsbD_zero
  | succ n ih =>
    intro hn k hk
    show (mlA a b n + (if a.getLsbD (7 - n) then b <<< (7 - n) else 0#8)).getLsbD k = false
    rw [BitVec.getLsbD_add (by omega), ih (by omega) k (by omega), sel_low (by omega), car_low (j := 7 - n) (fun k hk => ih (by omega) k (by omega)) (fun k hk => sel_low hk) k (by omega)]
    rfl
theorem mlA_8 {a b : BitVec 8} : mlA a b 8 = a * b := by
  rw [BitVec.mul_comm]
  have h : b * a = BitVec.mulRec b a 8 := by
    apply BitVec.eq_of_getLsbD_eq
    intro i hi
    rw [BitVec.getLsbD_mul]
  rw [h]
  simp only [BitVec.mulRec_succ_eq, BitVec.mulRec_zero_eq, mlA]
  have h8 : a.getLsbD 8 = false := BitVec.getLsbD_of_ge _ _ (Nat.le_refl _)
  have s0 : b <<< 0 = b := by
    apply BitVec.eq_of_getLsbD_eq
    intro i hi
    rw [BitVec.getLsbD_shiftLeft]
    simp [hi]
  simp only [h8, s0, Nat.reduceAdd, Nat.reduceSub, Nat.sub_zero, Nat.sub_self]
  simp only [BitVec.zero_add, if_false, Bool.false_eq_true, ite_false, BitVec.add_zero]
  ac_rfl
theorem cut_mul {F G : Nat → Int64} {y z : Nat → BitVec 8} (h : Cut F y) (h' : Cut G z) : Cut (pmul F G 8) (fun l => y l * z l) := by
  intro l hl
  have main : ∀ n, n ≤ 8 → (∀ k, k < 8 → k < 8 - n → pb (pmul F G n k) l = (y l).getLsbD k) ∧ (∀ k, k < 8 → 8 - n ≤ k → pb (pmul F G n k) l = (mlA (y l) (z l) n).getLsbD k) := by
    intro n
    induction n with
    | zero =>
      intro _
      exact ⟨fun k hk _ => h l hl k hk, fun k hk h8 => by omega⟩
    | succ n ih =>
      intro hn
      obtain ⟨i1, i2⟩ := ih (by omega)
      have hfac : pb (pmul F G n (7 - n)) l = (y l).getLsbD (7 - n) := i1 _ (by omega) (by omega)
      generalize hU : mlA (y l) (z l) n = U at i2
      generalize hV : (if (y l).getLsbD (7 - n) then z l <<< (7 - n) else 0#8) = V
      have hUl : ∀ k, k < 8 - n → U.getLsbD k = false := fun k hk => by rw [← hU]; exact mlA_low n (by omega) k hk
      have hVl : ∀ k, k < 7 - n → V.getLsbD k = false := fun k hk => by rw [← hV]; exact sel_low hk
      have hVb : ∀ i, 7 - n + i < 8 → V.getLsbD (7 - n + i) = ((z l).getLsbD i && (y l).getLsbD (7 - n)) := by
        intro i hi
        rw [← hV]
        cases (y l).getLsbD (7 - n)
        · simp
        · simp only [if_true, Bool.and_true]
          rw [BitVec.getLsbD_shiftLeft]
          have e1 : ¬ 7 - n + i < 7 - n := by omega
          have e2 : 7 - n + i - (7 - n) = i := by omega
          simp [hi]
      have hA : mlA (y l) (z l) (n + 1) = U + V := by
        show mlA (y l) (z l) n + _ = _
        rw [hU, hV]
      have inner : ∀ i, i ≤ n + 1 → pb (tin (vp_updL (pmul F G n) (7 - n) 0) G (pmul F G n (7 - n)) (7 - n) i).2 l = BitVec.carry (7 - n + i) U V false ∧ (∀ k, k < 8 → k < 7 - n → pb ((tin (vp_updL (pmul F G n) (7 - n) 0) G (pmul F G n (7 - n)) (7 - n) i).1 k) l = (y l).getLsbD k) ∧ (∀ k, k < 8 → 7 - n ≤ k → k < 7 - n + i → pb ((tin (vp_updL (pmul F G n) (7 - n) 0) G (pmul F G n (7 - n)) (7 - n) i).1 k) l = (U + V).getLsbD k) ∧ (∀ k, k < 8 → 7 - n + i ≤ k → pb ((tin (vp_updL (pmul F G n) (7 - n) 0) G (pmul F G n (7 - n)) (7 - n) i).1 k) l = U.getLsbD k) := by
        intro i
        induction i with
        | zero =>
          intro _
          refine ⟨?_, fun k hk hk2 => ?_, fun k hk h1 h2 => by omega, fun k hk h1 => ?_⟩
          · show pb 0 l = _
            rw [pb_0, Nat.add_zero, car_low (j := 7 - n) (fun k hk => hUl k (by omega)) hVl _ (Nat.le_refl _)]
          · show pb (vp_updL (pmul F G n) (7 - n) 0 k) l = _
            unfold vp_updL
            rw [if_neg (by omega)]
            exact i1 k hk (by omega)
          · show pb (vp_updL (pmul F G n) (7 - n) 0 k) l = _
            unfold vp_updL
            by_cases e : k = 7 - n
            · rw [if_pos e, pb_0, hUl k (by omega)]
            · rw [if_neg e]
              exact i2 k hk (by omega)
        | succ i ihi =>
          intro hi
          obtain ⟨c1, c2, c3, c4⟩ := ihi (by omega)
          have hj8 : 7 - n + i < 8 := by omega
          have hx := c4 (7 - n + i) hj8 (Nat.le_refl _)
          have hg : pb (G i &&& pmul F G n (7 - n)) l = V.getLsbD (7 - n + i) := by
            rw [pb_and, h' l hl i (by omega), hfac, hVb i hj8]
          refine ⟨?_, fun k hk hk2 => ?_, fun k hk h1 h2 => ?_, fun k hk h1 => ?_⟩
          · show pb (((tin (vp_updL (pmul F G n) (7 - n) 0) G (pmul F G n (7 - n)) (7 - n) i).1 (7 - n + i) &&& (G i &&& pmul F G n (7 - n))) ||| (((tin (vp_updL (pmul F G n) (7 - n) 0) G (pmul F G n (7 - n)) (7 - n) i).1 (7 - n + i) ^^^ (G i &&& pmul F G n (7 - n))) &&& (tin (vp_updL (pmul F G n) (7 - n) 0) G (pmul F G n (7 - n)) (7 - n) i).2)) l = BitVec.carry (7 - n + i + 1) U V false
            generalize G i &&& pmul F G n (7 - n) = gg at hg ⊢
            rw [BitVec.carry_succ, pb_or, pb_and, pb_and, pb_xor, hx, hg, c1]
            cases U.getLsbD (7 - n + i) <;> cases V.getLsbD (7 - n + i) <;> cases BitVec.carry (7 - n + i) U V false <;> rfl
          · show pb (vp_updL _ (7 - n + i) _ k) l = _
            unfold vp_updL
            rw [if_neg (by omega)]
            exact c2 k hk hk2
          · show pb (vp_updL _ (7 - n + i) _ k) l = _
            rw [updL_1]
            by_cases e : k = 7 - n + i
            · rw [if_pos e, pb_xor, pb_xor, hx, hg, c1, e, BitVec.getLsbD_add hj8]
              cases U.getLsbD (7 - n + i) <;> cases V.getLsbD (7 - n + i) <;> cases BitVec.carry (7 - n + i) U V false <;> rfl
            · rw [if_neg e]
              exact c3 k hk h1 (by omega)
          · show pb (vp_updL _ (7 - n + i) _ k) l = _
            unfold vp_updL
            rw [if_neg (by omega)]
            exact c4 k hk (by omega)
      obtain ⟨_, c2, c3, _⟩ := inner (n + 1) (Nat.le_refl _)
      refine ⟨fun k hk h1 => c2 k hk (by omega), fun k hk h1 => ?_⟩
      rw [hA]
      exact c3 k hk (by omega) (by omega)
  intro k hk
  rw [(main 8 (Nat.le_refl _)).2 k hk (by omega), mlA_8]
/-- what two numbers come to -/
def w8 (op : Nat) (a b : BitVec 8) : BitVec 8 := match op with
  | 0 => a + b
  | 1 => a - b
  | 2 => a * b
  | 3 => a &&& b
  | 4 => if a < b then 1#8 else 0#8
  | 5 => if a = b then 1#8 else 0#8
  | 6 => if a < b then a else b
  | _ => if a < b then b else a
theorem cut_c {F : Nat → Int64} {y z : Nat → BitVec 8} (h : Cut F y) (e : ∀ l, l < 64 → y l = z l) : Cut F z := by
  intro l hl k hk
  rw [h l hl k hk, e l hl]
theorem cut_pair {F G : Nat → Int64} {y z : Nat → BitVec 8} (h : Cut F y) (h' : Cut G z) {op : Nat} (ho : op < 8) : Cut (ppair op F G) (fun l => w8 op (y l) (z l)) := by
  match op, ho with
  | 0, _ => exact cut_lfill.mpr (cut_add h h')
  | 1, _ => exact cut_lfill.mpr (cut_sub h h')
  | 2, _ => exact cut_mul h h'
  | 3, _ => exact cut_lfill.mpr (cut_and h h')
  | 4, _ =>
    refine cut_lfill.mpr (cut_c cut_tru (fun l hl => ?_))
    rw [cut_bor h h' hl]
    simp only [w8, decide_eq_true_eq]
  | 5, _ =>
    refine cut_lfill.mpr (cut_c cut_tru (fun l hl => ?_))
    rw [pb_not hl, cut_dif h h' hl]
    simp only [w8, Bool.not_not, decide_eq_true_eq]
  | 6, _ =>
    refine cut_lfill.mpr (cut_c (cut_bec h h') (fun l hl => ?_))
    rw [pb_not hl, cut_bor h h' hl]
    by_cases c : y l < z l
    · simp [w8, c]
    · simp [w8, c]
  | 7, _ =>
    refine cut_lfill.mpr (cut_c (cut_bec h h') (fun l hl => ?_))
    rw [cut_bor h h' hl]
    by_cases c : y l < z l
    · simp [w8, c]
    · simp [w8, c]
  | n + 8, ho => exact absurd ho (by omega)

/-! Numbers cut into planes. -/
def qb (x : Int32) (k : Nat) : Bool := x.toBitVec.getLsbD k
theorem qb_and {x y : Int32} {k : Nat} : qb (x &&& y) k = (qb x k && qb y k) := by
  unfold qb
  rw [Int32.toBitVec_and, BitVec.getLsbD_and]
theorem qb_or {x y : Int32} {k : Nat} : qb (x ||| y) k = (qb x k || qb y k) := by
  unfold qb
  rw [Int32.toBitVec_or, BitVec.getLsbD_or]
theorem qb_xor {x y : Int32} {k : Nat} : qb (x ^^^ y) k = (qb x k ^^ qb y k) := by
  unfold qb
  rw [Int32.toBitVec_xor, BitVec.getLsbD_xor]
theorem qb_ext {x y : Int32} (h : ∀ k, k < 32 → qb x k = qb y k) : x = y := by
  apply Int32.toBitVec_inj.mp
  apply BitVec.eq_of_getLsbD_eq
  intro i hi
  exact h i hi
theorem qb_nI {n k : Nat} : qb (nI n) k = (decide (k < 32) && n.testBit k) := by
  show (BitVec.ofNat 32 n).getLsbD k = _
  rw [BitVec.getLsbD_ofNat]
theorem qb_0 {k : Nat} : qb 0 k = false := by
  show (0#32).getLsbD k = false
  exact BitVec.getLsbD_zero
def i8 (b : BitVec 8) : Int32 := nI b.toNat
theorem qb_i8 {b : BitVec 8} {k : Nat} : qb (i8 b) k = b.getLsbD k := by
  unfold i8
  rw [qb_nI, BitVec.testBit_toNat]
  by_cases h : k < 32
  · simp [h]
  · rw [BitVec.getLsbD_of_ge _ _ (by omega)]
    simp
theorem sh_q : ∀ a : Fin 32, nI a.1 &&& 31 = nI a.1 := by decide
theorem sm_q : ∀ a : Fin 32, (nI a.1).toBitVec.smod 32 = BitVec.ofNat 32 a.1 := by decide
theorem qb_1 {k : Nat} : qb 1 k = decide (k = 0) := by
  show (1#32).getLsbD k = _
  rw [BitVec.getLsbD_one]
  simp
theorem qb_one {a k : Nat} (ha : a < 32) (hk : k < 32) : qb ((1 : Int32) <<< (nI a &&& 31)) k = decide (k = a) := by
  rw [sh_q ⟨a, ha⟩]
  unfold qb
  rw [Int32.toBitVec_shiftLeft, sm_q ⟨a, ha⟩]
  show ((1#32) <<< (BitVec.ofNat 32 a).toNat).getLsbD k = _
  rw [BitVec.getLsbD_shiftLeft, BitVec.toNat_ofNat, Nat.mod_eq_of_lt (by omega), BitVec.getLsbD_one]
  by_cases h : k = a
  · subst h
    simp [hk]
  · by_cases h2 : k < a
    · simp [h2, h]
    · have : ¬ k - a = 0 := by omega
      simp [this, h]
theorem qb_tst {x : Int32} {k : Nat} (hk : k < 32) : (x >>> (nI k &&& 31)) &&& 1 = 1 ↔ qb x k = true := by
  have h0 : qb (x >>> (nI k &&& 31)) 0 = qb x k := by
    rw [sh_q ⟨k, hk⟩]
    unfold qb
    rw [Int32.toBitVec_shiftRight, sm_q ⟨k, hk⟩]
    show (x.toBitVec.sshiftRight (BitVec.ofNat 32 k).toNat).getLsbD 0 = _
    rw [BitVec.getLsbD_sshiftRight, BitVec.toNat_ofNat, Nat.mod_eq_of_lt (by omega)]
    simp [hk]
  have h1 : (x >>> (nI k &&& 31)) &&& 1 = if qb x k then 1 else 0 := by
    apply qb_ext
    intro i hi
    rw [qb_and, qb_1]
    by_cases e : i = 0
    · subst e
      rw [h0]
      cases hb : qb x k
      · simp [qb_0]
      · simp [qb_1]
    · cases hb : qb x k
      · simp [qb_0, e]
      · simp [qb_1, e]
  rw [h1]
  cases qb x k
  · simp
  · simp
/-- the planes F are the numbers y -/
def Cut (F : Nat → Int64) (y : Nat → BitVec 8) : Prop := ∀ l, l < 64 → ∀ k, k < 8 → pb (F k) l = (y l).getLsbD k
theorem plan_b {F : Nat → Int64} {a : Nat} (ha : a < 64) : ∀ n, n ≤ 8 → ∀ i, i < 32 → qb (plan F (nI a) n) i = (decide (i < n) && pb (F i) a) := by
  intro n
  induction n with
  | zero =>
    intro _ i hi
    rw [show plan F (nI a) 0 = 0 from rfl, qb_0]
    simp
  | succ n ih =>
    intro hn i hi
    have := ih (by omega) i hi
    rw [show plan F (nI a) (n + 1) = plan F (nI a) n ||| ((pbit (F n) a).toInt32 <<< (nI n &&& 31)) from rfl, qb_or, this, pbit_pb ha]
    cases hb : pb (F n) a
    · rw [show ((if false = true then (1 : Int64) else 0).toInt32 <<< (nI n &&& 31)) = (0 : Int32) <<< (nI n &&& 31) from rfl]
      have z : (0 : Int32) <<< (nI n &&& 31) = 0 := by
        rw [sh_q ⟨n, by omega⟩]
        apply qb_ext
        intro j hj
        unfold qb
        rw [Int32.toBitVec_shiftLeft, sm_q ⟨n, by omega⟩]
        show ((0#32) <<< (BitVec.ofNat 32 n).toNat).getLsbD j = (0#32).getLsbD j
        rw [BitVec.getLsbD_shiftLeft]
        simp
      rw [z, qb_0, Bool.or_false]
      by_cases e : i = n
      · subst e
        simp [hb]
      · have : (i < n + 1) ↔ (i < n) := by omega
        simp [this]
    · rw [show ((if true = true then (1 : Int64) else 0).toInt32 <<< (nI n &&& 31)) = (1 : Int32) <<< (nI n &&& 31) from rfl, qb_one (by omega) hi]
      by_cases e : i = n
      · subst e
        simp [hb]
      · have : (i < n + 1) ↔ (i < n) := by omega
        simp [this, e]
theorem cut_plan {F : Nat → Int64} {y : Nat → BitVec 8} (h : Cut F y) {a : Nat} (ha : a < 64) : plan F (nI a) 8 = i8 (y a) := by
  apply qb_ext
  intro i hi
  rw [plan_b ha 8 (Nat.le_refl _) i hi, qb_i8]
  by_cases h8 : i < 8
  · rw [h a ha i h8]
    simp [h8]
  · rw [BitVec.getLsbD_of_ge _ _ (by omega)]
    simp [h8]
theorem cut_lfill {F G : Nat → Int64} {y : Nat → BitVec 8} : Cut (lfill F G 8) y ↔ Cut F y := by
  constructor
  · intro h l hl k hk
    have := h l hl k hk
    unfold lfill at this
    rw [if_pos hk] at this
    exact this
  · intro h l hl k hk
    unfold lfill
    rw [if_pos hk]
    exact h l hl k hk
theorem cut_u {F : Nat → Int64} {y z : Nat → BitVec 8} (h : Cut F y) (h' : Cut F z) {l : Nat} (hl : l < 64) : y l = z l := by
  apply BitVec.eq_of_getLsbD_eq
  intro i hi
  rw [← h l hl i hi, ← h' l hl i hi]
theorem cut_all {c : BitVec 8} : Cut (pall (i8 c)) (fun _ => c) := by
  intro l hl k hk
  unfold pall
  by_cases hb : c.getLsbD k = true
  · rw [if_pos ((qb_tst (by omega)).mpr (by rw [qb_i8]; exact hb)), pb_m hl, hb]
  · rw [if_neg (fun z => hb (by rw [← qb_i8]; exact (qb_tst (by omega)).mp z)), pb_0]
    exact (Bool.eq_false_iff.mpr hb).symm
theorem cut_set {F : Nat → Int64} {y : Nat → BitVec 8} (h : Cut F y) {a : Nat} (ha : a < 64) {c : BitVec 8} : Cut (pset F (nI a) (i8 c)) (fun l => if l = a then c else y l) := by
  intro l hl k hk
  unfold pset
  by_cases hb : c.getLsbD k = true
  · rw [if_pos ((qb_tst (by omega)).mpr (by rw [qb_i8]; exact hb)), pb_or, pb_one ha hl, h l hl k hk]
    by_cases e : l = a
    · simp [e, hb]
    · simp [e]
  · rw [if_neg (fun z => hb (by rw [← qb_i8]; exact (qb_tst (by omega)).mp z)), pb_and, pb_not hl, pb_one ha hl, h l hl k hk]
    by_cases e : l = a
    · simp [e, Bool.eq_false_iff.mpr hb]
    · simp [e]
theorem cut_bec {F G : Nat → Int64} {y z : Nat → BitVec 8} (h : Cut F y) (h' : Cut G z) {m : Int64} : Cut (pbec F G m) (fun l => if pb m l then z l else y l) := by
  intro l hl k hk
  unfold pbec
  rw [pb_or, pb_and, pb_and, pb_not hl, h l hl k hk, h' l hl k hk]
  cases hm : pb m l
  · simp [hm]
  · simp [hm]
theorem cut_add {F G : Nat → Int64} {y z : Nat → BitVec 8} (h : Cut F y) (h' : Cut G z) : Cut (padd F G) (fun l => y l + z l) := by
  intro l hl
  have car : ∀ k, k ≤ 8 → pb (pcar F G k) l = BitVec.carry k (y l) (z l) false := by
    intro k
    induction k with
    | zero =>
      intro _
      rw [show pcar F G 0 = 0 from rfl, pb_0]
      rw [BitVec.carry_zero]
    | succ k ih =>
      intro hk
      rw [show pcar F G (k + 1) = (F k &&& G k) ||| ((F k ^^^ G k) &&& pcar F G k) from rfl, pb_or, pb_and, pb_and, pb_xor, ih (by omega), h l hl k (by omega), h' l hl k (by omega), BitVec.carry_succ]
      cases (y l).getLsbD k <;> cases (z l).getLsbD k <;> cases BitVec.carry k (y l) (z l) false <;> rfl
  intro k hk
  show pb (F k ^^^ G k ^^^ pcar F G k) l = _
  rw [pb_xor, pb_xor, car k (by omega), h l hl k hk, h' l hl k hk, BitVec.getLsbD_add hk]
  cases (y l).getLsbD k <;> cases (z l).getLsbD k <;> cases BitVec.carry k (y l) (z l) false <;> rfl
/-- the number that planes have in a lane -/
def num8 (F : Nat → Int64) (l : Nat) : BitVec 8 := (plan F (nI l) 8).toBitVec.setWidth 8
theorem cut_num {F : Nat → Int64} : Cut F (num8 F) := by
  intro l hl k hk
  unfold num8
  rw [BitVec.getLsbD_setWidth]
  have := plan_b (F := F) hl 8 (Nat.le_refl _) k (by omega)
  unfold qb at this
  rw [this]
  simp [hk]
theorem cut_sub {F G : Nat → Int64} {y z : Nat → BitVec 8} (h : Cut F y) (h' : Cut G z) : Cut (psub F G) (fun l => y l - z l) := by
  have hd := cut_num (F := psub F G)
  have hs := cut_add hd h'
  intro l hl k hk
  have car : ∀ k, k ≤ 8 → pb (pcar (psub F G) G k) l = pb (pbor F G k) l := by
    intro k
    induction k with
    | zero => intro _; rfl
    | succ k ih =>
      intro hk
      rw [show pcar (psub F G) G (k + 1) = (psub F G k &&& G k) ||| ((psub F G k ^^^ G k) &&& pcar (psub F G) G k) from rfl, show pbor F G (k + 1) = ((F k ^^^ (-1)) &&& G k) ||| ((F k ^^^ G k ^^^ (-1)) &&& pbor F G k) from rfl, show psub F G k = F k ^^^ G k ^^^ pbor F G k from rfl]
      simp only [pb_or, pb_and, pb_xor, pb_m hl, ih (by omega)]
      cases pb (F k) l <;> cases pb (G k) l <;> cases pb (pbor F G k) l <;> rfl
  have e : num8 (psub F G) l + z l = y l := by
    apply BitVec.eq_of_getLsbD_eq
    intro i hi
    have := hs l hl i hi
    rw [← this, ← h l hl i hi]
    show pb (psub F G i ^^^ G i ^^^ pcar (psub F G) G i) l = _
    rw [show psub F G i = F i ^^^ G i ^^^ pbor F G i from rfl]
    simp only [pb_xor, car i (by omega)]
    cases pb (F i) l <;> cases pb (G i) l <;> cases pb (pbor F G i) l <;> rfl
  rw [hd l hl k hk]
  show _ = (y l - z l).getLsbD k
  rw [← e, BitVec.add_sub_cancel]
theorem cut_bor {F G : Nat → Int64} {y z : Nat → BitVec 8} (h : Cut F y) (h' : Cut G z) {l : Nat} (hl : l < 64) : pb (pbor F G 8) l = decide (y l < z l) := by
  have key : ∀ k, k ≤ 8 → pb (pbor F G k) l = !BitVec.carry k (y l) (~~~ z l) true := by
    intro k
    induction k with
    | zero =>
      intro _
      rw [show pbor F G 0 = 0 from rfl, pb_0, BitVec.carry_zero]
      rfl
    | succ k ih =>
      intro hk
      rw [show pbor F G (k + 1) = ((F k ^^^ (-1)) &&& G k) ||| ((F k ^^^ G k ^^^ (-1)) &&& pbor F G k) from rfl, BitVec.carry_succ]
      simp only [pb_or, pb_and, pb_xor, pb_m hl, ih (by omega), h l hl k (by omega), h' l hl k (by omega), BitVec.getLsbD_not, show k < 8 by omega, decide_true, Bool.true_and]
      cases (y l).getLsbD k <;> cases (z l).getLsbD k <;> cases BitVec.carry k (y l) (~~~ z l) true <;> rfl
  rw [key 8 (Nat.le_refl _), ← BitVec.ult_eq_not_carry]
  rfl
theorem cut_and {F G : Nat → Int64} {y z : Nat → BitVec 8} (h : Cut F y) (h' : Cut G z) : Cut (fun k => F k &&& G k) (fun l => y l &&& z l) := by
  intro l hl k hk
  show pb (F k &&& G k) l = (y l &&& z l).getLsbD k
  rw [pb_and, h l hl k hk, h' l hl k hk, BitVec.getLsbD_and]
theorem cut_not {F : Nat → Int64} {y : Nat → BitVec 8} (h : Cut F y) : Cut (fun k => F k ^^^ (-1)) (fun l => ~~~ y l) := by
  intro l hl k hk
  show pb (F k ^^^ (-1)) l = (~~~ y l).getLsbD k
  rw [pb_not hl, h l hl k hk, BitVec.getLsbD_not]
  simp [hk]
theorem cut_tru {m : Int64} : Cut (ptru m) (fun l => if pb m l then 1#8 else 0#8) := by
  intro l hl k hk
  unfold ptru
  by_cases e : k = 0
  · subst e
    rw [if_pos (show nI 0 = 0 from rfl)]
    cases hb : pb m l
    · simp [hb]
    · simp [hb]
  · rw [if_neg (fun z => e ((nI_z hk).mp z)), pb_0]
    cases hb : pb m l
    · simp [hb]
    · simp [hb, BitVec.getLsbD_one, e]
theorem cut_any {F : Nat → Int64} {y : Nat → BitVec 8} (h : Cut F y) {l : Nat} (hl : l < 64) : pb (pany F 8) l = !decide (y l = 0#8) := by
  have key : ∀ n, n ≤ 8 → (pb (pany F n) l = true ↔ ∃ k, k < n ∧ (y l).getLsbD k = true) := by
    intro n
    induction n with
    | zero =>
      intro _
      rw [show pany F 0 = 0 from rfl, pb_0]
      simp
    | succ n ih =>
      intro hn
      rw [show pany F (n + 1) = pany F n ||| F n from rfl, pb_or, Bool.or_eq_true, ih (by omega), h l hl n (by omega)]
      constructor
      · rintro (⟨k, hk, hb⟩ | hb)
        · exact ⟨k, by omega, hb⟩
        · exact ⟨n, by omega, hb⟩
      · rintro ⟨k, hk, hb⟩
        by_cases e : k = n
        · subst e
          exact Or.inr hb
        · exact Or.inl ⟨k, by omega, hb⟩
  by_cases e : y l = 0#8
  · have : ¬ pb (pany F 8) l = true := by
      rw [key 8 (Nat.le_refl _), e]
      rintro ⟨k, hk, hb⟩
      rw [BitVec.getLsbD_zero] at hb
      cases hb
    rw [Bool.eq_false_iff.mpr this]
    simp [e]
  · have : pb (pany F 8) l = true := by
      rw [key 8 (Nat.le_refl _)]
      refine Classical.byContradiction (fun hc => e ?_)
      apply BitVec.eq_of_getLsbD_eq
      intro i hi
      rw [BitVec.getLsbD_zero]
      exact Bool.eq_false_iff.mpr (fun hb => hc ⟨i, hi, hb⟩)
    rw [this]
    simp [e]
theorem cut_dif {F G : Nat → Int64} {y z : Nat → BitVec 8} (h : Cut F y) (h' : Cut G z) {l : Nat} (hl : l < 64) : pb (pdif F G 8) l = !decide (y l = z l) := by
  have hx : Cut (fun k => F k ^^^ G k) (fun l => y l ^^^ z l) := by
    intro l hl k hk
    show pb (F k ^^^ G k) l = (y l ^^^ z l).getLsbD k
    rw [pb_xor, h l hl k hk, h' l hl k hk, BitVec.getLsbD_xor]
  have e : ∀ n, pdif F G n = pany (fun k => F k ^^^ G k) n := by
    intro n
    induction n with
    | zero => rfl
    | succ n ih =>
      show pdif F G n ||| (F n ^^^ G n) = pany (fun k => F k ^^^ G k) n ||| (F n ^^^ G n)
      rw [ih]
  rw [e, cut_any hx hl]
  congr 1
  apply decide_eq_decide.mpr
  constructor
  · intro hz
    apply BitVec.eq_of_getLsbD_eq
    intro i hi
    have : (y l ^^^ z l).getLsbD i = false := by
      rw [hz, BitVec.getLsbD_zero]
    rw [BitVec.getLsbD_xor] at this
    revert this
    cases (y l).getLsbD i <;> cases (z l).getLsbD i <;> simp
  · intro hz
    rw [hz, BitVec.xor_self]

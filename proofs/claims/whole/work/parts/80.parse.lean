/-! The parser, without any machine: bt p is the byte at p, or -1 behind the last one. -/
abbrev Pr := Except Nat (Nat × Tr)
abbrev dgt (c : Int32) : Prop := ¬ c < 48 ∧ ¬ 57 < c
abbrev vrb (c : Int32) : Prop := ¬ c < 97 ∧ ¬ 104 < c
theorem vr_ex {c : Int32} (h : vrb c) : ∃ j, j < 8 ∧ c = nI (97 + j) := by
  obtain ⟨j, h1, h2⟩ := nI_of2 (M := 104) (n := 104) rfl (fun z => h.1 (Int32.lt_of_lt_of_le z (by decide))) (Int32.not_lt.mp h.2)
  subst h2
  have : ¬ j < 97 := fun z => h.1 (nI_lt (b := 97) z (by decide))
  exact ⟨j - 97, by omega, by rw [show 97 + (j - 97) = j by omega]⟩
theorem dg_ex {c : Int32} (h : dgt c) : ∃ j, j < 10 ∧ c = nI (48 + j) := by
  obtain ⟨j, h1, h2⟩ := nI_of2 (M := 57) (n := 57) rfl (fun z => h.1 (Int32.lt_of_lt_of_le z (by decide))) (Int32.not_lt.mp h.2)
  subst h2
  have : ¬ j < 48 := fun z => h.1 (nI_lt (b := 48) z (by decide))
  exact ⟨j - 48, by omega, by rw [show 48 + (j - 48) = j by omega]⟩
def pDg (bt : Nat → Int32) : Nat → Nat → Int32 → Nat × Int32
  | 0, p, x => (p, x)
  | n + 1, p, x => if dgt (bt p) then pDg bt n (p + 1) (x * 10 + bt p - 48) else (p, x)
def pNum (bt : Nat → Int32) (p : Nat) : Pr := if (pDg bt 3 p 0).2 ≤ 255 then .ok ((pDg bt 3 p 0).1, .num (pDg bt 3 p 0).2.toNatClampNeg) else .error p
/-- units with signs between them -/
def pLp (bt : Nat → Int32) (a b : Int32) (ka kb : Nat) (U : Nat → Pr) : Nat → Nat → Tr → Pr
  | 0, p, t => .ok (p, t)
  | n + 1, p, t => if bt p = a ∨ bt p = b then (match U (p + 1) with
    | .error q => .error q
    | .ok r => pLp bt a b ka kb U n r.1 (.mulL (if bt p = a then ka else kb) (.add t r.2))) else .ok (p, t)
def pOp (bt : Nat → Int32) (a b : Int32) (ka kb : Nat) (U : Nat → Pr) (p : Nat) : Pr := match U p with
  | .error q => .error q
  | .ok r => pLp bt a b ka kb U 160 r.1 r.2
def pMul (bt : Nat → Int32) (U : Nat → Pr) : Nat → Pr := pOp bt 42 38 2 3 U
def pAdd (bt : Nat → Int32) (U : Nat → Pr) : Nat → Pr := pOp bt 43 45 0 1 (pMul bt U)
def pCmp (bt : Nat → Int32) (U : Nat → Pr) (p : Nat) : Pr := match pAdd bt U p with
  | .error q => .error q
  | .ok r => if bt r.1 = 60 ∨ bt r.1 = 61 then (match pAdd bt U (r.1 + 1) with
    | .error q => .error q
    | .ok r' => .ok (r'.1, .mulL (if bt r.1 = 60 then 4 else 5) (.add r.2 r'.2))) else .ok r
def pUnit (bt : Nat → Int32) : Nat → Nat → Pr
  | 0, p => if dgt (bt p) then pNum bt p else if vrb (bt p) then .ok (p + 1, .var (bt p - 97).toNatClampNeg) else if bt p = 35 then .ok (p + 1, .num 256) else .error p
  | k + 1, p => if dgt (bt p) then pNum bt p else if vrb (bt p) then .ok (p + 1, .var (bt p - 97).toNatClampNeg) else if bt p = 35 then .ok (p + 1, .num 256) else
    if bt p = 126 then (match pUnit bt k (p + 1) with
      | .error q => .error q
      | .ok r => .ok (r.1, .mulR r.2 0))
    else if bt p = 40 then (match pCmp bt (pUnit bt k) (p + 1) with
      | .error q => .error q
      | .ok r => if bt r.1 = 41 then .ok (r.1 + 1, r.2) else .error r.1)
    else .error p
def pFor (bt : Nat → Int32) : Nat → Pr := pCmp bt (pUnit bt 5)
def wyN (c : Int32) : Option Nat := if c = 110 then some 0 else if c = 101 then some 1 else if c = 115 then some 2 else if c = 119 then some 3 else none
def pPln (bt : Nat → Int32) (p : Nat) : Pr := if vrb (bt p) then
    (if bt (p + 1) = 64 then (match wyN (bt (p + 2)) with
      | none => .error (p + 2)
      | some wy => if vrb (bt (p + 3)) then .ok (p + 4, .mulR (.mulL wy (.var (bt (p + 3) - 97).toNatClampNeg)) (bt p - 97).toNatClampNeg) else .error (p + 3))
    else if bt (p + 1) = 61 then (match pFor bt (p + 2) with
      | .error q => .error q
      | .ok r => .ok (r.1, .mulL (bt p - 97).toNatClampNeg r.2))
    else .error (p + 1))
  else .error p
def pSeq (bt : Nat → Int32) (D : Nat → Pr) : Nat → Nat → Pr
  | 0, p => .ok (p, .num 0)
  | n + 1, p => if bt p = 59 then (match D (p + 1) with
    | .error q => .error q
    | .ok r => match pSeq bt D n r.1 with
      | .error q => .error q
      | .ok r' => .ok (r'.1, .add r.2 r'.2)) else .ok (p, .num 0)
def pBlk (bt : Nat → Int32) (D : Nat → Pr) (p : Nat) : Pr := match D p with
  | .error q => .error q
  | .ok r => match pSeq bt D 160 r.1 with
    | .error q => .error q
    | .ok r' => .ok (r'.1, .add r.2 r'.2)
def pCho (bt : Nat → Int32) (B : Nat → Pr) (p : Nat) : Pr := match pFor bt (p + 1) with
  | .error q => .error q
  | .ok r => if bt r.1 = 58 then (match B (r.1 + 1) with
    | .error q => .error q
    | .ok a => if bt a.1 = 124 then (match B (a.1 + 1) with
        | .error q => .error q
        | .ok b => if bt b.1 = 93 then .ok (b.1 + 1, .mulR (.add r.2 (.add a.2 b.2)) 0) else .error b.1)
      else if bt a.1 = 93 then .ok (a.1 + 1, .mulR (.add r.2 (.add a.2 (.num 0))) 0) else .error a.1) else .error r.1
def pRep (bt : Nat → Int32) (B : Nat → Pr) (p : Nat) : Pr := match pFor bt (p + 1) with
  | .error q => .error q
  | .ok r => if bt r.1 = 58 then (match B (r.1 + 1) with
    | .error q => .error q
    | .ok a => if bt a.1 = 125 then .ok (a.1 + 1, .mulR (.mulR (.add r.2 a.2) 0) 0) else .error a.1) else .error r.1
def pDed (bt : Nat → Int32) : Nat → Nat → Nat → Pr
  | 0, _, p => pPln bt p
  | o + 1, l, p => if bt p = 91 then pCho bt (pBlk bt (pDed bt o l)) p else if bt p = 123 ∧ 0 < l then pRep bt (pBlk bt (pDed bt o (l - 1))) p else pPln bt p
/-- what a parser of expressions keeps -/
def Gd (L B : Nat) (U : Nat → Pr) : Prop := ∀ p, p ≤ L → (∀ r, U p = .ok r → p < r.1 ∧ r.1 ≤ L ∧ okE r.2 ∧ ned r.2 ≤ B ∧ nwd r.2 ≤ r.1 - p) ∧ ∀ q, U p = .error q → p ≤ q ∧ q ≤ L
section GD
variable {bt : Nat → Int32} {L : Nat}
theorem bt_lt (hL : ∀ p, L ≤ p → bt p = -1) {p : Nat} (h : ¬ bt p = -1) : p < L := by
  by_cases c : p < L
  · exact c
  · exact absurd (hL p (by omega)) h
theorem pDg_p (hL : ∀ p, L ≤ p → bt p = -1) : ∀ n p x, p ≤ L → p ≤ (pDg bt n p x).1 ∧ (pDg bt n p x).1 ≤ L := by
  intro n
  induction n with
  | zero => intro p x hp; exact ⟨Nat.le_refl _, hp⟩
  | succ n ih =>
    intro p x hp
    unfold pDg
    by_cases c : dgt (bt p)
    · rw [if_pos c]
      have := bt_lt hL (fun z => by rw [z] at c; exact absurd c (by decide))
      have h2 := ih (p + 1) (x * 10 + bt p - 48) (by omega)
      omega
    · rw [if_neg c]
      exact ⟨Nat.le_refl _, hp⟩
theorem gd_num (hL : ∀ p, L ≤ p → bt p = -1) {p : Nat} (hp : p ≤ L) (c : dgt (bt p)) : (∀ r, pNum bt p = .ok r → p < r.1 ∧ r.1 ≤ L ∧ okE r.2 ∧ ned r.2 ≤ 1 ∧ nwd r.2 ≤ r.1 - p) ∧ ∀ q, pNum bt p = .error q → p ≤ q ∧ q ≤ L := by
  have hlt := bt_lt hL (p := p) (fun z => by rw [z] at c; exact absurd c (by decide))
  have hp2 : p < (pDg bt 3 p 0).1 ∧ (pDg bt 3 p 0).1 ≤ L := by
    have e3 : pDg bt 3 p 0 = pDg bt 2 (p + 1) (0 * 10 + bt p - 48) := if_pos c
    rw [e3]
    have := pDg_p hL 2 (p + 1) (0 * 10 + bt p - 48) (by omega)
    omega
  unfold pNum
  by_cases h : (pDg bt 3 p 0).2 ≤ 255
  · rw [if_pos h]
    refine ⟨fun r hr => ?_, fun q hq => by cases hq⟩
    have : r = ((pDg bt 3 p 0).1, .num (pDg bt 3 p 0).2.toNatClampNeg) := by injection hr with hr; exact hr.symm
    subst this
    refine ⟨hp2.1, hp2.2, ?_, Nat.le_refl _, ?_⟩
    · show (pDg bt 3 p 0).2.toNatClampNeg ≤ 256
      by_cases c0 : (pDg bt 3 p 0).2 < 0
      · rw [Int32.toNatClampNeg]
        have := Int32.lt_iff_toInt_lt.mp c0
        rw [show (0 : Int32).toInt = 0 from rfl] at this
        omega
      · obtain ⟨j, j1, j2⟩ := nI_of2 (M := 255) (n := 255) rfl c0 h
        rw [j2, nI_clamp (by omega)]
        omega
    · show 1 ≤ _
      omega
  · rw [if_neg h]
    refine ⟨fun r hr => (by cases hr), fun q hq => ?_⟩
    injection hq with hq
    omega
theorem gd_lp (hL : ∀ p, L ≤ p → bt p = -1) {a b : Int32} (ha : ¬ a = -1) (hb : ¬ b = -1) {ka kb : Nat} (hka : ka < 6) (hkb : kb < 6) {U : Nat → Pr} {B : Nat} (hU : Gd L B U) : ∀ n p t p0, p ≤ L → p0 < p → okE t → ned t ≤ B + 1 → nwd t ≤ p - p0 → (∀ r, pLp bt a b ka kb U n p t = .ok r → p0 < r.1 ∧ r.1 ≤ L ∧ okE r.2 ∧ ned r.2 ≤ B + 1 ∧ nwd r.2 ≤ r.1 - p0) ∧ ∀ q, pLp bt a b ka kb U n p t = .error q → p0 ≤ q ∧ q ≤ L := by
  intro n
  induction n with
  | zero =>
    intro p t p0 hp h0 h1 h2 h3
    refine ⟨fun r hr => ?_, fun q hq => by cases hq⟩
    injection hr with hr
    subst hr
    exact ⟨h0, hp, h1, h2, h3⟩
  | succ n ih =>
    intro p t p0 hp h0 h1 h2 h3
    unfold pLp
    by_cases c : bt p = a ∨ bt p = b
    · rw [if_pos c]
      have hlt := bt_lt hL (p := p) (fun z => by rw [z] at c; exact c.elim (fun e => ha e.symm) (fun e => hb e.symm))
      have hu := hU (p + 1) (by omega)
      cases e : U (p + 1) with
      | error q =>
        refine ⟨fun r hr => (by cases hr), fun q' hq => ?_⟩
        injection hq with hq
        subst hq
        have := hu.2 q e
        omega
      | ok r =>
        have := hu.1 r e
        have hk : (if bt p = a then ka else kb) < 6 := by split <;> assumption
        have hn : ned (.mulL (if bt p = a then ka else kb) (.add t r.2)) = max (ned t) (ned r.2 + 1) := rfl
        have hw : nwd (.mulL (if bt p = a then ka else kb) (.add t r.2)) = nwd t + nwd r.2 + 1 := rfl
        exact ih r.1 _ p0 (by omega) (by omega) ⟨hk, h1, this.2.2.1⟩ (by rw [hn]; omega) (by rw [hw]; omega)
    · rw [if_neg c]
      refine ⟨fun r hr => ?_, fun q hq => by cases hq⟩
      injection hr with hr
      subst hr
      exact ⟨h0, hp, h1, h2, h3⟩
theorem gd_op (hL : ∀ p, L ≤ p → bt p = -1) {a b : Int32} (ha : ¬ a = -1) (hb : ¬ b = -1) {ka kb : Nat} (hka : ka < 6) (hkb : kb < 6) {U : Nat → Pr} {B : Nat} (hU : Gd L B U) : Gd L (B + 1) (pOp bt a b ka kb U) := by
  intro p hp
  unfold pOp
  cases e : U p with
  | error q =>
    refine ⟨fun r hr => (by cases hr), fun q' hq => ?_⟩
    injection hq with hq
    subst hq
    exact (hU p hp).2 q e
  | ok r =>
    have := (hU p hp).1 r e
    exact gd_lp hL ha hb hka hkb hU 160 r.1 r.2 p this.2.1 this.1 this.2.2.1 (by omega) this.2.2.2.2
theorem gd_mul (hL : ∀ p, L ≤ p → bt p = -1) {U : Nat → Pr} {B : Nat} (hU : Gd L B U) : Gd L (B + 1) (pMul bt U) := gd_op hL (by decide) (by decide) (by decide) (by decide) hU
theorem gd_add (hL : ∀ p, L ≤ p → bt p = -1) {U : Nat → Pr} {B : Nat} (hU : Gd L B U) : Gd L (B + 2) (pAdd bt U) := gd_op hL (by decide) (by decide) (by decide) (by decide) (gd_mul hL hU)
theorem gd_cmp (hL : ∀ p, L ≤ p → bt p = -1) {U : Nat → Pr} {B : Nat} (hU : Gd L B U) : Gd L (B + 3) (pCmp bt U) := by
  intro p hp
  have hA := gd_add hL hU
  unfold pCmp
  cases e : pAdd bt U p with
  | error q =>
    refine ⟨fun r hr => (by cases hr), fun q' hq => ?_⟩
    injection hq with hq
    subst hq
    exact (hA p hp).2 q e
  | ok r =>
    have h1 := (hA p hp).1 r e
    simp only
    by_cases c : bt r.1 = 60 ∨ bt r.1 = 61
    · rw [if_pos c]
      have hlt := bt_lt hL (p := r.1) (fun z => by rw [z] at c; exact c.elim (by decide) (by decide))
      cases e2 : pAdd bt U (r.1 + 1) with
      | error q =>
        refine ⟨fun r hr => (by cases hr), fun q' hq => ?_⟩
        injection hq with hq
        subst hq
        have := (hA (r.1 + 1) (by omega)).2 q e2
        omega
      | ok r' =>
        have h2 := (hA (r.1 + 1) (by omega)).1 r' e2
        refine ⟨fun r'' hr => ?_, fun q hq => by cases hq⟩
        injection hr with hr
        subst hr
        have hk : (if bt r.1 = 60 then 4 else 5) < 6 := by split <;> decide
        have hn : ned (.mulL (if bt r.1 = 60 then 4 else 5) (.add r.2 r'.2)) = max (ned r.2) (ned r'.2 + 1) := rfl
        have hw : nwd (.mulL (if bt r.1 = 60 then 4 else 5) (.add r.2 r'.2)) = nwd r.2 + nwd r'.2 + 1 := rfl
        exact ⟨by show p < r'.1; omega, h2.2.1, ⟨hk, h1.2.2.1, h2.2.2.1⟩, by show ned (.mulL _ _) ≤ _; rw [hn]; omega, by show nwd (.mulL _ _) ≤ r'.1 - p; rw [hw]; omega⟩
    · rw [if_neg c]
      refine ⟨fun r'' hr => ?_, fun q hq => by cases hq⟩
      injection hr with hr
      subst hr
      exact ⟨h1.1, h1.2.1, h1.2.2.1, by omega, h1.2.2.2.2⟩
theorem gd_leaf (hL : ∀ p, L ≤ p → bt p = -1) {p B : Nat} {E : Pr} (hp : p ≤ L) (hB : 1 ≤ B) (hE : (∀ r, E = .ok r → p < r.1 ∧ r.1 ≤ L ∧ okE r.2 ∧ ned r.2 ≤ B ∧ nwd r.2 ≤ r.1 - p) ∧ ∀ q, E = .error q → p ≤ q ∧ q ≤ L) : (∀ r, (if dgt (bt p) then pNum bt p else if vrb (bt p) then .ok (p + 1, .var (bt p - 97).toNatClampNeg) else if bt p = 35 then .ok (p + 1, .num 256) else E) = .ok r → p < r.1 ∧ r.1 ≤ L ∧ okE r.2 ∧ ned r.2 ≤ B ∧ nwd r.2 ≤ r.1 - p) ∧ ∀ q, (if dgt (bt p) then pNum bt p else if vrb (bt p) then .ok (p + 1, .var (bt p - 97).toNatClampNeg) else if bt p = 35 then .ok (p + 1, .num 256) else E) = .error q → p ≤ q ∧ q ≤ L := by
  by_cases c0 : dgt (bt p)
  · simp only [if_pos c0]
    have := gd_num hL hp c0
    exact ⟨fun r hr => by have := this.1 r hr; exact ⟨this.1, this.2.1, this.2.2.1, by omega, this.2.2.2.2⟩, this.2⟩
  · simp only [if_neg c0]
    by_cases c1 : vrb (bt p)
    · simp only [if_pos c1]
      have hlt := bt_lt hL (p := p) (fun z => by rw [z] at c1; exact absurd c1 (by decide))
      refine ⟨fun r hr => ?_, fun q hq => by cases hq⟩
      injection hr with hr
      subst hr
      obtain ⟨j, j1, j2⟩ := vr_ex c1
      refine ⟨by show p < p + 1; omega, by show p + 1 ≤ L; omega, ?_, hB, by show 1 ≤ p + 1 - p; omega⟩
      show (bt p - 97).toNatClampNeg < 8
      rw [j2, show (97 : Int32) = nI 97 from rfl, pk_sub (by omega), nI_clamp (by omega)]
      omega
    · simp only [if_neg c1]
      by_cases c2 : bt p = 35
      · simp only [if_pos c2]
        have hlt := bt_lt hL (p := p) (fun z => by rw [z] at c2; exact absurd c2 (by decide))
        refine ⟨fun r hr => ?_, fun q hq => by cases hq⟩
        injection hr with hr
        subst hr
        exact ⟨by show p < p + 1; omega, by show p + 1 ≤ L; omega, Nat.le_refl _, hB, by show 1 ≤ p + 1 - p; omega⟩
      · simp only [if_neg c2]
        exact hE
theorem gd_unit (hL : ∀ p, L ≤ p → bt p = -1) : ∀ k, Gd L (1 + 3 * k) (pUnit bt k) := by
  intro k
  induction k with
  | zero =>
    intro p hp
    unfold pUnit
    refine gd_leaf hL hp (by omega) ⟨fun r hr => (by cases hr), fun q hq => ?_⟩
    injection hq with hq
    omega
  | succ k ih =>
    intro p hp
    unfold pUnit
    refine gd_leaf hL hp (by omega) ?_
    by_cases c3 : bt p = 126
    · simp only [if_pos c3]
      have hlt := bt_lt hL (p := p) (fun z => by rw [z] at c3; exact absurd c3 (by decide))
      cases e : pUnit bt k (p + 1) with
      | error q =>
        refine ⟨fun r hr => (by cases hr), fun q' hq => ?_⟩
        injection hq with hq
        subst hq
        have := (ih (p + 1) (by omega)).2 q e
        omega
      | ok r =>
        have h1 := (ih (p + 1) (by omega)).1 r e
        refine ⟨fun r'' hr => ?_, fun q hq => by cases hq⟩
        injection hr with hr
        subst hr
        exact ⟨by show p < r.1; omega, h1.2.1, h1.2.2.1, by show ned r.2 ≤ _; omega, by show nwd r.2 + 1 ≤ r.1 - p; omega⟩
    · simp only [if_neg c3]
      by_cases c4 : bt p = 40
      · simp only [if_pos c4]
        have hlt := bt_lt hL (p := p) (fun z => by rw [z] at c4; exact absurd c4 (by decide))
        have hc := gd_cmp hL ih
        cases e : pCmp bt (pUnit bt k) (p + 1) with
        | error q =>
          refine ⟨fun r hr => (by cases hr), fun q' hq => ?_⟩
          injection hq with hq
          subst hq
          have := (hc (p + 1) (by omega)).2 q e
          omega
        | ok r =>
          have h1 := (hc (p + 1) (by omega)).1 r e
          simp only
          by_cases c5 : bt r.1 = 41
          · simp only [if_pos c5]
            have hlt2 := bt_lt hL (p := r.1) (fun z => by rw [z] at c5; exact absurd c5 (by decide))
            refine ⟨fun r'' hr => ?_, fun q hq => by cases hq⟩
            injection hr with hr
            subst hr
            exact ⟨by show p < r.1 + 1; omega, by show r.1 + 1 ≤ L; omega, h1.2.2.1, by show ned r.2 ≤ _; omega, by show nwd r.2 ≤ r.1 + 1 - p; omega⟩
          · simp only [if_neg c5]
            refine ⟨fun r hr => (by cases hr), fun q' hq => ?_⟩
            injection hq with hq
            subst hq
            omega
      · simp only [if_neg c4]
        refine ⟨fun r hr => (by cases hr), fun q' hq => ?_⟩
        injection hq with hq
        omega
theorem gd_for (hL : ∀ p, L ≤ p → bt p = -1) : Gd L 19 (pFor bt) := gd_cmp hL (gd_unit hL 5)
end GD

/-! Runs of the small machine, as a judgement. -/
def Ev (d μ : Nat) (is : List mI) (L : mL) (st : List Value) (M : mM) (Q : Option Value → mM → Prop) : Prop := ∃ (f : Nat) (r : Option Value × mM), mrun mTab f d μ is L st M = some r ∧ Q r.1 r.2
def Rt (d μ : Nat) (as : List Value) (M : mM) (v : Option Value) (M' : mM) : Prop := (mlay as).length ≤ mmx mTab μ ∧ ∃ f : Nat, mrun mTab f d μ (mat mTab μ 0) (ment mTab μ as) [] M = some (v, M')
theorem mrun_up {tb : mB} : ∀ (f d μ : Nat) (is : List mI) (L : mL) (st : List Value) (M : mM) (r : Option Value × mM), mrun tb f d μ is L st M = some r → mrun tb (f + 1) d μ is L st M = some r
  | 0, _, _, _, _, _, _, _, h => by cases h
  | f + 1, d, μ, [], _, _, _, _, h => by cases h
  | f + 1, d, μ, (i, g) :: is, L, st, M, r, h => by
    unfold mrun at h ⊢
    split at h
    next L' st' M' hm => exact mrun_up f d μ is L' st' M' r h
    next L' st' M' t hm => exact mrun_up f d μ _ L' st' M' r h
    next v hm => exact h
    next μ' as st' hm =>
      cases d with
      | zero => cases h
      | succ d' =>
        simp only at h ⊢
        split at h
        next hl =>
          rw [if_pos hl]
          split at h
          next v M' hr =>
            rw [mrun_up f d' μ' _ _ _ M (v, M') hr]
            exact mrun_up f (d' + 1) μ is L _ M' r h
          next => cases h
        next => cases h
    next => cases h
theorem mrun_le {tb : mB} {f g d μ : Nat} {is : List mI} {L : mL} {st : List Value} {M : mM} {r : Option Value × mM} (h : mrun tb f d μ is L st M = some r) (hl : f ≤ g) : mrun tb g d μ is L st M = some r := by
  induction hl with
  | refl => exact h
  | step _ ih => exact mrun_up _ _ _ _ _ _ _ _ ih
section EV
variable {d μ : Nat} {is : List mI} {L L' : mL} {st st' : List Value} {M M' : mM} {Q : Option Value → mM → Prop} {i : Instr} {g : List Nat}
theorem ev_nx (h : ms i g L st M = some (.inl (L', st', M', none))) : Ev d μ ((i, g) :: is) L st M Q ↔ Ev d μ is L' st' M' Q := by
  constructor
  · rintro ⟨f, r, h1, h2⟩
    cases f with
    | zero => cases h1
    | succ f =>
      unfold mrun at h1
      rw [h] at h1
      exact ⟨f, r, h1, h2⟩
  · rintro ⟨f, r, h1, h2⟩
    refine ⟨f + 1, r, ?_, h2⟩
    unfold mrun
    rw [h]
    exact h1
theorem ev_jp {t : Nat} (h : ms i g L st M = some (.inl (L', st', M', some t))) : Ev d μ ((i, g) :: is) L st M Q ↔ Ev d μ (mat mTab μ t) L' st' M' Q := by
  constructor
  · rintro ⟨f, r, h1, h2⟩
    cases f with
    | zero => cases h1
    | succ f =>
      unfold mrun at h1
      rw [h] at h1
      exact ⟨f, r, h1, h2⟩
  · rintro ⟨f, r, h1, h2⟩
    refine ⟨f + 1, r, ?_, h2⟩
    unfold mrun
    rw [h]
    exact h1
theorem ev_rt {v : Option Value} (h : ms i g L st M = some (.inr (.inl v))) : Ev d μ ((i, g) :: is) L st M Q ↔ Q v M := by
  constructor
  · rintro ⟨f, r, h1, h2⟩
    cases f with
    | zero => cases h1
    | succ f =>
      unfold mrun at h1
      rw [h] at h1
      cases h1
      exact h2
  · intro hq
    refine ⟨1, (v, M), ?_, hq⟩
    unfold mrun
    rw [h]
theorem ev_cl {μ' : Nat} {as : List Value} {v : Option Value} (h : ms i g L st M = some (.inr (.inr (μ', as, st')))) (hr : Rt d μ' as M v M') : Ev (d + 1) μ ((i, g) :: is) L st M Q ↔ Ev (d + 1) μ is L (v.toList ++ st') M' Q := by
  obtain ⟨hl, f0, h0⟩ := hr
  constructor
  · rintro ⟨f, r, h1, h2⟩
    cases f with
    | zero => cases h1
    | succ f =>
      unfold mrun at h1
      rw [h] at h1
      simp only at h1
      rw [if_pos hl] at h1
      split at h1
      next v' M1 hx =>
        have e1 := mrun_le hx (Nat.le_max_left f f0)
        have e2 := mrun_le h0 (Nat.le_max_right f f0)
        cases e1.symm.trans e2
        exact ⟨f, r, h1, h2⟩
      next => cases h1
  · rintro ⟨f, r, h1, h2⟩
    refine ⟨max f f0 + 1, r, ?_, h2⟩
    unfold mrun
    rw [h]
    simp only
    rw [if_pos hl, mrun_le h0 (Nat.le_max_right f f0)]
    exact mrun_le h1 (Nat.le_max_left f f0)
theorem ev_of {Q' : Option Value → mM → Prop} (h : Ev d μ is L st M Q) (hq : ∀ v m, Q v m → Q' v m) : Ev d μ is L st M Q' := by
  obtain ⟨f, r, h1, h2⟩ := h
  exact ⟨f, r, h1, hq _ _ h2⟩
end EV
theorem rt_of {d μ : Nat} {as : List Value} {M M' : mM} {v : Option Value} (hl : (mlay as).length ≤ mmx mTab μ) (h : Ev d μ (mat mTab μ 0) (ment mTab μ as) [] M (fun v' m' => v' = v ∧ m' = M')) : Rt d μ as M v M' := by
  obtain ⟨f, ⟨v', m'⟩, h1, h2, h3⟩ := h
  have h2 : v' = v := h2
  have h3 : m' = M' := h3
  subst h2; subst h3
  exact ⟨hl, f, h1⟩
/-- a call whose end isn't named ahead -/
theorem rt_ex {d μ : Nat} {as : List Value} {M : mM} {Q : Option Value → mM → Prop} (hl : (mlay as).length ≤ mmx mTab μ) (h : Ev d μ (mat mTab μ 0) (ment mTab μ as) [] M Q) : ∃ v M', Rt d μ as M v M' ∧ Q v M' := by
  obtain ⟨f, ⟨v', m'⟩, h1, h2⟩ := h
  exact ⟨v', m', ⟨hl, f, h1⟩, h2⟩
theorem rt_up {d e μ : Nat} {as : List Value} {M M' : mM} {v : Option Value} (h : Rt d μ as M v M') (hd : d ≤ e) : Rt e μ as M v M' := by
  have key : ∀ (f d μ : Nat) (is : List mI) (L : mL) (st : List Value) (M : mM) (r : Option Value × mM), mrun mTab f d μ is L st M = some r → mrun mTab f (d + 1) μ is L st M = some r := by
    intro f
    induction f with
    | zero => intro d μ is L st M r h; cases h
    | succ f ih =>
      intro d μ is L st M r h
      cases is with
      | nil => cases h
      | cons x is =>
        obtain ⟨i, g⟩ := x
        unfold mrun at h ⊢
        split at h
        next L' st' M' hm => exact ih _ _ _ _ _ _ _ h
        next L' st' M' t hm => exact ih _ _ _ _ _ _ _ h
        next v hm => exact h
        next μ' as st' hm =>
          cases d with
          | zero => cases h
          | succ d' =>
            simp only at h ⊢
            split at h
            next hl =>
              rw [if_pos hl]
              split at h
              next v M' hr =>
                rw [ih _ _ _ _ _ _ _ hr]
                exact ih _ _ _ _ _ _ _ h
              next => cases h
            next => cases h
        next => cases h
  induction hd with
  | refl => exact h
  | step _ ih =>
    obtain ⟨hl, f, h1⟩ := ih
    exact ⟨hl, f, key _ _ _ _ _ _ _ _ h1⟩
/-! reading and writing a cell, as functions -/
def okI (c : Option mE) (j : Int32) : Bool := match gI c with
  | some (n, _) => decide (¬ (j < 0 ∨ n ≤ j.toNatClampNeg))
  | none => false
def rdI (c : Option mE) (j : Int32) : Int32 := match gI c with
  | some (_, f) => f j.toNatClampNeg
  | none => 0
def wrI (c : Option mE) (j : Int32) (x : Int32) : mE := match gI c with
  | some (n, f) => cI n (upd f j.toNatClampNeg x)
  | none => cI 0 (fun _ => 0)
def okJ (c : Option mE) (j : Int32) : Bool := match gJ c with
  | some (n, _) => decide (¬ (j < 0 ∨ n ≤ j.toNatClampNeg))
  | none => false
def rdJ (c : Option mE) (j : Int32) : Int64 := match gJ c with
  | some (_, f) => f j.toNatClampNeg
  | none => 0
def wrJ (c : Option mE) (j : Int32) (x : Int64) : mE := match gJ c with
  | some (n, f) => cJ n (vp_updL f j.toNatClampNeg x)
  | none => cJ 0 (fun _ => 0)
def okR (c : Option mE) (j : Int32) : Bool := match gR c with
  | some (t, n, _) => decide ((t = 2 ∨ t = 3) ∧ ¬ (j < 0 ∨ n ≤ j.toNatClampNeg))
  | none => false
def rdR (c : Option mE) (j : Int32) : Option Nat := match gR c with
  | some (_, _, f) => f j.toNatClampNeg
  | none => none
def fget : List Value → Nat → Value
  | [], _ => .null
  | v :: _, 0 => v
  | _ :: r, n + 1 => fget r n
def fset : List Value → Nat → Value → List Value
  | [], _, _ => []
  | _ :: r, 0, v => v :: r
  | x :: r, n + 1, v => x :: fset r n v
def okO (ci k : Nat) (c : Option mE) : Bool := match gO c with
  | some (c', fs) => decide (c' = ci ∧ k < fs.length)
  | none => false
def rdO (k : Nat) (c : Option mE) : Value := match gO c with
  | some (_, fs) => fget fs k
  | none => .null
def wrO (k : Nat) (v : Value) (c : Option mE) : mE := match gO c with
  | some (c', fs) => cO c' (fset fs k v)
  | none => cO 0 []
def isO (ci : Nat) (c : Option mE) : Bool := match gO c with
  | some (c', _) => decide (c' = ci)
  | none => false
def szA (c : Option mE) : Option Nat := match c with
  | some (.inl (t, n, _)) => if t < 4 then some n else none
  | _ => none
theorem okI_c {n : Nat} {f : Nat → Int32} {j : Int32} : okI (some (cI n f)) j = true ↔ vp_in j n := decide_eq_true_iff
theorem rdI_c {n : Nat} {f : Nat → Int32} {j : Int32} : rdI (some (cI n f)) j = f j.toNatClampNeg := rfl
theorem wrI_c {n : Nat} {f : Nat → Int32} {j x : Int32} : wrI (some (cI n f)) j x = cI n (upd f j.toNatClampNeg x) := rfl
theorem okJ_c {n : Nat} {f : Nat → Int64} {j : Int32} : okJ (some (cJ n f)) j = true ↔ vp_in j n := decide_eq_true_iff
theorem rdJ_c {n : Nat} {f : Nat → Int64} {j : Int32} : rdJ (some (cJ n f)) j = f j.toNatClampNeg := rfl
theorem wrJ_c {n : Nat} {f : Nat → Int64} {j : Int32} {x : Int64} : wrJ (some (cJ n f)) j x = cJ n (vp_updL f j.toNatClampNeg x) := rfl
theorem okR_2 {n : Nat} {f : Nat → Option Nat} {j : Int32} : okR (some (cR 2 n f)) j = true ↔ vp_in j n := by
  show decide ((2 = 2 ∨ 2 = 3) ∧ ¬ (j < 0 ∨ n ≤ j.toNatClampNeg)) = true ↔ vp_in j n
  rw [decide_eq_true_iff]
  exact ⟨fun h => h.2, fun h => ⟨by decide, h⟩⟩
theorem okR_3 {n : Nat} {f : Nat → Option Nat} {j : Int32} : okR (some (cR 3 n f)) j = true ↔ vp_in j n := by
  show decide ((3 = 2 ∨ 3 = 3) ∧ ¬ (j < 0 ∨ n ≤ j.toNatClampNeg)) = true ↔ vp_in j n
  rw [decide_eq_true_iff]
  exact ⟨fun h => h.2, fun h => ⟨by decide, h⟩⟩
theorem rdR_2 {n : Nat} {f : Nat → Option Nat} {j : Int32} : rdR (some (cR 2 n f)) j = f j.toNatClampNeg := rfl
theorem rdR_3 {n : Nat} {f : Nat → Option Nat} {j : Int32} : rdR (some (cR 3 n f)) j = f j.toNatClampNeg := rfl
theorem okO_c {ci k c' : Nat} {fs : List Value} : okO ci k (some (cO c' fs)) = true ↔ c' = ci ∧ k < fs.length := decide_eq_true_iff
theorem rdO_c {k c' : Nat} {fs : List Value} : rdO k (some (cO c' fs)) = fget fs k := rfl
theorem wrO_c {k c' : Nat} {fs : List Value} {v : Value} : wrO k v (some (cO c' fs)) = cO c' (fset fs k v) := rfl
theorem isO_c {ci c' : Nat} {fs : List Value} : isO ci (some (cO c' fs)) = true ↔ c' = ci := decide_eq_true_iff
theorem fget_eq : ∀ (fs : List Value) (k : Nat), k < fs.length → fs[k]? = some (fget fs k)
  | [], _, h => by cases h
  | v :: _, 0, _ => rfl
  | _ :: r, n + 1, h => by
    show r[n]? = _
    exact fget_eq r n (Nat.lt_of_succ_lt_succ h)
theorem fset_eq : ∀ (fs : List Value) (k : Nat) (v : Value), fs.set k v = fset fs k v
  | [], _, _ => rfl
  | _ :: r, 0, _ => rfl
  | x :: r, n + 1, v => by
    show x :: r.set n v = x :: fset r n v
    rw [fset_eq r n v]

/-! Programs as trees (core's own trees serve as such; no type is declared).
An expression: num x (a number, or with 256 the lane), var v, mulR a _ (not), mulL k (add a b) (two numbers).
A program: num _ (none more), add s r (a statement, and the rest); a statement: mulL v x (becomes), mulR (mulL way (var b)) v (comes), mulR (add x (add p q)) _ (choice), mulR (mulR (add x p) _) _ (loop). -/
abbrev Tr := Nat.Internal.Linear.Expr
def okE : Tr → Prop
  | .num x => x ≤ 256
  | .var v => v < 8
  | .mulR a _ => okE a
  | .mulL k (.add a b) => k < 6 ∧ okE a ∧ okE b
  | _ => False
/-- what it is in each lane -/
def evT (Y : Nat → Nat → BitVec 8) : Tr → Nat → BitVec 8
  | .num x => fun l => if x < 256 then BitVec.ofNat 8 x else BitVec.ofNat 8 l
  | .var v => fun l => Y v l
  | .mulR a _ => fun l => ~~~ (evT Y a l)
  | .mulL k (.add a b) => fun l => w8 k (evT Y a l) (evT Y b l)
  | _ => fun _ => 0#8
/-- its steps -/
def csT : Tr → Int32
  | .num x => if x < 256 then 8 else 6
  | .var _ => 0
  | .mulR a _ => csT a + 8
  | .mulL k (.add a b) => csT a + csT b + mst (4 + k)
  | _ => 0
/-- its words -/
def nwd : Tr → Nat
  | .num _ => 1
  | .var _ => 1
  | .mulR a _ => nwd a + 1
  | .mulL _ (.add a b) => nwd a + nwd b + 1
  | _ => 0
/-- how many numbers are held at once -/
def ned : Tr → Nat
  | .num _ => 1
  | .var _ => 1
  | .mulR a _ => ned a
  | .mulL _ (.add a b) => max (ned a) (ned b + 1)
  | _ => 0
/-- node e of the row, and those before it, spell the tree -/
def Nd (nd : Nat → Int32) : Tr → Nat → Prop
  | .num x => fun e => if x < 256 then nd (5 * e) = 0 ∧ nd (5 * e + 1) = nI x else nd (5 * e) = 2
  | .var v => fun e => nd (5 * e) = 1 ∧ nd (5 * e + 1) = nI v
  | .mulR a _ => fun e => nd (5 * e) = 3 ∧ ∃ i, i < e ∧ nd (5 * e + 1) = nI i ∧ Nd nd a i
  | .mulL k (.add a b) => fun e => nd (5 * e) = nI (4 + k) ∧ ∃ i j, i < e ∧ j < e ∧ nd (5 * e + 1) = nI i ∧ nd (5 * e + 2) = nI j ∧ Nd nd a i ∧ Nd nd b j
  | _ => fun _ => False
theorem nd_k {nd nd' : Nat → Int32} : ∀ (t : Tr) (e : Nat), (∀ j, j < 5 * e + 4 → nd' j = nd j) → Nd nd t e → Nd nd' t e
  | .num x, e, h, hn => by
    unfold Nd at hn ⊢
    rw [h _ (by omega), h _ (by omega)]
    exact hn
  | .var v, e, h, hn => by
    unfold Nd at hn ⊢
    rw [h _ (by omega), h _ (by omega)]
    exact hn
  | .mulR a q, e, h, hn => by
    unfold Nd at hn ⊢
    obtain ⟨h1, i, h2, h3, h4⟩ := hn
    rw [h _ (by omega), h _ (by omega)]
    exact ⟨h1, i, h2, h3, nd_k a i (fun j hj => h j (by omega)) h4⟩
  | .mulL k (.add a b), e, h, hn => by
    unfold Nd at hn ⊢
    obtain ⟨h1, i, j, h2, h3, h4, h5, h6, h7⟩ := hn
    rw [h _ (by omega), h _ (by omega), h _ (by omega)]
    exact ⟨h1, i, j, h2, h3, h4, h5, nd_k a i (fun q hq => h q (by omega)) h6, nd_k b j (fun q hq => h q (by omega)) h7⟩
  | .mulL _ (.num _), _, _, hn => hn.elim
  | .mulL _ (.var _), _, _, hn => hn.elim
  | .mulL _ (.mulL _ _), _, _, hn => hn.elim
  | .mulL _ (.mulR _ _), _, _, hn => hn.elim
  | .add _ _, _, _, hn => hn.elim
/-- the lanes in which it isn't 0 -/
def nzs (f : Nat → BitVec 8) : Nat → Int64
  | 0 => 0
  | n + 1 => nzs f n ||| (if f n = 0#8 then 0 else onel n)
def nzm (f : Nat → BitVec 8) : Int64 := nzs f 64
theorem nzs_b {f : Nat → BitVec 8} : ∀ n, n ≤ 64 → ∀ l, l < 64 → pb (nzs f n) l = (decide (l < n) && !decide (f l = 0#8)) := by
  intro n
  induction n with
  | zero =>
    intro _ l hl
    rw [show nzs f 0 = 0 from rfl, pb_0]
    simp
  | succ n ih =>
    intro hn l hl
    show pb (nzs f n ||| (if f n = 0#8 then 0 else onel n)) l = _
    rw [pb_or, ih (by omega) l hl]
    by_cases c : f n = 0#8
    · rw [if_pos c, pb_0, Bool.or_false]
      by_cases e : l = n
      · subst e
        simp [c]
      · have : (l < n + 1) ↔ (l < n) := by omega
        simp [this]
    · rw [if_neg c, pb_one (by omega) hl]
      by_cases e : l = n
      · subst e
        simp [c]
      · have : (l < n + 1) ↔ (l < n) := by omega
        simp [this, e]
theorem nzm_b {f : Nat → BitVec 8} {l : Nat} (hl : l < 64) : pb (nzm f) l = !decide (f l = 0#8) := by
  unfold nzm
  rw [nzs_b 64 (Nat.le_refl _) l hl]
  simp [hl]
/-- a loop's turns: f a turn, g the lanes that go on, c its steps -/
def itL (f : Int64 → (Nat → Nat → BitVec 8) × Int32 → (Nat → Nat → BitVec 8) × Int32) (g : (Nat → Nat → BitVec 8) → Int64) (c : Int32) : Nat → Int64 → (Nat → Nat → BitVec 8) × Int32 → (Nat → Nat → BitVec 8) × Int32
  | 0, _, σ => σ
  | n + 1, m, σ => if m = 0 then σ else itL f g c n (m &&& g σ.1) (f (m &&& g σ.1) (σ.1, σ.2 + c))
/-- gone through: the numbers, and the steps -/
def ruT (e : Int32) : Tr → Int64 → (Nat → Nat → BitVec 8) × Int32 → (Nat → Nat → BitVec 8) × Int32
  | .add s r => fun m σ => if m = 0 then σ else ruT e r m (ruT e s m σ)
  | .mulL v x => fun m σ => (yset σ.1 v (fun l => if pb m l then evT σ.1 x l else σ.1 v l), σ.2 + csT x + 8)
  | .mulR (.mulL wy (.var b)) v => fun m σ => (yset σ.1 v (fun l => if pb m l then y8 (σ.1 b) (bes l wy e) else σ.1 v l), σ.2 + 8)
  | .mulR (.add x (.add p q)) _ => fun m σ => ruT e q (m &&& (nzm (evT σ.1 x) ^^^ (-1))) (ruT e p (m &&& nzm (evT σ.1 x)) (σ.1, σ.2 + csT x + 2))
  | .mulR (.mulR (.add x p) _) _ => fun m σ => itL (ruT e p) (fun Y => nzm (evT Y x)) (csT x + 1) 20 m σ
  | _ => fun _ σ => σ
/-- a list of statements (o is false) below node c; or one of them (o is true) -/
def NdG (nd : Nat → Int32) : Tr → Bool → Nat → Int32 → Prop
  | .num _ => fun o _ j => o = false ∧ j = -1
  | .add s r => fun o c j => o = false ∧ ∃ i, i < c ∧ j = nI i ∧ NdG nd s true c (nI i) ∧ NdG nd r false c (nd (5 * i + 4))
  | .mulL v x => fun o c j => o = true ∧ ∃ i k, i < c ∧ j = nI i ∧ v < 8 ∧ nd (5 * i) = 10 ∧ nd (5 * i + 1) = nI v ∧ nd (5 * i + 2) = nI k ∧ k < i ∧ Nd nd x k ∧ okE x ∧ ned x ≤ 19 ∧ nwd x ≤ 160
  | .mulR (.mulL wy (.var b)) v => fun o c j => o = true ∧ ∃ i, i < c ∧ j = nI i ∧ v < 8 ∧ wy < 4 ∧ b < 8 ∧ nd (5 * i) = 11 ∧ nd (5 * i + 1) = nI v ∧ nd (5 * i + 2) = nI wy ∧ nd (5 * i + 3) = nI b
  | .mulR (.add x (.add p q)) _ => fun o c j => o = true ∧ ∃ i k, i < c ∧ j = nI i ∧ nd (5 * i) = 12 ∧ nd (5 * i + 1) = nI k ∧ k < i ∧ Nd nd x k ∧ okE x ∧ ned x ≤ 19 ∧ nwd x ≤ 160 ∧ NdG nd p false i (nd (5 * i + 2)) ∧ NdG nd q false i (nd (5 * i + 3))
  | .mulR (.mulR (.add x p) _) _ => fun o c j => o = true ∧ ∃ i k, i < c ∧ j = nI i ∧ nd (5 * i) = 13 ∧ nd (5 * i + 1) = nI k ∧ k < i ∧ Nd nd x k ∧ okE x ∧ ned x ≤ 19 ∧ nwd x ≤ 160 ∧ NdG nd p false i (nd (5 * i + 2))
  | _ => fun _ _ _ => False
theorem itL_0 {f : Int64 → (Nat → Nat → BitVec 8) × Int32 → (Nat → Nat → BitVec 8) × Int32} {g : (Nat → Nat → BitVec 8) → Int64} {c : Int32} {n : Nat} {σ : (Nat → Nat → BitVec 8) × Int32} : itL f g c n 0 σ = σ := by
  cases n with
  | zero => rfl
  | succ n => exact if_pos rfl
theorem ruT_0 {nd : Nat → Int32} {e : Int32} {σ : (Nat → Nat → BitVec 8) × Int32} : ∀ (t : Tr) (c : Nat) (j : Int32), NdG nd t false c j → ruT e t 0 σ = σ
  | .num _, _, _, _ => rfl
  | .add s r, _, _, _ => by rw [ruT]; exact if_pos rfl
  | .mulL v x, _, _, h => absurd h.1 (by decide)
  | .mulR (.mulL wy (.var b)) v, _, _, h => absurd h.1 (by decide)
  | .mulR (.add x (.add p q)) _, _, _, h => absurd h.1 (by decide)
  | .mulR (.mulR (.add x p) _) _, _, _, h => absurd h.1 (by decide)
  | .var _, _, _, h => h.elim
  | .mulR (.num _) _, _, _, h => h.elim
  | .mulR (.var _) _, _, _, h => h.elim
  | .mulR (.add _ (.num _)) _, _, _, h => h.elim
  | .mulR (.add _ (.var _)) _, _, _, h => h.elim
  | .mulR (.add _ (.mulL _ _)) _, _, _, h => h.elim
  | .mulR (.add _ (.mulR _ _)) _, _, _, h => h.elim
  | .mulR (.mulL _ (.num _)) _, _, _, h => h.elim
  | .mulR (.mulL _ (.add _ _)) _, _, _, h => h.elim
  | .mulR (.mulL _ (.mulL _ _)) _, _, _, h => h.elim
  | .mulR (.mulL _ (.mulR _ _)) _, _, _, h => h.elim
  | .mulR (.mulR (.num _) _) _, _, _, h => h.elim
  | .mulR (.mulR (.var _) _) _, _, _, h => h.elim
  | .mulR (.mulR (.mulL _ _) _) _, _, _, h => h.elim
  | .mulR (.mulR (.mulR _ _) _) _, _, _, h => h.elim
/-- how deep brackets lie in brackets -/
def nst : Tr → Nat
  | .add s r => max (nst s) (nst r)
  | .mulR (.add _ (.add p q)) _ => max (nst p) (nst q) + 1
  | .mulR (.mulR (.add _ p) _) _ => nst p + 1
  | _ => 0

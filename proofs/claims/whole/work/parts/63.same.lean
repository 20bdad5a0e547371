/-! The same numbers, in planes and in a row. -/
def Cuts (P : Nat → Nat → Int64) (Y : Nat → Nat → BitVec 8) : Prop := ∀ v, v < 8 → Cut (P v) (Y v)
def Row (x : Nat → Int32) (Y : Nat → Nat → BitVec 8) : Prop := ∀ v, v < 8 → ∀ l, l < 64 → x (64 * v + l) = i8 (Y v l)
theorem row_loop {N : Nat} (hN : N ≤ 64) {f : Nat → (Nat → Int32)} {Y : Nat → Nat → BitVec 8} {v : Nat} {z : Nat → BitVec 8} (hv : v < 8) (h0 : Row (f 0) Y) (hs : ∀ n, n < N → (∀ v', v' < 8 → f n (64 * v' + n) = i8 (Y v' n)) → f (n + 1) = upd (f n) (64 * v + n) (i8 (z n))) : Row (f N) (fun v' l => if v' = v ∧ l < N then z l else Y v' l) := by
  have key : ∀ n, n ≤ N → Row (f n) (fun v' l => if v' = v ∧ l < n then z l else Y v' l) := by
    intro n
    induction n with
    | zero =>
      intro _ v' hv' l hl
      show f 0 (64 * v' + l) = i8 (if v' = v ∧ l < 0 then z l else Y v' l)
      rw [if_neg (fun c => Nat.not_lt_zero _ c.2)]
      exact h0 v' hv' l hl
    | succ n ih =>
      intro hn v' hv' l hl
      have ih := ih (by omega)
      have he := hs n (by omega) (fun v2 h2 => by
        rw [ih v2 h2 n (by omega)]
        show i8 (if v2 = v ∧ n < n then z n else Y v2 n) = _
        rw [if_neg (fun c => Nat.lt_irrefl _ c.2)])
      show f (n + 1) (64 * v' + l) = i8 (if v' = v ∧ l < n + 1 then z l else Y v' l)
      rw [he, upd_1]
      by_cases e : 64 * v' + l = 64 * v + n
      · have e1 : v' = v := by omega
        have e2 : l = n := by omega
        subst e1
        subst e2
        rw [if_pos rfl, if_pos ⟨rfl, by omega⟩]
      · rw [if_neg e, ih v' hv' l hl]
        show i8 (if v' = v ∧ l < n then z l else Y v' l) = _
        by_cases c : v' = v ∧ l < n
        · rw [if_pos c, if_pos ⟨c.1, by omega⟩]
        · rw [if_neg c, if_neg (fun c2 => c ⟨c2.1, by omega⟩)]
  exact key N (Nat.le_refl _)
/-- a variable's numbers replaced -/
def yset (Y : Nat → Nat → BitVec 8) (v : Nat) (z : Nat → BitVec 8) : Nat → Nat → BitVec 8 := fun v' l => if v' = v then z l else Y v' l
theorem row_c {x : Nat → Int32} {Y Z : Nat → Nat → BitVec 8} (h : Row x Y) (e : ∀ v, v < 8 → ∀ l, l < 64 → Y v l = Z v l) : Row x Z := fun v hv l hl => by rw [h v hv l hl, e v hv l hl]
theorem row_all {f : Nat → (Nat → Int32)} {Y : Nat → Nat → BitVec 8} {v : Nat} {z : Nat → BitVec 8} (hv : v < 8) (h0 : Row (f 0) Y) (hs : ∀ n, n < 64 → (∀ v', v' < 8 → f n (64 * v' + n) = i8 (Y v' n)) → f (n + 1) = upd (f n) (64 * v + n) (i8 (z n))) : Row (f 64) (yset Y v z) := by
  refine row_c (row_loop (Nat.le_refl _) hv h0 hs) (fun v' _ l hl => ?_)
  unfold yset
  by_cases c : v' = v
  · rw [if_pos ⟨c, hl⟩, if_pos c]
  · rw [if_neg (fun z => c z.1), if_neg c]
theorem cuts_set {P : Nat → Nat → Int64} {Y : Nat → Nat → BitVec 8} (h : Cuts P Y) {v : Nat} {F : Nat → Int64} {z : Nat → BitVec 8} (hF : Cut F z) : Cuts (fun j => if j = v then F else P j) (yset Y v z) := by
  intro j hj
  by_cases c : j = v
  · have e1 : (fun j => if j = v then F else P j) j = F := if_pos c
    have e2 : yset Y v z j = z := by
      funext l
      exact if_pos c
    rw [e1, e2]
    exact hF
  · have e1 : (fun j => if j = v then F else P j) j = P j := if_neg c
    have e2 : yset Y v z j = Y j := by
      funext l
      exact if_neg c
    rw [e1, e2]
    exact h j hj
theorem com_c {f g : Nat → Int64} {h : Nat} (e : ∀ j, j < h → f j = g j) : mcom f h = mcom g h := by
  induction h with
  | zero => rfl
  | succ h ih =>
    show mcom f h &&& f h = mcom g h &&& g h
    rw [ih (fun j hj => e j (by omega)), e h (by omega)]
/-! put, plane, lay, fill, does, route -/
theorem nI_i8 {z : Nat} (hz : z < 256) : nI z = i8 (BitVec.ofNat 8 z) := by
  unfold i8
  rw [BitVec.toNat_ofNat, Nat.mod_eq_of_lt hz]
theorem s_put {x : Nat → Int32} {Y : Nat → Nat → BitVec 8} (h : Row x Y) {a v : Nat} {c : BitVec 8} (ha : a < 64) (hv : v < 8) : Row (upd x (64 * v + a) (i8 c)) (yset Y v (fun l => if l = a then c else Y v l)) := by
  intro v' hv' l hl
  rw [upd_1]
  unfold yset
  by_cases e : 64 * v' + l = 64 * v + a
  · have e1 : v' = v := by omega
    have e2 : l = a := by omega
    rw [if_pos e, if_pos e1]
    show i8 c = i8 (if l = a then c else Y v l)
    rw [if_pos e2]
  · rw [if_neg e, h v' hv' l hl]
    by_cases e1 : v' = v
    · have e2 : ¬ l = a := by omega
      rw [if_pos e1]
      show _ = i8 (if l = a then c else Y v l)
      rw [if_neg e2, e1]
    · rw [if_neg e1]
theorem mpl_b {x : Nat → Int32} {v k : Nat} (hk : k < 32) : ∀ n, n ≤ 64 → ∀ l, l < 64 → pb (mpl x v k n) l = (decide (l < n) && qb (x (64 * v + l)) k) := by
  intro n
  induction n with
  | zero =>
    intro _ l hl
    rw [show mpl x v k 0 = 0 from rfl, pb_0]
    simp
  | succ n ih =>
    intro hn l hl
    show pb (mpl x v k n ||| (((x (64 * v + n) >>> (nI k &&& 31)) &&& 1).toInt64 <<< ((nI n).toInt64 &&& 63))) l = _
    have h1 : (x (64 * v + n) >>> (nI k &&& 31)) &&& 1 = if qb (x (64 * v + n)) k then 1 else 0 := by
      have t := qb_tst (x := x (64 * v + n)) hk
      cases hb : qb (x (64 * v + n)) k
      · have z : ¬ (x (64 * v + n) >>> (nI k &&& 31)) &&& 1 = 1 := fun z => by rw [t.mp z] at hb; cases hb
        apply qb_ext
        intro j hj
        rw [if_neg (by decide), qb_0, qb_and, qb_1]
        by_cases e : j = 0
        · subst e
          cases hc : qb (x (64 * v + n) >>> (nI k &&& 31)) 0
          · rfl
          · exfalso
            apply z
            apply qb_ext
            intro i hi
            rw [qb_and, qb_1]
            by_cases e2 : i = 0
            · subst e2
              rw [hc]
              rfl
            · simp [e2]
        · simp [e]
      · rw [if_pos rfl]
        exact t.mpr hb
    rw [pb_or, ih (by omega) l hl, h1]
    cases hb : qb (x (64 * v + n)) k
    · rw [if_neg (by decide), show (0 : Int32).toInt64 = 0 from rfl, sh_am ⟨n, by omega⟩, pb_shl (by omega), pb_0, Bool.and_false, Bool.or_false]
      by_cases e : l = n
      · subst e
        simp [hb]
      · have : (l < n + 1) ↔ (l < n) := by omega
        simp [this]
    · rw [if_pos rfl, show (1 : Int32).toInt64 = 1 from rfl, pb_one (by omega) hl]
      by_cases e : l = n
      · subst e
        simp [hb]
      · have : (l < n + 1) ↔ (l < n) := by omega
        simp [this, e]
theorem s_plane {P : Nat → Nat → Int64} {x : Nat → Int32} {Y : Nat → Nat → BitVec 8} (hc : Cuts P Y) (h : Row x Y) {v k : Nat} (hv : v < 8) (hk : k < 8) : mpl x v k 64 = P v k := by
  apply pb_ext
  intro l hl
  rw [mpl_b (by omega) 64 (Nat.le_refl _) l hl, h v hv l hl, qb_i8, hc v hv l hl k hk]
  simp [hl]
theorem qb_m {k : Nat} (h : k < 32) : qb (-1) k = true := by
  show (BitVec.allOnes 32).getLsbD k = true
  rw [BitVec.getLsbD_allOnes]
  exact decide_eq_true h
/-- bit k of a number made b -/
def bset (a : BitVec 8) (k : Nat) (b : Bool) : BitVec 8 := if b then a ||| (1#8 <<< k) else a &&& ~~~ (1#8 <<< k)
theorem bset_b {a : BitVec 8} {k : Nat} {b : Bool} {i : Nat} (hi : i < 8) (hk : k < 8) : (bset a k b).getLsbD i = if i = k then b else a.getLsbD i := by
  have h1 : (1#8 <<< k).getLsbD i = decide (i = k) := by
    rw [BitVec.getLsbD_shiftLeft, BitVec.getLsbD_one]
    by_cases e : i = k
    · subst e
      simp [hi]
    · by_cases e2 : i < k
      · simp [e, e2]
      · have : ¬ i - k = 0 := by omega
        simp [e, this]
  unfold bset
  cases b
  · rw [if_neg (by decide), BitVec.getLsbD_and, BitVec.getLsbD_not, h1]
    by_cases e : i = k
    · simp [e]
    · simp [e, hi]
  · rw [if_pos rfl, BitVec.getLsbD_or, h1]
    by_cases e : i = k
    · simp [e]
    · simp [e]
theorem lay_i8 {a : BitVec 8} {k : Nat} {b : Bool} (hk : k < 8) : (i8 a &&& (((1 : Int32) <<< (nI k &&& 31)) ^^^ (-1))) ||| (if b = true then (1 : Int32) <<< (nI k &&& 31) else 0) = i8 (bset a k b) := by
  apply qb_ext
  intro i hi
  rw [qb_or, qb_and, qb_xor, qb_one (by omega) hi, qb_m hi, qb_i8, qb_i8]
  by_cases h8 : i < 8
  · rw [bset_b h8 hk]
    cases b
    · rw [if_neg (by decide), qb_0]
      by_cases e : i = k
      · simp [e]
      · simp [e]
    · rw [if_pos rfl, qb_one (by omega) hi]
      by_cases e : i = k
      · simp [e]
      · simp [e]
  · have e : ¬ i = k := by omega
    rw [BitVec.getLsbD_of_ge _ _ (by omega), BitVec.getLsbD_of_ge _ _ (by omega)]
    cases b
    · rw [if_neg (by decide), qb_0]
      rfl
    · rw [if_pos rfl, qb_one (by omega) hi]
      simp [e]
theorem s_lay {x : Nat → Int32} {Y : Nat → Nat → BitVec 8} (h : Row x Y) {v k : Nat} {m z : Int64} (hv : v < 8) (hk : k < 8) : Row (mly x v k m z 64) (yset Y v (fun l => if pb m l then bset (Y v l) k (pb z l) else Y v l)) := by
  refine row_all (f := mly x v k m z) hv h (fun n hn hx => ?_)
  rw [mly_s, pbit_pb hn, pbit_pb hn, hx v hv]
  cases pb m n
  · rw [if_neg (by decide), if_neg (by decide), upd_self (hx v hv)]
  · rw [if_pos (by decide), if_pos rfl, ← lay_i8 hk]
    cases pb z n <;> rfl
theorem c_lay {P : Nat → Nat → Int64} {Y : Nat → Nat → BitVec 8} (hc : Cuts P Y) {v k : Nat} {m z : Int64} (hv : v < 8) (hk : k < 8) : Cut (vp_updL (P v) k ((P v k &&& (m ^^^ (-1))) ||| (z &&& m))) (fun l => if pb m l then bset (Y v l) k (pb z l) else Y v l) := by
  intro l hl i hi
  rw [updL_1]
  by_cases e : i = k
  · subst e
    rw [if_pos rfl, pb_or, pb_and, pb_and, pb_not hl, hc v hv l hl i hi]
    cases hm : pb m l
    · simp [hm]
    · simp [hm, bset_b hi hi]
  · rw [if_neg e, hc v hv l hl i hi]
    cases hm : pb m l
    · simp [hm]
    · simp [hm, bset_b hi hk, e]
theorem s_fill {x : Nat → Int32} {Y : Nat → Nat → BitVec 8} (h : Row x Y) {v : Nat} {m : Int64} {c : BitVec 8} (hv : v < 8) : Row (mfl x v m (i8 c) 64) (yset Y v (fun l => if pb m l then c else Y v l)) := by
  refine row_all (f := mfl x v m (i8 c)) hv h (fun n hn hx => ?_)
  rw [mfl_s, pbit_pb hn, hx v hv]
  cases pb m n <;> rfl
theorem s_does {x : Nat → Int32} {Y : Nat → Nat → BitVec 8} (h : Row x Y) {op v p q : Nat} {m : Int64} (ho : op < 8) (hv : v < 8) (hp : p < 8) (hq : q < 8) : Row (mdo x op v p q m 64) (yset Y v (fun l => if pb m l then w8 op (Y p l) (Y q l) else Y v l)) := by
  refine row_all (f := mdo x op v p q m) hv h (fun n hn hx => ?_)
  rw [mdo_s, pbit_pb hn, hx v hv, hx p hp, hx q hq, mdv_8 ho]
  cases pb m n <;> rfl
theorem mcm_l {x cm : Nat → Int32} {p wy : Nat} {e : Int32} : ∀ n, ∀ l, l < n → mcm x cm p wy e n l = if 0 ≤ bes l wy e then x (64 * p + (bes l wy e).toNatClampNeg) else 0 := by
  intro n
  induction n with
  | zero => intro l hl; omega
  | succ n ih =>
    intro l hl
    show upd (mcm x cm p wy e n) n _ l = _
    rw [upd_1]
    by_cases c : l = n
    · rw [if_pos c, c]
    · rw [if_neg c]
      exact ih l (by omega)
theorem s_come {x cm : Nat → Int32} {Y : Nat → Nat → BitVec 8} (h : Row x Y) {p wy : Nat} {e : Int32} (hp : p < 8) {l : Nat} (hl : l < 64) : mcm x cm p wy e 64 l = i8 (y8 (Y p) (bes l wy e)) := by
  rw [mcm_l 64 l hl]
  rcases bes_in (wy := wy) (e := e) hl with hb | ⟨j, hj, hb⟩
  · rw [hb, if_neg (by decide), y8_n]
    rfl
  · rw [hb, if_pos (nI_pos' (by omega)), nI_clamp (by omega), y8_i hj, h p hp j hj]
theorem s_route {x cm : Nat → Int32} {Y : Nat → Nat → BitVec 8} (h : Row x Y) {v p wy : Nat} {e : Int32} {m : Int64} (hv : v < 8) (hp : p < 8) : Row (mro x (mcm x cm p wy e 64) v m 64) (yset Y v (fun l => if pb m l then y8 (Y p) (bes l wy e) else Y v l)) := by
  refine row_all (f := mro x (mcm x cm p wy e 64) v m) hv h (fun n hn hx => ?_)
  show upd (mro x (mcm x cm p wy e 64) v m n) (64 * v + n) (if pbit m n = 1 then mcm x cm p wy e 64 n else mro x (mcm x cm p wy e 64) v m n (64 * v + n)) = _
  rw [pbit_pb hn, hx v hv, s_come h hp hn]
  cases pb m n <;> rfl
/-! shelves -/
theorem l255 {z : Int64} : (z &&& 255).toInt32 = z.toInt32 &&& 255 := by
  apply qb_ext
  intro k hk
  rw [qb_i32 hk, qb_and, pb_and, qb_i32 hk]
  congr 1
/-- a long's lowest byte -/
def lo8 (z : Int64) : BitVec 8 := z.toBitVec.setWidth 8
theorem lo8_i {z : Int64} : z.toInt32 &&& 255 = i8 (lo8 z) := by
  apply qb_ext
  intro k hk
  rw [qb_and, qb_i32 hk, qb_i8]
  unfold lo8
  rw [BitVec.getLsbD_setWidth]
  have h255 : ∀ k : Fin 32, qb 255 k.1 = decide (k.1 < 8) := by decide
  rw [h255 ⟨k, hk⟩]
  exact Bool.and_comm _ _
theorem s_load {x : Nat → Int32} {sh : Nat → Int64} {Y : Nat → Nat → BitVec 8} (h : Row x Y) {v k n : Nat} {m : Int64} {nu : Nat → Int64} (hv : v < 8) (hn : n ≤ 64) (hs : ∀ i, i < 64 → sh (64 * k + i) = nu i) : Row (mld x sh v k m n).1 (yset Y v (fun l => if l < n then (if pb m l then lo8 (nu l) else Y v l) else Y v l)) := by
  refine row_c (row_loop (N := n) (f := fun i => (mld x sh v k m i).1) (z := fun l => if pb m l then lo8 (nu l) else Y v l) hn hv h (fun i hi hx => ?_)) (fun v' _ l hl => ?_)
  · show (if pbit m i = 1 then (upd (mld x sh v k m i).1 (64 * v + i) ((sh (64 * k + i) &&& 255).toInt32), (mld x sh v k m i).2 + 1) else mld x sh v k m i).1 = _
    rw [pbit_pb (by omega), hs i (by omega), l255, lo8_i]
    cases pb m i
    · rw [if_neg (by decide)]
      show _ = upd (mld x sh v k m i).1 (64 * v + i) (i8 (Y v i))
      rw [upd_self (hx v hv)]
    · rw [if_pos (by decide)]
      rfl
  · unfold yset
    by_cases c : v' = v
    · rw [if_pos c]
      show _ = if l < n then (if pb m l then lo8 (nu l) else Y v l) else Y v l
      by_cases c2 : l < n
      · rw [if_pos ⟨c, c2⟩, if_pos c2]
      · rw [if_neg (fun z => c2 z.2), if_neg c2, c]
    · rw [if_neg (fun z => c z.1), if_neg c]
theorem c_load {F : Nat → Int64} {y : Nat → BitVec 8} (hc : Cut F y) {m : Int64} {nu : Nat → Int64} : ∀ n, n ≤ 64 → Cut (plod F nu m n).1 (fun l => if l < n then (if pb m l then lo8 (nu l) else y l) else y l) := by
  intro n
  induction n with
  | zero =>
    intro _
    exact cut_c hc (fun l hl => by simp)
  | succ n ih =>
    intro hn
    have ih := ih (by omega)
    have e : plod F nu m (n + 1) = if pbit m n = 1 then (lfill (pset (plod F nu m n).1 (nI n) ((nu n).toInt32 &&& 255)) (plod F nu m n).1 8, (plod F nu m n).2 + 1) else plod F nu m n := rfl
    rw [e, pbit_pb (by omega)]
    cases hb : pb m n
    · rw [if_neg (by decide)]
      refine cut_c ih (fun l hl => ?_)
      by_cases c : l = n
      · simp [c, hb]
      · have : (l < n + 1) ↔ (l < n) := by omega
        simp only [this]
    · rw [if_pos (by decide), lo8_i]
      refine cut_lfill.mpr (cut_c (cut_set ih (show n < 64 by omega)) (fun l hl => ?_))
      by_cases c : l = n
      · simp [c, hb]
      · have : (l < n + 1) ↔ (l < n) := by omega
        simp only [this, if_neg c]
theorem n_load {F nu sh : Nat → Int64} {x : Nat → Int32} {m : Int64} {v k : Nat} : ∀ n, (plod F nu m n).2 = (mld x sh v k m n).2 := by
  intro n
  induction n with
  | zero => rfl
  | succ n ih =>
    show (if pbit m n = 1 then (lfill (pset (plod F nu m n).1 (nI n) ((nu n).toInt32 &&& 255)) (plod F nu m n).1 8, (plod F nu m n).2 + 1) else plod F nu m n).2 = (if pbit m n = 1 then (upd (mld x sh v k m n).1 (64 * v + n) ((sh (64 * k + n) &&& 255).toInt32), (mld x sh v k m n).2 + 1) else mld x sh v k m n).2
    by_cases c : pbit m n = 1
    · rw [if_pos c, if_pos c, ih]
    · rw [if_neg c, if_neg c, ih]
theorem s_store {F nu sh : Nat → Int64} {x : Nat → Int32} {Y : Nat → Nat → BitVec 8} (h : Row x Y) {so : Int32} {v k : Nat} (hk : k < 4) (hv : v < 8) (hc : Cut F (Y v)) (hs : ∀ i, i < 64 → sh (64 * k + i) = nu i) : ∀ n, n ≤ 64 → (∀ i, i < 64 → mstr x sh so v k n (64 * k + i) = psto F nu so n i) ∧ (∀ j, (j < 64 * k ∨ 64 * k + 64 ≤ j) → mstr x sh so v k n j = sh j) := by
  intro n
  induction n with
  | zero => intro _; exact ⟨hs, fun j _ => rfl⟩
  | succ n ih =>
    intro hn
    obtain ⟨i1, i2⟩ := ih (by omega)
    constructor
    · intro i hi
      show vp_updL (mstr x sh so v k n) (64 * k + n) (nrw so (x (64 * v + n)).toInt64) (64 * k + i) = vp_updL (psto F nu so n) n (nrw so (plan F (nI n) 8).toInt64) i
      rw [updL_1, updL_1, h v hv n (by omega), cut_plan hc (by omega)]
      by_cases c : i = n
      · rw [if_pos (by omega), if_pos c]
      · rw [if_neg (by omega), if_neg c]
        exact i1 i hi
    · intro j hj
      show vp_updL (mstr x sh so v k n) (64 * k + n) (nrw so (x (64 * v + n)).toInt64) j = _
      rw [updL_1, if_neg (by omega)]
      exact i2 j hj
theorem s_judge {F nu sh : Nat → Int64} {x : Nat → Int32} {Y : Nat → Nat → BitVec 8} (h : Row x Y) {v k : Nat} (hv : v < 8) (hc : Cut F (Y v)) (hs : ∀ i, i < 64 → sh (64 * k + i) = nu i) : ∀ n i, n + i ≤ 64 → mjd x sh v k n i = pjud F nu n i := by
  intro n
  induction n with
  | zero => intro i _; rfl
  | succ n ih =>
    intro i hi
    show (if sh (64 * k + i) = (x (64 * v + i)).toInt64 then mjd x sh v k n (i + 1) else nI i) = (if nu i = (plan F (nI i) 8).toInt64 then pjud F nu n (i + 1) else nI i)
    rw [hs i (by omega), h v hv i (by omega), cut_plan hc (by omega), ih (i + 1) (by omega)]
/-! bytes -/
theorem s_feed {z : Int64} : ∀ i, i < 8 → mfd z i = pfed z i := by
  intro i hi
  have h1 : ∀ i : Fin 8, ((8 : Int32) * nI i.1).toInt64 &&& 63 = Int64.ofNat (8 * i.1) := by decide
  have h2 : ∀ i : Fin 8, ((8 : Int32) * nI i.1).toInt64.toUInt64 &&& Int64.toUInt64 63 = UInt64.ofNat (8 * i.1) := by decide
  unfold mfd pfed
  rw [l255, h1 ⟨i, hi⟩, h2 ⟨i, hi⟩]
  apply qb_ext
  intro k hk
  rw [qb_and, qb_and]
  have h255 : ∀ k : Fin 32, qb 255 k.1 = decide (k.1 < 8) := by decide
  rw [h255 ⟨k, hk⟩]
  by_cases c : k < 8
  · rw [qb_i32 hk, qb_i32 hk, pb_shr (by omega)]
    congr 1
    unfold pb
    rw [Int64.toBitVec_shiftRight]
    have h3 : ∀ a : Fin 64, (Int64.ofNat a.1).toBitVec.smod 64 = BitVec.ofNat 64 a.1 := by decide
    rw [h3 ⟨8 * i, by omega⟩]
    show (z.toBitVec.sshiftRight (BitVec.ofNat 64 (8 * i)).toNat).getLsbD k = _
    rw [BitVec.getLsbD_sshiftRight, BitVec.toNat_ofNat, Nat.mod_eq_of_lt (by omega)]
    have e1 : ¬ 64 ≤ k := by omega
    have e2 : 8 * i + k < 64 := by omega
    simp [e2, show k < 64 by omega]
  · simp [c]
theorem s_tap {tp tq : Nat → Int32} {tl : Nat} {z : Int64} : ∀ n, n ≤ 8 → (∀ j, j < 160 → tp j = tq j) → ∀ j, j < 160 → mtap tp tl z n j = ptap tq tl z n j := by
  intro n
  induction n with
  | zero => intro _ h; exact h
  | succ n ih =>
    intro hn h j hj
    show upd (mtap tp tl z n) (tl + n) (mfd z n) j = upd (ptap tq tl z n) (tl + n) (pfed z n) j
    rw [upd_1, upd_1, s_feed n (by omega), ih (by omega) h j hj]

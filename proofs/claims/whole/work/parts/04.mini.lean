/-! A small machine over relative places: one memory for all cells that were made since the law's start (place k from 3 on), places 0, 1, 2 are the script and the two static arrays, read only. -/
abbrev mE : Type := (Nat × vp_A) ⊕ (Nat × List Value)
abbrev mM : Type := (Nat → Option mE) × Nat × Nat
abbrev mI : Type := Instr × List Nat
abbrev mL : Type := List (Option Value)
abbrev mT : Type := (MethodName × ByteArray × Nat × Option FieldType) × List (Nat × List mI)
abbrev mB : Type := List mT
abbrev mAct : Type := (mL × List Value × mM × Option Nat) ⊕ ((Option Value) ⊕ (Nat × List Value × List Value))
abbrev cI (n : Nat) (f : Nat → Int32) : mE := .inl (0, n, .inl f)
abbrev cJ (n : Nat) (f : Nat → Int64) : mE := .inl (1, n, .inr (.inl f))
abbrev cR (t n : Nat) (f : Nat → Option Nat) : mE := .inl (t, n, .inr (.inr (.inr (.inr f))))
abbrev cO (c : Nat) (fs : List Value) : mE := .inr (c, fs)
def gI : Option mE → Option (Nat × (Nat → Int32))
  | some (.inl (0, n, .inl f)) => some (n, f)
  | _ => none
def gJ : Option mE → Option (Nat × (Nat → Int64))
  | some (.inl (1, n, .inr (.inl f))) => some (n, f)
  | _ => none
def gR : Option mE → Option (Nat × Nat × (Nat → Option Nat))
  | some (.inl (t + 2, n, .inr (.inr (.inr (.inr f))))) => some (t + 2, n, f)
  | _ => none
def gO : Option mE → Option (Nat × List Value)
  | some (.inr (c, fs)) => some (c, fs)
  | _ => none
def mu (M : mM) (k : Nat) (c : mE) : mM := (fun j => if j = k then some c else M.1 j, M.2)
def mp (M : mM) (c : mE) (z : Nat) : mM := (fun j => if j = M.2.1 then some c else M.1 j, M.2.1 + 1, M.2.2 + z)
def lget : mL → Nat → Option Value
  | [], _ => none
  | x :: _, 0 => x
  | _ :: r, n + 1 => lget r n
def lkl (x : Option Value) : Option Value := match x with
  | some (.long _) => none
  | some (.double _) => none
  | x => x
def lset1 : mL → Nat → Value → mL
  | [], _, _ => []
  | _ :: r, 0, v => some v :: r
  | x :: r, 1, v => lkl x :: lset1 r 0 v
  | x :: r, n + 2, v => x :: lset1 r (n + 1) v
def lnon : mL → mL
  | [] => []
  | _ :: r => none :: r
def lset2 : mL → Nat → Value → mL
  | [], _, _ => []
  | _ :: r, 0, v => some v :: lnon r
  | x :: r, 1, v => lkl x :: lset2 r 0 v
  | x :: r, n + 2, v => x :: lset2 r (n + 1) v
def mcat (st : List Value) : Nat := (st.map fun v => v.category).sum
def mfit (t : Nat) (v : Value) : Bool := match t, v with
  | 0, .int _ => true
  | 1, .ref _ => true
  | 1, .null => true
  | 2, .int x => x == 0 || x == 1
  | _, _ => false
/-- the fields of a fresh object, by the class's number -/
def mnew : Nat → List Value
  | 0 => [.int 0, .int 0, .int 0, .int 0, .null, .null, .null, .null]
  | 1 => [.null, .int 0]
  | 2 => [.null, .int 0]
  | 3 => [.null, .int 0]
  | 4 => [.null, .null, .int 0, .int 0, .int 0, .int 0, .int 0]
  | 5 => [.null, .int 0, .int 0]
  | 6 => [.null]
  | 7 => [.null, .int 0]
  | 8 => [.null]
  | 9 => [.null, .null, .null, .int 0, .int 0]
  | 10 => [.null, .null, .int 0, .int 0, .null]
  | 11 => [.null, .null, .int 0, .null, .null, .null, .null, .null, .null]
  | 12 => [.null, .null, .null, .null, .null, .null, .null, .int 0, .int 0, .int 0, .int 0, .int 0, .int 0, .int 0, .null, .null, .null, .int 0, .int 0, .int 0, .int 0, .null, .int 0, .null, .null, .null, .null, .int 0, .int 0, .int 0, .int 0, .int 0, .int 0, .int 0, .int 0, .null, .int 0]
  | _ => []
def mnx (L : mL) (st : List Value) (M : mM) : Option mAct := some (.inl (L, st, M, none))
def mjp (L : mL) (st : List Value) (M : mM) (t : Nat) : Option mAct := some (.inl (L, st, M, some t))
def mbr (g : List Nat) (c : Bool) (L : mL) (st : List Value) (M : mM) : Option mAct := match g with
  | [t] => if c then mjp L st M t else mnx L st M
  | _ => none
def mcopy (L : mL) (n dp : Int32) (q : Nat) (sp : Int32) (p : Nat) (st : List Value) (M : mM) : Option mAct :=
  if 3 ≤ q ∧ ¬ sp < 0 ∧ ¬ dp < 0 ∧ ¬ n < 0 ∧ mcat st ≤ 8 then
    match gI (M.1 p), gI (M.1 q), gJ (M.1 p), gJ (M.1 q) with
    | some (n0, f), some (n1, g), _, _ => if 3 ≤ p ∧ sp.toNatClampNeg + n.toNatClampNeg ≤ n0 ∧ dp.toNatClampNeg + n.toNatClampNeg ≤ n1 then mnx L st (mu M q (cI n1 (va_cpy f g sp.toNatClampNeg dp.toNatClampNeg n.toNatClampNeg))) else none
    | _, _, some (n0, f), some (n1, g) => if (3 ≤ p ∨ p = 2) ∧ sp.toNatClampNeg + n.toNatClampNeg ≤ n0 ∧ dp.toNatClampNeg + n.toNatClampNeg ≤ n1 then mnx L st (mu M q (cJ n1 (va_cpy f g sp.toNatClampNeg dp.toNatClampNeg n.toNatClampNeg))) else none
    | _, _, _, _ => none
  else none
/-- one instruction; .jsr_w n stands for 'the long n' -/
def ms (i : Instr) (g : List Nat) (L : mL) (st : List Value) (M : mM) : Option mAct :=
  match i with
  | .iconst n => mnx L (.int (Int32.ofInt n) :: st) M
  | .jsr_w n => mnx L (.long (Int64.ofInt n) :: st) M
  | .aconst_null => mnx L (.null :: st) M
  | .iload k => match lget L k with
    | some (.int x) => mnx L (.int x :: st) M
    | _ => none
  | .lload k => match lget L k with
    | some (.long x) => mnx L (.long x :: st) M
    | _ => none
  | .aload k => match lget L k with
    | some (.ref x) => mnx L (.ref x :: st) M
    | some .null => mnx L (.null :: st) M
    | _ => none
  | .istore k => match st with
    | .int x :: st => if k < L.length then mnx (lset1 L k (.int x)) st M else none
    | _ => none
  | .astore k => match st with
    | .ref x :: st => if k < L.length then mnx (lset1 L k (.ref x)) st M else none
    | .null :: st => if k < L.length then mnx (lset1 L k .null) st M else none
    | _ => none
  | .lstore k => match st with
    | .long x :: st => if k + 1 < L.length then mnx (lset2 L k (.long x)) st M else none
    | _ => none
  | .iinc k n => match lget L k with
    | some (.int x) => if k < L.length then mnx (lset1 L k (.int (x + Int32.ofInt n))) st M else none
    | _ => none
  | .iadd => match st with
    | .int y :: .int x :: st => mnx L (.int (x + y) :: st) M
    | _ => none
  | .isub => match st with
    | .int y :: .int x :: st => mnx L (.int (x - y) :: st) M
    | _ => none
  | .imul => match st with
    | .int y :: .int x :: st => mnx L (.int (x * y) :: st) M
    | _ => none
  | .iand => match st with
    | .int y :: .int x :: st => mnx L (.int (x &&& y) :: st) M
    | _ => none
  | .ior => match st with
    | .int y :: .int x :: st => mnx L (.int (x ||| y) :: st) M
    | _ => none
  | .ixor => match st with
    | .int y :: .int x :: st => mnx L (.int (x ^^^ y) :: st) M
    | _ => none
  | .ishl => match st with
    | .int y :: .int x :: st => mnx L (.int (x <<< (y &&& 31)) :: st) M
    | _ => none
  | .ishr => match st with
    | .int y :: .int x :: st => mnx L (.int (x >>> (y &&& 31)) :: st) M
    | _ => none
  | .iushr => match st with
    | .int y :: .int x :: st => mnx L (.int (x.toUInt32 >>> (y.toUInt32 &&& Int32.toUInt32 31)).toInt32 :: st) M
    | _ => none
  | .idiv => match st with
    | .int y :: .int x :: st => if ¬ y = 0 then mnx L (.int (x / y) :: st) M else none
    | _ => none
  | .irem => match st with
    | .int y :: .int x :: st => if ¬ y = 0 then mnx L (.int (x - x / y * y) :: st) M else none
    | _ => none
  | .ineg => match st with
    | .int x :: st => mnx L (.int (-x) :: st) M
    | _ => none
  | .ladd => match st with
    | .long y :: .long x :: st => mnx L (.long (x + y) :: st) M
    | _ => none
  | .lsub => match st with
    | .long y :: .long x :: st => mnx L (.long (x - y) :: st) M
    | _ => none
  | .land => match st with
    | .long y :: .long x :: st => mnx L (.long (x &&& y) :: st) M
    | _ => none
  | .lor => match st with
    | .long y :: .long x :: st => mnx L (.long (x ||| y) :: st) M
    | _ => none
  | .lxor => match st with
    | .long y :: .long x :: st => mnx L (.long (x ^^^ y) :: st) M
    | _ => none
  | .lshl => match st with
    | .int y :: .long x :: st => mnx L (.long (x <<< (y.toInt64 &&& 63)) :: st) M
    | _ => none
  | .lshr => match st with
    | .int y :: .long x :: st => mnx L (.long (x >>> (y.toInt64 &&& 63)) :: st) M
    | _ => none
  | .lushr => match st with
    | .int y :: .long x :: st => mnx L (.long (x.toUInt64 >>> (y.toInt64.toUInt64 &&& Int64.toUInt64 63)).toInt64 :: st) M
    | _ => none
  | .lcmp => match st with
    | .long y :: .long x :: st => mnx L (.int (lg_cmp x y) :: st) M
    | _ => none
  | .i2l => match st with
    | .int x :: st => mnx L (.long x.toInt64 :: st) M
    | _ => none
  | .l2i => match st with
    | .long x :: st => mnx L (.int x.toInt32 :: st) M
    | _ => none
  | .i2b => match st with
    | .int x :: st => mnx L (.int x.toInt8.toInt32 :: st) M
    | _ => none
  | .i2s => match st with
    | .int x :: st => mnx L (.int x.toInt16.toInt32 :: st) M
    | _ => none
  | .dup => match st with
    | .int x :: st => mnx L (.int x :: .int x :: st) M
    | .ref x :: st => mnx L (.ref x :: .ref x :: st) M
    | .null :: st => mnx L (.null :: .null :: st) M
    | _ => none
  | .dup2 => match st with
    | .long x :: st => mnx L (.long x :: .long x :: st) M
    | .int x :: .ref y :: st => mnx L (.int x :: .ref y :: .int x :: .ref y :: st) M
    | .int x :: .int y :: st => mnx L (.int x :: .int y :: .int x :: .int y :: st) M
    | _ => none
  | .pop => match st with
    | .int _ :: st => mnx L st M
    | .ref _ :: st => mnx L st M
    | .null :: st => mnx L st M
    | _ => none
  | .iaload => match st with
    | .int j :: .ref p :: st => match gI (M.1 p) with
      | some (n, f) => if ¬ (j < 0 ∨ n ≤ j.toNatClampNeg) then mnx L (.int (f j.toNatClampNeg) :: st) M else none
      | none => none
    | _ => none
  | .laload => match st with
    | .int j :: .ref p :: st => match gJ (M.1 p) with
      | some (n, f) => if ¬ (j < 0 ∨ n ≤ j.toNatClampNeg) then mnx L (.long (f j.toNatClampNeg) :: st) M else none
      | none => none
    | _ => none
  | .aaload => match st with
    | .int j :: .ref p :: st => match gR (M.1 p) with
      | some (t, n, f) => if 3 ≤ p ∧ (t = 2 ∨ t = 3) ∧ ¬ (j < 0 ∨ n ≤ j.toNatClampNeg) then mnx L (va_rf (f j.toNatClampNeg) :: st) M else none
      | none => none
    | _ => none
  | .iastore => match st with
    | .int x :: .int j :: .ref p :: st => match gI (M.1 p) with
      | some (n, f) => if 3 ≤ p ∧ ¬ (j < 0 ∨ n ≤ j.toNatClampNeg) then mnx L st (mu M p (cI n (upd f j.toNatClampNeg x))) else none
      | none => none
    | _ => none
  | .lastore => match st with
    | .long x :: .int j :: .ref p :: st => match gJ (M.1 p) with
      | some (n, f) => if 3 ≤ p ∧ ¬ (j < 0 ∨ n ≤ j.toNatClampNeg) then mnx L st (mu M p (cJ n (vp_updL f j.toNatClampNeg x))) else none
      | none => none
    | _ => none
  | .aastore => match st with
    | .ref x :: .int j :: .ref p :: st => match gR (M.1 p), gO (M.1 x) with
      | some (t, n, f), some (c, _) => if 3 ≤ p ∧ 3 ≤ x ∧ ¬ (j < 0 ∨ n ≤ j.toNatClampNeg) ∧ ((t = 2 ∧ c = 6) ∨ (t = 3 ∧ c = 5)) then mnx L st (mu M p (cR t n (va_up f j.toNatClampNeg (some x)))) else none
      | _, _ => none
    | _ => none
  | .arraylength => match st with
    | .ref p :: st => match M.1 p with
      | some (.inl (t, n, _)) => if (3 ≤ p ∨ p = 0) ∧ t < 4 then mnx L (.int (Int32.ofNat n) :: st) M else none
      | _ => none
    | _ => none
  | .getfield _ => match g, st with
    | [ci, k], .ref p :: st => match gO (M.1 p) with
      | some (c, fs) => if 3 ≤ p ∧ c = ci then match fs[k]? with
        | some v => mnx L (v :: st) M
        | none => none
        else none
      | none => none
    | _, _ => none
  | .putfield _ => match g, st with
    | [ci, k, t], v :: .ref p :: st => match gO (M.1 p) with
      | some (c, fs) => if 3 ≤ p ∧ c = ci ∧ k < fs.length ∧ mfit t v = true then mnx L st (mu M p (cO c (fs.set k v))) else none
      | none => none
    | _, _ => none
  | .getstatic _ => match g with
    | [1] => mnx L (.ref 1 :: st) M
    | [2] => mnx L (.ref 2 :: st) M
    | _ => none
  | .new _ => match g with
    | [ci] => mnx L (.ref M.2.1 :: st) (mp M (cO ci (mnew ci)) (mnew ci).length)
    | _ => none
  | .newarray t => match t, st with
    | .int, .int n :: st => if ¬ n < 0 ∧ n.toNatClampNeg ≤ 60000 then mnx L (.ref M.2.1 :: st) (mp M (cI n.toNatClampNeg (fun _ => 0)) n.toNatClampNeg) else none
    | .long, .int n :: st => if ¬ n < 0 ∧ n.toNatClampNeg ≤ 60000 then mnx L (.ref M.2.1 :: st) (mp M (cJ n.toNatClampNeg (fun _ => 0)) n.toNatClampNeg) else none
    | _, _ => none
  | .anewarray _ => match g, st with
    | [t], .int n :: st => if ¬ n < 0 ∧ n.toNatClampNeg ≤ 60000 then mnx L (.ref M.2.1 :: st) (mp M (cR t n.toNatClampNeg (fun _ => none)) n.toNatClampNeg) else none
    | _, _ => none
  | .goto _ => match g with
    | [t] => mjp L st M t
    | _ => none
  | .if_icmp c _ => match c, st with
    | .eq, .int y :: .int x :: st => mbr g (decide (x = y)) L st M
    | .ne, .int y :: .int x :: st => mbr g (decide (¬ x = y)) L st M
    | .lt, .int y :: .int x :: st => mbr g (decide (x < y)) L st M
    | .ge, .int y :: .int x :: st => mbr g (decide (y ≤ x)) L st M
    | .gt, .int y :: .int x :: st => mbr g (decide (y < x)) L st M
    | .le, .int y :: .int x :: st => mbr g (decide (x ≤ y)) L st M
    | _, _ => none
  | .ifCond c _ => match c, st with
    | .eq, .int x :: st => mbr g (decide (x = 0)) L st M
    | .ne, .int x :: st => mbr g (decide (¬ x = 0)) L st M
    | .lt, .int x :: st => mbr g (decide (x < 0)) L st M
    | .ge, .int x :: st => mbr g (decide (0 ≤ x)) L st M
    | .gt, .int x :: st => mbr g (decide (0 < x)) L st M
    | .le, .int x :: st => mbr g (decide (x ≤ 0)) L st M
    | _, _ => none
  | .ifnull _ => match st with
    | .ref _ :: st => mbr g false L st M
    | .null :: st => mbr g true L st M
    | _ => none
  | .ifnonnull _ => match st with
    | .ref _ :: st => mbr g true L st M
    | .null :: st => mbr g false L st M
    | _ => none
  | .tableswitch _ lo hi _ => match st, g with
    | .int x :: st, t :: ts => if x.toInt < lo ∨ hi < x.toInt then mjp L st M t else match ts[(x.toInt - lo).toNat]? with
      | some t => mjp L st M t
      | none => none
    | _, _ => none
  | .lookupswitch d ps => match st, g with
    | .int x :: st, [pc] => if 0 ≤ (pc : Int) + Op.lookupswitch.offset ps.toList d x.toInt then mjp L st M ((pc : Int) + Op.lookupswitch.offset ps.toList d x.toInt).toNat else none
    | _, _ => none
  | .invokestatic _ => match g with
    | [μ, n] => if n ≤ st.length ∧ mcat (st.drop n) ≤ 8 then some (.inr (.inr (μ, (st.take n).reverse, st.drop n))) else none
    | [] => match st with
      | .int n :: .int dp :: .ref q :: .int sp :: .ref p :: st => mcopy L n dp q sp p st M
      | _ => none
    | [1] => match st with
      | .int y :: .int x :: st => if mcat st ≤ 8 then mnx L (.int (if x < y then y else x) :: st) M else none
      | _ => none
    | [2] => match st with
      | .int y :: .int x :: st => if mcat st ≤ 8 then mnx L (.int (if y < x then y else x) :: st) M else none
      | _ => none
    | _ => none
  | .invokevirtual _ => match g, st.drop (g.getD 1 0) with
    | [μ, n, ci], .ref p :: rest => match gO (M.1 p) with
      | some (c, _) => if 3 ≤ p ∧ c = ci ∧ mcat rest ≤ 8 ∧ n ≤ st.length then some (.inr (.inr (μ, .ref p :: (st.take n).reverse, rest))) else none
      | none => none
    | _, _ => none
  | .invokespecial _ => match g, st.drop (g.getD 1 0) with
    | [μ, n], .ref p :: rest => if mcat rest ≤ 8 ∧ n ≤ st.length then some (.inr (.inr (μ, .ref p :: (st.take n).reverse, rest))) else none
    | [], .ref _ :: rest => if mcat rest ≤ 8 then mnx L rest M else none
    | _, _ => none
  | .ireturn => match g, st with
    | [], [.int v] => some (.inr (.inl (some (.int v))))
    | [1], [.int v] => if v = 0 ∨ v = 1 then some (.inr (.inl (some (.int v)))) else none
    | _, _ => none
  | .lreturn => match st with
    | [.long v] => some (.inr (.inl (some (.long v))))
    | _ => none
  | .areturn => match st with
    | [.ref v] => some (.inr (.inl (some (.ref v))))
    | [.null] => some (.inr (.inl (some .null)))
    | _ => none
  | .return_ => match st with
    | [] => some (.inr (.inl none))
    | _ => none
  | _ => none
def mat (tb : mB) (μ t : Nat) : List mI := match tb[μ]? with
  | some q => (q.2.lookup t).getD []
  | none => []
def mlay : List Value → mL
  | [] => []
  | v :: vs => if v.category = 2 then some v :: none :: mlay vs else some v :: mlay vs
def mmx (tb : mB) (μ : Nat) : Nat := match tb[μ]? with
  | some q => q.1.2.2.1
  | none => 0
def ment (tb : mB) (μ : Nat) (as : List Value) : mL := mlay as ++ List.replicate (mmx tb μ - (mlay as).length) none
def mrun (tb : mB) : Nat → Nat → Nat → List mI → mL → List Value → mM → Option (Option Value × mM)
  | 0, _, _, _, _, _, _ => none
  | _ + 1, _, _, [], _, _, _ => none
  | f + 1, d, μ, (i, g) :: is, L, st, M => match ms i g L st M with
    | some (.inl (L', st', M', none)) => mrun tb f d μ is L' st' M'
    | some (.inl (L', st', M', some t)) => mrun tb f d μ (mat tb μ t) L' st' M'
    | some (.inr (.inl v)) => some (v, M)
    | some (.inr (.inr (μ', as, st'))) => match d with
      | 0 => none
      | d' + 1 => if (mlay as).length ≤ mmx tb μ' then match mrun tb f d' μ' (mat tb μ' 0) (ment tb μ' as) [] M with
        | some (v, M') => mrun tb f (d' + 1) μ is L (v.toList ++ st') M'
        | none => none
        else none
    | none => none

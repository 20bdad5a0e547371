/-! Each instruction of the small machine, held against the machine's. -/
def mCx (N0 : Nat) (sp : Nat → Nat) (D : va_G) (cA : Nat → ClassId) (H00 : Heap) (len : Nat) (xs : Nat → Int32) (q : mT) (p : Program) (R : Room) (s : State) (m : MethodId) (args : Array Value) (meth : Method) (c : Code) (b0 : Nat) : Prop :=
  p.tables.exec = Jvm.exec ∧ c.code = q.1.2.1 ∧ meth.sig.returnType = q.1.2.2.2 ∧ c.maxLocals = q.1.2.2.1 ∧ s.vm.findClass q.1.1.cls = some m.cls ∧ (∀ w ∈ mtb, w.before args s = true) ∧ meth.locks = false ∧ (q.1.1.name = "<init>" → meth.name = "<init>") ∧
    mGood N0 sp D cA H00 len xs s ∧ (∀ x : Nat, x < N0 → s.heap[x]? = H00[x]?) ∧ s.heap.size = N0 + (b0 - 3) ∧ 3 ≤ b0 ∧ 1 ≤ R.frames ∧ 64 ≤ R.locals
def mJ (N0 : Nat) (sp : Nat → Nat) (D : va_G) (cA : Nat → ClassId) (H00 : Heap) (len : Nat) (xs : Nat → Int32) (p : Program) (l : Launch) (e : Env) (R : Room) (s : State) (m : MethodId) (args : Array Value) (below : List Frame) (meth : Method) (c : Code) (Q : State → Prop) (b0 b1 : Nat) (M : mM) (L : mL) (st : List Value) (pc : Nat) : Prop :=
  ∀ (H : Heap) (locs : List Loc) (ls : Array Slot), mHolds N0 sp D cA H00 len xs M H → mLs (mad N0 sp) c.maxLocals ls L → (∀ x ∈ locs, mA N0 x.base) → W p l e R s m args below meth c H locs (M.2.1 - b0) (M.2.2 - b1) Q (F0 m pc ls (st.map (mtr (mad N0 sp))))
theorem gI_eq {x : Option mE} {n : Nat} {f : Nat → Int32} (h : gI x = some (n, f)) : x = some (cI n f) := by
  unfold gI at h
  split at h
  · cases h; rfl
  · cases h
theorem gJ_eq {x : Option mE} {n : Nat} {f : Nat → Int64} (h : gJ x = some (n, f)) : x = some (cJ n f) := by
  unfold gJ at h
  split at h
  · cases h; rfl
  · cases h
theorem gR_eq {x : Option mE} {t n : Nat} {f : Nat → Option Nat} (h : gR x = some (t, n, f)) : x = some (cR t n f) := by
  unfold gR at h
  split at h
  · cases h; rfl
  · cases h
theorem gO_eq {x : Option mE} {k : Nat} {fs : List Value} (h : gO x = some (k, fs)) : x = some (cO k fs) := by
  unfold gO at h
  split at h
  · cases h; rfl
  · cases h
theorem mS_rf {N0 : Nat} {H : Heap} {locs : List Loc} (h : ∀ x ∈ locs, mA N0 x.base) : va_S (mA N0) H H locs := ⟨Nat.le_refl _, fun _ _ _ => rfl, h⟩
section ST
variable {N0 : Nat} {sp : Nat → Nat} {D : va_G} {cA : Nat → ClassId} {H00 : Heap} {len : Nat} {xs : Nat → Int32} {q : mT}
variable {p : Program} {l : Launch} {e : Env} {R : Room} {s : State} {m : MethodId} {args : Array Value} {below : List Frame} {meth : Method} {c : Code} {H : Heap} {locs : List Loc} {cells slots : Nat} {Q : State → Prop} {b0 b1 : Nat} {pc : Nat} {ls : Array Slot} {M : mM} {L : mL} {st : List Value}
theorem mS_in (C : mCx N0 sp D cA H00 len xs q p R s m args meth c b0) (hH : mHolds N0 sp D cA H00 len xs M H) (hb : b0 ≤ M.2.1) (hlo : ∀ x ∈ locs, mA N0 x.base) : va_S (mA N0) s.heap H locs := by
  obtain ⟨-, -, -, -, -, -, -, -, -, h1, h2, h3, -, -⟩ := C
  obtain ⟨hw, -, hz, hq⟩ := hH
  refine ⟨by omega, fun x hx hn => ?_, hlo⟩
  have hx' : x < N0 := Nat.lt_of_not_le hn
  rw [hq x hx', h1 x hx']

theorem j_iald (C : mCx N0 sp D cA H00 len xs q p R s m args meth c b0) (hd : decode q.1.2.1 pc = .ok (.iaload, 1)) (hb : b0 ≤ M.2.1) {a n : Nat} {f : Nat → Int32} {i : Int32} (ha : M.1 a = some (cI n f)) (hin : ¬ (i < 0 ∨ n ≤ i.toNatClampNeg))
    (k : mJ N0 sp D cA H00 len xs p l e R s m args below meth c Q b0 b1 M L (.int (f i.toNatClampNeg) :: st) (pc + 1)) : mJ N0 sp D cA H00 len xs p l e R s m args below meth c Q b0 b1 M L (.int i :: .ref a :: st) pc := by
  intro H locs ls hH hl hlo
  have kk := k H locs ls hH hl hlo
  have hlt : i.toNatClampNeg < n := Nat.not_le.mp fun q => hin (Or.inr q)
  obtain ⟨hK, hN, hA6, hA5, hX, hZ1, hT1, hZ2, hT2, hz0, hs0⟩ := C.2.2.2.2.2.2.2.2.1
  have hq := hH.2.2.2
  have hcase : a = 0 ∨ a = 1 ∨ a = 2 ∨ 3 ≤ a := by omega
  rcases hcase with h | h | h | h
  · subst h
    have e := ha.symm.trans hH.1.2.2.2.1
    cases e
    obtain ⟨scr, g1, g2, g3, g4, g5⟩ := hX
    exact W.iald (v := .int (xs i.toNatClampNeg)) C.1 C.2.1 (show H[sp 0]? = _ by rw [hq _ hs0]; exact g1) g2 g3 (by rw [g4]; exact hin) (g5 _ hlt) rfl rfl hd kk
  · subst h
    have e := ha.symm.trans hH.1.2.2.2.2.1
    cases e
    obtain ⟨cell, g1, g2, g3, g4, g5, g6, g7⟩ := hT1
    refine W.iald (v := .int (mf1 i.toNatClampNeg)) C.1 C.2.1 (cell := cell) ?_ g2 g3 (fun z => z.elim (fun z => hin (Or.inl z)) (fun z => hin (Or.inr (Nat.le_trans g4 z)))) (g6 _ hlt) rfl rfl hd kk
    show H[sp 1]? = _
    rw [hq _ (Nat.lt_of_not_le g7)]
    exact g1
  · subst h
    have e := ha.symm.trans hH.1.2.2.2.2.2
    cases e
  · have hi := mWf_lt hH.1 ha
    exact va_iald C.1 C.2.1 hK hH.2.1 (a - 3) 0 (mws_get h hi ha) rfl hin hd kk
theorem j_lald (C : mCx N0 sp D cA H00 len xs q p R s m args meth c b0) (hd : decode q.1.2.1 pc = .ok (.laload, 1)) (hb : b0 ≤ M.2.1) {a n : Nat} {f : Nat → Int64} {i : Int32} (ha : M.1 a = some (cJ n f)) (hin : ¬ (i < 0 ∨ n ≤ i.toNatClampNeg))
    (k : mJ N0 sp D cA H00 len xs p l e R s m args below meth c Q b0 b1 M L (.long (f i.toNatClampNeg) :: st) (pc + 1)) : mJ N0 sp D cA H00 len xs p l e R s m args below meth c Q b0 b1 M L (.int i :: .ref a :: st) pc := by
  intro H locs ls hH hl hlo
  have kk := k H locs ls hH hl hlo
  have hlt : i.toNatClampNeg < n := Nat.not_le.mp fun q => hin (Or.inr q)
  obtain ⟨hK, hN, hA6, hA5, hX, hZ1, hT1, hZ2, hT2, hz0, hs0⟩ := C.2.2.2.2.2.2.2.2.1
  have hq := hH.2.2.2
  have hcase : a = 0 ∨ a = 1 ∨ a = 2 ∨ 3 ≤ a := by omega
  rcases hcase with h | h | h | h
  · subst h
    have e := ha.symm.trans hH.1.2.2.2.1
    cases e
  · subst h
    have e := ha.symm.trans hH.1.2.2.2.2.1
    cases e
  · subst h
    have e := ha.symm.trans hH.1.2.2.2.2.2
    cases e
    obtain ⟨cell, g1, g2, g3, g4, g5, g6, g7⟩ := hT2
    refine W.lald (v := .long (mf2 i.toNatClampNeg)) C.1 C.2.1 (cell := cell) ?_ g2 g3 (fun z => z.elim (fun z => hin (Or.inl z)) (fun z => hin (Or.inr (Nat.le_trans g4 z)))) (g6 _ hlt) rfl rfl hd kk
    show H[sp 2]? = _
    rw [hq _ (Nat.lt_of_not_le g7)]
    exact g1
  · have hi := mWf_lt hH.1 ha
    exact va_lald C.1 C.2.1 hK hH.2.1 (a - 3) 1 (mws_get h hi ha) rfl hin hd kk
theorem mtr_rf {ad : Nat → Nat} (r : Option Nat) : va_rf (r.map ad) = mtr ad (va_rf r) := by cases r <;> rfl
theorem j_aald (C : mCx N0 sp D cA H00 len xs q p R s m args meth c b0) (hd : decode q.1.2.1 pc = .ok (.aaload, 1)) {a t n : Nat} {f : Nat → Option Nat} {i : Int32} (h3 : 3 ≤ a) (ht : t = 2 ∨ t = 3) (ha : M.1 a = some (cR t n f)) (hin : ¬ (i < 0 ∨ n ≤ i.toNatClampNeg))
    (k : mJ N0 sp D cA H00 len xs p l e R s m args below meth c Q b0 b1 M L (va_rf (f i.toNatClampNeg) :: st) (pc + 1)) : mJ N0 sp D cA H00 len xs p l e R s m args below meth c Q b0 b1 M L (.int i :: .ref a :: st) pc := by
  intro H locs ls hH hl hlo
  have kk := k H locs ls hH hl hlo
  have hK := C.2.2.2.2.2.2.2.2.1.1
  have hi := mWf_lt hH.1 ha
  have kk : W p l e R s m args below meth c H locs (M.2.1 - b0) (M.2.2 - b1) Q (F0 m (pc + 1) ls (va_rf ((f i.toNatClampNeg).map (mad N0 sp)) :: st.map (mtr (mad N0 sp)))) := by
    rw [mtr_rf]
    exact kk
  rcases ht with h | h
  · subst h
    exact va_aldq C.1 C.2.1 hK hH.2.1 (a - 3) 2 (mws_get h3 hi ha) rfl hin hd kk
  · subst h
    exact va_aldq C.1 C.2.1 hK hH.2.1 (a - 3) 3 (mws_get h3 hi ha) rfl hin hd kk
theorem j_alen (C : mCx N0 sp D cA H00 len xs q p R s m args meth c b0) (hd : decode q.1.2.1 pc = .ok (.arraylength, 1)) {a t n : Nat} {x : (Nat → Int32) ⊕ (Nat → Int64) ⊕ (Nat → UInt32) ⊕ (Nat → UInt64) ⊕ (Nat → Option Nat)} (h3 : 3 ≤ a ∨ a = 0) (ht : t < 4) (ha : M.1 a = some (.inl (t, n, x)))
    (k : mJ N0 sp D cA H00 len xs p l e R s m args below meth c Q b0 b1 M L (.int (Int32.ofNat n) :: st) (pc + 1)) : mJ N0 sp D cA H00 len xs p l e R s m args below meth c Q b0 b1 M L (.ref a :: st) pc := by
  intro H locs ls hH hl hlo
  have kk := k H locs ls hH hl hlo
  obtain ⟨hK, hN, hA6, hA5, hX, hZ1, hT1, hZ2, hT2, hz0, hs0⟩ := C.2.2.2.2.2.2.2.2.1
  rcases h3 with h3 | h3
  · have hi := mWf_lt hH.1 ha
    have hx : (mtA (mad N0 sp) (n, x)).1 = n := by
      obtain f | f | f | f | f := x <;> rfl
    have ht : ∃ ty, (mtys cA)[t]? = some (cA t, ty) := by
      match t, ht with
      | 0, _ => exact ⟨_, rfl⟩
      | 1, _ => exact ⟨_, rfl⟩
      | 2, _ => exact ⟨_, rfl⟩
      | 3, _ => exact ⟨_, rfl⟩
    obtain ⟨ty, ht⟩ := ht
    exact va_alen C.1 C.2.1 hK hH.2.1 (a - 3) t (mws_get h3 hi ha) ht (by rw [hx]) hd kk
  · subst h3
    have e := ha.symm.trans hH.1.2.2.2.1
    cases e
    obtain ⟨scr, g1, g2, g3, g4, g5⟩ := hX
    exact W.alen (n := Int32.ofNat len) C.1 C.2.1 (show H[sp 0]? = _ by rw [hH.2.2.2 _ hs0]; exact g1) g2 (by rw [g4] <;> rfl) rfl rfl hd kk

theorem mstore (C : mCx N0 sp D cA H00 len xs q p R s m args meth c b0) (hb : b0 ≤ M.2.1) (hH : mHolds N0 sp D cA H00 len xs M H) {a : Nat} {cl : mE} (h3 : 3 ≤ a) (hi : a < M.2.1) {st' : List Value} {pc' : Nat} (hl : mLs (mad N0 sp) c.maxLocals ls L)
    (k : mJ N0 sp D cA H00 len xs p l e R s m args below meth c Q b0 b1 (mu M a cl) L st' pc') (H1 : Heap) (locs1 : List Loc) (hP : va_P D vwCl ((mws (mad N0 sp) cA M).set (a - 3) (mad N0 sp a, mrc (mad N0 sp) cA cl)) H1) (hS : va_S (mA N0) H H1 locs1) : W p l e R s m args below meth c H1 locs1 (M.2.1 - b0) (M.2.2 - b1) Q (F0 m pc' ls (st'.map (mtr (mad N0 sp)))) := by
  refine mW_sz fun hz => ?_
  refine k H1 locs1 ls (mHolds_set hH h3 hi hP hS ?_) hl hS.2.2
  obtain ⟨-, -, -, -, -, -, -, -, -, h1, h2, h4, -, -⟩ := C
  have := hH.2.2.1
  omega
theorem j_iast (C : mCx N0 sp D cA H00 len xs q p R s m args meth c b0) (hd : decode q.1.2.1 pc = .ok (.iastore, 1)) (hb : b0 ≤ M.2.1) {a n : Nat} {f : Nat → Int32} {i x : Int32} (h3 : 3 ≤ a) (ha : M.1 a = some (cI n f)) (hin : ¬ (i < 0 ∨ n ≤ i.toNatClampNeg))
    (k : mJ N0 sp D cA H00 len xs p l e R s m args below meth c Q b0 b1 (mu M a (cI n (upd f i.toNatClampNeg x))) L st (pc + 1)) : mJ N0 sp D cA H00 len xs p l e R s m args below meth c Q b0 b1 M L (.int x :: .int i :: .ref a :: st) pc := by
  intro H locs ls hH hl hlo
  have hi := mWf_lt hH.1 ha
  exact va_iast C.1 C.2.1 C.2.2.2.2.2.2.2.2.1.1 hH.2.1 mws_D (mS_rf hlo) (a - 3) 0 (mws_get h3 hi ha) rfl hin hd fun H1 locs1 hP hD hS => mstore C hb hH h3 hi hl k H1 locs1 hP hS
theorem j_last (C : mCx N0 sp D cA H00 len xs q p R s m args meth c b0) (hd : decode q.1.2.1 pc = .ok (.lastore, 1)) (hb : b0 ≤ M.2.1) {a n : Nat} {f : Nat → Int64} {i : Int32} {x : Int64} (h3 : 3 ≤ a) (ha : M.1 a = some (cJ n f)) (hin : ¬ (i < 0 ∨ n ≤ i.toNatClampNeg))
    (k : mJ N0 sp D cA H00 len xs p l e R s m args below meth c Q b0 b1 (mu M a (cJ n (vp_updL f i.toNatClampNeg x))) L st (pc + 1)) : mJ N0 sp D cA H00 len xs p l e R s m args below meth c Q b0 b1 M L (.long x :: .int i :: .ref a :: st) pc := by
  intro H locs ls hH hl hlo
  have hi := mWf_lt hH.1 ha
  exact va_last C.1 C.2.1 C.2.2.2.2.2.2.2.2.1.1 hH.2.1 mws_D (mS_rf hlo) (a - 3) 1 (mws_get h3 hi ha) rfl hin hd fun H1 locs1 hP hD hS => mstore C hb hH h3 hi hl k H1 locs1 hP hS
theorem mup_map {ad : Nat → Nat} (f : Nat → Option Nat) (i x : Nat) : (fun j => (va_up f i (some x) j).map ad) = va_up (fun j => (f j).map ad) i (some (ad x)) := by
  funext j
  unfold va_up
  split <;> rfl
theorem j_aast (C : mCx N0 sp D cA H00 len xs q p R s m args meth c b0) (hd : decode q.1.2.1 pc = .ok (.aastore, 1)) (hb : b0 ≤ M.2.1) {a t n x cc : Nat} {fs : List Value} {f : Nat → Option Nat} {i : Int32} (h3 : 3 ≤ a) (h3x : 3 ≤ x) (ha : M.1 a = some (cR t n f)) (hx : M.1 x = some (cO cc fs)) (hin : ¬ (i < 0 ∨ n ≤ i.toNatClampNeg)) (ht : (t = 2 ∧ cc = 6) ∨ (t = 3 ∧ cc = 5))
    (k : mJ N0 sp D cA H00 len xs p l e R s m args below meth c Q b0 b1 (mu M a (cR t n (va_up f i.toNatClampNeg (some x)))) L st (pc + 1)) : mJ N0 sp D cA H00 len xs p l e R s m args below meth c Q b0 b1 M L (.ref x :: .int i :: .ref a :: st) pc := by
  intro H locs ls hH hl hlo
  have hi := mWf_lt hH.1 ha
  have hj := mWf_lt hH.1 hx
  rcases ht with ⟨h, h'⟩ | ⟨h, h'⟩
  · subst h; subst h'
    refine va_astq (r := (RX6, TX6, 1)) C.1 C.2.1 C.2.2.2.2.2.2.2.2.1.1 hH.2.1 mws_D (mS_rf hlo) (a - 3) 2 (x - 3) 6 (mws_get h3 hi ha) rfl (mws_get h3x hj hx) rfl hin hd fun H1 locs1 hP hD hS => mstore C hb hH h3 hi hl k H1 locs1 ?_ hS
    show va_P D vwCl ((mws (mad N0 sp) cA M).set (a - 3) (mad N0 sp a, .inl (cA 2, n, .inr (.inr (.inr (.inr (fun j => (va_up f i.toNatClampNeg (some x) j).map (mad N0 sp)))))))) H1
    rw [mup_map]
    exact hP
  · subst h; subst h'
    refine va_astq (r := (RX5, TX5, 3)) C.1 C.2.1 C.2.2.2.2.2.2.2.2.1.1 hH.2.1 mws_D (mS_rf hlo) (a - 3) 3 (x - 3) 5 (mws_get h3 hi ha) rfl (mws_get h3x hj hx) rfl hin hd fun H1 locs1 hP hD hS => mstore C hb hH h3 hi hl k H1 locs1 ?_ hS
    show va_P D vwCl ((mws (mad N0 sp) cA M).set (a - 3) (mad N0 sp a, .inl (cA 3, n, .inr (.inr (.inr (.inr (fun j => (va_up f i.toNatClampNeg (some x) j).map (mad N0 sp)))))))) H1
    rw [mup_map]
    exact hP
theorem j_getf (C : mCx N0 sp D cA H00 len xs q p R s m args meth c b0) {idx ci k0 a : Nat} (hd : decode q.1.2.1 pc = .ok (.getfield idx, 3)) (hF : mFd q idx ci k0) {fs : List Value} {v : Value} (h3 : 3 ≤ a) (ha : M.1 a = some (cO ci fs)) (hv : fs[k0]? = some v)
    (k : mJ N0 sp D cA H00 len xs p l e R s m args below meth c Q b0 b1 M L (v :: st) (pc + 3)) : mJ N0 sp D cA H00 len xs p l e R s m args below meth c Q b0 b1 M L (.ref a :: st) pc := by
  intro H locs ls hH hl hlo
  have kk := k H locs ls hH hl hlo
  have hi := mWf_lt hH.1 ha
  obtain ⟨r, hr, hk, hlink⟩ := hF
  have hv' : (fs.map (mtr (mad N0 sp)))[k0]? = some (mtr (mad N0 sp) v) := by rw [List.getElem?_map, hv]; rfl
  rcases hlink with hlink | hlink
  · exact va_get C.1 C.2.1 C.2.2.2.2.2.1 (mcl_in ci r hr) C.2.2.2.2.1 C.2.2.2.2.2.2.2.2.1.1 hH.2.1 (a - 3) (mws_get h3 hi ha) hr k0 hk (C.2.2.2.2.2.1 _ hlink) (fun _ h => h) hv' hd kk
  · exact va_getN C.1 C.2.1 C.2.2.2.2.2.1 (mcl_in ci r hr) C.2.2.2.2.1 C.2.2.2.2.2.2.2.2.1.1 hH.2.1 (a - 3) (mws_get h3 hi ha) hr k0 hk (va_Nw.use rfl (C.2.2.2.2.2.2.2.2.1.2.1 _ hlink rfl)) (fun _ h => h) hv' hd kk
theorem j_putf (C : mCx N0 sp D cA H00 len xs q p R s m args meth c b0) (hb : b0 ≤ M.2.1) {idx ci k0 t a : Nat} (hd : decode q.1.2.1 pc = .ok (.putfield idx, 3)) (hF : mFp q idx ci k0 t) {fs : List Value} {v : Value} (h3 : 3 ≤ a) (ha : M.1 a = some (cO ci fs)) (hl0 : k0 < fs.length) (hf : mfit t v = true)
    (k : mJ N0 sp D cA H00 len xs p l e R s m args below meth c Q b0 b1 (mu M a (cO ci (fs.set k0 v))) L st (pc + 3)) : mJ N0 sp D cA H00 len xs p l e R s m args below meth c Q b0 b1 M L (v :: .ref a :: st) pc := by
  intro H locs ls hH hl hlo
  have hi := mWf_lt hH.1 ha
  obtain ⟨ht, r, hr, hk, hlink⟩ := hF
  obtain ⟨hn, hfit⟩ := mtr_fit (ad := mad N0 sp) ht hf
  have hls : k0 < (fs.map (mtr (mad N0 sp))).length := by rw [List.length_map]; exact hl0
  have cont : ∀ (H1 : Heap) (locs1 : List Loc), va_P D vwCl ((mws (mad N0 sp) cA M).set (a - 3) (mad N0 sp a, .inr (ci, (fs.map (mtr (mad N0 sp))).set k0 (mtr (mad N0 sp) v)))) H1 → va_S (mA N0) H H1 locs1 → W p l e R s m args below meth c H1 locs1 (M.2.1 - b0) (M.2.2 - b1) Q (F0 m (pc + 3) ls (st.map (mtr (mad N0 sp)))) := by
    intro H1 locs1 hP hS
    refine mstore C hb hH h3 hi hl k H1 locs1 ?_ hS
    show va_P D vwCl ((mws (mad N0 sp) cA M).set (a - 3) (mad N0 sp a, .inr (ci, (fs.set k0 v).map (mtr (mad N0 sp))))) H1
    rw [List.map_set]
    exact hP
  rcases hlink with ⟨hfin, hlink | hlink⟩ | ⟨hfin, hnm, hcl, hlink⟩
  · exact va_put C.1 C.2.1 C.2.2.2.2.2.1 (mcl_in ci r hr) (mcty ci) (mcl_ty ci r hr) (mcl_nm ci r hr) C.2.2.2.2.1 C.2.2.2.2.2.2.2.2.1.1 hH.2.1 mws_D (mS_rf hlo) (a - 3) (mws_get h3 hi ha) hr k0 hk (C.2.2.2.2.2.1 _ hlink) (fun _ h => h) hfin (mcl_ty ci r hr k0 hk) hn hfit hls hd fun H1 locs1 hP hD hS => cont H1 locs1 hP hS
  · exact va_putN C.1 C.2.1 C.2.2.2.2.2.1 (mcl_in ci r hr) (mcty ci) (mcl_ty ci r hr) (mcl_nm ci r hr) C.2.2.2.2.1 C.2.2.2.2.2.2.2.2.1.1 hH.2.1 mws_D (mS_rf hlo) (a - 3) (mws_get h3 hi ha) hr k0 hk (va_Nw.use rfl (C.2.2.2.2.2.2.2.2.1.2.1 _ hlink rfl)) (fun _ h => h) hfin (mcl_ty ci r hr k0 hk) hn hfit hls hd fun H1 locs1 hP hD hS => cont H1 locs1 hP hS
  · exact va_putF C.1 C.2.1 C.2.2.2.2.2.1 (mcl_in ci r hr) (mcty ci) (mcl_ty ci r hr) (mcl_nm ci r hr) C.2.2.2.2.1 C.2.2.2.2.2.2.2.2.1.1 hH.2.1 mws_D (mS_rf hlo) (a - 3) (mws_get h3 hi ha) hr k0 hk (C.2.2.2.2.2.1 _ hlink) (fun _ h => h) hfin (C.2.2.2.2.2.2.2.1 hnm) hcl (mcl_ty ci r hr k0 hk) hn hfit hls hd fun H1 locs1 hP hD hS => cont H1 locs1 hP hS
theorem j_gets1 (C : mCx N0 sp D cA H00 len xs q p R s m args meth c b0) (hb : b0 ≤ M.2.1) {idx : Nat} (hd : decode q.1.2.1 pc = .ok (.getstatic idx, 3)) (hlink : Cond.fieldLink q.1.1.cls idx "LaneSlices" "STEPS_OF" "[I" ∈ mtb ∨ Cond.fieldLinkNest q.1.1.cls idx "LaneSlices" "STEPS_OF" "[I" "LaneSlices" ∈ lw_tbl)
    (k : mJ N0 sp D cA H00 len xs p l e R s m args below meth c Q b0 b1 M L (.ref 1 :: st) (pc + 3)) : mJ N0 sp D cA H00 len xs p l e R s m args below meth c Q b0 b1 M L st pc := by
  intro H locs ls hH hl hlo
  have kk := k H locs ls hH hl hlo
  have hG := C.2.2.2.2.2.2.2.2.1
  have hZ := hG.2.2.2.2.2.1.kept (H1 := s.heap) (fun x hx hn => C.2.2.2.2.2.2.2.2.2.1 x (Nat.lt_of_not_le hn))
  rcases hlink with hlink | hlink
  · exact va_gets C.1 C.2.1 hZ (mS_in C hH hb hlo) C.2.2.2.2.1 (C.2.2.2.2.2.1 _ hlink) (fun _ h => h) hd kk
  · exact va_getsN C.1 C.2.1 hZ (mS_in C hH hb hlo) C.2.2.2.2.1 (va_Nw.use rfl (hG.2.1 _ hlink rfl)) (fun _ h => h) hd kk
theorem j_gets2 (C : mCx N0 sp D cA H00 len xs q p R s m args meth c b0) (hb : b0 ≤ M.2.1) {idx : Nat} (hd : decode q.1.2.1 pc = .ok (.getstatic idx, 3)) (hlink : Cond.fieldLink q.1.1.cls idx "LaneSlices" "LANE_PLANES" "[J" ∈ mtb ∨ Cond.fieldLinkNest q.1.1.cls idx "LaneSlices" "LANE_PLANES" "[J" "LaneSlices" ∈ lw_tbl)
    (k : mJ N0 sp D cA H00 len xs p l e R s m args below meth c Q b0 b1 M L (.ref 2 :: st) (pc + 3)) : mJ N0 sp D cA H00 len xs p l e R s m args below meth c Q b0 b1 M L st pc := by
  intro H locs ls hH hl hlo
  have kk := k H locs ls hH hl hlo
  have hG := C.2.2.2.2.2.2.2.2.1
  have hZ := hG.2.2.2.2.2.2.2.1.kept (H1 := s.heap) (fun x hx hn => C.2.2.2.2.2.2.2.2.2.1 x (Nat.lt_of_not_le hn))
  rcases hlink with hlink | hlink
  · exact va_gets C.1 C.2.1 hZ (mS_in C hH hb hlo) C.2.2.2.2.1 (C.2.2.2.2.2.1 _ hlink) (fun _ h => h) hd kk
  · exact va_getsN C.1 C.2.1 hZ (mS_in C hH hb hlo) C.2.2.2.2.1 (va_Nw.use rfl (hG.2.1 _ hlink rfl)) (fun _ h => h) hd kk
theorem mpush (C : mCx N0 sp D cA H00 len xs q p R s m args meth c b0) (hb : b0 ≤ M.2.1) (hb1 : b1 ≤ M.2.2) (hH : mHolds N0 sp D cA H00 len xs M H) {cl : mE} {z : Nat} {st' : List Value} {pc' : Nat} (hl : mLs (mad N0 sp) c.maxLocals ls L)
    (k : mJ N0 sp D cA H00 len xs p l e R s m args below meth c Q b0 b1 (mp M cl z) L (.ref M.2.1 :: st') pc') (q0 : Nat) (H1 : Heap) (locs1 : List Loc) (hP : va_P D vwCl (mws (mad N0 sp) cA M ++ [(q0, mrc (mad N0 sp) cA cl)]) H1) (hD : va_D (mA N0) (mws (mad N0 sp) cA M ++ [(q0, mrc (mad N0 sp) cA cl)])) (hS : va_S (mA N0) H H1 locs1) : W p l e R s m args below meth c H1 locs1 (M.2.1 - b0 + 1) (M.2.2 - b1 + z) Q (F0 m pc' ls (.ref q0 :: st'.map (mtr (mad N0 sp)))) := by
  refine mW_sz fun hz => ?_
  have hzz : H1.size ≤ H.size + 1 := by
    obtain ⟨-, -, -, -, -, -, -, -, -, h1, h2, h4, -, -⟩ := C
    have := hH.2.2.1
    omega
  obtain ⟨he, hH1⟩ := mHolds_push (z := z) hH hP hD hS hzz
  have kk := k H1 locs1 ls hH1 hl hS.2.2
  have e1 : (mp M cl z).2.1 - b0 = M.2.1 - b0 + 1 := by show M.2.1 + 1 - b0 = _; omega
  have e2 : (mp M cl z).2.2 - b1 = M.2.2 - b1 + z := by show M.2.2 + z - b1 = _; omega
  rw [e1, e2] at kk
  rw [he]
  exact kk
theorem j_new (C : mCx N0 sp D cA H00 len xs q p R s m args meth c b0) (hb : b0 ≤ M.2.1) (hb1 : b1 ≤ M.2.2) {idx ci : Nat} {r : vw_C} (hd : decode q.1.2.1 pc = .ok (.new idx, 3)) (hr : vwCl[ci]? = some r) (hlink : Cond.classLink q.1.1.cls idx r.1 ∈ mtb) (hc : M.2.1 - b0 + 1 ≤ R.cells) (hs : M.2.2 - b1 + (mnew ci).length ≤ R.slots)
    (k : mJ N0 sp D cA H00 len xs p l e R s m args below meth c Q b0 b1 (mp M (cO ci (mnew ci)) (mnew ci).length) L (.ref M.2.1 :: st) (pc + 3)) : mJ N0 sp D cA H00 len xs p l e R s m args below meth c Q b0 b1 M L st pc := by
  intro H locs ls hH hl hlo
  have hmap : (mnew ci).map (mtr (mad N0 sp)) = mnew ci := by
    unfold mnew
    split <;> rfl
  have hlen := mcl_len ci r hr
  rw [hlen] at hs k
  refine va_new C.1 C.2.1 C.2.2.2.2.2.1 (mcl_in ci r hr) (mcty ci) (mcl_ty ci r hr) C.2.2.2.2.1 (C.2.2.2.2.2.1 _ hlink) (C.2.2.2.2.2.1 _ (mcl_ins ci r hr).1) (C.2.2.2.2.2.1 _ (mcl_ins ci r hr).2) C.2.2.2.2.2.2.2.2.1.1 hH.2.1 mws_D (mS_rf hlo) (fun x hx => Nat.le_trans (by have := hH.2.2.1; omega) hx) hr (mcl_new ci r hr) hc hs hd fun q0 H1 hP hD hS => mpush C hb hb1 hH hl k q0 H1 locs ?_ ?_ hS
  · show va_P D vwCl (_ ++ [(q0, .inr (ci, (mnew ci).map (mtr (mad N0 sp))))]) H1
    rw [hmap]
    exact hP
  · show va_D (mA N0) (_ ++ [(q0, .inr (ci, (mnew ci).map (mtr (mad N0 sp))))])
    rw [hmap]
    exact hD

theorem j_newai (C : mCx N0 sp D cA H00 len xs q p R s m args meth c b0) (hb : b0 ≤ M.2.1) (hb1 : b1 ≤ M.2.2) (hd : decode q.1.2.1 pc = .ok (.newarray .int, 2)) {n : Int32} (hn : ¬ n < 0) (hn2 : n.toNatClampNeg ≤ 60000) (hc : M.2.1 - b0 + 1 ≤ R.cells) (hs : M.2.2 - b1 + n.toNatClampNeg ≤ R.slots)
    (k : mJ N0 sp D cA H00 len xs p l e R s m args below meth c Q b0 b1 (mp M (cI n.toNatClampNeg (fun _ => 0)) n.toNatClampNeg) L (.ref M.2.1 :: st) (pc + 2)) : mJ N0 sp D cA H00 len xs p l e R s m args below meth c Q b0 b1 M L (.int n :: st) pc := by
  intro H locs ls hH hl hlo
  have hK := C.2.2.2.2.2.2.2.2.1.1
  refine va_newa (atype := .int) (a0 := (n.toNatClampNeg, .inl (fun _ => 0))) C.1 C.2.1 (C.2.2.2.2.2.1 _ mw_119) rfl hK hH.2.1 mws_D (mS_rf hlo) (fun x hx => Nat.le_trans (by have := hH.2.2.1; omega) hx) (fun cA => rfl) hn rfl (Nat.le_trans (Nat.mul_le_mul_right _ hn2) (Nat.le_of_ble_eq_true rfl)) hc hs hd fun q0 cA' H1 hK' hP hD hS => ?_
  have e1 : cA' = cA 0 := by
    have h1 : s.vm.findClass ("[" ++ (FieldType.int).toString) = some cA' := (hK'.2 4 (cA', .int) rfl).2
    have h2 : s.vm.findClass ("[" ++ (FieldType.int).toString) = some (cA 0) := (hK.2 0 (cA 0, .int) rfl).2
    exact Option.some.inj (h1.symm.trans h2)
  subst e1
  exact mpush C hb hb1 hH hl k q0 H1 locs hP hD hS
theorem j_newal (C : mCx N0 sp D cA H00 len xs q p R s m args meth c b0) (hb : b0 ≤ M.2.1) (hb1 : b1 ≤ M.2.2) (hd : decode q.1.2.1 pc = .ok (.newarray .long, 2)) {n : Int32} (hn : ¬ n < 0) (hn2 : n.toNatClampNeg ≤ 60000) (hc : M.2.1 - b0 + 1 ≤ R.cells) (hs : M.2.2 - b1 + n.toNatClampNeg ≤ R.slots)
    (k : mJ N0 sp D cA H00 len xs p l e R s m args below meth c Q b0 b1 (mp M (cJ n.toNatClampNeg (fun _ => 0)) n.toNatClampNeg) L (.ref M.2.1 :: st) (pc + 2)) : mJ N0 sp D cA H00 len xs p l e R s m args below meth c Q b0 b1 M L (.int n :: st) pc := by
  intro H locs ls hH hl hlo
  have hK := C.2.2.2.2.2.2.2.2.1.1
  refine va_newa (atype := .long) (a0 := (n.toNatClampNeg, .inr (.inl (fun _ => 0)))) C.1 C.2.1 (C.2.2.2.2.2.1 _ mw_52) rfl hK hH.2.1 mws_D (mS_rf hlo) (fun x hx => Nat.le_trans (by have := hH.2.2.1; omega) hx) (fun cA => rfl) hn rfl (Nat.le_trans (Nat.mul_le_mul_right _ hn2) (Nat.le_of_ble_eq_true rfl)) hc hs hd fun q0 cA' H1 hK' hP hD hS => ?_
  have e1 : cA' = cA 1 := by
    have h1 : s.vm.findClass ("[" ++ (FieldType.long).toString) = some cA' := (hK'.2 4 (cA', .long) rfl).2
    have h2 : s.vm.findClass ("[" ++ (FieldType.long).toString) = some (cA 1) := (hK.2 1 (cA 1, .long) rfl).2
    exact Option.some.inj (h1.symm.trans h2)
  subst e1
  exact mpush C hb hb1 hH hl k q0 H1 locs hP hD hS
theorem j_newq6 (C : mCx N0 sp D cA H00 len xs q p R s m args meth c b0) (hb : b0 ≤ M.2.1) (hb1 : b1 ≤ M.2.2) {idx : Nat} (hd : decode q.1.2.1 pc = .ok (.anewarray idx, 3)) (hlink : Cond.classLink q.1.1.cls idx RX6 ∈ mtb) {n : Int32} (hn : ¬ n < 0) (hn2 : n.toNatClampNeg ≤ 60000) (hc : M.2.1 - b0 + 1 ≤ R.cells) (hs : M.2.2 - b1 + n.toNatClampNeg ≤ R.slots)
    (k : mJ N0 sp D cA H00 len xs p l e R s m args below meth c Q b0 b1 (mp M (cR 2 n.toNatClampNeg (fun _ => none)) n.toNatClampNeg) L (.ref M.2.1 :: st) (pc + 3)) : mJ N0 sp D cA H00 len xs p l e R s m args below meth c Q b0 b1 M L (.int n :: st) pc := by
  intro H locs ls hH hl hlo
  have hG := C.2.2.2.2.2.2.2.2.1
  refine va_newq C.1 C.2.1 C.2.2.2.2.1 (C.2.2.2.2.2.1 _ hlink) hG.2.2.1 hG.1 hH.2.1 mws_D (mS_rf hlo) (fun x hx => Nat.le_trans (by have := hH.2.2.1; omega) hx) hn rfl (Nat.le_trans (Nat.mul_le_mul_right _ hn2) (Nat.le_of_ble_eq_true rfl)) hc hs hd fun q0 cA' H1 hK' hP hD hS => ?_
  have e1 : cA' = cA 2 := by
    obtain ⟨_, _, _, _, _, h1⟩ := (hK'.2 4 (cA', .object RX6) rfl).2
    obtain ⟨_, _, _, _, _, h2⟩ := (hG.1.2 2 (cA 2, .object RX6) rfl).2
    exact Option.some.inj (h1.symm.trans h2)
  subst e1
  exact mpush C hb hb1 hH hl k q0 H1 locs hP hD hS
theorem j_newq5 (C : mCx N0 sp D cA H00 len xs q p R s m args meth c b0) (hb : b0 ≤ M.2.1) (hb1 : b1 ≤ M.2.2) {idx : Nat} (hd : decode q.1.2.1 pc = .ok (.anewarray idx, 3)) (hlink : Cond.classLink q.1.1.cls idx RX5 ∈ mtb) {n : Int32} (hn : ¬ n < 0) (hn2 : n.toNatClampNeg ≤ 60000) (hc : M.2.1 - b0 + 1 ≤ R.cells) (hs : M.2.2 - b1 + n.toNatClampNeg ≤ R.slots)
    (k : mJ N0 sp D cA H00 len xs p l e R s m args below meth c Q b0 b1 (mp M (cR 3 n.toNatClampNeg (fun _ => none)) n.toNatClampNeg) L (.ref M.2.1 :: st) (pc + 3)) : mJ N0 sp D cA H00 len xs p l e R s m args below meth c Q b0 b1 M L (.int n :: st) pc := by
  intro H locs ls hH hl hlo
  have hG := C.2.2.2.2.2.2.2.2.1
  refine va_newq C.1 C.2.1 C.2.2.2.2.1 (C.2.2.2.2.2.1 _ hlink) hG.2.2.2.1 hG.1 hH.2.1 mws_D (mS_rf hlo) (fun x hx => Nat.le_trans (by have := hH.2.2.1; omega) hx) hn rfl (Nat.le_trans (Nat.mul_le_mul_right _ hn2) (Nat.le_of_ble_eq_true rfl)) hc hs hd fun q0 cA' H1 hK' hP hD hS => ?_
  have e1 : cA' = cA 3 := by
    obtain ⟨_, _, _, _, _, h1⟩ := (hK'.2 4 (cA', .object RX5) rfl).2
    obtain ⟨_, _, _, _, _, h2⟩ := (hG.1.2 3 (cA 3, .object RX5) rfl).2
    exact Option.some.inj (h1.symm.trans h2)
  subst e1
  exact mpush C hb hb1 hH hl k q0 H1 locs hP hD hS
theorem j_copyi (C : mCx N0 sp D cA H00 len xs q p R s m args meth c b0) (hb : b0 ≤ M.2.1) {idx : Nat} (hd : decode q.1.2.1 pc = .ok (.invokestatic idx, 3)) (hlink : Cond.methodLink q.1.1.cls idx arraycopyName ∈ mtb) {a a0 n0 n1 : Nat} {f g : Nat → Int32} {sp' dp n : Int32} (h3 : 3 ≤ a) (h30 : 3 ≤ a0) (ha : M.1 a = some (cI n1 g)) (ha0 : M.1 a0 = some (cI n0 f)) (h1 : ¬ sp' < 0) (h2 : ¬ dp < 0) (h4 : ¬ n < 0) (h5 : sp'.toNatClampNeg + n.toNatClampNeg ≤ n0) (h6 : dp.toNatClampNeg + n.toNatClampNeg ≤ n1) (hcat : mcat st ≤ 8)
    (k : mJ N0 sp D cA H00 len xs p l e R s m args below meth c Q b0 b1 (mu M a (cI n1 (va_cpy f g sp'.toNatClampNeg dp.toNatClampNeg n.toNatClampNeg))) L st (pc + 3)) : mJ N0 sp D cA H00 len xs p l e R s m args below meth c Q b0 b1 M L (.int n :: .int dp :: .ref a :: .int sp' :: .ref a0 :: st) pc := by
  intro H locs ls hH hl hlo
  have hi := mWf_lt hH.1 ha
  have hi0 := mWf_lt hH.1 ha0
  have hcat' : ((st.map (mtr (mad N0 sp))).map fun v => v.category).sum ≤ 8 := by
    have e : (st.map (mtr (mad N0 sp))).map (fun v => v.category) = st.map (fun v => v.category) := by
      rw [List.map_map]
      exact List.map_congr_left (fun v _ => mtr_cat v)
    rw [e]
    exact hcat
  have hw := C.2.2.2.2.2.1
  have hfr := C.2.2.2.2.2.2.2.2.2.2.2.2.1
  have hloc := C.2.2.2.2.2.2.2.2.2.2.2.2.2
  exact va_copyi C.1 C.2.1 (by rw [hl.2.1]) C.2.2.2.2.1 (hw _ hlink) (hw _ mw_305) (hw _ mw_304) (hw _ mw_13) C.2.2.2.2.2.2.2.2.1.1 hH.2.1 mws_D (mS_rf hlo) (a0 - 3) (a - 3) 0 0 (mws_get h30 hi0 ha0) (mws_get h3 hi ha) rfl rfl rfl h1 h2 h4 h5 h6 (fun _ _ => rfl) hfr (Nat.le_trans (Nat.add_le_add_right hcat' _) (Nat.le_trans (Nat.le_of_ble_eq_true rfl) hloc)) hd fun H1 locs1 hP hD hS => mstore C hb hH h3 hi hl k H1 locs1 hP hS
theorem j_copyl (C : mCx N0 sp D cA H00 len xs q p R s m args meth c b0) (hb : b0 ≤ M.2.1) {idx : Nat} (hd : decode q.1.2.1 pc = .ok (.invokestatic idx, 3)) (hlink : Cond.methodLink q.1.1.cls idx arraycopyName ∈ mtb) {a a0 n0 n1 : Nat} {f g : Nat → Int64} {sp' dp n : Int32} (h3 : 3 ≤ a) (h30 : 3 ≤ a0) (ha : M.1 a = some (cJ n1 g)) (ha0 : M.1 a0 = some (cJ n0 f)) (h1 : ¬ sp' < 0) (h2 : ¬ dp < 0) (h4 : ¬ n < 0) (h5 : sp'.toNatClampNeg + n.toNatClampNeg ≤ n0) (h6 : dp.toNatClampNeg + n.toNatClampNeg ≤ n1) (hcat : mcat st ≤ 8)
    (k : mJ N0 sp D cA H00 len xs p l e R s m args below meth c Q b0 b1 (mu M a (cJ n1 (va_cpy f g sp'.toNatClampNeg dp.toNatClampNeg n.toNatClampNeg))) L st (pc + 3)) : mJ N0 sp D cA H00 len xs p l e R s m args below meth c Q b0 b1 M L (.int n :: .int dp :: .ref a :: .int sp' :: .ref a0 :: st) pc := by
  intro H locs ls hH hl hlo
  have hi := mWf_lt hH.1 ha
  have hi0 := mWf_lt hH.1 ha0
  have hcat' : ((st.map (mtr (mad N0 sp))).map fun v => v.category).sum ≤ 8 := by
    have e : (st.map (mtr (mad N0 sp))).map (fun v => v.category) = st.map (fun v => v.category) := by
      rw [List.map_map]
      exact List.map_congr_left (fun v _ => mtr_cat v)
    rw [e]
    exact hcat
  have hw := C.2.2.2.2.2.1
  have hfr := C.2.2.2.2.2.2.2.2.2.2.2.2.1
  have hloc := C.2.2.2.2.2.2.2.2.2.2.2.2.2
  exact va_copyl C.1 C.2.1 (by rw [hl.2.1]) C.2.2.2.2.1 (hw _ hlink) (hw _ mw_305) (hw _ mw_304) (hw _ mw_13) C.2.2.2.2.2.2.2.2.1.1 hH.2.1 mws_D (mS_rf hlo) (a0 - 3) (a - 3) 1 1 (mws_get h30 hi0 ha0) (mws_get h3 hi ha) rfl rfl rfl h1 h2 h4 h5 h6 (fun _ _ => rfl) hfr (Nat.le_trans (Nat.add_le_add_right hcat' _) (Nat.le_trans (Nat.le_of_ble_eq_true rfl) hloc)) hd fun H1 locs1 hP hD hS => mstore C hb hH h3 hi hl k H1 locs1 hP hS
/-- a copy out of the second static array -/
theorem j_copyt (C : mCx N0 sp D cA H00 len xs q p R s m args meth c b0) (hb : b0 ≤ M.2.1) {idx : Nat} (hd : decode q.1.2.1 pc = .ok (.invokestatic idx, 3)) (hlink : Cond.methodLink q.1.1.cls idx arraycopyName ∈ mtb) {a n1 : Nat} {g : Nat → Int64} {sp' dp n : Int32} (h3 : 3 ≤ a) (ha : M.1 a = some (cJ n1 g)) (h1 : ¬ sp' < 0) (h2 : ¬ dp < 0) (h4 : ¬ n < 0) (h5 : sp'.toNatClampNeg + n.toNatClampNeg ≤ 8) (h6 : dp.toNatClampNeg + n.toNatClampNeg ≤ n1) (hcat : mcat st ≤ 8)
    (k : mJ N0 sp D cA H00 len xs p l e R s m args below meth c Q b0 b1 (mu M a (cJ n1 (va_cpy mf2 g sp'.toNatClampNeg dp.toNatClampNeg n.toNatClampNeg))) L st (pc + 3)) : mJ N0 sp D cA H00 len xs p l e R s m args below meth c Q b0 b1 M L (.int n :: .int dp :: .ref a :: .int sp' :: .ref 2 :: st) pc := by
  intro H locs ls hH hl hlo
  have hi := mWf_lt hH.1 ha
  have hcat' : ((st.map (mtr (mad N0 sp))).map fun v => v.category).sum ≤ 8 := by
    have e : (st.map (mtr (mad N0 sp))).map (fun v => v.category) = st.map (fun v => v.category) := by
      rw [List.map_map]
      exact List.map_congr_left (fun v _ => mtr_cat v)
    rw [e]
    exact hcat
  have hw := C.2.2.2.2.2.1
  have hfr := C.2.2.2.2.2.2.2.2.2.2.2.2.1
  have hloc := C.2.2.2.2.2.2.2.2.2.2.2.2.2
  have hG := C.2.2.2.2.2.2.2.2.1
  have nn : ∀ z : Int32, ¬ z < 0 → z.toInt = (z.toNatClampNeg : Int) := by
    intro z hz
    have hz0 : (0 : Int) ≤ z.toInt := by
      have := Int32.not_lt.mp hz
      simpa using Int32.le_iff_toInt_le.mp this
    show z.toInt = ((z.toInt.toNat : Nat) : Int)
    omega
  obtain ⟨cs, t1, t2, t3, t4, t5, t6, t7⟩ := hG.2.2.2.2.2.2.2.2.1
  have hcs : H[sp 2]? = some cs := by rw [hH.2.2.2 _ (Nat.lt_of_not_le t7)]; exact t1
  have hcd : H[mad N0 sp a]? = some (vp_cell (cA 1) (n1, .inr (.inl g))) := hH.2.1 _ _ (mws_get h3 hi ha)
  obtain ⟨-, kd, hkd, cmd, hkkd⟩ := (hG.1.2 1 (cA 1, .long) rfl).1 n1 (fun j => .long (g j))
  obtain ⟨hno, ks, hks, cms, hkks⟩ := t2
  intro T hT X
  obtain ⟨vm', X', step⟩ := X.arraycopy C.1 C.2.2.2.2.1 (hw _ hlink) (hw _ mw_305) (hw _ mw_304) (hw _ mw_13) (src := sp 2) (dst := mad N0 sp a) (cs := cs) (cd := vp_cell (cA 1) (n1, .inr (.inl g))) (srcPos := sp') (destPos := dp) (n := n) (by rw [hT]; exact hcs) (by rw [hT]; exact hcd)
    hno (fun _ h => by cases h) t3 (fun h => by cases h) hks hkd hkks hkkd (by simp [refKind]) h1 h2 h4
    (by rw [nn sp' h1, nn n h4]; omega)
    (by rw [nn dp h2, nn n h4]; show ¬ _ > ((arrV (cA 1) n1 (fun j => .long (g j))).slots.size : Int); rw [arrV_size]; omega)
    (fun vm₁ _ i hi => by
      have e : cs.slots.getD (sp'.toNatClampNeg + i) .null = .long (mf2 (sp'.toNatClampNeg + i)) := by
        rw [Array.getD_eq_getD_getElem?, t6 _ (by omega)]
        rfl
      rw [e]
      exact ⟨rfl, trivial⟩)
    (g := F0 m pc ls (.int n :: .int dp :: .ref (mad N0 sp a) :: .int sp' :: .ref (sp 2) :: st.map (mtr (mad N0 sp)))) rfl (by rw [hl.2.1]) (rest := st.map (mtr (mad N0 sp))) rfl (by rw [C.2.1]; exact hd) hfr (by show 2 * 0 + _ + _ ≤ _; refine Nat.le_trans ?_ hloc; rw [Nat.zero_add]; exact Nat.le_trans (Nat.add_le_add_right hcat' _) (Nat.le_of_ble_eq_true rfl))
  have e1 : copied cs (vp_cell (cA 1) (n1, .inr (.inl g))) sp' dp n = vp_cell (cA 1) (n1, .inr (.inl (va_cpy mf2 g sp'.toNatClampNeg dp.toNatClampNeg n.toNatClampNeg))) := va_copiedX (fun z => .long z) cs (cA 1) mf2 g t6 h5
  rw [e1] at X' step
  have hlt : mad N0 sp a < H.size := (Array.getElem?_eq_some_iff.mp hcd).1
  have oq : ∀ x : Nat, x ≠ mad N0 sp a → (H.setIfInBounds (mad N0 sp a) (vp_cell (cA 1) (n1, .inr (.inl (va_cpy mf2 g sp'.toNatClampNeg dp.toNatClampNeg n.toNatClampNeg)))))[x]? = H[x]? := fun x hx => by simp [Array.getElem?_setIfInBounds, Ne.symm hx]
  have hP1 := hH.2.1.set (mws_D (N0 := N0)) (mws_get h3 hi ha) (e := .inl (cA 1, n1, .inr (.inl (va_cpy mf2 g sp'.toNatClampNeg dp.toNatClampNeg n.toNatClampNeg)))) (show (H.setIfInBounds (mad N0 sp a) _)[mad N0 sp a]? = some _ by simp [Array.getElem?_setIfInBounds, hlt]) oq
  have hAa : mA N0 (mad N0 sp a) := by rw [mad_ge h3]; exact Nat.le_add_right _ _
  obtain ⟨t, a1, b1⟩ := mstore C hb hH h3 hi hl k _ _ hP1 ⟨by simp, fun x g1 g2 => oq x (fun e => g2 (by rw [e]; exact hAa)), fun x hx => by
      rcases List.mem_append.mp hx with h | h
      · exact hlo x h
      · obtain ⟨z, -, hz⟩ := List.mem_map.mp h
        rw [← hz]
        exact hAa⟩ _ (by rw [← hT]; rfl) X'
  exact ⟨t, step t a1, b1⟩
end ST

theorem mcat_tr {ad : Nat → Nat} (st : List Value) : ((st.map (mtr ad)).map fun v => v.category).sum = mcat st := by
  unfold mcat
  rw [List.map_map]
  congr 1
  exact List.map_congr_left (fun v _ => mtr_cat v)
section NX
variable {N0 : Nat} {sp : Nat → Nat} {D : va_G} {cA : Nat → ClassId} {H00 : Heap} {len : Nat} {xs : Nat → Int32} {q : mT} {tb : mB}
variable {p : Program} {l : Launch} {e : Env} {R : Room} {s : State} {m : MethodId} {args : Array Value} {below : List Frame} {meth : Method} {c : Code} {Q : State → Prop} {b0 b1 : Nat} {pc : Nat}
theorem mLs_get {ad : Nat → Nat} {n : Nat} {ls : Array Slot} {L : mL} (h : mLs ad n ls L) {k : Nat} {v : Value} (hk : lget L k = some v) : ls[k]? = some (.val (mtr ad v)) := h.2.2.2 k v hk
theorem mbr_eq {g : List Nat} {cd : Bool} {L : mL} {st : List Value} {M : mM} {t : Nat} (hg : g = [t]) : mbr g cd L st M = if cd then mjp L st M t else mnx L st M := by rw [hg]; rfl
theorem mlget_place {ad : Nat → Nat} {L : mL} {k : Nat} {v : Value} (h : lget L k = some v) : ∃ j : Nat, (mpr ad 0 L)[j]? = some (k, mtr ad v) := by
  have := mpr_in (ad := ad) L 0 k v h
  rw [Nat.zero_add] at this
  exact List.getElem?_of_mem this
theorem j_oinit {M : mM} {L : mL} {st : List Value} (C : mCx N0 sp D cA H00 len xs q p R s m args meth c b0) {idx a : Nat} (hd : decode q.1.2.1 pc = .ok (.invokespecial idx, 3)) (hlink : Cond.methodLink q.1.1.cls idx Lib.objectInit ∈ mtb) (hcat : mcat st ≤ 8)
    (k : mJ N0 sp D cA H00 len xs p l e R s m args below meth c Q b0 b1 M L st (pc + 3)) : mJ N0 sp D cA H00 len xs p l e R s m args below meth c Q b0 b1 M L (.ref a :: st) pc := by
  intro H locs ls hH hl hlo
  have kk := k H locs ls hH hl hlo
  have hcat' : ((st.map (mtr (mad N0 sp))).map fun v => v.category).sum ≤ 8 := by
    have e : (st.map (mtr (mad N0 sp))).map (fun v => v.category) = st.map (fun v => v.category) := by
      rw [List.map_map]
      exact List.map_congr_left (fun v _ => mtr_cat v)
    rw [e]
    exact hcat
  have hw := C.2.2.2.2.2.1
  have hfr := C.2.2.2.2.2.2.2.2.2.2.2.2.1
  have hloc := C.2.2.2.2.2.2.2.2.2.2.2.2.2
  exact W.objInit C.1 C.2.1 C.2.2.2.2.1 (hw _ hlink) (hw _ mw_26) (hw _ mw_27) rfl (by show ls.size = _; exact hl.2.1) rfl hd hfr (by show 2 * 0 + _ + 12 ≤ _; omega) kk
set_option maxHeartbeats 4000000 in
theorem ms_next (C : mCx N0 sp D cA H00 len xs q p R s m args meth c b0) {i' i : Instr} {n : Nat} {g : List Nat} (hd : decode q.1.2.1 pc = .ok (i', n)) (hk : mLk tb q pc i' n i g) {L L' : mL} {st st' : List Value} {M M' : mM} {nx : Option Nat} (h : ms i g L st M = some (.inl (L', st', M', nx)))
    (hb : b0 ≤ M.2.1) (hb1 : b1 ≤ M.2.2) (hc : M'.2.1 - b0 ≤ R.cells) (hs : M'.2.2 - b1 ≤ R.slots) (k : mJ N0 sp D cA H00 len xs p l e R s m args below meth c Q b0 b1 M' L' st' (nx.getD (pc + n))) : mJ N0 sp D cA H00 len xs p l e R s m args below meth c Q b0 b1 M L st pc := by
  cases i' with
  | iconst v =>
    obtain ⟨rfl, rfl⟩ := hk
    simp only [ms, mnx] at h
    cases h
    exact fun H locs ls hH hl hlo => lv_iconst C.1 C.2.1 hd rfl (k H locs ls hH hl hlo)
  | bipush v =>
    obtain ⟨rfl, rfl, hv⟩ := hk
    simp only [ms, mnx] at h
    cases h
    exact fun H locs ls hH hl hlo => lv_bipush C.1 C.2.1 hd hv (k H locs ls hH hl hlo)
  | sipush v =>
    obtain ⟨rfl, rfl, hv⟩ := hk
    simp only [ms, mnx] at h
    cases h
    exact fun H locs ls hH hl hlo => lv_sipush C.1 C.2.1 hd hv (k H locs ls hH hl hlo)
  | ldc_w idx =>
    obtain ⟨rfl, v, rfl, hv⟩ := hk
    simp only [ms, mnx] at h
    cases h
    exact fun H locs ls hH hl hlo => lv_ldcw C.1 C.2.1 C.2.2.2.2.1 (C.2.2.2.2.2.1 _ hv) hd (k H locs ls hH hl hlo)
  | lconst v =>
    obtain ⟨rfl, w, rfl, hv⟩ := hk
    simp only [ms, mnx] at h
    cases h
    exact fun H locs ls hH hl hlo => lv_lconst C.1 C.2.1 hd hv (k H locs ls hH hl hlo)
  | ldc2_w idx =>
    obtain ⟨rfl, v, rfl, hv⟩ := hk
    simp only [ms, mnx] at h
    cases h
    exact fun H locs ls hH hl hlo => lv_ldc2 C.1 C.2.1 C.2.2.2.2.1 (C.2.2.2.2.2.1 _ hv) hd (k H locs ls hH hl hlo)
  | aconst_null =>
    obtain ⟨rfl, rfl⟩ := hk
    simp only [ms, mnx] at h
    cases h
    exact fun H locs ls hH hl hlo => lv_null C.1 C.2.1 hd (k H locs ls hH hl hlo)
  | iload_n j =>
    obtain ⟨rfl, rfl⟩ := hk
    simp only [ms, mnx] at h
    split at h
    next x hx =>
      cases h
      exact fun H locs ls hH hl hlo => lv_iload_n C.1 C.2.1 hd rfl (mLs_get hl hx) (k H locs ls hH hl hlo)
    next => cases h
  | iload j =>
    obtain ⟨rfl, rfl⟩ := hk
    simp only [ms, mnx] at h
    split at h
    next x hx =>
      cases h
      exact fun H locs ls hH hl hlo => lv_iload C.1 C.2.1 hd (mLs_get hl hx) (k H locs ls hH hl hlo)
    next => cases h
  | lload_n j =>
    obtain ⟨rfl, rfl⟩ := hk
    simp only [ms, mnx] at h
    split at h
    next x hx =>
      cases h
      exact fun H locs ls hH hl hlo => lv_lload_n C.1 C.2.1 hd rfl (mLs_get hl hx) (k H locs ls hH hl hlo)
    next => cases h
  | lload j =>
    obtain ⟨rfl, rfl⟩ := hk
    simp only [ms, mnx] at h
    split at h
    next x hx =>
      cases h
      exact fun H locs ls hH hl hlo => lv_lload C.1 C.2.1 hd (mLs_get hl hx) (k H locs ls hH hl hlo)
    next => cases h
  | aload_n j =>
    obtain ⟨rfl, rfl⟩ := hk
    simp only [ms, mnx] at h
    split at h
    next x hx =>
      cases h
      exact fun H locs ls hH hl hlo => lv_aload_n C.1 C.2.1 hd rfl (mLs_get hl hx) (k H locs ls hH hl hlo)
    next hx =>
      cases h
      exact fun H locs ls hH hl hlo => lv_aload_nN C.1 C.2.1 hd rfl (mLs_get hl hx) (k H locs ls hH hl hlo)
    next => cases h
  | aload j =>
    obtain ⟨rfl, rfl⟩ := hk
    simp only [ms, mnx] at h
    split at h
    next x hx =>
      cases h
      exact fun H locs ls hH hl hlo => lv_aload C.1 C.2.1 hd (mLs_get hl hx) (k H locs ls hH hl hlo)
    next hx =>
      cases h
      exact fun H locs ls hH hl hlo => lv_aloadN C.1 C.2.1 hd (mLs_get hl hx) (k H locs ls hH hl hlo)
    next => cases h
  | istore_n j =>
    obtain ⟨rfl, rfl⟩ := hk
    simp only [ms, mnx] at h
    split at h
    next x st0 =>
      split at h
      next hlt =>
        cases h
        exact fun H locs ls hH hl hlo => lv_istore_n C.1 C.2.1 hd rfl (mLs_has hl) (by rw [← hl.1]; exact hlt) rfl fun ls' h' => k H locs ls' hH (mLs_set1 hl.1 h') hlo
      next => cases h
    next => cases h
  | istore j =>
    obtain ⟨rfl, rfl⟩ := hk
    simp only [ms, mnx] at h
    split at h
    next x st0 =>
      split at h
      next hlt =>
        cases h
        exact fun H locs ls hH hl hlo => lv_istore C.1 C.2.1 hd (mLs_has hl) (by rw [← hl.1]; exact hlt) rfl fun ls' h' => k H locs ls' hH (mLs_set1 hl.1 h') hlo
      next => cases h
    next => cases h
  | lstore_n j =>
    obtain ⟨rfl, rfl⟩ := hk
    simp only [ms, mnx] at h
    split at h
    next x st0 =>
      split at h
      next hlt =>
        cases h
        exact fun H locs ls hH hl hlo => lv_lstore_n C.1 C.2.1 hd rfl (mLs_has hl) (by rw [← hl.1]; exact hlt) rfl fun ls' h' => k H locs ls' hH (mLs_set2 hl.1 h') hlo
      next => cases h
    next => cases h
  | lstore j =>
    obtain ⟨rfl, rfl⟩ := hk
    simp only [ms, mnx] at h
    split at h
    next x st0 =>
      split at h
      next hlt =>
        cases h
        exact fun H locs ls hH hl hlo => lv_lstore C.1 C.2.1 hd (mLs_has hl) (by rw [← hl.1]; exact hlt) rfl fun ls' h' => k H locs ls' hH (mLs_set2 hl.1 h') hlo
      next => cases h
    next => cases h
  | astore_n j =>
    obtain ⟨rfl, rfl⟩ := hk
    simp only [ms, mnx] at h
    split at h
    next x st0 =>
      split at h
      next hlt =>
        cases h
        exact fun H locs ls hH hl hlo => lv_astore_n C.1 C.2.1 hd rfl (mLs_has hl) (by rw [← hl.1]; exact hlt) rfl fun ls' h' => k H locs ls' hH (mLs_set1 hl.1 h') hlo
      next => cases h
    next st0 =>
      split at h
      next hlt =>
        cases h
        exact fun H locs ls hH hl hlo => lv_astore_nN C.1 C.2.1 hd rfl (mLs_has hl) (by rw [← hl.1]; exact hlt) rfl fun ls' h' => k H locs ls' hH (mLs_set1 hl.1 h') hlo
      next => cases h
    next => cases h
  | astore j =>
    obtain ⟨rfl, rfl⟩ := hk
    simp only [ms, mnx] at h
    split at h
    next x st0 =>
      split at h
      next hlt =>
        cases h
        exact fun H locs ls hH hl hlo => lv_astore C.1 C.2.1 hd (mLs_has hl) (by rw [← hl.1]; exact hlt) rfl fun ls' h' => k H locs ls' hH (mLs_set1 hl.1 h') hlo
      next => cases h
    next st0 =>
      split at h
      next hlt =>
        cases h
        exact fun H locs ls hH hl hlo => lv_astoreN C.1 C.2.1 hd (mLs_has hl) (by rw [← hl.1]; exact hlt) rfl fun ls' h' => k H locs ls' hH (mLs_set1 hl.1 h') hlo
      next => cases h
    next => cases h
  | iinc j v =>
    obtain ⟨rfl, rfl⟩ := hk
    simp only [ms, mnx] at h
    split at h
    next x hx =>
      split at h
      next hlt =>
        cases h
        exact fun H locs ls hH hl hlo => by
          obtain ⟨j, hj⟩ := mlget_place (ad := mad N0 sp) hx
          exact lv_iinc C.1 C.2.1 hd (mLs_has hl) hj rfl (by rw [← hl.1]; exact hlt) rfl fun ls' h' => k H locs ls' hH (mLs_set1 hl.1 h') hlo
      next => cases h
    next => cases h
  | iadd =>
    obtain ⟨rfl, rfl⟩ := hk
    simp only [ms, mnx] at h
    split at h
    next =>
      cases h
      exact fun H locs ls hH hl hlo => lv_iadd C.1 C.2.1 hd (k H locs ls hH hl hlo)
    next => cases h
  | isub =>
    obtain ⟨rfl, rfl⟩ := hk
    simp only [ms, mnx] at h
    split at h
    next =>
      cases h
      exact fun H locs ls hH hl hlo => lv_isub C.1 C.2.1 hd (k H locs ls hH hl hlo)
    next => cases h
  | imul =>
    obtain ⟨rfl, rfl⟩ := hk
    simp only [ms, mnx] at h
    split at h
    next =>
      cases h
      exact fun H locs ls hH hl hlo => lv_imul C.1 C.2.1 hd (k H locs ls hH hl hlo)
    next => cases h
  | iand =>
    obtain ⟨rfl, rfl⟩ := hk
    simp only [ms, mnx] at h
    split at h
    next =>
      cases h
      exact fun H locs ls hH hl hlo => lv_iand C.1 C.2.1 hd (k H locs ls hH hl hlo)
    next => cases h
  | ior =>
    obtain ⟨rfl, rfl⟩ := hk
    simp only [ms, mnx] at h
    split at h
    next =>
      cases h
      exact fun H locs ls hH hl hlo => lv_ior C.1 C.2.1 hd (k H locs ls hH hl hlo)
    next => cases h
  | ixor =>
    obtain ⟨rfl, rfl⟩ := hk
    simp only [ms, mnx] at h
    split at h
    next =>
      cases h
      exact fun H locs ls hH hl hlo => lv_ixor C.1 C.2.1 hd (k H locs ls hH hl hlo)
    next => cases h
  | ishl =>
    obtain ⟨rfl, rfl⟩ := hk
    simp only [ms, mnx] at h
    split at h
    next =>
      cases h
      exact fun H locs ls hH hl hlo => lv_ishl C.1 C.2.1 hd (k H locs ls hH hl hlo)
    next => cases h
  | ishr =>
    obtain ⟨rfl, rfl⟩ := hk
    simp only [ms, mnx] at h
    split at h
    next =>
      cases h
      exact fun H locs ls hH hl hlo => lv_ishr C.1 C.2.1 hd (k H locs ls hH hl hlo)
    next => cases h
  | ladd =>
    obtain ⟨rfl, rfl⟩ := hk
    simp only [ms, mnx] at h
    split at h
    next =>
      cases h
      exact fun H locs ls hH hl hlo => lv_ladd C.1 C.2.1 hd (k H locs ls hH hl hlo)
    next => cases h
  | lsub =>
    obtain ⟨rfl, rfl⟩ := hk
    simp only [ms, mnx] at h
    split at h
    next =>
      cases h
      exact fun H locs ls hH hl hlo => lv_lsub C.1 C.2.1 hd (k H locs ls hH hl hlo)
    next => cases h
  | land =>
    obtain ⟨rfl, rfl⟩ := hk
    simp only [ms, mnx] at h
    split at h
    next =>
      cases h
      exact fun H locs ls hH hl hlo => lv_land C.1 C.2.1 hd (k H locs ls hH hl hlo)
    next => cases h
  | lor =>
    obtain ⟨rfl, rfl⟩ := hk
    simp only [ms, mnx] at h
    split at h
    next =>
      cases h
      exact fun H locs ls hH hl hlo => lv_lor C.1 C.2.1 hd (k H locs ls hH hl hlo)
    next => cases h
  | lxor =>
    obtain ⟨rfl, rfl⟩ := hk
    simp only [ms, mnx] at h
    split at h
    next =>
      cases h
      exact fun H locs ls hH hl hlo => lv_lxor C.1 C.2.1 hd (k H locs ls hH hl hlo)
    next => cases h
  | iushr =>
    obtain ⟨rfl, rfl⟩ := hk
    simp only [ms, mnx] at h
    split at h
    next =>
      cases h
      exact fun H locs ls hH hl hlo => lv_iushr C.1 C.2.1 hd rfl (k H locs ls hH hl hlo)
    next => cases h
  | lshl =>
    obtain ⟨rfl, rfl⟩ := hk
    simp only [ms, mnx] at h
    split at h
    next =>
      cases h
      exact fun H locs ls hH hl hlo => lv_lshl C.1 C.2.1 hd rfl (k H locs ls hH hl hlo)
    next => cases h
  | lshr =>
    obtain ⟨rfl, rfl⟩ := hk
    simp only [ms, mnx] at h
    split at h
    next =>
      cases h
      exact fun H locs ls hH hl hlo => lv_lshr C.1 C.2.1 hd rfl (k H locs ls hH hl hlo)
    next => cases h
  | lushr =>
    obtain ⟨rfl, rfl⟩ := hk
    simp only [ms, mnx] at h
    split at h
    next =>
      cases h
      exact fun H locs ls hH hl hlo => lv_lushr C.1 C.2.1 hd rfl (k H locs ls hH hl hlo)
    next => cases h
  | i2l =>
    obtain ⟨rfl, rfl⟩ := hk
    simp only [ms, mnx] at h
    split at h
    next =>
      cases h
      exact fun H locs ls hH hl hlo => lv_i2l C.1 C.2.1 hd rfl (k H locs ls hH hl hlo)
    next => cases h
  | l2i =>
    obtain ⟨rfl, rfl⟩ := hk
    simp only [ms, mnx] at h
    split at h
    next =>
      cases h
      exact fun H locs ls hH hl hlo => lv_l2i C.1 C.2.1 hd rfl (k H locs ls hH hl hlo)
    next => cases h
  | i2b =>
    obtain ⟨rfl, rfl⟩ := hk
    simp only [ms, mnx] at h
    split at h
    next =>
      cases h
      exact fun H locs ls hH hl hlo => lv_i2b C.1 C.2.1 hd rfl (k H locs ls hH hl hlo)
    next => cases h
  | i2s =>
    obtain ⟨rfl, rfl⟩ := hk
    simp only [ms, mnx] at h
    split at h
    next =>
      cases h
      exact fun H locs ls hH hl hlo => lv_i2s C.1 C.2.1 hd rfl (k H locs ls hH hl hlo)
    next => cases h
  | ineg =>
    obtain ⟨rfl, rfl⟩ := hk
    simp only [ms, mnx] at h
    split at h
    next =>
      cases h
      exact fun H locs ls hH hl hlo => lv_ineg C.1 C.2.1 hd (k H locs ls hH hl hlo)
    next => cases h
  | idiv =>
    obtain ⟨rfl, rfl⟩ := hk
    simp only [ms, mnx] at h
    split at h
    next =>
      split at h
      next hne =>
        cases h
        exact fun H locs ls hH hl hlo => lv_idiv C.1 C.2.1 hd hne (k H locs ls hH hl hlo)
      next => cases h
    next => cases h
  | irem =>
    obtain ⟨rfl, rfl⟩ := hk
    simp only [ms, mnx] at h
    split at h
    next =>
      split at h
      next hne =>
        cases h
        exact fun H locs ls hH hl hlo => lv_irem C.1 C.2.1 hd hne (k H locs ls hH hl hlo)
      next => cases h
    next => cases h
  | lcmp =>
    obtain ⟨rfl, rfl⟩ := hk
    simp only [ms, mnx] at h
    split at h
    next =>
      cases h
      exact fun H locs ls hH hl hlo => W.lcmp C.1 C.2.1 hd (k H locs ls hH hl hlo)
    next => cases h
  | dup =>
    obtain ⟨rfl, rfl⟩ := hk
    simp only [ms, mnx] at h
    split at h
    next =>
      cases h
      exact fun H locs ls hH hl hlo => lv_dup C.1 C.2.1 hd rfl (k H locs ls hH hl hlo)
    next =>
      cases h
      exact fun H locs ls hH hl hlo => lv_dup C.1 C.2.1 hd rfl (k H locs ls hH hl hlo)
    next =>
      cases h
      exact fun H locs ls hH hl hlo => lv_dup C.1 C.2.1 hd rfl (k H locs ls hH hl hlo)
    next => cases h
  | dup2 =>
    obtain ⟨rfl, rfl⟩ := hk
    simp only [ms, mnx] at h
    split at h
    next =>
      cases h
      exact fun H locs ls hH hl hlo => lv_dup2_2 C.1 C.2.1 hd rfl (k H locs ls hH hl hlo)
    next =>
      cases h
      exact fun H locs ls hH hl hlo => lv_dup2_11 C.1 C.2.1 hd rfl rfl (k H locs ls hH hl hlo)
    next =>
      cases h
      exact fun H locs ls hH hl hlo => lv_dup2_11 C.1 C.2.1 hd rfl rfl (k H locs ls hH hl hlo)
    next => cases h
  | pop =>
    obtain ⟨rfl, rfl⟩ := hk
    simp only [ms, mnx] at h
    split at h
    next =>
      cases h
      exact fun H locs ls hH hl hlo => lv_pop C.1 C.2.1 hd rfl (k H locs ls hH hl hlo)
    next =>
      cases h
      exact fun H locs ls hH hl hlo => lv_pop C.1 C.2.1 hd rfl (k H locs ls hH hl hlo)
    next =>
      cases h
      exact fun H locs ls hH hl hlo => lv_pop C.1 C.2.1 hd rfl (k H locs ls hH hl hlo)
    next => cases h
  | iaload =>
    obtain ⟨rfl, rfl⟩ := hk
    simp only [ms, mnx] at h
    split at h
    next =>
      split at h
      next hx =>
        split at h
        next hin =>
          cases h
          exact j_iald C hd hb (gI_eq hx) hin k
        next => cases h
      next => cases h
    next => cases h
  | laload =>
    obtain ⟨rfl, rfl⟩ := hk
    simp only [ms, mnx] at h
    split at h
    next =>
      split at h
      next hx =>
        split at h
        next hin =>
          cases h
          exact j_lald C hd hb (gJ_eq hx) hin k
        next => cases h
      next => cases h
    next => cases h
  | aaload =>
    obtain ⟨rfl, rfl⟩ := hk
    simp only [ms, mnx] at h
    split at h
    next =>
      split at h
      next hx =>
        split at h
        next hin =>
          cases h
          exact j_aald C hd hin.1 hin.2.1 (gR_eq hx) hin.2.2 k
        next => cases h
      next => cases h
    next => cases h
  | iastore =>
    obtain ⟨rfl, rfl⟩ := hk
    simp only [ms, mnx] at h
    split at h
    next =>
      split at h
      next hx =>
        split at h
        next hin =>
          cases h
          exact j_iast C hd hb hin.1 (gI_eq hx) hin.2 k
        next => cases h
      next => cases h
    next => cases h
  | lastore =>
    obtain ⟨rfl, rfl⟩ := hk
    simp only [ms, mnx] at h
    split at h
    next =>
      split at h
      next hx =>
        split at h
        next hin =>
          cases h
          exact j_last C hd hb hin.1 (gJ_eq hx) hin.2 k
        next => cases h
      next => cases h
    next => cases h
  | aastore =>
    obtain ⟨rfl, rfl⟩ := hk
    simp only [ms, mnx] at h
    split at h
    next =>
      split at h
      next hx hy =>
        split at h
        next hin =>
          cases h
          exact j_aast C hd hb hin.1 hin.2.1 (gR_eq hx) (gO_eq hy) hin.2.2.1 hin.2.2.2 k
        next => cases h
      next => cases h
    next => cases h
  | arraylength =>
    obtain ⟨rfl, rfl⟩ := hk
    simp only [ms, mnx] at h
    split at h
    next =>
      split at h
      next hx =>
        split at h
        next hin =>
          cases h
          exact j_alen C hd hin.1 hin.2 hx k
        next => cases h
      next => cases h
    next => cases h
  | lreturn =>
    obtain ⟨rfl, rfl, hk⟩ := hk
    simp only [ms] at h
    exact absurd h (by (repeat' split) <;> simp)
  | areturn =>
    obtain ⟨rfl, rfl, hk⟩ := hk
    simp only [ms] at h
    exact absurd h (by (repeat' split) <;> simp)
  | return_ =>
    obtain ⟨rfl, rfl, hk⟩ := hk
    simp only [ms] at h
    exact absurd h (by (repeat' split) <;> simp)
  | ireturn =>
    obtain ⟨rfl, rfl, hk⟩ := hk
    simp only [ms] at h
    exact absurd h (by (repeat' split) <;> simp)
  | getfield idx =>
    obtain ⟨rfl, ci, k0, rfl, rfl, hF⟩ := hk
    simp only [ms, mnx] at h
    split at h
    next hg =>
      cases hg
      split at h
      next hx =>
        split at h
        next hin =>
          obtain ⟨h3, rfl⟩ := hin
          split at h
          next hv =>
            cases h
            exact j_getf C hd hF h3 (gO_eq hx) hv k
          next => cases h
        next => cases h
      next => cases h
    next => cases h
  | putfield idx =>
    obtain ⟨rfl, ci, k0, t, rfl, rfl, hF⟩ := hk
    simp only [ms, mnx] at h
    split at h
    next hg =>
      cases hg
      split at h
      next hx =>
        split at h
        next hin =>
          obtain ⟨h3, rfl, hlt, hfit⟩ := hin
          cases h
          exact j_putf C hb hd hF h3 (gO_eq hx) hlt hfit k
        next => cases h
      next => cases h
    next => cases h
  | getstatic idx =>
    obtain ⟨rfl, rfl, ⟨rfl, hl⟩ | ⟨rfl, hl⟩⟩ := hk
    · simp only [ms, mnx] at h
      cases h
      exact j_gets1 C hb hd hl k
    · simp only [ms, mnx] at h
      cases h
      exact j_gets2 C hb hd hl k
  | new idx =>
    obtain ⟨rfl, rfl, ci, r, rfl, hr, hlink⟩ := hk
    simp only [ms, mnx] at h
    cases h
    exact j_new C hb hb1 hd hr hlink (by have : M.2.1 + 1 - b0 ≤ R.cells := hc; omega) (by have : M.2.2 + (mnew ci).length - b1 ≤ R.slots := hs; omega) k
  | newarray t =>
    obtain ⟨rfl, rfl⟩ := hk
    simp only [ms, mnx] at h
    split at h
    next =>
      split at h
      next hin =>
        cases h
        exact j_newai C hb hb1 hd hin.1 hin.2 (by have : M.2.1 + 1 - b0 ≤ R.cells := hc; omega) (by have : M.2.2 + _ - b1 ≤ R.slots := hs; omega) k
      next => cases h
    next =>
      split at h
      next hin =>
        cases h
        exact j_newal C hb hb1 hd hin.1 hin.2 (by have : M.2.1 + 1 - b0 ≤ R.cells := hc; omega) (by have : M.2.2 + _ - b1 ≤ R.slots := hs; omega) k
      next => cases h
    next => cases h
  | anewarray idx =>
    obtain ⟨rfl, rfl, ⟨rfl, hlink⟩ | ⟨rfl, hlink⟩⟩ := hk
    · simp only [ms, mnx] at h
      split at h
      next hg =>
        cases hg
        split at h
        next hin =>
          cases h
          exact j_newq6 C hb hb1 hd hlink hin.1 hin.2 (by have : M.2.1 + 1 - b0 ≤ R.cells := hc; omega) (by have : M.2.2 + _ - b1 ≤ R.slots := hs; omega) k
        next => cases h
      next => cases h
    · simp only [ms, mnx] at h
      split at h
      next hg =>
        cases hg
        split at h
        next hin =>
          cases h
          exact j_newq5 C hb hb1 hd hlink hin.1 hin.2 (by have : M.2.1 + 1 - b0 ≤ R.cells := hc; omega) (by have : M.2.2 + _ - b1 ≤ R.slots := hs; omega) k
        next => cases h
      next => cases h
  | goto off =>
    obtain ⟨rfl, rfl, t, rfl, ht⟩ := hk
    simp only [ms, mjp] at h
    cases h
    exact fun H locs ls hH hl hlo => lv_goto C.1 C.2.1 hd ht (k H locs ls hH hl hlo)
  | if_icmp cd off =>
    obtain ⟨rfl, rfl, t, rfl, ht⟩ := hk
    simp only [ms] at h
    split at h
    next y x st0 =>
      by_cases hcd : x = y
      · rw [mbr_eq rfl, if_pos (decide_eq_true hcd)] at h
        cases h
        exact fun H locs ls hH hl hlo => lv_icmp_eq C.1 C.2.1 hd ht (fun _ => (k H locs ls hH hl hlo)) (fun z => absurd hcd z)
      · rw [mbr_eq rfl, if_neg (by simp [hcd])] at h
        cases h
        exact fun H locs ls hH hl hlo => lv_icmp_eq C.1 C.2.1 hd ht (fun z => absurd z hcd) (fun _ => (k H locs ls hH hl hlo))
    next y x st0 =>
      by_cases hcd : ¬ x = y
      · rw [mbr_eq rfl, if_pos (decide_eq_true hcd)] at h
        cases h
        exact fun H locs ls hH hl hlo => lv_icmp_ne C.1 C.2.1 hd ht (fun _ => (k H locs ls hH hl hlo)) (fun z => absurd z hcd)
      · rw [mbr_eq rfl, if_neg (by simp [hcd])] at h
        cases h
        exact fun H locs ls hH hl hlo => lv_icmp_ne C.1 C.2.1 hd ht (fun z => absurd z hcd) (fun _ => (k H locs ls hH hl hlo))
    next y x st0 =>
      by_cases hcd : x < y
      · rw [mbr_eq rfl, if_pos (decide_eq_true hcd)] at h
        cases h
        exact fun H locs ls hH hl hlo => lv_icmp_lt C.1 C.2.1 hd ht (fun _ => (k H locs ls hH hl hlo)) (fun z => absurd hcd z)
      · rw [mbr_eq rfl, if_neg (by simp [hcd])] at h
        cases h
        exact fun H locs ls hH hl hlo => lv_icmp_lt C.1 C.2.1 hd ht (fun z => absurd z hcd) (fun _ => (k H locs ls hH hl hlo))
    next y x st0 =>
      by_cases hcd : y ≤ x
      · rw [mbr_eq rfl, if_pos (decide_eq_true hcd)] at h
        cases h
        exact fun H locs ls hH hl hlo => lv_icmp_ge C.1 C.2.1 hd ht (fun _ => (k H locs ls hH hl hlo)) (fun z => absurd hcd z)
      · rw [mbr_eq rfl, if_neg (by simp [hcd])] at h
        cases h
        exact fun H locs ls hH hl hlo => lv_icmp_ge C.1 C.2.1 hd ht (fun z => absurd z hcd) (fun _ => (k H locs ls hH hl hlo))
    next y x st0 =>
      by_cases hcd : y < x
      · rw [mbr_eq rfl, if_pos (decide_eq_true hcd)] at h
        cases h
        exact fun H locs ls hH hl hlo => lv_icmp_gt C.1 C.2.1 hd ht (fun _ => (k H locs ls hH hl hlo)) (fun z => absurd hcd z)
      · rw [mbr_eq rfl, if_neg (by simp [hcd])] at h
        cases h
        exact fun H locs ls hH hl hlo => lv_icmp_gt C.1 C.2.1 hd ht (fun z => absurd z hcd) (fun _ => (k H locs ls hH hl hlo))
    next y x st0 =>
      by_cases hcd : x ≤ y
      · rw [mbr_eq rfl, if_pos (decide_eq_true hcd)] at h
        cases h
        exact fun H locs ls hH hl hlo => lv_icmp_le C.1 C.2.1 hd ht (fun _ => (k H locs ls hH hl hlo)) (fun z => absurd hcd z)
      · rw [mbr_eq rfl, if_neg (by simp [hcd])] at h
        cases h
        exact fun H locs ls hH hl hlo => lv_icmp_le C.1 C.2.1 hd ht (fun z => absurd z hcd) (fun _ => (k H locs ls hH hl hlo))
    next => cases h
  | ifCond cd off =>
    obtain ⟨rfl, rfl, t, rfl, ht⟩ := hk
    simp only [ms] at h
    split at h
    next x st0 =>
      by_cases hcd : x = 0
      · rw [mbr_eq rfl, if_pos (decide_eq_true hcd)] at h
        cases h
        exact fun H locs ls hH hl hlo => lv_if_eq C.1 C.2.1 hd ht (fun _ => (k H locs ls hH hl hlo)) (fun z => absurd hcd z)
      · rw [mbr_eq rfl, if_neg (by simp [hcd])] at h
        cases h
        exact fun H locs ls hH hl hlo => lv_if_eq C.1 C.2.1 hd ht (fun z => absurd z hcd) (fun _ => (k H locs ls hH hl hlo))
    next x st0 =>
      by_cases hcd : ¬ x = 0
      · rw [mbr_eq rfl, if_pos (decide_eq_true hcd)] at h
        cases h
        exact fun H locs ls hH hl hlo => lv_if_ne C.1 C.2.1 hd ht (fun _ => (k H locs ls hH hl hlo)) (fun z => absurd z hcd)
      · rw [mbr_eq rfl, if_neg (by simp [hcd])] at h
        cases h
        exact fun H locs ls hH hl hlo => lv_if_ne C.1 C.2.1 hd ht (fun z => absurd z hcd) (fun _ => (k H locs ls hH hl hlo))
    next x st0 =>
      by_cases hcd : x < 0
      · rw [mbr_eq rfl, if_pos (decide_eq_true hcd)] at h
        cases h
        exact fun H locs ls hH hl hlo => lv_if_lt C.1 C.2.1 hd ht (fun _ => (k H locs ls hH hl hlo)) (fun z => absurd hcd z)
      · rw [mbr_eq rfl, if_neg (by simp [hcd])] at h
        cases h
        exact fun H locs ls hH hl hlo => lv_if_lt C.1 C.2.1 hd ht (fun z => absurd z hcd) (fun _ => (k H locs ls hH hl hlo))
    next x st0 =>
      by_cases hcd : 0 ≤ x
      · rw [mbr_eq rfl, if_pos (decide_eq_true hcd)] at h
        cases h
        exact fun H locs ls hH hl hlo => lv_if_ge C.1 C.2.1 hd ht (fun _ => (k H locs ls hH hl hlo)) (fun z => absurd hcd z)
      · rw [mbr_eq rfl, if_neg (by simp [hcd])] at h
        cases h
        exact fun H locs ls hH hl hlo => lv_if_ge C.1 C.2.1 hd ht (fun z => absurd z hcd) (fun _ => (k H locs ls hH hl hlo))
    next x st0 =>
      by_cases hcd : 0 < x
      · rw [mbr_eq rfl, if_pos (decide_eq_true hcd)] at h
        cases h
        exact fun H locs ls hH hl hlo => lv_if_gt C.1 C.2.1 hd ht (fun _ => (k H locs ls hH hl hlo)) (fun z => absurd hcd z)
      · rw [mbr_eq rfl, if_neg (by simp [hcd])] at h
        cases h
        exact fun H locs ls hH hl hlo => lv_if_gt C.1 C.2.1 hd ht (fun z => absurd z hcd) (fun _ => (k H locs ls hH hl hlo))
    next x st0 =>
      by_cases hcd : x ≤ 0
      · rw [mbr_eq rfl, if_pos (decide_eq_true hcd)] at h
        cases h
        exact fun H locs ls hH hl hlo => lv_if_le C.1 C.2.1 hd ht (fun _ => (k H locs ls hH hl hlo)) (fun z => absurd hcd z)
      · rw [mbr_eq rfl, if_neg (by simp [hcd])] at h
        cases h
        exact fun H locs ls hH hl hlo => lv_if_le C.1 C.2.1 hd ht (fun z => absurd z hcd) (fun _ => (k H locs ls hH hl hlo))
    next => cases h
  | ifnull off =>
    obtain ⟨rfl, rfl, t, rfl, ht⟩ := hk
    simp only [ms, mbr] at h
    split at h
    next =>
      cases h
      exact fun H locs ls hH hl hlo => lv_ifnull C.1 C.2.1 hd (k H locs ls hH hl hlo)
    next =>
      cases h
      exact fun H locs ls hH hl hlo => lv_ifnullN C.1 C.2.1 hd ht (k H locs ls hH hl hlo)
    next => cases h
  | ifnonnull off =>
    obtain ⟨rfl, rfl, t, rfl, ht⟩ := hk
    simp only [ms, mbr] at h
    split at h
    next =>
      cases h
      exact fun H locs ls hH hl hlo => lv_ifnonnull C.1 C.2.1 hd ht (k H locs ls hH hl hlo)
    next =>
      cases h
      exact fun H locs ls hH hl hlo => lv_ifnonnullN C.1 C.2.1 hd (k H locs ls hH hl hlo)
    next => cases h
  | tableswitch d lo hi offs =>
    obtain ⟨rfl, t, ts, rfl, ht, hts⟩ := hk
    simp only [ms, mjp] at h
    split at h
    next x st0 t' ts' hg =>
      cases hg
      split at h
      next hout =>
        cases h
        exact fun H locs ls hH hl hlo => lv_tableOut C.1 C.2.1 hd hout ht (k H locs ls hH hl hlo)
      next hout =>
        split at h
        next t1 ht1 =>
          cases h
          have hlt := List.getElem?_map (f := fun t : Nat => (t : Int)) (l := ts) (i := ((x.toInt - lo).toNat))
          rw [← hts, ht1, List.getElem?_map] at hlt
          exact fun H locs ls hH hl hlo => by
            cases ho : offs.toList[(x.toInt - lo).toNat]? with
            | none => rw [ho] at hlt; cases hlt
            | some off =>
              rw [ho] at hlt
              rw [Array.getElem?_toList] at ho
              exact lv_tableIn C.1 C.2.1 hd (fun z => hout (Or.inl z)) (fun z => hout (Or.inr z)) ho (Option.some.inj hlt) (k H locs ls hH hl hlo)
        next => cases h
    next => cases h
  | lookupswitch d ps =>
    obtain ⟨rfl, rfl, hps⟩ := hk
    simp only [ms, mjp] at h
    split at h
    next x st0 pc' hg =>
      cases hg
      split at h
      next hpos =>
        cases h
        exact fun H locs ls hH hl hlo => lv_lookup C.1 C.2.1 hd hps rfl (Int.toNat_of_nonneg hpos).symm (k H locs ls hH hl hlo)
      next => cases h
    next => cases h
  | invokestatic idx =>
    obtain ⟨rfl, rfl, ⟨μ, k0, rfl, hk1, hk2⟩ | ⟨rfl, hlink⟩ | ⟨rfl, hlink⟩ | ⟨rfl, hlink⟩⟩ := hk
    · simp only [ms] at h
      split at h <;> cases h
    · simp only [ms] at h
      split at h
      next =>
        unfold mcopy at h
        split at h
        next hin =>
          obtain ⟨h3, h1, h2, h4, hcat⟩ := hin
          simp only [mnx] at h
          split at h
          next hx hy =>
            split at h
            next hin =>
              cases h
              exact j_copyi C hb hd hlink h3 hin.1 (gI_eq hy) (gI_eq hx) h1 h2 h4 hin.2.1 hin.2.2 hcat k
            next => cases h
          next hx hy _ =>
            split at h
            next hin =>
              cases h
              rcases hin.1 with h30 | rfl
              · exact j_copyl C hb hd hlink h3 h30 (gJ_eq hy) (gJ_eq hx) h1 h2 h4 hin.2.1 hin.2.2 hcat k
              · exact fun H locs ls hH hl hlo => by
                  have e := (gJ_eq hx).symm.trans hH.1.2.2.2.2.2
                  cases e
                  exact j_copyt C hb hd hlink h3 (gJ_eq hy) h1 h2 h4 hin.2.1 hin.2.2 hcat k H locs ls hH hl hlo
            next => cases h
          next => cases h
        next => cases h
      next => cases h
    · simp only [ms] at h
      split at h
      next =>
        split at h
        next hcat =>
          simp only [mnx] at h
          cases h
          exact fun H locs ls hH hl hlo => va_mmax C.1 C.2.1 (by rw [hl.2.1]) C.2.2.2.2.1 (C.2.2.2.2.2.1 _ hlink) (C.2.2.2.2.2.1 _ mw_749) (C.2.2.2.2.2.1 _ mw_18) (C.2.2.2.2.2.1 _ mw_750) C.2.2.2.2.2.2.2.2.2.2.2.2.1 (by rw [mcat_tr]; have := C.2.2.2.2.2.2.2.2.2.2.2.2.2; omega) hc hs hd (k H locs ls hH hl hlo)
        next => cases h
      next => cases h
    · simp only [ms] at h
      split at h
      next =>
        split at h
        next hcat =>
          simp only [mnx] at h
          cases h
          exact fun H locs ls hH hl hlo => va_mmin C.1 C.2.1 (by rw [hl.2.1]) C.2.2.2.2.1 (C.2.2.2.2.2.1 _ hlink) (C.2.2.2.2.2.1 _ mw_609) (C.2.2.2.2.2.1 _ mw_18) (C.2.2.2.2.2.1 _ mw_610) C.2.2.2.2.2.2.2.2.2.2.2.2.1 (by rw [mcat_tr]; have := C.2.2.2.2.2.2.2.2.2.2.2.2.2; omega) hc hs hd (k H locs ls hH hl hlo)
        next => cases h
      next => cases h
  | invokevirtual idx =>
    obtain ⟨rfl, rfl, μ, k0, ci, rfl, hk1, hk2⟩ := hk
    simp only [ms] at h
    exact absurd h (by (repeat' split) <;> simp)
  | invokespecial idx =>
    obtain ⟨rfl, rfl, ⟨μ, k0, rfl, hk1, hk2⟩ | ⟨rfl, hlink⟩⟩ := hk
    · simp only [ms] at h
      split at h
      · split at h <;> cases h
      · rename_i hg _; cases hg
      · cases h
    · simp only [ms] at h
      split at h
      next => rename_i hg _; cases hg
      next a0 rest0 hg0 hst =>
        split at h
        next hcat =>
          simp only [mnx] at h
          cases h
          have hst : st = .ref a0 :: _ := hst
          subst hst
          exact j_oinit C hd hlink hcat k
        next => cases h
      next => cases h
  | _ => exact hk.elim
end NX

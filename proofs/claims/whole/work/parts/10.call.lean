theorem ms_mono {i : Instr} {g : List Nat} {L L' : mL} {st st' : List Value} {M M' : mM} {nx : Option Nat} (h : ms i g L st M = some (.inl (L', st', M', nx))) : M.2.1 ≤ M'.2.1 ∧ M.2.2 ≤ M'.2.2 := by
  cases i <;> simp only [ms, mnx, mjp, mbr, mcopy] at h <;> (repeat' split at h) <;> (first | (cases h; done) | (cases h; first | exact ⟨Nat.le_refl _, Nat.le_refl _⟩ | exact ⟨Nat.le_succ _, Nat.le_add_right _ _⟩))
theorem ms_calls {i : Instr} {g : List Nat} {L : mL} {st : List Value} {M : mM} {y : Nat × List Value × List Value} (h : ms i g L st M = some (.inr (.inr y))) : (∃ k, i = .invokestatic k) ∨ (∃ k, i = .invokevirtual k) ∨ (∃ k, i = .invokespecial k) := by
  cases i with
  | invokestatic k => exact Or.inl ⟨k, rfl⟩
  | invokevirtual k => exact Or.inr (Or.inl ⟨k, rfl⟩)
  | invokespecial k => exact Or.inr (Or.inr ⟨k, rfl⟩)
  | _ =>
    simp only [ms, mnx, mjp, mbr] at h <;> (repeat' split at h) <;> cases h
theorem mrun_mono {tb : mB} : ∀ (f d μ : Nat) (is : List mI) (L : mL) (st : List Value) (M : mM) (r : Option Value × mM), mrun tb f d μ is L st M = some r → M.2.1 ≤ r.2.2.1 ∧ M.2.2 ≤ r.2.2.2
  | 0, _, _, _, _, _, _, _, h => by cases h
  | f + 1, d, μ, [], _, _, _, _, h => by cases h
  | f + 1, d, μ, (i, g) :: is, L, st, M, r, h => by
    unfold mrun at h
    split at h
    next L' st' M' hm =>
      have h1 := ms_mono hm
      have h2 := mrun_mono f d μ is L' st' M' r h
      omega
    next L' st' M' t hm =>
      have h1 := ms_mono hm
      have h2 := mrun_mono f d μ _ L' st' M' r h
      omega
    next v hm =>
      cases h
      exact ⟨Nat.le_refl _, Nat.le_refl _⟩
    next μ' as st' hm =>
      split at h
      next => cases h
      next d' =>
        split at h
        next hl =>
          split at h
          next v M' hr =>
            have h1 := mrun_mono f d' μ' _ _ _ M (v, M') hr
            have h2 := mrun_mono f (d' + 1) μ is L _ M' r h
            have h1 : M.2.1 ≤ M'.2.1 ∧ M.2.2 ≤ M'.2.2 := h1
            omega
          next => cases h
        next => cases h
    next => cases h
theorem mGood_moved {N0 : Nat} {sp : Nat → Nat} {D : va_G} {cA : Nat → ClassId} {H00 : Heap} {len : Nat} {xs : Nat → Int32} {u U : State} (hW : u.WarmedH U.vm) (h : mGood N0 sp D cA H00 len xs u) : mGood N0 sp D cA H00 len xs U := by
  obtain ⟨h1, h2, h3, h4, h5, h6, h7, h8, h9, h10, h11⟩ := h
  have hA := hW.alike
  refine ⟨h1.moved hA, fun w hw hn => ?_, h3.moved hA, h4.moved hA, h5.moved hA, h6.moved hA, h7.moved hA, h8.moved hA, h9.moved hA, h10, h11⟩
  have := h2 w hw hn
  cases w with
  | fieldLinkNest a i b n d h => exact va_Nw.warmF hW this
  | methodLinkNest a i y h => exact va_Nw.warmM hW this
  | _ => cases hn
def mPc (N0 : Nat) (sp : Nat → Nat) (D : va_G) (cA : Nat → ClassId) (H00 : Heap) (len : Nat) (xs : Nat → Int32) (as : List Value) (M : mM) : Array Value → State → Prop := fun v U => v = (as.map (mtr (mad N0 sp))).toArray ∧ mGood N0 sp D cA H00 len xs U ∧ mHolds N0 sp D cA H00 len xs M U.heap
def mQc (N0 : Nat) (sp : Nat → Nat) (D : va_G) (cA : Nat → ClassId) (H00 : Heap) (len : Nat) (xs : Nat → Int32) (v : Option Value) (M : mM) : Array Value → State → Outcome → State → Prop := fun _ _ o t => o = .returned (v.map (mtr (mad N0 sp))) ∧ mHolds N0 sp D cA H00 len xs M t.heap
def mwq (q : mT) : List Cond := Cond.code q.1.1 q.1.2.1 q.1.2.2.1 q.1.2.2.2 :: mtb
def mrm (d mc ms : Nat) : Room := { frames := d + 1, cells := mc, slots := ms, locals := 64 * (d + 1) }
theorem mwq_good {q : mT} (h : mCe q) : GoodIn mtb (mwq q) := by
  intro w hw
  have hm : w ∈ mtb := by
    rcases List.mem_cons.mp hw with e | e
    · rw [e]; exact h.1
    · exact e
  exact ⟨hm, good_of_word (List.mem_filter.mp hm).2⟩
theorem mblind {N0 : Nat} {sp : Nat → Nat} {D : va_G} {cA : Nat → ClassId} {H00 : Heap} {len : Nat} {xs : Nat → Int32} {as : List Value} {M : mM} : FrameBlind (mPc N0 sp D cA H00 len xs as M) := fun a U g mk h => ⟨h.1, mGood_moved (show U.WarmedH (U.calling g mk a).vm from State.WarmedH.refl U) h.2.1, h.2.2⟩
section SD
variable {N0 : Nat} {sp : Nat → Nat} {D : va_G} {cA : Nat → ClassId} {H00 : Heap} {len : Nat} {xs : Nat → Int32} {q : mT} {tb : mB}
variable {p : Program} {l : Launch} {e : Env} {R : Room} {s : State} {m : MethodId} {args : Array Value} {below : List Frame} {meth : Method} {c : Code} {Q : State → Prop} {b0 b1 : Nat} {pc : Nat}
/-- behind a call -/
theorem mback {H : Heap} {locs : List Loc} {ls : Array Slot} {M' : mM} {L : mL} {st0 rest : List Value} {cells slots mc ms : Nat} {v : Option Value} {a : Array Value} (hl : mLs (mad N0 sp) c.maxLocals ls L) (hlo : ∀ x ∈ locs, mA N0 x.base) (hc : cells + mc = M'.2.1 - b0) (hs : slots + ms = M'.2.2 - b1)
    (hr : va_Run p l e R s m args below meth c H locs cells slots mc ms (F0 m pc ls st0) (rest.map (mtr (mad N0 sp))) (mQc N0 sp D cA H00 len xs v M' a) (mA N0)) (k : mJ N0 sp D cA H00 len xs p l e R s m args below meth c Q b0 b1 M' L (v.toList ++ rest) (pc + 3)) : W p l e R s m args below meth c H locs cells slots Q (F0 m pc ls st0) := by
  intro T hT X
  obtain ⟨v', st₀, t, T', L', h0, X', hL, e1, e2, ⟨hv, hH⟩, st⟩ := hr T hT X
  rw [hc, hs] at X'
  have hv := Outcome.returned.inj hv
  have kk := k T'.heap (locs ++ L') ls (by rw [e1]; exact hH) hl (fun x hx => (List.mem_append.mp hx).elim (hlo x) (hL x))
  obtain ⟨t2, a1, b2⟩ := kk T' rfl X'
  refine ⟨t2, st t2 ?_, b2⟩
  rw [hv]
  have e3 : (v.map (mtr (mad N0 sp))).toList ++ rest.map (mtr (mad N0 sp)) = (v.toList ++ rest).map (mtr (mad N0 sp)) := by
    cases v <;> simp
  rw [e3]
  exact a1
theorem mCFix (C : mCx N0 sp D cA H00 len xs q p R s m args meth c b0) : CallFix p m c q.1.2.1 c.maxLocals s args mtb q.1.1.cls := ⟨C.1, C.2.1, rfl, C.2.2.2.2.1, C.2.2.2.2.2.1⟩
theorem mtd {st : List Value} {n : Nat} {rest : List Value} (h : st.drop n = rest) : st = st.take n ++ rest := by rw [← h, List.take_append_drop]
theorem mrev {ad : Nat → Nat} {st : List Value} {n : Nat} : (((st.take n).reverse).map (mtr ad)).reverse = (st.take n).map (mtr ad) := by
  rw [List.map_reverse, List.reverse_reverse]
set_option maxHeartbeats 1000000 in
theorem j_call (C : mCx N0 sp D cA H00 len xs q p R s m args meth c b0) {i' i : Instr} {n : Nat} {g : List Nat} (hd : decode q.1.2.1 pc = .ok (i', n)) (hk : mLk tb q pc i' n i g) {L : mL} {st st' as : List Value} {M M' : mM} {μ d mc ms' : Nat} {v : Option Value} (h : ms i g L st M = some (.inr (.inr (μ, as, st')))) {q' : mT} (hq' : tb[μ]? = some q')
    (hM : mCe q' → Met l q'.1.1 (mwq q') (mrm d mc ms') (mPc N0 sp D cA H00 len xs as M) (mQc N0 sp D cA H00 len xs v M') mc ms' (mA N0)) (hfr : d + 2 ≤ R.frames) (hlc : 64 * (d + 2) ≤ R.locals) (hb : b0 ≤ M.2.1) (hb1 : b1 ≤ M.2.2) (hmc : M'.2.1 = M.2.1 + mc) (hms : M'.2.2 = M.2.2 + ms') (hc : M'.2.1 - b0 ≤ R.cells) (hs : M'.2.2 - b1 ≤ R.slots)
    (k : mJ N0 sp D cA H00 len xs p l e R s m args below meth c Q b0 b1 M' L (v.toList ++ st') (pc + n)) : mJ N0 sp D cA H00 len xs p l e R s m args below meth c Q b0 b1 M L st pc := by
  have hw := C.2.2.2.2.2.1
  have hG := C.2.2.2.2.2.2.2.2.1
  have hroom : mCe q' → (mrm d mc ms').frames + 1 ≤ R.frames ∧ 8 + (q'.1.2.2.1 + 11) + (mrm d mc ms').locals ≤ R.locals := by
    intro hce
    have h1 := hce.2.2.2.2.2
    refine ⟨?_, ?_⟩
    · show d + 1 + 1 ≤ _
      omega
    · show 8 + (q'.1.2.2.1 + 11) + 64 * (d + 1) ≤ _
      omega
  have pre : ∀ (H : Heap), mHolds N0 sp D cA H00 len xs M H → ∀ U : State, U.heap = H → s.WarmedH U.vm → mPc N0 sp D cA H00 len xs as M (as.map (mtr (mad N0 sp))).toArray U := by
    intro H hH U hU hW
    exact ⟨rfl, mGood_moved hW hG, by rw [hU]; exact hH⟩
  cases i' with
  | invokestatic idx =>
    obtain ⟨rfl, rfl, ⟨μ', k0, rfl, ⟨q1, hq1, hce, hpar, hlink⟩, ⟨q2, hq2, hsta⟩⟩ | ⟨rfl, hlink⟩ | ⟨rfl, hlink⟩ | ⟨rfl, hlink⟩⟩ := hk
    · simp only [ms] at h
      split at h
      next hin =>
        cases h
        cases hq'.symm.trans hq1
        cases hq'.symm.trans hq2
        intro H locs ls hH hl hlo
        have hst : st.map (mtr (mad N0 sp)) = (((st.take k0).reverse).map (mtr (mad N0 sp))).reverse ++ (st.drop k0).map (mtr (mad N0 sp)) := by
          rw [mrev, ← List.map_append, List.take_append_drop]
        have hn : (((st.take k0).reverse).map (mtr (mad N0 sp))).length = k0 := by simp; omega
        have hcat : 2 * (F0 m pc ls (st.map (mtr (mad N0 sp)))).monitorRoom + (((st.drop k0).map (mtr (mad N0 sp))).map fun v => v.category).sum ≤ 8 := lv_room (by rw [mcat_tr]; exact hin.2)
        rcases hlink with hlink | hlink
        · exact mback hl hlo (by omega) (by omega) (va_runS (mCFix C) (hM hce) ⟨callB_of k0 hw (mwq_good hce) rfl rfl rfl (hw _ hce.2.1) (hw _ hlink) ⟨hce.2.2.2.1, hce.2.2.2.2.1, hpar⟩ (hroom hce), hw _ hsta⟩ ⟨mblind, pre H hH⟩ rfl hn hl.2.1 hst hcat hd (by omega)) k
        · exact mback hl hlo (by omega) (by omega) (va_runSN (mCFix C) (hM hce) ⟨va_cnB k0 hw (mwq_good hce) rfl rfl rfl (hG.2.1 _ hlink rfl) (hw _ hce.2.1) ⟨hce.2.2.2.1, hce.2.2.2.2.1, hpar⟩ (hroom hce), hw _ hsta, trivial⟩ ⟨mblind, pre H hH⟩ rfl hn hl.2.1 hst hcat hd (by omega)) k
      next => cases h
    · simp only [ms] at h
      split at h
      next =>
        unfold mcopy at h
        (repeat' split at h) <;> cases h
      next => cases h
    · simp only [ms, mnx] at h
      (repeat' split at h) <;> cases h
    · simp only [ms, mnx] at h
      (repeat' split at h) <;> cases h
  | invokevirtual idx =>
    obtain ⟨rfl, rfl, μ', k0, ci, rfl, ⟨q1, hq1, hce, hpar, hlink⟩, ⟨q2, r, hq2, hr, hins, hsel⟩⟩ := hk
    simp only [ms] at h
    split at h
    next a b cc a0 rest hg hst0 =>
      cases hg
      split at h
      next cx fs hx =>
        split at h
        next hin =>
          obtain ⟨h3, rfl, hcat, hlen⟩ := hin
          cases h
          cases hq'.symm.trans hq1
          cases hq'.symm.trans hq2
          intro H locs ls hH hl hlo
          have hst0 : st.drop k0 = .ref a0 :: st' := hst0
          have hst : st.map (mtr (mad N0 sp)) = (((st.take k0).reverse).map (mtr (mad N0 sp))).reverse ++ .ref (mad N0 sp a0) :: st'.map (mtr (mad N0 sp)) := by
            rw [mrev]
            conv => lhs; rw [mtd hst0]
            rw [List.map_append]
            rfl
          have hn : (((st.take k0).reverse).map (mtr (mad N0 sp))).length = k0 := by simp; omega
          have hcat : 2 * (F0 m pc ls (st.map (mtr (mad N0 sp)))).monitorRoom + ((st'.map (mtr (mad N0 sp))).map fun v => v.category).sum ≤ 8 := lv_room (by rw [mcat_tr]; exact hcat)
          have hxx := gO_eq hx
          have hrecv := va_recv hG.1 hH.2.1 hr (mws_get h3 (mWf_lt hH.1 hxx) hxx)
          rcases hlink with hlink | hlink
          · exact mback hl hlo (by omega) (by omega) (va_runV (mCFix C) (hM hce) ⟨callB_of k0 hw (mwq_good hce) rfl rfl rfl (hw _ hce.2.1) (hw _ hlink) ⟨hce.2.2.2.1, hce.2.2.2.2.1, hpar⟩ (hroom hce), hw _ hins, hw _ hsel⟩ ⟨mblind, hrecv, pre H hH⟩ rfl hn hl.2.1 hst hcat hd (by omega)) k
          · exact mback hl hlo (by omega) (by omega) (va_runVN (mCFix C) (hM hce) ⟨va_cnB k0 hw (mwq_good hce) rfl rfl rfl (hG.2.1 _ hlink rfl) (hw _ hce.2.1) ⟨hce.2.2.2.1, hce.2.2.2.2.1, hpar⟩ (hroom hce), hw _ hins, hw _ hsel⟩ ⟨mblind, hrecv, pre H hH⟩ rfl hn hl.2.1 hst hcat hd (by omega)) k
        next => cases h
      next => cases h
    next => cases h
  | invokespecial idx =>
    obtain ⟨rfl, rfl, ⟨μ', k0, rfl, ⟨q1, hq1, hce, hpar, hlink⟩, ⟨q2, hq2, hins, hnm, hret⟩⟩ | ⟨rfl, hlink⟩⟩ := hk
    · simp only [ms] at h
      split at h
      next a b a0 rest hg hst0 =>
        cases hg
        split at h
        next hin =>
          obtain ⟨hcat, hlen⟩ := hin
          cases h
          cases hq'.symm.trans hq1
          cases hq'.symm.trans hq2
          intro H locs ls hH hl hlo
          have hst0 : st.drop k0 = .ref a0 :: st' := hst0
          have hst : st.map (mtr (mad N0 sp)) = (((st.take k0).reverse).map (mtr (mad N0 sp))).reverse ++ .ref (mad N0 sp a0) :: st'.map (mtr (mad N0 sp)) := by
            rw [mrev]
            conv => lhs; rw [mtd hst0]
            rw [List.map_append]
            rfl
          have hn : (((st.take k0).reverse).map (mtr (mad N0 sp))).length = k0 := by simp; omega
          have hcat : 2 * (F0 m pc ls (st.map (mtr (mad N0 sp)))).monitorRoom + ((st'.map (mtr (mad N0 sp))).map fun v => v.category).sum ≤ 8 := lv_room (by rw [mcat_tr]; exact hcat)
          have hwq : mwq q' = Cond.code q'.1.1 q'.1.2.1 q'.1.2.2.1 none :: mtb := by unfold mwq; rw [hret]
          rcases hlink with hlink | hlink
          · exact mback hl hlo (by omega) (by omega) (va_runI (mCFix C) (hM hce) ⟨callB_of k0 hw (mwq_good hce) hwq rfl rfl (hw _ hce.2.1) (hw _ hlink) ⟨hce.2.2.2.1, hce.2.2.2.2.1, hpar⟩ (hroom hce), hnm, hw _ hins⟩ ⟨mblind, pre H hH⟩ rfl hn hl.2.1 hst hcat hd (by omega)) k
          · exact mback hl hlo (by omega) (by omega) (va_runIN (mCFix C) (hM hce) ⟨va_cnB k0 hw (mwq_good hce) hwq rfl rfl (hG.2.1 _ hlink rfl) (hw _ hce.2.1) ⟨hce.2.2.2.1, hce.2.2.2.2.1, hpar⟩ (hroom hce), hnm, hw _ hins⟩ ⟨mblind, pre H hH⟩ rfl hn hl.2.1 hst hcat hd (by omega)) k
        next => cases h
      next => rename_i hg _; cases hg
      next => cases h
    · simp only [ms] at h
      split at h
      next => rename_i hg _; cases hg
      next => split at h <;> cases h
      next => cases h
  | _ =>
    rcases ms_calls h with ⟨z, rfl⟩ | ⟨z, rfl⟩ | ⟨z, rfl⟩ <;> simp [mLk] at hk
end SD

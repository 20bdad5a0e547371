theorem ms_rets {i : Instr} {g : List Nat} {L : mL} {st : List Value} {M : mM} {y : Option Value} (h : ms i g L st M = some (.inr (.inl y))) : i = .ireturn ∨ i = .lreturn ∨ i = .areturn ∨ i = .return_ := by
  cases i with
  | ireturn => exact Or.inl rfl
  | lreturn => exact Or.inr (Or.inl rfl)
  | areturn => exact Or.inr (Or.inr (Or.inl rfl))
  | return_ => exact Or.inr (Or.inr (Or.inr rfl))
  | _ =>
    simp only [ms, mnx, mjp, mbr, mcopy] at h <;> (repeat' split at h) <;> cases h
section SF
variable {N0 : Nat} {sp : Nat → Nat} {D : va_G} {cA : Nat → ClassId} {H00 : Heap} {len : Nat} {xs : Nat → Int32} {tb : mB} {l : Launch}
/-- a method's end, for its contract -/
theorem j_ret {q : mT} {p : Program} {e : Env} {R : Room} {s : State} {m : MethodId} {args : Array Value} {below : List Frame} {meth : Method} {c : Code} {b0 b1 pc : Nat} (C : mCx N0 sp D cA H00 len xs q p R s m args meth c b0) {i' i : Instr} {n : Nat} {g : List Nat} (hd : decode q.1.2.1 pc = .ok (i', n)) (hk : mLk tb q pc i' n i g) {L : mL} {st : List Value} {M : mM} {v : Option Value} (h : ms i g L st M = some (.inr (.inl v))) :
    mJ N0 sp D cA H00 len xs p l e R s m args below meth c (MQ below (mQc N0 sp D cA H00 len xs v M) args s (M.2.1 - b0) (M.2.2 - b1) (mA N0)) b0 b1 M L st pc := by
  have hlocks := C.2.2.2.2.2.2.1
  have hrt := C.2.2.1
  cases i' with
  | ireturn =>
    obtain ⟨rfl, rfl, ⟨rfl, hr⟩ | ⟨rfl, hr⟩⟩ := hk
    · simp only [ms] at h
      split at h
      next => cases h; exact fun H locs ls hH hl hlo => W.iret C.1 C.2.1 (hrt.trans hr) (fun t ht _ => ⟨rfl, by rw [ht]; exact hH⟩) hlo hd hlocks
      next => contradiction
      next => cases h
    · simp only [ms] at h
      split at h
      next => contradiction
      next =>
        split at h
        next hv =>
          cases h
          exact fun H locs ls hH hl hlo => W.zret C.1 C.2.1 (hrt.trans hr) (by rcases hv with rfl | rfl <;> decide) (fun t ht _ => ⟨rfl, by rw [ht]; exact hH⟩) hlo hd hlocks
        next => cases h
      next => cases h
  | lreturn =>
    obtain ⟨rfl, rfl, hr⟩ := hk
    simp only [ms] at h
    split at h
    next => cases h; exact fun H locs ls hH hl hlo => W.lret C.1 C.2.1 (hrt.trans hr) (fun t ht _ => ⟨rfl, by rw [ht]; exact hH⟩) hlo hd hlocks
    next => cases h
  | areturn =>
    obtain ⟨rfl, rfl, Cc, hr, hc⟩ := hk
    have hrt' : (∃ n, Cc = .object n) ∨ ∃ t, Cc = .array t := by
      cases Cc <;> simp [mtc] at hc ⊢
    simp only [ms] at h
    split at h
    next => cases h; exact fun H locs ls hH hl hlo => W.aret C.1 C.2.1 (hrt.trans hr) hrt' (Or.inr ⟨_, rfl⟩) (fun t ht _ => ⟨rfl, by rw [ht]; exact hH⟩) hlo hd hlocks
    next => cases h; exact fun H locs ls hH hl hlo => W.aret C.1 C.2.1 (hrt.trans hr) hrt' (Or.inl rfl) (fun t ht _ => ⟨rfl, by rw [ht]; exact hH⟩) hlo hd hlocks
    next => cases h
  | return_ =>
    obtain ⟨rfl, rfl, hr⟩ := hk
    simp only [ms] at h
    split at h
    next => cases h; exact fun H locs ls hH hl hlo => W.vret C.1 C.2.1 (hrt.trans hr) (fun t ht _ => ⟨rfl, by rw [ht]; exact hH⟩) hlo hd hlocks
    next => cases h
  | _ =>
    rcases ms_rets h with rfl | rfl | rfl | rfl <;> simp [mLk] at hk
/-- the small machine's runs are the machine's -/
theorem mSnd (OK : mOK tb) : ∀ (f d μ : Nat) (q : mT) (is : List mI) (pc : Nat) (L : mL) (st : List Value) (M : mM) (r : Option Value × mM), tb[μ]? = some q → mFit tb q pc is → mrun tb f d μ is L st M = some r →
    ∀ {p : Program} {e : Env} {R : Room} {s : State} {m : MethodId} {args : Array Value} {below : List Frame} {meth : Method} {c : Code} {Q : State → Prop} {b0 b1 : Nat}, mCx N0 sp D cA H00 len xs q p R s m args meth c b0 → b0 ≤ M.2.1 → b1 ≤ M.2.2 → d + 1 ≤ R.frames → 64 * (d + 1) ≤ R.locals → r.2.2.1 - b0 ≤ R.cells → r.2.2.2 - b1 ≤ R.slots →
    (∀ (i' i : Instr) (n : Nat) (g : List Nat) (L' : mL) (st' : List Value) (pc' : Nat), decode q.1.2.1 pc' = .ok (i', n) → mLk tb q pc' i' n i g → ms i g L' st' r.2 = some (.inr (.inl r.1)) → mJ N0 sp D cA H00 len xs p l e R s m args below meth c Q b0 b1 r.2 L' st' pc') →
    mJ N0 sp D cA H00 len xs p l e R s m args below meth c Q b0 b1 M L st pc
  | 0, _, _, _, _, _, _, _, _, _, _, _, h => by cases h
  | f + 1, d, μ, q, [], _, _, _, _, _, _, _, h => by cases h
  | f + 1, d, μ, q, (i, g) :: is, pc, L, st, M, r, hq, hF, h => by
    intro C hb hb1 hfr hlc hc hs hret
    obtain ⟨i', n, hd, hk, hF'⟩ := hF
    unfold mrun at h
    split at h
    next L' st' M' hm =>
      have h1 := ms_mono hm
      have h2 := mrun_mono f d μ is L' st' M' r h
      exact ms_next C hd hk hm hb hb1 (by omega) (by omega) (mSnd OK f d μ q is (pc + n) L' st' M' r hq hF' h C (by omega) (by omega) hfr hlc hc hs hret)
    next L' st' M' t hm =>
      have h1 := ms_mono hm
      have h2 := mrun_mono f d μ _ L' st' M' r h
      exact ms_next C hd hk hm hb hb1 (by omega) (by omega) (mSnd OK f d μ q _ t L' st' M' r hq (mFit_mat OK hq) h C (by omega) (by omega) hfr hlc hc hs hret)
    next v hm =>
      cases h
      exact hret i' i n g L st pc hd hk hm
    next μ' as st' hm =>
      split at h
      next => cases h
      next d' =>
        split at h
        next hl =>
          split at h
          next v M' hr =>
            have h1 : M.2.1 ≤ M'.2.1 ∧ M.2.2 ≤ M'.2.2 := mrun_mono f d' μ' _ _ _ M (v, M') hr
            have h2 := mrun_mono f (d' + 1) μ is L _ M' r h
            have hq' : ∃ q', tb[μ']? = some q' := by
              cases hx : tb[μ']? with
              | some q' => exact ⟨q', rfl⟩
              | none =>
                exfalso
                have hz : mat tb μ' 0 = [] := by unfold mat; rw [hx]
                rw [hz] at hr
                cases f <;> cases hr
            obtain ⟨q', hq'⟩ := hq'
            have hmx : mmx tb μ' = q'.1.2.2.1 := by unfold mmx; rw [hq']
            rw [hmx] at hl
            refine j_call C hd hk hm hq' (d := d') (mc := M'.2.1 - M.2.1) (ms' := M'.2.2 - M.2.2) ?_ (by omega) (by omega) hb hb1 (by omega) (by omega) (by omega) (by omega) (mSnd OK f (d' + 1) μ q is (pc + n) L _ M' r hq hF' h C (by omega) (by omega) hfr hlc hc hs hret)
            intro hce
            refine Met.ofW (cc := q'.1.2.1) (maxL := q'.1.2.2.1) (ret := q'.1.2.2.2) hce.2.2.1 rfl ?_
            intro p e s m args below meth c s₁ B hml hv
            obtain ⟨rfl, hG, hH⟩ := hv
            rw [lg_entry_eq]
            have hts := atoms_spec (ws := mwq q') B.pre
            have C' : mCx N0 sp D cA H00 len xs q' p (mrm d' (M'.2.1 - M.2.1) (M'.2.2 - M.2.2)) s m (as.map (mtr (mad N0 sp))).toArray meth c M.2.1 :=
              ⟨B.exec, B.bytes, B.returns, hml, findClass_of_methodNamed B.named, fun w hw => hts w (List.mem_cons_of_mem _ hw), B.notSynchronized, fun hn => (name_of_methodNamed B.named B.method).1.trans hn, hG, hH.2.2.2, hH.2.2.1, hH.1.1, Nat.succ_le_succ (Nat.zero_le _), by show 64 ≤ 64 * (d' + 1); omega⟩
            have hJ := mSnd OK f d' μ' q' _ 0 (ment tb μ' as) [] M (v, M') hq' (mFit_mat OK hq') hr (below := below) (e := e) (Q := MQ below (mQc N0 sp D cA H00 len xs v M') (as.map (mtr (mad N0 sp))).toArray s (M'.2.1 - M.2.1) (M'.2.2 - M.2.2) (mA N0)) (b1 := M.2.2) C' (Nat.le_refl _) (Nat.le_refl _) (Nat.le_refl _) (Nat.le_refl _) (Nat.le_refl _) (Nat.le_refl _) (fun i' i n g L' st' pc' hd hk hm => j_ret C' hd hk hm)
            have := hJ s.heap [] _ hH (by rw [hml]; exact mLs_entry hq' hl) (fun x hx => by cases hx)
            rw [Nat.sub_self, Nat.sub_self] at this
            exact this
          next => cases h
        next => cases h
    next => cases h
end SF

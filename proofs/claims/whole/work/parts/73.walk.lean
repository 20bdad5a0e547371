/-! The class's walker: formulas worked out on the held numbers. -/
/-- the formula's words from i on spell the tree -/
def Wd (W : Nat → Int32) : Tr → Nat → Prop
  | .num x => fun i => W i = (if x < 256 then nI (8 * 256 + x) else nI (10 * 256 + 0))
  | .var v => fun i => W i = nI (9 * 256 + v)
  | .mulR a _ => fun i => Wd W a i ∧ W (i + nwd a) = nI (11 * 256 + 0)
  | .mulL k (.add a b) => fun i => Wd W a i ∧ Wd W b (i + nwd a) ∧ W (i + nwd a + nwd b) = nI (k * 256 + 0)
  | _ => fun _ => False
def Wlk (M : mM) (G : Nat → Nat → Int64) (e t : Int32) : Prop :=
  M.1 2 = some (cJ 8 mf2) ∧ M.1 52 = some (cO 9 [.ref 53, .ref 54, .ref 56, .int e, .int t]) ∧
  (∃ fH : Nat → Option Nat, M.1 53 = some (cR 2 19 fH) ∧ ∀ i, i < 19 → fH i = some (74 + 2 * i)) ∧ vrs M 56 G ∧ (∃ f, slc M 54 f) ∧ ∀ i, i < 19 → ∃ f, slc M (74 + 2 * i) f
def WOut (M M' : mM) : Prop := (∀ j, (j < 52 ∨ 111 < j) → M'.1 j = M.1 j) ∧ M'.2 = M.2
theorem wout_0 {M : mM} : WOut M M := ⟨fun _ _ => rfl, rfl⟩
theorem wout_mu {M M' : mM} {k : Nat} {c : mE} (h : WOut M M') (h1 : 52 ≤ k) (h2 : k ≤ 111) : WOut M (mu M' k c) := by
  refine ⟨fun j hj => ?_, h.2⟩
  rw [mu_1, if_neg (by omega)]
  exact h.1 j hj
theorem wout_t {M M' M'' : mM} (h : WOut M M') (h' : WOut M' M'') : WOut M M'' := ⟨fun j hj => by rw [h'.1 j hj, h.1 j hj], by rw [h'.2, h.2]⟩
section WK
variable {M : mM} {G : Nat → Nat → Int64} {e t : Int32}
theorem wk_2 (h : Wlk M G e t) : M.1 2 = some (cJ 8 mf2) := h.1
theorem wk_52 (h : Wlk M G e t) : M.1 52 = some (cO 9 [.ref 53, .ref 54, .ref 56, .int e, .int t]) := h.2.1
theorem wk_o (h : Wlk M G e t) : (3 ≤ 52 ∧ isO 9 (M.1 52) = true) := ⟨by decide, by rw [wk_52 h]; rfl⟩
theorem wk_v (h : Wlk M G e t) : vrs M 56 G := h.2.2.2.1
theorem wk_ov (h : Wlk M G e t) : (3 ≤ 56 ∧ isO 8 (M.1 56) = true) := ⟨by decide, by rw [(wk_v h).2.1]; rfl⟩
theorem wk_kept {M' : mM} (h : Wlk M G e t) (h2 : M'.1 2 = M.1 2) (hk : ∀ j, 52 ≤ j → j < 112 → M'.1 j = M.1 j) : Wlk M' G e t := by
  obtain ⟨a1, a2, ⟨fH, a3, a4⟩, a5, ⟨f, a6⟩, a7⟩ := h
  exact ⟨by rw [h2]; exact a1, by rw [hk _ (by omega) (by omega)]; exact a2, ⟨fH, by rw [hk _ (by omega) (by omega)]; exact a3, a4⟩, vrs_kept a5 (fun j _ _ => hk j (by omega) (by omega)), ⟨f, slc_kept a6 (hk _ (by omega) (by omega)) (hk _ (by omega) (by omega))⟩, fun i hi => (a7 i hi).imp fun f hf => slc_kept hf (hk _ (by omega) (by omega)) (hk _ (by omega) (by omega))⟩
theorem wk_held (h : Wlk M G e t) {i : Nat} (hi : i < 19) {q : Nat → Int64} : Wlk (mu M (74 + 2 * i + 1) (cJ 8 q)) G e t := by
  obtain ⟨a1, a2, ⟨fH, a3, a4⟩, a5, ⟨f, a6⟩, a7⟩ := h
  have hk : ∀ j, j ≠ 74 + 2 * i + 1 → (mu M (74 + 2 * i + 1) (cJ 8 q)).1 j = M.1 j := fun j hj => by rw [mu_1, if_neg hj]
  refine ⟨by rw [hk _ (by omega)]; exact a1, by rw [hk _ (by omega)]; exact a2, ⟨fH, by rw [hk _ (by omega)]; exact a3, a4⟩, vrs_kept a5 (fun j _ _ => hk j (by omega)), ⟨f, slc_kept a6 (hk _ (by omega)) (hk _ (by omega))⟩, fun n hn => ?_⟩
  by_cases c : n = i
  · subst c
    obtain ⟨g, b1, b2, b3⟩ := a7 n hn
    exact ⟨q, b1, by rw [hk _ (by omega)]; exact b2, by rw [mu_1, if_pos rfl]⟩
  · exact (a7 n hn).imp fun f hf => slc_kept hf (hk _ (by omega)) (hk _ (by omega))
theorem wk_come (h : Wlk M G e t) {q : Nat → Int64} : Wlk (mu M 55 (cJ 8 q)) G e t := by
  obtain ⟨a1, a2, ⟨fH, a3, a4⟩, a5, ⟨f, a6⟩, a7⟩ := h
  have hk : ∀ j, j ≠ 55 → (mu M 55 (cJ 8 q)).1 j = M.1 j := fun j hj => by rw [mu_1, if_neg hj]
  exact ⟨by rw [hk _ (by omega)]; exact a1, by rw [hk _ (by omega)]; exact a2, ⟨fH, by rw [hk _ (by omega)]; exact a3, a4⟩, vrs_kept a5 (fun j _ _ => hk j (by omega)), ⟨q, by decide, by rw [hk _ (by omega)]; exact a6.2.1, by rw [mu_1, if_pos rfl]⟩, fun n hn => (a7 n hn).imp fun f hf => slc_kept hf (hk _ (by omega)) (hk _ (by omega))⟩
theorem wk_vr (h : Wlk M G e t) {v : Nat} (hv : v < 8) {q : Nat → Int64} : Wlk (mu M (58 + 2 * v + 1) (cJ 8 q)) (fun j => if j = v then q else G j) e t := by
  obtain ⟨a1, a2, ⟨fH, a3, a4⟩, a5, ⟨f, a6⟩, a7⟩ := h
  have hk : ∀ j, j ≠ 58 + 2 * v + 1 → (mu M (58 + 2 * v + 1) (cJ 8 q)).1 j = M.1 j := fun j hj => by rw [mu_1, if_neg hj]
  refine ⟨by rw [hk _ (by omega)]; exact a1, by rw [hk _ (by omega)]; exact a2, ⟨fH, by rw [hk _ (by omega)]; exact a3, a4⟩, ?_, ⟨f, slc_kept a6 (hk _ (by omega)) (hk _ (by omega))⟩, fun n hn => (a7 n hn).imp fun f hf => slc_kept hf (hk _ (by omega)) (hk _ (by omega))⟩
  obtain ⟨b1, b2, ⟨fA, b3, b4⟩, b5⟩ := a5
  refine ⟨b1, by rw [hk _ (by omega)]; exact b2, ⟨fA, by rw [hk _ (by omega)]; exact b3, b4⟩, fun n hn => ?_⟩
  by_cases c : n = v
  · subst c
    obtain ⟨c1, c2, c3⟩ := b5 n hn
    simp only [if_true]
    exact ⟨c1, by rw [hk _ (by omega)]; exact c2, by rw [mu_1, if_pos (by omega)]⟩
  · simp only [if_neg c]
    exact slc_kept (b5 n hn) (hk _ (by omega)) (hk _ (by omega))
theorem wk_obj (h : Wlk M G e t) {e' t' : Int32} : Wlk (mu M 52 (cO 9 [.ref 53, .ref 54, .ref 56, .int e', .int t'])) G e' t' := by
  obtain ⟨a1, a2, ⟨fH, a3, a4⟩, a5, ⟨f, a6⟩, a7⟩ := h
  have hk : ∀ j, j ≠ 52 → (mu M 52 (cO 9 [.ref 53, .ref 54, .ref 56, .int e', .int t'])).1 j = M.1 j := fun j hj => by rw [mu_1, if_neg hj]
  exact ⟨by rw [hk _ (by omega)]; exact a1, by rw [mu_1, if_pos rfl], ⟨fH, by rw [hk _ (by omega)]; exact a3, a4⟩, vrs_kept a5 (fun j _ _ => hk j (by omega)), ⟨f, slc_kept a6 (hk _ (by omega)) (hk _ (by omega))⟩, fun n hn => (a7 n hn).imp fun f hf => slc_kept hf (hk _ (by omega)) (hk _ (by omega))⟩
theorem wk_at {i : Nat} (h : Wlk M G e t) (hi : i < 19) : okR (M.1 53) (nI i) = true ∧ va_rf (rdR (M.1 53) (nI i)) = .ref (74 + 2 * i) := by
  obtain ⟨a1, a2, ⟨fH, a3, a4⟩, a5, ⟨f, a6⟩, a7⟩ := h
  have hin : vp_in (nI i) 19 := vp_in_nI hi (by decide)
  rw [a3]
  refine ⟨(okR_2).mpr hin, ?_⟩
  rw [rdR_2, nI_clamp (by omega), a4 i hi]
  rfl
end WK
/-- the held numbers below h -/
def Hld (M : mM) (h : Nat) (Z : Nat → Nat → BitVec 8) : Prop := ∀ i, i < h → ∃ f, slc M (74 + 2 * i) f ∧ Cut f (Z i)
theorem hld_set {M : mM} {n h : Nat} {Z : Nat → Nat → BitVec 8} {z : Nat → BitVec 8} {f q : Nat → Int64} (H : ∀ i, i < n → i ≠ h → ∃ f, slc M (74 + 2 * i) f ∧ Cut f (Z i)) (hs : slc M (74 + 2 * h) f) (hq : Cut q z) : Hld (mu M (74 + 2 * h + 1) (cJ 8 q)) n (fun i => if i = h then z else Z i) := by
  intro i hi
  have hk : ∀ j, j ≠ 74 + 2 * h + 1 → (mu M (74 + 2 * h + 1) (cJ 8 q)).1 j = M.1 j := fun j hj => by rw [mu_1, if_neg hj]
  by_cases c : i = h
  · subst c
    exact ⟨q, ⟨hs.1, by rw [hk _ (by omega)]; exact hs.2.1, by rw [mu_1, if_pos rfl]⟩, by simp only [if_true]; exact hq⟩
  · obtain ⟨g, g1, g2⟩ := H i hi c
    exact ⟨g, slc_kept g1 (hk _ (by omega)) (hk _ (by omega)), by simp only [if_neg c]; exact g2⟩
theorem shr8 {k x : Nat} (hk : k < 16) (hx : x < 256) : nI (k * 256 + x) >>> ((8 : Int32) &&& 31) = nI k := by
  apply qb_ext
  intro j hj
  have e8 : ((8 : Int32) &&& 31) = nI 8 := by decide
  rw [e8]
  unfold qb
  rw [Int32.toBitVec_shiftRight]
  have e9 : (nI 8).toBitVec.smod 32 = 8#32 := by decide
  rw [e9]
  have e10 : (nI (k * 256 + x)).toBitVec = BitVec.ofNat 32 (k * 256 + x) := rfl
  rw [e10]
  show ((BitVec.ofNat 32 (k * 256 + x)).sshiftRight (8#32).toNat).getLsbD j = (BitVec.ofNat 32 k).getLsbD j
  rw [BitVec.sshiftRight_eq_of_msb_false, BitVec.getLsbD_ushiftRight, BitVec.getLsbD_ofNat, BitVec.getLsbD_ofNat]
  · show (decide (8 + j < 32) && (k * 256 + x).testBit (8 + j)) = (decide (j < 32) && k.testBit j)
    have : (k * 256 + x).testBit (8 + j) = k.testBit j := by
      rw [← Nat.testBit_shiftRight, Nat.shiftRight_eq_div_pow]
      congr 1
      omega
    rw [this]
    by_cases c : 8 + j < 32
    · simp [c, hj]
    · have : k.testBit j = false := by
        apply Nat.testBit_lt_two_pow
        calc k < 2 ^ 4 := by omega
          _ ≤ 2 ^ j := Nat.pow_le_pow_right (by decide) (by omega)
      simp [c, this]
  · rw [BitVec.msb_eq_false_iff_two_mul_lt, BitVec.toNat_ofNat, Nat.mod_eq_of_lt (by omega)]
    omega
theorem and8 {k x : Nat} (hx : x < 256) : nI (k * 256 + x) &&& 255 = nI x := by
  rw [and255, Nat.add_comm, Nat.add_mul_mod_self_right, Nat.mod_eq_of_lt hx]
theorem r_hold8 {d i x : Nat} {M : mM} {f : Nat → Int64} (hs : slc M (74 + 2 * i) f) : Rt (d + 1) 71 [.ref 52, .ref (74 + 2 * i), .int 8, .int (nI x)] M none (mu M (74 + 2 * i + 1) (cJ 8 (lfill (pall (nI x)) f 8))) := by
  refine rt_of (Nat.le_of_ble_eq_true rfl) ?_
  rw [a71_0, en71]
  unfold k71_0
  have ho : 3 ≤ 74 + 2 * i ∧ isO 6 (M.1 (74 + 2 * i)) = true := ⟨by omega, by rw [hs.2.1]; rfl⟩
  simp only [ev_iconst, ev_lconst, ev_null, ev_il0, ev_ll0, ev_al0, ev_an0, ev_il1, ev_ll1, ev_al1, ev_an1, ev_il2, ev_ll2, ev_al2, ev_an2, ev_il3, ev_ll3, ev_al3, ev_an3, ev_il4, ev_ll4, ev_al4, ev_an4, ev_il5, ev_ll5, ev_al5, ev_an5, ev_il6, ev_ll6, ev_al6, ev_an6, ev_il7, ev_ll7, ev_al7, ev_an7, ev_il8, ev_ll8, ev_al8, ev_an8, ev_il9, ev_ll9, ev_al9, ev_an9, ev_il10, ev_ll10, ev_al10, ev_an10, ev_il11, ev_ll11, ev_al11, ev_an11, ev_il12, ev_ll12, ev_al12, ev_an12, ev_il13, ev_ll13, ev_al13, ev_an13, ev_inc0, ev_is0, ev_as0, ev_asN0, ev_ls0, ev_inc1, ev_is1, ev_as1, ev_asN1, ev_ls1, ev_inc2, ev_is2, ev_as2, ev_asN2, ev_ls2, ev_inc3, ev_is3, ev_as3, ev_asN3, ev_ls3, ev_inc4, ev_is4, ev_as4, ev_asN4, ev_ls4, ev_inc5, ev_is5, ev_as5, ev_asN5, ev_ls5, ev_inc6, ev_is6, ev_as6, ev_asN6, ev_ls6, ev_inc7, ev_is7, ev_as7, ev_asN7, ev_ls7, ev_inc8, ev_is8, ev_as8, ev_asN8, ev_ls8, ev_inc9, ev_is9, ev_as9, ev_asN9, ev_ls9, ev_inc10, ev_is10, ev_as10, ev_asN10, ev_ls10, ev_inc11, ev_is11, ev_as11, ev_asN11, ev_ls11, ev_inc12, ev_is12, ev_as12, ev_asN12, ev_ls12, ev_inc13, ev_is13, ev_as13, ev_asN13, ev_ls13, lkl_none, lkl_int, lkl_ref, lkl_null, lkl_long, ev_iadd, ev_isub, ev_imul, ev_iand, ev_ior, ev_ixor, ev_ishl, ev_ishr, ev_iushr, ev_ladd, ev_lsub, ev_land, ev_lor, ev_lxor, ev_lshl, ev_lshr, ev_lushr, ev_lcmp, ev_ineg, ev_i2l, ev_l2i, ev_i2b, ev_i2s, ev_dupi, ev_dupr, ev_dup2l, ev_dup2ir, ev_popi, ev_popr, ev_idiv, ev_irem, ev_iaload, ev_laload, ev_aaload, ev_iastore, ev_lastore, ev_getf, ev_putf, ev_gets1, ev_gets2, ev_new, ev_newi, ev_newl, ev_newq, ev_goto, ev_iceq, ev_icne, ev_iclt, ev_icge, ev_icgt, ev_icle, ev_ifeq, ev_ifne, ev_iflt, ev_ifge, ev_ifgt, ev_ifle, ev_ifnullR, ev_ifnullN, ev_ifnonnullR, ev_ifnonnullN, ev_oinit, ev_ireturn, ev_zret0, ev_zret1, ev_lreturn, ev_areturn, ev_areturnN, ev_return, ev_mmax, ev_mmin, not_true_eq_false, not_false_eq_true, okI_c, rdI_c, wrI_c, okJ_c, rdJ_c, wrJ_c, okR_2, okR_3, rdR_2, rdR_3, okO_c, rdO_c, wrO_c, isO_c, fget, fset, mfit, mu_1, and_true, true_and, and_self, if_true, if_false, ite_true, ite_false, List.length_cons, List.length_nil, ci_m1005, ci_m1004, ci_m1003, ci_m1002, ci_m1001, ci_m10, ci_m1, ci_0, ci_1, ci_2, ci_3, ci_4, ci_5, ci_6, ci_7, ci_8, ci_9, ci_10, ci_11, ci_12, ci_13, ci_16, ci_17, ci_19, ci_20, ci_30, ci_32, ci_35, ci_38, ci_40, ci_41, ci_42, ci_43, ci_45, ci_48, ci_57, ci_58, ci_59, ci_60, ci_61, ci_63, ci_64, ci_91, ci_93, ci_97, ci_101, ci_104, ci_110, ci_115, ci_119, ci_123, ci_124, ci_125, ci_126, ci_127, ci_136, ci_160, ci_255, ci_256, ci_512, ci_900, ci_5120, ci_65536, cl_m9187201950435737472, cl_m72340172838076674, cl_m1, cl_0, cl_1, cl_3, cl_4, cl_6, cl_7, cl_8, cl_30, cl_255, cl_4294967295, cl_72340172838076673, cl_1085102592571150095, cl_3689348814741910323, cl_6148914691236517205, cl_9187201950435737471, mcat_n, mcat_i, mcat_l, mcat_r, mcat_u, tl_s, tl_n, rf_s, rf_n, Nat.reduceAdd, Nat.reduceLT, Nat.reduceLeDiff, Nat.reduceMul, Nat.reduceEqDiff, ev_vc1 (r_setAll (d := d) hs) ⟨ho, mc0⟩, a71_39, k71_39]
theorem r_hold9 {d i x : Nat} {M : mM} {f : Nat → Int64} {G : Nat → Nat → Int64} {e t : Int32} (hw : Wlk M G e t) (hs : slc M (74 + 2 * i) f) (hx : x < 8) : Rt (d + 1) 71 [.ref 52, .ref (74 + 2 * i), .int 9, .int (nI x)] M none (mu M (74 + 2 * i + 1) (cJ 8 (lfill (G x) f 8))) := by
  refine rt_of (Nat.le_of_ble_eq_true rfl) ?_
  rw [a71_0, en71]
  unfold k71_0
  have ho : 3 ≤ 74 + 2 * i ∧ isO 6 (M.1 (74 + 2 * i)) = true := ⟨by omega, by rw [hs.2.1]; rfl⟩
  simp only [ev_iconst, ev_lconst, ev_null, ev_il0, ev_ll0, ev_al0, ev_an0, ev_il1, ev_ll1, ev_al1, ev_an1, ev_il2, ev_ll2, ev_al2, ev_an2, ev_il3, ev_ll3, ev_al3, ev_an3, ev_il4, ev_ll4, ev_al4, ev_an4, ev_il5, ev_ll5, ev_al5, ev_an5, ev_il6, ev_ll6, ev_al6, ev_an6, ev_il7, ev_ll7, ev_al7, ev_an7, ev_il8, ev_ll8, ev_al8, ev_an8, ev_il9, ev_ll9, ev_al9, ev_an9, ev_il10, ev_ll10, ev_al10, ev_an10, ev_il11, ev_ll11, ev_al11, ev_an11, ev_il12, ev_ll12, ev_al12, ev_an12, ev_il13, ev_ll13, ev_al13, ev_an13, ev_inc0, ev_is0, ev_as0, ev_asN0, ev_ls0, ev_inc1, ev_is1, ev_as1, ev_asN1, ev_ls1, ev_inc2, ev_is2, ev_as2, ev_asN2, ev_ls2, ev_inc3, ev_is3, ev_as3, ev_asN3, ev_ls3, ev_inc4, ev_is4, ev_as4, ev_asN4, ev_ls4, ev_inc5, ev_is5, ev_as5, ev_asN5, ev_ls5, ev_inc6, ev_is6, ev_as6, ev_asN6, ev_ls6, ev_inc7, ev_is7, ev_as7, ev_asN7, ev_ls7, ev_inc8, ev_is8, ev_as8, ev_asN8, ev_ls8, ev_inc9, ev_is9, ev_as9, ev_asN9, ev_ls9, ev_inc10, ev_is10, ev_as10, ev_asN10, ev_ls10, ev_inc11, ev_is11, ev_as11, ev_asN11, ev_ls11, ev_inc12, ev_is12, ev_as12, ev_asN12, ev_ls12, ev_inc13, ev_is13, ev_as13, ev_asN13, ev_ls13, lkl_none, lkl_int, lkl_ref, lkl_null, lkl_long, ev_iadd, ev_isub, ev_imul, ev_iand, ev_ior, ev_ixor, ev_ishl, ev_ishr, ev_iushr, ev_ladd, ev_lsub, ev_land, ev_lor, ev_lxor, ev_lshl, ev_lshr, ev_lushr, ev_lcmp, ev_ineg, ev_i2l, ev_l2i, ev_i2b, ev_i2s, ev_dupi, ev_dupr, ev_dup2l, ev_dup2ir, ev_popi, ev_popr, ev_idiv, ev_irem, ev_iaload, ev_laload, ev_aaload, ev_iastore, ev_lastore, ev_getf, ev_putf, ev_gets1, ev_gets2, ev_new, ev_newi, ev_newl, ev_newq, ev_goto, ev_iceq, ev_icne, ev_iclt, ev_icge, ev_icgt, ev_icle, ev_ifeq, ev_ifne, ev_iflt, ev_ifge, ev_ifgt, ev_ifle, ev_ifnullR, ev_ifnullN, ev_ifnonnullR, ev_ifnonnullN, ev_oinit, ev_ireturn, ev_zret0, ev_zret1, ev_lreturn, ev_areturn, ev_areturnN, ev_return, ev_mmax, ev_mmin, not_true_eq_false, not_false_eq_true, okI_c, rdI_c, wrI_c, okJ_c, rdJ_c, wrJ_c, okR_2, okR_3, rdR_2, rdR_3, okO_c, rdO_c, wrO_c, isO_c, fget, fset, mfit, mu_1, and_true, true_and, and_self, if_true, if_false, ite_true, ite_false, List.length_cons, List.length_nil, ci_m1005, ci_m1004, ci_m1003, ci_m1002, ci_m1001, ci_m10, ci_m1, ci_0, ci_1, ci_2, ci_3, ci_4, ci_5, ci_6, ci_7, ci_8, ci_9, ci_10, ci_11, ci_12, ci_13, ci_16, ci_17, ci_19, ci_20, ci_30, ci_32, ci_35, ci_38, ci_40, ci_41, ci_42, ci_43, ci_45, ci_48, ci_57, ci_58, ci_59, ci_60, ci_61, ci_63, ci_64, ci_91, ci_93, ci_97, ci_101, ci_104, ci_110, ci_115, ci_119, ci_123, ci_124, ci_125, ci_126, ci_127, ci_136, ci_160, ci_255, ci_256, ci_512, ci_900, ci_5120, ci_65536, cl_m9187201950435737472, cl_m72340172838076674, cl_m1, cl_0, cl_1, cl_3, cl_4, cl_6, cl_7, cl_8, cl_30, cl_255, cl_4294967295, cl_72340172838076673, cl_1085102592571150095, cl_3689348814741910323, cl_6148914691236517205, cl_9187201950435737471, mcat_n, mcat_i, mcat_l, mcat_r, mcat_u, tl_s, tl_n, rf_s, rf_n, Nat.reduceAdd, Nat.reduceLT, Nat.reduceLeDiff, Nat.reduceMul, Nat.reduceEqDiff, wk_52 hw, a71_14, k71_14, show ¬ (9 : Int32) = 8 by decide, ev_vc1 (r_slices (d := d) (wk_v hw) hx) ⟨wk_ov hw, mcr⟩, ev_vc1 (r_copyOf (d := d) hs ((wk_v hw).2.2.2 x hx)) ⟨ho, mc0⟩, a71_39, k71_39]
theorem r_hold10 {d i x : Nat} {M : mM} {f : Nat → Int64} {G : Nat → Nat → Int64} {e t : Int32} (hw : Wlk M G e t) (hs : slc M (74 + 2 * i) f) : Rt (d + 1) 71 [.ref 52, .ref (74 + 2 * i), .int 10, .int (nI x)] M none (mu M (74 + 2 * i + 1) (cJ 8 (lfill mf2 f 8))) := by
  refine rt_of (Nat.le_of_ble_eq_true rfl) ?_
  rw [a71_0, en71]
  unfold k71_0
  have ho : 3 ≤ 74 + 2 * i ∧ isO 6 (M.1 (74 + 2 * i)) = true := ⟨by omega, by rw [hs.2.1]; rfl⟩
  simp only [ev_iconst, ev_lconst, ev_null, ev_il0, ev_ll0, ev_al0, ev_an0, ev_il1, ev_ll1, ev_al1, ev_an1, ev_il2, ev_ll2, ev_al2, ev_an2, ev_il3, ev_ll3, ev_al3, ev_an3, ev_il4, ev_ll4, ev_al4, ev_an4, ev_il5, ev_ll5, ev_al5, ev_an5, ev_il6, ev_ll6, ev_al6, ev_an6, ev_il7, ev_ll7, ev_al7, ev_an7, ev_il8, ev_ll8, ev_al8, ev_an8, ev_il9, ev_ll9, ev_al9, ev_an9, ev_il10, ev_ll10, ev_al10, ev_an10, ev_il11, ev_ll11, ev_al11, ev_an11, ev_il12, ev_ll12, ev_al12, ev_an12, ev_il13, ev_ll13, ev_al13, ev_an13, ev_inc0, ev_is0, ev_as0, ev_asN0, ev_ls0, ev_inc1, ev_is1, ev_as1, ev_asN1, ev_ls1, ev_inc2, ev_is2, ev_as2, ev_asN2, ev_ls2, ev_inc3, ev_is3, ev_as3, ev_asN3, ev_ls3, ev_inc4, ev_is4, ev_as4, ev_asN4, ev_ls4, ev_inc5, ev_is5, ev_as5, ev_asN5, ev_ls5, ev_inc6, ev_is6, ev_as6, ev_asN6, ev_ls6, ev_inc7, ev_is7, ev_as7, ev_asN7, ev_ls7, ev_inc8, ev_is8, ev_as8, ev_asN8, ev_ls8, ev_inc9, ev_is9, ev_as9, ev_asN9, ev_ls9, ev_inc10, ev_is10, ev_as10, ev_asN10, ev_ls10, ev_inc11, ev_is11, ev_as11, ev_asN11, ev_ls11, ev_inc12, ev_is12, ev_as12, ev_asN12, ev_ls12, ev_inc13, ev_is13, ev_as13, ev_asN13, ev_ls13, lkl_none, lkl_int, lkl_ref, lkl_null, lkl_long, ev_iadd, ev_isub, ev_imul, ev_iand, ev_ior, ev_ixor, ev_ishl, ev_ishr, ev_iushr, ev_ladd, ev_lsub, ev_land, ev_lor, ev_lxor, ev_lshl, ev_lshr, ev_lushr, ev_lcmp, ev_ineg, ev_i2l, ev_l2i, ev_i2b, ev_i2s, ev_dupi, ev_dupr, ev_dup2l, ev_dup2ir, ev_popi, ev_popr, ev_idiv, ev_irem, ev_iaload, ev_laload, ev_aaload, ev_iastore, ev_lastore, ev_getf, ev_putf, ev_gets1, ev_gets2, ev_new, ev_newi, ev_newl, ev_newq, ev_goto, ev_iceq, ev_icne, ev_iclt, ev_icge, ev_icgt, ev_icle, ev_ifeq, ev_ifne, ev_iflt, ev_ifge, ev_ifgt, ev_ifle, ev_ifnullR, ev_ifnullN, ev_ifnonnullR, ev_ifnonnullN, ev_oinit, ev_ireturn, ev_zret0, ev_zret1, ev_lreturn, ev_areturn, ev_areturnN, ev_return, ev_mmax, ev_mmin, not_true_eq_false, not_false_eq_true, okI_c, rdI_c, wrI_c, okJ_c, rdJ_c, wrJ_c, okR_2, okR_3, rdR_2, rdR_3, okO_c, rdO_c, wrO_c, isO_c, fget, fset, mfit, mu_1, and_true, true_and, and_self, if_true, if_false, ite_true, ite_false, List.length_cons, List.length_nil, ci_m1005, ci_m1004, ci_m1003, ci_m1002, ci_m1001, ci_m10, ci_m1, ci_0, ci_1, ci_2, ci_3, ci_4, ci_5, ci_6, ci_7, ci_8, ci_9, ci_10, ci_11, ci_12, ci_13, ci_16, ci_17, ci_19, ci_20, ci_30, ci_32, ci_35, ci_38, ci_40, ci_41, ci_42, ci_43, ci_45, ci_48, ci_57, ci_58, ci_59, ci_60, ci_61, ci_63, ci_64, ci_91, ci_93, ci_97, ci_101, ci_104, ci_110, ci_115, ci_119, ci_123, ci_124, ci_125, ci_126, ci_127, ci_136, ci_160, ci_255, ci_256, ci_512, ci_900, ci_5120, ci_65536, cl_m9187201950435737472, cl_m72340172838076674, cl_m1, cl_0, cl_1, cl_3, cl_4, cl_6, cl_7, cl_8, cl_30, cl_255, cl_4294967295, cl_72340172838076673, cl_1085102592571150095, cl_3689348814741910323, cl_6148914691236517205, cl_9187201950435737471, mcat_n, mcat_i, mcat_l, mcat_r, mcat_u, tl_s, tl_n, rf_s, rf_n, Nat.reduceAdd, Nat.reduceLT, Nat.reduceLeDiff, Nat.reduceMul, Nat.reduceEqDiff, a71_14, k71_14, a71_35, k71_35, show ¬ (10 : Int32) = 8 by decide, show ¬ (10 : Int32) = 9 by decide, ev_vc0 (r_setLaneNumbers (d := d) hs (wk_2 hw)) ⟨ho, mc0⟩, a71_39, k71_39]
theorem nI_m1 {h : Nat} : nI (h + 1) + (-1) = nI h := by
  rw [nI_succ, Int32.add_assoc, show (1 : Int32) + (-1) = 0 by decide, Int32.add_zero]
theorem nI_d1 {h : Nat} : nI (h + 1) - 1 = nI h := by
  rw [nI_succ, Int32.sub_eq_add_neg, Int32.add_assoc, show (1 : Int32) + (-1) = 0 by decide, Int32.add_zero]
section WO
variable {D q n p : Nat} {G : Nat → Nat → Int64} {e T : Int32} {W : Nat → Int32} {Q : Option Value → mM → Prop}
set_option maxRecDepth 100000 in
theorem wo_leaf {h i kd x : Nat} {M : mM} {qq : Nat → Int64} {l6 l7 : Option Value} (hw : Wlk M G e T) (hq : M.1 q = some (cI n W)) (hn : n ≤ 160) (hi : i < n) (hh : h < 19) (hk : kd = 8 ∨ kd = 9 ∨ kd = 10) (hx : x < 256) (hW : W i = nI (kd * 256 + x)) (hr : Rt (D + 1) 71 [.ref 52, .ref (74 + 2 * h), .int (nI kd), .int (nI x)] M none (mu M (74 + 2 * h + 1) (cJ 8 qq)))
    (c : Ev (D + 2) 70 k70_25 [some (.ref 52), some (.ref p), some (.int (nI (h + 1))), some (.ref q), some (.int (nI n)), some (.int (nI (i + 1))), some (.int (W i)), some (.int (nI kd))] [] (mu M (74 + 2 * h + 1) (cJ 8 qq)) Q) : Ev (D + 2) 70 k70_25 [some (.ref 52), some (.ref p), some (.int (nI h)), some (.ref q), some (.int (nI n)), some (.int (nI i)), l6, l7] [] M Q := by
  have g1 : ¬ nI n ≤ nI i := nI_ge hi (by omega)
  have g2 : vp_in (nI i) n := vp_in_nI hi (by omega)
  have g3 : (nI i).toNatClampNeg = i := nI_clamp (by omega)
  have g4 : (8 : Int32) ≤ nI kd := by rcases hk with rfl | rfl | rfl <;> decide
  have g5 : ¬ nI kd = 11 := by rcases hk with rfl | rfl | rfl <;> decide
  have g6 : ¬ (19 : Int32) ≤ nI h := nI_ge (b := 19) hh (by decide)
  rw [nI_succ h, nI_succ i, hW] at c
  unfold k70_25
  simp only [ev_iconst, ev_lconst, ev_null, ev_il0, ev_ll0, ev_al0, ev_an0, ev_il1, ev_ll1, ev_al1, ev_an1, ev_il2, ev_ll2, ev_al2, ev_an2, ev_il3, ev_ll3, ev_al3, ev_an3, ev_il4, ev_ll4, ev_al4, ev_an4, ev_il5, ev_ll5, ev_al5, ev_an5, ev_il6, ev_ll6, ev_al6, ev_an6, ev_il7, ev_ll7, ev_al7, ev_an7, ev_il8, ev_ll8, ev_al8, ev_an8, ev_il9, ev_ll9, ev_al9, ev_an9, ev_il10, ev_ll10, ev_al10, ev_an10, ev_il11, ev_ll11, ev_al11, ev_an11, ev_il12, ev_ll12, ev_al12, ev_an12, ev_il13, ev_ll13, ev_al13, ev_an13, ev_inc0, ev_is0, ev_as0, ev_asN0, ev_ls0, ev_inc1, ev_is1, ev_as1, ev_asN1, ev_ls1, ev_inc2, ev_is2, ev_as2, ev_asN2, ev_ls2, ev_inc3, ev_is3, ev_as3, ev_asN3, ev_ls3, ev_inc4, ev_is4, ev_as4, ev_asN4, ev_ls4, ev_inc5, ev_is5, ev_as5, ev_asN5, ev_ls5, ev_inc6, ev_is6, ev_as6, ev_asN6, ev_ls6, ev_inc7, ev_is7, ev_as7, ev_asN7, ev_ls7, ev_inc8, ev_is8, ev_as8, ev_asN8, ev_ls8, ev_inc9, ev_is9, ev_as9, ev_asN9, ev_ls9, ev_inc10, ev_is10, ev_as10, ev_asN10, ev_ls10, ev_inc11, ev_is11, ev_as11, ev_asN11, ev_ls11, ev_inc12, ev_is12, ev_as12, ev_asN12, ev_ls12, ev_inc13, ev_is13, ev_as13, ev_asN13, ev_ls13, lkl_none, lkl_int, lkl_ref, lkl_null, lkl_long, ev_iadd, ev_isub, ev_imul, ev_iand, ev_ior, ev_ixor, ev_ishl, ev_ishr, ev_iushr, ev_ladd, ev_lsub, ev_land, ev_lor, ev_lxor, ev_lshl, ev_lshr, ev_lushr, ev_lcmp, ev_ineg, ev_i2l, ev_l2i, ev_i2b, ev_i2s, ev_dupi, ev_dupr, ev_dup2l, ev_dup2ir, ev_popi, ev_popr, ev_idiv, ev_irem, ev_iaload, ev_laload, ev_aaload, ev_iastore, ev_lastore, ev_getf, ev_putf, ev_gets1, ev_gets2, ev_new, ev_newi, ev_newl, ev_newq, ev_goto, ev_iceq, ev_icne, ev_iclt, ev_icge, ev_icgt, ev_icle, ev_ifeq, ev_ifne, ev_iflt, ev_ifge, ev_ifgt, ev_ifle, ev_ifnullR, ev_ifnullN, ev_ifnonnullR, ev_ifnonnullN, ev_oinit, ev_ireturn, ev_zret0, ev_zret1, ev_lreturn, ev_areturn, ev_areturnN, ev_return, ev_mmax, ev_mmin, not_true_eq_false, not_false_eq_true, okI_c, rdI_c, wrI_c, okJ_c, rdJ_c, wrJ_c, okR_2, okR_3, rdR_2, rdR_3, okO_c, rdO_c, wrO_c, isO_c, fget, fset, mfit, mu_1, and_true, true_and, and_self, if_true, if_false, ite_true, ite_false, List.length_cons, List.length_nil, ci_m1005, ci_m1004, ci_m1003, ci_m1002, ci_m1001, ci_m10, ci_m1, ci_0, ci_1, ci_2, ci_3, ci_4, ci_5, ci_6, ci_7, ci_8, ci_9, ci_10, ci_11, ci_12, ci_13, ci_16, ci_17, ci_19, ci_20, ci_30, ci_32, ci_35, ci_38, ci_40, ci_41, ci_42, ci_43, ci_45, ci_48, ci_57, ci_58, ci_59, ci_60, ci_61, ci_63, ci_64, ci_91, ci_93, ci_97, ci_101, ci_104, ci_110, ci_115, ci_119, ci_123, ci_124, ci_125, ci_126, ci_127, ci_136, ci_160, ci_255, ci_256, ci_512, ci_900, ci_5120, ci_65536, cl_m9187201950435737472, cl_m72340172838076674, cl_m1, cl_0, cl_1, cl_3, cl_4, cl_6, cl_7, cl_8, cl_30, cl_255, cl_4294967295, cl_72340172838076673, cl_1085102592571150095, cl_3689348814741910323, cl_6148914691236517205, cl_9187201950435737471, mcat_n, mcat_i, mcat_l, mcat_r, mcat_u, tl_s, tl_n, rf_s, rf_n, Nat.reduceAdd, Nat.reduceLT, Nat.reduceLeDiff, Nat.reduceMul, Nat.reduceEqDiff, hq, g1, g2, g3, hW, shr8 (show kd < 16 by omega) hx, and8 hx, g4, g5, g6, wk_52 hw, (wk_at hw hh).1, (wk_at hw hh).2, a70_82, k70_82, a70_108, k70_108, a70_25, ev_vc3 hr ⟨wk_o hw, mc0⟩, k70_135]
  exact c
set_option maxRecDepth 100000 in
theorem wo_not {h i : Nat} {M : mM} {f : Nat → Int64} {l6 l7 : Option Value} (hw : Wlk M G e T) (hq : M.1 q = some (cI n W)) (hn : n ≤ 160) (hi : i < n) (hh : h < 19) (hW : W i = nI (11 * 256 + 0)) (hs : slc M (74 + 2 * h) f)
    (c : Ev (D + 2) 70 k70_25 [some (.ref 52), some (.ref p), some (.int (nI (h + 1))), some (.ref q), some (.int (nI n)), some (.int (nI (i + 1))), some (.int (W i)), some (.int (nI 11))] [] (mu M (74 + 2 * h + 1) (cJ 8 (lfill (fun k => f k ^^^ (-1)) f 8))) Q) : Ev (D + 2) 70 k70_25 [some (.ref 52), some (.ref p), some (.int (nI (h + 1))), some (.ref q), some (.int (nI n)), some (.int (nI i)), l6, l7] [] M Q := by
  have g1 : ¬ nI n ≤ nI i := nI_ge hi (by omega)
  have g2 : vp_in (nI i) n := vp_in_nI hi (by omega)
  have g3 : (nI i).toNatClampNeg = i := nI_clamp (by omega)
  have g4 : (8 : Int32) ≤ nI 11 := by decide
  have g5 : nI 11 = 11 := rfl
  have g6 : ¬ nI (h + 1) < 1 := nI_nlt (b := 1) (by omega) (by omega)
  have ho : 3 ≤ 74 + 2 * h ∧ isO 6 (M.1 (74 + 2 * h)) = true := ⟨by omega, by rw [hs.2.1]; rfl⟩
  rw [nI_succ i, hW] at c
  unfold k70_25
  simp only [ev_iconst, ev_lconst, ev_null, ev_il0, ev_ll0, ev_al0, ev_an0, ev_il1, ev_ll1, ev_al1, ev_an1, ev_il2, ev_ll2, ev_al2, ev_an2, ev_il3, ev_ll3, ev_al3, ev_an3, ev_il4, ev_ll4, ev_al4, ev_an4, ev_il5, ev_ll5, ev_al5, ev_an5, ev_il6, ev_ll6, ev_al6, ev_an6, ev_il7, ev_ll7, ev_al7, ev_an7, ev_il8, ev_ll8, ev_al8, ev_an8, ev_il9, ev_ll9, ev_al9, ev_an9, ev_il10, ev_ll10, ev_al10, ev_an10, ev_il11, ev_ll11, ev_al11, ev_an11, ev_il12, ev_ll12, ev_al12, ev_an12, ev_il13, ev_ll13, ev_al13, ev_an13, ev_inc0, ev_is0, ev_as0, ev_asN0, ev_ls0, ev_inc1, ev_is1, ev_as1, ev_asN1, ev_ls1, ev_inc2, ev_is2, ev_as2, ev_asN2, ev_ls2, ev_inc3, ev_is3, ev_as3, ev_asN3, ev_ls3, ev_inc4, ev_is4, ev_as4, ev_asN4, ev_ls4, ev_inc5, ev_is5, ev_as5, ev_asN5, ev_ls5, ev_inc6, ev_is6, ev_as6, ev_asN6, ev_ls6, ev_inc7, ev_is7, ev_as7, ev_asN7, ev_ls7, ev_inc8, ev_is8, ev_as8, ev_asN8, ev_ls8, ev_inc9, ev_is9, ev_as9, ev_asN9, ev_ls9, ev_inc10, ev_is10, ev_as10, ev_asN10, ev_ls10, ev_inc11, ev_is11, ev_as11, ev_asN11, ev_ls11, ev_inc12, ev_is12, ev_as12, ev_asN12, ev_ls12, ev_inc13, ev_is13, ev_as13, ev_asN13, ev_ls13, lkl_none, lkl_int, lkl_ref, lkl_null, lkl_long, ev_iadd, ev_isub, ev_imul, ev_iand, ev_ior, ev_ixor, ev_ishl, ev_ishr, ev_iushr, ev_ladd, ev_lsub, ev_land, ev_lor, ev_lxor, ev_lshl, ev_lshr, ev_lushr, ev_lcmp, ev_ineg, ev_i2l, ev_l2i, ev_i2b, ev_i2s, ev_dupi, ev_dupr, ev_dup2l, ev_dup2ir, ev_popi, ev_popr, ev_idiv, ev_irem, ev_iaload, ev_laload, ev_aaload, ev_iastore, ev_lastore, ev_getf, ev_putf, ev_gets1, ev_gets2, ev_new, ev_newi, ev_newl, ev_newq, ev_goto, ev_iceq, ev_icne, ev_iclt, ev_icge, ev_icgt, ev_icle, ev_ifeq, ev_ifne, ev_iflt, ev_ifge, ev_ifgt, ev_ifle, ev_ifnullR, ev_ifnullN, ev_ifnonnullR, ev_ifnonnullN, ev_oinit, ev_ireturn, ev_zret0, ev_zret1, ev_lreturn, ev_areturn, ev_areturnN, ev_return, ev_mmax, ev_mmin, not_true_eq_false, not_false_eq_true, okI_c, rdI_c, wrI_c, okJ_c, rdJ_c, wrJ_c, okR_2, okR_3, rdR_2, rdR_3, okO_c, rdO_c, wrO_c, isO_c, fget, fset, mfit, mu_1, and_true, true_and, and_self, if_true, if_false, ite_true, ite_false, List.length_cons, List.length_nil, ci_m1005, ci_m1004, ci_m1003, ci_m1002, ci_m1001, ci_m10, ci_m1, ci_0, ci_1, ci_2, ci_3, ci_4, ci_5, ci_6, ci_7, ci_8, ci_9, ci_10, ci_11, ci_12, ci_13, ci_16, ci_17, ci_19, ci_20, ci_30, ci_32, ci_35, ci_38, ci_40, ci_41, ci_42, ci_43, ci_45, ci_48, ci_57, ci_58, ci_59, ci_60, ci_61, ci_63, ci_64, ci_91, ci_93, ci_97, ci_101, ci_104, ci_110, ci_115, ci_119, ci_123, ci_124, ci_125, ci_126, ci_127, ci_136, ci_160, ci_255, ci_256, ci_512, ci_900, ci_5120, ci_65536, cl_m9187201950435737472, cl_m72340172838076674, cl_m1, cl_0, cl_1, cl_3, cl_4, cl_6, cl_7, cl_8, cl_30, cl_255, cl_4294967295, cl_72340172838076673, cl_1085102592571150095, cl_3689348814741910323, cl_6148914691236517205, cl_9187201950435737471, mcat_n, mcat_i, mcat_l, mcat_r, mcat_u, tl_s, tl_n, rf_s, rf_n, Nat.reduceAdd, Nat.reduceLT, Nat.reduceLeDiff, Nat.reduceMul, Nat.reduceEqDiff, hq, g1, g2, g3, hW, shr8 (show 11 < 16 by omega) (show 0 < 256 by decide), g4, g5, g6, wk_52 hw, nI_d1, (wk_at hw hh).1, (wk_at hw hh).2, a70_82, k70_82, a70_135, k70_135, a70_25, ev_vc0 (r_invert (d := D + 1) hs) ⟨ho, mc0⟩]
  exact c
set_option maxRecDepth 100000 in
theorem wo_pair {h i op : Nat} {M : mM} {f f' : Nat → Int64} {l6 l7 : Option Value} (hw : Wlk M G e T) (hq : M.1 q = some (cI n W)) (hn : n ≤ 160) (hi : i < n) (hh : h + 1 < 19) (ho6 : op < 6) (hW : W i = nI (op * 256 + 0)) (hs : slc M (74 + 2 * h) f) (hs' : slc M (74 + 2 * (h + 1)) f')
    (c : Ev (D + 2) 70 k70_25 [some (.ref 52), some (.ref p), some (.int (nI (h + 1))), some (.ref q), some (.int (nI n)), some (.int (nI (i + 1))), some (.int (W i)), some (.int (nI op))] [] (mu M (74 + 2 * h + 1) (cJ 8 (ppair op f f'))) Q) : Ev (D + 2) 70 k70_25 [some (.ref 52), some (.ref p), some (.int (nI (h + 1 + 1))), some (.ref q), some (.int (nI n)), some (.int (nI i)), l6, l7] [] M Q := by
  have g1 : ¬ nI n ≤ nI i := nI_ge hi (by omega)
  have g2 : vp_in (nI i) n := vp_in_nI hi (by omega)
  have g3 : (nI i).toNatClampNeg = i := nI_clamp (by omega)
  have g4 : ¬ (8 : Int32) ≤ nI op := nI_ge (b := 8) (by omega) (by decide)
  have g6 : ¬ nI (h + 1 + 1) < 2 := nI_nlt (b := 2) (by omega) (by omega)
  have ho : 3 ≤ 74 + 2 * h ∧ isO 6 (M.1 (74 + 2 * h)) = true := ⟨by omega, by rw [hs.2.1]; rfl⟩
  rw [nI_succ i, hW] at c
  unfold k70_25
  simp only [ev_iconst, ev_lconst, ev_null, ev_il0, ev_ll0, ev_al0, ev_an0, ev_il1, ev_ll1, ev_al1, ev_an1, ev_il2, ev_ll2, ev_al2, ev_an2, ev_il3, ev_ll3, ev_al3, ev_an3, ev_il4, ev_ll4, ev_al4, ev_an4, ev_il5, ev_ll5, ev_al5, ev_an5, ev_il6, ev_ll6, ev_al6, ev_an6, ev_il7, ev_ll7, ev_al7, ev_an7, ev_il8, ev_ll8, ev_al8, ev_an8, ev_il9, ev_ll9, ev_al9, ev_an9, ev_il10, ev_ll10, ev_al10, ev_an10, ev_il11, ev_ll11, ev_al11, ev_an11, ev_il12, ev_ll12, ev_al12, ev_an12, ev_il13, ev_ll13, ev_al13, ev_an13, ev_inc0, ev_is0, ev_as0, ev_asN0, ev_ls0, ev_inc1, ev_is1, ev_as1, ev_asN1, ev_ls1, ev_inc2, ev_is2, ev_as2, ev_asN2, ev_ls2, ev_inc3, ev_is3, ev_as3, ev_asN3, ev_ls3, ev_inc4, ev_is4, ev_as4, ev_asN4, ev_ls4, ev_inc5, ev_is5, ev_as5, ev_asN5, ev_ls5, ev_inc6, ev_is6, ev_as6, ev_asN6, ev_ls6, ev_inc7, ev_is7, ev_as7, ev_asN7, ev_ls7, ev_inc8, ev_is8, ev_as8, ev_asN8, ev_ls8, ev_inc9, ev_is9, ev_as9, ev_asN9, ev_ls9, ev_inc10, ev_is10, ev_as10, ev_asN10, ev_ls10, ev_inc11, ev_is11, ev_as11, ev_asN11, ev_ls11, ev_inc12, ev_is12, ev_as12, ev_asN12, ev_ls12, ev_inc13, ev_is13, ev_as13, ev_asN13, ev_ls13, lkl_none, lkl_int, lkl_ref, lkl_null, lkl_long, ev_iadd, ev_isub, ev_imul, ev_iand, ev_ior, ev_ixor, ev_ishl, ev_ishr, ev_iushr, ev_ladd, ev_lsub, ev_land, ev_lor, ev_lxor, ev_lshl, ev_lshr, ev_lushr, ev_lcmp, ev_ineg, ev_i2l, ev_l2i, ev_i2b, ev_i2s, ev_dupi, ev_dupr, ev_dup2l, ev_dup2ir, ev_popi, ev_popr, ev_idiv, ev_irem, ev_iaload, ev_laload, ev_aaload, ev_iastore, ev_lastore, ev_getf, ev_putf, ev_gets1, ev_gets2, ev_new, ev_newi, ev_newl, ev_newq, ev_goto, ev_iceq, ev_icne, ev_iclt, ev_icge, ev_icgt, ev_icle, ev_ifeq, ev_ifne, ev_iflt, ev_ifge, ev_ifgt, ev_ifle, ev_ifnullR, ev_ifnullN, ev_ifnonnullR, ev_ifnonnullN, ev_oinit, ev_ireturn, ev_zret0, ev_zret1, ev_lreturn, ev_areturn, ev_areturnN, ev_return, ev_mmax, ev_mmin, not_true_eq_false, not_false_eq_true, okI_c, rdI_c, wrI_c, okJ_c, rdJ_c, wrJ_c, okR_2, okR_3, rdR_2, rdR_3, okO_c, rdO_c, wrO_c, isO_c, fget, fset, mfit, mu_1, and_true, true_and, and_self, if_true, if_false, ite_true, ite_false, List.length_cons, List.length_nil, ci_m1005, ci_m1004, ci_m1003, ci_m1002, ci_m1001, ci_m10, ci_m1, ci_0, ci_1, ci_2, ci_3, ci_4, ci_5, ci_6, ci_7, ci_8, ci_9, ci_10, ci_11, ci_12, ci_13, ci_16, ci_17, ci_19, ci_20, ci_30, ci_32, ci_35, ci_38, ci_40, ci_41, ci_42, ci_43, ci_45, ci_48, ci_57, ci_58, ci_59, ci_60, ci_61, ci_63, ci_64, ci_91, ci_93, ci_97, ci_101, ci_104, ci_110, ci_115, ci_119, ci_123, ci_124, ci_125, ci_126, ci_127, ci_136, ci_160, ci_255, ci_256, ci_512, ci_900, ci_5120, ci_65536, cl_m9187201950435737472, cl_m72340172838076674, cl_m1, cl_0, cl_1, cl_3, cl_4, cl_6, cl_7, cl_8, cl_30, cl_255, cl_4294967295, cl_72340172838076673, cl_1085102592571150095, cl_3689348814741910323, cl_6148914691236517205, cl_9187201950435737471, mcat_n, mcat_i, mcat_l, mcat_r, mcat_u, tl_s, tl_n, rf_s, rf_n, Nat.reduceAdd, Nat.reduceLT, Nat.reduceLeDiff, Nat.reduceMul, Nat.reduceEqDiff, hq, g1, g2, g3, hW, shr8 (show op < 16 by omega) (show 0 < 256 by decide), g4, g6, wk_52 hw, nI_m1, nI_d1, (wk_at hw (show h < 19 by omega)).1, (wk_at hw (show h < 19 by omega)).2, (wk_at hw hh).1, (wk_at hw hh).2, a70_135, k70_135, a70_25, ev_vc2 (r_pair (d := D) hs hs' (Or.inl (by omega)) (show op < 8 by omega)) ⟨ho, mc0⟩]
  exact c
theorem hld_c {M : mM} {h : Nat} {Z Z' : Nat → Nat → BitVec 8} (H : Hld M h Z) (e : ∀ i, i < h → Z i = Z' i) : Hld M h Z' := fun i hi => by
  obtain ⟨f, h1, h2⟩ := H i hi
  exact ⟨f, h1, by rw [← e i hi]; exact h2⟩
theorem wo_t {Y : Nat → Nat → BitVec 8} (hY : Cuts G Y) (hq3 : 111 < q) (hn : n ≤ 160) : ∀ (t : Tr) (i h : Nat) (M : mM) (Z : Nat → Nat → BitVec 8) (l6 l7 : Option Value), okE t → Wd W t i → h + ned t ≤ 19 → i + nwd t ≤ n → Wlk M G e T → Hld M h Z → M.1 q = some (cI n W) →
    (∀ (M' : mM) (l6 l7 : Option Value), Wlk M' G e T → Hld M' (h + 1) (fun j => if j = h then evT Y t else Z j) → WOut M M' → Ev (D + 2) 70 k70_25 [some (.ref 52), some (.ref p), some (.int (nI (h + 1))), some (.ref q), some (.int (nI n)), some (.int (nI (i + nwd t))), l6, l7] [] M' Q) →
    Ev (D + 2) 70 k70_25 [some (.ref 52), some (.ref p), some (.int (nI h)), some (.ref q), some (.int (nI n)), some (.int (nI i)), l6, l7] [] M Q
  | .num x, i, h, M, Z, l6, l7, hok, hwd, hh, hin, hw, hz, hq, c => by
    have hh : h + 1 ≤ 19 := hh
    have hin : i + 1 ≤ n := hin
    have hok : x ≤ 256 := hok
    obtain ⟨f, hs⟩ := hw.2.2.2.2.2 h (by omega)
    by_cases c0 : x < 256
    · have hW : W i = nI (8 * 256 + x) := by
        have := hwd
        unfold Wd at this
        rw [if_pos c0] at this
        exact this
      have hcut : Cut (lfill (pall (nI x)) f 8) (evT Y (.num x)) := by
        apply cut_lfill.mpr
        rw [nI_i8 c0]
        refine cut_c cut_all (fun l _ => ?_)
        unfold evT
        rw [if_pos c0]
      exact wo_leaf hw hq hn (by omega) (by omega) (Or.inl rfl) c0 hW (r_hold8 (d := D) hs) (c _ _ _ (wk_held hw (by omega)) (hld_set (fun j hj hne => hz j (by omega)) hs hcut) (wout_mu wout_0 (by omega) (by omega)))
    · have hW : W i = nI (10 * 256 + 0) := by
        have := hwd
        unfold Wd at this
        rw [if_neg c0] at this
        exact this
      have hcut : Cut (lfill mf2 f 8) (evT Y (.num x)) := by
        apply cut_lfill.mpr
        refine cut_c cut_lan (fun l _ => ?_)
        unfold evT
        rw [if_neg c0]
      exact wo_leaf hw hq hn (by omega) (by omega) (Or.inr (Or.inr rfl)) (by decide) hW (r_hold10 (d := D) hw hs) (c _ _ _ (wk_held hw (by omega)) (hld_set (fun j hj hne => hz j (by omega)) hs hcut) (wout_mu wout_0 (by omega) (by omega)))
  | .var v, i, h, M, Z, l6, l7, hok, hwd, hh, hin, hw, hz, hq, c => by
    have hh : h + 1 ≤ 19 := hh
    have hin : i + 1 ≤ n := hin
    have hok : v < 8 := hok
    obtain ⟨f, hs⟩ := hw.2.2.2.2.2 h (by omega)
    have hcut : Cut (lfill (G v) f 8) (evT Y (.var v)) := cut_lfill.mpr (hY v hok)
    exact wo_leaf hw hq hn (by omega) (by omega) (Or.inr (Or.inl rfl)) (Nat.lt_of_lt_of_le hok (by decide)) hwd (r_hold9 (d := D) hw hs hok) (c _ _ _ (wk_held hw (by omega)) (hld_set (fun j hj hne => hz j (by omega)) hs hcut) (wout_mu wout_0 (by omega) (by omega)))
  | .mulR a b, i, h, M, Z, l6, l7, hok, hwd, hh, hin, hw, hz, hq, c => by
    have hh : h + ned a ≤ 19 := hh
    have hin : i + (nwd a + 1) ≤ n := hin
    have hwd : Wd W a i ∧ W (i + nwd a) = nI (11 * 256 + 0) := hwd
    have hp := ned_pos a hok
    refine wo_t hY hq3 hn a i h M Z l6 l7 hok hwd.1 hh (by omega) hw hz hq (fun M' l6' l7' hw' hz' ho' => ?_)
    obtain ⟨f, hs, hc⟩ := hz' h (by omega)
    simp only [if_true] at hc
    have hq' : M'.1 q = some (cI n W) := by rw [ho'.1 _ (by omega)]; exact hq
    have hc2 : Cut (lfill (fun k => f k ^^^ (-1)) f 8) (evT Y (.mulR a b)) := cut_lfill.mpr (cut_not hc)
    refine wo_not hw' hq' hn (by omega) (by omega) hwd.2 hs (c _ _ _ (wk_held hw' (by omega)) ?_ (wout_mu ho' (by omega) (by omega)))
    refine hld_c (hld_set (fun j hj hne => hz' j hj) hs hc2) (fun j _ => ?_)
    by_cases cj : j = h
    · simp only [if_pos cj]
    · simp only [if_neg cj]
  | .mulL k (.add a b), i, h, M, Z, l6, l7, hok, hwd, hh, hin, hw, hz, hq, c => by
    have hh : h + max (ned a) (ned b + 1) ≤ 19 := hh
    have hin : i + (nwd a + nwd b + 1) ≤ n := hin
    have hwd : Wd W a i ∧ Wd W b (i + nwd a) ∧ W (i + nwd a + nwd b) = nI (k * 256 + 0) := hwd
    have hok : k < 6 ∧ okE a ∧ okE b := hok
    have hp := ned_pos a hok.2.1
    have hp' := ned_pos b hok.2.2
    refine wo_t hY hq3 hn a i h M Z l6 l7 hok.2.1 hwd.1 (by omega) (by omega) hw hz hq (fun M1 l61 l71 hw1 hz1 ho1 => ?_)
    have hq1 : M1.1 q = some (cI n W) := by rw [ho1.1 _ (by omega)]; exact hq
    refine wo_t hY hq3 hn b (i + nwd a) (h + 1) M1 _ l61 l71 hok.2.2 hwd.2.1 (by omega) (by omega) hw1 hz1 hq1 (fun M2 l62 l72 hw2 hz2 ho2 => ?_)
    have hq2 : M2.1 q = some (cI n W) := by rw [ho2.1 _ (by omega)]; exact hq1
    obtain ⟨f, hs, hc⟩ := hz2 h (by omega)
    obtain ⟨f', hs', hc'⟩ := hz2 (h + 1) (by omega)
    simp only [if_true] at hc'
    simp only [show ¬ h = h + 1 by omega, if_false, if_true] at hc
    have hc2 : Cut (ppair k f f') (evT Y (.mulL k (.add a b))) := cut_pair hc hc' (by omega)
    have hlen : i + nwd (.mulL k (.add a b)) = i + nwd a + nwd b + 1 := by
      show i + (nwd a + nwd b + 1) = _
      omega
    rw [hlen] at c
    refine wo_pair hw2 hq2 hn (by omega) (by omega) hok.1 hwd.2.2 hs hs' (c _ _ _ (wk_held hw2 (by omega)) ?_ (wout_mu (wout_t ho1 ho2) (by omega) (by omega)))
    refine hld_c (hld_set (n := h + 1) (Z := Z) (fun j hj hne => ?_) hs hc2) (fun j _ => rfl)
    obtain ⟨g, g1, g2⟩ := hz2 j (by omega)
    simp only [show ¬ j = h + 1 by omega, hne, if_false] at g2
    exact ⟨g, g1, g2⟩
  | .mulL _ (.num _), _, _, _, _, _, _, h, _, _, _, _, _, _, _ => h.elim
  | .mulL _ (.var _), _, _, _, _, _, _, h, _, _, _, _, _, _, _ => h.elim
  | .mulL _ (.mulL _ _), _, _, _, _, _, _, h, _, _, _, _, _, _, _ => h.elim
  | .mulL _ (.mulR _ _), _, _, _, _, _, _, h, _, _, _, _, _, _, _ => h.elim
  | .add _ _, _, _, _, _, _, _, h, _, _, _, _, _, _, _ => h.elim
end WO
def Fml (M : mM) (lo hi : Nat) (p : Nat) (t : Tr) : Prop := (lo ≤ p ∧ p < hi) ∧ ∃ q W, (lo ≤ q ∧ q < hi) ∧ M.1 p = some (cO 1 [.ref q, .int (csT t)]) ∧ M.1 q = some (cI (nwd t) W) ∧ Wd W t 0 ∧ okE t ∧ ned t ≤ 19 ∧ nwd t ≤ 160
set_option maxRecDepth 100000 in
theorem r_workOut {D p lo hi : Nat} {M : mM} {G : Nat → Nat → Int64} {e T : Int32} {Y : Nat → Nat → BitVec 8} {t : Tr} (hw : Wlk M G e T) (hY : Cuts G Y) (hlo : 157 ≤ lo) (hf : Fml M lo hi p t) : ∃ M' f, Rt (D + 2) 70 [.ref 52, .ref p] M (some (.ref 74)) M' ∧ Wlk M' G e (T + csT t) ∧ slc M' 74 f ∧ Cut f (evT Y t) ∧ WOut M M' := by
  obtain ⟨hp, q, W, hq, h1, h2, hwd, hok, hne, hnw⟩ := hf
  have hpos := ned_pos t hok
  have goal : Ev (D + 2) 70 (mat mTab 70 0) (ment mTab 70 [.ref 52, .ref p]) [] M (fun v' m' => v' = some (.ref 74) ∧ ∃ f, Wlk m' G e (T + csT t) ∧ slc m' 74 f ∧ Cut f (evT Y t) ∧ WOut M m') := by
    rw [a70_0, en70]
    unfold k70_0
    have h3p : 3 ≤ p := by omega
    have h3q : 3 ≤ q ∨ q = 0 := by omega
    simp only [ev_iconst, ev_lconst, ev_null, ev_il0, ev_ll0, ev_al0, ev_an0, ev_il1, ev_ll1, ev_al1, ev_an1, ev_il2, ev_ll2, ev_al2, ev_an2, ev_il3, ev_ll3, ev_al3, ev_an3, ev_il4, ev_ll4, ev_al4, ev_an4, ev_il5, ev_ll5, ev_al5, ev_an5, ev_il6, ev_ll6, ev_al6, ev_an6, ev_il7, ev_ll7, ev_al7, ev_an7, ev_il8, ev_ll8, ev_al8, ev_an8, ev_il9, ev_ll9, ev_al9, ev_an9, ev_il10, ev_ll10, ev_al10, ev_an10, ev_il11, ev_ll11, ev_al11, ev_an11, ev_il12, ev_ll12, ev_al12, ev_an12, ev_il13, ev_ll13, ev_al13, ev_an13, ev_inc0, ev_is0, ev_as0, ev_asN0, ev_ls0, ev_inc1, ev_is1, ev_as1, ev_asN1, ev_ls1, ev_inc2, ev_is2, ev_as2, ev_asN2, ev_ls2, ev_inc3, ev_is3, ev_as3, ev_asN3, ev_ls3, ev_inc4, ev_is4, ev_as4, ev_asN4, ev_ls4, ev_inc5, ev_is5, ev_as5, ev_asN5, ev_ls5, ev_inc6, ev_is6, ev_as6, ev_asN6, ev_ls6, ev_inc7, ev_is7, ev_as7, ev_asN7, ev_ls7, ev_inc8, ev_is8, ev_as8, ev_asN8, ev_ls8, ev_inc9, ev_is9, ev_as9, ev_asN9, ev_ls9, ev_inc10, ev_is10, ev_as10, ev_asN10, ev_ls10, ev_inc11, ev_is11, ev_as11, ev_asN11, ev_ls11, ev_inc12, ev_is12, ev_as12, ev_asN12, ev_ls12, ev_inc13, ev_is13, ev_as13, ev_asN13, ev_ls13, lkl_none, lkl_int, lkl_ref, lkl_null, lkl_long, ev_iadd, ev_isub, ev_imul, ev_iand, ev_ior, ev_ixor, ev_ishl, ev_ishr, ev_iushr, ev_ladd, ev_lsub, ev_land, ev_lor, ev_lxor, ev_lshl, ev_lshr, ev_lushr, ev_lcmp, ev_ineg, ev_i2l, ev_l2i, ev_i2b, ev_i2s, ev_dupi, ev_dupr, ev_dup2l, ev_dup2ir, ev_popi, ev_popr, ev_idiv, ev_irem, ev_iaload, ev_laload, ev_aaload, ev_iastore, ev_lastore, ev_getf, ev_putf, ev_gets1, ev_gets2, ev_new, ev_newi, ev_newl, ev_newq, ev_goto, ev_iceq, ev_icne, ev_iclt, ev_icge, ev_icgt, ev_icle, ev_ifeq, ev_ifne, ev_iflt, ev_ifge, ev_ifgt, ev_ifle, ev_ifnullR, ev_ifnullN, ev_ifnonnullR, ev_ifnonnullN, ev_oinit, ev_ireturn, ev_zret0, ev_zret1, ev_lreturn, ev_areturn, ev_areturnN, ev_return, ev_mmax, ev_mmin, not_true_eq_false, not_false_eq_true, okI_c, rdI_c, wrI_c, okJ_c, rdJ_c, wrJ_c, okR_2, okR_3, rdR_2, rdR_3, okO_c, rdO_c, wrO_c, isO_c, fget, fset, mfit, mu_1, and_true, true_and, and_self, if_true, if_false, ite_true, ite_false, List.length_cons, List.length_nil, ci_m1005, ci_m1004, ci_m1003, ci_m1002, ci_m1001, ci_m10, ci_m1, ci_0, ci_1, ci_2, ci_3, ci_4, ci_5, ci_6, ci_7, ci_8, ci_9, ci_10, ci_11, ci_12, ci_13, ci_16, ci_17, ci_19, ci_20, ci_30, ci_32, ci_35, ci_38, ci_40, ci_41, ci_42, ci_43, ci_45, ci_48, ci_57, ci_58, ci_59, ci_60, ci_61, ci_63, ci_64, ci_91, ci_93, ci_97, ci_101, ci_104, ci_110, ci_115, ci_119, ci_123, ci_124, ci_125, ci_126, ci_127, ci_136, ci_160, ci_255, ci_256, ci_512, ci_900, ci_5120, ci_65536, cl_m9187201950435737472, cl_m72340172838076674, cl_m1, cl_0, cl_1, cl_3, cl_4, cl_6, cl_7, cl_8, cl_30, cl_255, cl_4294967295, cl_72340172838076673, cl_1085102592571150095, cl_3689348814741910323, cl_6148914691236517205, cl_9187201950435737471, mcat_n, mcat_i, mcat_l, mcat_r, mcat_u, tl_s, tl_n, rf_s, rf_n, Nat.reduceAdd, Nat.reduceLT, Nat.reduceLeDiff, Nat.reduceMul, Nat.reduceEqDiff, a70_11, k70_11, h1, h3p, ev_alenI h2, h3q]
    refine wo_t (Z := fun _ _ => 0#8) hY (by omega) hnw t 0 0 M none none hok hwd (by omega) (by omega) hw (fun i hi => absurd hi (Nat.not_lt_zero i)) h2 (fun M' l6 l7 hw' hz' ho' => ?_)
    obtain ⟨f, hs, hc⟩ := hz' 0 (by omega)
    have h1' : M'.1 p = some (cO 1 [.ref q, .int (csT t)]) := by rw [ho'.1 _ (by omega)]; exact h1
    unfold k70_25
    have g1 : nI (nwd t) ≤ nI (0 + nwd t) := by rw [Nat.zero_add]; exact Int32.le_refl _
    have w2 := wk_obj hw' (e' := e) (t' := T + csT t)
    have w3 := wk_at hw' (show 0 < 19 by decide)
    rw [n0] at w3
    simp only [ev_iconst, ev_lconst, ev_null, ev_il0, ev_ll0, ev_al0, ev_an0, ev_il1, ev_ll1, ev_al1, ev_an1, ev_il2, ev_ll2, ev_al2, ev_an2, ev_il3, ev_ll3, ev_al3, ev_an3, ev_il4, ev_ll4, ev_al4, ev_an4, ev_il5, ev_ll5, ev_al5, ev_an5, ev_il6, ev_ll6, ev_al6, ev_an6, ev_il7, ev_ll7, ev_al7, ev_an7, ev_il8, ev_ll8, ev_al8, ev_an8, ev_il9, ev_ll9, ev_al9, ev_an9, ev_il10, ev_ll10, ev_al10, ev_an10, ev_il11, ev_ll11, ev_al11, ev_an11, ev_il12, ev_ll12, ev_al12, ev_an12, ev_il13, ev_ll13, ev_al13, ev_an13, ev_inc0, ev_is0, ev_as0, ev_asN0, ev_ls0, ev_inc1, ev_is1, ev_as1, ev_asN1, ev_ls1, ev_inc2, ev_is2, ev_as2, ev_asN2, ev_ls2, ev_inc3, ev_is3, ev_as3, ev_asN3, ev_ls3, ev_inc4, ev_is4, ev_as4, ev_asN4, ev_ls4, ev_inc5, ev_is5, ev_as5, ev_asN5, ev_ls5, ev_inc6, ev_is6, ev_as6, ev_asN6, ev_ls6, ev_inc7, ev_is7, ev_as7, ev_asN7, ev_ls7, ev_inc8, ev_is8, ev_as8, ev_asN8, ev_ls8, ev_inc9, ev_is9, ev_as9, ev_asN9, ev_ls9, ev_inc10, ev_is10, ev_as10, ev_asN10, ev_ls10, ev_inc11, ev_is11, ev_as11, ev_asN11, ev_ls11, ev_inc12, ev_is12, ev_as12, ev_asN12, ev_ls12, ev_inc13, ev_is13, ev_as13, ev_asN13, ev_ls13, lkl_none, lkl_int, lkl_ref, lkl_null, lkl_long, ev_iadd, ev_isub, ev_imul, ev_iand, ev_ior, ev_ixor, ev_ishl, ev_ishr, ev_iushr, ev_ladd, ev_lsub, ev_land, ev_lor, ev_lxor, ev_lshl, ev_lshr, ev_lushr, ev_lcmp, ev_ineg, ev_i2l, ev_l2i, ev_i2b, ev_i2s, ev_dupi, ev_dupr, ev_dup2l, ev_dup2ir, ev_popi, ev_popr, ev_idiv, ev_irem, ev_iaload, ev_laload, ev_aaload, ev_iastore, ev_lastore, ev_getf, ev_putf, ev_gets1, ev_gets2, ev_new, ev_newi, ev_newl, ev_newq, ev_goto, ev_iceq, ev_icne, ev_iclt, ev_icge, ev_icgt, ev_icle, ev_ifeq, ev_ifne, ev_iflt, ev_ifge, ev_ifgt, ev_ifle, ev_ifnullR, ev_ifnullN, ev_ifnonnullR, ev_ifnonnullN, ev_oinit, ev_ireturn, ev_zret0, ev_zret1, ev_lreturn, ev_areturn, ev_areturnN, ev_return, ev_mmax, ev_mmin, not_true_eq_false, not_false_eq_true, okI_c, rdI_c, wrI_c, okJ_c, rdJ_c, wrJ_c, okR_2, okR_3, rdR_2, rdR_3, okO_c, rdO_c, wrO_c, isO_c, fget, fset, mfit, mu_1, and_true, true_and, and_self, if_true, if_false, ite_true, ite_false, List.length_cons, List.length_nil, ci_m1005, ci_m1004, ci_m1003, ci_m1002, ci_m1001, ci_m10, ci_m1, ci_0, ci_1, ci_2, ci_3, ci_4, ci_5, ci_6, ci_7, ci_8, ci_9, ci_10, ci_11, ci_12, ci_13, ci_16, ci_17, ci_19, ci_20, ci_30, ci_32, ci_35, ci_38, ci_40, ci_41, ci_42, ci_43, ci_45, ci_48, ci_57, ci_58, ci_59, ci_60, ci_61, ci_63, ci_64, ci_91, ci_93, ci_97, ci_101, ci_104, ci_110, ci_115, ci_119, ci_123, ci_124, ci_125, ci_126, ci_127, ci_136, ci_160, ci_255, ci_256, ci_512, ci_900, ci_5120, ci_65536, cl_m9187201950435737472, cl_m72340172838076674, cl_m1, cl_0, cl_1, cl_3, cl_4, cl_6, cl_7, cl_8, cl_30, cl_255, cl_4294967295, cl_72340172838076673, cl_1085102592571150095, cl_3689348814741910323, cl_6148914691236517205, cl_9187201950435737471, mcat_n, mcat_i, mcat_l, mcat_r, mcat_u, tl_s, tl_n, rf_s, rf_n, Nat.reduceAdd, Nat.reduceLT, Nat.reduceLeDiff, Nat.reduceMul, Nat.reduceEqDiff, g1, a70_141, k70_141, wk_52 hw', h1', show ¬ p = 52 by omega, h3p, w3.1, w3.2]
    exact ⟨f, w2, slc_kept hs rfl rfl, hc, wout_mu ho' (by decide) (by decide)⟩
  obtain ⟨v', M', g1, g2, f, g3⟩ := rt_ex (Nat.le_of_ble_eq_true rfl) goal
  subst g2
  exact ⟨M', f, g1, g3⟩

/-! Going through a program. -/
def DdG (M : mM) (lo hi : Nat) : Tr → Bool → List Value → Prop
  | .num _ => fun o fs => o = false ∧ fs = [.null]
  | .add s r => fun o fs => o = false ∧ ∃ p k1 k2 k3 k4 f1 f2 f3 f4, (lo ≤ p ∧ p < hi) ∧ fs = [.ref p] ∧ M.1 p = some (cO 0 [.int k1, .int k2, .int k3, .int k4, f1, f2, f3, f4]) ∧ DdG M lo hi s true [.int k1, .int k2, .int k3, .int k4, f1, f2, f3] ∧ DdG M lo hi r false [f4]
  | .mulL v x => fun o fs => o = true ∧ ∃ k3 k4 p f2 f3, fs = [.int 0, .int (nI v), .int k3, .int k4, .ref p, f2, f3] ∧ v < 8 ∧ Fml M lo hi p x
  | .mulR (.mulL wy (.var b)) v => fun o fs => o = true ∧ ∃ f1 f2 f3, fs = [.int 1, .int (nI v), .int (nI b), .int (nI wy), f1, f2, f3] ∧ v < 8 ∧ b < 8 ∧ wy < 4
  | .mulR (.add x (.add p q)) _ => fun o fs => o = true ∧ ∃ k2 k3 k4 f1 f2 f3, fs = [.int 2, .int k2, .int k3, .int k4, .ref f1, f2, f3] ∧ Fml M lo hi f1 x ∧ DdG M lo hi p false [f2] ∧ DdG M lo hi q false [f3]
  | .mulR (.mulR (.add x p) _) _ => fun o fs => o = true ∧ ∃ k2 k3 k4 f1 f2 f3, fs = [.int 3, .int k2, .int k3, .int k4, .ref f1, f2, f3] ∧ Fml M lo hi f1 x ∧ DdG M lo hi p false [f2]
  | _ => fun _ _ => False
theorem fml_k {M M' : mM} {lo hi lo' hi' p : Nat} {t : Tr} (hk : ∀ j, lo ≤ j → j < hi → M'.1 j = M.1 j) (hlo : lo' ≤ lo) (hhi : hi ≤ hi') (h : Fml M lo hi p t) : Fml M' lo' hi' p t := by
  obtain ⟨h1, q, W, h2, h3, h4, h5⟩ := h
  exact ⟨⟨by omega, by omega⟩, q, W, ⟨by omega, by omega⟩, by rw [hk _ h1.1 h1.2]; exact h3, by rw [hk _ h2.1 h2.2]; exact h4, h5⟩
theorem ddg_k {M M' : mM} {lo hi lo' hi' : Nat} (hk : ∀ j, lo ≤ j → j < hi → M'.1 j = M.1 j) (hlo : lo' ≤ lo) (hhi : hi ≤ hi') : ∀ (t : Tr) (o : Bool) (fs : List Value), DdG M lo hi t o fs → DdG M' lo' hi' t o fs
  | .num _, _, _, h => h
  | .add s r, o, fs, h => by
    obtain ⟨h0, p, k1, k2, k3, k4, f1, f2, f3, f4, h1, h2, h3, h4, h5⟩ := h
    exact ⟨h0, p, k1, k2, k3, k4, f1, f2, f3, f4, ⟨by omega, by omega⟩, h2, by rw [hk _ h1.1 h1.2]; exact h3, ddg_k hk hlo hhi s true _ h4, ddg_k hk hlo hhi r false _ h5⟩
  | .mulL v x, o, fs, h => by
    obtain ⟨h0, k3, k4, p, f2, f3, h1, h2, h3⟩ := h
    exact ⟨h0, k3, k4, p, f2, f3, h1, h2, fml_k hk hlo hhi h3⟩
  | .mulR (.mulL wy (.var b)) v, o, fs, h => h
  | .mulR (.add x (.add p q)) _, o, fs, h => by
    obtain ⟨h0, k2, k3, k4, f1, f2, f3, h1, h2, h3, h4⟩ := h
    exact ⟨h0, k2, k3, k4, f1, f2, f3, h1, fml_k hk hlo hhi h2, ddg_k hk hlo hhi p false _ h3, ddg_k hk hlo hhi q false _ h4⟩
  | .mulR (.mulR (.add x p) _) _, o, fs, h => by
    obtain ⟨h0, k2, k3, k4, f1, f2, f3, h1, h2, h3⟩ := h
    exact ⟨h0, k2, k3, k4, f1, f2, f3, h1, fml_k hk hlo hhi h2, ddg_k hk hlo hhi p false _ h3⟩
  | .var _, _, _, h => h.elim
  | .mulR (.num _) _, _, _, h => h.elim
  | .mulR (.var _) _, _, _, h => h.elim
  | .mulR (.add _ (.num _)) _, _, _, h => h.elim
  | .mulR (.add _ (.var _)) _, _, _, h => h.elim
  | .mulR (.add _ (.mulL _ _)) _, _, _, h => h.elim
  | .mulR (.add _ (.mulR _ _)) _, _, _, h => h.elim
  | .mulR (.mulL _ (.num _)) _, _, _, h => h.elim
  | .mulR (.mulL _ (.add _ _)) _, _, _, h => h.elim
  | .mulR (.mulL _ (.mulL _ _)) _, _, _, h => h.elim
  | .mulR (.mulL _ (.mulR _ _)) _, _, _, h => h.elim
  | .mulR (.mulR (.num _) _) _, _, _, h => h.elim
  | .mulR (.mulR (.var _) _) _, _, _, h => h.elim
  | .mulR (.mulR (.mulL _ _) _) _, _, _, h => h.elim
  | .mulR (.mulR (.mulR _ _) _) _, _, _, h => h.elim
theorem ddg_0 {M : mM} {lo hi : Nat} {e : Int32} {σ : (Nat → Nat → BitVec 8) × Int32} : ∀ (t : Tr) (fs : List Value), DdG M lo hi t false fs → ruT e t 0 σ = σ
  | .num _, _, _ => rfl
  | .add s r, _, _ => by rw [ruT]; exact if_pos rfl
  | .mulL v x, _, h => absurd h.1 (by decide)
  | .mulR (.mulL wy (.var b)) v, _, h => absurd h.1 (by decide)
  | .mulR (.add x (.add p q)) _, _, h => absurd h.1 (by decide)
  | .mulR (.mulR (.add x p) _) _, _, h => absurd h.1 (by decide)
  | .var _, _, h => h.elim
  | .mulR (.num _) _, _, h => h.elim
  | .mulR (.var _) _, _, h => h.elim
  | .mulR (.add _ (.num _)) _, _, h => h.elim
  | .mulR (.add _ (.var _)) _, _, h => h.elim
  | .mulR (.add _ (.mulL _ _)) _, _, h => h.elim
  | .mulR (.add _ (.mulR _ _)) _, _, h => h.elim
  | .mulR (.mulL _ (.num _)) _, _, h => h.elim
  | .mulR (.mulL _ (.add _ _)) _, _, h => h.elim
  | .mulR (.mulL _ (.mulL _ _)) _, _, h => h.elim
  | .mulR (.mulL _ (.mulR _ _)) _, _, h => h.elim
  | .mulR (.mulR (.num _) _) _, _, h => h.elim
  | .mulR (.mulR (.var _) _) _, _, h => h.elim
  | .mulR (.mulR (.mulL _ _) _) _, _, h => h.elim
  | .mulR (.mulR (.mulR _ _) _) _, _, h => h.elim

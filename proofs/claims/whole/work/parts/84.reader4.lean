/-! The class's reader: formulas with their cells, ways. -/
def KOut (M M' : mM) : Prop := (∀ j, j < M.2.1 → j ≠ 48 → j ≠ 51 → M'.1 j = M.1 j) ∧ M.2.1 ≤ M'.2.1
theorem kout_0 {M : mM} : KOut M M := ⟨fun _ _ _ _ => rfl, Nat.le_refl _⟩
theorem kout_r {M M' : mM} (h : ROut M M') : KOut M M' := ⟨fun j _ h1 h2 => h.1 j h1 h2, by rw [h.2]; exact Nat.le_refl _⟩
theorem kout_t {M M' M'' : mM} (h : KOut M M') (h' : KOut M' M'') : KOut M M'' := ⟨fun j h1 h2 h3 => by rw [h'.1 j (Nat.lt_of_lt_of_le h1 h.2) h2 h3, h.1 j h1 h2 h3], Nat.le_trans h.2 h'.2⟩
theorem kout_mu {M M' : mM} {k : Nat} {c : mE} (h : KOut M M') (h1 : k = 48 ∨ k = 51 ∨ M.2.1 ≤ k) : KOut M (mu M' k c) := by
  refine ⟨fun j h2 h3 h4 => ?_, h.2⟩
  rw [mu_1, if_neg (by omega)]
  exact h.1 j h2 h3 h4
theorem kout_mp {M M' : mM} {c : mE} {z : Nat} (h : KOut M M') : KOut M (mp M' c z) := by
  refine ⟨fun j h2 h3 h4 => ?_, Nat.le_trans h.2 (Nat.le_succ _)⟩
  rw [mp_1, if_neg (by have := h.2; omega)]
  exact h.1 j h2 h3 h4
section RG
variable {d D L sz p : Nat} {M : mM} {tp W : Nat → Int32} {cs dd fl : Int32}
theorem rd_kept {M' : mM} (h : Rd M tp L W sz cs p dd fl) (hk : ∀ j, j = 1 ∨ j = 48 ∨ j = 49 ∨ j = 50 ∨ j = 51 → M'.1 j = M.1 j) : Rd M' tp L W sz cs p dd fl := ⟨⟨by rw [hk _ (by omega)]; exact h.1.1, by rw [hk _ (by omega)]; exact h.1.2⟩, by rw [hk _ (by omega)]; exact h.2.1, by rw [hk _ (by omega)]; exact h.2.2.1, by rw [hk _ (by omega)]; exact h.2.2.2.1, h.2.2.2.2⟩
theorem r_fminit {n q : Nat} {a b : Value} {c : Int32} (h3 : 3 ≤ n) (h : M.1 n = some (cO 1 [a, b])) : Rt d 1 [.ref n, .ref q, .int c] M none (mu M n (cO 1 [.ref q, .int c])) := by
  refine rt_of (Nat.le_of_ble_eq_true rfl) ?_
  rw [a1_0, en1]
  unfold k1_0
  simp only [ev_iconst, ev_lconst, ev_null, ev_il0, ev_ll0, ev_al0, ev_an0, ev_il1, ev_ll1, ev_al1, ev_an1, ev_il2, ev_ll2, ev_al2, ev_an2, ev_il3, ev_ll3, ev_al3, ev_an3, ev_il4, ev_ll4, ev_al4, ev_an4, ev_il5, ev_ll5, ev_al5, ev_an5, ev_il6, ev_ll6, ev_al6, ev_an6, ev_il7, ev_ll7, ev_al7, ev_an7, ev_il8, ev_ll8, ev_al8, ev_an8, ev_il9, ev_ll9, ev_al9, ev_an9, ev_il10, ev_ll10, ev_al10, ev_an10, ev_il11, ev_ll11, ev_al11, ev_an11, ev_il12, ev_ll12, ev_al12, ev_an12, ev_il13, ev_ll13, ev_al13, ev_an13, ev_inc0, ev_is0, ev_as0, ev_asN0, ev_ls0, ev_inc1, ev_is1, ev_as1, ev_asN1, ev_ls1, ev_inc2, ev_is2, ev_as2, ev_asN2, ev_ls2, ev_inc3, ev_is3, ev_as3, ev_asN3, ev_ls3, ev_inc4, ev_is4, ev_as4, ev_asN4, ev_ls4, ev_inc5, ev_is5, ev_as5, ev_asN5, ev_ls5, ev_inc6, ev_is6, ev_as6, ev_asN6, ev_ls6, ev_inc7, ev_is7, ev_as7, ev_asN7, ev_ls7, ev_inc8, ev_is8, ev_as8, ev_asN8, ev_ls8, ev_inc9, ev_is9, ev_as9, ev_asN9, ev_ls9, ev_inc10, ev_is10, ev_as10, ev_asN10, ev_ls10, ev_inc11, ev_is11, ev_as11, ev_asN11, ev_ls11, ev_inc12, ev_is12, ev_as12, ev_asN12, ev_ls12, ev_inc13, ev_is13, ev_as13, ev_asN13, ev_ls13, lkl_none, lkl_int, lkl_ref, lkl_null, lkl_long, ev_iadd, ev_isub, ev_imul, ev_iand, ev_ior, ev_ixor, ev_ishl, ev_ishr, ev_iushr, ev_ladd, ev_lsub, ev_land, ev_lor, ev_lxor, ev_lshl, ev_lshr, ev_lushr, ev_lcmp, ev_ineg, ev_i2l, ev_l2i, ev_i2b, ev_i2s, ev_dupi, ev_dupr, ev_dup2l, ev_dup2ir, ev_popi, ev_popr, ev_idiv, ev_irem, ev_iaload, ev_laload, ev_aaload, ev_iastore, ev_lastore, ev_getf, ev_putf, ev_gets1, ev_gets2, ev_new, ev_newi, ev_newl, ev_newq, ev_goto, ev_iceq, ev_icne, ev_iclt, ev_icge, ev_icgt, ev_icle, ev_ifeq, ev_ifne, ev_iflt, ev_ifge, ev_ifgt, ev_ifle, ev_ifnullR, ev_ifnullN, ev_ifnonnullR, ev_ifnonnullN, ev_oinit, ev_ireturn, ev_zret0, ev_zret1, ev_lreturn, ev_areturn, ev_areturnN, ev_return, ev_mmax, ev_mmin, not_true_eq_false, not_false_eq_true, okI_c, rdI_c, wrI_c, okJ_c, rdJ_c, wrJ_c, okR_2, okR_3, rdR_2, rdR_3, okO_c, rdO_c, wrO_c, isO_c, fget, fset, mfit, mu_1, and_true, true_and, and_self, if_true, if_false, ite_true, ite_false, List.length_cons, List.length_nil, ci_m1005, ci_m1004, ci_m1003, ci_m1002, ci_m1001, ci_m10, ci_m1, ci_0, ci_1, ci_2, ci_3, ci_4, ci_5, ci_6, ci_7, ci_8, ci_9, ci_10, ci_11, ci_12, ci_13, ci_16, ci_17, ci_19, ci_20, ci_30, ci_32, ci_35, ci_38, ci_40, ci_41, ci_42, ci_43, ci_45, ci_48, ci_57, ci_58, ci_59, ci_60, ci_61, ci_63, ci_64, ci_91, ci_93, ci_97, ci_101, ci_104, ci_110, ci_115, ci_119, ci_123, ci_124, ci_125, ci_126, ci_127, ci_136, ci_160, ci_255, ci_256, ci_512, ci_900, ci_5120, ci_65536, cl_m9187201950435737472, cl_m72340172838076674, cl_m1, cl_0, cl_1, cl_3, cl_4, cl_6, cl_7, cl_8, cl_30, cl_255, cl_4294967295, cl_72340172838076673, cl_1085102592571150095, cl_3689348814741910323, cl_6148914691236517205, cl_9187201950435737471, mcat_n, mcat_i, mcat_l, mcat_r, mcat_u, tl_s, tl_n, rf_s, rf_n, Nat.reduceAdd, Nat.reduceLT, Nat.reduceLeDiff, Nat.reduceMul, Nat.reduceEqDiff, h3, h, mu_mu]
/-- the end of formula(): the words copied, the formula made -/
abbrev fmE (M1 : mM) (W1 : Nat → Int32) (n1 : Nat) (c1 : Int32) : mM := mu (mp (mp M1 (cO 1 (mnew 1)) 2) (cI n1 (fun j => if j < n1 then W1 j else 0)) n1) M1.2.1 (cO 1 [.ref (M1.2.1 + 1), .int c1])
set_option maxRecDepth 100000 in
theorem r_fm (h : Rd M tp L W sz cs p dd fl) {M1 : mM} {W1 : Nat → Int32} {sz1 p1 : Nat} {cs1 fl1 : Int32} (h1 : Rd M1 tp L W1 sz1 cs1 p1 dd fl1) (hs : sz1 < 160) (hM : 51 < M1.2.1) (hc : Rt D 23 [.ref 48, .int 0] (mu M 48 (cO 4 [.ref 49, .ref 51, .int (nI 0), .int (0), .int (nI p), .int dd, .int (fl)])) none M1) : Rt (D + 1) 21 [.ref 48] M (some (.ref M1.2.1)) (fmE M1 W1 sz1 cs1) := by
  refine rt_of (Nat.le_of_ble_eq_true rfl) ?_
  rw [a21_0, en21]
  unfold k21_0
  rw [n0] at hc
  have i0 : 3 ≤ 48 ∧ isO 4 ((mu M 48 (cO 4 [.ref 49, .ref 51, .int (0), .int (0), .int (nI p), .int dd, .int (fl)])).1 48) = true := ⟨by decide, rfl⟩
  have hA : (mp M1 (cO 1 (mnew 1)) 2).1 48 = some (cO 4 [.ref 49, .ref 51, .int (nI sz1), .int (cs1), .int (nI p1), .int dd, .int (fl1)]) := by rw [mp_1, if_neg (by omega)]; exact rd_48 h1
  have hB : (mp M1 (cO 1 (mnew 1)) 2).1 51 = some (cI 160 W1) := by rw [mp_1, if_neg (by omega)]; exact rd_51 h1
  have rc := r_acopy (d := D) hB hs (by rw [mp_2]; show 51 < M1.2.1 + 1; omega)
  rw [show (mp M1 (cO 1 (mnew 1)) 2).2.1 = M1.2.1 + 1 from rfl] at rc
  have hC : (mp (mp M1 (cO 1 (mnew 1)) 2) (cI sz1 (fun j => if j < sz1 then W1 j else 0)) sz1).1 48 = some (cO 4 [.ref 49, .ref 51, .int (nI sz1), .int (cs1), .int (nI p1), .int dd, .int (fl1)]) := by rw [mp_1, if_neg (by show ¬ 48 = M1.2.1 + 1; omega)]; exact hA
  have hD2 : (mp (mp M1 (cO 1 (mnew 1)) 2) (cI sz1 (fun j => if j < sz1 then W1 j else 0)) sz1).1 M1.2.1 = some (cO 1 [.null, .int 0]) := by rw [mp_1, if_neg (by show ¬ M1.2.1 = M1.2.1 + 1; omega), mp_1, if_pos rfl]; rfl
  have ri := r_fminit (d := D) (q := M1.2.1 + 1) (c := cs1) (show 3 ≤ M1.2.1 by omega) hD2
  simp only [ev_iconst, ev_lconst, ev_null, ev_il0, ev_ll0, ev_al0, ev_an0, ev_il1, ev_ll1, ev_al1, ev_an1, ev_il2, ev_ll2, ev_al2, ev_an2, ev_il3, ev_ll3, ev_al3, ev_an3, ev_il4, ev_ll4, ev_al4, ev_an4, ev_il5, ev_ll5, ev_al5, ev_an5, ev_il6, ev_ll6, ev_al6, ev_an6, ev_il7, ev_ll7, ev_al7, ev_an7, ev_il8, ev_ll8, ev_al8, ev_an8, ev_il9, ev_ll9, ev_al9, ev_an9, ev_il10, ev_ll10, ev_al10, ev_an10, ev_il11, ev_ll11, ev_al11, ev_an11, ev_il12, ev_ll12, ev_al12, ev_an12, ev_il13, ev_ll13, ev_al13, ev_an13, ev_inc0, ev_is0, ev_as0, ev_asN0, ev_ls0, ev_inc1, ev_is1, ev_as1, ev_asN1, ev_ls1, ev_inc2, ev_is2, ev_as2, ev_asN2, ev_ls2, ev_inc3, ev_is3, ev_as3, ev_asN3, ev_ls3, ev_inc4, ev_is4, ev_as4, ev_asN4, ev_ls4, ev_inc5, ev_is5, ev_as5, ev_asN5, ev_ls5, ev_inc6, ev_is6, ev_as6, ev_asN6, ev_ls6, ev_inc7, ev_is7, ev_as7, ev_asN7, ev_ls7, ev_inc8, ev_is8, ev_as8, ev_asN8, ev_ls8, ev_inc9, ev_is9, ev_as9, ev_asN9, ev_ls9, ev_inc10, ev_is10, ev_as10, ev_asN10, ev_ls10, ev_inc11, ev_is11, ev_as11, ev_asN11, ev_ls11, ev_inc12, ev_is12, ev_as12, ev_asN12, ev_ls12, ev_inc13, ev_is13, ev_as13, ev_asN13, ev_ls13, lkl_none, lkl_int, lkl_ref, lkl_null, lkl_long, ev_iadd, ev_isub, ev_imul, ev_iand, ev_ior, ev_ixor, ev_ishl, ev_ishr, ev_iushr, ev_ladd, ev_lsub, ev_land, ev_lor, ev_lxor, ev_lshl, ev_lshr, ev_lushr, ev_lcmp, ev_ineg, ev_i2l, ev_l2i, ev_i2b, ev_i2s, ev_dupi, ev_dupr, ev_dup2l, ev_dup2ir, ev_popi, ev_popr, ev_idiv, ev_irem, ev_iaload, ev_laload, ev_aaload, ev_iastore, ev_lastore, ev_getf, ev_putf, ev_gets1, ev_gets2, ev_new, ev_newi, ev_newl, ev_newq, ev_goto, ev_iceq, ev_icne, ev_iclt, ev_icge, ev_icgt, ev_icle, ev_ifeq, ev_ifne, ev_iflt, ev_ifge, ev_ifgt, ev_ifle, ev_ifnullR, ev_ifnullN, ev_ifnonnullR, ev_ifnonnullN, ev_oinit, ev_ireturn, ev_zret0, ev_zret1, ev_lreturn, ev_areturn, ev_areturnN, ev_return, ev_mmax, ev_mmin, not_true_eq_false, not_false_eq_true, okI_c, rdI_c, wrI_c, okJ_c, rdJ_c, wrJ_c, okR_2, okR_3, rdR_2, rdR_3, okO_c, rdO_c, wrO_c, isO_c, fget, fset, mfit, mu_1, and_true, true_and, and_self, if_true, if_false, ite_true, ite_false, List.length_cons, List.length_nil, ci_m1005, ci_m1004, ci_m1003, ci_m1002, ci_m1001, ci_m10, ci_m1, ci_0, ci_1, ci_2, ci_3, ci_4, ci_5, ci_6, ci_7, ci_8, ci_9, ci_10, ci_11, ci_12, ci_13, ci_16, ci_17, ci_19, ci_20, ci_30, ci_32, ci_35, ci_38, ci_40, ci_41, ci_42, ci_43, ci_45, ci_48, ci_57, ci_58, ci_59, ci_60, ci_61, ci_63, ci_64, ci_91, ci_93, ci_97, ci_101, ci_104, ci_110, ci_115, ci_119, ci_123, ci_124, ci_125, ci_126, ci_127, ci_136, ci_160, ci_255, ci_256, ci_512, ci_900, ci_5120, ci_65536, cl_m9187201950435737472, cl_m72340172838076674, cl_m1, cl_0, cl_1, cl_3, cl_4, cl_6, cl_7, cl_8, cl_30, cl_255, cl_4294967295, cl_72340172838076673, cl_1085102592571150095, cl_3689348814741910323, cl_6148914691236517205, cl_9187201950435737471, mcat_n, mcat_i, mcat_l, mcat_r, mcat_u, tl_s, tl_n, rf_s, rf_n, Nat.reduceAdd, Nat.reduceLT, Nat.reduceLeDiff, Nat.reduceMul, Nat.reduceEqDiff, rd_48 h, mu_mu, ev_vc1 hc ⟨i0, mc0⟩, show (mnew 1).length = 2 from rfl, hA, ev_st2 rc mcrr, hC, ev_sc2 ri mcr]
theorem wd_c {W : Nat → Int32} {t : Tr} (h : Wd W t 0) : Wd (fun j => if j < nwd t then W j else 0) t 0 := wd_k t 0 (fun j h1 h2 => if_pos (by omega)) h
def FRs (tp : Nat → Int32) (L : Nat) (p : Nat) (dd : Int32) (r : Pr) (M M' : mM) : Prop := match r with
  | .ok r => ∃ W sz cs, Rd M' tp L W sz cs r.1 dd (-1) ∧ Fml M' M.2.1 (M.2.1 + 2) M.2.1 r.2 ∧ M'.2.2 ≤ M.2.2 + 2 + (r.1 - p)
  | .error q => ∃ W sz cs p', Rd M' tp L W sz cs p' dd (nI q) ∧ p' ≤ L ∧ M'.2.2 ≤ M.2.2 + 2 + (L - p)
theorem r_formula (h : Rd M tp L W sz cs p dd (-1)) (hp : p ≤ L) (hp1 : 1 ≤ p) (hM : 51 < M.2.1) : ∃ M', Rt (D + 26) 21 [.ref 48] M (some (.ref M.2.1)) M' ∧ KOut M M' ∧ M'.2.1 = M.2.1 + 2 ∧ FRs tp L p dd (pFor (btc tp L) p) M M' := by
  have hL := rd_L h
  have h0 := rd_o h (sz' := 0) (p' := p) (cs' := 0) (dd' := dd) (fl' := -1)
  obtain ⟨M1, r1, o1, c1⟩ := cx_for (tp := tp) hL (D + 25) _ W 0 0 p dd (by omega) h0 hp (by omega)
  have e1 : M1.2 = M.2 := o1.2
  have hM1 : 51 < M1.2.1 := by rw [e1]; exact hM
  have hg := gd_for (btc_L (tp := tp) (L := L)) p hp
  have kk : ∀ (W1 : Nat → Int32) (n1 : Nat) (x1 : Int32), KOut M (fmE M1 W1 n1 x1) := fun W1 n1 x1 => kout_mu (kout_mp (kout_mp (kout_r (rout_t (rout_mu rout_0 (Or.inl rfl)) o1)))) (Or.inr (Or.inr (by rw [e1]; exact Nat.le_refl _)))
  have kr : ∀ (W1 : Nat → Int32) (n1 : Nat) (x1 : Int32) (j : Nat), j < 52 → (fmE M1 W1 n1 x1).1 j = M1.1 j := by
    intro W1 n1 x1 j hj
    rw [mu_1, if_neg (by omega), mp_1, if_neg (by show ¬ j = M1.2.1 + 1; omega), mp_1, if_neg (by omega)]
  have k2 : ∀ (W1 : Nat → Int32) (n1 : Nat) (x1 : Int32), (fmE M1 W1 n1 x1).2 = (M.2.1 + 2, M.2.2 + 2 + n1) := by
    intro W1 n1 x1
    show (M1.2.1 + 1 + 1, M1.2.2 + 2 + n1) = _
    rw [e1]
  cases e : pFor (btc tp L) p with
  | error q =>
    rw [e] at c1
    obtain ⟨W3, sz3, cs3, p3, h3, hs3, hp3⟩ := c1
    have := r_fm h h3 (by omega) hM1 r1
    rw [show M1.2.1 = M.2.1 by rw [e1]] at this
    rw [← show M1.2.1 = M.2.1 by rw [e1]] at this
    refine ⟨fmE M1 W3 sz3 cs3, by rw [show M.2.1 = M1.2.1 by rw [e1]]; exact this, kk _ _ _, by rw [k2], W3, sz3, cs3, p3, rd_kept h3 (fun j hj => kr _ _ _ j (by omega)), hp3, ?_⟩
    rw [k2]
    show M.2.2 + 2 + sz3 ≤ _
    omega
  | ok r =>
    rw [e] at c1
    obtain ⟨W3, h3, hw3, hj3⟩ := c1
    rw [Nat.zero_add, Int32.zero_add] at h3
    have hr := hg.1 r e
    have := r_fm h h3 (by omega) hM1 r1
    refine ⟨fmE M1 W3 (nwd r.2) (csT r.2), by rw [show M.2.1 = M1.2.1 by rw [e1]]; exact this, kk _ _ _, by rw [k2], W3, _, _, rd_kept h3 (fun j hj => kr _ _ _ j (by omega)), ?_, ?_⟩
    · refine ⟨⟨Nat.le_refl _, by omega⟩, M.2.1 + 1, _, ⟨by omega, by omega⟩, ?_, ?_, wd_c hw3, hr.2.2.1, hr.2.2.2.1, by omega⟩
      · rw [mu_1, if_pos (by rw [e1]), e1]
      · rw [mu_1, if_neg (by rw [e1]; omega), mp_1, if_pos (by show M.2.1 + 1 = M1.2.1 + 1; rw [e1])]
    · rw [k2]
      show M.2.2 + 2 + nwd r.2 ≤ _
      omega
theorem r_formulaf (h : Rd M tp L W sz cs p dd fl) (hf : ¬ fl = -1) (hp : p ≤ L) (hM : 51 < M.2.1) : ∃ M', Rt (D + 5) 21 [.ref 48] M (some (.ref M.2.1)) M' ∧ KOut M M' ∧ M'.2 = (M.2.1 + 2, M.2.2 + 2) ∧ ∃ W sz cs, Rd M' tp L W sz cs p dd fl := by
  have h0 := rd_o h (sz' := 0) (p' := p) (cs' := 0) (dd' := dd) (fl' := fl)
  have r1 := r_fm h h0 (by decide) hM (r_cmpf (d := D) h0 hf hp (n := 0))
  exact ⟨_, r1, kout_mu (kout_mp (kout_mp (kout_mu kout_0 (Or.inl rfl)))) (Or.inr (Or.inr (Nat.le_refl _))), rfl, W, 0, 0, rd_kept h0 (fun j hj => by
    rw [mu_1, if_neg (by show ¬ j = M.2.1; omega), mp_1, if_neg (by show ¬ j = M.2.1 + 1; omega), mp_1, if_neg (by show ¬ j = M.2.1; omega)])⟩
set_option maxRecDepth 100000 in
theorem r_way1 (h : Rd M tp L W sz cs p dd (-1)) (hp : p ≤ L) {wy : Nat} (hw : wyN (btc tp L p) = some wy) : Rt (d + 1) 20 [.ref 48] M (some (.int (nI wy))) (mu M 48 (cO 4 [.ref 49, .ref 51, .int (nI sz), .int (cs), .int (nI (p + 1)), .int dd, .int (-1)])) := by
  refine rt_of (Nat.le_of_ble_eq_true rfl) ?_
  rw [a20_0, en20]
  unfold k20_0
  have sg := r_sign (d := d) h hp
  unfold wyN at hw
  by_cases c1 : btc tp L p = 110
  · rw [if_pos c1] at hw
    injection hw with hw
    subst hw
    rw [c1] at sg
    simp only [ev_iconst, ev_lconst, ev_null, ev_il0, ev_ll0, ev_al0, ev_an0, ev_il1, ev_ll1, ev_al1, ev_an1, ev_il2, ev_ll2, ev_al2, ev_an2, ev_il3, ev_ll3, ev_al3, ev_an3, ev_il4, ev_ll4, ev_al4, ev_an4, ev_il5, ev_ll5, ev_al5, ev_an5, ev_il6, ev_ll6, ev_al6, ev_an6, ev_il7, ev_ll7, ev_al7, ev_an7, ev_il8, ev_ll8, ev_al8, ev_an8, ev_il9, ev_ll9, ev_al9, ev_an9, ev_il10, ev_ll10, ev_al10, ev_an10, ev_il11, ev_ll11, ev_al11, ev_an11, ev_il12, ev_ll12, ev_al12, ev_an12, ev_il13, ev_ll13, ev_al13, ev_an13, ev_inc0, ev_is0, ev_as0, ev_asN0, ev_ls0, ev_inc1, ev_is1, ev_as1, ev_asN1, ev_ls1, ev_inc2, ev_is2, ev_as2, ev_asN2, ev_ls2, ev_inc3, ev_is3, ev_as3, ev_asN3, ev_ls3, ev_inc4, ev_is4, ev_as4, ev_asN4, ev_ls4, ev_inc5, ev_is5, ev_as5, ev_asN5, ev_ls5, ev_inc6, ev_is6, ev_as6, ev_asN6, ev_ls6, ev_inc7, ev_is7, ev_as7, ev_asN7, ev_ls7, ev_inc8, ev_is8, ev_as8, ev_asN8, ev_ls8, ev_inc9, ev_is9, ev_as9, ev_asN9, ev_ls9, ev_inc10, ev_is10, ev_as10, ev_asN10, ev_ls10, ev_inc11, ev_is11, ev_as11, ev_asN11, ev_ls11, ev_inc12, ev_is12, ev_as12, ev_asN12, ev_ls12, ev_inc13, ev_is13, ev_as13, ev_asN13, ev_ls13, lkl_none, lkl_int, lkl_ref, lkl_null, lkl_long, ev_iadd, ev_isub, ev_imul, ev_iand, ev_ior, ev_ixor, ev_ishl, ev_ishr, ev_iushr, ev_ladd, ev_lsub, ev_land, ev_lor, ev_lxor, ev_lshl, ev_lshr, ev_lushr, ev_lcmp, ev_ineg, ev_i2l, ev_l2i, ev_i2b, ev_i2s, ev_dupi, ev_dupr, ev_dup2l, ev_dup2ir, ev_popi, ev_popr, ev_idiv, ev_irem, ev_iaload, ev_laload, ev_aaload, ev_iastore, ev_lastore, ev_getf, ev_putf, ev_gets1, ev_gets2, ev_new, ev_newi, ev_newl, ev_newq, ev_goto, ev_iceq, ev_icne, ev_iclt, ev_icge, ev_icgt, ev_icle, ev_ifeq, ev_ifne, ev_iflt, ev_ifge, ev_ifgt, ev_ifle, ev_ifnullR, ev_ifnullN, ev_ifnonnullR, ev_ifnonnullN, ev_oinit, ev_ireturn, ev_zret0, ev_zret1, ev_lreturn, ev_areturn, ev_areturnN, ev_return, ev_mmax, ev_mmin, not_true_eq_false, not_false_eq_true, okI_c, rdI_c, wrI_c, okJ_c, rdJ_c, wrJ_c, okR_2, okR_3, rdR_2, rdR_3, okO_c, rdO_c, wrO_c, isO_c, fget, fset, mfit, mu_1, and_true, true_and, and_self, if_true, if_false, ite_true, ite_false, List.length_cons, List.length_nil, ci_m1005, ci_m1004, ci_m1003, ci_m1002, ci_m1001, ci_m10, ci_m1, ci_0, ci_1, ci_2, ci_3, ci_4, ci_5, ci_6, ci_7, ci_8, ci_9, ci_10, ci_11, ci_12, ci_13, ci_16, ci_17, ci_19, ci_20, ci_30, ci_32, ci_35, ci_38, ci_40, ci_41, ci_42, ci_43, ci_45, ci_48, ci_57, ci_58, ci_59, ci_60, ci_61, ci_63, ci_64, ci_91, ci_93, ci_97, ci_101, ci_104, ci_110, ci_115, ci_119, ci_123, ci_124, ci_125, ci_126, ci_127, ci_136, ci_160, ci_255, ci_256, ci_512, ci_900, ci_5120, ci_65536, cl_m9187201950435737472, cl_m72340172838076674, cl_m1, cl_0, cl_1, cl_3, cl_4, cl_6, cl_7, cl_8, cl_30, cl_255, cl_4294967295, cl_72340172838076673, cl_1085102592571150095, cl_3689348814741910323, cl_6148914691236517205, cl_9187201950435737471, mcat_n, mcat_i, mcat_l, mcat_r, mcat_u, tl_s, tl_n, rf_s, rf_n, Nat.reduceAdd, Nat.reduceLT, Nat.reduceLeDiff, Nat.reduceMul, Nat.reduceEqDiff, ev_vc0 sg ⟨rd_i h, mc0⟩, ev_look (x := 110) (pc := 6) (dd := 62) (ps := #[(101, 47), (110, 42), (115, 52), (119, 57)]) (t := 48) (by decide), a20_48, k20_48, a20_74, k20_74, rd_48 h, nI_s1, n0]
  · rw [if_neg c1] at hw
    by_cases c2 : btc tp L p = 101
    · rw [if_pos c2] at hw
      injection hw with hw
      subst hw
      rw [c2] at sg
      simp only [ev_iconst, ev_lconst, ev_null, ev_il0, ev_ll0, ev_al0, ev_an0, ev_il1, ev_ll1, ev_al1, ev_an1, ev_il2, ev_ll2, ev_al2, ev_an2, ev_il3, ev_ll3, ev_al3, ev_an3, ev_il4, ev_ll4, ev_al4, ev_an4, ev_il5, ev_ll5, ev_al5, ev_an5, ev_il6, ev_ll6, ev_al6, ev_an6, ev_il7, ev_ll7, ev_al7, ev_an7, ev_il8, ev_ll8, ev_al8, ev_an8, ev_il9, ev_ll9, ev_al9, ev_an9, ev_il10, ev_ll10, ev_al10, ev_an10, ev_il11, ev_ll11, ev_al11, ev_an11, ev_il12, ev_ll12, ev_al12, ev_an12, ev_il13, ev_ll13, ev_al13, ev_an13, ev_inc0, ev_is0, ev_as0, ev_asN0, ev_ls0, ev_inc1, ev_is1, ev_as1, ev_asN1, ev_ls1, ev_inc2, ev_is2, ev_as2, ev_asN2, ev_ls2, ev_inc3, ev_is3, ev_as3, ev_asN3, ev_ls3, ev_inc4, ev_is4, ev_as4, ev_asN4, ev_ls4, ev_inc5, ev_is5, ev_as5, ev_asN5, ev_ls5, ev_inc6, ev_is6, ev_as6, ev_asN6, ev_ls6, ev_inc7, ev_is7, ev_as7, ev_asN7, ev_ls7, ev_inc8, ev_is8, ev_as8, ev_asN8, ev_ls8, ev_inc9, ev_is9, ev_as9, ev_asN9, ev_ls9, ev_inc10, ev_is10, ev_as10, ev_asN10, ev_ls10, ev_inc11, ev_is11, ev_as11, ev_asN11, ev_ls11, ev_inc12, ev_is12, ev_as12, ev_asN12, ev_ls12, ev_inc13, ev_is13, ev_as13, ev_asN13, ev_ls13, lkl_none, lkl_int, lkl_ref, lkl_null, lkl_long, ev_iadd, ev_isub, ev_imul, ev_iand, ev_ior, ev_ixor, ev_ishl, ev_ishr, ev_iushr, ev_ladd, ev_lsub, ev_land, ev_lor, ev_lxor, ev_lshl, ev_lshr, ev_lushr, ev_lcmp, ev_ineg, ev_i2l, ev_l2i, ev_i2b, ev_i2s, ev_dupi, ev_dupr, ev_dup2l, ev_dup2ir, ev_popi, ev_popr, ev_idiv, ev_irem, ev_iaload, ev_laload, ev_aaload, ev_iastore, ev_lastore, ev_getf, ev_putf, ev_gets1, ev_gets2, ev_new, ev_newi, ev_newl, ev_newq, ev_goto, ev_iceq, ev_icne, ev_iclt, ev_icge, ev_icgt, ev_icle, ev_ifeq, ev_ifne, ev_iflt, ev_ifge, ev_ifgt, ev_ifle, ev_ifnullR, ev_ifnullN, ev_ifnonnullR, ev_ifnonnullN, ev_oinit, ev_ireturn, ev_zret0, ev_zret1, ev_lreturn, ev_areturn, ev_areturnN, ev_return, ev_mmax, ev_mmin, not_true_eq_false, not_false_eq_true, okI_c, rdI_c, wrI_c, okJ_c, rdJ_c, wrJ_c, okR_2, okR_3, rdR_2, rdR_3, okO_c, rdO_c, wrO_c, isO_c, fget, fset, mfit, mu_1, and_true, true_and, and_self, if_true, if_false, ite_true, ite_false, List.length_cons, List.length_nil, ci_m1005, ci_m1004, ci_m1003, ci_m1002, ci_m1001, ci_m10, ci_m1, ci_0, ci_1, ci_2, ci_3, ci_4, ci_5, ci_6, ci_7, ci_8, ci_9, ci_10, ci_11, ci_12, ci_13, ci_16, ci_17, ci_19, ci_20, ci_30, ci_32, ci_35, ci_38, ci_40, ci_41, ci_42, ci_43, ci_45, ci_48, ci_57, ci_58, ci_59, ci_60, ci_61, ci_63, ci_64, ci_91, ci_93, ci_97, ci_101, ci_104, ci_110, ci_115, ci_119, ci_123, ci_124, ci_125, ci_126, ci_127, ci_136, ci_160, ci_255, ci_256, ci_512, ci_900, ci_5120, ci_65536, cl_m9187201950435737472, cl_m72340172838076674, cl_m1, cl_0, cl_1, cl_3, cl_4, cl_6, cl_7, cl_8, cl_30, cl_255, cl_4294967295, cl_72340172838076673, cl_1085102592571150095, cl_3689348814741910323, cl_6148914691236517205, cl_9187201950435737471, mcat_n, mcat_i, mcat_l, mcat_r, mcat_u, tl_s, tl_n, rf_s, rf_n, Nat.reduceAdd, Nat.reduceLT, Nat.reduceLeDiff, Nat.reduceMul, Nat.reduceEqDiff, ev_vc0 sg ⟨rd_i h, mc0⟩, ev_look (x := 101) (pc := 6) (dd := 62) (ps := #[(101, 47), (110, 42), (115, 52), (119, 57)]) (t := 53) (by decide), a20_53, k20_53, a20_74, k20_74, rd_48 h, nI_s1]
      rfl
    · rw [if_neg c2] at hw
      by_cases c3 : btc tp L p = 115
      · rw [if_pos c3] at hw
        injection hw with hw
        subst hw
        rw [c3] at sg
        simp only [ev_iconst, ev_lconst, ev_null, ev_il0, ev_ll0, ev_al0, ev_an0, ev_il1, ev_ll1, ev_al1, ev_an1, ev_il2, ev_ll2, ev_al2, ev_an2, ev_il3, ev_ll3, ev_al3, ev_an3, ev_il4, ev_ll4, ev_al4, ev_an4, ev_il5, ev_ll5, ev_al5, ev_an5, ev_il6, ev_ll6, ev_al6, ev_an6, ev_il7, ev_ll7, ev_al7, ev_an7, ev_il8, ev_ll8, ev_al8, ev_an8, ev_il9, ev_ll9, ev_al9, ev_an9, ev_il10, ev_ll10, ev_al10, ev_an10, ev_il11, ev_ll11, ev_al11, ev_an11, ev_il12, ev_ll12, ev_al12, ev_an12, ev_il13, ev_ll13, ev_al13, ev_an13, ev_inc0, ev_is0, ev_as0, ev_asN0, ev_ls0, ev_inc1, ev_is1, ev_as1, ev_asN1, ev_ls1, ev_inc2, ev_is2, ev_as2, ev_asN2, ev_ls2, ev_inc3, ev_is3, ev_as3, ev_asN3, ev_ls3, ev_inc4, ev_is4, ev_as4, ev_asN4, ev_ls4, ev_inc5, ev_is5, ev_as5, ev_asN5, ev_ls5, ev_inc6, ev_is6, ev_as6, ev_asN6, ev_ls6, ev_inc7, ev_is7, ev_as7, ev_asN7, ev_ls7, ev_inc8, ev_is8, ev_as8, ev_asN8, ev_ls8, ev_inc9, ev_is9, ev_as9, ev_asN9, ev_ls9, ev_inc10, ev_is10, ev_as10, ev_asN10, ev_ls10, ev_inc11, ev_is11, ev_as11, ev_asN11, ev_ls11, ev_inc12, ev_is12, ev_as12, ev_asN12, ev_ls12, ev_inc13, ev_is13, ev_as13, ev_asN13, ev_ls13, lkl_none, lkl_int, lkl_ref, lkl_null, lkl_long, ev_iadd, ev_isub, ev_imul, ev_iand, ev_ior, ev_ixor, ev_ishl, ev_ishr, ev_iushr, ev_ladd, ev_lsub, ev_land, ev_lor, ev_lxor, ev_lshl, ev_lshr, ev_lushr, ev_lcmp, ev_ineg, ev_i2l, ev_l2i, ev_i2b, ev_i2s, ev_dupi, ev_dupr, ev_dup2l, ev_dup2ir, ev_popi, ev_popr, ev_idiv, ev_irem, ev_iaload, ev_laload, ev_aaload, ev_iastore, ev_lastore, ev_getf, ev_putf, ev_gets1, ev_gets2, ev_new, ev_newi, ev_newl, ev_newq, ev_goto, ev_iceq, ev_icne, ev_iclt, ev_icge, ev_icgt, ev_icle, ev_ifeq, ev_ifne, ev_iflt, ev_ifge, ev_ifgt, ev_ifle, ev_ifnullR, ev_ifnullN, ev_ifnonnullR, ev_ifnonnullN, ev_oinit, ev_ireturn, ev_zret0, ev_zret1, ev_lreturn, ev_areturn, ev_areturnN, ev_return, ev_mmax, ev_mmin, not_true_eq_false, not_false_eq_true, okI_c, rdI_c, wrI_c, okJ_c, rdJ_c, wrJ_c, okR_2, okR_3, rdR_2, rdR_3, okO_c, rdO_c, wrO_c, isO_c, fget, fset, mfit, mu_1, and_true, true_and, and_self, if_true, if_false, ite_true, ite_false, List.length_cons, List.length_nil, ci_m1005, ci_m1004, ci_m1003, ci_m1002, ci_m1001, ci_m10, ci_m1, ci_0, ci_1, ci_2, ci_3, ci_4, ci_5, ci_6, ci_7, ci_8, ci_9, ci_10, ci_11, ci_12, ci_13, ci_16, ci_17, ci_19, ci_20, ci_30, ci_32, ci_35, ci_38, ci_40, ci_41, ci_42, ci_43, ci_45, ci_48, ci_57, ci_58, ci_59, ci_60, ci_61, ci_63, ci_64, ci_91, ci_93, ci_97, ci_101, ci_104, ci_110, ci_115, ci_119, ci_123, ci_124, ci_125, ci_126, ci_127, ci_136, ci_160, ci_255, ci_256, ci_512, ci_900, ci_5120, ci_65536, cl_m9187201950435737472, cl_m72340172838076674, cl_m1, cl_0, cl_1, cl_3, cl_4, cl_6, cl_7, cl_8, cl_30, cl_255, cl_4294967295, cl_72340172838076673, cl_1085102592571150095, cl_3689348814741910323, cl_6148914691236517205, cl_9187201950435737471, mcat_n, mcat_i, mcat_l, mcat_r, mcat_u, tl_s, tl_n, rf_s, rf_n, Nat.reduceAdd, Nat.reduceLT, Nat.reduceLeDiff, Nat.reduceMul, Nat.reduceEqDiff, ev_vc0 sg ⟨rd_i h, mc0⟩, ev_look (x := 115) (pc := 6) (dd := 62) (ps := #[(101, 47), (110, 42), (115, 52), (119, 57)]) (t := 58) (by decide), a20_58, k20_58, a20_74, k20_74, rd_48 h, nI_s1]
        rfl
      · rw [if_neg c3] at hw
        by_cases c4 : btc tp L p = 119
        · rw [if_pos c4] at hw
          injection hw with hw
          subst hw
          rw [c4] at sg
          simp only [ev_iconst, ev_lconst, ev_null, ev_il0, ev_ll0, ev_al0, ev_an0, ev_il1, ev_ll1, ev_al1, ev_an1, ev_il2, ev_ll2, ev_al2, ev_an2, ev_il3, ev_ll3, ev_al3, ev_an3, ev_il4, ev_ll4, ev_al4, ev_an4, ev_il5, ev_ll5, ev_al5, ev_an5, ev_il6, ev_ll6, ev_al6, ev_an6, ev_il7, ev_ll7, ev_al7, ev_an7, ev_il8, ev_ll8, ev_al8, ev_an8, ev_il9, ev_ll9, ev_al9, ev_an9, ev_il10, ev_ll10, ev_al10, ev_an10, ev_il11, ev_ll11, ev_al11, ev_an11, ev_il12, ev_ll12, ev_al12, ev_an12, ev_il13, ev_ll13, ev_al13, ev_an13, ev_inc0, ev_is0, ev_as0, ev_asN0, ev_ls0, ev_inc1, ev_is1, ev_as1, ev_asN1, ev_ls1, ev_inc2, ev_is2, ev_as2, ev_asN2, ev_ls2, ev_inc3, ev_is3, ev_as3, ev_asN3, ev_ls3, ev_inc4, ev_is4, ev_as4, ev_asN4, ev_ls4, ev_inc5, ev_is5, ev_as5, ev_asN5, ev_ls5, ev_inc6, ev_is6, ev_as6, ev_asN6, ev_ls6, ev_inc7, ev_is7, ev_as7, ev_asN7, ev_ls7, ev_inc8, ev_is8, ev_as8, ev_asN8, ev_ls8, ev_inc9, ev_is9, ev_as9, ev_asN9, ev_ls9, ev_inc10, ev_is10, ev_as10, ev_asN10, ev_ls10, ev_inc11, ev_is11, ev_as11, ev_asN11, ev_ls11, ev_inc12, ev_is12, ev_as12, ev_asN12, ev_ls12, ev_inc13, ev_is13, ev_as13, ev_asN13, ev_ls13, lkl_none, lkl_int, lkl_ref, lkl_null, lkl_long, ev_iadd, ev_isub, ev_imul, ev_iand, ev_ior, ev_ixor, ev_ishl, ev_ishr, ev_iushr, ev_ladd, ev_lsub, ev_land, ev_lor, ev_lxor, ev_lshl, ev_lshr, ev_lushr, ev_lcmp, ev_ineg, ev_i2l, ev_l2i, ev_i2b, ev_i2s, ev_dupi, ev_dupr, ev_dup2l, ev_dup2ir, ev_popi, ev_popr, ev_idiv, ev_irem, ev_iaload, ev_laload, ev_aaload, ev_iastore, ev_lastore, ev_getf, ev_putf, ev_gets1, ev_gets2, ev_new, ev_newi, ev_newl, ev_newq, ev_goto, ev_iceq, ev_icne, ev_iclt, ev_icge, ev_icgt, ev_icle, ev_ifeq, ev_ifne, ev_iflt, ev_ifge, ev_ifgt, ev_ifle, ev_ifnullR, ev_ifnullN, ev_ifnonnullR, ev_ifnonnullN, ev_oinit, ev_ireturn, ev_zret0, ev_zret1, ev_lreturn, ev_areturn, ev_areturnN, ev_return, ev_mmax, ev_mmin, not_true_eq_false, not_false_eq_true, okI_c, rdI_c, wrI_c, okJ_c, rdJ_c, wrJ_c, okR_2, okR_3, rdR_2, rdR_3, okO_c, rdO_c, wrO_c, isO_c, fget, fset, mfit, mu_1, and_true, true_and, and_self, if_true, if_false, ite_true, ite_false, List.length_cons, List.length_nil, ci_m1005, ci_m1004, ci_m1003, ci_m1002, ci_m1001, ci_m10, ci_m1, ci_0, ci_1, ci_2, ci_3, ci_4, ci_5, ci_6, ci_7, ci_8, ci_9, ci_10, ci_11, ci_12, ci_13, ci_16, ci_17, ci_19, ci_20, ci_30, ci_32, ci_35, ci_38, ci_40, ci_41, ci_42, ci_43, ci_45, ci_48, ci_57, ci_58, ci_59, ci_60, ci_61, ci_63, ci_64, ci_91, ci_93, ci_97, ci_101, ci_104, ci_110, ci_115, ci_119, ci_123, ci_124, ci_125, ci_126, ci_127, ci_136, ci_160, ci_255, ci_256, ci_512, ci_900, ci_5120, ci_65536, cl_m9187201950435737472, cl_m72340172838076674, cl_m1, cl_0, cl_1, cl_3, cl_4, cl_6, cl_7, cl_8, cl_30, cl_255, cl_4294967295, cl_72340172838076673, cl_1085102592571150095, cl_3689348814741910323, cl_6148914691236517205, cl_9187201950435737471, mcat_n, mcat_i, mcat_l, mcat_r, mcat_u, tl_s, tl_n, rf_s, rf_n, Nat.reduceAdd, Nat.reduceLT, Nat.reduceLeDiff, Nat.reduceMul, Nat.reduceEqDiff, ev_vc0 sg ⟨rd_i h, mc0⟩, ev_look (x := 119) (pc := 6) (dd := 62) (ps := #[(101, 47), (110, 42), (115, 52), (119, 57)]) (t := 63) (by decide), a20_63, k20_63, a20_74, k20_74, rd_48 h, nI_s1]
          rfl
        · rw [if_neg c4] at hw
          cases hw
theorem wy_lt {c : Int32} {wy : Nat} (h : wyN c = some wy) : wy < 4 ∧ ¬ c = -1 := by
  unfold wyN at h
  by_cases c1 : c = 110
  · rw [if_pos c1] at h; injection h with h; exact ⟨by omega, by rw [c1]; decide⟩
  · rw [if_neg c1] at h
    by_cases c2 : c = 101
    · rw [if_pos c2] at h; injection h with h; exact ⟨by omega, by rw [c2]; decide⟩
    · rw [if_neg c2] at h
      by_cases c3 : c = 115
      · rw [if_pos c3] at h; injection h with h; exact ⟨by omega, by rw [c3]; decide⟩
      · rw [if_neg c3] at h
        by_cases c4 : c = 119
        · rw [if_pos c4] at h; injection h with h; exact ⟨by omega, by rw [c4]; decide⟩
        · rw [if_neg c4] at h; cases h
theorem wy_no {c : Int32} (h : wyN c = none) : ¬ c = 110 ∧ ¬ c = 101 ∧ ¬ c = 115 ∧ ¬ c = 119 := by
  unfold wyN at h
  refine ⟨?_, ?_, ?_, ?_⟩ <;> intro e <;> subst e <;> revert h <;> decide
set_option maxRecDepth 100000 in
theorem r_way0 (h : Rd M tp L W sz cs p dd (-1)) (hp : p ≤ L) (hw : wyN (btc tp L p) = none) : Rt (d + 1) 20 [.ref 48] M (some (.int 0)) (mu M 48 (cO 4 [.ref 49, .ref 51, .int (nI sz), .int (cs), .int (nI p), .int dd, .int (nI p)])) := by
  have hn := wy_no hw
  have e1 : ∀ (k : Int32), ¬ btc tp L p = k → ¬ (k.toInt = (btc tp L p).toInt) := fun k hk z => hk (Int32.toInt_inj.mp z.symm)
  have e2 := e1 110 hn.1
  have e3 := e1 101 hn.2.1
  have e4 := e1 115 hn.2.2.1
  have e5 := e1 119 hn.2.2.2
  have hl : (6 : Int) + Op.lookupswitch.offset (#[(101, 47), (110, 42), (115, 52), (119, 57)] : Array (Int × Int)).toList 62 (btc tp L p).toInt = ((68 : Nat) : Int) := by
    have e2 : ¬ (110 : Int) = (btc tp L p).toInt := e2
    have e3 : ¬ (101 : Int) = (btc tp L p).toInt := e3
    have e4 : ¬ (115 : Int) = (btc tp L p).toInt := e4
    have e5 : ¬ (119 : Int) = (btc tp L p).toInt := e5
    simp [Op.lookupswitch.offset, e2, e3, e4, e5]
  refine rt_of (Nat.le_of_ble_eq_true rfl) ?_
  rw [a20_0, en20]
  unfold k20_0
  have sg := r_sign (d := d) h hp
  simp only [ev_iconst, ev_lconst, ev_null, ev_il0, ev_ll0, ev_al0, ev_an0, ev_il1, ev_ll1, ev_al1, ev_an1, ev_il2, ev_ll2, ev_al2, ev_an2, ev_il3, ev_ll3, ev_al3, ev_an3, ev_il4, ev_ll4, ev_al4, ev_an4, ev_il5, ev_ll5, ev_al5, ev_an5, ev_il6, ev_ll6, ev_al6, ev_an6, ev_il7, ev_ll7, ev_al7, ev_an7, ev_il8, ev_ll8, ev_al8, ev_an8, ev_il9, ev_ll9, ev_al9, ev_an9, ev_il10, ev_ll10, ev_al10, ev_an10, ev_il11, ev_ll11, ev_al11, ev_an11, ev_il12, ev_ll12, ev_al12, ev_an12, ev_il13, ev_ll13, ev_al13, ev_an13, ev_inc0, ev_is0, ev_as0, ev_asN0, ev_ls0, ev_inc1, ev_is1, ev_as1, ev_asN1, ev_ls1, ev_inc2, ev_is2, ev_as2, ev_asN2, ev_ls2, ev_inc3, ev_is3, ev_as3, ev_asN3, ev_ls3, ev_inc4, ev_is4, ev_as4, ev_asN4, ev_ls4, ev_inc5, ev_is5, ev_as5, ev_asN5, ev_ls5, ev_inc6, ev_is6, ev_as6, ev_asN6, ev_ls6, ev_inc7, ev_is7, ev_as7, ev_asN7, ev_ls7, ev_inc8, ev_is8, ev_as8, ev_asN8, ev_ls8, ev_inc9, ev_is9, ev_as9, ev_asN9, ev_ls9, ev_inc10, ev_is10, ev_as10, ev_asN10, ev_ls10, ev_inc11, ev_is11, ev_as11, ev_asN11, ev_ls11, ev_inc12, ev_is12, ev_as12, ev_asN12, ev_ls12, ev_inc13, ev_is13, ev_as13, ev_asN13, ev_ls13, lkl_none, lkl_int, lkl_ref, lkl_null, lkl_long, ev_iadd, ev_isub, ev_imul, ev_iand, ev_ior, ev_ixor, ev_ishl, ev_ishr, ev_iushr, ev_ladd, ev_lsub, ev_land, ev_lor, ev_lxor, ev_lshl, ev_lshr, ev_lushr, ev_lcmp, ev_ineg, ev_i2l, ev_l2i, ev_i2b, ev_i2s, ev_dupi, ev_dupr, ev_dup2l, ev_dup2ir, ev_popi, ev_popr, ev_idiv, ev_irem, ev_iaload, ev_laload, ev_aaload, ev_iastore, ev_lastore, ev_getf, ev_putf, ev_gets1, ev_gets2, ev_new, ev_newi, ev_newl, ev_newq, ev_goto, ev_iceq, ev_icne, ev_iclt, ev_icge, ev_icgt, ev_icle, ev_ifeq, ev_ifne, ev_iflt, ev_ifge, ev_ifgt, ev_ifle, ev_ifnullR, ev_ifnullN, ev_ifnonnullR, ev_ifnonnullN, ev_oinit, ev_ireturn, ev_zret0, ev_zret1, ev_lreturn, ev_areturn, ev_areturnN, ev_return, ev_mmax, ev_mmin, not_true_eq_false, not_false_eq_true, okI_c, rdI_c, wrI_c, okJ_c, rdJ_c, wrJ_c, okR_2, okR_3, rdR_2, rdR_3, okO_c, rdO_c, wrO_c, isO_c, fget, fset, mfit, mu_1, and_true, true_and, and_self, if_true, if_false, ite_true, ite_false, List.length_cons, List.length_nil, ci_m1005, ci_m1004, ci_m1003, ci_m1002, ci_m1001, ci_m10, ci_m1, ci_0, ci_1, ci_2, ci_3, ci_4, ci_5, ci_6, ci_7, ci_8, ci_9, ci_10, ci_11, ci_12, ci_13, ci_16, ci_17, ci_19, ci_20, ci_30, ci_32, ci_35, ci_38, ci_40, ci_41, ci_42, ci_43, ci_45, ci_48, ci_57, ci_58, ci_59, ci_60, ci_61, ci_63, ci_64, ci_91, ci_93, ci_97, ci_101, ci_104, ci_110, ci_115, ci_119, ci_123, ci_124, ci_125, ci_126, ci_127, ci_136, ci_160, ci_255, ci_256, ci_512, ci_900, ci_5120, ci_65536, cl_m9187201950435737472, cl_m72340172838076674, cl_m1, cl_0, cl_1, cl_3, cl_4, cl_6, cl_7, cl_8, cl_30, cl_255, cl_4294967295, cl_72340172838076673, cl_1085102592571150095, cl_3689348814741910323, cl_6148914691236517205, cl_9187201950435737471, mcat_n, mcat_i, mcat_l, mcat_r, mcat_u, tl_s, tl_n, rf_s, rf_n, Nat.reduceAdd, Nat.reduceLT, Nat.reduceLeDiff, Nat.reduceMul, Nat.reduceEqDiff, ev_vc0 sg ⟨rd_i h, mc0⟩, ev_look (pc := 6) hl, a20_68, k20_68, ev_vc0 (r_fail (d := d) h) ⟨rd_i h, mc0⟩]
end RG

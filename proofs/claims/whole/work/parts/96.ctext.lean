/-! The class: text. -/
theorem nI_any (a : Int32) : ∃ n, a = nI n := by
  refine ⟨a.toBitVec.toNat, ?_⟩
  apply Int32.toBitVec_inj.mp
  show a.toBitVec = BitVec.ofNat 32 a.toBitVec.toNat
  apply BitVec.eq_of_toNat_eq
  rw [BitVec.toNat_ofNat, Nat.mod_eq_of_lt a.toBitVec.isLt]
def CTs (p : Pr) (v : Int32) (g g' : Value) (M M' : mM) : Prop := match p with
  | .ok r => v = nI (cnt r.2) ∧ Pg M' M.2.1 M'.2.1 g' r.2 (nI (cnt r.2)) ∧ (∃ P, g' = .ref P) ∧ 1 ≤ cnt r.2
  | .error q => v = -10 - nI q ∧ g' = g
set_option maxRecDepth 100000 in
theorem r_text {D : Nat} {M : mM} {P Kp : Nat → Nat → Int64} {f kf : Nat → Int64} {h kh : Nat} {e ke s ks : Int32} {g kg : Value} {ik : Int32} {rf : Nat → Int32} {so : Nat → Int32} {ln : Nat → Nat} {nu : Nat → Nat → Int64} {tp : Nat → Int32} {tl : Nat} (hp : Per M P Kp f kf h kh e ke s ks g kg ik rf so ln nu tp tl) (hs : Scr M) (hM : 157 ≤ M.2.1) : ∃ M' v g', Rt (D + 43) 96 [.ref 3] M (some (.int v)) M' ∧ Per M' P Kp f kf h kh e ke s ks g' kg ik rf so ln nu tp 0 ∧ Scr M' ∧ (∀ j, (140 ≤ j ∨ j = 0) → j < M.2.1 → M'.1 j = M.1 j) ∧ M.2.1 ≤ M'.2.1 ∧ M'.2.1 ≤ M.2.1 + 500 ∧ M'.2.2 ≤ M.2.2 + 1900 ∧ CTs (pTxt (btc tp tl) tl) v g g' M M' := by
  have hs0 := hs
  obtain ⟨h130, h56, h112, h54, h53, h74, h52, ⟨a2, b2, c2, d2, e2, h48⟩, ⟨W, h51⟩⟩ := hs
  obtain ⟨na, rfl⟩ := nI_any a2
  obtain ⟨nc, rfl⟩ := nI_any c2
  have h49 : M.1 49 = some (cO 7 [.ref 50, .int (nI tl)]) := hp.2.2.2.2.2.2.2.1.1
  have h50 : M.1 50 = some (cI 160 tp) := hp.2.2.2.2.2.2.2.1.2
  have htl : tl ≤ 160 := hp.2.2.2.2.2.2.2.2.2.2.2.2.1
  have he : e = 0 ∨ e = 1 := hp.2.2.2.2.2.2.2.2.2.2.2.2.2.2.2.2.1
  have hr : Rd M tp tl W na b2 nc d2 e2 := ⟨⟨hp.1.1, h48⟩, h49, h50, h51, htl⟩
  obtain ⟨v, M1, r1, o1, c1⟩ := r_read (D := D) hr (by omega)
  have hg := gs_blk (btc_L (tp := tp) (L := tl)) (gs_ded (btc_L (tp := tp) (L := tl)) 4 2) 0 (by omega)
  have k1 : ∀ j, j < 140 → j ≠ 48 → j ≠ 51 → M1.1 j = M.1 j := fun j h1 h2 h3 => o1.1 j (by omega) h2 h3
  have hp1 : Per M1 P Kp f kf h kh e ke s ks g kg ik rf so ln nu tp tl := per_kept hp (fun j h1 h2 => k1 j (by omega) (by omega) (by omega))
  have sc1 : ∀ {w1 x1 p1 : Nat} {W1 : Nat → Int32} {cs1 dd1 fl1 : Int32}, Rd M1 tp tl W1 w1 cs1 p1 dd1 fl1 → Scr M1 := by
    intro w1 x1 p1 W1 cs1 dd1 fl1 h1
    obtain ⟨⟨f1, h130⟩, ⟨G2, h56⟩, ⟨G3, h112⟩, ⟨f4, h54⟩, ⟨fH, h53, h6⟩, h74, ⟨a, b, h52⟩, _, _⟩ := hs0
    exact ⟨⟨f1, slc_kept h130 (k1 _ (by omega) (by omega) (by omega)) (k1 _ (by omega) (by omega) (by omega))⟩, ⟨G2, vrs_kept h56 (fun j _ _ => k1 j (by omega) (by omega) (by omega))⟩, ⟨G3, vrs_kept h112 (fun j _ _ => k1 j (by omega) (by omega) (by omega))⟩, ⟨f4, slc_kept h54 (k1 _ (by omega) (by omega) (by omega)) (k1 _ (by omega) (by omega) (by omega))⟩,
      ⟨fH, by rw [k1 _ (by omega) (by omega) (by omega)]; exact h53, h6⟩, fun i hi => (h74 i hi).imp fun f hf => slc_kept hf (k1 _ (by omega) (by omega) (by omega)) (k1 _ (by omega) (by omega) (by omega)), ⟨a, b, by rw [k1 _ (by omega) (by omega) (by omega)]; exact h52⟩, ⟨_, _, _, _, _, rd_48 h1⟩, ⟨W1, rd_51 h1⟩⟩
  have hp2 := per_tl hp1 (t' := 0) (by omega)
  have n0' : nI 0 = 0 := rfl
  rw [n0'] at hp2
  have l1 := o1.2
  unfold CTs
  cases e0 : pTxt (btc tp tl) tl with
  | error q =>
    rw [e0] at c1
    obtain ⟨W1, sz1, cs1, p1, dd1, h1, rfl, hn1, hz1⟩ := c1
    have hs1 := sc1 (x1 := 0) h1
    refine ⟨mu M1 49 (cO 7 [.ref 50, .int 0]), -10 - nI q, g, ?_, hp2, scr_kept hs1 (fun j _ _ h3 _ => by rw [mu_1, if_neg h3]), fun j h1 h2 => by rw [mu_1, if_neg (by omega)]; exact o1.1 j h2 (by omega) (by omega), l1, hn1, hz1, rfl, rfl⟩
    refine rt_of (Nat.le_of_ble_eq_true rfl) ?_
    rw [a96_0, en96]
    unfold k96_0
    simp only [ev_iconst, ev_lconst, ev_null, ev_il0, ev_ll0, ev_al0, ev_an0, ev_il1, ev_ll1, ev_al1, ev_an1, ev_il2, ev_ll2, ev_al2, ev_an2, ev_il3, ev_ll3, ev_al3, ev_an3, ev_il4, ev_ll4, ev_al4, ev_an4, ev_il5, ev_ll5, ev_al5, ev_an5, ev_il6, ev_ll6, ev_al6, ev_an6, ev_il7, ev_ll7, ev_al7, ev_an7, ev_il8, ev_ll8, ev_al8, ev_an8, ev_il9, ev_ll9, ev_al9, ev_an9, ev_il10, ev_ll10, ev_al10, ev_an10, ev_il11, ev_ll11, ev_al11, ev_an11, ev_il12, ev_ll12, ev_al12, ev_an12, ev_il13, ev_ll13, ev_al13, ev_an13, ev_inc0, ev_is0, ev_as0, ev_asN0, ev_ls0, ev_inc1, ev_is1, ev_as1, ev_asN1, ev_ls1, ev_inc2, ev_is2, ev_as2, ev_asN2, ev_ls2, ev_inc3, ev_is3, ev_as3, ev_asN3, ev_ls3, ev_inc4, ev_is4, ev_as4, ev_asN4, ev_ls4, ev_inc5, ev_is5, ev_as5, ev_asN5, ev_ls5, ev_inc6, ev_is6, ev_as6, ev_asN6, ev_ls6, ev_inc7, ev_is7, ev_as7, ev_asN7, ev_ls7, ev_inc8, ev_is8, ev_as8, ev_asN8, ev_ls8, ev_inc9, ev_is9, ev_as9, ev_asN9, ev_ls9, ev_inc10, ev_is10, ev_as10, ev_asN10, ev_ls10, ev_inc11, ev_is11, ev_as11, ev_asN11, ev_ls11, ev_inc12, ev_is12, ev_as12, ev_asN12, ev_ls12, ev_inc13, ev_is13, ev_as13, ev_asN13, ev_ls13, lkl_none, lkl_int, lkl_ref, lkl_null, lkl_long, ev_iadd, ev_isub, ev_imul, ev_iand, ev_ior, ev_ixor, ev_ishl, ev_ishr, ev_iushr, ev_ladd, ev_lsub, ev_land, ev_lor, ev_lxor, ev_lshl, ev_lshr, ev_lushr, ev_lcmp, ev_ineg, ev_i2l, ev_l2i, ev_i2b, ev_i2s, ev_dupi, ev_dupr, ev_dup2l, ev_dup2ir, ev_popi, ev_popr, ev_idiv, ev_irem, ev_iaload, ev_laload, ev_aaload, ev_iastore, ev_lastore, ev_getf, ev_putf, ev_gets1, ev_gets2, ev_new, ev_newi, ev_newl, ev_newq, ev_goto, ev_iceq, ev_icne, ev_iclt, ev_icge, ev_icgt, ev_icle, ev_ifeq, ev_ifne, ev_iflt, ev_ifge, ev_ifgt, ev_ifle, ev_ifnullR, ev_ifnullN, ev_ifnonnullR, ev_ifnonnullN, ev_oinit, ev_ireturn, ev_zret0, ev_zret1, ev_lreturn, ev_areturn, ev_areturnN, ev_return, ev_mmax, ev_mmin, not_true_eq_false, not_false_eq_true, okI_c, rdI_c, wrI_c, okJ_c, rdJ_c, wrJ_c, okR_2, okR_3, rdR_2, rdR_3, okO_c, rdO_c, wrO_c, isO_c, fget, fset, mfit, mu_1, and_true, true_and, and_self, if_true, if_false, ite_true, ite_false, List.length_cons, List.length_nil, ci_m1005, ci_m1004, ci_m1003, ci_m1002, ci_m1001, ci_m10, ci_m1, ci_0, ci_1, ci_2, ci_3, ci_4, ci_5, ci_6, ci_7, ci_8, ci_9, ci_10, ci_11, ci_12, ci_13, ci_16, ci_17, ci_19, ci_20, ci_30, ci_32, ci_35, ci_38, ci_40, ci_41, ci_42, ci_43, ci_45, ci_48, ci_57, ci_58, ci_59, ci_60, ci_61, ci_63, ci_64, ci_91, ci_93, ci_97, ci_101, ci_104, ci_110, ci_115, ci_119, ci_123, ci_124, ci_125, ci_126, ci_127, ci_136, ci_160, ci_255, ci_256, ci_512, ci_900, ci_5120, ci_65536, cl_m9187201950435737472, cl_m72340172838076674, cl_m1, cl_0, cl_1, cl_3, cl_4, cl_6, cl_7, cl_8, cl_30, cl_255, cl_4294967295, cl_72340172838076673, cl_1085102592571150095, cl_3689348814741910323, cl_6148914691236517205, cl_9187201950435737471, mcat_n, mcat_i, mcat_l, mcat_r, mcat_u, tl_s, tl_n, rf_s, rf_n, Nat.reduceAdd, Nat.reduceLT, Nat.reduceLeDiff, Nat.reduceMul, Nat.reduceEqDiff, pf_3 hp, ev_vc0 r1 ⟨rd_i hr, mc0⟩, pf_3 hp1, rd_48 h1, rd_49 h1]
  | ok r =>
    rw [e0] at c1
    obtain ⟨W1, sz1, cs1, gg, h1, ⟨Pp, hP1, hP2, rfl, hP3⟩, hd1, hn1, hz1⟩ := c1
    have hs1 := sc1 (x1 := 0) h1
    have hp3 := per_W hp2 (e' := e) (s' := s) (g' := .ref Pp) he rfl
    have hr2 : nst r.2 ≤ 4 ∧ 1 ≤ cnt r.2 := by
      unfold pTxt at e0
      cases e1 : pBlk (btc tp tl) (pDed (btc tp tl) 4 2) 0 with
      | error q => rw [e1] at e0; cases e0
      | ok r' =>
        rw [e1] at e0
        simp only at e0
        by_cases c : r'.1 < tl
        · rw [if_pos c] at e0; cases e0
        · rw [if_neg c] at e0
          injection e0 with e0
          subst e0
          have := hg.1 r' e1
          exact this.2.2
    have k3 : ∀ j, 52 ≤ j → (mu (mu M1 49 (cO 7 [.ref 50, .int 0])) 4 (cO 10 [.ref 5, .ref 23, .int e, .int s, .ref Pp])).1 j = M1.1 j := fun j h1 => by rw [mu_1, if_neg (by omega), mu_1, if_neg (by omega)]
    refine ⟨mu (mu M1 49 (cO 7 [.ref 50, .int 0])) 4 (cO 10 [.ref 5, .ref 23, .int e, .int s, .ref Pp]), nI (cnt r.2), .ref Pp, ?_, hp3, scr_kept hs1 (fun j h1 _ h3 _ => by rw [mu_1, if_neg (by omega), mu_1, if_neg h3]), fun j h1 h2 => by rw [mu_1, if_neg (by omega), mu_1, if_neg (by omega)]; exact o1.1 j h2 (by omega) (by omega), l1, hn1, hz1, rfl, ⟨hr2.1, Or.inr ⟨Pp, gg, rfl, ⟨hP1, hP2⟩, by rw [k3 _ (by omega)]; exact hP3, ddg_k (fun j h1 h2 => k3 j (by omega)) (Nat.le_refl _) (Nat.le_refl _) _ _ _ hd1⟩⟩, ⟨Pp, rfl⟩, hr2.2⟩
    refine rt_of (Nat.le_of_ble_eq_true rfl) ?_
    rw [a96_0, en96]
    unfold k96_0
    have n49 : ¬ Pp = 49 := by omega
    have n4 : ¬ Pp = 4 := by omega
    have h3P : 3 ≤ Pp := by omega
    simp only [ev_iconst, ev_lconst, ev_null, ev_il0, ev_ll0, ev_al0, ev_an0, ev_il1, ev_ll1, ev_al1, ev_an1, ev_il2, ev_ll2, ev_al2, ev_an2, ev_il3, ev_ll3, ev_al3, ev_an3, ev_il4, ev_ll4, ev_al4, ev_an4, ev_il5, ev_ll5, ev_al5, ev_an5, ev_il6, ev_ll6, ev_al6, ev_an6, ev_il7, ev_ll7, ev_al7, ev_an7, ev_il8, ev_ll8, ev_al8, ev_an8, ev_il9, ev_ll9, ev_al9, ev_an9, ev_il10, ev_ll10, ev_al10, ev_an10, ev_il11, ev_ll11, ev_al11, ev_an11, ev_il12, ev_ll12, ev_al12, ev_an12, ev_il13, ev_ll13, ev_al13, ev_an13, ev_inc0, ev_is0, ev_as0, ev_asN0, ev_ls0, ev_inc1, ev_is1, ev_as1, ev_asN1, ev_ls1, ev_inc2, ev_is2, ev_as2, ev_asN2, ev_ls2, ev_inc3, ev_is3, ev_as3, ev_asN3, ev_ls3, ev_inc4, ev_is4, ev_as4, ev_asN4, ev_ls4, ev_inc5, ev_is5, ev_as5, ev_asN5, ev_ls5, ev_inc6, ev_is6, ev_as6, ev_asN6, ev_ls6, ev_inc7, ev_is7, ev_as7, ev_asN7, ev_ls7, ev_inc8, ev_is8, ev_as8, ev_asN8, ev_ls8, ev_inc9, ev_is9, ev_as9, ev_asN9, ev_ls9, ev_inc10, ev_is10, ev_as10, ev_asN10, ev_ls10, ev_inc11, ev_is11, ev_as11, ev_asN11, ev_ls11, ev_inc12, ev_is12, ev_as12, ev_asN12, ev_ls12, ev_inc13, ev_is13, ev_as13, ev_asN13, ev_ls13, lkl_none, lkl_int, lkl_ref, lkl_null, lkl_long, ev_iadd, ev_isub, ev_imul, ev_iand, ev_ior, ev_ixor, ev_ishl, ev_ishr, ev_iushr, ev_ladd, ev_lsub, ev_land, ev_lor, ev_lxor, ev_lshl, ev_lshr, ev_lushr, ev_lcmp, ev_ineg, ev_i2l, ev_l2i, ev_i2b, ev_i2s, ev_dupi, ev_dupr, ev_dup2l, ev_dup2ir, ev_popi, ev_popr, ev_idiv, ev_irem, ev_iaload, ev_laload, ev_aaload, ev_iastore, ev_lastore, ev_getf, ev_putf, ev_gets1, ev_gets2, ev_new, ev_newi, ev_newl, ev_newq, ev_goto, ev_iceq, ev_icne, ev_iclt, ev_icge, ev_icgt, ev_icle, ev_ifeq, ev_ifne, ev_iflt, ev_ifge, ev_ifgt, ev_ifle, ev_ifnullR, ev_ifnullN, ev_ifnonnullR, ev_ifnonnullN, ev_oinit, ev_ireturn, ev_zret0, ev_zret1, ev_lreturn, ev_areturn, ev_areturnN, ev_return, ev_mmax, ev_mmin, not_true_eq_false, not_false_eq_true, okI_c, rdI_c, wrI_c, okJ_c, rdJ_c, wrJ_c, okR_2, okR_3, rdR_2, rdR_3, okO_c, rdO_c, wrO_c, isO_c, fget, fset, mfit, mu_1, and_true, true_and, and_self, if_true, if_false, ite_true, ite_false, List.length_cons, List.length_nil, ci_m1005, ci_m1004, ci_m1003, ci_m1002, ci_m1001, ci_m10, ci_m1, ci_0, ci_1, ci_2, ci_3, ci_4, ci_5, ci_6, ci_7, ci_8, ci_9, ci_10, ci_11, ci_12, ci_13, ci_16, ci_17, ci_19, ci_20, ci_30, ci_32, ci_35, ci_38, ci_40, ci_41, ci_42, ci_43, ci_45, ci_48, ci_57, ci_58, ci_59, ci_60, ci_61, ci_63, ci_64, ci_91, ci_93, ci_97, ci_101, ci_104, ci_110, ci_115, ci_119, ci_123, ci_124, ci_125, ci_126, ci_127, ci_136, ci_160, ci_255, ci_256, ci_512, ci_900, ci_5120, ci_65536, cl_m9187201950435737472, cl_m72340172838076674, cl_m1, cl_0, cl_1, cl_3, cl_4, cl_6, cl_7, cl_8, cl_30, cl_255, cl_4294967295, cl_72340172838076673, cl_1085102592571150095, cl_3689348814741910323, cl_6148914691236517205, cl_9187201950435737471, mcat_n, mcat_i, mcat_l, mcat_r, mcat_u, tl_s, tl_n, rf_s, rf_n, Nat.reduceAdd, Nat.reduceLT, Nat.reduceLeDiff, Nat.reduceMul, Nat.reduceEqDiff, pf_3 hp, ev_vc0 r1 ⟨rd_i hr, mc0⟩, pf_3 hp1, pf_4 hp1, rd_48 h1, rd_49 h1, a96_34, k96_34, hP3, n49, n4, h3P]

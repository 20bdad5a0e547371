/-! The class's reader: blocks and statements within statements. -/
def Gs (L o : Nat) (U : Nat → Pr) : Prop := ∀ p, p ≤ L → (∀ r, U p = .ok r → p < r.1 ∧ r.1 ≤ L ∧ nst r.2 ≤ o ∧ 1 ≤ cnt r.2) ∧ ∀ q, U p = .error q → q ≤ L
section GS
variable {bt : Nat → Int32} {L o : Nat}
theorem gs_e {p q : Nat} {X : Nat × Tr → Prop} {E : Pr} (hE : E = .error q) (hq : q ≤ L) : (∀ r, E = .ok r → X r) ∧ ∀ q', E = .error q' → q' ≤ L := by
  subst hE
  refine ⟨fun r hr => (by cases hr), fun q' hq' => ?_⟩
  injection hq' with hq'
  omega
theorem gs_o {r0 : Nat × Tr} {X : Nat × Tr → Prop} {E : Pr} (hE : E = .ok r0) (hX : X r0) : (∀ r, E = .ok r → X r) ∧ ∀ q', E = .error q' → q' ≤ L := by
  subst hE
  refine ⟨fun r hr => ?_, fun q' hq' => by cases hq'⟩
  injection hr with hr
  subst hr
  exact hX
theorem gs_pln (hL : ∀ p, L ≤ p → bt p = -1) : Gs L o (pPln bt) := by
  intro p hp
  unfold pPln
  by_cases hv : vrb (bt p)
  · rw [if_pos hv]
    have hl0 := bt_lt hL (p := p) (fun z => by rw [z] at hv; exact absurd hv (by decide))
    by_cases c1 : bt (p + 1) = 64
    · rw [if_pos c1]
      have hl1 := bt_lt hL (p := p + 1) (fun z => by rw [z] at c1; exact absurd c1 (by decide))
      cases e2 : wyN (bt (p + 2)) with
      | none => exact gs_e (p := p) rfl (by omega)
      | some wy =>
        have hl2 := bt_lt hL (p := p + 2) (wy_lt e2).2
        simp only
        by_cases c3 : vrb (bt (p + 3))
        · rw [if_pos c3]
          have hl3 := bt_lt hL (p := p + 3) (fun z => by rw [z] at c3; exact absurd c3 (by decide))
          exact gs_o rfl ⟨by show p < p + 4; omega, by show p + 4 ≤ L; omega, Nat.zero_le _, Nat.le_refl _⟩
        · rw [if_neg c3]
          exact gs_e (p := p) rfl (by omega)
    · rw [if_neg c1]
      by_cases c2 : bt (p + 1) = 61
      · rw [if_pos c2]
        have hl1 := bt_lt hL (p := p + 1) (fun z => by rw [z] at c2; exact absurd c2 (by decide))
        have hg := gd_for hL (p + 2) (by omega)
        cases e : pFor bt (p + 2) with
        | error q => exact gs_e (p := p) rfl (hg.2 q e).2
        | ok r =>
          have := hg.1 r e
          exact gs_o rfl ⟨by show p < r.1; omega, this.2.1, Nat.zero_le _, Nat.le_refl _⟩
      · rw [if_neg c2]
        exact gs_e (p := p) rfl (by omega)
  · rw [if_neg hv]
    exact gs_e (p := p) rfl hp
theorem gs_seq (hL : ∀ p, L ≤ p → bt p = -1) {U : Nat → Pr} (hU : Gs L o U) : ∀ n p, p ≤ L → (∀ r, pSeq bt U n p = .ok r → p ≤ r.1 ∧ r.1 ≤ L ∧ nst r.2 ≤ o) ∧ ∀ q, pSeq bt U n p = .error q → q ≤ L := by
  intro n
  induction n with
  | zero => intro p hp; exact gs_o rfl ⟨Nat.le_refl _, hp, Nat.zero_le _⟩
  | succ n ih =>
    intro p hp
    unfold pSeq
    by_cases c : bt p = 59
    · rw [if_pos c]
      have hl := bt_lt hL (p := p) (fun z => by rw [z] at c; exact absurd c (by decide))
      have hu := hU (p + 1) (by omega)
      cases e : U (p + 1) with
      | error q => exact gs_e (p := p) rfl (hu.2 q e)
      | ok r =>
        have h1 := hu.1 r e
        have h2 := ih r.1 h1.2.1
        simp only
        cases e2 : pSeq bt U n r.1 with
        | error q => exact gs_e (p := p) rfl (h2.2 q e2)
        | ok r' =>
          have h3 := h2.1 r' e2
          exact gs_o rfl ⟨by show p ≤ r'.1; omega, h3.2.1, Nat.max_le.mpr ⟨h1.2.2.1, h3.2.2⟩⟩
    · rw [if_neg c]
      exact gs_o rfl ⟨Nat.le_refl _, hp, Nat.zero_le _⟩
theorem gs_blk (hL : ∀ p, L ≤ p → bt p = -1) {U : Nat → Pr} (hU : Gs L o U) : Gs L o (pBlk bt U) := by
  intro p hp
  unfold pBlk
  cases e : U p with
  | error q => exact gs_e (p := p) rfl ((hU p hp).2 q e)
  | ok r =>
    have h1 := (hU p hp).1 r e
    have h2 := gs_seq hL hU 160 r.1 h1.2.1
    simp only
    cases e2 : pSeq bt U 160 r.1 with
    | error q => exact gs_e (p := p) rfl (h2.2 q e2)
    | ok r' =>
      have h3 := h2.1 r' e2
      refine gs_o rfl ⟨by show p < r'.1; omega, h3.2.1, Nat.max_le.mpr ⟨h1.2.2.1, h3.2.2⟩, ?_⟩
      show 1 ≤ cnt r.2 + cnt r'.2
      omega
theorem gs_cho (hL : ∀ p, L ≤ p → bt p = -1) {B : Nat → Pr} (hB : Gs L o B) {p : Nat} (hp : p < L) : (∀ r, pCho bt B p = .ok r → p < r.1 ∧ r.1 ≤ L ∧ nst r.2 ≤ o + 1 ∧ 1 ≤ cnt r.2) ∧ ∀ q, pCho bt B p = .error q → q ≤ L := by
  unfold pCho
  have hg := gd_for hL (p + 1) (by omega)
  cases e : pFor bt (p + 1) with
  | error q => exact gs_e (p := p) rfl (hg.2 q e).2
  | ok r =>
    have h1 := hg.1 r e
    simp only
    by_cases c1 : bt r.1 = 58
    · rw [if_pos c1]
      have hl1 := bt_lt hL (p := r.1) (fun z => by rw [z] at c1; exact absurd c1 (by decide))
      cases e2 : B (r.1 + 1) with
      | error q => exact gs_e (p := p) rfl ((hB (r.1 + 1) (by omega)).2 q e2)
      | ok a =>
        have h2 := (hB (r.1 + 1) (by omega)).1 a e2
        simp only
        by_cases c2 : bt a.1 = 124
        · rw [if_pos c2]
          have hl2 := bt_lt hL (p := a.1) (fun z => by rw [z] at c2; exact absurd c2 (by decide))
          cases e3 : B (a.1 + 1) with
          | error q => exact gs_e (p := p) rfl ((hB (a.1 + 1) (by omega)).2 q e3)
          | ok b =>
            have h3 := (hB (a.1 + 1) (by omega)).1 b e3
            simp only
            by_cases c3 : bt b.1 = 93
            · rw [if_pos c3]
              have hl3 := bt_lt hL (p := b.1) (fun z => by rw [z] at c3; exact absurd c3 (by decide))
              refine gs_o rfl ⟨by show p < b.1 + 1; omega, by show b.1 + 1 ≤ L; omega, ?_, ?_⟩
              · show max (nst a.2) (nst b.2) + 1 ≤ o + 1
                omega
              · show 1 ≤ 1 + cnt a.2 + cnt b.2
                omega
            · rw [if_neg c3]
              exact gs_e (p := p) rfl h3.2.1
        · rw [if_neg c2]
          by_cases c3 : bt a.1 = 93
          · rw [if_pos c3]
            have hl3 := bt_lt hL (p := a.1) (fun z => by rw [z] at c3; exact absurd c3 (by decide))
            refine gs_o rfl ⟨by show p < a.1 + 1; omega, by show a.1 + 1 ≤ L; omega, ?_, ?_⟩
            · show max (nst a.2) 0 + 1 ≤ o + 1
              omega
            · show 1 ≤ 1 + cnt a.2 + 0
              omega
          · rw [if_neg c3]
            exact gs_e (p := p) rfl h2.2.1
    · rw [if_neg c1]
      exact gs_e (p := p) rfl h1.2.1
theorem gs_rep (hL : ∀ p, L ≤ p → bt p = -1) {B : Nat → Pr} (hB : Gs L o B) {p : Nat} (hp : p < L) : (∀ r, pRep bt B p = .ok r → p < r.1 ∧ r.1 ≤ L ∧ nst r.2 ≤ o + 1 ∧ 1 ≤ cnt r.2) ∧ ∀ q, pRep bt B p = .error q → q ≤ L := by
  unfold pRep
  have hg := gd_for hL (p + 1) (by omega)
  cases e : pFor bt (p + 1) with
  | error q => exact gs_e (p := p) rfl (hg.2 q e).2
  | ok r =>
    have h1 := hg.1 r e
    simp only
    by_cases c1 : bt r.1 = 58
    · rw [if_pos c1]
      have hl1 := bt_lt hL (p := r.1) (fun z => by rw [z] at c1; exact absurd c1 (by decide))
      cases e2 : B (r.1 + 1) with
      | error q => exact gs_e (p := p) rfl ((hB (r.1 + 1) (by omega)).2 q e2)
      | ok a =>
        have h2 := (hB (r.1 + 1) (by omega)).1 a e2
        simp only
        by_cases c3 : bt a.1 = 125
        · rw [if_pos c3]
          have hl3 := bt_lt hL (p := a.1) (fun z => by rw [z] at c3; exact absurd c3 (by decide))
          refine gs_o rfl ⟨by show p < a.1 + 1; omega, by show a.1 + 1 ≤ L; omega, ?_, ?_⟩
          · show nst a.2 + 1 ≤ o + 1
            omega
          · show 1 ≤ 1 + cnt a.2
            omega
        · rw [if_neg c3]
          exact gs_e (p := p) rfl h2.2.1
    · rw [if_neg c1]
      exact gs_e (p := p) rfl h1.2.1
theorem gs_ded (hL : ∀ p, L ≤ p → bt p = -1) : ∀ o l, Gs L o (pDed bt o l) := by
  intro o
  induction o with
  | zero => intro l; exact gs_pln hL
  | succ o ih =>
    intro l p hp
    unfold pDed
    by_cases c1 : bt p = 91
    · rw [if_pos c1]
      exact gs_cho hL (gs_blk hL (ih l)) (bt_lt hL (fun z => by rw [z] at c1; exact absurd c1 (by decide)))
    · rw [if_neg c1]
      by_cases c2 : bt p = 123 ∧ 0 < l
      · rw [if_pos c2]
        exact gs_rep hL (gs_blk hL (ih (l - 1))) (bt_lt hL (fun z => by have := c2.1; rw [z] at this; exact absurd this (by decide)))
      · rw [if_neg c2]
        exact gs_pln hL p hp
end GS
def CD (tp : Nat → Int32) (L : Nat) (o l : Int32) (need : Nat) (U : Nat → Pr) : Prop := ∀ (D : Nat) (M : mM) (W : Nat → Int32) (sz : Nat) (cs : Int32) (p nn : Nat), need ≤ D → Rd M tp L W sz cs p (nI nn) (-1) → p ≤ L → 52 ≤ M.2.1 → ∃ M', Rt D 15 [.ref 48, .int o, .int l] M (some (.ref M.2.1)) M' ∧ KOut M M' ∧ M.2.1 < M'.2.1 ∧ DRs tp L M.2.1 M.2.2 p nn (U p) M'
def BRs (tp : Nat → Int32) (L n0 z0 p nn : Nat) (r : Pr) (M' : mM) : Prop := match r with
  | .ok r => ∃ W sz cs, Rd M' tp L W sz cs r.1 (nI (nn + cnt r.2)) (-1) ∧ DdG M' n0 M'.2.1 r.2 false [.ref n0] ∧ M'.2.1 ≤ n0 + 3 * (r.1 - p) ∧ M'.2.2 ≤ z0 + 11 * (r.1 - p)
  | .error q => ∃ W sz cs p' dd', Rd M' tp L W sz cs p' dd' (nI q) ∧ p' ≤ L ∧ M'.2.1 ≤ n0 + 3 * (L - p) + 6 ∧ M'.2.2 ≤ z0 + 11 * (L - p) + 40
def CB (tp : Nat → Int32) (L : Nat) (o l : Int32) (need : Nat) (U : Nat → Pr) : Prop := ∀ (D : Nat) (M : mM) (W : Nat → Int32) (sz : Nat) (cs : Int32) (p nn : Nat), need ≤ D → Rd M tp L W sz cs p (nI nn) (-1) → p ≤ L → 52 ≤ M.2.1 → ∃ M', Rt D 14 [.ref 48, .int o, .int l] M (some (.ref M.2.1)) M' ∧ KOut M M' ∧ BRs tp L M.2.1 M.2.2 p nn (U p) M'
def SRs (tp : Nat → Int32) (L n0 z0 p nn pl : Nat) (k1 k2 k3 k4 : Int32) (f1 f2 f3 : Value) (r : Pr) (M' : mM) : Prop := match r with
  | .ok r => ∃ W sz cs g, Rd M' tp L W sz cs r.1 (nI (nn + cnt r.2)) (-1) ∧ M'.1 pl = some (cO 0 [.int k1, .int k2, .int k3, .int k4, f1, f2, f3, g]) ∧ DdG M' n0 M'.2.1 r.2 false [g] ∧ M'.2.1 ≤ n0 + 3 * (r.1 - p) ∧ M'.2.2 ≤ z0 + 11 * (r.1 - p)
  | .error q => ∃ W sz cs p' dd', Rd M' tp L W sz cs p' dd' (nI q) ∧ p' ≤ L ∧ M'.2.1 ≤ n0 + 3 * (L - p) + 6 ∧ M'.2.2 ≤ z0 + 11 * (L - p) + 40
set_option maxRecDepth 100000 in
theorem cb_blk {tp : Nat → Int32} {L need ob : Nat} {o l : Int32} {U : Nat → Pr} (hg : Gs L ob U) (hU : CD tp L o l need U) : CB tp L o l (need + 1) (pBlk (btc tp L) U) := by
  intro D M W sz cs p nn hD hr hp hM
  obtain ⟨D, rfl⟩ : ∃ D', D = D' + 1 := ⟨D - 1, by omega⟩
  have hL := rd_L hr
  obtain ⟨M1, r1, o1, l1, c1⟩ := hU D M W sz cs p nn (by omega) hr hp hM
  have goal : Ev (D + 1) 14 (mat mTab 14 0) (ment mTab 14 [.ref 48, .int o, .int l]) [] M (fun v' m' => v' = some (.ref M.2.1) ∧ KOut M m' ∧ BRs tp L M.2.1 M.2.2 p nn (pBlk (btc tp L) U p) m') := by
    rw [a14_0, en14]
    unfold k14_0
    simp only [ev_iconst, ev_lconst, ev_null, ev_il0, ev_ll0, ev_al0, ev_an0, ev_il1, ev_ll1, ev_al1, ev_an1, ev_il2, ev_ll2, ev_al2, ev_an2, ev_il3, ev_ll3, ev_al3, ev_an3, ev_il4, ev_ll4, ev_al4, ev_an4, ev_il5, ev_ll5, ev_al5, ev_an5, ev_il6, ev_ll6, ev_al6, ev_an6, ev_il7, ev_ll7, ev_al7, ev_an7, ev_il8, ev_ll8, ev_al8, ev_an8, ev_il9, ev_ll9, ev_al9, ev_an9, ev_il10, ev_ll10, ev_al10, ev_an10, ev_il11, ev_ll11, ev_al11, ev_an11, ev_il12, ev_ll12, ev_al12, ev_an12, ev_il13, ev_ll13, ev_al13, ev_an13, ev_inc0, ev_is0, ev_as0, ev_asN0, ev_ls0, ev_inc1, ev_is1, ev_as1, ev_asN1, ev_ls1, ev_inc2, ev_is2, ev_as2, ev_asN2, ev_ls2, ev_inc3, ev_is3, ev_as3, ev_asN3, ev_ls3, ev_inc4, ev_is4, ev_as4, ev_asN4, ev_ls4, ev_inc5, ev_is5, ev_as5, ev_asN5, ev_ls5, ev_inc6, ev_is6, ev_as6, ev_asN6, ev_ls6, ev_inc7, ev_is7, ev_as7, ev_asN7, ev_ls7, ev_inc8, ev_is8, ev_as8, ev_asN8, ev_ls8, ev_inc9, ev_is9, ev_as9, ev_asN9, ev_ls9, ev_inc10, ev_is10, ev_as10, ev_asN10, ev_ls10, ev_inc11, ev_is11, ev_as11, ev_asN11, ev_ls11, ev_inc12, ev_is12, ev_as12, ev_asN12, ev_ls12, ev_inc13, ev_is13, ev_as13, ev_asN13, ev_ls13, lkl_none, lkl_int, lkl_ref, lkl_null, lkl_long, ev_iadd, ev_isub, ev_imul, ev_iand, ev_ior, ev_ixor, ev_ishl, ev_ishr, ev_iushr, ev_ladd, ev_lsub, ev_land, ev_lor, ev_lxor, ev_lshl, ev_lshr, ev_lushr, ev_lcmp, ev_ineg, ev_i2l, ev_l2i, ev_i2b, ev_i2s, ev_dupi, ev_dupr, ev_dup2l, ev_dup2ir, ev_popi, ev_popr, ev_idiv, ev_irem, ev_iaload, ev_laload, ev_aaload, ev_iastore, ev_lastore, ev_getf, ev_putf, ev_gets1, ev_gets2, ev_new, ev_newi, ev_newl, ev_newq, ev_goto, ev_iceq, ev_icne, ev_iclt, ev_icge, ev_icgt, ev_icle, ev_ifeq, ev_ifne, ev_iflt, ev_ifge, ev_ifgt, ev_ifle, ev_ifnullR, ev_ifnullN, ev_ifnonnullR, ev_ifnonnullN, ev_oinit, ev_ireturn, ev_zret0, ev_zret1, ev_lreturn, ev_areturn, ev_areturnN, ev_return, ev_mmax, ev_mmin, not_true_eq_false, not_false_eq_true, okI_c, rdI_c, wrI_c, okJ_c, rdJ_c, wrJ_c, okR_2, okR_3, rdR_2, rdR_3, okO_c, rdO_c, wrO_c, isO_c, fget, fset, mfit, mu_1, and_true, true_and, and_self, if_true, if_false, ite_true, ite_false, List.length_cons, List.length_nil, ci_m1005, ci_m1004, ci_m1003, ci_m1002, ci_m1001, ci_m10, ci_m1, ci_0, ci_1, ci_2, ci_3, ci_4, ci_5, ci_6, ci_7, ci_8, ci_9, ci_10, ci_11, ci_12, ci_13, ci_16, ci_17, ci_19, ci_20, ci_30, ci_32, ci_35, ci_38, ci_40, ci_41, ci_42, ci_43, ci_45, ci_48, ci_57, ci_58, ci_59, ci_60, ci_61, ci_63, ci_64, ci_91, ci_93, ci_97, ci_101, ci_104, ci_110, ci_115, ci_119, ci_123, ci_124, ci_125, ci_126, ci_127, ci_136, ci_160, ci_255, ci_256, ci_512, ci_900, ci_5120, ci_65536, cl_m9187201950435737472, cl_m72340172838076674, cl_m1, cl_0, cl_1, cl_3, cl_4, cl_6, cl_7, cl_8, cl_30, cl_255, cl_4294967295, cl_72340172838076673, cl_1085102592571150095, cl_3689348814741910323, cl_6148914691236517205, cl_9187201950435737471, mcat_n, mcat_i, mcat_l, mcat_r, mcat_u, tl_s, tl_n, rf_s, rf_n, Nat.reduceAdd, Nat.reduceLT, Nat.reduceLeDiff, Nat.reduceMul, Nat.reduceEqDiff, ev_vc2 r1 ⟨rd_i hr, mc0⟩]
    have quit : ∀ (i : Nat) (pl : Nat) (l6 : Option Value) (M2 : mM) (W2 : Nat → Int32) (sz2 : Nat) (cs2 dd2 : Int32) (p2 q : Nat) (Q : Option Value → mM → Prop), Rd M2 tp L W2 sz2 cs2 p2 dd2 (nI q) → p2 ≤ L → q ≤ 160 → Q (some (.ref M.2.1)) M2 → Ev (D + 1) 14 k14_13 [some (.ref 48), some (.int o), some (.int l), some (.ref M.2.1), some (.ref pl), some (.int (nI i)), l6] [] M2 Q := by
      intro i pl l6 M2 W2 sz2 cs2 dd2 p2 q Q h2 hp2 hq hQ
      unfold k14_13
      by_cases c : (160 : Int32) ≤ nI i
      · simp only [ev_iconst, ev_lconst, ev_null, ev_il0, ev_ll0, ev_al0, ev_an0, ev_il1, ev_ll1, ev_al1, ev_an1, ev_il2, ev_ll2, ev_al2, ev_an2, ev_il3, ev_ll3, ev_al3, ev_an3, ev_il4, ev_ll4, ev_al4, ev_an4, ev_il5, ev_ll5, ev_al5, ev_an5, ev_il6, ev_ll6, ev_al6, ev_an6, ev_il7, ev_ll7, ev_al7, ev_an7, ev_il8, ev_ll8, ev_al8, ev_an8, ev_il9, ev_ll9, ev_al9, ev_an9, ev_il10, ev_ll10, ev_al10, ev_an10, ev_il11, ev_ll11, ev_al11, ev_an11, ev_il12, ev_ll12, ev_al12, ev_an12, ev_il13, ev_ll13, ev_al13, ev_an13, ev_inc0, ev_is0, ev_as0, ev_asN0, ev_ls0, ev_inc1, ev_is1, ev_as1, ev_asN1, ev_ls1, ev_inc2, ev_is2, ev_as2, ev_asN2, ev_ls2, ev_inc3, ev_is3, ev_as3, ev_asN3, ev_ls3, ev_inc4, ev_is4, ev_as4, ev_asN4, ev_ls4, ev_inc5, ev_is5, ev_as5, ev_asN5, ev_ls5, ev_inc6, ev_is6, ev_as6, ev_asN6, ev_ls6, ev_inc7, ev_is7, ev_as7, ev_asN7, ev_ls7, ev_inc8, ev_is8, ev_as8, ev_asN8, ev_ls8, ev_inc9, ev_is9, ev_as9, ev_asN9, ev_ls9, ev_inc10, ev_is10, ev_as10, ev_asN10, ev_ls10, ev_inc11, ev_is11, ev_as11, ev_asN11, ev_ls11, ev_inc12, ev_is12, ev_as12, ev_asN12, ev_ls12, ev_inc13, ev_is13, ev_as13, ev_asN13, ev_ls13, lkl_none, lkl_int, lkl_ref, lkl_null, lkl_long, ev_iadd, ev_isub, ev_imul, ev_iand, ev_ior, ev_ixor, ev_ishl, ev_ishr, ev_iushr, ev_ladd, ev_lsub, ev_land, ev_lor, ev_lxor, ev_lshl, ev_lshr, ev_lushr, ev_lcmp, ev_ineg, ev_i2l, ev_l2i, ev_i2b, ev_i2s, ev_dupi, ev_dupr, ev_dup2l, ev_dup2ir, ev_popi, ev_popr, ev_idiv, ev_irem, ev_iaload, ev_laload, ev_aaload, ev_iastore, ev_lastore, ev_getf, ev_putf, ev_gets1, ev_gets2, ev_new, ev_newi, ev_newl, ev_newq, ev_goto, ev_iceq, ev_icne, ev_iclt, ev_icge, ev_icgt, ev_icle, ev_ifeq, ev_ifne, ev_iflt, ev_ifge, ev_ifgt, ev_ifle, ev_ifnullR, ev_ifnullN, ev_ifnonnullR, ev_ifnonnullN, ev_oinit, ev_ireturn, ev_zret0, ev_zret1, ev_lreturn, ev_areturn, ev_areturnN, ev_return, ev_mmax, ev_mmin, not_true_eq_false, not_false_eq_true, okI_c, rdI_c, wrI_c, okJ_c, rdJ_c, wrJ_c, okR_2, okR_3, rdR_2, rdR_3, okO_c, rdO_c, wrO_c, isO_c, fget, fset, mfit, mu_1, and_true, true_and, and_self, if_true, if_false, ite_true, ite_false, List.length_cons, List.length_nil, ci_m1005, ci_m1004, ci_m1003, ci_m1002, ci_m1001, ci_m10, ci_m1, ci_0, ci_1, ci_2, ci_3, ci_4, ci_5, ci_6, ci_7, ci_8, ci_9, ci_10, ci_11, ci_12, ci_13, ci_16, ci_17, ci_19, ci_20, ci_30, ci_32, ci_35, ci_38, ci_40, ci_41, ci_42, ci_43, ci_45, ci_48, ci_57, ci_58, ci_59, ci_60, ci_61, ci_63, ci_64, ci_91, ci_93, ci_97, ci_101, ci_104, ci_110, ci_115, ci_119, ci_123, ci_124, ci_125, ci_126, ci_127, ci_136, ci_160, ci_255, ci_256, ci_512, ci_900, ci_5120, ci_65536, cl_m9187201950435737472, cl_m72340172838076674, cl_m1, cl_0, cl_1, cl_3, cl_4, cl_6, cl_7, cl_8, cl_30, cl_255, cl_4294967295, cl_72340172838076673, cl_1085102592571150095, cl_3689348814741910323, cl_6148914691236517205, cl_9187201950435737471, mcat_n, mcat_i, mcat_l, mcat_r, mcat_u, tl_s, tl_n, rf_s, rf_n, Nat.reduceAdd, Nat.reduceLT, Nat.reduceLeDiff, Nat.reduceMul, Nat.reduceEqDiff, eq_true c, a14_65, k14_65]
        exact hQ
      · simp only [ev_iconst, ev_lconst, ev_null, ev_il0, ev_ll0, ev_al0, ev_an0, ev_il1, ev_ll1, ev_al1, ev_an1, ev_il2, ev_ll2, ev_al2, ev_an2, ev_il3, ev_ll3, ev_al3, ev_an3, ev_il4, ev_ll4, ev_al4, ev_an4, ev_il5, ev_ll5, ev_al5, ev_an5, ev_il6, ev_ll6, ev_al6, ev_an6, ev_il7, ev_ll7, ev_al7, ev_an7, ev_il8, ev_ll8, ev_al8, ev_an8, ev_il9, ev_ll9, ev_al9, ev_an9, ev_il10, ev_ll10, ev_al10, ev_an10, ev_il11, ev_ll11, ev_al11, ev_an11, ev_il12, ev_ll12, ev_al12, ev_an12, ev_il13, ev_ll13, ev_al13, ev_an13, ev_inc0, ev_is0, ev_as0, ev_asN0, ev_ls0, ev_inc1, ev_is1, ev_as1, ev_asN1, ev_ls1, ev_inc2, ev_is2, ev_as2, ev_asN2, ev_ls2, ev_inc3, ev_is3, ev_as3, ev_asN3, ev_ls3, ev_inc4, ev_is4, ev_as4, ev_asN4, ev_ls4, ev_inc5, ev_is5, ev_as5, ev_asN5, ev_ls5, ev_inc6, ev_is6, ev_as6, ev_asN6, ev_ls6, ev_inc7, ev_is7, ev_as7, ev_asN7, ev_ls7, ev_inc8, ev_is8, ev_as8, ev_asN8, ev_ls8, ev_inc9, ev_is9, ev_as9, ev_asN9, ev_ls9, ev_inc10, ev_is10, ev_as10, ev_asN10, ev_ls10, ev_inc11, ev_is11, ev_as11, ev_asN11, ev_ls11, ev_inc12, ev_is12, ev_as12, ev_asN12, ev_ls12, ev_inc13, ev_is13, ev_as13, ev_asN13, ev_ls13, lkl_none, lkl_int, lkl_ref, lkl_null, lkl_long, ev_iadd, ev_isub, ev_imul, ev_iand, ev_ior, ev_ixor, ev_ishl, ev_ishr, ev_iushr, ev_ladd, ev_lsub, ev_land, ev_lor, ev_lxor, ev_lshl, ev_lshr, ev_lushr, ev_lcmp, ev_ineg, ev_i2l, ev_l2i, ev_i2b, ev_i2s, ev_dupi, ev_dupr, ev_dup2l, ev_dup2ir, ev_popi, ev_popr, ev_idiv, ev_irem, ev_iaload, ev_laload, ev_aaload, ev_iastore, ev_lastore, ev_getf, ev_putf, ev_gets1, ev_gets2, ev_new, ev_newi, ev_newl, ev_newq, ev_goto, ev_iceq, ev_icne, ev_iclt, ev_icge, ev_icgt, ev_icle, ev_ifeq, ev_ifne, ev_iflt, ev_ifge, ev_ifgt, ev_ifle, ev_ifnullR, ev_ifnullN, ev_ifnonnullR, ev_ifnonnullN, ev_oinit, ev_ireturn, ev_zret0, ev_zret1, ev_lreturn, ev_areturn, ev_areturnN, ev_return, ev_mmax, ev_mmin, not_true_eq_false, not_false_eq_true, okI_c, rdI_c, wrI_c, okJ_c, rdJ_c, wrJ_c, okR_2, okR_3, rdR_2, rdR_3, okO_c, rdO_c, wrO_c, isO_c, fget, fset, mfit, mu_1, and_true, true_and, and_self, if_true, if_false, ite_true, ite_false, List.length_cons, List.length_nil, ci_m1005, ci_m1004, ci_m1003, ci_m1002, ci_m1001, ci_m10, ci_m1, ci_0, ci_1, ci_2, ci_3, ci_4, ci_5, ci_6, ci_7, ci_8, ci_9, ci_10, ci_11, ci_12, ci_13, ci_16, ci_17, ci_19, ci_20, ci_30, ci_32, ci_35, ci_38, ci_40, ci_41, ci_42, ci_43, ci_45, ci_48, ci_57, ci_58, ci_59, ci_60, ci_61, ci_63, ci_64, ci_91, ci_93, ci_97, ci_101, ci_104, ci_110, ci_115, ci_119, ci_123, ci_124, ci_125, ci_126, ci_127, ci_136, ci_160, ci_255, ci_256, ci_512, ci_900, ci_5120, ci_65536, cl_m9187201950435737472, cl_m72340172838076674, cl_m1, cl_0, cl_1, cl_3, cl_4, cl_6, cl_7, cl_8, cl_30, cl_255, cl_4294967295, cl_72340172838076673, cl_1085102592571150095, cl_3689348814741910323, cl_6148914691236517205, cl_9187201950435737471, mcat_n, mcat_i, mcat_l, mcat_r, mcat_u, tl_s, tl_n, rf_s, rf_n, Nat.reduceAdd, Nat.reduceLT, Nat.reduceLeDiff, Nat.reduceMul, Nat.reduceEqDiff, eq_false c, ev_vc0 (r_sign_f (d := D) h2 (nq hq) hp2) ⟨rd_i h2, mc0⟩, show ¬ (-1 : Int32) = 59 by decide, a14_65, k14_65]
        exact hQ
    have key : ∀ n i, n + i = 160 → ∀ (M1 : mM) (W1 : Nat → Int32) (sz1 : Nat) (cs1 : Int32) (p1 nn1 pl : Nat) (k1 k2 k3 k4 : Int32) (f1 f2 f3 : Value) (l6 : Option Value), Rd M1 tp L W1 sz1 cs1 p1 (nI nn1) (-1) → p1 ≤ L → 52 ≤ pl → pl < M1.2.1 → M1.1 pl = some (cO 0 [.int k1, .int k2, .int k3, .int k4, f1, f2, f3, .null]) → Ev (D + 1) 14 k14_13 [some (.ref 48), some (.int o), some (.int l), some (.ref M.2.1), some (.ref pl), some (.int (nI i)), l6] [] M1 (fun v' m' => v' = some (.ref M.2.1) ∧ AOut pl M1 m' ∧ SRs tp L M1.2.1 M1.2.2 p1 nn1 pl k1 k2 k3 k4 f1 f2 f3 (pSeq (btc tp L) U n p1) m') := by
      intro n
      induction n with
      | zero =>
        intro i hi M1 W1 sz1 cs1 p1 nn1 pl k1 k2 k3 k4 f1 f2 f3 l6 h1 hp1 hpl hpl2 hc1
        have : i = 160 := by omega
        subst this
        unfold k14_13
        simp only [ev_iconst, ev_lconst, ev_null, ev_il0, ev_ll0, ev_al0, ev_an0, ev_il1, ev_ll1, ev_al1, ev_an1, ev_il2, ev_ll2, ev_al2, ev_an2, ev_il3, ev_ll3, ev_al3, ev_an3, ev_il4, ev_ll4, ev_al4, ev_an4, ev_il5, ev_ll5, ev_al5, ev_an5, ev_il6, ev_ll6, ev_al6, ev_an6, ev_il7, ev_ll7, ev_al7, ev_an7, ev_il8, ev_ll8, ev_al8, ev_an8, ev_il9, ev_ll9, ev_al9, ev_an9, ev_il10, ev_ll10, ev_al10, ev_an10, ev_il11, ev_ll11, ev_al11, ev_an11, ev_il12, ev_ll12, ev_al12, ev_an12, ev_il13, ev_ll13, ev_al13, ev_an13, ev_inc0, ev_is0, ev_as0, ev_asN0, ev_ls0, ev_inc1, ev_is1, ev_as1, ev_asN1, ev_ls1, ev_inc2, ev_is2, ev_as2, ev_asN2, ev_ls2, ev_inc3, ev_is3, ev_as3, ev_asN3, ev_ls3, ev_inc4, ev_is4, ev_as4, ev_asN4, ev_ls4, ev_inc5, ev_is5, ev_as5, ev_asN5, ev_ls5, ev_inc6, ev_is6, ev_as6, ev_asN6, ev_ls6, ev_inc7, ev_is7, ev_as7, ev_asN7, ev_ls7, ev_inc8, ev_is8, ev_as8, ev_asN8, ev_ls8, ev_inc9, ev_is9, ev_as9, ev_asN9, ev_ls9, ev_inc10, ev_is10, ev_as10, ev_asN10, ev_ls10, ev_inc11, ev_is11, ev_as11, ev_asN11, ev_ls11, ev_inc12, ev_is12, ev_as12, ev_asN12, ev_ls12, ev_inc13, ev_is13, ev_as13, ev_asN13, ev_ls13, lkl_none, lkl_int, lkl_ref, lkl_null, lkl_long, ev_iadd, ev_isub, ev_imul, ev_iand, ev_ior, ev_ixor, ev_ishl, ev_ishr, ev_iushr, ev_ladd, ev_lsub, ev_land, ev_lor, ev_lxor, ev_lshl, ev_lshr, ev_lushr, ev_lcmp, ev_ineg, ev_i2l, ev_l2i, ev_i2b, ev_i2s, ev_dupi, ev_dupr, ev_dup2l, ev_dup2ir, ev_popi, ev_popr, ev_idiv, ev_irem, ev_iaload, ev_laload, ev_aaload, ev_iastore, ev_lastore, ev_getf, ev_putf, ev_gets1, ev_gets2, ev_new, ev_newi, ev_newl, ev_newq, ev_goto, ev_iceq, ev_icne, ev_iclt, ev_icge, ev_icgt, ev_icle, ev_ifeq, ev_ifne, ev_iflt, ev_ifge, ev_ifgt, ev_ifle, ev_ifnullR, ev_ifnullN, ev_ifnonnullR, ev_ifnonnullN, ev_oinit, ev_ireturn, ev_zret0, ev_zret1, ev_lreturn, ev_areturn, ev_areturnN, ev_return, ev_mmax, ev_mmin, not_true_eq_false, not_false_eq_true, okI_c, rdI_c, wrI_c, okJ_c, rdJ_c, wrJ_c, okR_2, okR_3, rdR_2, rdR_3, okO_c, rdO_c, wrO_c, isO_c, fget, fset, mfit, mu_1, and_true, true_and, and_self, if_true, if_false, ite_true, ite_false, List.length_cons, List.length_nil, ci_m1005, ci_m1004, ci_m1003, ci_m1002, ci_m1001, ci_m10, ci_m1, ci_0, ci_1, ci_2, ci_3, ci_4, ci_5, ci_6, ci_7, ci_8, ci_9, ci_10, ci_11, ci_12, ci_13, ci_16, ci_17, ci_19, ci_20, ci_30, ci_32, ci_35, ci_38, ci_40, ci_41, ci_42, ci_43, ci_45, ci_48, ci_57, ci_58, ci_59, ci_60, ci_61, ci_63, ci_64, ci_91, ci_93, ci_97, ci_101, ci_104, ci_110, ci_115, ci_119, ci_123, ci_124, ci_125, ci_126, ci_127, ci_136, ci_160, ci_255, ci_256, ci_512, ci_900, ci_5120, ci_65536, cl_m9187201950435737472, cl_m72340172838076674, cl_m1, cl_0, cl_1, cl_3, cl_4, cl_6, cl_7, cl_8, cl_30, cl_255, cl_4294967295, cl_72340172838076673, cl_1085102592571150095, cl_3689348814741910323, cl_6148914691236517205, cl_9187201950435737471, mcat_n, mcat_i, mcat_l, mcat_r, mcat_u, tl_s, tl_n, rf_s, rf_n, Nat.reduceAdd, Nat.reduceLT, Nat.reduceLeDiff, Nat.reduceMul, Nat.reduceEqDiff, show (160 : Int32) ≤ nI 160 by decide, a14_65, k14_65]
        exact ⟨aout_0, W1, sz1, cs1, .null, h1, hc1, ⟨rfl, rfl⟩, by omega, by omega⟩
      | succ n ih =>
        intro i hi M1 W1 sz1 cs1 p1 nn1 pl k1 k2 k3 k4 f1 f2 f3 l6 h1 hp1 hpl hpl2 hc1
        have g1 : ¬ (160 : Int32) ≤ nI i := nI_ge (b := 160) (by omega) (by decide)
        have sg := r_sign (d := D) h1 hp1
        unfold pSeq
        by_cases c : btc tp L p1 = 59
        · rw [if_pos c]
          have hlt := bt_lt btc_L (p := p1) (fun z => by rw [z] at c; exact absurd c (by decide))
          have h1' := rd_o h1 (sz' := sz1) (p' := p1 + 1) (cs' := cs1) (dd' := nI nn1) (fl' := -1)
          obtain ⟨M2, r2, o2, l2, c2⟩ := hU D _ W1 sz1 cs1 (p1 + 1) nn1 (by omega) h1' (by omega) (show 52 ≤ M1.2.1 by omega)
          have hc2 : M2.1 pl = some (cO 0 [.int k1, .int k2, .int k3, .int k4, f1, f2, f3, .null]) := by rw [o2.1 pl hpl2 (by omega) (by omega), mu_1, if_neg (by omega)]; exact hc1
          have l2 : M1.2.1 < M2.2.1 := l2
          have tail : ∀ (Q : Option Value → mM → Prop), Ev (D + 1) 14 k14_13 [some (.ref 48), some (.int o), some (.int l), some (.ref M.2.1), some (.ref M1.2.1), some (.int (nI (i + 1))), some (.ref M1.2.1)] [] (mu M2 pl (cO 0 [.int k1, .int k2, .int k3, .int k4, f1, f2, f3, .ref M1.2.1])) Q → Ev (D + 1) 14 k14_13 [some (.ref 48), some (.int o), some (.int l), some (.ref M.2.1), some (.ref pl), some (.int (nI i)), l6] [] M1 Q := by
            intro Q hQ
            rw [nI_succ i] at hQ
            have r3 := r2
            have i1 := rd_i h1'
            rw [nI_succ p1] at r3 i1
            unfold k14_13
            simp only [ev_iconst, ev_lconst, ev_null, ev_il0, ev_ll0, ev_al0, ev_an0, ev_il1, ev_ll1, ev_al1, ev_an1, ev_il2, ev_ll2, ev_al2, ev_an2, ev_il3, ev_ll3, ev_al3, ev_an3, ev_il4, ev_ll4, ev_al4, ev_an4, ev_il5, ev_ll5, ev_al5, ev_an5, ev_il6, ev_ll6, ev_al6, ev_an6, ev_il7, ev_ll7, ev_al7, ev_an7, ev_il8, ev_ll8, ev_al8, ev_an8, ev_il9, ev_ll9, ev_al9, ev_an9, ev_il10, ev_ll10, ev_al10, ev_an10, ev_il11, ev_ll11, ev_al11, ev_an11, ev_il12, ev_ll12, ev_al12, ev_an12, ev_il13, ev_ll13, ev_al13, ev_an13, ev_inc0, ev_is0, ev_as0, ev_asN0, ev_ls0, ev_inc1, ev_is1, ev_as1, ev_asN1, ev_ls1, ev_inc2, ev_is2, ev_as2, ev_asN2, ev_ls2, ev_inc3, ev_is3, ev_as3, ev_asN3, ev_ls3, ev_inc4, ev_is4, ev_as4, ev_asN4, ev_ls4, ev_inc5, ev_is5, ev_as5, ev_asN5, ev_ls5, ev_inc6, ev_is6, ev_as6, ev_asN6, ev_ls6, ev_inc7, ev_is7, ev_as7, ev_asN7, ev_ls7, ev_inc8, ev_is8, ev_as8, ev_asN8, ev_ls8, ev_inc9, ev_is9, ev_as9, ev_asN9, ev_ls9, ev_inc10, ev_is10, ev_as10, ev_asN10, ev_ls10, ev_inc11, ev_is11, ev_as11, ev_asN11, ev_ls11, ev_inc12, ev_is12, ev_as12, ev_asN12, ev_ls12, ev_inc13, ev_is13, ev_as13, ev_asN13, ev_ls13, lkl_none, lkl_int, lkl_ref, lkl_null, lkl_long, ev_iadd, ev_isub, ev_imul, ev_iand, ev_ior, ev_ixor, ev_ishl, ev_ishr, ev_iushr, ev_ladd, ev_lsub, ev_land, ev_lor, ev_lxor, ev_lshl, ev_lshr, ev_lushr, ev_lcmp, ev_ineg, ev_i2l, ev_l2i, ev_i2b, ev_i2s, ev_dupi, ev_dupr, ev_dup2l, ev_dup2ir, ev_popi, ev_popr, ev_idiv, ev_irem, ev_iaload, ev_laload, ev_aaload, ev_iastore, ev_lastore, ev_getf, ev_putf, ev_gets1, ev_gets2, ev_new, ev_newi, ev_newl, ev_newq, ev_goto, ev_iceq, ev_icne, ev_iclt, ev_icge, ev_icgt, ev_icle, ev_ifeq, ev_ifne, ev_iflt, ev_ifge, ev_ifgt, ev_ifle, ev_ifnullR, ev_ifnullN, ev_ifnonnullR, ev_ifnonnullN, ev_oinit, ev_ireturn, ev_zret0, ev_zret1, ev_lreturn, ev_areturn, ev_areturnN, ev_return, ev_mmax, ev_mmin, not_true_eq_false, not_false_eq_true, okI_c, rdI_c, wrI_c, okJ_c, rdJ_c, wrJ_c, okR_2, okR_3, rdR_2, rdR_3, okO_c, rdO_c, wrO_c, isO_c, fget, fset, mfit, mu_1, and_true, true_and, and_self, if_true, if_false, ite_true, ite_false, List.length_cons, List.length_nil, ci_m1005, ci_m1004, ci_m1003, ci_m1002, ci_m1001, ci_m10, ci_m1, ci_0, ci_1, ci_2, ci_3, ci_4, ci_5, ci_6, ci_7, ci_8, ci_9, ci_10, ci_11, ci_12, ci_13, ci_16, ci_17, ci_19, ci_20, ci_30, ci_32, ci_35, ci_38, ci_40, ci_41, ci_42, ci_43, ci_45, ci_48, ci_57, ci_58, ci_59, ci_60, ci_61, ci_63, ci_64, ci_91, ci_93, ci_97, ci_101, ci_104, ci_110, ci_115, ci_119, ci_123, ci_124, ci_125, ci_126, ci_127, ci_136, ci_160, ci_255, ci_256, ci_512, ci_900, ci_5120, ci_65536, cl_m9187201950435737472, cl_m72340172838076674, cl_m1, cl_0, cl_1, cl_3, cl_4, cl_6, cl_7, cl_8, cl_30, cl_255, cl_4294967295, cl_72340172838076673, cl_1085102592571150095, cl_3689348814741910323, cl_6148914691236517205, cl_9187201950435737471, mcat_n, mcat_i, mcat_l, mcat_r, mcat_u, tl_s, tl_n, rf_s, rf_n, Nat.reduceAdd, Nat.reduceLT, Nat.reduceLeDiff, Nat.reduceMul, Nat.reduceEqDiff, g1, ev_vc0 sg ⟨rd_i h1, mc0⟩, eq_true c, rd_48 h1, ev_vc2 r3 ⟨i1, mc0⟩, hc2, show 3 ≤ pl by omega, a14_13]
            exact hQ
          have a12 : AOut pl M1 (mu M2 pl (cO 0 [.int k1, .int k2, .int k3, .int k4, f1, f2, f3, .ref M1.2.1])) := aout_mu (aout_t (aout_mu aout_0 (Or.inl rfl)) (aout_k o2)) (Or.inr (Or.inr rfl))
          have hu := hg (p1 + 1) (by omega)
          cases e : U (p1 + 1) with
          | error q =>
            rw [e] at c2
            obtain ⟨W3, sz3, cs3, p3, dd3, _, _, _, _, _, _, _, _, h3, hp3, _, hn3, hz3⟩ := c2
            have hn3 : M2.2.1 ≤ M1.2.1 + 3 * (L - (p1 + 1)) + 6 := hn3
            have hz3 : M2.2.2 ≤ M1.2.2 + 11 * (L - (p1 + 1)) + 40 := hz3
            have h4 := rd_mu h3 (a := pl) (c := cO 0 [.int k1, .int k2, .int k3, .int k4, f1, f2, f3, .ref M1.2.1]) hpl
            exact tail _ (quit (i + 1) _ _ _ _ _ _ _ _ q _ h4 hp3 (by have := hu.2 q e; omega) ⟨rfl, a12, W3, sz3, cs3, p3, dd3, h4, hp3, by show M2.2.1 ≤ _; omega, by show M2.2.2 ≤ _; omega⟩)
          | ok r =>
            rw [e] at c2
            obtain ⟨W3, sz3, cs3, q1, q2, q3, q4, e1, e2, e3, h3, hc3, hd3, hn3, hz3⟩ := c2
            have hn3 : M2.2.1 ≤ M1.2.1 + 3 * (r.1 - (p1 + 1)) := hn3
            have hd3 : DdG M2 (M1.2.1 + 1) M2.2.1 r.2 true [.int q1, .int q2, .int q3, .int q4, e1, e2, e3] := hd3
            have hz3 : M2.2.2 ≤ M1.2.2 + 11 * (r.1 - (p1 + 1)) := hz3
            have hr3 := hu.1 r e
            have h4 := rd_mu h3 (a := pl) (c := cO 0 [.int k1, .int k2, .int k3, .int k4, f1, f2, f3, .ref M1.2.1]) hpl
            have hc4 : (mu M2 pl (cO 0 [.int k1, .int k2, .int k3, .int k4, f1, f2, f3, .ref M1.2.1])).1 M1.2.1 = some (cO 0 [.int q1, .int q2, .int q3, .int q4, e1, e2, e3, .null]) := by rw [mu_1, if_neg (by omega)]; exact hc3
            refine tail _ (ev_of (ih (i + 1) (by omega) _ W3 sz3 cs3 r.1 (nn1 + cnt r.2) M1.2.1 q1 q2 q3 q4 e1 e2 e3 _ h4 hr3.2.1 (by omega) l2 hc4) ?_)
            intro v' m' hq
            obtain ⟨hv', a3, s3⟩ := hq
            have a3' : ∀ j, j < M2.2.1 → j ≠ 48 → j ≠ 51 → j ≠ M1.2.1 → m'.1 j = (mu M2 pl (cO 0 [.int k1, .int k2, .int k3, .int k4, f1, f2, f3, .ref M1.2.1])).1 j := a3.1
            have l3 : M2.2.1 ≤ m'.2.1 := a3.2
            refine ⟨hv', ⟨fun j h5 h6 h7 h8 => by rw [a3' j (by omega) h6 h7 (by omega), a12.1 j h5 h6 h7 h8], by omega⟩, ?_⟩
            simp only
            cases e5 : pSeq (btc tp L) U n r.1 with
            | error q =>
              rw [e5] at s3
              obtain ⟨W5, sz5, cs5, p5, dd5, h5, hp5, hn5, hz5⟩ := s3
              have hn5 : m'.2.1 ≤ M2.2.1 + 3 * (L - r.1) + 6 := hn5
              have hz5 : m'.2.2 ≤ M2.2.2 + 11 * (L - r.1) + 40 := hz5
              exact ⟨W5, sz5, cs5, p5, dd5, h5, hp5, by omega, by omega⟩
            | ok r' =>
              rw [e5] at s3
              obtain ⟨W5, sz5, cs5, g5, h5, hc5, hd5, hn5, hz5⟩ := s3
              have hn5 : m'.2.1 ≤ M2.2.1 + 3 * (r'.1 - r.1) := hn5
              have hz5 : m'.2.2 ≤ M2.2.2 + 11 * (r'.1 - r.1) := hz5
              have hd5 : DdG m' M2.2.1 m'.2.1 r'.2 false [g5] := hd5
              have hs5 := (gs_seq (btc_L (tp := tp) (L := L)) hg n r.1 hr3.2.1).1 r' e5
              refine ⟨W5, sz5, cs5, .ref M1.2.1, ?_, ?_, ?_, by show m'.2.1 ≤ M1.2.1 + 3 * (r'.1 - p1); omega, by show m'.2.2 ≤ M1.2.2 + 11 * (r'.1 - p1); omega⟩
              · have : nn1 + cnt (.add r.2 r'.2) = nn1 + cnt r.2 + cnt r'.2 := by show nn1 + (cnt r.2 + cnt r'.2) = _; omega
                show Rd m' tp L W5 sz5 cs5 r'.1 (nI (nn1 + cnt (.add r.2 r'.2))) (-1)
                rw [this]
                exact h5
              · rw [a3' pl (by omega) (by omega) (by omega) (by omega), mu_1, if_pos rfl]
              · refine ⟨rfl, M1.2.1, q1, q2, q3, q4, e1, e2, e3, g5, ⟨Nat.le_refl _, by omega⟩, rfl, hc5, ?_, ?_⟩
                · exact ddg_k (fun j h6 h7 => by rw [a3' j h7 (by omega) (by omega) (by omega), mu_1, if_neg (by omega)]) (by omega) l3 _ _ _ hd3
                · exact ddg_k (fun j _ _ => rfl) (by omega) (Nat.le_refl _) _ _ _ hd5
        · rw [if_neg c]
          unfold k14_13
          simp only [ev_iconst, ev_lconst, ev_null, ev_il0, ev_ll0, ev_al0, ev_an0, ev_il1, ev_ll1, ev_al1, ev_an1, ev_il2, ev_ll2, ev_al2, ev_an2, ev_il3, ev_ll3, ev_al3, ev_an3, ev_il4, ev_ll4, ev_al4, ev_an4, ev_il5, ev_ll5, ev_al5, ev_an5, ev_il6, ev_ll6, ev_al6, ev_an6, ev_il7, ev_ll7, ev_al7, ev_an7, ev_il8, ev_ll8, ev_al8, ev_an8, ev_il9, ev_ll9, ev_al9, ev_an9, ev_il10, ev_ll10, ev_al10, ev_an10, ev_il11, ev_ll11, ev_al11, ev_an11, ev_il12, ev_ll12, ev_al12, ev_an12, ev_il13, ev_ll13, ev_al13, ev_an13, ev_inc0, ev_is0, ev_as0, ev_asN0, ev_ls0, ev_inc1, ev_is1, ev_as1, ev_asN1, ev_ls1, ev_inc2, ev_is2, ev_as2, ev_asN2, ev_ls2, ev_inc3, ev_is3, ev_as3, ev_asN3, ev_ls3, ev_inc4, ev_is4, ev_as4, ev_asN4, ev_ls4, ev_inc5, ev_is5, ev_as5, ev_asN5, ev_ls5, ev_inc6, ev_is6, ev_as6, ev_asN6, ev_ls6, ev_inc7, ev_is7, ev_as7, ev_asN7, ev_ls7, ev_inc8, ev_is8, ev_as8, ev_asN8, ev_ls8, ev_inc9, ev_is9, ev_as9, ev_asN9, ev_ls9, ev_inc10, ev_is10, ev_as10, ev_asN10, ev_ls10, ev_inc11, ev_is11, ev_as11, ev_asN11, ev_ls11, ev_inc12, ev_is12, ev_as12, ev_asN12, ev_ls12, ev_inc13, ev_is13, ev_as13, ev_asN13, ev_ls13, lkl_none, lkl_int, lkl_ref, lkl_null, lkl_long, ev_iadd, ev_isub, ev_imul, ev_iand, ev_ior, ev_ixor, ev_ishl, ev_ishr, ev_iushr, ev_ladd, ev_lsub, ev_land, ev_lor, ev_lxor, ev_lshl, ev_lshr, ev_lushr, ev_lcmp, ev_ineg, ev_i2l, ev_l2i, ev_i2b, ev_i2s, ev_dupi, ev_dupr, ev_dup2l, ev_dup2ir, ev_popi, ev_popr, ev_idiv, ev_irem, ev_iaload, ev_laload, ev_aaload, ev_iastore, ev_lastore, ev_getf, ev_putf, ev_gets1, ev_gets2, ev_new, ev_newi, ev_newl, ev_newq, ev_goto, ev_iceq, ev_icne, ev_iclt, ev_icge, ev_icgt, ev_icle, ev_ifeq, ev_ifne, ev_iflt, ev_ifge, ev_ifgt, ev_ifle, ev_ifnullR, ev_ifnullN, ev_ifnonnullR, ev_ifnonnullN, ev_oinit, ev_ireturn, ev_zret0, ev_zret1, ev_lreturn, ev_areturn, ev_areturnN, ev_return, ev_mmax, ev_mmin, not_true_eq_false, not_false_eq_true, okI_c, rdI_c, wrI_c, okJ_c, rdJ_c, wrJ_c, okR_2, okR_3, rdR_2, rdR_3, okO_c, rdO_c, wrO_c, isO_c, fget, fset, mfit, mu_1, and_true, true_and, and_self, if_true, if_false, ite_true, ite_false, List.length_cons, List.length_nil, ci_m1005, ci_m1004, ci_m1003, ci_m1002, ci_m1001, ci_m10, ci_m1, ci_0, ci_1, ci_2, ci_3, ci_4, ci_5, ci_6, ci_7, ci_8, ci_9, ci_10, ci_11, ci_12, ci_13, ci_16, ci_17, ci_19, ci_20, ci_30, ci_32, ci_35, ci_38, ci_40, ci_41, ci_42, ci_43, ci_45, ci_48, ci_57, ci_58, ci_59, ci_60, ci_61, ci_63, ci_64, ci_91, ci_93, ci_97, ci_101, ci_104, ci_110, ci_115, ci_119, ci_123, ci_124, ci_125, ci_126, ci_127, ci_136, ci_160, ci_255, ci_256, ci_512, ci_900, ci_5120, ci_65536, cl_m9187201950435737472, cl_m72340172838076674, cl_m1, cl_0, cl_1, cl_3, cl_4, cl_6, cl_7, cl_8, cl_30, cl_255, cl_4294967295, cl_72340172838076673, cl_1085102592571150095, cl_3689348814741910323, cl_6148914691236517205, cl_9187201950435737471, mcat_n, mcat_i, mcat_l, mcat_r, mcat_u, tl_s, tl_n, rf_s, rf_n, Nat.reduceAdd, Nat.reduceLT, Nat.reduceLeDiff, Nat.reduceMul, Nat.reduceEqDiff, g1, ev_vc0 sg ⟨rd_i h1, mc0⟩, eq_false c, a14_65, k14_65]
          exact ⟨aout_0, W1, sz1, cs1, .null, h1, hc1, ⟨rfl, rfl⟩, by omega, by omega⟩
    have hu := hg p hp
    unfold pBlk
    cases e : U p with
    | error q =>
      rw [e] at c1
      obtain ⟨W3, sz3, cs3, p3, dd3, _, _, _, _, _, _, _, _, h3, hp3, _, hn3, hz3⟩ := c1
      exact quit 0 _ _ M1 W3 sz3 cs3 dd3 p3 q _ h3 hp3 (by have := hu.2 q e; omega) ⟨rfl, o1, W3, sz3, cs3, p3, dd3, h3, hp3, hn3, hz3⟩
    | ok r =>
      rw [e] at c1
      obtain ⟨W3, sz3, cs3, q1, q2, q3, q4, e1, e2, e3, h3, hc3, hd3, hn3, hz3⟩ := c1
      have hr3 := hu.1 r e
      refine ev_of (key 160 0 rfl M1 W3 sz3 cs3 r.1 (nn + cnt r.2) M.2.1 q1 q2 q3 q4 e1 e2 e3 _ h3 hr3.2.1 hM l1 hc3) ?_
      intro v' m' hq
      obtain ⟨hv', a3, s3⟩ := hq
      refine ⟨hv', ⟨fun j h5 h6 h7 => by rw [a3.1 j (by omega) h6 h7 (by omega), o1.1 j h5 h6 h7], by have := a3.2; omega⟩, ?_⟩
      simp only
      cases e5 : pSeq (btc tp L) U 160 r.1 with
      | error q =>
        rw [e5] at s3
        obtain ⟨W5, sz5, cs5, p5, dd5, h5, hp5, hn5, hz5⟩ := s3
        exact ⟨W5, sz5, cs5, p5, dd5, h5, hp5, by omega, by omega⟩
      | ok r' =>
        rw [e5] at s3
        obtain ⟨W5, sz5, cs5, g5, h5, hc5, hd5, hn5, hz5⟩ := s3
        have hs5 := (gs_seq (btc_L (tp := tp) (L := L)) hg 160 r.1 hr3.2.1).1 r' e5
        refine ⟨W5, sz5, cs5, ?_, ?_, by show m'.2.1 ≤ M.2.1 + 3 * (r'.1 - p); omega, by show m'.2.2 ≤ M.2.2 + 11 * (r'.1 - p); omega⟩
        · have : nn + cnt (.add r.2 r'.2) = nn + cnt r.2 + cnt r'.2 := by show nn + (cnt r.2 + cnt r'.2) = _; omega
          show Rd m' tp L W5 sz5 cs5 r'.1 (nI (nn + cnt (.add r.2 r'.2))) (-1)
          rw [this]
          exact h5
        · have l3 := a3.2
          refine ⟨rfl, M.2.1, q1, q2, q3, q4, e1, e2, e3, g5, ⟨Nat.le_refl _, by omega⟩, rfl, hc5, ?_, ?_⟩
          · exact ddg_k (fun j h6 h7 => a3.1 j h7 (by omega) (by omega) (by omega)) (by omega) l3 _ _ _ hd3
          · exact ddg_k (fun j _ _ => rfl) (by omega) (Nat.le_refl _) _ _ _ hd5
  obtain ⟨v', m', g1, g2, g3⟩ := rt_ex (Nat.le_of_ble_eq_true rfl) goal
  subst g2
  exact ⟨m', g1, g3⟩

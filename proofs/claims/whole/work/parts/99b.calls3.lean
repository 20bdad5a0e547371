/-! Both answer the same: the programs. -/
theorem ndg_k {nd nd' : Nat → Int32} (hk : ∀ j, j < 900 → nd' j = nd j) : ∀ (t : Tr) (o : Bool) (c : Nat) (j : Int32), c ≤ 180 → NdG nd t o c j → NdG nd' t o c j
  | .num _, _, _, _, _, h => h
  | .add s r, o, c, j, hc, h => by
    obtain ⟨h0, i, hi, hj, h1, h2⟩ := h
    exact ⟨h0, i, hi, hj, ndg_k hk s true c _ hc h1, by rw [hk _ (by omega)]; exact ndg_k hk r false c _ hc h2⟩
  | .mulL v x, o, c, j, hc, h => by
    obtain ⟨h0, i, k, hi, hj, hv, h1, h2, h3, hki, h4, h5⟩ := h
    exact ⟨h0, i, k, hi, hj, hv, by rw [hk _ (by omega)]; exact h1, by rw [hk _ (by omega)]; exact h2, by rw [hk _ (by omega)]; exact h3, hki, nd_k x k (fun j hj => hk j (by omega)) h4, h5⟩
  | .mulR (.mulL wy (.var b)) v, o, c, j, hc, h => by
    obtain ⟨h0, i, hi, hj, hv, hw, hb, h1, h2, h3, h4⟩ := h
    exact ⟨h0, i, hi, hj, hv, hw, hb, by rw [hk _ (by omega)]; exact h1, by rw [hk _ (by omega)]; exact h2, by rw [hk _ (by omega)]; exact h3, by rw [hk _ (by omega)]; exact h4⟩
  | .mulR (.add x (.add p q)) _, o, c, j, hc, h => by
    obtain ⟨h0, i, k, hi, hj, h1, h2, hki, h3, h4, h5, h6, h7, h8⟩ := h
    exact ⟨h0, i, k, hi, hj, by rw [hk _ (by omega)]; exact h1, by rw [hk _ (by omega)]; exact h2, hki, nd_k x k (fun j hj => hk j (by omega)) h3, h4, h5, h6, by rw [hk _ (by omega)]; exact ndg_k hk p false i _ (by omega) h7, by rw [hk _ (by omega)]; exact ndg_k hk q false i _ (by omega) h8⟩
  | .mulR (.mulR (.add x p) _) _, o, c, j, hc, h => by
    obtain ⟨h0, i, k, hi, hj, h1, h2, hki, h3, h4, h5, h6, h7⟩ := h
    exact ⟨h0, i, k, hi, hj, by rw [hk _ (by omega)]; exact h1, by rw [hk _ (by omega)]; exact h2, hki, nd_k x k (fun j hj => hk j (by omega)) h3, h4, h5, h6, by rw [hk _ (by omega)]; exact ndg_k hk p false i _ (by omega) h7⟩
  | .var _, _, _, _, _, h => h.elim
  | .mulR (.num _) _, _, _, _, _, h => h.elim
  | .mulR (.var _) _, _, _, _, _, h => h.elim
  | .mulR (.add _ (.num _)) _, _, _, _, _, h => h.elim
  | .mulR (.add _ (.var _)) _, _, _, _, _, h => h.elim
  | .mulR (.add _ (.mulL _ _)) _, _, _, _, _, h => h.elim
  | .mulR (.add _ (.mulR _ _)) _, _, _, _, _, h => h.elim
  | .mulR (.mulL _ (.num _)) _, _, _, _, _, h => h.elim
  | .mulR (.mulL _ (.add _ _)) _, _, _, _, _, h => h.elim
  | .mulR (.mulL _ (.mulL _ _)) _, _, _, _, _, h => h.elim
  | .mulR (.mulL _ (.mulR _ _)) _, _, _, _, _, h => h.elim
  | .mulR (.mulR (.num _) _) _, _, _, _, _, h => h.elim
  | .mulR (.mulR (.var _) _) _, _, _, _, _, h => h.elim
  | .mulR (.mulR (.mulL _ _) _) _, _, _, _, _, h => h.elim
  | .mulR (.mulR (.mulR _ _) _) _, _, _, _, _, h => h.elim
/-! the statements of a text are no more than its bytes -/
section GC
variable {bt : Nat → Int32} {L o : Nat}
theorem gc_pln (hL : ∀ p, L ≤ p → bt p = -1) : ∀ p, p ≤ L → ∀ r, pPln bt p = .ok r → p + cnt r.2 ≤ r.1 := by
  intro p hp r h
  have h1 := ((gs_pln (o := 0) hL p hp).1 r h).1
  have h2 : cnt r.2 = 1 := by
    unfold pPln at h
    split at h
    · split at h
      · split at h
        · cases h
        · split at h
          · injection h with h; subst h; rfl
          · cases h
      · split at h
        · split at h
          · cases h
          · injection h with h; subst h; rfl
        · cases h
    · cases h
  omega
theorem gc_seq (hL : ∀ p, L ≤ p → bt p = -1) {U : Nat → Pr} (hU : Gs L o U) (hC : ∀ p, p ≤ L → ∀ r, U p = .ok r → p + cnt r.2 ≤ r.1) : ∀ n p, p ≤ L → ∀ r, pSeq bt U n p = .ok r → p + cnt r.2 ≤ r.1 := by
  intro n
  induction n with
  | zero => intro p hp r h; injection h with h; subst h; exact Nat.le_refl _
  | succ n ih =>
    intro p hp r0 h
    unfold pSeq at h
    by_cases c : bt p = 59
    · rw [if_pos c] at h
      have hl := bt_lt hL (p := p) (fun z => by rw [z] at c; exact absurd c (by decide))
      cases e : U (p + 1) with
      | error q => rw [e] at h; cases h
      | ok r =>
        rw [e] at h
        simp only at h
        have h1 := ((hU (p + 1) (by omega)).1 r e)
        have h2 := hC (p + 1) (by omega) r e
        cases e2 : pSeq bt U n r.1 with
        | error q => rw [e2] at h; cases h
        | ok r' =>
          rw [e2] at h
          injection h with h
          subst h
          have h3 := ih r.1 h1.2.1 r' e2
          show p + (cnt r.2 + cnt r'.2) ≤ r'.1
          omega
    · rw [if_neg c] at h
      injection h with h; subst h; exact Nat.le_refl _
theorem gc_blk (hL : ∀ p, L ≤ p → bt p = -1) {U : Nat → Pr} (hU : Gs L o U) (hC : ∀ p, p ≤ L → ∀ r, U p = .ok r → p + cnt r.2 ≤ r.1) : ∀ p, p ≤ L → ∀ r, pBlk bt U p = .ok r → p + cnt r.2 ≤ r.1 := by
  intro p hp r0 h
  unfold pBlk at h
  cases e : U p with
  | error q => rw [e] at h; cases h
  | ok r =>
    rw [e] at h
    simp only at h
    have h1 := ((hU p hp).1 r e)
    have h2 := hC p hp r e
    cases e2 : pSeq bt U 160 r.1 with
    | error q => rw [e2] at h; cases h
    | ok r' =>
      rw [e2] at h
      injection h with h
      subst h
      have h3 := gc_seq hL hU hC 160 r.1 h1.2.1 r' e2
      show p + (cnt r.2 + cnt r'.2) ≤ r'.1
      omega
theorem gc_cho (hL : ∀ p, L ≤ p → bt p = -1) {B : Nat → Pr} (hB : Gs L o B) (hC : ∀ p, p ≤ L → ∀ r, B p = .ok r → p + cnt r.2 ≤ r.1) {p : Nat} (hp : p < L) : ∀ r, pCho bt B p = .ok r → p + cnt r.2 ≤ r.1 := by
  intro r0 h
  unfold pCho at h
  have hg := gd_for hL (p + 1) (by omega)
  cases e : pFor bt (p + 1) with
  | error q => rw [e] at h; cases h
  | ok r =>
    rw [e] at h
    simp only at h
    have h1 := hg.1 r e
    by_cases c1 : bt r.1 = 58
    · rw [if_pos c1] at h
      have hl1 := bt_lt hL (p := r.1) (fun z => by rw [z] at c1; exact absurd c1 (by decide))
      cases e2 : B (r.1 + 1) with
      | error q => rw [e2] at h; cases h
      | ok a =>
        rw [e2] at h
        simp only at h
        have h2 := (hB (r.1 + 1) (by omega)).1 a e2
        have k2 := hC (r.1 + 1) (by omega) a e2
        by_cases c2 : bt a.1 = 124
        · rw [if_pos c2] at h
          have hl2 := bt_lt hL (p := a.1) (fun z => by rw [z] at c2; exact absurd c2 (by decide))
          cases e3 : B (a.1 + 1) with
          | error q => rw [e3] at h; cases h
          | ok b =>
            rw [e3] at h
            simp only at h
            have k3 := hC (a.1 + 1) (by omega) b e3
            by_cases c3 : bt b.1 = 93
            · rw [if_pos c3] at h
              injection h with h
              subst h
              show p + (1 + cnt a.2 + cnt b.2) ≤ b.1 + 1
              omega
            · rw [if_neg c3] at h; cases h
        · rw [if_neg c2] at h
          by_cases c3 : bt a.1 = 93
          · rw [if_pos c3] at h
            injection h with h
            subst h
            show p + (1 + cnt a.2 + 0) ≤ a.1 + 1
            omega
          · rw [if_neg c3] at h; cases h
    · rw [if_neg c1] at h; cases h
theorem gc_rep (hL : ∀ p, L ≤ p → bt p = -1) {B : Nat → Pr} (hB : Gs L o B) (hC : ∀ p, p ≤ L → ∀ r, B p = .ok r → p + cnt r.2 ≤ r.1) {p : Nat} (hp : p < L) : ∀ r, pRep bt B p = .ok r → p + cnt r.2 ≤ r.1 := by
  intro r0 h
  unfold pRep at h
  have hg := gd_for hL (p + 1) (by omega)
  cases e : pFor bt (p + 1) with
  | error q => rw [e] at h; cases h
  | ok r =>
    rw [e] at h
    simp only at h
    have h1 := hg.1 r e
    by_cases c1 : bt r.1 = 58
    · rw [if_pos c1] at h
      have hl1 := bt_lt hL (p := r.1) (fun z => by rw [z] at c1; exact absurd c1 (by decide))
      cases e2 : B (r.1 + 1) with
      | error q => rw [e2] at h; cases h
      | ok a =>
        rw [e2] at h
        simp only at h
        have k2 := hC (r.1 + 1) (by omega) a e2
        by_cases c3 : bt a.1 = 125
        · rw [if_pos c3] at h
          injection h with h
          subst h
          show p + (1 + cnt a.2) ≤ a.1 + 1
          omega
        · rw [if_neg c3] at h; cases h
    · rw [if_neg c1] at h; cases h
theorem gc_ded (hL : ∀ p, L ≤ p → bt p = -1) : ∀ o l p, p ≤ L → ∀ r, pDed bt o l p = .ok r → p + cnt r.2 ≤ r.1 := by
  intro o
  induction o with
  | zero => intro l; exact gc_pln hL
  | succ o ih =>
    intro l p hp r h
    unfold pDed at h
    by_cases c1 : bt p = 91
    · rw [if_pos c1] at h
      exact gc_cho hL (gs_blk hL (gs_ded hL o l)) (gc_blk hL (gs_ded hL o l) (ih l)) (bt_lt hL (fun z => by rw [z] at c1; exact absurd c1 (by decide))) r h
    · rw [if_neg c1] at h
      by_cases c2 : bt p = 123 ∧ 0 < l
      · rw [if_pos c2] at h
        exact gc_rep hL (gs_blk hL (gs_ded hL o (l - 1))) (gc_blk hL (gs_ded hL o (l - 1)) (ih (l - 1))) (bt_lt hL (fun z => by have := c2.1; rw [z] at this; exact absurd this (by decide))) r h
      · rw [if_neg c2] at h
        exact gc_pln hL p hp r h
theorem gc_txt (hL : ∀ p, L ≤ p → bt p = -1) {r : Nat × Tr} (h : pTxt bt L = .ok r) : cnt r.2 ≤ L := by
  unfold pTxt at h
  cases e : pBlk bt (pDed bt 4 2) 0 with
  | error q => rw [e] at h; cases h
  | ok r' =>
    rw [e] at h
    simp only at h
    have h1 := gc_blk hL (gs_ded hL 4 2) (gc_ded hL 4 2) 0 (Nat.zero_le _) r' e
    have h2 := ((gs_blk hL (gs_ded hL 4 2) 0 (Nat.zero_le _)).1 r' e).2.1
    by_cases c : r'.1 < L
    · rw [if_pos c] at h; cases h
    · rw [if_neg c] at h
      injection h with h
      subst h
      omega
end GC
section CD2
variable {M M1 : mM} {P Kp : Nat → Nat → Int64} {f kf : Nat → Int64} {h kh : Nat} {e ke s ks : Int32} {g kg : Value} {ik : Int32} {rf so : Nat → Int32} {ln : Nat → Nat} {nu : Nat → Nat → Int64} {tp : Nat → Int32} {tl : Nat} {w rm x bf sx kx : Nat → Int32} {mk km : Nat → Int64} {nd knd fr tq : Nat → Int32} {sh : Nat → Int64} {sq lq cm va : Nat → Int32} {Y KY : YY} {t kt : Tr}
theorem rl_g (hR : Rl M P Kp f kf h kh e ke s ks g kg ik rf so ln nu tp tl w rm x bf sx kx mk km nd knd fr tq sh sq lq cm va Y KY t kt) : g = .null ∨ ∃ p, g = .ref p ∧ ¬ w 17 = 0 ∧ Pn nd w t := by
  obtain ⟨⟨hn, h1⟩, h2⟩ := hR.2.2.2.2.1
  rcases h1 with h1 | ⟨p, s, h1, _⟩
  · exact Or.inl h1.1
  · exact Or.inr ⟨p, h1, (h2 p h1).1, hn, (h2 p h1).2⟩
theorem rl_17 (hR : Rl M P Kp f kf h kh e ke s ks g kg ik rf so ln nu tp tl w rm x bf sx kx mk km nd knd fr tq sh sq lq cm va Y KY t kt) (hg : g = .null) : w 17 = 0 := by
  obtain ⟨⟨hn, h1⟩, h2⟩ := hR.2.2.2.2.1
  rcases h1 with h1 | ⟨p, s, h1, _⟩
  · exact h1.2.2
  · rw [hg] at h1
    cases h1
theorem sm_x (hR : Rl M P Kp f kf h kh e ke s ks g kg ik rf so ln nu tp tl w rm x bf sx kx mk km nd knd fr tq sh sq lq cm va Y KY t kt) {x' : Nat → Int32} {T : Int32} (hx : Row x' Y) : Sm P Kp f kf h kh e ke s ks ik rf so ln nu tp tl (upd w 36 T) rm (x') kx mk km tq sh sq lq Y KY := by
  obtain ⟨a1, a2⟩ := hR.2.2.2.1
  exact ⟨⟨a1.1, hx⟩, a2⟩
theorem k_then (hR : Rl M P Kp f kf h kh e ke s ks g kg ik rf so ln nu tp tl w rm x bf sx kx mk km nd knd fr tq sh sq lq cm va Y KY t kt) (a b c : Int32) : Stp2 98 186 [.int a, .int b, .int c] M := by
  by_cases hb : isv 31 a ∧ isv 64 b ∧ isv 8 c
  · obtain ⟨⟨n, h0, rfl⟩, ⟨a, h1, rfl⟩, ⟨v, h2, rfl⟩⟩ := hb
    rcases rl_g hR with hg | ⟨p, hg, h17, hpn⟩
    · exact stp_r (by decide) hR (r_then_none (d := 191) hR.1 h0 h1 h2 hg) (fun hm => m_then_none (d := 191) hm h0 h1 h2 (rl_17 hR hg))
    · obtain ⟨M1, r1, o1, s1⟩ := r_then (D := 176) hR.1 hR.2.1 (rl_Y hR) (Nat.le_refl 157) hg hR.2.2.2.2.1.1 h0 h1 h2
      refine stp_h hR r1 (per_e hR.1 o1) s1 (cf_e o1) o1.2 (fun hm => ?_)
      obtain ⟨M2, T, x', bf', sx', cm', va', r2, hm2, hx2, o2⟩ := m_then (d := 20) hm (rl_x hR) (rl_h hR) (rl_7 hR) hpn h0 h1 h2 h17
      rw [rl_com hR, rl_9 hR] at r2
      exact ⟨M2, _, _, _, _, _, _, _, _, _, _, _, _, _, Y, r2, hm2, o2, ⟨rfl, rfl, rfl, rfl⟩, sm_x hR hx2⟩
  · exact stp_r (by decide) hR (r_then_bad (d := 191) hR.1 hb) (fun hm => m_then_bad (d := 191) hm hb)
theorem k_first (hR : Rl M P Kp f kf h kh e ke s ks g kg ik rf so ln nu tp tl w rm x bf sx kx mk km nd knd fr tq sh sq lq cm va Y KY t kt) (a b c : Int32) : Stp2 102 190 [.int a, .int b, .int c] M := by
  by_cases hb : isv 64 a ∧ isv 8 b ∧ isv 256 c
  · obtain ⟨⟨n, h0, rfl⟩, ⟨a, h1, rfl⟩, ⟨v, h2, rfl⟩⟩ := hb
    rcases rl_g hR with hg | ⟨p, hg, h17, hpn⟩
    · exact stp_r (by decide) hR (r_first_none (d := 191) hR.1 h0 h1 h2 hg) (fun hm => m_first_none (d := 191) hm h0 h1 h2 (rl_17 hR hg))
    · obtain ⟨M1, r1, o1, s1⟩ := r_first (D := 176) hR.1 hR.2.1 (rl_Y hR) (Nat.le_refl 157) hg hR.2.2.2.2.1.1 h0 h1 h2
      refine stp_h hR r1 (per_e hR.1 o1) s1 (cf_e o1) o1.2 (fun hm => ?_)
      obtain ⟨M2, T, x', bf', sx', cm', va', r2, hm2, hx2, o2⟩ := m_first (d := 20) hm (rl_x hR) (rl_h hR) (rl_7 hR) hpn h0 h1 h2 h17
      rw [rl_com hR, rl_9 hR] at r2
      exact ⟨M2, _, _, _, _, _, _, _, _, _, _, _, _, _, Y, r2, hm2, o2, ⟨rfl, rfl, rfl, rfl⟩, sm_x hR hx2⟩
  · exact stp_r (by decide) hR (r_first_bad (d := 191) hR.1 hb) (fun hm => m_first_bad (d := 191) hm hb)
theorem k_steps (hR : Rl M P Kp f kf h kh e ke s ks g kg ik rf so ln nu tp tl w rm x bf sx kx mk km nd knd fr tq sh sq lq cm va Y KY t kt) (a : Int32) : Stp2 99 187 [.int a] M := by
  by_cases hb : isv 31 a
  · obtain ⟨n, h0, rfl⟩ := hb
    rcases rl_g hR with hg | ⟨p, hg, h17, hpn⟩
    · exact stp_r (by decide) hR (r_steps_none (d := 191) hR.1 h0 hg) (fun hm => m_steps_none (d := 191) hm h0 (rl_17 hR hg))
    · obtain ⟨M1, r1, o1, s1⟩ := r_stepsv (D := 176) hR.1 hR.2.1 (rl_Y hR) (Nat.le_refl 157) hg hR.2.2.2.2.1.1 h0
      refine stp_h hR r1 (per_e hR.1 o1) s1 (cf_e o1) o1.2 (fun hm => ?_)
      obtain ⟨M2, T, x', bf', sx', cm', va', r2, hm2, hx2, o2⟩ := m_steps (d := 20) hm (rl_x hR) (rl_h hR) (rl_7 hR) hpn h0 h17
      rw [rl_com hR, rl_9 hR] at r2
      exact ⟨M2, _, _, _, _, _, _, _, _, _, _, _, _, _, Y, r2, hm2, o2, ⟨rfl, rfl, rfl, rfl⟩, sm_x hR hx2⟩
  · exact stp_r (by decide) hR (r_steps_bad (d := 191) hR.1 hb) (fun hm => m_steps_bad (d := 191) hm hb)
theorem k_changed (hR : Rl M P Kp f kf h kh e ke s ks g kg ik rf so ln nu tp tl w rm x bf sx kx mk km nd knd fr tq sh sq lq cm va Y KY t kt) (a : Int32) : Stp2 100 188 [.int a] M := by
  by_cases hb : isv 31 a
  · obtain ⟨n, h0, rfl⟩ := hb
    rcases rl_g hR with hg | ⟨p, hg, h17, hpn⟩
    · exact stp_q hR (r_changed_none (d := 191) hR.1 h0 hg) (fun hm => m_changed_none (d := 191) hm h0 (rl_17 hR hg))
    · obtain ⟨M1, r1, o1, s1⟩ := r_changedv (D := 176) hR.1 hR.2.1 (rl_Y hR) (Nat.le_refl 157) hg hR.2.2.2.2.1.1 h0
      refine stp_h hR r1 (per_e hR.1 o1) s1 (cf_e o1) o1.2 (fun hm => ?_)
      obtain ⟨M2, T, x', bf', sx', cm', va', r2, hm2, hx2, o2⟩ := m_changed (d := 20) hm (rl_x hR) (rl_h hR) (rl_7 hR) hpn h0 h17
      rw [rl_com hR, rl_9 hR] at r2
      exact ⟨M2, _, _, _, _, _, _, _, _, _, _, _, _, _, Y, r2, hm2, o2, ⟨rfl, rfl, rfl, rfl⟩, sm_x hR hx2⟩
  · exact stp_q hR (r_changed_bad (d := 191) hb) (fun hm => m_changed_bad (w := w) (rf := rm) (x := x) (bf := bf) (sx := sx) (kx := kx) (mk := mk) (km := km) (nd := nd) (knd := knd) (fr := fr) (tp := tq) (sh := sh) (so := sq) (ln := lq) (cm := cm) (va := va) (d := 191) hb)
theorem k_settles (hR : Rl M P Kp f kf h kh e ke s ks g kg ik rf so ln nu tp tl w rm x bf sx kx mk km nd knd fr tq sh sq lq cm va Y KY t kt) : Stp2 101 189 [] M := by
  rcases rl_g hR with hg | ⟨p, hg, h17, hpn⟩
  · exact stp_r (by decide) hR (r_settles_none (d := 191) hR.1  hg) (fun hm => m_settles_none (d := 191) hm  (rl_17 hR hg))
  · obtain ⟨M1, r1, o1, s1⟩ := r_settles (D := 176) hR.1 hR.2.1 (rl_Y hR) (Nat.le_refl 157) hg hR.2.2.2.2.1.1 
    refine stp_h hR r1 (per_e hR.1 o1) s1 (cf_e o1) o1.2 (fun hm => ?_)
    obtain ⟨M2, T, x', bf', sx', cm', va', r2, hm2, hx2, o2⟩ := m_settles (d := 20) hm (rl_x hR) (rl_h hR) (rl_7 hR) hpn  h17
    rw [rl_com hR, rl_9 hR] at r2
    exact ⟨M2, _, _, _, _, _, _, _, _, _, _, _, _, _, Y, r2, hm2, o2, ⟨rfl, rfl, rfl, rfl⟩, sm_x hR hx2⟩
theorem k_again (hR : Rl M P Kp f kf h kh e ke s ks g kg ik rf so ln nu tp tl w rm x bf sx kx mk km nd knd fr tq sh sq lq cm va Y KY t kt) : Stp2 103 191 [] M := by
  rcases rl_g hR with hg | ⟨p, hg, h17, hpn⟩
  · exact stp_r (by decide) hR (r_again_none (d := 191) hR.1  hg) (fun hm => m_again_none (d := 191) hm  (rl_17 hR hg))
  · obtain ⟨M1, r1, o1, s1⟩ := r_again (D := 176) hR.1 hR.2.1 (rl_Y hR) (Nat.le_refl 157) hg hR.2.2.2.2.1.1 
    refine stp_h hR r1 (per_e hR.1 o1) s1 (cf_e o1) o1.2 (fun hm => ?_)
    obtain ⟨M2, T, x', bf', sx', cm', va', r2, hm2, hx2, o2⟩ := m_again (d := 20) hm (rl_x hR) (rl_h hR) (rl_7 hR) hpn  h17
    rw [rl_com hR, rl_9 hR] at r2
    exact ⟨M2, _, _, _, _, _, _, _, _, _, _, _, _, _, Y, r2, hm2, o2, ⟨rfl, rfl, rfl, rfl⟩, sm_x hR hx2⟩
theorem k_run (hR : Rl M P Kp f kf h kh e ke s ks g kg ik rf so ln nu tp tl w rm x bf sx kx mk km nd knd fr tq sh sq lq cm va Y KY t kt) (a : Int32) : Stp2 97 183 [.int a] M := by
  by_cases hb : a < 1 ∨ ¬ a ≤ 30
  · exact stp_r (by decide) hR (r_run_bad (d := 191) hR.1 hb) (fun hm => m_run_bad (d := 191) hm hb)
  · have h1 : ¬ a < 1 := fun c => hb (Or.inl c)
    have h2 : a ≤ 30 := Decidable.of_not_not (fun c => hb (Or.inr c))
    rcases rl_g hR with hg | ⟨p, hg, h17, hpn⟩
    · exact stp_r (by decide) hR (r_run_none (d := 191) hR.1 h1 h2 hg) (fun hm => m_run_none (d := 191) hm h1 h2 (rl_17 hR hg))
    · obtain ⟨n, hn, rfl⟩ : isv 31 a := by
        rcases pk_ix a (show 31 < 2 ^ 31 by decide) with h3 | h3 | h3
        · exact absurd (Int32.lt_iff_toInt_lt.mpr (by have := Int32.lt_iff_toInt_lt.mp h3; rw [show (0 : Int32).toInt = 0 from rfl] at this; rw [show (1 : Int32).toInt = 1 from rfl]; omega)) h1
        · have e1 := Int32.le_iff_toInt_le.mp h3
          have e2 := Int32.le_iff_toInt_le.mp h2
          rw [show (nI 31).toInt = 31 from rfl] at e1
          rw [show (30 : Int32).toInt = 30 from rfl] at e2
          omega
        · exact h3
      have n1 : 1 ≤ n := by
        by_cases c : n = 0
        · subst c
          exact absurd (show nI 0 < 1 by decide) h1
        · omega
      obtain ⟨M1, P', r1, hp1, s1, hY1, o1, o2⟩ := r_run (D := 176) hR.1 hR.2.1 (rl_Y hR) (Nat.le_refl 157) hg hR.2.2.2.2.1.1 n1 (show n ≤ 30 by omega)
      refine stp_h hR r1 hp1 s1 ⟨fun j h1 _ => o1 j (by omega), by rw [o2]; exact Nat.le_refl _⟩ o2 (fun hm => ?_)
      obtain ⟨M2, x', cm', va', r2, hm2, hx2, o3⟩ := m_run (d := 21) hm (rl_x hR) (rl_h hR) (rl_7 hR) hpn n1 (show n ≤ 30 by omega) h17
      rw [rl_com hR, rl_9 hR] at r2 hm2 hx2
      refine ⟨M2, _, _, _, _, _, _, _, _, _, _, _, _, _, (gos e t (mcom f h) n (Y, 0)).1, r2, hm2, o3, ⟨rfl, rfl, rfl, rfl⟩, ?_⟩
      obtain ⟨a1, a2, a3, a4, ⟨b1, b2, b3, b4, b5⟩, a6, a7, a8⟩ := hR.2.2.2.1
      exact ⟨⟨hY1, hx2⟩, a2, a3, a4, ⟨b1, b2, by rw [← b3]; rfl, b4, b5⟩, a6, a7, a8⟩
theorem k_count (hR : Rl M P Kp f kf h kh e ke s ks g kg ik rf so ln nu tp tl w rm x bf sx kx mk km nd knd fr tq sh sq lq cm va Y KY t kt) (a : Int32) : Stp2 112 203 [.int a] M := by
  by_cases ha : isv 5 a
  · obtain ⟨k, hk, rfl⟩ := ha
    refine stp_q hR (r_count (d := 191) hR.1 hR.2.1 (Nat.le_refl 157) hR.2.2.2.2.1.1 hk) (fun hm => ?_)
    have r2 := m_count (d := 191) hm hk
    obtain ⟨a1, a2, a3, a4, ⟨b1, b2, b3, b4, b5⟩, a6, a7, a8⟩ := hR.2.2.2.1
    have e1 : mct w k = cct s h tl (w 17) e k := by
      match k, hk with
      | 0, _ => exact b3
      | 1, _ => exact a3.1
      | 2, _ => exact a7.1
      | 3, _ => exact rfl
      | 4, _ => exact b1
    rw [e1] at r2
    exact r2
  · exact stp_r (by decide) hR (r_count_bad (d := 191) hR.1 ha) (fun hm => m_count_bad (d := 191) hm ha)
theorem btc_e (hR : Rl M P Kp f kf h kh e ke s ks g kg ik rf so ln nu tp tl w rm x bf sx kx mk km nd knd fr tq sh sq lq cm va Y KY t kt) : btc tq tl = btc tp tl := by
  funext j
  unfold btc
  by_cases c : j < tl
  · rw [if_pos c, if_pos c, rl_tq hR j (by have := rl_tl hR; omega)]
  · rw [if_neg c, if_neg c]
theorem k_text (hR : Rl M P Kp f kf h kh e ke s ks g kg ik rf so ln nu tp tl w rm x bf sx kx mk km nd knd fr tq sh sq lq cm va Y KY t kt) : Stp2 96 176 [] M := by
  obtain ⟨M1, v, g', r1, hp1, s1, o1, l1, l2, l3, c1⟩ := r_text (D := 157) hR.1 hR.2.1 hR.2.2.2.2.2.2
  have hc : CF M M1 := ⟨o1, l1⟩
  have hm := rl_m1 hR hc
  obtain ⟨M2, w', fr', nd', v2, r2, hm2, o2, hT, h22, c2⟩ := m_text (d := 160) hm (rl_tl hR) (rl_22 hR)
  rw [btc_e hR] at c2
  have hg := rl_p1 hR hc
  have hS : Sm P Kp f kf h kh e ke s ks ik rf so ln nu tp (0) (w') rm x kx mk km tq sh sq lq Y KY := by
    obtain ⟨a1, a2, a3, a4, ⟨b1, b2, b3, b4, b5⟩, a6, a7, a8⟩ := hR.2.2.2.1
    exact ⟨a1, a2, ⟨by rw [hT 7 (by decide) (by decide) (by decide) (by decide) (by decide) (by decide) (by decide) (by decide) (by decide) (by decide) (by decide)]; exact a3.1, a3.2⟩, ⟨by rw [hT 8 (by decide) (by decide) (by decide) (by decide) (by decide) (by decide) (by decide) (by decide) (by decide) (by decide) (by decide)]; exact a4.1, a4.2⟩, ⟨by rw [hT 9 (by decide) (by decide) (by decide) (by decide) (by decide) (by decide) (by decide) (by decide) (by decide) (by decide) (by decide)]; exact b1, by rw [hT 10 (by decide) (by decide) (by decide) (by decide) (by decide) (by decide) (by decide) (by decide) (by decide) (by decide) (by decide)]; exact b2, by rw [hT 11 (by decide) (by decide) (by decide) (by decide) (by decide) (by decide) (by decide) (by decide) (by decide) (by decide) (by decide)]; exact b3, by rw [hT 12 (by decide) (by decide) (by decide) (by decide) (by decide) (by decide) (by decide) (by decide) (by decide) (by decide) (by decide)]; exact b4, by rw [hT 13 (by decide) (by decide) (by decide) (by decide) (by decide) (by decide) (by decide) (by decide) (by decide) (by decide) (by decide)]; exact b5⟩, a6, ⟨h22, a7.2⟩, a8⟩
  have hk : Pgs M1 kg kt knd (w' 18) (w' 34) := by
    rw [hT 18 (by decide) (by decide) (by decide) (by decide) (by decide) (by decide) (by decide) (by decide) (by decide) (by decide) (by decide), hT 34 (by decide) (by decide) (by decide) (by decide) (by decide) (by decide) (by decide) (by decide) (by decide) (by decide) (by decide)]
    exact hg.2
  generalize hpt : pTxt (btc tp tl) tl = pt at c1 c2
  match pt, c1, c2 with
  | .ok r, c1, c2 =>
    obtain ⟨e1, q1, ⟨p, q2⟩, q3⟩ := c1
    obtain ⟨e2, q4, q5⟩ := c2
    subst e1
    subst e2
    refine stp_mk (t := r.2) (kt := kt) hR.2.2.2.2.2.2 r1 hp1 s1 hc r2 hm2 o2 hS ⟨?_, fun _ _ => ⟨?_, q5.2⟩⟩ hk (md_i hm).2 ⟨l2, l3⟩
    · rw [q4]
      exact pg_k (fun _ _ _ => rfl) hR.2.2.2.2.2.2 (Nat.le_refl _) q1
    · rw [q4]
      intro h0
      have := gc_txt btc_L hpt
      have := rl_tl hR
      have e3 := (nI_eq (a := cnt r.2) (b := 0) (by omega) (by omega)).mp h0
      omega
  | .error q, c1, c2 =>
    obtain ⟨e1, q1⟩ := c1
    obtain ⟨e2, q4, q5, q6⟩ := c2
    subst e1
    subst e2
    subst q1
    subst q4
    refine stp_mk (t := t) (kt := kt) hR.2.2.2.2.2.2 r1 hp1 s1 hc r2 hm2 o2 hS ?_ hk (md_i hm).2 ⟨l2, l3⟩
    rw [q5, q6]
    exact hg.1
theorem whl_muW {M : mM} {W : Nat} {P G : Nat → Nat → Int64} {f g : Nat → Int64} {h0 h e0 e s0 s : Int32} {pg0 pg : Value} (hw : whl M W P f h0 e0 s0 pg0) : whl (muW M W P G f g h e s pg) W (fun v => lfill (G v) (P v) 8) (lfill g f 8) h e s pg := by
  have hv := vrs_muV (G := fun v => lfill (G v) (P v) 8) hw.2.2.1
  refine ⟨hw.1, ?_, vrs_kept hv (fun j h1 h2 => ?_), ?_, ?_, ?_⟩
  · unfold muW; rw [mu_1, if_pos rfl]
  · unfold muW; rw [mu_1, if_neg (by omega), mu_1, if_neg (by omega), mu_1, if_neg (by omega)]
  · have := hw.1; omega
  · unfold muW; rw [mu_1, if_neg (by omega), mu_1, if_pos rfl]
  · unfold muW; rw [mu_1, if_neg (by omega), mu_1, if_neg (by omega), mu_1, if_pos rfl]
theorem pgs_c {M1 : mM} {g : Value} {t : Tr} {nd nd' : Nat → Int32} {a b a' b' : Int32} (ha : a' = a) (hb : b' = b) (hn : ∀ j, j < 900 → nd' j = nd j) (h : Pgs M1 g t nd a b) : Pgs M1 g t nd' a' b' := by
  subst ha
  subst hb
  exact ⟨h.1, fun p hp => ⟨(h.2 p hp).1, ndg_k hn t false 180 _ (Nat.le_refl _) (h.2 p hp).2⟩⟩
theorem k_image (hR : Rl M P Kp f kf h kh e ke s ks g kg ik rf so ln nu tp tl w rm x bf sx kx mk km nd knd fr tq sh sq lq cm va Y KY t kt) : Stp2 110 201 [] M := by
  have r1 := r_image (d := 191) hR.1
  have hc : CF M (mu (muW M 25 Kp P kf f (nI h) e s g) 3 (cO 11 [.ref 4, .ref 25, .int 1, .ref 46, .ref 47, .ref 48, .ref 52, .ref 112, .ref 130])) := cf_mu ⟨fun j h1 _ => muW_out (by omega), Nat.le_refl _⟩ (by decide)
  have hk : ∀ j, j ≠ 3 → (j < 25 ∨ 46 ≤ j) → (mu (muW M 25 Kp P kf f (nI h) e s g) 3 (cO 11 [.ref 4, .ref 25, .int 1, .ref 46, .ref 47, .ref 48, .ref 52, .ref 112, .ref 130])).1 j = M.1 j := fun j h1 h2 => by rw [mu_1, if_neg h1]; exact muW_out (by omega)
  have hp1 : Per (mu (muW M 25 Kp P kf f (nI h) e s g) 3 (cO 11 [.ref 4, .ref 25, .int 1, .ref 46, .ref 47, .ref 48, .ref 52, .ref 112, .ref 130])) P (fun v => lfill (P v) (Kp v) 8) f (lfill f kf 8) h (h) e (e) s (s) g (g) (1) rf so ln nu tp tl := by
    obtain ⟨⟨a1, a2⟩, a3, a4, a5, ⟨fS, a6, a7⟩, a8, a9, ⟨a10, a11⟩, a12, a13, a14, a15, a16, a17, a18, a19, a20, a21⟩ := hR.1
    exact ⟨⟨by rw [hk _ (by decide) (by decide)]; exact a1, by rw [hk _ (by decide) (by decide)]; exact a2⟩, by rw [mu_1, if_pos rfl], whl_kept a4 (fun j h1 h2 => hk j (by omega) (by omega)), whl_kept (whl_muW a5) (fun j h1 h2 => by rw [mu_1, if_neg (by omega)]), ⟨fS, by rw [hk _ (by decide) (by decide)]; exact a6, a7⟩, by rw [hk _ (by decide) (by decide)]; exact a8, fun k hk4 => shf_kept (a9 k hk4) (hk _ (by omega) (by omega)) (hk _ (by omega) (by omega)), ⟨by rw [hk _ (by decide) (by decide)]; exact a10, by rw [hk _ (by decide) (by decide)]; exact a11⟩, a12, a12, a14, a15, a16, Or.inr rfl, a18, a18, a20, a20⟩
  have hm := rl_m1 hR hc
  obtain ⟨M2, r2, hm2, o2⟩ := m_image (d := 191) hm
  have e11 : w 11 = s := hR.2.2.2.1.2.2.2.2.1.2.2.1
  rw [e11] at r2
  have hg := rl_p1 hR hc
  refine stp_mk (t := t) (kt := t) (Y := Y) (KY := Y) hR.2.2.2.2.2.2 r1 hp1 (scr_kept hR.2.1 (fun j h1 _ _ _ => hk j (by omega) (by omega))) hc r2 hm2 o2 ?_ (pgs_c rfl rfl (fun _ _ => rfl) hg.1) (pgs_c rfl rfl (fun j hj => if_pos hj) hg.1) (md_i hm).2 ⟨Nat.le_add_right _ _, Nat.le_add_right _ _⟩
  obtain ⟨a1, a2, a3, a4, ⟨b1, b2, b3, b4, b5⟩, a6, a7, a8⟩ := hR.2.2.2.1
  exact ⟨a1, ⟨cuts_lfill a1.1, row_fill a1.2⟩, a3, ⟨a3.1, fun i hi => by show lfill mk km 8 i = lfill f kf 8 i; unfold lfill; rw [if_pos hi, if_pos hi]; exact a3.2 i hi⟩, ⟨b1, b1, b3, b3, rfl⟩, a6, a7, a8⟩
theorem k_back (hR : Rl M P Kp f kf h kh e ke s ks g kg ik rf so ln nu tp tl w rm x bf sx kx mk km nd knd fr tq sh sq lq cm va Y KY t kt) : Stp2 111 202 [] M := by
  by_cases hi : ik = 0
  · exact stp_r (by decide) hR (r_back_bad (d := 191) hR.1 hi) (fun hm => m_back_bad (d := 191) hm (by rw [rl_13 hR]; exact hi))
  · have r1 := r_back (d := 191) hR.1 hi
    have hc : CF M (muW M 4 P Kp f kf (nI kh) ke ks kg) := ⟨fun j h1 h2 => muW_out (by omega), Nat.le_refl _⟩
    have hk : ∀ j, (j < 4 ∨ 25 ≤ j) → (muW M 4 P Kp f kf (nI kh) ke ks kg).1 j = M.1 j := fun j h1 => muW_out (by omega)
    have hp1 : Per (muW M 4 P Kp f kf (nI kh) ke ks kg) (fun v => lfill (Kp v) (P v) 8) Kp (lfill kf f 8) kf (kh) kh (ke) ke (ks) ks (kg) kg ik rf so ln nu tp tl := by
      obtain ⟨⟨a1, a2⟩, a3, a4, a5, ⟨fS, a6, a7⟩, a8, a9, ⟨a10, a11⟩, a12, a13, a14, a15, a16, a17, a18, a19, a20, a21⟩ := hR.1
      exact ⟨⟨by rw [hk _ (by decide)]; exact a1, by rw [hk _ (by decide)]; exact a2⟩, by rw [hk _ (by decide)]; exact a3, whl_muW a4, whl_kept a5 (fun j h1 h2 => hk j (by omega)), ⟨fS, by rw [hk _ (by decide)]; exact a6, a7⟩, by rw [hk _ (by decide)]; exact a8, fun k hk4 => shf_kept (a9 k hk4) (hk _ (by omega)) (hk _ (by omega)), ⟨by rw [hk _ (by decide)]; exact a10, by rw [hk _ (by decide)]; exact a11⟩, a13, a13, a14, a15, a16, a17, a19, a19, a21, a21⟩
    have hm := rl_m1 hR hc
    obtain ⟨M2, r2, hm2, o2⟩ := m_back (d := 191) hm (by rw [rl_13 hR]; exact hi)
    have e12 : w 12 = ks := hR.2.2.2.1.2.2.2.2.1.2.2.2.1
    rw [e12] at r2
    have hg := rl_p1 hR hc
    refine stp_mk (t := kt) (kt := kt) (Y := KY) (KY := KY) hR.2.2.2.2.2.2 r1 hp1 (scr_kept hR.2.1 (fun j h1 _ _ _ => hk j (by omega))) hc r2 hm2 o2 ?_ (pgs_c rfl rfl (fun j hj => if_pos hj) hg.2) (pgs_c rfl rfl (fun _ _ => rfl) hg.2) (md_i hm).2 ⟨Nat.le_add_right _ _, Nat.le_add_right _ _⟩
    obtain ⟨a1, a2, a3, a4, ⟨b1, b2, b3, b4, b5⟩, a6, a7, a8⟩ := hR.2.2.2.1
    exact ⟨⟨cuts_lfill a2.1, row_fill a2.2⟩, a2, ⟨a4.1, fun i hi => by show lfill km mk 8 i = lfill kf f 8 i; unfold lfill; rw [if_pos hi, if_pos hi]; exact a4.2 i hi⟩, a4, ⟨b2, b2, b4, b4, b5⟩, a6, a7, a8⟩
end CD2

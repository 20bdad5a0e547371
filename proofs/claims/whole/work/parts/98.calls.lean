/-! Both answer the same: lane .. way. -/
section CA
variable {M : mM} {P Kp : Nat → Nat → Int64} {f kf : Nat → Int64} {h kh : Nat} {e ke s ks : Int32} {g kg : Value} {ik : Int32} {rf so : Nat → Int32} {ln : Nat → Nat} {nu : Nat → Nat → Int64} {tp : Nat → Int32} {tl : Nat} {w rm x bf sx kx : Nat → Int32} {mk km : Nat → Int64} {nd knd fr tq : Nat → Int32} {sh : Nat → Int64} {sq lq cm va : Nat → Int32} {Y KY : YY} {t kt : Tr}
theorem rl_e (hR : Rl M P Kp f kf h kh e ke s ks g kg ik rf so ln nu tp tl w rm x bf sx kx mk km nd knd fr tq sh sq lq cm va Y KY t kt) : e = 0 ∨ e = 1 := hR.1.2.2.2.2.2.2.2.2.2.2.2.2.2.2.2.2.1
theorem rl_row (hR : Rl M P Kp f kf h kh e ke s ks g kg ik rf so ln nu tp tl w rm x bf sx kx mk km nd knd fr tq sh sq lq cm va Y KY t kt) {v : Nat} (hv : v < 8) : ∀ l, l < 64 → x (64 * v + l) = i8 (Y v l) := fun l hl => rl_x hR v hv l hl
theorem k_lane (hR : Rl M P Kp f kf h kh e ke s ks g kg ik rf so ln nu tp tl w rm x bf sx kx mk km nd knd fr tq sh sq lq cm va Y KY t kt) (a b : Int32) : Stp2 75 135 [.int a, .int b] M := by
  by_cases hb : isv 64 a ∧ isv 8 b
  · obtain ⟨⟨a, ha, rfl⟩, ⟨v, hv, rfl⟩⟩ := hb
    have r1 := r_lane (d := 191) hR.1 ha hv
    rw [cut_plan (rl_Y hR v hv) ha] at r1
    refine stp_q hR r1 (fun hm => ?_)
    have r2 := m_lane (d := 191) hm ha hv
    rw [rl_x hR v hv a ha] at r2
    exact r2
  · exact stp_r (by decide) hR (r_lane_bad (d := 191) hR.1 hb) (fun hm => m_lane_bad (d := 191) hm hb)
theorem sm_Y (hR : Rl M P Kp f kf h kh e ke s ks g kg ik rf so ln nu tp tl w rm x bf sx kx mk km nd knd fr tq sh sq lq cm va Y KY t kt) {v : Nat} {F : Nat → Int64} {z : Nat → BitVec 8} {x' : Nat → Int32} (hF : Cut F z) (hx : Row x' (yset Y v z)) : Sm (fun w => if w = v then F else P w) Kp f kf h kh e ke s ks ik rf so ln nu tp tl w rm (x') kx mk km tq sh sq lq (yset Y v z) KY := by
  obtain ⟨a1, a2⟩ := hR.2.2.2.1
  exact ⟨⟨cuts_set a1.1 hF, hx⟩, a2⟩
theorem scr_P (hR : Rl M P Kp f kf h kh e ke s ks g kg ik rf so ln nu tp tl w rm x bf sx kx mk km nd knd fr tq sh sq lq cm va Y KY t kt) {v : Nat} (hv : v < 8) {c : mE} : Scr (mu M (7 + 2 * v + 1) c) := scr_kept hR.2.1 (fun j _ _ _ _ => by rw [mu_1, if_neg (by omega)])
theorem k_put (hR : Rl M P Kp f kf h kh e ke s ks g kg ik rf so ln nu tp tl w rm x bf sx kx mk km nd knd fr tq sh sq lq cm va Y KY t kt) (a b c : Int32) : Stp2 76 136 [.int a, .int b, .int c] M := by
  by_cases hb : isv 64 a ∧ isv 8 b ∧ isv 256 c
  · obtain ⟨⟨a, ha, rfl⟩, ⟨v, hv, rfl⟩, ⟨z, hz, rfl⟩⟩ := hb
    have r1 := r_put (d := 191) hR.1 ha hv hz
    rw [cut_plan (rl_Y hR v hv) ha] at r1
    refine stp_g (w' := w) ⟨rfl, rfl, rfl, rfl⟩ hR r1 (per_P hR.1 hv _) (scr_P hR hv) (cf_mu cf_0 (by omega)) rfl (fun hm => ?_) (sm_Y hR (cut_lfill.mpr (by rw [nI_i8 hz]; exact cut_set (rl_Y hR v hv) ha)) (s_put (c := BitVec.ofNat 8 z) (rl_x hR) ha hv))
    have r2 := m_put (d := 191) hm ha hv hz
    rw [rl_x hR v hv a ha] at r2
    rw [← nI_i8 hz]
    exact ⟨_, _, _, _, _, _, r2, mu_x hm, out_mu out_0 (by decide) (by decide)⟩
  · exact stp_r (by decide) hR (r_put_bad (d := 191) hR.1 hb) (fun hm => m_put_bad (d := 191) hm hb)
theorem k_plane (hR : Rl M P Kp f kf h kh e ke s ks g kg ik rf so ln nu tp tl w rm x bf sx kx mk km nd knd fr tq sh sq lq cm va Y KY t kt) (a b : Int32) : Stp2 77 137 [.int a, .int b] M := by
  by_cases hb : isv 8 a ∧ isv 8 b
  · obtain ⟨⟨v, hv, rfl⟩, ⟨k, hk, rfl⟩⟩ := hb
    refine stp_q hR (r_plane (d := 191) hR.1 hv hk) (fun hm => ?_)
    have r2 := m_plane (d := 199) hm hv hk
    rw [s_plane (rl_Y hR) (rl_x hR) hv hk] at r2
    exact r2
  · exact stp_q hR (r_plane_bad (d := 191) hR.1 hb) (fun hm => m_plane_bad (d := 199) hm hb)
theorem k_lay (hR : Rl M P Kp f kf h kh e ke s ks g kg ik rf so ln nu tp tl w rm x bf sx kx mk km nd knd fr tq sh sq lq cm va Y KY t kt) (a b : Int32) (z : Int64) : Stp2 78 138 [.int a, .int b, .long z] M := by
  by_cases hb : isv 8 a ∧ isv 8 b
  · obtain ⟨⟨v, hv, rfl⟩, ⟨k, hk, rfl⟩⟩ := hb
    have hC := c_lay (rl_Y hR) hv hk (m := mcom f h) (z := z)
    have hX := s_lay (rl_x hR) hv hk (m := mcom f h) (z := z)
    have hS := sm_Y hR hC hX
    refine stp_g (w' := w) ⟨rfl, rfl, rfl, rfl⟩ hR (r_lay (d := 191) hR.1 hv hk) (per_P hR.1 hv _) (scr_P hR hv) (cf_mu cf_0 (by omega)) rfl (fun hm => ?_) hS
    have r2 := m_lay (d := 191) hm (z := z) hv hk (rl_7 hR) (rl_h hR)
    rw [rl_com hR, s_plane hS.1.1 hX hv hk, ← jbc_msz] at r2
    simp only [if_true, pk_uLs] at r2
    exact ⟨_, _, _, _, _, _, r2, mu_x hm, out_mu out_0 (by decide) (by decide)⟩
  · exact stp_r (by decide) hR (r_lay_bad (d := 191) hR.1 hb) (fun hm => m_lay_bad (d := 191) hm hb)
/-- a VARIABLE becomes the spare one, and steps are taken -/
theorem stp_b {μ ν v : Nat} {as : List Value} {q' : Nat → Int64} {tt : Int32} {z : Nat → BitVec 8} {x' : Nat → Int32} (hR : Rl M P Kp f kf h kh e ke s ks g kg ik rf so ln nu tp tl w rm x bf sx kx mk km nd knd fr tq sh sq lq cm va Y KY t kt) (hv : v < 8) (hr : Rt 200 μ (.ref 3 :: as) M (some (.int tt)) (bsM (mu M 131 (cJ 8 q')) P f h v q' e s g tt)) (hq : Cut q' z) (hx : Row x' (yset Y v (fun l => if pb (mcom f h) l then z l else Y v l))) (hn : ∀ {M1 : mM} (_ : Mdl M1 w rm x bf sx kx mk km nd knd fr tq sh sq lq cm va), ∃ M2 bf' sx' fr' cm' va', Rt 200 ν (.ref 140 :: as) M1 (some (.int tt)) M2 ∧ Mdl M2 (upd w 11 (w 11 + tt)) rm (x') (bf') (sx') kx mk km nd knd (fr') tq sh sq lq (cm') (va') ∧ Out M1 M2) (hv2 : vk (.int tt) = rk μ := by rfl) : Stp2 μ ν as M := by
  have hp1 : Per (mu M 131 (cJ 8 q')) P Kp f kf h kh e ke s ks g kg ik rf so ln nu tp tl := per_kept hR.1 (fun j h1 h2 => by rw [mu_1, if_neg (by omega)])
  have hg : mfit 1 g = true := hR.1.2.2.2.2.2.2.2.2.2.2.2.2.2.2.1
  have hp2 := per_W (per_P hp1 hv (lfill (pbec (P v) q' (mcom f h)) (P v) 8)) (e' := e) (s' := s + tt) (g' := g) (rl_e hR) hg
  refine stp_g (w := w) (Y' := yset Y v (fun l => if pb (mcom f h) l then z l else Y v l)) (w' := upd w 11 (w 11 + tt)) ⟨rfl, rfl, rfl, rfl⟩ hR hr hp2 ?_ (cf_mu (cf_mu (cf_mu cf_0 (by decide)) (by omega)) (by decide)) rfl (fun hm => hn hm) ?_ hv2
  · obtain ⟨⟨f1, h1⟩, ⟨G2, h2⟩, ⟨G3, h3⟩, ⟨f4, h4⟩, ⟨fH, h5, h6⟩, h7, ⟨a, b, h8⟩, ⟨a2, b2, c2, d2, e2, h9⟩, ⟨w, h10⟩⟩ := hR.2.1
    have hk : ∀ j, 48 ≤ j → j ≠ 131 → (bsM (mu M 131 (cJ 8 q')) P f h v q' e s g tt).1 j = M.1 j := fun j hj hj2 => by
      show (mu (mu (mu M 131 _) _ _) 4 _).1 j = _
      rw [mu_1, if_neg (by omega), mu_1, if_neg (by omega), mu_1, if_neg hj2]
    have h131 : (bsM (mu M 131 (cJ 8 q')) P f h v q' e s g tt).1 131 = some (cJ 8 q') := by
      show (mu (mu (mu M 131 _) _ _) 4 _).1 131 = _
      rw [mu_1, if_neg (by omega), mu_1, if_neg (by omega), mu_1, if_pos rfl]
    exact ⟨⟨q', by decide, by rw [hk _ (by omega) (by omega)]; exact h1.2.1, h131⟩, ⟨G2, vrs_kept h2 (fun j _ _ => hk j (by omega) (by omega))⟩, ⟨G3, vrs_kept h3 (fun j _ _ => hk j (by omega) (by omega))⟩, ⟨f4, slc_kept h4 (hk _ (by omega) (by omega)) (hk _ (by omega) (by omega))⟩, ⟨fH, by rw [hk _ (by omega) (by omega)]; exact h5, h6⟩, fun i hi => (h7 i hi).imp fun f hf => slc_kept hf (hk _ (by omega) (by omega)) (hk _ (by omega) (by omega)), ⟨a, b, by rw [hk _ (by omega) (by omega)]; exact h8⟩, ⟨a2, b2, c2, d2, e2, by rw [hk _ (by omega) (by omega)]; exact h9⟩, ⟨w, by rw [hk _ (by omega) (by omega)]; exact h10⟩⟩
  · have hS := sm_Y hR (v := v) (F := lfill (pbec (P v) q' (mcom f h)) (P v) 8) (cut_lfill.mpr (cut_bec (rl_Y hR v hv) hq)) hx
    obtain ⟨a1, a2, a3, a4, ⟨b1, b2, b3, b4, b5⟩, a6, a7⟩ := hS
    exact ⟨a1, a2, a3, a4, ⟨b1, b2, by rw [upd_at, b3], b4, b5⟩, a6, a7⟩
theorem k_fill (hR : Rl M P Kp f kf h kh e ke s ks g kg ik rf so ln nu tp tl w rm x bf sx kx mk km nd knd fr tq sh sq lq cm va Y KY t kt) (a b : Int32) : Stp2 79 140 [.int a, .int b] M := by
  by_cases hb : isv 8 a ∧ isv 256 b
  · obtain ⟨⟨v, hv, rfl⟩, ⟨z, hz, rfl⟩⟩ := hb
    obtain ⟨q, hq⟩ := rl_spare hR
    refine stp_b hR hv (r_fillv (d := 191) hR.1 hv hz hq) (cut_lfill.mpr (by rw [nI_i8 hz]; exact cut_all)) (s_fill (c := BitVec.ofNat 8 z) (rl_x hR) hv) (fun hm => ?_)
    have r2 := m_fill (d := 191) hm hv hz (rl_7 hR) (rl_h hR)
    rw [rl_com hR] at r2
    rw [← nI_i8 hz]
    exact ⟨_, _, _, _, _, _, r2, mu_w (mu_x hm), out_mu (out_mu out_0 (by decide) (by decide)) (by decide) (by decide)⟩
  · exact stp_r (by decide) hR (r_fillv_bad (d := 191) hR.1 hb) (fun hm => m_fill_bad (d := 191) hm hb)
theorem k_does (hR : Rl M P Kp f kf h kh e ke s ks g kg ik rf so ln nu tp tl w rm x bf sx kx mk km nd knd fr tq sh sq lq cm va Y KY t kt) (a b c q : Int32) : Stp2 80 143 [.int a, .int b, .int c, .int q] M := by
  by_cases hb : isv 8 a ∧ isv 8 b ∧ isv 8 c ∧ isv 8 q
  · obtain ⟨⟨op, hop, rfl⟩, ⟨v, hv, rfl⟩, ⟨p, hp, rfl⟩, ⟨r, hr, rfl⟩⟩ := hb
    obtain ⟨q, hq⟩ := rl_spare hR
    refine stp_b hR hv (r_does (d := 191) hR.1 hop hv hp hr hq) (cut_pair (cut_lfill.mpr (rl_Y hR p hp)) (rl_Y hR r hr) hop) (s_does (rl_x hR) hop hv hp hr) (fun hm => ?_)
    by_cases h6 : op < 6
    · have r2 := m_doesA (d := 191) hm hop hv hp hr (rl_7 hR) (rl_h hR) h6
      rw [rl_com hR, ← mf_op h6] at r2
      exact ⟨_, _, _, _, _, _, r2, mu_w (mu_x hm), out_mu (out_mu out_0 (by decide) (by decide)) (by decide) (by decide)⟩
    · by_cases h7 : op = 6
      · have r2 := m_doesB (d := 191) hm hop hv hp hr (rl_7 hR) (rl_h hR) h7
        rw [rl_com hR] at r2
        subst h7
        exact ⟨_, _, _, _, _, _, r2, mu_w (mu_x hm), out_mu (out_mu out_0 (by decide) (by decide)) (by decide) (by decide)⟩
      · have h8 : op = 7 := by omega
        have r2 := m_doesC (d := 191) hm hop hv hp hr (rl_7 hR) (rl_h hR) h8
        rw [rl_com hR] at r2
        subst h8
        exact ⟨_, _, _, _, _, _, r2, mu_w (mu_x hm), out_mu (out_mu out_0 (by decide) (by decide)) (by decide) (by decide)⟩
  · exact stp_r (by decide) hR (r_does_bad (d := 191) hR.1 hb) (fun hm => m_does_bad (d := 191) hm hb)
theorem k_route (hR : Rl M P Kp f kf h kh e ke s ks g kg ik rf so ln nu tp tl w rm x bf sx kx mk km nd knd fr tq sh sq lq cm va Y KY t kt) (a b c : Int32) : Stp2 81 146 [.int a, .int b, .int c] M := by
  by_cases hb : isv 8 a ∧ isv 8 b ∧ isv 4 c
  · obtain ⟨⟨v, hv, rfl⟩, ⟨p, hp, rfl⟩, ⟨wy, hwy, rfl⟩⟩ := hb
    obtain ⟨q, hq⟩ := rl_spare hR
    refine stp_b hR hv (r_route (d := 191) hR.1 hv hp hwy hq) (cut_lfill.mpr (cut_come (rl_Y hR p hp) hwy (rl_e hR))) (s_route (cm := cm) (rl_x hR) hv hp) (fun hm => ?_)
    have r2 := m_route (d := 191) hm hv hp hwy (rl_7 hR) (rl_h hR)
    rw [rl_com hR, rl_9 hR] at r2
    exact ⟨_, _, _, _, _, _, r2, mu_w (mu_x (mu_cm hm)), out_mu (out_mu (out_mu out_0 (by decide) (by decide)) (by decide) (by decide)) (by decide) (by decide)⟩
  · exact stp_r (by decide) hR (r_route_bad (d := 191) hR.1 hb) (fun hm => m_route_bad (d := 191) hm hb)
theorem k_edge (hR : Rl M P Kp f kf h kh e ke s ks g kg ik rf so ln nu tp tl w rm x bf sx kx mk km nd knd fr tq sh sq lq cm va Y KY t kt) (a : Int32) : Stp2 82 147 [.int a] M := by
  have hg : mfit 1 g = true := hR.1.2.2.2.2.2.2.2.2.2.2.2.2.2.2.1
  have hb : (a = 0 ∨ a = 1) ↔ isv 2 a := by
    constructor
    · rintro (rfl | rfl)
      · exact ⟨0, by decide, rfl⟩
      · exact ⟨1, by decide, rfl⟩
    · rintro ⟨j, hj, rfl⟩
      match j, hj with
      | 0, _ => exact Or.inl rfl
      | 1, _ => exact Or.inr rfl
  by_cases c : a = 0 ∨ a = 1
  · obtain ⟨b, hb2, e2⟩ := hb.mp c
    refine stp_g (w := w) (rm' := rm) (x' := x) (mk' := mk) (tq' := tq) (sh' := sh) (sq' := sq) (lq' := lq) (Y' := Y) (w' := upd w 9 a) ⟨rfl, rfl, rfl, rfl⟩ hR (r_edge (d := 191) hR.1 c) (per_W hR.1 c hg) (scr_kept hR.2.1 (fun j _ _ _ _ => by rw [mu_1, if_neg (by omega)])) (cf_mu cf_0 (by decide)) rfl (fun hm => ?_) ?_
    · have r2 := m_edge (d := 191) hm hb2
      rw [rl_9 hR, ← e2] at r2
      exact ⟨_, _, _, _, _, _, r2, mu_w hm, out_mu out_0 (by decide) (by decide)⟩
    · obtain ⟨a1, a2, a3, a4, ⟨b1, b2, b3, b4, b5⟩, a6, a7⟩ := hR.2.2.2.1
      exact ⟨a1, a2, a3, a4, ⟨rfl, b2, b3, b4, b5⟩, a6, a7⟩
  · exact stp_r (by decide) hR (r_edge_bad (d := 191) hR.1 c) (fun hm => m_edge_bad (d := 191) hm (fun z => c (hb.mpr z)))
theorem rl_mk (hR : Rl M P Kp f kf h kh e ke s ks g kg ik rf so ln nu tp tl w rm x bf sx kx mk km nd knd fr tq sh sq lq cm va Y KY t kt) : ∀ i, i < 8 → mk i = f i := hR.2.2.2.1.2.2.1.2
theorem sm_m (hR : Rl M P Kp f kf h kh e ke s ks g kg ik rf so ln nu tp tl w rm x bf sx kx mk km nd knd fr tq sh sq lq cm va Y KY t kt) {w' : Nat → Int32} {f' mk' : Nat → Int64} {h' : Nat} (h7 : w' 7 = nI h') (hmk : ∀ i, i < 8 → mk' i = f' i) (hw : ∀ j, j ≠ 7 → w' j = w j) : Sm P Kp (f') kf (h') kh e ke s ks ik rf so ln nu tp tl (w') rm x kx (mk') km tq sh sq lq Y KY := by
  obtain ⟨a1, a2, a3, a4, ⟨b1, b2, b3, b4, b5⟩, a6, a7, a8⟩ := hR.2.2.2.1
  exact ⟨a1, a2, ⟨h7, hmk⟩, ⟨by rw [hw _ (by decide)]; exact a4.1, a4.2⟩, ⟨by rw [hw _ (by decide)]; exact b1, by rw [hw _ (by decide)]; exact b2, by rw [hw _ (by decide)]; exact b3, by rw [hw _ (by decide)]; exact b4, by rw [hw _ (by decide)]; exact b5⟩, a6, ⟨by rw [hw _ (by decide)]; exact a7.1, a7.2⟩, a8⟩
theorem upl_c {f mk : Nat → Int64} {i : Nat} {a b : Int64} (h : ∀ i, i < 8 → mk i = f i) (hab : a = b) : ∀ j, j < 8 → vp_updL mk i a j = vp_updL f i b j := by
  intro j hj
  by_cases c : j = i
  · subst c
    rw [pk_uLs, pk_uLs, hab]
  · rw [pk_uLn c, pk_uLn c, h j hj]
theorem k_push (hR : Rl M P Kp f kf h kh e ke s ks g kg ik rf so ln nu tp tl w rm x bf sx kx mk km nd knd fr tq sh sq lq cm va Y KY t kt) (a b : Int32) : Stp2 83 149 [.int a, .int b] M := by
  by_cases hb : isv 8 a ∧ isv 8 b
  · obtain ⟨⟨v, hv, rfl⟩, ⟨k, hk, rfl⟩⟩ := hb
    by_cases c : h = 8
    · exact stp_r (by decide) hR (r_push_full (d := 191) hR.1 hv hk c) (fun hm => m_push_full (d := 191) hm hv hk (by rw [rl_7 hR, c]; rfl))
    · have hh : h < 8 := by have := rl_h hR; omega
      have hp1 := per_mh (per_msets hR.1 (vp_updL f h (P v k))) (h' := h + 1) (by omega)
      have hmk := upl_c (i := h) (rl_mk hR) (s_plane (rl_Y hR) (rl_x hR) hv hk)
      refine stp_g (w := w) (Y' := Y) (w' := upd w 7 (nI (h + 1))) ⟨rfl, rfl, rfl, rfl⟩ hR (r_push (d := 191) hR.1 hv hk hh) hp1 (scr_kept hR.2.1 (fun j _ _ _ _ => by rw [mu_1, if_neg (by omega), mu_1, if_neg (by omega)])) (cf_mu (cf_mu cf_0 (by decide)) (by decide)) rfl (fun hm => ?_) (sm_m hR rfl hmk (fun j hj => pk_un hj))
      have r2 := m_push (d := 191) hm hv hk (rl_7 hR) hh
      rw [com_c (fun j hj => hmk j (by omega)), ← jbc_msz] at r2
      exact ⟨_, _, _, _, _, _, r2, mu_w (mu_mk hm), out_mu (out_mu out_0 (by decide) (by decide)) (by decide) (by decide)⟩
  · exact stp_r (by decide) hR (r_push_bad (d := 191) hR.1 hb) (fun hm => m_push_bad (d := 191) hm hb)
theorem k_other (hR : Rl M P Kp f kf h kh e ke s ks g kg ik rf so ln nu tp tl w rm x bf sx kx mk km nd knd fr tq sh sq lq cm va Y KY t kt) : Stp2 84 150 [] M := by
  by_cases c : h = 0
  · exact stp_r (by decide) hR (r_other_bad (d := 191) hR.1 c) (fun hm => m_other_bad (d := 191) hm (by rw [rl_7 hR, c]; rfl))
  · obtain ⟨h0, rfl⟩ : ∃ h0, h = h0 + 1 := ⟨h - 1, by omega⟩
    have hh : h0 < 8 := by have := rl_h hR; omega
    have hmk := upl_c (i := h0) (a := mk h0 ^^^ (-1)) (b := f h0 ^^^ (-1)) (rl_mk hR) (by rw [rl_mk hR h0 hh])
    refine stp_g (Y' := Y) (w' := w) ⟨rfl, rfl, rfl, rfl⟩ hR (r_other (d := 191) hR.1 rfl) (per_msets hR.1 _) (scr_kept hR.2.1 (fun j _ _ _ _ => by rw [mu_1, if_neg (by omega)])) (cf_mu cf_0 (by decide)) rfl (fun hm => ?_) (sm_m hR (rl_7 hR) hmk (fun _ _ => rfl))
    have r2 := m_other (d := 191) hm (rl_7 hR) hh
    rw [com_c (fun j hj => hmk j (by omega)), ← jbc_msz] at r2
    exact ⟨_, _, _, _, _, _, r2, mu_mk hm, out_mu out_0 (by decide) (by decide)⟩
theorem k_pop (hR : Rl M P Kp f kf h kh e ke s ks g kg ik rf so ln nu tp tl w rm x bf sx kx mk km nd knd fr tq sh sq lq cm va Y KY t kt) : Stp2 85 151 [] M := by
  by_cases c : h = 0
  · exact stp_r (by decide) hR (r_pop_bad (d := 191) hR.1 c) (fun hm => m_pop_bad (d := 191) hm (by rw [rl_7 hR, c]; rfl))
  · obtain ⟨h0, rfl⟩ : ∃ h0, h = h0 + 1 := ⟨h - 1, by omega⟩
    have hh : h0 < 8 := by have := rl_h hR; omega
    refine stp_g (w := w) (Y' := Y) (w' := upd w 7 (nI h0)) ⟨rfl, rfl, rfl, rfl⟩ hR (r_pop (d := 191) hR.1 rfl) (per_mh hR.1 (h' := h0) (by omega)) (scr_kept hR.2.1 (fun j _ _ _ _ => by rw [mu_1, if_neg (by omega)])) (cf_mu cf_0 (by decide)) rfl (fun hm => ?_) (sm_m hR rfl (rl_mk hR) (fun j hj => pk_un hj))
    have r2 := m_pop (d := 191) hm (rl_7 hR) hh
    rw [com_c (fun j hj => rl_mk hR j (by omega)), ← jbc_msz] at r2
    exact ⟨_, _, _, _, _, _, r2, mu_w hm, out_mu out_0 (by decide) (by decide)⟩
theorem k_active (hR : Rl M P Kp f kf h kh e ke s ks g kg ik rf so ln nu tp tl w rm x bf sx kx mk km nd knd fr tq sh sq lq cm va Y KY t kt) : Stp2 86 148 [] M := by
  refine stp_q hR (r_active (d := 191) hR.1) (fun hm => ?_)
  have r2 := m_active (d := 200) hm (rl_7 hR) (rl_h hR)
  rw [rl_com hR] at r2
  exact r2
theorem k_part (hR : Rl M P Kp f kf h kh e ke s ks g kg ik rf so ln nu tp tl w rm x bf sx kx mk km nd knd fr tq sh sq lq cm va Y KY t kt) (a b c : Int32) : Stp2 88 153 [.int a, .int b, .int c] M := by
  by_cases hb : isv 8 a ∧ ∃ l, l < 7 ∧ b = nI l ∧ isv (64 / 2 ^ l) c
  · obtain ⟨⟨v, hv, rfl⟩, l, hl, rfl, ⟨i, hi, rfl⟩⟩ := hb
    have r1 := r_part (d := 191) hR.1 hv hl hi
    rw [s_part (rl_Y hR v hv) (rl_row hR hv) hl hi] at r1
    refine stp_q hR r1 (fun hm => ?_)
    have r2 := m_part (d := 191) hm hv hl hi (rl_7 hR) (rl_h hR)
    rw [rl_com hR] at r2
    exact r2
  · exact stp_r (by decide) hR (r_part_bad (d := 191) hR.1 hb) (fun hm => m_part_bad (d := 191) hm hb)
theorem k_rank (hR : Rl M P Kp f kf h kh e ke s ks g kg ik rf so ln nu tp tl w rm x bf sx kx mk km nd knd fr tq sh sq lq cm va Y KY t kt) (a b : Int32) : Stp2 89 154 [.int a, .int b] M := by
  by_cases hb : isv 64 a ∧ isv 8 b
  · obtain ⟨⟨a, ha, rfl⟩, ⟨v, hv, rfl⟩⟩ := hb
    obtain ⟨q, hq⟩ := rl_spare hR
    have r1 := r_rank (d := 191) hR.1 ha hv hq
    rw [s_rank ha (rl_Y hR v hv) (rl_row hR hv)] at r1
    refine stp_p hR r1 (fun hm => ?_)
    have r2 := m_rank (d := 191) hm ha hv (rl_7 hR) (rl_h hR)
    rw [rl_com hR] at r2
    exact r2
  · exact stp_r (by decide) hR (r_rank_bad (d := 191) hR.1 hb) (fun hm => m_rank_bad (d := 191) hm hb)
theorem k_alike (hR : Rl M P Kp f kf h kh e ke s ks g kg ik rf so ln nu tp tl w rm x bf sx kx mk km nd knd fr tq sh sq lq cm va Y KY t kt) (a : Int32) : Stp2 90 155 [.int a] M := by
  by_cases hb : isv 64 a
  · obtain ⟨a, ha, rfl⟩ := hb
    obtain ⟨q, hq⟩ := rl_spare hR
    obtain ⟨q', r1⟩ := r_alike (d := 191) hR.1 ha hq
    rw [s_alike (rl_Y hR) (rl_x hR) ha] at r1
    exact stp_p hR r1 (fun hm => m_alike (d := 191) hm ha)
  · exact stp_q hR (r_alike_bad (d := 191) hb) (fun _ => m_alike_bad (d := 191) hb)
theorem k_regions (hR : Rl M P Kp f kf h kh e ke s ks g kg ik rf so ln nu tp tl w rm x bf sx kx mk km nd knd fr tq sh sq lq cm va Y KY t kt) (a : Int32) : Stp2 92 158 [.int a] M := by
  by_cases hb : isv 8 a
  · obtain ⟨v, hv, rfl⟩ := hb
    obtain ⟨q, hq⟩ := rl_spare hR
    obtain ⟨q', r1⟩ := r_regions (d := 191) hR.1 hv hq
    rw [← s_regions 64 (Nat.le_refl _)] at r1
    refine stp_p hR r1 (fun hm => ?_)
    exact m_regions (d := 191) hm hv (fun a ha => by rw [rl_9 hR]; exact s_region (rl_e hR) ha (rl_Y hR v hv) (rl_row hR hv))
  · exact stp_r (by decide) hR (r_regions_bad (d := 191) hR.1 hb) (fun hm => m_regions_bad (d := 191) hm hb)
theorem k_region (hR : Rl M P Kp f kf h kh e ke s ks g kg ik rf so ln nu tp tl w rm x bf sx kx mk km nd knd fr tq sh sq lq cm va Y KY t kt) (a b : Int32) : Stp2 91 157 [.int a, .int b] M := by
  by_cases hb : isv 64 a ∧ isv 8 b
  · obtain ⟨⟨a, ha, rfl⟩, ⟨v, hv, rfl⟩⟩ := hb
    obtain ⟨q, hq⟩ := rl_spare hR
    have r1 := r_region (d := 191) hR.1 ha hv hq
    rw [plik_q (q' := fun _ => 0)] at r1
    refine stp_p hR r1 (fun hm => ?_)
    refine m_region (d := 191) hm ha hv ?_
    rw [rl_9 hR]
    exact s_region (rl_e hR) ha (rl_Y hR v hv) (rl_row hR hv)
  · exact stp_q hR (r_region_bad (d := 191) hR.1 hb) (fun hm => m_region_bad (d := 191) hb)
theorem k_way (hR : Rl M P Kp f kf h kh e ke s ks g kg ik rf so ln nu tp tl w rm x bf sx kx mk km nd knd fr tq sh sq lq cm va Y KY t kt) (a b c : Int32) : Stp2 93 159 [.int a, .int b, .int c] M := by
  by_cases hb : isv 64 a ∧ isv 64 b ∧ isv 8 c
  · obtain ⟨⟨a, ha, rfl⟩, ⟨b, hb, rfl⟩, ⟨v, hv, rfl⟩⟩ := hb
    have r1 := r_way (d := 191) hR.1 ha hb hv
    have e1 := s_way (rl_e hR) ha hb (rl_Y hR v hv) (rl_row hR hv)
    rw [e1] at r1
    refine stp_q hR r1 (fun hm => ?_)
    have r2 := m_way (d := 191) hm ha hb hv
    rw [rl_9 hR] at r2
    exact r2
  · exact stp_r (by decide) hR (r_way_bad (d := 191) hR.1 hb) (fun hm => m_way_bad (d := 191) hm hb)
theorem k_reduce (hR : Rl M P Kp f kf h kh e ke s ks g kg ik rf so ln nu tp tl w rm x bf sx kx mk km nd knd fr tq sh sq lq cm va Y KY t kt) (a b : Int32) : Stp2 87 152 [.int a, .int b] M := by
  by_cases hb : isv 7 a ∧ isv 8 b
  · obtain ⟨⟨wh, hwh, rfl⟩, ⟨v, hv, rfl⟩⟩ := hb
    have hc := rl_Y hR v hv
    have hx := rl_row hR hv
    have mm : ∀ {M1 : mM} (_ : Mdl M1 w rm x bf sx kx mk km nd knd fr tq sh sq lq cm va), Rt 200 152 [.ref 140, .int (nI wh), .int (nI v)] M1 (some (.int (mrd wh x v (mcom f h)))) M1 := fun hm => by
      have r2 := m_reduce (d := 191) hm hwh hv (rl_7 hR) (rl_h hR)
      rw [rl_com hR] at r2
      exact r2
    have key : Rt 200 87 [.ref 3, .int (nI wh), .int (nI v)] M (some (.int (mrd wh x v (mcom f h)))) M := by
      match wh, hwh with
      | 0, _ => have r1 := r_reduce0 (d := 191) hR.1 hv; rw [s_sum hc hx] at r1; exact r1
      | 1, _ =>
        by_cases c0 : mcom f h = 0
        · have r1 := r_reduce1n (d := 191) hR.1 hv c0; rw [← ((s_most hc hx).1 c0).1] at r1; exact r1
        · have r1 := r_reduce1 (d := 191) hR.1 hv c0; rw [← ((s_most hc hx).2 c0).1] at r1; exact r1
      | 2, _ =>
        by_cases c0 : mcom f h = 0
        · have r1 := r_reduce2n (d := 191) hR.1 hv c0; rw [← (s_least hc hx).1 c0] at r1; exact r1
        · have r1 := r_reduce2 (d := 191) hR.1 hv c0; rw [← (s_least hc hx).2 c0] at r1; exact r1
      | 3, _ => have r1 := r_reduce3 (d := 191) hR.1 hv; rw [s_any hc hx] at r1; exact r1
      | 4, _ => have r1 := r_reduce4 (d := 191) hR.1 hv; rw [s_allb hc hx] at r1; exact r1
      | 5, _ => have r1 := r_reduce5 (d := 191) hR.1 hv; rw [s_many hc hx] at r1; exact r1
      | 6, _ =>
        by_cases c0 : mcom f h = 0
        · have r1 := r_reduce6n (d := 191) hR.1 hv c0; rw [← ((s_most hc hx).1 c0).2] at r1; exact r1
        · have r1 := r_reduce6 (d := 191) hR.1 hv c0; rw [← ((s_most hc hx).2 c0).2] at r1; exact r1
    exact stp_q hR key mm
  · exact stp_r (by decide) hR (r_reduce_bad (d := 191) hR.1 hb) (fun hm => m_reduce_bad (d := 191) hm hb)
end CA

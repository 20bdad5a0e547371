/-! Both answer the same: feed .. refused. -/
section CC
variable {M M1 : mM} {P Kp : Nat → Nat → Int64} {f kf : Nat → Int64} {h kh : Nat} {e ke s ks : Int32} {g kg : Value} {ik : Int32} {rf so : Nat → Int32} {ln : Nat → Nat} {nu : Nat → Nat → Int64} {tp : Nat → Int32} {tl : Nat} {w rm x bf sx kx : Nat → Int32} {mk km : Nat → Int64} {nd knd fr tq : Nat → Int32} {sh : Nat → Int64} {sq lq cm va : Nat → Int32} {Y KY : YY} {t kt : Tr}
theorem stp_h {μ ν : Nat} {as : List Value} {v : Value} {P' : Nat → Nat → Int64} {f' : Nat → Int64} {h' : Nat} {e' s' : Int32} {rf' so' : Nat → Int32} {ln' : Nat → Nat} {nu' : Nat → Nat → Int64} {tp' : Nat → Int32} {tl' : Nat} (hR : Rl M P Kp f kf h kh e ke s ks g kg ik rf so ln nu tp tl w rm x bf sx kx mk km nd knd fr tq sh sq lq cm va Y KY t kt) (hr : Rt 200 μ (.ref 3 :: as) M (some v) M1) (hp : Per M1 (P') Kp (f') kf (h') kh (e') ke (s') ks g kg ik (rf') (so') (ln') (nu') (tp') (tl')) (hs : Scr M1) (hc : CF M M1) (h2 : M1.2 = M.2) (hn : ∀ _ : Mdl M1 w rm x bf sx kx mk km nd knd fr tq sh sq lq cm va, ∃ M2 w' rm' x' bf' sx' mk' fr' tq' sh' sq' lq' cm' va' Y', Rt 200 ν (.ref 140 :: as) M1 (some v) M2 ∧ Mdl M2 (w') (rm') (x') (bf') (sx') kx (mk') km nd knd (fr') (tq') (sh') (sq') (lq') (cm') (va') ∧ Out M1 M2 ∧ (w' 17 = w 17 ∧ w' 33 = w 33 ∧ w' 18 = w 18 ∧ w' 34 = w 34) ∧ Sm (P') Kp (f') kf (h') kh (e') ke (s') ks ik (rf') (so') (ln') (nu') (tp') (tl') (w') (rm') (x') kx (mk') km (tq') (sh') (sq') (lq') (Y') KY) (hv : vk v = rk μ := by rfl) : Stp2 μ ν as M := by
  obtain ⟨M2, w', rm', x', bf', sx', mk', fr', tq', sh', sq', lq', cm', va', Y', n2, hm2, o2, hw, hS⟩ := hn (rl_m1 hR hc)
  exact stp_g (w' := w') (Y' := Y') hw hR hr hp hs hc h2 (fun _ => ⟨M2, bf', sx', fr', cm', va', n2, hm2, o2⟩) hS hv
theorem rl_sh (hR : Rl M P Kp f kf h kh e ke s ks g kg ik rf so ln nu tp tl w rm x bf sx kx mk km nd knd fr tq sh sq lq cm va Y KY t kt) {k : Nat} (hk : k < 4) : sq k = so k ∧ lq k = nI (ln k) ∧ ∀ i, i < 64 → sh (64 * k + i) = nu k i := hR.2.2.2.1.2.2.2.2.2.2.2 k hk
theorem rl_ln (hR : Rl M P Kp f kf h kh e ke s ks g kg ik rf so ln nu tp tl w rm x bf sx kx mk km nd knd fr tq sh sq lq cm va Y KY t kt) {k : Nat} (hk : k < 4) : ln k ≤ 64 := hR.1.2.2.2.2.2.2.2.2.2.2.1 k hk
theorem rl_so (hR : Rl M P Kp f kf h kh e ke s ks g kg ik rf so ln nu tp tl w rm x bf sx kx mk km nd knd fr tq sh sq lq cm va Y KY t kt) {k : Nat} (hk : k < 4) : so k = -1 ∨ so k = 0 ∨ so k = 1 ∨ so k = 2 ∨ so k = 3 := hR.1.2.2.2.2.2.2.2.2.2.2.2.1 k hk
theorem rl_ng (hR : Rl M P Kp f kf h kh e ke s ks g kg ik rf so ln nu tp tl w rm x bf sx kx mk km nd knd fr tq sh sq lq cm va Y KY t kt) {k : Nat} (hk : k < 4) (h0 : ¬ so k = -1) : ¬ sq k < 0 := by
  rw [(rl_sh hR hk).1]
  rcases rl_so hR hk with c | c | c | c | c
  · exact absurd c h0
  all_goals (rw [c]; decide)
theorem rl_np (hR : Rl M P Kp f kf h kh e ke s ks g kg ik rf so ln nu tp tl w rm x bf sx kx mk km nd knd fr tq sh sq lq cm va Y KY t kt) {k : Nat} (hk : k < 4) (h0 : so k = -1) : sq k < 0 := by
  rw [(rl_sh hR hk).1, h0]; decide
theorem rl_tl (hR : Rl M P Kp f kf h kh e ke s ks g kg ik rf so ln nu tp tl w rm x bf sx kx mk km nd knd fr tq sh sq lq cm va Y KY t kt) : tl ≤ 160 := hR.1.2.2.2.2.2.2.2.2.2.2.2.2.1
theorem rl_22 (hR : Rl M P Kp f kf h kh e ke s ks g kg ik rf so ln nu tp tl w rm x bf sx kx mk km nd knd fr tq sh sq lq cm va Y KY t kt) : w 22 = nI tl := hR.2.2.2.1.2.2.2.2.2.2.1.1
theorem rl_tq (hR : Rl M P Kp f kf h kh e ke s ks g kg ik rf so ln nu tp tl w rm x bf sx kx mk km nd knd fr tq sh sq lq cm va Y KY t kt) : ∀ j, j < 160 → tq j = tp j := hR.2.2.2.1.2.2.2.2.2.2.1.2
theorem rl_13 (hR : Rl M P Kp f kf h kh e ke s ks g kg ik rf so ln nu tp tl w rm x bf sx kx mk km nd knd fr tq sh sq lq cm va Y KY t kt) : w 13 = ik := hR.2.2.2.1.2.2.2.2.1.2.2.2.2
theorem isv_le {n : Int32} : (∃ k, 1 ≤ k ∧ k ≤ 8 ∧ n = nI k) ↔ ¬ (n < 1 ∨ 8 < n) := by
  constructor
  · rintro ⟨k, h1, h8, rfl⟩
    match k, h1, h8 with
    | 1, _, _ => decide
    | 2, _, _ => decide
    | 3, _, _ => decide
    | 4, _, _ => decide
    | 5, _, _ => decide
    | 6, _, _ => decide
    | 7, _, _ => decide
    | 8, _, _ => decide
  · intro h
    rcases pk_ix n (show 9 < 2 ^ 31 by decide) with h1 | h1 | ⟨j, h1, h2⟩
    · exact absurd (Or.inl (by have := Int32.lt_iff_toInt_lt.mp h1; rw [show (0 : Int32).toInt = 0 from rfl] at this; exact Int32.lt_iff_toInt_lt.mpr (by rw [show (1 : Int32).toInt = 1 from rfl]; omega))) h
    · exact absurd (Or.inr (by have := Int32.le_iff_toInt_le.mp h1; rw [show (nI 9).toInt = 9 from rfl] at this; exact Int32.lt_iff_toInt_lt.mpr (by rw [show (8 : Int32).toInt = 8 from rfl]; omega))) h
    · refine ⟨j, ?_, by omega, h2⟩
      by_cases c : j = 0
      · subst c
        exact absurd (Or.inl (by rw [h2]; decide)) h
      · omega
theorem k_feed (hR : Rl M P Kp f kf h kh e ke s ks g kg ik rf so ln nu tp tl w rm x bf sx kx mk km nd knd fr tq sh sq lq cm va Y KY t kt) (z : Int64) (b : Int32) : Stp2 94 160 [.long z, .int b] M := by
  by_cases hb : ∃ k, 1 ≤ k ∧ k ≤ 8 ∧ b = nI k
  · obtain ⟨n, h1, h8, rfl⟩ := hb
    by_cases ht : tl + n ≤ 160
    · refine stp_h hR (r_feed (d := 191) hR.1 hR.2.1 h1 h8 ht) (per_tl (per_tape hR.1 _) ht) (scr_kept hR.2.1 (fun j _ _ _ _ => by rw [mu_1, if_neg (by omega), mu_1, if_neg (by omega)])) (cf_mu (cf_mu cf_0 (by decide)) (by decide)) rfl (fun hm => ?_)
      obtain ⟨M2, r2, hm2, o2⟩ := m_feed (d := 191) hm (z := z) h1 h8 ht (rl_22 hR)
      refine ⟨M2, _, _, _, _, _, _, _, _, _, _, _, _, _, Y, r2, hm2, o2, ⟨rfl, rfl, rfl, rfl⟩, ?_⟩
      obtain ⟨a1, a2, a3, a4, a5, a6, a7, a8⟩ := hR.2.2.2.1
      exact ⟨a1, a2, a3, a4, a5, a6, ⟨rfl, s_tap n h8 (rl_tq hR)⟩, a8⟩
    · exact stp_r (by decide) hR (r_feed_full (d := 191) hR.1 hR.2.1 h1 h8 (by omega)) (fun hm => m_feed_full (d := 191) hm h1 h8 (by omega) (rl_tl hR) (rl_22 hR))
  · exact stp_r (by decide) hR (r_feed_bad (d := 191) hR.1 hb) (fun hm => m_feed_bad (d := 191) hm (Decidable.of_not_not (fun c => hb (isv_le.mpr c))))
theorem k_wipe (hR : Rl M P Kp f kf h kh e ke s ks g kg ik rf so ln nu tp tl w rm x bf sx kx mk km nd knd fr tq sh sq lq cm va Y KY t kt) : Stp2 95 161 [] M := by
  refine stp_h hR (r_wipe (d := 191) hR.1 hR.2.1) (per_tl hR.1 (Nat.zero_le _)) (scr_kept hR.2.1 (fun j _ _ _ _ => by rw [mu_1, if_neg (by omega)])) (cf_mu cf_0 (by decide)) rfl (fun hm => ?_)
  have r2 := m_wipe (d := 191) hm
  rw [rl_22 hR] at r2
  refine ⟨_, _, _, _, _, _, _, _, _, _, _, _, _, _, Y, r2, mu_w hm, out_mu out_0 (by decide) (by decide), ⟨rfl, rfl, rfl, rfl⟩, ?_⟩
  obtain ⟨a1, a2, a3, a4, a5, a6, a7, a8⟩ := hR.2.2.2.1
  exact ⟨a1, a2, a3, a4, a5, a6, ⟨rfl, a7.2⟩, a8⟩
theorem sm_sh (hR : Rl M P Kp f kf h kh e ke s ks g kg ik rf so ln nu tp tl w rm x bf sx kx mk km nd knd fr tq sh sq lq cm va Y KY t kt) {k : Nat} {so1 : Int32} {ln1 : Nat} {nu1 : Nat → Int64} {sq' lq' : Nat → Int32} {sh' : Nat → Int64} (hk : k < 4) (h1 : ∀ j, j < 4 → sq' j = if j = k then so1 else sq j) (h2 : ∀ j, j < 4 → lq' j = if j = k then nI ln1 else lq j) (h3 : ∀ i, i < 64 → sh' (64 * k + i) = nu1 i) (h4 : ∀ j, j < 256 → (j < 64 * k ∨ 64 * k + 64 ≤ j) → sh' j = sh j) : Sm P Kp f kf h kh e ke s ks ik rf (fun i => if i = k then so1 else so i) (fun i => if i = k then ln1 else ln i) (fun i => if i = k then nu1 else nu i) tp tl w rm x kx mk km tq (sh') (sq') (lq') Y KY := by
  obtain ⟨a1, a2, a3, a4, a5, a6, a7, a8⟩ := hR.2.2.2.1
  refine ⟨a1, a2, a3, a4, a5, a6, a7, fun j hj => ?_⟩
  rw [h1 j hj, h2 j hj]
  by_cases c : j = k
  · subst c
    simp only [if_true]
    exact ⟨trivial, trivial, h3⟩
  · simp only [if_neg c]
    refine ⟨(a8 j hj).1, (a8 j hj).2.1, fun i hi => ?_⟩
    rw [h4 _ (by omega) (by omega)]
    exact (a8 j hj).2.2 i hi
theorem upd_ite {q : Nat → Int32} {k : Nat} {c : Int32} : ∀ j, j < 4 → upd q k c j = if j = k then c else q j := by
  intro j _
  by_cases h : j = k
  · subst h
    rw [pk_us, if_pos rfl]
  · rw [pk_un h, if_neg h]
theorem ite_id {q : Nat → Int32} {k : Nat} {c : Int32} (h : q k = c) : ∀ j, j < 4 → q j = if j = k then c else q j := by
  intro j _
  by_cases h2 : j = k
  · subst h2
    rw [if_pos rfl, h]
  · rw [if_neg h2]
theorem scr_sh (hR : Rl M P Kp f kf h kh e ke s ks g kg ik rf so ln nu tp tl w rm x bf sx kx mk km nd knd fr tq sh sq lq cm va Y KY t kt) (hM : ∀ j, j < 132 → M1.1 j = M.1 j) : Scr M1 := by
  refine scr_kept hR.2.1 (fun j h1 h2 h3 h4 => hM j ?_)
  omega
theorem k_row (hR : Rl M P Kp f kf h kh e ke s ks g kg ik rf so ln nu tp tl w rm x bf sx kx mk km nd knd fr tq sh sq lq cm va Y KY t kt) (a b c : Int32) : Stp2 104 193 [.int a, .int b, .int c] M := by
  by_cases hb : isv 4 a ∧ ((b = -1) ∨ (isv 4 b ∧ c ≤ 64))
  · obtain ⟨⟨k, hk, rfl⟩, hb⟩ := hb
    have hz : ∀ (sh' : Nat → Int64), (∀ j, j < 256 → sh' j = if 64 * k ≤ j ∧ j < 64 * k + 64 then 0 else sh j) → (∀ i, i < 64 → sh' (64 * k + i) = lfill (fun _ => 0) (nu k) 64 i) ∧ (∀ j, j < 256 → (j < 64 * k ∨ 64 * k + 64 ≤ j) → sh' j = sh j) := fun sh' h => ⟨fun i hi => by rw [h _ (by omega), if_pos (by omega)]; exact (if_pos hi).symm, fun j h1 h2 => by rw [h _ h1, if_neg (by omega)]⟩
    have hpk : ∀ (so1 : Int32) (ln1 : Nat), (so1 = -1 ∨ so1 = 0 ∨ so1 = 1 ∨ so1 = 2 ∨ so1 = 3) → ln1 ≤ 64 → Per (mu (mu M (132 + 2 * k) (cO 5 [.ref (132 + 2 * k + 1), .int so1, .int (nI ln1)])) (132 + 2 * k + 1) (cJ 64 (lfill (fun _ => 0) (nu k) 64))) P Kp f kf h kh e ke s ks g kg ik rf (fun i => if i = k then so1 else so i) (fun i => if i = k then ln1 else ln i) (fun i => if i = k then (lfill (fun _ => 0) (nu k) 64) else nu i) tp tl := fun so1 ln1 h1 h2 => per_sh hR.1 hk h1 h2 (fun j h3 h4 => by rw [mu_1, if_neg h4, mu_1, if_neg h3]) (by rw [mu_1, if_neg (by omega), mu_1, if_pos rfl]) (by rw [mu_1, if_pos rfl])
    rcases hb with rfl | ⟨⟨b, hb, rfl⟩, hc⟩
    · refine stp_h hR (r_row_none (d := 191) hR.1 hk) (hpk (-1) 0 (Or.inl rfl) (Nat.zero_le _)) (scr_sh hR (fun j hj => by rw [mu_1, if_neg (by omega), mu_1, if_neg (by omega)])) (cf_mu (cf_mu cf_0 (by omega)) (by omega)) rfl (fun hm => ?_)
      obtain ⟨M2, r2, ⟨sh', hs', hm2⟩, o2⟩ := m_row_none (d := 191) hm hk
      exact ⟨M2, _, _, _, _, _, _, _, _, _, _, _, _, _, Y, r2, hm2, o2, ⟨rfl, rfl, rfl, rfl⟩, sm_sh hR hk upd_ite upd_ite (hz sh' hs').1 (hz sh' hs').2⟩
    · by_cases c0 : c < 0
      · exact stp_r (by decide) hR (r_row_place (d := 191) hR.1 hk hb c0) (fun hm => m_row_place (d := 191) hm hk hb c0)
      · obtain ⟨n, hn, rfl⟩ : isv 65 c := by
          rcases pk_ix c (show 65 < 2 ^ 31 by decide) with h1 | h1 | h1
          · exact absurd h1 c0
          · exact absurd hc (by have := Int32.le_iff_toInt_le.mp h1; rw [show (nI 65).toInt = 65 from rfl] at this; intro h2; have := Int32.le_iff_toInt_le.mp h2; rw [show (64 : Int32).toInt = 64 from rfl] at this; omega)
          · exact h1
        have hs : nI b = -1 ∨ nI b = 0 ∨ nI b = 1 ∨ nI b = 2 ∨ nI b = 3 := by
          match b, hb with
          | 0, _ => exact Or.inr (Or.inl rfl)
          | 1, _ => exact Or.inr (Or.inr (Or.inl rfl))
          | 2, _ => exact Or.inr (Or.inr (Or.inr (Or.inl rfl)))
          | 3, _ => exact Or.inr (Or.inr (Or.inr (Or.inr rfl)))
        refine stp_h hR (r_row (d := 191) hR.1 hk hb (by omega)) (hpk (nI b) n hs (by omega)) (scr_sh hR (fun j hj => by rw [mu_1, if_neg (by omega), mu_1, if_neg (by omega)])) (cf_mu (cf_mu cf_0 (by omega)) (by omega)) rfl (fun hm => ?_)
        obtain ⟨M2, r2, ⟨sh', hs', hm2⟩, o2⟩ := m_row (d := 191) hm hk hb (show n ≤ 64 by omega)
        exact ⟨M2, _, _, _, _, _, _, _, _, _, _, _, _, _, Y, r2, hm2, o2, ⟨rfl, rfl, rfl, rfl⟩, sm_sh hR hk upd_ite upd_ite (hz sh' hs').1 (hz sh' hs').2⟩
  · exact stp_r (by decide) hR (r_row_bad (d := 191) hR.1 hb) (fun hm => m_row_bad (d := 191) hm hb)
theorem per_nu (hR : Rl M P Kp f kf h kh e ke s ks g kg ik rf so ln nu tp tl w rm x bf sx kx mk km nd knd fr tq sh sq lq cm va Y KY t kt) {k : Nat} (hk : k < 4) {q : Nat → Int64} : Per (mu M (132 + 2 * k + 1) (cJ 64 q)) P Kp f kf h kh e ke s ks g kg ik rf (fun i => if i = k then so k else so i) (fun i => if i = k then ln k else ln i) (fun i => if i = k then q else nu i) tp tl :=
  per_sh hR.1 hk (rl_so hR hk) (rl_ln hR hk) (fun j _ h4 => by rw [mu_1, if_neg h4]) (by rw [mu_1, if_neg (by omega)]; exact (hR.1.2.2.2.2.2.2.1 k hk).2.1) (by rw [mu_1, if_pos rfl])
theorem k_mark (hR : Rl M P Kp f kf h kh e ke s ks g kg ik rf so ln nu tp tl w rm x bf sx kx mk km nd knd fr tq sh sq lq cm va Y KY t kt) (a b : Int32) (z : Int64) : Stp2 105 195 [.int a, .int b, .long z] M := by
  by_cases ha : isv 4 a
  · obtain ⟨k, hk, rfl⟩ := ha
    by_cases h0 : so k = -1
    · exact stp_r (by decide) hR (r_mark_empty (d := 191) hR.1 hk h0) (fun hm => m_mark_empty (d := 191) hm hk (rl_np hR hk h0))
    · by_cases hb : isv (ln k) b
      · obtain ⟨i, hi, rfl⟩ := hb
        have hi64 : i < 64 := by have := rl_ln hR hk; omega
        refine stp_h hR (r_mark (d := 191) hR.1 hk h0 hi) (per_nu hR hk) (scr_sh hR (fun j hj => by rw [mu_1, if_neg (by omega)])) (cf_mu cf_0 (by omega)) rfl (fun hm => ?_)
        have r2 := m_mark (d := 191) hm (z := z) hk (rl_ng hR hk h0) (rl_sh hR hk).2.1 (rl_ln hR hk) hi
        rw [(rl_sh hR hk).1] at r2
        refine ⟨_, _, _, _, _, _, _, _, _, _, _, _, _, _, Y, r2, mu_sh hm, out_mu out_0 (by decide) (by decide), ⟨rfl, rfl, rfl, rfl⟩, sm_sh hR hk (ite_id (rl_sh hR hk).1) (ite_id (rl_sh hR hk).2.1) (fun j hj => ?_) (fun j _ hj => ?_)⟩
        · by_cases c : j = i
          · subst c
            rw [pk_uLs, pk_uLs]
          · rw [pk_uLn (by omega), pk_uLn c]
            exact (rl_sh hR hk).2.2 j hj
        · rw [pk_uLn (by omega)]
      · exact stp_r (by decide) hR (r_mark_place (d := 191) hR.1 hk h0 hb) (fun hm => m_mark_place (d := 191) hm hk (rl_ng hR hk h0) (rl_sh hR hk).2.1 (rl_ln hR hk) hb)
  · exact stp_r (by decide) hR (r_mark_bad (d := 191) hR.1 ha) (fun hm => m_mark_bad (d := 191) hm ha)
theorem k_at (hR : Rl M P Kp f kf h kh e ke s ks g kg ik rf so ln nu tp tl w rm x bf sx kx mk km nd knd fr tq sh sq lq cm va Y KY t kt) (a b : Int32) : Stp2 106 196 [.int a, .int b] M := by
  by_cases ha : isv 4 a
  · obtain ⟨k, hk, rfl⟩ := ha
    by_cases hb : isv (ln k) b
    · obtain ⟨i, hi, rfl⟩ := hb
      have hi64 : i < 64 := by have := rl_ln hR hk; omega
      refine stp_q hR (r_at (d := 191) hR.1 hk hi) (fun hm => ?_)
      have r2 := m_at (d := 191) hm hk (rl_sh hR hk).2.1 (rl_ln hR hk) hi
      rw [(rl_sh hR hk).2.2 i hi64] at r2
      exact r2
    · exact stp_q hR (r_at_out (d := 191) hR.1 hk hb) (fun hm => m_at_out (d := 191) hm hk (rl_sh hR hk).2.1 (rl_ln hR hk) hb)
  · exact stp_q hR (r_at_bad (d := 191) hR.1 ha) (fun hm => m_at_bad (d := 191) hm ha)
theorem k_load (hR : Rl M P Kp f kf h kh e ke s ks g kg ik rf so ln nu tp tl w rm x bf sx kx mk km nd knd fr tq sh sq lq cm va Y KY t kt) (a b : Int32) : Stp2 107 198 [.int a, .int b] M := by
  by_cases hb : isv 8 a ∧ isv 4 b
  · obtain ⟨⟨v, hv, rfl⟩, ⟨k, hk, rfl⟩⟩ := hb
    by_cases h0 : so k = -1
    · exact stp_r (by decide) hR (r_load_empty (d := 191) hR.1 hk hv h0) (fun hm => m_load_empty (d := 191) hm hv hk (rl_np hR hk h0))
    · have hC := c_load (rl_Y hR v hv) (m := mcom f h) (nu := nu k) (ln k) (rl_ln hR hk)
      have hX := s_load (rl_x hR) (m := mcom f h) hv (rl_ln hR hk) (rl_sh hR hk).2.2
      refine stp_g (w' := w) ⟨rfl, rfl, rfl, rfl⟩ hR (r_load (d := 191) hR.1 hk hv h0) (per_P hR.1 hv _) (scr_P hR hv) (cf_mu cf_0 (by omega)) rfl (fun hm => ?_) (sm_Y hR hC hX)
      have r2 := m_load (d := 191) hm hv hk (rl_ng hR hk h0) (rl_sh hR hk).2.1 (rl_ln hR hk) (rl_7 hR) (rl_h hR)
      rw [rl_com hR, ← n_load (F := P v) (nu := nu k)] at r2
      exact ⟨_, _, _, _, _, _, r2, mu_x hm, out_mu out_0 (by decide) (by decide)⟩
  · exact stp_r (by decide) hR (r_load_bad (d := 191) hR.1 hb) (fun hm => m_load_bad (d := 191) hm hb)
theorem k_store (hR : Rl M P Kp f kf h kh e ke s ks g kg ik rf so ln nu tp tl w rm x bf sx kx mk km nd knd fr tq sh sq lq cm va Y KY t kt) (a b : Int32) : Stp2 108 199 [.int a, .int b] M := by
  by_cases hb : isv 8 a ∧ isv 4 b
  · obtain ⟨⟨v, hv, rfl⟩, ⟨k, hk, rfl⟩⟩ := hb
    by_cases h0 : so k = -1
    · exact stp_r (by decide) hR (r_store_empty (d := 191) hR.1 hk hv h0) (fun hm => m_store_empty (d := 191) hm hv hk (rl_np hR hk h0))
    · refine stp_h hR (r_store (d := 191) hR.1 hk hv h0) (per_nu hR hk) (scr_sh hR (fun j hj => by rw [mu_1, if_neg (by omega)])) (cf_mu cf_0 (by omega)) rfl (fun hm => ?_)
      have r2 := m_store (d := 191) hm hv hk (rl_ng hR hk h0) (rl_sh hR hk).2.1 (rl_ln hR hk)
      rw [(rl_sh hR hk).1] at r2
      have e1 := s_store (rl_x hR) (so := so k) hk hv (rl_Y hR v hv) (rl_sh hR hk).2.2 (ln k) (rl_ln hR hk)
      exact ⟨_, _, _, _, _, _, _, _, _, _, _, _, _, _, Y, r2, mu_sh hm, out_mu out_0 (by decide) (by decide), ⟨rfl, rfl, rfl, rfl⟩, sm_sh hR hk (ite_id (rl_sh hR hk).1) (ite_id (rl_sh hR hk).2.1) e1.1 (fun j _ hj => e1.2 j hj)⟩
  · exact stp_r (by decide) hR (r_store_bad (d := 191) hR.1 hb) (fun hm => m_store_bad (d := 191) hm hb)
theorem k_judge (hR : Rl M P Kp f kf h kh e ke s ks g kg ik rf so ln nu tp tl w rm x bf sx kx mk km nd knd fr tq sh sq lq cm va Y KY t kt) (a b : Int32) : Stp2 109 200 [.int a, .int b] M := by
  by_cases hb : isv 8 a ∧ isv 4 b
  · obtain ⟨⟨v, hv, rfl⟩, ⟨k, hk, rfl⟩⟩ := hb
    by_cases h0 : so k = -1
    · exact stp_r (by decide) hR (r_judge_empty (d := 191) hR.1 hk hv h0) (fun hm => m_judge_empty (d := 191) hm hv hk (rl_np hR hk h0))
    · refine stp_q hR (r_judge (d := 191) hR.1 hk hv h0) (fun hm => ?_)
      have r2 := m_judge (d := 191) hm hv hk (rl_ng hR hk h0) (rl_sh hR hk).2.1 (rl_ln hR hk)
      rw [s_judge (rl_x hR) hv (rl_Y hR v hv) (rl_sh hR hk).2.2 (ln k) 0 (rl_ln hR hk)] at r2
      exact r2
  · exact stp_r (by decide) hR (r_judge_bad (d := 191) hR.1 hb) (fun hm => m_judge_bad (d := 191) hm hb)
theorem k_refused (hR : Rl M P Kp f kf h kh e ke s ks g kg ik rf so ln nu tp tl w rm x bf sx kx mk km nd knd fr tq sh sq lq cm va Y KY t kt) (a : Int32) : Stp2 113 204 [.int a] M := by
  by_cases ha : isv 5 a
  · obtain ⟨k, hk, rfl⟩ := ha
    refine stp_q hR (r_refused (d := 191) hR.1 hk) (fun hm => ?_)
    have r2 := m_refused (d := 191) hm hk
    rw [hR.2.2.2.1.2.2.2.2.2.1 k hk] at r2
    exact r2
  · exact stp_r (by decide) hR (r_refused_bad (d := 191) hR.1 ha) (fun hm => m_refused_bad (d := 191) hm ha)
end CC

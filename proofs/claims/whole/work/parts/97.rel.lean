/-! What is equal between the class and the reference. -/
def Sm (P Kp : Nat → Nat → Int64) (f kf : Nat → Int64) (h kh : Nat) (e ke s ks : Int32) (ik : Int32) (rf so : Nat → Int32) (ln : Nat → Nat) (nu : Nat → Nat → Int64) (tp : Nat → Int32) (tl : Nat) (w rm x kx : Nat → Int32) (mk km : Nat → Int64) (tq : Nat → Int32) (sh : Nat → Int64) (sq lq : Nat → Int32) (Y KY : YY) : Prop :=
  (Cuts P Y ∧ Row x Y) ∧ (Cuts Kp KY ∧ Row kx KY) ∧ (w 7 = nI h ∧ ∀ i, i < 8 → mk i = f i) ∧ (w 8 = nI kh ∧ ∀ i, i < 8 → km i = kf i) ∧ (w 9 = e ∧ w 10 = ke ∧ w 11 = s ∧ w 12 = ks ∧ w 13 = ik) ∧ (∀ k, k < 5 → rm k = rf k) ∧ (w 22 = nI tl ∧ ∀ j, j < 160 → tq j = tp j) ∧ ∀ k, k < 4 → sq k = so k ∧ lq k = nI (ln k) ∧ ∀ i, i < 64 → sh (64 * k + i) = nu k i
/-- the program: the class's cells, the reference's nodes, one tree -/
def Pgs (M : mM) (g : Value) (t : Tr) (nd : Nat → Int32) (a b : Int32) : Prop := Pg M 157 M.2.1 g t a ∧ ∀ p, g = .ref p → ¬ a = 0 ∧ NdG nd t false 180 b
def Rl (M : mM) (P Kp : Nat → Nat → Int64) (f kf : Nat → Int64) (h kh : Nat) (e ke s ks : Int32) (g kg : Value) (ik : Int32) (rf so : Nat → Int32) (ln : Nat → Nat) (nu : Nat → Nat → Int64) (tp : Nat → Int32) (tl : Nat) (w rm x bf sx kx : Nat → Int32) (mk km : Nat → Int64) (nd knd fr tq : Nat → Int32) (sh : Nat → Int64) (sq lq cm va : Nat → Int32) (Y KY : YY) (t kt : Tr) : Prop := Per M P Kp f kf h kh e ke s ks g kg ik rf so ln nu tp tl ∧ Scr M ∧ Mdl M w rm x bf sx kx mk km nd knd fr tq sh sq lq cm va ∧ Sm P Kp f kf h kh e ke s ks ik rf so ln nu tp tl w rm x kx mk km tq sh sq lq Y KY ∧ Pgs M g t nd (w 17) (w 33) ∧ Pgs M kg kt knd (w 18) (w 34) ∧ 157 ≤ M.2.1
def Rel (M : mM) : Prop := ∃ (P Kp : Nat → Nat → Int64) (f kf : Nat → Int64) (h kh : Nat) (e ke s ks : Int32) (g kg : Value) (ik : Int32) (rf so : Nat → Int32) (ln : Nat → Nat) (nu : Nat → Nat → Int64) (tp : Nat → Int32) (tl : Nat) (w rm x bf sx kx : Nat → Int32) (mk km : Nat → Int64) (nd knd fr tq : Nat → Int32) (sh : Nat → Int64) (sq lq cm va : Nat → Int32) (Y KY : YY) (t kt : Tr), Rl M P Kp f kf h kh e ke s ks g kg ik rf so ln nu tp tl w rm x bf sx kx mk km nd knd fr tq sh sq lq cm va Y KY t kt
def CF (M M1 : mM) : Prop := (∀ j, (140 ≤ j ∨ j = 0) → j < M.2.1 → M1.1 j = M.1 j) ∧ M.2.1 ≤ M1.2.1
theorem cf_mu {M M1 : mM} {k : Nat} {c : mE} (h : CF M M1) (hk : 0 < k ∧ k < 140) : CF M (mu M1 k c) := ⟨fun j h1 h2 => by rw [mu_1, if_neg (by omega)]; exact h.1 j h1 h2, h.2⟩
theorem cf_0 {M : mM} : CF M M := ⟨fun _ _ _ => rfl, Nat.le_refl _⟩
theorem cf_e {M M1 : mM} (h : EOut M M1) : CF M M1 := ⟨fun j h1 _ => h.1 j (by omega), by rw [h.2]; exact Nat.le_refl _⟩
def vk : Value → Nat
  | .int _ => 0
  | .long _ => 1
  | _ => 2
def rk (μ : Nat) : Nat := if μ = 77 ∨ μ = 86 ∨ μ = 90 ∨ μ = 91 ∨ μ = 100 ∨ μ = 106 then 1 else 0
/-- one call of both -/
def Stp2 (μ ν : Nat) (as : List Value) (M : mM) : Prop := ∃ v M1 M2, vk v = rk μ ∧ Rt 200 μ (.ref 3 :: as) M (some v) M1 ∧ Rt 200 ν (.ref 140 :: as) M1 (some v) M2 ∧ isO 12 (M1.1 140) = true ∧ Rel M2 ∧ M2.1 0 = M.1 0 ∧ M1.1 0 = M.1 0 ∧ M2.2.1 ≤ M.2.1 + 500 ∧ M2.2.2 ≤ M.2.2 + 1900 ∧ M.2.1 ≤ M2.2.1
theorem pgs_k {M M' : mM} {g : Value} {t : Tr} {nd : Nat → Int32} {a b : Int32} (h : Pgs M g t nd a b) (hk : ∀ j, 157 ≤ j → j < M.2.1 → M'.1 j = M.1 j) (hl : M.2.1 ≤ M'.2.1) : Pgs M' g t nd a b := ⟨pg_k hk (Nat.le_refl _) hl h.1, h.2⟩
section RL
variable {M M1 M2 : mM} {P Kp : Nat → Nat → Int64} {f kf : Nat → Int64} {h kh : Nat} {e ke s ks : Int32} {g kg : Value} {ik : Int32} {rf so : Nat → Int32} {ln : Nat → Nat} {nu : Nat → Nat → Int64} {tp : Nat → Int32} {tl : Nat} {w rm x bf sx kx : Nat → Int32} {mk km : Nat → Int64} {nd knd fr tq : Nat → Int32} {sh : Nat → Int64} {sq lq cm va : Nat → Int32} {Y KY : YY} {t kt : Tr}
theorem stp_mk {μ ν : Nat} {as : List Value} {v : Value} (hM : 157 ≤ M.2.1) (hr : Rt 200 μ (.ref 3 :: as) M (some v) M1) (hp : Per M1 P Kp f kf h kh e ke s ks g kg ik rf so ln nu tp tl) (hs : Scr M1) (hc : CF M M1) (hn : Rt 200 ν (.ref 140 :: as) M1 (some v) M2) (hm : Mdl M2 w rm x bf sx kx mk km nd knd fr tq sh sq lq cm va) (ho : Out M1 M2) (hS : Sm P Kp f kf h kh e ke s ks ik rf so ln nu tp tl w rm x kx mk km tq sh sq lq Y KY) (hg : Pgs M1 g t nd (w 17) (w 33)) (hk : Pgs M1 kg kt knd (w 18) (w 34)) (hi : isO 12 (M1.1 140) = true) (hb : M1.2.1 ≤ M.2.1 + 500 ∧ M1.2.2 ≤ M.2.2 + 1900) (hv : vk v = rk μ := by rfl) : Stp2 μ ν as M := by
  have e2 := ho.2
  refine ⟨v, M1, M2, hv, hr, hn, hi, ⟨P, Kp, f, kf, h, kh, e, ke, s, ks, g, kg, ik, rf, so, ln, nu, tp, tl, w, rm, x, bf, sx, kx, mk, km, nd, knd, fr, tq, sh, sq, lq, cm, va, Y, KY, t, kt, ?_, ?_, hm, hS, ?_, ?_, ?_⟩, ?_, hc.1 0 (Or.inr rfl) (by omega), ?_, ?_, ?_⟩
  · exact per_kept hp (fun j _ _ => ho.1 j (by omega))
  · exact scr_kept hs (fun j _ _ _ _ => ho.1 j (by omega))
  · exact pgs_k hg (fun j h1 _ => ho.1 j (by omega)) (by rw [e2]; exact Nat.le_refl _)
  · exact pgs_k hk (fun j h1 _ => ho.1 j (by omega)) (by rw [e2]; exact Nat.le_refl _)
  · rw [e2]; have := hc.2; omega
  · rw [ho.1 0 (by omega)]; exact hc.1 0 (Or.inr rfl) (by omega)
  · rw [e2]; exact hb.1
  · rw [e2]; exact hb.2
  · rw [e2]; exact hc.2
theorem rl_m1 (hR : Rl M P Kp f kf h kh e ke s ks g kg ik rf so ln nu tp tl w rm x bf sx kx mk km nd knd fr tq sh sq lq cm va Y KY t kt) (hc : CF M M1) : Mdl M1 w rm x bf sx kx mk km nd knd fr tq sh sq lq cm va := md_kept hR.2.2.1 (fun j h1 h2 => hc.1 j (Or.inl h1) (by have := hR.2.2.2.2.2.2; omega))
theorem rl_p1 (hR : Rl M P Kp f kf h kh e ke s ks g kg ik rf so ln nu tp tl w rm x bf sx kx mk km nd knd fr tq sh sq lq cm va Y KY t kt) (hc : CF M M1) : Pgs M1 g t nd (w 17) (w 33) ∧ Pgs M1 kg kt knd (w 18) (w 34) := ⟨pgs_k hR.2.2.2.2.1 (fun j h1 h2 => hc.1 j (Or.inl (by omega)) h2) hc.2, pgs_k hR.2.2.2.2.2.1 (fun j h1 h2 => hc.1 j (Or.inl (by omega)) h2) hc.2⟩
/-- all the same programs -/
theorem stp_g {μ ν : Nat} {as : List Value} {v : Value} {w' : Nat → Int32} (hw : w' 17 = w 17 ∧ w' 33 = w 33 ∧ w' 18 = w 18 ∧ w' 34 = w 34) {P' : Nat → Nat → Int64} {f' : Nat → Int64} {h' : Nat} {e' s' : Int32} {rf' so' : Nat → Int32} {ln' : Nat → Nat} {nu' : Nat → Nat → Int64} {tp' : Nat → Int32} {tl' : Nat} {rm' x' : Nat → Int32} {mk' : Nat → Int64} {tq' : Nat → Int32} {sh' : Nat → Int64} {sq' lq' : Nat → Int32} {Y' : YY} (hR : Rl M P Kp f kf h kh e ke s ks g kg ik rf so ln nu tp tl w rm x bf sx kx mk km nd knd fr tq sh sq lq cm va Y KY t kt) (hr : Rt 200 μ (.ref 3 :: as) M (some v) M1) (hp : Per M1 (P') Kp (f') kf (h') kh (e') ke (s') ks g kg ik (rf') (so') (ln') (nu') (tp') (tl')) (hs : Scr M1) (hc : CF M M1) (h2 : M1.2 = M.2) (hn : ∀ _ : Mdl M1 w rm x bf sx kx mk km nd knd fr tq sh sq lq cm va, ∃ M2 bf' sx' fr' cm' va', Rt 200 ν (.ref 140 :: as) M1 (some v) M2 ∧ Mdl M2 (w') (rm') (x') (bf') (sx') kx (mk') km nd knd (fr') (tq') (sh') (sq') (lq') (cm') (va') ∧ Out M1 M2) (hS : Sm (P') Kp (f') kf (h') kh (e') ke (s') ks ik (rf') (so') (ln') (nu') (tp') (tl') (w') (rm') (x') kx (mk') km (tq') (sh') (sq') (lq') (Y') KY) (hv : vk v = rk μ := by rfl) : Stp2 μ ν as M := by
  have hm1 := rl_m1 hR hc
  obtain ⟨M2, _, _, _, _, _, n2, hm2, o2⟩ := hn hm1
  have hg := rl_p1 hR hc
  refine stp_mk (t := t) (kt := kt) hR.2.2.2.2.2.2 hr hp hs hc n2 hm2 o2 hS ?_ ?_ (md_i hm1).2 ⟨by rw [h2]; omega, by rw [h2]; omega⟩ hv
  · rw [hw.1, hw.2.1]; exact hg.1
  · rw [hw.2.2.1, hw.2.2.2]; exact hg.2
/-- both refuse -/
theorem stp_r {μ ν k : Nat} {as : List Value} {c : Int32} (hk : k < 5) (hR : Rl M P Kp f kf h kh e ke s ks g kg ik rf so ln nu tp tl w rm x bf sx kx mk km nd knd fr tq sh sq lq cm va Y KY t kt) (hr : Rt 200 μ (.ref 3 :: as) M (some (.int c)) (rfM M rf k)) (hn : ∀ {M1 : mM} (_ : Mdl M1 w rm x bf sx kx mk km nd knd fr tq sh sq lq cm va), Rt 200 ν (.ref 140 :: as) M1 (some (.int c)) (rfN M1 rm k)) (hv : vk (.int c) = rk μ := by rfl) : Stp2 μ ν as M := by
  have hc : CF M (rfM M rf k) := cf_mu cf_0 (by decide)
  refine stp_g (w' := w) (Y' := Y) ⟨rfl, rfl, rfl, rfl⟩ hR hr (per_rf hR.1 _) (scr_kept hR.2.1 (fun j h1 _ _ _ => by rw [mu_1, if_neg (by omega)])) hc rfl (fun hm1 => ⟨_, _, _, _, _, _, hn hm1, mu_rf hm1, out_mu out_0 (by decide) (by decide)⟩) ?_ hv
  obtain ⟨a1, a2, a3, a4, a5, a6, a7⟩ := hR.2.2.2.1
  refine ⟨a1, a2, a3, a4, a5, fun j hj => ?_, a7⟩
  by_cases cj : j = k
  · subst cj
    rw [pk_us, pk_us, a6 j hj]
  · rw [pk_un cj, pk_un cj, a6 j hj]
/-- nothing changes -/
theorem stp_q {μ ν : Nat} {as : List Value} {v : Value} (hR : Rl M P Kp f kf h kh e ke s ks g kg ik rf so ln nu tp tl w rm x bf sx kx mk km nd knd fr tq sh sq lq cm va Y KY t kt) (hr : Rt 200 μ (.ref 3 :: as) M (some v) M) (hn : ∀ {M1 : mM} (_ : Mdl M1 w rm x bf sx kx mk km nd knd fr tq sh sq lq cm va), Rt 200 ν (.ref 140 :: as) M1 (some v) M1) (hv : vk v = rk μ := by rfl) : Stp2 μ ν as M :=
  stp_g (w' := w) ⟨rfl, rfl, rfl, rfl⟩ hR hr hR.1 hR.2.1 cf_0 rfl (fun hm1 => ⟨_, _, _, _, _, _, hn hm1, hm1, out_0⟩) hR.2.2.2.1 hv
/-- nothing but the spare one -/
theorem stp_p {μ ν : Nat} {as : List Value} {v : Value} {q : Nat → Int64} (hR : Rl M P Kp f kf h kh e ke s ks g kg ik rf so ln nu tp tl w rm x bf sx kx mk km nd knd fr tq sh sq lq cm va Y KY t kt) (hr : Rt 200 μ (.ref 3 :: as) M (some v) (mu M 131 (cJ 8 q))) (hn : ∀ {M1 : mM} (_ : Mdl M1 w rm x bf sx kx mk km nd knd fr tq sh sq lq cm va), Rt 200 ν (.ref 140 :: as) M1 (some v) M1) (hv : vk v = rk μ := by rfl) : Stp2 μ ν as M := by
  refine stp_g (w' := w) ⟨rfl, rfl, rfl, rfl⟩ hR hr (per_kept hR.1 (fun j h1 h2 => by rw [mu_1, if_neg (by omega)])) ?_ (cf_mu cf_0 (by decide)) rfl (fun hm1 => ⟨_, _, _, _, _, _, hn hm1, hm1, out_0⟩) hR.2.2.2.1 hv
  obtain ⟨⟨f1, h1⟩, ⟨G2, h2⟩, ⟨G3, h3⟩, ⟨f4, h4⟩, ⟨fH, h5, h6⟩, h7, ⟨a, b, h8⟩, ⟨a2, b2, c2, d2, e2, h9⟩, ⟨w, h10⟩⟩ := hR.2.1
  have hk : ∀ j, j ≠ 131 → (mu M 131 (cJ 8 q)).1 j = M.1 j := fun j hj => by rw [mu_1, if_neg hj]
  exact ⟨⟨q, by decide, by rw [hk _ (by omega)]; exact h1.2.1, by rw [mu_1, if_pos rfl]⟩, ⟨G2, vrs_kept h2 (fun j _ _ => hk j (by omega))⟩, ⟨G3, vrs_kept h3 (fun j _ _ => hk j (by omega))⟩, ⟨f4, slc_kept h4 (hk _ (by omega)) (hk _ (by omega))⟩, ⟨fH, by rw [hk _ (by omega)]; exact h5, h6⟩, fun i hi => (h7 i hi).imp fun f hf => slc_kept hf (hk _ (by omega)) (hk _ (by omega)), ⟨a, b, by rw [hk _ (by omega)]; exact h8⟩, ⟨a2, b2, c2, d2, e2, by rw [hk _ (by omega)]; exact h9⟩, ⟨w, by rw [hk _ (by omega)]; exact h10⟩⟩
theorem rl_spare (hR : Rl M P Kp f kf h kh e ke s ks g kg ik rf so ln nu tp tl w rm x bf sx kx mk km nd knd fr tq sh sq lq cm va Y KY t kt) : ∃ q, slc M 130 q := hR.2.1.1
theorem rl_Y (hR : Rl M P Kp f kf h kh e ke s ks g kg ik rf so ln nu tp tl w rm x bf sx kx mk km nd knd fr tq sh sq lq cm va Y KY t kt) : Cuts P Y := hR.2.2.2.1.1.1
theorem rl_x (hR : Rl M P Kp f kf h kh e ke s ks g kg ik rf so ln nu tp tl w rm x bf sx kx mk km nd knd fr tq sh sq lq cm va Y KY t kt) : Row x Y := hR.2.2.2.1.1.2
theorem rl_7 (hR : Rl M P Kp f kf h kh e ke s ks g kg ik rf so ln nu tp tl w rm x bf sx kx mk km nd knd fr tq sh sq lq cm va Y KY t kt) : w 7 = nI h := hR.2.2.2.1.2.2.1.1
theorem rl_9 (hR : Rl M P Kp f kf h kh e ke s ks g kg ik rf so ln nu tp tl w rm x bf sx kx mk km nd knd fr tq sh sq lq cm va Y KY t kt) : w 9 = e := hR.2.2.2.1.2.2.2.2.1.1
theorem rl_h (hR : Rl M P Kp f kf h kh e ke s ks g kg ik rf so ln nu tp tl w rm x bf sx kx mk km nd knd fr tq sh sq lq cm va Y KY t kt) : h ≤ 8 := pf_h hR.1
theorem rl_com (hR : Rl M P Kp f kf h kh e ke s ks g kg ik rf so ln nu tp tl w rm x bf sx kx mk km nd knd fr tq sh sq lq cm va Y KY t kt) : mcom mk h = mcom f h := com_c (fun j hj => hR.2.2.2.1.2.2.1.2 j (by have := rl_h hR; omega))
end RL

/-! The class's own cells: what lasts (Per) and what is only used within a call (Scr). -/
def isv (n : Nat) (a : Int32) : Prop := ∃ j, j < n ∧ a = nI j
theorem nisv {n : Nat} {a : Int32} (hn : n < 2 ^ 31) (h : ¬ isv n a) : a < 0 ∨ nI n ≤ a := by
  rcases pk_ix a hn with h1 | h1 | ⟨j, h1, h2⟩
  · exact Or.inl h1
  · exact Or.inr h1
  · exact absurd ⟨j, h1, h2⟩ h
def Per (M : mM) (P Kp : Nat → Nat → Int64) (f kf : Nat → Int64) (h kh : Nat) (e ke s ks : Int32) (g kg : Value) (ik : Int32) (rf : Nat → Int32) (so : Nat → Int32) (ln : Nat → Nat) (nu : Nat → Nat → Int64) (tp : Nat → Int32) (tl : Nat) : Prop :=
  (M.1 1 = some (cI 12 mf1) ∧ M.1 2 = some (cJ 8 mf2)) ∧
  M.1 3 = some (cO 11 [.ref 4, .ref 25, .int ik, .ref 46, .ref 47, .ref 48, .ref 52, .ref 112, .ref 130]) ∧
  whl M 4 P f (nI h) e s g ∧ whl M 25 Kp kf (nI kh) ke ks kg ∧
  (∃ fS : Nat → Option Nat, M.1 46 = some (cR 3 4 fS) ∧ ∀ k, k < 4 → fS k = some (132 + 2 * k)) ∧
  M.1 47 = some (cI 5 rf) ∧ (∀ k, k < 4 → shf M (132 + 2 * k) (so k) (nI (ln k)) (nu k)) ∧
  (M.1 49 = some (cO 7 [.ref 50, .int (nI tl)]) ∧ M.1 50 = some (cI 160 tp)) ∧
  h ≤ 8 ∧ kh ≤ 8 ∧ (∀ k, k < 4 → ln k ≤ 64) ∧ (∀ k, k < 4 → so k = -1 ∨ so k = 0 ∨ so k = 1 ∨ so k = 2 ∨ so k = 3) ∧ tl ≤ 160 ∧ (ik = 0 ∨ ik = 1) ∧ mfit 1 g = true ∧ mfit 1 kg = true ∧ (e = 0 ∨ e = 1) ∧ (ke = 0 ∨ ke = 1)
def Scr (M : mM) : Prop := (∃ f, slc M 130 f) ∧ (∃ G, vrs M 56 G) ∧ (∃ G, vrs M 112 G) ∧ (∃ f, slc M 54 f) ∧ (∃ fH : Nat → Option Nat, M.1 53 = some (cR 2 19 fH) ∧ ∀ i, i < 19 → fH i = some (74 + 2 * i)) ∧ (∀ i, i < 19 → ∃ f, slc M (74 + 2 * i) f) ∧
  (∃ a b, M.1 52 = some (cO 9 [.ref 53, .ref 54, .ref 56, .int a, .int b])) ∧ (∃ a b c d e, M.1 48 = some (cO 4 [.ref 49, .ref 51, .int a, .int b, .int c, .int d, .int e])) ∧ (∃ w, M.1 51 = some (cI 160 w))
theorem whl_kept {M M' : mM} {W : Nat} {P : Nat → Nat → Int64} {f : Nat → Int64} {h e s : Int32} {g : Value} (hW : whl M W P f h e s g) (hk : ∀ j, W ≤ j → j < W + 21 → M'.1 j = M.1 j) : whl M' W P f h e s g :=
  ⟨hW.1, by rw [hk _ (by omega) (by omega)]; exact hW.2.1, vrs_kept hW.2.2.1 (fun j h1 h2 => hk j (by omega) (by omega)), msk_kept hW.2.2.2 (hk _ (by omega) (by omega)) (hk _ (by omega) (by omega))⟩
theorem shf_kept {M M' : mM} {s : Nat} {so ln : Int32} {f : Nat → Int64} (h : shf M s so ln f) (h1 : M'.1 s = M.1 s) (h2 : M'.1 (s + 1) = M.1 (s + 1)) : shf M' s so ln f := ⟨h.1, by rw [h1]; exact h.2.1, by rw [h2]; exact h.2.2⟩
theorem scr_kept {M M' : mM} (h : Scr M) (hk : ∀ j, 48 ≤ j → j < 132 → j ≠ 49 → j ≠ 50 → M'.1 j = M.1 j) : Scr M' := by
  obtain ⟨⟨f1, h1⟩, ⟨G2, h2⟩, ⟨G3, h3⟩, ⟨f4, h4⟩, ⟨fH, h5, h6⟩, h7, ⟨a, b, h8⟩, ⟨a2, b2, c2, d2, e2, h9⟩, ⟨w, h10⟩⟩ := h
  exact ⟨⟨f1, slc_kept h1 (hk _ (by omega) (by omega) (by omega) (by omega)) (hk _ (by omega) (by omega) (by omega) (by omega))⟩, ⟨G2, vrs_kept h2 (fun j _ _ => hk j (by omega) (by omega) (by omega) (by omega))⟩, ⟨G3, vrs_kept h3 (fun j _ _ => hk j (by omega) (by omega) (by omega) (by omega))⟩, ⟨f4, slc_kept h4 (hk _ (by omega) (by omega) (by omega) (by omega)) (hk _ (by omega) (by omega) (by omega) (by omega))⟩,
    ⟨fH, by rw [hk _ (by omega) (by omega) (by omega) (by omega)]; exact h5, h6⟩, fun i hi => (h7 i hi).imp fun f hf => slc_kept hf (hk _ (by omega) (by omega) (by omega) (by omega)) (hk _ (by omega) (by omega) (by omega) (by omega)), ⟨a, b, by rw [hk _ (by omega) (by omega) (by omega) (by omega)]; exact h8⟩, ⟨a2, b2, c2, d2, e2, by rw [hk _ (by omega) (by omega) (by omega) (by omega)]; exact h9⟩, ⟨w, by rw [hk _ (by omega) (by omega) (by omega) (by omega)]; exact h10⟩⟩
section PR
variable {M M' : mM} {P Kp : Nat → Nat → Int64} {f kf : Nat → Int64} {h kh : Nat} {e ke s ks : Int32} {g kg : Value} {ik : Int32} {rf : Nat → Int32} {so : Nat → Int32} {ln : Nat → Nat} {nu : Nat → Nat → Int64} {tp : Nat → Int32} {tl : Nat}
theorem per_kept (hp : Per M P Kp f kf h kh e ke s ks g kg ik rf so ln nu tp tl) (hk : ∀ j, 1 ≤ j → (j ≤ 47 ∨ j = 49 ∨ j = 50 ∨ (132 ≤ j ∧ j < 140)) → M'.1 j = M.1 j) : Per M' P Kp f kf h kh e ke s ks g kg ik rf so ln nu tp tl := by
  obtain ⟨⟨a1, a2⟩, a3, a4, a5, ⟨fS, a6, a7⟩, a8, a9, ⟨a10, a11⟩, a12⟩ := hp
  exact ⟨⟨by rw [hk _ (by omega) (by omega)]; exact a1, by rw [hk _ (by omega) (by omega)]; exact a2⟩, by rw [hk _ (by omega) (by omega)]; exact a3, whl_kept a4 (fun j _ _ => hk j (by omega) (by omega)), whl_kept a5 (fun j _ _ => hk j (by omega) (by omega)), ⟨fS, by rw [hk _ (by omega) (by omega)]; exact a6, a7⟩, by rw [hk _ (by omega) (by omega)]; exact a8,
    fun k hk4 => shf_kept (a9 k hk4) (hk _ (by omega) (by omega)) (hk _ (by omega) (by omega)), ⟨by rw [hk _ (by omega) (by omega)]; exact a10, by rw [hk _ (by omega) (by omega)]; exact a11⟩, a12⟩
/-- the planes of one VARIABLE -/
theorem per_P (hp : Per M P Kp f kf h kh e ke s ks g kg ik rf so ln nu tp tl) {v : Nat} (hv : v < 8) (q : Nat → Int64) : Per (mu M (7 + 2 * v + 1) (cJ 8 q)) (fun w => if w = v then q else P w) Kp f kf h kh e ke s ks g kg ik rf so ln nu tp tl := by
  obtain ⟨⟨a1, a2⟩, a3, a4, a5, ⟨fS, a6, a7⟩, a8, a9, ⟨a10, a11⟩, a12⟩ := hp
  have hk : ∀ j, j ≠ 7 + 2 * v + 1 → (mu M (7 + 2 * v + 1) (cJ 8 q)).1 j = M.1 j := fun j hj => by rw [mu_1, if_neg hj]
  refine ⟨⟨by rw [hk _ (by omega)]; exact a1, by rw [hk _ (by omega)]; exact a2⟩, by rw [hk _ (by omega)]; exact a3, ⟨a4.1, by rw [hk _ (by omega)]; exact a4.2.1, ?_, msk_kept a4.2.2.2 (hk _ (by omega)) (hk _ (by omega))⟩, whl_kept a5 (fun j _ _ => hk j (by omega)), ⟨fS, by rw [hk _ (by omega)]; exact a6, a7⟩, by rw [hk _ (by omega)]; exact a8,
    fun k hk4 => shf_kept (a9 k hk4) (hk _ (by omega)) (hk _ (by omega)), ⟨by rw [hk _ (by omega)]; exact a10, by rw [hk _ (by omega)]; exact a11⟩, a12⟩
  obtain ⟨b1, b2, ⟨fA, b3, b4⟩, b5⟩ := a4.2.2.1
  refine ⟨b1, by rw [hk _ (by omega)]; exact b2, ⟨fA, by rw [hk _ (by omega)]; exact b3, b4⟩, fun w hw => ?_⟩
  by_cases ew : w = v
  · subst ew
    refine ⟨(b5 w hw).1, by rw [hk _ (by omega)]; exact (b5 w hw).2.1, ?_⟩
    simp only [if_true]
    show (if 4 + 1 + 2 + 2 * w + 1 = 7 + 2 * w + 1 then _ else _) = _
    rw [if_pos (by omega)]
  · simp only [if_neg ew]
    exact slc_kept (b5 w hw) (hk _ (by omega)) (hk _ (by omega))
/-- edge, steps, program -/
theorem per_W (hp : Per M P Kp f kf h kh e ke s ks g kg ik rf so ln nu tp tl) {e' s' : Int32} {g' : Value} (he : e' = 0 ∨ e' = 1) (hg : mfit 1 g' = true) : Per (mu M 4 (cO 10 [.ref 5, .ref 23, .int e', .int s', g'])) P Kp f kf h kh e' ke s' ks g' kg ik rf so ln nu tp tl := by
  obtain ⟨⟨a1, a2⟩, a3, a4, a5, ⟨fS, a6, a7⟩, a8, a9, ⟨a10, a11⟩, a12, a13, a14, a15, a16, a17, a18, a19, a20, a21⟩ := hp
  have hk : ∀ j, j ≠ 4 → (mu M 4 (cO 10 [.ref 5, .ref 23, .int e', .int s', g'])).1 j = M.1 j := fun j hj => by rw [mu_1, if_neg hj]
  exact ⟨⟨by rw [hk _ (by omega)]; exact a1, by rw [hk _ (by omega)]; exact a2⟩, by rw [hk _ (by omega)]; exact a3, ⟨a4.1, rfl, vrs_kept a4.2.2.1 (fun j _ _ => hk j (by omega)), msk_kept a4.2.2.2 (hk _ (by omega)) (hk _ (by omega))⟩, whl_kept a5 (fun j _ _ => hk j (by omega)), ⟨fS, by rw [hk _ (by omega)]; exact a6, a7⟩, by rw [hk _ (by omega)]; exact a8,
    fun k hk4 => shf_kept (a9 k hk4) (hk _ (by omega)) (hk _ (by omega)), ⟨by rw [hk _ (by omega)]; exact a10, by rw [hk _ (by omega)]; exact a11⟩, a12, a13, a14, a15, a16, a17, hg, a19, he, a21⟩
theorem per_msets (hp : Per M P Kp f kf h kh e ke s ks g kg ik rf so ln nu tp tl) (q : Nat → Int64) : Per (mu M 24 (cJ 8 q)) P Kp q kf h kh e ke s ks g kg ik rf so ln nu tp tl := by
  obtain ⟨⟨a1, a2⟩, a3, a4, a5, ⟨fS, a6, a7⟩, a8, a9, ⟨a10, a11⟩, a12⟩ := hp
  have hk : ∀ j, j ≠ 24 → (mu M 24 (cJ 8 q)).1 j = M.1 j := fun j hj => by rw [mu_1, if_neg hj]
  exact ⟨⟨by rw [hk _ (by omega)]; exact a1, by rw [hk _ (by omega)]; exact a2⟩, by rw [hk _ (by omega)]; exact a3, ⟨a4.1, by rw [hk _ (by omega)]; exact a4.2.1, vrs_kept a4.2.2.1 (fun j _ _ => hk j (by omega)), a4.2.2.2.1, by rw [hk _ (by omega)]; exact a4.2.2.2.2.1, rfl⟩, whl_kept a5 (fun j _ _ => hk j (by omega)), ⟨fS, by rw [hk _ (by omega)]; exact a6, a7⟩, by rw [hk _ (by omega)]; exact a8,
    fun k hk4 => shf_kept (a9 k hk4) (hk _ (by omega)) (hk _ (by omega)), ⟨by rw [hk _ (by omega)]; exact a10, by rw [hk _ (by omega)]; exact a11⟩, a12⟩
theorem per_mh (hp : Per M P Kp f kf h kh e ke s ks g kg ik rf so ln nu tp tl) {h' : Nat} (hh : h' ≤ 8) : Per (mu M 23 (cO 2 [.ref 24, .int (nI h')])) P Kp f kf h' kh e ke s ks g kg ik rf so ln nu tp tl := by
  obtain ⟨⟨a1, a2⟩, a3, a4, a5, ⟨fS, a6, a7⟩, a8, a9, ⟨a10, a11⟩, a12, a13⟩ := hp
  have hk : ∀ j, j ≠ 23 → (mu M 23 (cO 2 [.ref 24, .int (nI h')])).1 j = M.1 j := fun j hj => by rw [mu_1, if_neg hj]
  exact ⟨⟨by rw [hk _ (by omega)]; exact a1, by rw [hk _ (by omega)]; exact a2⟩, by rw [hk _ (by omega)]; exact a3, ⟨a4.1, by rw [hk _ (by omega)]; exact a4.2.1, vrs_kept a4.2.2.1 (fun j _ _ => hk j (by omega)), a4.2.2.2.1, rfl, by rw [hk _ (by omega)]; exact a4.2.2.2.2.2⟩, whl_kept a5 (fun j _ _ => hk j (by omega)), ⟨fS, by rw [hk _ (by omega)]; exact a6, a7⟩, by rw [hk _ (by omega)]; exact a8,
    fun k hk4 => shf_kept (a9 k hk4) (hk _ (by omega)) (hk _ (by omega)), ⟨by rw [hk _ (by omega)]; exact a10, by rw [hk _ (by omega)]; exact a11⟩, hh, a13⟩
theorem per_rf (hp : Per M P Kp f kf h kh e ke s ks g kg ik rf so ln nu tp tl) (q : Nat → Int32) : Per (mu M 47 (cI 5 q)) P Kp f kf h kh e ke s ks g kg ik q so ln nu tp tl := by
  obtain ⟨⟨a1, a2⟩, a3, a4, a5, ⟨fS, a6, a7⟩, a8, a9, ⟨a10, a11⟩, a12⟩ := hp
  have hk : ∀ j, j ≠ 47 → (mu M 47 (cI 5 q)).1 j = M.1 j := fun j hj => by rw [mu_1, if_neg hj]
  exact ⟨⟨by rw [hk _ (by omega)]; exact a1, by rw [hk _ (by omega)]; exact a2⟩, by rw [hk _ (by omega)]; exact a3, whl_kept a4 (fun j _ _ => hk j (by omega)), whl_kept a5 (fun j _ _ => hk j (by omega)), ⟨fS, by rw [hk _ (by omega)]; exact a6, a7⟩, rfl,
    fun k hk4 => shf_kept (a9 k hk4) (hk _ (by omega)) (hk _ (by omega)), ⟨by rw [hk _ (by omega)]; exact a10, by rw [hk _ (by omega)]; exact a11⟩, a12⟩
theorem per_tape (hp : Per M P Kp f kf h kh e ke s ks g kg ik rf so ln nu tp tl) (q : Nat → Int32) : Per (mu M 50 (cI 160 q)) P Kp f kf h kh e ke s ks g kg ik rf so ln nu q tl := by
  obtain ⟨⟨a1, a2⟩, a3, a4, a5, ⟨fS, a6, a7⟩, a8, a9, ⟨a10, a11⟩, a12⟩ := hp
  have hk : ∀ j, j ≠ 50 → (mu M 50 (cI 160 q)).1 j = M.1 j := fun j hj => by rw [mu_1, if_neg hj]
  exact ⟨⟨by rw [hk _ (by omega)]; exact a1, by rw [hk _ (by omega)]; exact a2⟩, by rw [hk _ (by omega)]; exact a3, whl_kept a4 (fun j _ _ => hk j (by omega)), whl_kept a5 (fun j _ _ => hk j (by omega)), ⟨fS, by rw [hk _ (by omega)]; exact a6, a7⟩, by rw [hk _ (by omega)]; exact a8,
    fun k hk4 => shf_kept (a9 k hk4) (hk _ (by omega)) (hk _ (by omega)), ⟨by rw [hk _ (by omega)]; exact a10, rfl⟩, a12⟩
theorem per_tl (hp : Per M P Kp f kf h kh e ke s ks g kg ik rf so ln nu tp tl) {t' : Nat} (ht : t' ≤ 160) : Per (mu M 49 (cO 7 [.ref 50, .int (nI t')])) P Kp f kf h kh e ke s ks g kg ik rf so ln nu tp t' := by
  obtain ⟨⟨a1, a2⟩, a3, a4, a5, ⟨fS, a6, a7⟩, a8, a9, ⟨a10, a11⟩, a12, a13, a14, a15, a16, a17⟩ := hp
  have hk : ∀ j, j ≠ 49 → (mu M 49 (cO 7 [.ref 50, .int (nI t')])).1 j = M.1 j := fun j hj => by rw [mu_1, if_neg hj]
  exact ⟨⟨by rw [hk _ (by omega)]; exact a1, by rw [hk _ (by omega)]; exact a2⟩, by rw [hk _ (by omega)]; exact a3, whl_kept a4 (fun j _ _ => hk j (by omega)), whl_kept a5 (fun j _ _ => hk j (by omega)), ⟨fS, by rw [hk _ (by omega)]; exact a6, a7⟩, by rw [hk _ (by omega)]; exact a8,
    fun k hk4 => shf_kept (a9 k hk4) (hk _ (by omega)) (hk _ (by omega)), ⟨rfl, by rw [hk _ (by omega)]; exact a11⟩, a12, a13, a14, a15, ht, a17⟩
/-- one shelf anew -/
theorem per_sh (hp : Per M P Kp f kf h kh e ke s ks g kg ik rf so ln nu tp tl) {k : Nat} (hk4 : k < 4) {so' : Int32} {ln' : Nat} {q : Nat → Int64} (hso : so' = -1 ∨ so' = 0 ∨ so' = 1 ∨ so' = 2 ∨ so' = 3) (hln : ln' ≤ 64) (hM : ∀ j, j ≠ 132 + 2 * k → j ≠ 132 + 2 * k + 1 → M'.1 j = M.1 j) (h1 : M'.1 (132 + 2 * k) = some (cO 5 [.ref (132 + 2 * k + 1), .int so', .int (nI ln')])) (h2 : M'.1 (132 + 2 * k + 1) = some (cJ 64 q)) : Per M' P Kp f kf h kh e ke s ks g kg ik rf (fun i => if i = k then so' else so i) (fun i => if i = k then ln' else ln i) (fun i => if i = k then q else nu i) tp tl := by
  obtain ⟨⟨a1, a2⟩, a3, a4, a5, ⟨fS, a6, a7⟩, a8, a9, ⟨a10, a11⟩, a12, a13, a14, a15, a16⟩ := hp
  refine ⟨⟨by rw [hM _ (by omega) (by omega)]; exact a1, by rw [hM _ (by omega) (by omega)]; exact a2⟩, by rw [hM _ (by omega) (by omega)]; exact a3, whl_kept a4 (fun j _ _ => hM j (by omega) (by omega)), whl_kept a5 (fun j _ _ => hM j (by omega) (by omega)), ⟨fS, by rw [hM _ (by omega) (by omega)]; exact a6, a7⟩, by rw [hM _ (by omega) (by omega)]; exact a8,
    fun i hi => ?_, ⟨by rw [hM _ (by omega) (by omega)]; exact a10, by rw [hM _ (by omega) (by omega)]; exact a11⟩, a12, a13, fun i hi => ?_, fun i hi => ?_, a16⟩
  · by_cases ei : i = k
    · subst ei
      simp only [if_true]
      exact ⟨by omega, h1, h2⟩
    · simp only [if_neg ei]
      exact shf_kept (a9 i hi) (hM _ (by omega) (by omega)) (hM _ (by omega) (by omega))
  · by_cases ei : i = k
    · simp only [if_pos ei]; exact hln
    · simp only [if_neg ei]; exact a14 i hi
  · by_cases ei : i = k
    · simp only [if_pos ei]; exact hso
    · simp only [if_neg ei]; exact a15 i hi
theorem pf_slc (hp : Per M P Kp f kf h kh e ke s ks g kg ik rf so ln nu tp tl) {v : Nat} (hv : v < 8) : slc M (7 + 2 * v) (P v) := hp.2.2.1.2.2.1.2.2.2 v hv
theorem pf_os (hp : Per M P Kp f kf h kh e ke s ks g kg ik rf so ln nu tp tl) {v : Nat} (hv : v < 8) : 3 ≤ 7 + 2 * v ∧ isO 6 (M.1 (7 + 2 * v)) = true := ⟨by omega, by rw [(pf_slc hp hv).2.1]; rfl⟩
theorem pf_o5 (hp : Per M P Kp f kf h kh e ke s ks g kg ik rf so ln nu tp tl) : 3 ≤ 5 ∧ isO 8 (M.1 5) = true := ⟨by omega, by rw [show M.1 5 = _ from hp.2.2.1.2.2.1.2.1]; rfl⟩
theorem pf_o23 (hp : Per M P Kp f kf h kh e ke s ks g kg ik rf so ln nu tp tl) : 3 ≤ 23 ∧ isO 2 (M.1 23) = true := ⟨by omega, by rw [show M.1 23 = _ from hp.2.2.1.2.2.2.2.1]; rfl⟩
theorem pf_3 (hp : Per M P Kp f kf h kh e ke s ks g kg ik rf so ln nu tp tl) : M.1 3 = some (cO 11 [.ref 4, .ref 25, .int ik, .ref 46, .ref 47, .ref 48, .ref 52, .ref 112, .ref 130]) := hp.2.1
theorem pf_o3 (hp : Per M P Kp f kf h kh e ke s ks g kg ik rf so ln nu tp tl) : 3 ≤ 3 ∧ isO 11 (M.1 3) = true := ⟨by omega, by rw [pf_3 hp]; rfl⟩
theorem pf_4 (hp : Per M P Kp f kf h kh e ke s ks g kg ik rf so ln nu tp tl) : M.1 4 = some (cO 10 [.ref 5, .ref 23, .int e, .int s, g]) := hp.2.2.1.2.1
theorem pf_23 (hp : Per M P Kp f kf h kh e ke s ks g kg ik rf so ln nu tp tl) : M.1 23 = some (cO 2 [.ref 24, .int (nI h)]) := hp.2.2.1.2.2.2.2.1
theorem pf_msk (hp : Per M P Kp f kf h kh e ke s ks g kg ik rf so ln nu tp tl) : msk M 23 f (nI h) := hp.2.2.1.2.2.2
theorem pf_h (hp : Per M P Kp f kf h kh e ke s ks g kg ik rf so ln nu tp tl) : h ≤ 8 := hp.2.2.2.2.2.2.2.2.1
theorem pf_slices (hp : Per M P Kp f kf h kh e ke s ks g kg ik rf so ln nu tp tl) {d v : Nat} (hv : v < 8) : Rt d 62 [.ref 5, .int (nI v)] M (some (.ref (7 + 2 * v))) M := r_slices hp.2.2.1.2.2.1 hv
theorem pf_common (hp : Per M P Kp f kf h kh e ke s ks g kg ik rf so ln nu tp tl) {d : Nat} : Rt d 6 [.ref 23] M (some (.long (mcom f h))) M := r_common (pf_msk hp) (pf_h hp)
end PR

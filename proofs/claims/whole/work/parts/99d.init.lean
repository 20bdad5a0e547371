/-! Both constructors: what stands in the cells behind them. -/
/-- n new cells of z slots; the old ones but p are as they were -/
def IN (M M' : mM) (p n z : Nat) : Prop := (∀ j, j < M.2.1 → j ≠ p → M'.1 j = M.1 j) ∧ M'.2.1 = M.2.1 + n ∧ M'.2.2 = M.2.2 + z
theorem in_0 {M : mM} {p : Nat} : IN M M p 0 0 := ⟨fun _ _ _ => rfl, rfl, rfl⟩
theorem in_t {M M1 M2 : mM} {p n z n' z' : Nat} (h : IN M M1 p n z) (h' : IN M1 M2 p n' z') : IN M M2 p (n + n') (z + z') := ⟨fun j hj hp => by rw [h'.1 j (by rw [h.2.1]; omega) hp, h.1 j hj hp], by rw [h'.2.1, h.2.1]; omega, by rw [h'.2.2, h.2.2]; omega⟩
section IN
variable {d μ : Nat} {is : List mI} {L : mL} {st : List Value} {M : mM} {Q : Option Value → mM → Prop} {g g1 : List Nat}
theorem rt_n {as : List Value} {P : mM → Prop} (hl : (mlay as).length ≤ mmx mTab μ) (h : Ev d μ (mat mTab μ 0) (ment mTab μ as) [] M (fun v M' => v = none ∧ P M')) : ∃ M', Rt d μ as M none M' ∧ P M' := by
  obtain ⟨v, M', r, rfl, hP⟩ := rt_ex hl h
  exact ⟨M', r, hP⟩
theorem st_put {ci k t p : Nat} {v : Value} {fs : List Value} (hc : M.1 p = some (cO ci fs)) (hk : k < fs.length) (h3 : 3 ≤ p) (hf : mfit t v = true) (K : ∀ M', M'.1 p = some (cO ci (fset fs k v)) → IN M M' p 0 0 → Ev d μ is L st M' Q) : Ev d μ ((.putfield 0, [ci, k, t]) :: is) L (v :: .ref p :: st) M Q := by
  refine ev_putf.mpr ⟨⟨h3, by rw [hc]; exact okO_c.mpr ⟨rfl, hk⟩, hf⟩, ?_⟩
  rw [hc, wrO_c]
  exact K _ (by rw [mu_1, if_pos rfl]) ⟨fun j _ hj => by rw [mu_1, if_neg hj], rfl, rfl⟩
theorem st_nl {c : Int} (N : Nat) (h : ¬ Int32.ofInt c < 0 ∧ (Int32.ofInt c).toNatClampNeg = N ∧ N ≤ 60000) {p : Nat} (K : ∀ M', M'.1 M.2.1 = some (cJ N (fun _ => 0)) → IN M M' p 1 N → Ev d μ is L (.ref M.2.1 :: st) M' Q) : Ev d μ ((.iconst c, g1) :: (.newarray .long, g) :: is) L st M Q := by
  obtain ⟨h1, rfl, h2⟩ := h
  exact ev_iconst.mpr (ev_newl.mpr ⟨⟨h1, h2⟩, K _ (by rw [mp_1, if_pos rfl]) ⟨fun j hj _ => by rw [mp_1, if_neg (by omega)], rfl, rfl⟩⟩)
theorem st_ni {c : Int} (N : Nat) (h : ¬ Int32.ofInt c < 0 ∧ (Int32.ofInt c).toNatClampNeg = N ∧ N ≤ 60000) {p : Nat} (K : ∀ M', M'.1 M.2.1 = some (cI N (fun _ => 0)) → IN M M' p 1 N → Ev d μ is L (.ref M.2.1 :: st) M' Q) : Ev d μ ((.iconst c, g1) :: (.newarray .int, g) :: is) L st M Q := by
  obtain ⟨h1, rfl, h2⟩ := h
  exact ev_iconst.mpr (ev_newi.mpr ⟨⟨h1, h2⟩, K _ (by rw [mp_1, if_pos rfl]) ⟨fun j hj _ => by rw [mp_1, if_neg (by omega)], rfl, rfl⟩⟩)
theorem st_nq {c : Int} {t : Nat} (N : Nat) (h : ¬ Int32.ofInt c < 0 ∧ (Int32.ofInt c).toNatClampNeg = N ∧ N ≤ 60000) {p : Nat} (K : ∀ M', M'.1 M.2.1 = some (cR t N (fun _ => none)) → IN M M' p 1 N → Ev d μ is L (.ref M.2.1 :: st) M' Q) : Ev d μ ((.iconst c, g1) :: (.anewarray 0, [t]) :: is) L st M Q := by
  obtain ⟨h1, rfl, h2⟩ := h
  exact ev_iconst.mpr (ev_newq.mpr ⟨⟨h1, h2⟩, K _ (by rw [mp_1, if_pos rfl]) ⟨fun j hj _ => by rw [mp_1, if_neg (by omega)], rfl, rfl⟩⟩)
/-- a row made and put into a field of p -/
theorem st_fl {c : Int} {ci k p : Nat} {fs : List Value} {r : mL} {g0 : List Nat} (N : Nat) (h : ¬ Int32.ofInt c < 0 ∧ (Int32.ofInt c).toNatClampNeg = N ∧ N ≤ 60000) (hc : M.1 p = some (cO ci fs)) (hp : p < M.2.1) (hk : k < fs.length) (h3 : 3 ≤ p) (K : ∀ M', M'.1 p = some (cO ci (fset fs k (.ref M.2.1))) → M'.1 M.2.1 = some (cJ N (fun _ => 0)) → IN M M' p 1 N → Ev d μ is (some (.ref p) :: r) [] M' Q) : Ev d μ ((.aload 0, g0) :: (.iconst c, g1) :: (.newarray .long, g) :: (.putfield 0, [ci, k, 1]) :: is) (some (.ref p) :: r) [] M Q := by
  refine ev_al0.mpr (st_nl N h (p := M.2.1) (fun M1 a1 n1 => ?_))
  exact st_put ((n1.1 p hp (by omega)).trans hc) hk h3 rfl (fun M2 a2 n2 => K M2 a2 ((n2.1 _ (by rw [n1.2.1]; omega) (by omega)).trans a1) ⟨fun j h1 h2 => (n2.1 j (by rw [n1.2.1]; omega) h2).trans (n1.1 j h1 (by omega)), by rw [n2.2.1, n1.2.1], by rw [n2.2.2, n1.2.2]; rfl⟩)
theorem st_fi {c : Int} {ci k p : Nat} {fs : List Value} {r : mL} {g0 : List Nat} (N : Nat) (h : ¬ Int32.ofInt c < 0 ∧ (Int32.ofInt c).toNatClampNeg = N ∧ N ≤ 60000) (hc : M.1 p = some (cO ci fs)) (hp : p < M.2.1) (hk : k < fs.length) (h3 : 3 ≤ p) (K : ∀ M', M'.1 p = some (cO ci (fset fs k (.ref M.2.1))) → M'.1 M.2.1 = some (cI N (fun _ => 0)) → IN M M' p 1 N → Ev d μ is (some (.ref p) :: r) [] M' Q) : Ev d μ ((.aload 0, g0) :: (.iconst c, g1) :: (.newarray .int, g) :: (.putfield 0, [ci, k, 1]) :: is) (some (.ref p) :: r) [] M Q := by
  refine ev_al0.mpr (st_ni N h (p := M.2.1) (fun M1 a1 n1 => ?_))
  exact st_put ((n1.1 p hp (by omega)).trans hc) hk h3 rfl (fun M2 a2 n2 => K M2 a2 ((n2.1 _ (by rw [n1.2.1]; omega) (by omega)).trans a1) ⟨fun j h1 h2 => (n2.1 j (by rw [n1.2.1]; omega) h2).trans (n1.1 j h1 (by omega)), by rw [n2.2.1, n1.2.1], by rw [n2.2.2, n1.2.2]; rfl⟩)
theorem st_fq {c : Int} {t ci k p : Nat} {fs : List Value} {r : mL} {g0 : List Nat} (N : Nat) (h : ¬ Int32.ofInt c < 0 ∧ (Int32.ofInt c).toNatClampNeg = N ∧ N ≤ 60000) (hc : M.1 p = some (cO ci fs)) (hp : p < M.2.1) (hk : k < fs.length) (h3 : 3 ≤ p) (K : ∀ M', M'.1 p = some (cO ci (fset fs k (.ref M.2.1))) → M'.1 M.2.1 = some (cR t N (fun _ => none)) → IN M M' p 1 N → Ev d μ is (some (.ref p) :: r) [] M' Q) : Ev d μ ((.aload 0, g0) :: (.iconst c, g1) :: (.anewarray 0, [t]) :: (.putfield 0, [ci, k, 1]) :: is) (some (.ref p) :: r) [] M Q := by
  refine ev_al0.mpr (st_nq N h (p := M.2.1) (fun M1 a1 n1 => ?_))
  exact st_put ((n1.1 p hp (by omega)).trans hc) hk h3 rfl (fun M2 a2 n2 => K M2 a2 ((n2.1 _ (by rw [n1.2.1]; omega) (by omega)).trans a1) ⟨fun j h1 h2 => (n2.1 j (by rw [n1.2.1]; omega) h2).trans (n1.1 j h1 (by omega)), by rw [n2.2.1, n1.2.1], by rw [n2.2.2, n1.2.2]; rfl⟩)
/-- what a constructor does, behind its new -/
def Ct (d μ ci n z : Nat) (P : Nat → mM → Prop) : Prop := ∀ (M : mM) (q : Nat), 3 ≤ q → q + 1 = M.2.1 → M.1 q = some (cO ci (mnew ci)) → ∃ M', Rt d μ [.ref q] M none M' ∧ IN M M' q n z ∧ P q M'
/-- an object made; its constructor -/
theorem st_no {g2 : List Nat} {μ' ci n z : Nat} {P : Nat → mM → Prop} (hC : Ct d μ' ci n z P) (h3 : 3 ≤ M.2.1) (hs : mcat (.ref M.2.1 :: st) ≤ 8) (K : ∀ M', P M.2.1 M' → (∀ j, j < M.2.1 → M'.1 j = M.1 j) → M'.2.1 = M.2.1 + (n + 1) → M'.2.2 = M.2.2 + ((mnew ci).length + z) → Ev (d + 1) μ is L (.ref M.2.1 :: st) M' Q) : Ev (d + 1) μ ((.new 0, [ci]) :: (.dup, g2) :: (.invokespecial 0, [μ', 0]) :: is) L st M Q := by
  refine ev_new.mpr (ev_dupr.mpr ?_)
  obtain ⟨M', r, hn, hP⟩ := hC (mp M (cO ci (mnew ci)) (mnew ci).length) M.2.1 h3 rfl (by rw [mp_1, if_pos rfl])
  refine (ev_sc0 r hs).mpr (K M' hP (fun j hj => ?_) ?_ ?_)
  · rw [hn.1 j (by show j < M.2.1 + 1; omega) (by omega), mp_1, if_neg (by omega)]
  · rw [hn.2.1]; show M.2.1 + 1 + n = _; omega
  · rw [hn.2.2]; show M.2.2 + (mnew ci).length + z = _; omega
theorem st_fo {g0 g2 : List Nat} {μ' cj n z ci k p : Nat} {fs : List Value} {r : mL} {P : Nat → mM → Prop} (hC : Ct d μ' cj n z P) (hc : M.1 p = some (cO ci fs)) (hp : p < M.2.1) (hk : k < fs.length) (h3 : 3 ≤ p) (K : ∀ M' M2, M'.1 p = some (cO ci (fset fs k (.ref M.2.1))) → P M.2.1 M2 → (∀ j, j ≠ p → j < M2.2.1 → M'.1 j = M2.1 j) → M'.2 = M2.2 → IN M M' p (n + 1) ((mnew cj).length + z) → Ev (d + 1) μ is (some (.ref p) :: r) [] M' Q) : Ev (d + 1) μ ((.aload 0, g0) :: (.new 0, [cj]) :: (.dup, g2) :: (.invokespecial 0, [μ', 0]) :: (.putfield 0, [ci, k, 1]) :: is) (some (.ref p) :: r) [] M Q := by
  refine ev_al0.mpr (st_no hC (by omega) (Nat.le_of_ble_eq_true rfl) (fun M2 hP a1 a2 a3 => ?_))
  exact st_put ((a1 p hp).trans hc) hk h3 rfl (fun M3 b1 b2 => K M3 M2 b1 hP (fun j h1 h2 => b2.1 j h2 h1) (Prod.ext b2.2.1 b2.2.2) ⟨fun j h1 h2 => (b2.1 j (by rw [a2]; omega) h2).trans (a1 j h1), by rw [b2.2.1, a2]; rfl, by rw [b2.2.2, a3]; rfl⟩)
theorem fc8 : ¬ Int32.ofInt 8 < 0 ∧ (Int32.ofInt 8).toNatClampNeg = 8 ∧ 8 ≤ 60000 := by decide +kernel
theorem fc4 : ¬ Int32.ofInt 4 < 0 ∧ (Int32.ofInt 4).toNatClampNeg = 4 ∧ 4 ≤ 60000 := by decide +kernel
theorem fc5 : ¬ Int32.ofInt 5 < 0 ∧ (Int32.ofInt 5).toNatClampNeg = 5 ∧ 5 ≤ 60000 := by decide +kernel
theorem fc19 : ¬ Int32.ofInt 19 < 0 ∧ (Int32.ofInt 19).toNatClampNeg = 19 ∧ 19 ≤ 60000 := by decide +kernel
theorem fc64 : ¬ Int32.ofInt 64 < 0 ∧ (Int32.ofInt 64).toNatClampNeg = 64 ∧ 64 ≤ 60000 := by decide +kernel
theorem fc160 : ¬ Int32.ofInt 160 < 0 ∧ (Int32.ofInt 160).toNatClampNeg = 160 ∧ 160 ≤ 60000 := by decide +kernel
theorem fc256 : ¬ Int32.ofInt 256 < 0 ∧ (Int32.ofInt 256).toNatClampNeg = 256 ∧ 256 ≤ 60000 := by decide +kernel
theorem fc512 : ¬ Int32.ofInt 512 < 0 ∧ (Int32.ofInt 512).toNatClampNeg = 512 ∧ 512 ≤ 60000 := by decide +kernel
theorem fc900 : ¬ Int32.ofInt 900 < 0 ∧ (Int32.ofInt 900).toNatClampNeg = 900 ∧ 900 ≤ 60000 := by decide +kernel
theorem fc5120 : ¬ Int32.ofInt 5120 < 0 ∧ (Int32.ofInt 5120).toNatClampNeg = 5120 ∧ 5120 ≤ 60000 := by decide +kernel
theorem ct_slc : Ct d 35 6 1 8 (fun q M => slc M q (fun _ => 0)) := by
  intro M q h3 hq hc
  refine rt_n (Nat.le_of_ble_eq_true rfl) ?_
  rw [a35_0, en35]
  unfold k35_0
  refine ev_al0.mpr (ev_oinit.mpr ⟨Nat.le_of_ble_eq_true rfl, ?_⟩)
  refine st_fl 8 fc8 hc (by omega) (Nat.le_of_ble_eq_true rfl) h3 (fun M1 a1 a2 a3 => ?_)
  refine ev_return.mpr ⟨rfl, a3, ?_⟩
  rw [← hq] at a1 a2
  exact ⟨h3, a1, a2⟩
theorem ct_msk : Ct d 2 2 1 8 (fun q M => msk M q (fun _ => 0) 0) := by
  intro M q h3 hq hc
  refine rt_n (Nat.le_of_ble_eq_true rfl) ?_
  rw [a2_0, en2]
  unfold k2_0
  refine ev_al0.mpr (ev_oinit.mpr ⟨Nat.le_of_ble_eq_true rfl, ?_⟩)
  refine st_fl 8 fc8 hc (by omega) (Nat.le_of_ble_eq_true rfl) h3 (fun M1 a1 a2 a3 => ?_)
  refine ev_return.mpr ⟨rfl, a3, ?_⟩
  rw [← hq] at a1 a2
  exact ⟨h3, a1, a2⟩
theorem ct_tap : Ct d 59 7 1 160 (fun q M => M.1 q = some (cO 7 [.ref (q + 1), .int 0]) ∧ M.1 (q + 1) = some (cI 160 (fun _ => 0))) := by
  intro M q h3 hq hc
  refine rt_n (Nat.le_of_ble_eq_true rfl) ?_
  rw [a59_0, en59]
  unfold k59_0
  refine ev_al0.mpr (ev_oinit.mpr ⟨Nat.le_of_ble_eq_true rfl, ?_⟩)
  refine st_fi 160 fc160 hc (by omega) (Nat.le_of_ble_eq_true rfl) h3 (fun M1 a1 a2 a3 => ?_)
  refine ev_return.mpr ⟨rfl, a3, ?_⟩
  rw [← hq] at a1 a2
  exact ⟨a1, a2⟩
theorem ct_shf : Ct d 29 5 1 64 (fun q M => shf M q (-1) 0 (fun _ => 0)) := by
  intro M q h3 hq hc
  refine rt_n (Nat.le_of_ble_eq_true rfl) ?_
  rw [a29_0, en29]
  unfold k29_0
  refine ev_al0.mpr (ev_oinit.mpr ⟨Nat.le_of_ble_eq_true rfl, ?_⟩)
  refine st_fl 64 fc64 hc (by omega) (Nat.le_of_ble_eq_true rfl) h3 (fun M1 a1 a2 a3 => ?_)
  refine ev_al0.mpr (ev_iconst.mpr (st_put a1 (Nat.le_of_ble_eq_true rfl) h3 rfl (fun M2 b1 b2 => ev_return.mpr ⟨rfl, in_t a3 b2, ?_⟩)))
  rw [← hq] at b1 a2
  exact ⟨h3, b1, (b2.1 _ (by rw [a3.2.1]; omega) (by omega)).trans a2⟩
theorem lp_61 {p R B z0 : Nat} {fs : List Value} {m : Nat → Option mE} {K : mM → Prop} (h3 : 3 ≤ p) (hR : 3 ≤ R) (hpB : p < B) (hRB : R < B) (hpR : p ≠ R) (hfl : 0 < fs.length) (hfk : fget fs 0 = .ref R) (hK : ∀ M', M'.1 p = some (cO 8 fs) → (∃ fA : Nat → Option Nat, M'.1 R = some (cR 2 8 fA) ∧ ∀ j, j < 8 → fA j = some (B + 2 * j)) → (∀ j, j < 8 → slc M' (B + 2 * j) (fun _ => 0)) → (∀ j, j < B → j ≠ R → M'.1 j = m j) → M'.2.1 = B + 2 * 8 → M'.2.2 = z0 + 9 * 8 → K M') : ∀ v, v ≤ 8 → ∀ M : mM, M.1 p = some (cO 8 fs) → (∃ fA : Nat → Option Nat, M.1 R = some (cR 2 8 fA) ∧ ∀ j, j < v → fA j = some (B + 2 * j)) → (∀ j, j < v → slc M (B + 2 * j) (fun _ => 0)) → (∀ j, j < B → j ≠ R → M.1 j = m j) → M.2.1 = B + 2 * v → M.2.2 = z0 + 9 * v → Ev (d + 1) 61 k61_15 [some (.ref p), some (.int (nI v))] [] M (fun u M' => u = none ∧ K M') := by
  intro v hv
  refine down (P := fun v => ∀ M : mM, M.1 p = some (cO 8 fs) → (∃ fA : Nat → Option Nat, M.1 R = some (cR 2 8 fA) ∧ ∀ j, j < v → fA j = some (B + 2 * j)) → (∀ j, j < v → slc M (B + 2 * j) (fun _ => 0)) → (∀ j, j < B → j ≠ R → M.1 j = m j) → M.2.1 = B + 2 * v → M.2.2 = z0 + 9 * v → Ev (d + 1) 61 k61_15 [some (.ref p), some (.int (nI v))] [] M (fun u M' => u = none ∧ K M')) 8 ?_ ?_ v hv
  · intro M a1 a2 a3 a4 a5 a6
    unfold k61_15
    refine ev_il1.mpr (ev_iconst.mpr (ev_icge.mpr ?_))
    rw [if_pos (by decide +kernel), a61_40]
    exact ev_return.mpr ⟨rfl, hK M a1 a2 a3 a4 a5 a6⟩
  · intro v hv ih M a1 a2 a3 a4 a5 a6
    obtain ⟨fA, a2, a2'⟩ := a2
    unfold k61_15
    refine ev_il1.mpr (ev_iconst.mpr (ev_icge.mpr ?_))
    rw [if_neg (show ¬ Int32.ofInt 8 ≤ nI v from nI_ge (b := 8) hv (by decide))]
    refine ev_al0.mpr (ev_getf.mpr ⟨⟨h3, by rw [a1]; exact okO_c.mpr ⟨rfl, hfl⟩⟩, ?_⟩)
    rw [a1, rdO_c, hfk]
    refine ev_il1.mpr (st_no ct_slc (by omega) (Nat.le_of_ble_eq_true rfl) (fun M2 hP b1 b2 b3 => ?_))
    have hx : M2.1 M.2.1 = some (cO 6 [.ref (M.2.1 + 1)]) := hP.2.1
    refine (ev_aastore (t := 0) ((b1 R (by omega)).trans a2) hx hR (by omega) (vp_in_nI hv (by decide)) (by decide)).mpr ?_
    refine ev_inc1.mpr (ev_goto.mpr ?_)
    rw [a61_15, lkl_ref, nI_clamp (show v < 2 ^ 31 by omega), show nI v + Int32.ofInt 1 = nI (v + 1) from nI_1 v]
    have hk : ∀ j, j ≠ R → (mu M2 R (cR 2 8 (va_up fA v (some M.2.1)))).1 j = M2.1 j := fun j hj => by rw [mu_1, if_neg hj]
    refine ih _ ?_ ?_ ?_ ?_ ?_ ?_
    · rw [hk p hpR, b1 p (by omega)]; exact a1
    · refine ⟨_, by rw [mu_1, if_pos rfl], fun j hj => ?_⟩
      show (if j = v then some M.2.1 else fA j) = _
      by_cases e : j = v
      · rw [if_pos e, a5, e]
      · rw [if_neg e]; exact a2' j (by omega)
    · intro j hj
      by_cases e : j = v
      · subst e
        rw [a5] at hP
        exact slc_kept hP (hk _ (by omega)) (hk _ (by omega))
      · exact slc_kept (a3 j (by omega)) ((hk _ (by omega)).trans (b1 _ (by omega))) ((hk _ (by omega)).trans (b1 _ (by omega)))
    · intro j hj hjR
      rw [hk j hjR, b1 j (by omega)]
      exact a4 j hj hjR
    · show M2.2.1 = _
      rw [b2, a5]; omega
    · show M2.2.2 = _
      rw [b3, a6]
      show z0 + 9 * v + 9 = _
      omega
theorem lp_65 {p R B z0 : Nat} {fs : List Value} {m : Nat → Option mE} {K : mM → Prop} (h3 : 3 ≤ p) (hR : 3 ≤ R) (hpB : p < B) (hRB : R < B) (hpR : p ≠ R) (hfl : 0 < fs.length) (hfk : fget fs 0 = .ref R) (hK : ∀ M', M'.1 p = some (cO 9 fs) → (∃ fA : Nat → Option Nat, M'.1 R = some (cR 2 19 fA) ∧ ∀ j, j < 19 → fA j = some (B + 2 * j)) → (∀ j, j < 19 → slc M' (B + 2 * j) (fun _ => 0)) → (∀ j, j < B → j ≠ R → M'.1 j = m j) → M'.2.1 = B + 2 * 19 → M'.2.2 = z0 + 9 * 19 → K M') : ∀ v, v ≤ 19 → ∀ M : mM, M.1 p = some (cO 9 fs) → (∃ fA : Nat → Option Nat, M.1 R = some (cR 2 19 fA) ∧ ∀ j, j < v → fA j = some (B + 2 * j)) → (∀ j, j < v → slc M (B + 2 * j) (fun _ => 0)) → (∀ j, j < B → j ≠ R → M.1 j = m j) → M.2.1 = B + 2 * v → M.2.2 = z0 + 9 * v → Ev (d + 1) 65 k65_37 [some (.ref p), some (.int (nI v))] [] M (fun u M' => u = none ∧ K M') := by
  intro v hv
  refine down (P := fun v => ∀ M : mM, M.1 p = some (cO 9 fs) → (∃ fA : Nat → Option Nat, M.1 R = some (cR 2 19 fA) ∧ ∀ j, j < v → fA j = some (B + 2 * j)) → (∀ j, j < v → slc M (B + 2 * j) (fun _ => 0)) → (∀ j, j < B → j ≠ R → M.1 j = m j) → M.2.1 = B + 2 * v → M.2.2 = z0 + 9 * v → Ev (d + 1) 65 k65_37 [some (.ref p), some (.int (nI v))] [] M (fun u M' => u = none ∧ K M')) 19 ?_ ?_ v hv
  · intro M a1 a2 a3 a4 a5 a6
    unfold k65_37
    refine ev_il1.mpr (ev_iconst.mpr (ev_icge.mpr ?_))
    rw [if_pos (by decide +kernel), a65_62]
    exact ev_return.mpr ⟨rfl, hK M a1 a2 a3 a4 a5 a6⟩
  · intro v hv ih M a1 a2 a3 a4 a5 a6
    obtain ⟨fA, a2, a2'⟩ := a2
    unfold k65_37
    refine ev_il1.mpr (ev_iconst.mpr (ev_icge.mpr ?_))
    rw [if_neg (show ¬ Int32.ofInt 19 ≤ nI v from nI_ge (b := 19) hv (by decide))]
    refine ev_al0.mpr (ev_getf.mpr ⟨⟨h3, by rw [a1]; exact okO_c.mpr ⟨rfl, hfl⟩⟩, ?_⟩)
    rw [a1, rdO_c, hfk]
    refine ev_il1.mpr (st_no ct_slc (by omega) (Nat.le_of_ble_eq_true rfl) (fun M2 hP b1 b2 b3 => ?_))
    have hx : M2.1 M.2.1 = some (cO 6 [.ref (M.2.1 + 1)]) := hP.2.1
    refine (ev_aastore (t := 0) ((b1 R (by omega)).trans a2) hx hR (by omega) (vp_in_nI hv (by decide)) (by decide)).mpr ?_
    refine ev_inc1.mpr (ev_goto.mpr ?_)
    rw [a65_37, lkl_ref, nI_clamp (show v < 2 ^ 31 by omega), show nI v + Int32.ofInt 1 = nI (v + 1) from nI_1 v]
    have hk : ∀ j, j ≠ R → (mu M2 R (cR 2 19 (va_up fA v (some M.2.1)))).1 j = M2.1 j := fun j hj => by rw [mu_1, if_neg hj]
    refine ih _ ?_ ?_ ?_ ?_ ?_ ?_
    · rw [hk p hpR, b1 p (by omega)]; exact a1
    · refine ⟨_, by rw [mu_1, if_pos rfl], fun j hj => ?_⟩
      show (if j = v then some M.2.1 else fA j) = _
      by_cases e : j = v
      · rw [if_pos e, a5, e]
      · rw [if_neg e]; exact a2' j (by omega)
    · intro j hj
      by_cases e : j = v
      · subst e
        rw [a5] at hP
        exact slc_kept hP (hk _ (by omega)) (hk _ (by omega))
      · exact slc_kept (a3 j (by omega)) ((hk _ (by omega)).trans (b1 _ (by omega))) ((hk _ (by omega)).trans (b1 _ (by omega)))
    · intro j hj hjR
      rw [hk j hjR, b1 j (by omega)]
      exact a4 j hj hjR
    · show M2.2.1 = _
      rw [b2, a5]; omega
    · show M2.2.2 = _
      rw [b3, a6]
      show z0 + 9 * v + 9 = _
      omega
theorem lp_74 {p R B z0 : Nat} {fs : List Value} {m : Nat → Option mE} {K : mM → Prop} (h3 : 3 ≤ p) (hR : 3 ≤ R) (hpB : p < B) (hRB : R < B) (hpR : p ≠ R) (hfl : 3 < fs.length) (hfk : fget fs 3 = .ref R) (hK : ∀ M', M'.1 p = some (cO 11 fs) → (∃ fA : Nat → Option Nat, M'.1 R = some (cR 3 4 fA) ∧ ∀ j, j < 4 → fA j = some (B + 2 * j)) → (∀ j, j < 4 → shf M' (B + 2 * j) (-1) 0 (fun _ => 0)) → (∀ j, j < B → j ≠ R → M'.1 j = m j) → M'.2.1 = B + 2 * 4 → M'.2.2 = z0 + 67 * 4 → K M') : ∀ v, v ≤ 4 → ∀ M : mM, M.1 p = some (cO 11 fs) → (∃ fA : Nat → Option Nat, M.1 R = some (cR 3 4 fA) ∧ ∀ j, j < v → fA j = some (B + 2 * j)) → (∀ j, j < v → shf M (B + 2 * j) (-1) 0 (fun _ => 0)) → (∀ j, j < B → j ≠ R → M.1 j = m j) → M.2.1 = B + 2 * v → M.2.2 = z0 + 67 * v → Ev (d + 1) 74 k74_87 [some (.ref p), some (.int (nI v))] [] M (fun u M' => u = none ∧ K M') := by
  intro v hv
  refine down (P := fun v => ∀ M : mM, M.1 p = some (cO 11 fs) → (∃ fA : Nat → Option Nat, M.1 R = some (cR 3 4 fA) ∧ ∀ j, j < v → fA j = some (B + 2 * j)) → (∀ j, j < v → shf M (B + 2 * j) (-1) 0 (fun _ => 0)) → (∀ j, j < B → j ≠ R → M.1 j = m j) → M.2.1 = B + 2 * v → M.2.2 = z0 + 67 * v → Ev (d + 1) 74 k74_87 [some (.ref p), some (.int (nI v))] [] M (fun u M' => u = none ∧ K M')) 4 ?_ ?_ v hv
  · intro M a1 a2 a3 a4 a5 a6
    unfold k74_87
    refine ev_il1.mpr (ev_iconst.mpr (ev_icge.mpr ?_))
    rw [if_pos (by decide +kernel), a74_111]
    exact ev_return.mpr ⟨rfl, hK M a1 a2 a3 a4 a5 a6⟩
  · intro v hv ih M a1 a2 a3 a4 a5 a6
    obtain ⟨fA, a2, a2'⟩ := a2
    unfold k74_87
    refine ev_il1.mpr (ev_iconst.mpr (ev_icge.mpr ?_))
    rw [if_neg (show ¬ Int32.ofInt 4 ≤ nI v from nI_ge (b := 4) hv (by decide))]
    refine ev_al0.mpr (ev_getf.mpr ⟨⟨h3, by rw [a1]; exact okO_c.mpr ⟨rfl, hfl⟩⟩, ?_⟩)
    rw [a1, rdO_c, hfk]
    refine ev_il1.mpr (st_no ct_shf (by omega) (Nat.le_of_ble_eq_true rfl) (fun M2 hP b1 b2 b3 => ?_))
    have hx : M2.1 M.2.1 = some (cO 5 [.ref (M.2.1 + 1), .int (-1), .int 0]) := hP.2.1
    refine (ev_aastore (t := 1) ((b1 R (by omega)).trans a2) hx hR (by omega) (vp_in_nI hv (by decide)) (by decide)).mpr ?_
    refine ev_inc1.mpr (ev_goto.mpr ?_)
    rw [a74_87, lkl_ref, nI_clamp (show v < 2 ^ 31 by omega), show nI v + Int32.ofInt 1 = nI (v + 1) from nI_1 v]
    have hk : ∀ j, j ≠ R → (mu M2 R (cR 3 4 (va_up fA v (some M.2.1)))).1 j = M2.1 j := fun j hj => by rw [mu_1, if_neg hj]
    refine ih _ ?_ ?_ ?_ ?_ ?_ ?_
    · rw [hk p hpR, b1 p (by omega)]; exact a1
    · refine ⟨_, by rw [mu_1, if_pos rfl], fun j hj => ?_⟩
      show (if j = v then some M.2.1 else fA j) = _
      by_cases e : j = v
      · rw [if_pos e, a5, e]
      · rw [if_neg e]; exact a2' j (by omega)
    · intro j hj
      by_cases e : j = v
      · subst e
        rw [a5] at hP
        exact shf_kept hP (hk _ (by omega)) (hk _ (by omega))
      · exact shf_kept (a3 j (by omega)) ((hk _ (by omega)).trans (b1 _ (by omega))) ((hk _ (by omega)).trans (b1 _ (by omega)))
    · intro j hj hjR
      rw [hk j hjR, b1 j (by omega)]
      exact a4 j hj hjR
    · show M2.2.1 = _
      rw [b2, a5]; omega
    · show M2.2.2 = _
      rw [b3, a6]
      show z0 + 67 * v + 67 = _
      omega
theorem ct_vrs : Ct (d + 1) 61 8 17 80 (fun q M => vrs M q (fun _ _ => 0)) := by
  intro M q h3 hq hc
  refine rt_n (Nat.le_of_ble_eq_true rfl) ?_
  rw [a61_0, en61]
  unfold k61_0
  refine ev_al0.mpr (ev_oinit.mpr ⟨Nat.le_of_ble_eq_true rfl, ?_⟩)
  refine st_fq 8 fc8 hc (by omega) (Nat.le_of_ble_eq_true rfl) h3 (fun M1 a1 a2 a3 => ?_)
  rw [← hq] at a1 a2
  refine ev_iconst.mpr (ev_is1.mpr ?_)
  refine lp_61 (R := q + 1) (B := q + 2) (z0 := M1.2.2) (m := M1.1) h3 (by omega) (by omega) (by omega) (by omega) (Nat.le_of_ble_eq_true rfl) rfl ?_ 0 (Nat.zero_le _) M1 a1 ⟨_, a2, fun j hj => absurd hj (Nat.not_lt_zero j)⟩ (fun j hj => absurd hj (Nat.not_lt_zero j)) (fun _ _ _ => rfl) (by rw [a3.2.1]; omega) rfl
  intro M' b1 b2 b3 b4 b5 b6
  refine ⟨⟨fun j hj hjq => (b4 j (by omega) (by omega)).trans (a3.1 j hj hjq), by rw [b5]; omega, by rw [b6, a3.2.2]⟩, h3, b1, ?_, ?_⟩
  · exact b2
  · exact b3
theorem ct_whl : Ct (d + 2) 72 10 20 91 (fun q M => whl M q (fun _ _ => 0) (fun _ => 0) 0 0 0 .null) := by
  intro M q h3 hq hc
  refine rt_n (Nat.le_of_ble_eq_true rfl) ?_
  rw [a72_0, en72]
  unfold k72_0
  refine ev_al0.mpr (ev_oinit.mpr ⟨Nat.le_of_ble_eq_true rfl, ?_⟩)
  refine st_fo ct_vrs hc (by omega) (Nat.le_of_ble_eq_true rfl) h3 (fun M1 N1 a1 a2 a3 a4 a5 => ?_)
  have s1 : M1.2.1 = q + 19 := by rw [a5.2.1, ← hq]
  refine st_fo (d := d + 1) ct_msk a1 (by omega) (Nat.le_of_ble_eq_true rfl) h3 (fun M2 N2 b1 b2 b3 b4 b5 => ?_)
  have s2 : M2.2.1 = q + 21 := by rw [b5.2.1, s1]
  refine ev_return.mpr ⟨rfl, ?_, h3, ?_, ?_, ?_⟩
  · have := in_t a5 b5
    exact this
  · rw [b1, s1, ← hq]; rfl
  · rw [← hq] at a2
    refine vrs_kept a2 (fun j h1 h2 => ?_)
    rw [b5.1 j (by omega) (by omega)]
    exact a3 j (by omega) (by rw [← a4, s1]; omega)
  · rw [s1] at b2
    exact msk_kept b2 (b3 _ (by omega) (by rw [← b4, s2]; omega)) (b3 _ (by omega) (by rw [← b4, s2]; omega))
theorem ct_rdr : Ct (d + 1) 9 4 3 322 (fun q M => M.1 q = some (cO 4 [.ref (q + 1), .ref (q + 3), .int 0, .int 0, .int 0, .int 0, .int 0]) ∧ (M.1 (q + 1) = some (cO 7 [.ref (q + 1 + 1), .int 0]) ∧ M.1 (q + 1 + 1) = some (cI 160 (fun _ => 0))) ∧ M.1 (q + 3) = some (cI 160 (fun _ => 0))) := by
  intro M q h3 hq hc
  refine rt_n (Nat.le_of_ble_eq_true rfl) ?_
  rw [a9_0, en9]
  unfold k9_0
  refine ev_al0.mpr (ev_oinit.mpr ⟨Nat.le_of_ble_eq_true rfl, ?_⟩)
  refine st_fo ct_tap hc (by omega) (Nat.le_of_ble_eq_true rfl) h3 (fun M1 N1 a1 a2 a3 a4 a5 => ?_)
  have s1 : M1.2.1 = q + 3 := by rw [a5.2.1, ← hq]
  refine st_fi 160 fc160 a1 (by omega) (Nat.le_of_ble_eq_true rfl) h3 (fun M2 b1 b2 b3 => ?_)
  rw [← hq] at a2
  rw [s1] at b2
  refine ev_return.mpr ⟨rfl, in_t a5 b3, ?_, ⟨?_, ?_⟩, b2⟩
  · rw [b1, s1, ← hq]; rfl
  · rw [b3.1 _ (by omega) (by omega), a3 _ (by omega) (by rw [← a4, s1]; omega)]; exact a2.1
  · rw [b3.1 _ (by omega) (by omega), a3 _ (by omega) (by rw [← a4, s1]; omega)]; exact a2.2
theorem ct_wlk : Ct (d + 2) 65 9 59 280 (fun q M => M.1 q = some (cO 9 [.ref (q + 1), .ref (q + 2), .ref (q + 4), .int 0, .int 0]) ∧ (∃ fH : Nat → Option Nat, M.1 (q + 1) = some (cR 2 19 fH) ∧ ∀ i, i < 19 → fH i = some (q + 22 + 2 * i)) ∧ slc M (q + 2) (fun _ => 0) ∧ vrs M (q + 4) (fun _ _ => 0) ∧ ∀ i, i < 19 → slc M (q + 22 + 2 * i) (fun _ => 0)) := by
  intro M q h3 hq hc
  refine rt_n (Nat.le_of_ble_eq_true rfl) ?_
  rw [a65_0, en65]
  unfold k65_0
  refine ev_al0.mpr (ev_oinit.mpr ⟨Nat.le_of_ble_eq_true rfl, ?_⟩)
  refine st_fq 19 fc19 hc (by omega) (Nat.le_of_ble_eq_true rfl) h3 (fun M1 a1 a2 a3 => ?_)
  have s1 : M1.2.1 = q + 2 := by rw [a3.2.1, ← hq]
  refine st_fo (d := d + 1) ct_slc a1 (by omega) (Nat.le_of_ble_eq_true rfl) h3 (fun M2 N2 b1 b2 b3 b4 b5 => ?_)
  have s2 : M2.2.1 = q + 4 := by rw [b5.2.1, s1]
  refine st_fo (d := d + 1) ct_vrs b1 (by omega) (Nat.le_of_ble_eq_true rfl) h3 (fun M3 N3 c1 c2 c3 c4 c5 => ?_)
  have s3 : M3.2.1 = q + 22 := by rw [c5.2.1, s2]
  rw [s1] at b2
  rw [s2] at c2
  rw [← hq] at a2
  refine ev_iconst.mpr (ev_is1.mpr ?_)
  have t : IN M M3 q 21 109 := in_t (in_t a3 b5) c5
  have r2 : M3.1 (q + 1) = some (cR 2 19 (fun _ => none)) := by rw [c5.1 _ (by omega) (by omega), b5.1 _ (by omega) (by omega)]; exact a2
  have r1 : M3.1 q = some (cO 9 [.ref (q + 1), .ref (q + 2), .ref (q + 4), .int 0, .int 0]) := by rw [c1, s2, s1, ← hq]; rfl
  have r3 : slc M3 (q + 2) (fun _ => 0) := slc_kept b2 (by rw [c5.1 _ (by omega) (by omega)]; exact b3 _ (by omega) (by rw [← b4, s2]; omega)) (by rw [c5.1 _ (by omega) (by omega)]; exact b3 _ (by omega) (by rw [← b4, s2]; omega))
  have r4 : vrs M3 (q + 4) (fun _ _ => 0) := vrs_kept c2 (fun j h1 h2 => c3 j (by omega) (by rw [← c4, s3]; omega))
  refine lp_65 (d := d + 1) (R := q + 1) (B := q + 22) (z0 := M3.2.2) (m := M3.1) h3 (by omega) (by omega) (by omega) (by omega) (Nat.le_of_ble_eq_true rfl) rfl ?_ 0 (Nat.zero_le _) M3 r1 ⟨_, r2, fun j hj => absurd hj (Nat.not_lt_zero j)⟩ (fun j hj => absurd hj (Nat.not_lt_zero j)) (fun _ _ _ => rfl) s3 rfl
  intro M' e1 e2 e3 e4 e5 e6
  refine ⟨⟨fun j hj hjq => (e4 j (by omega) (by omega)).trans (t.1 j hj hjq), by rw [e5]; omega, by rw [e6, t.2.2]⟩, e1, e2, ?_, ?_, e3⟩
  · exact slc_kept r3 (e4 _ (by omega) (by omega)) (e4 _ (by omega) (by omega))
  · exact vrs_kept r4 (fun j h1 h2 => e4 j (by omega) (by omega))
/-- the class's constructor, at place 3 -/
theorem i_lan (h4 : M.2.1 = 4) (hc : M.1 3 = some (cO 11 (mnew 11))) (hm1 : M.1 1 = some (cI 12 mf1)) (hm2 : M.1 2 = some (cJ 8 mf2)) : ∃ M', Rt (d + 3) 74 [.ref 3] M none M' ∧ M'.1 0 = M.1 0 ∧ M'.2.1 = 140 ∧ M'.2.2 ≤ M.2.2 + 3000 ∧ Per M' (fun _ _ => 0) (fun _ _ => 0) (fun _ => 0) (fun _ => 0) 0 0 0 0 0 0 .null .null 0 (fun _ => 0) (fun _ => -1) (fun _ => 0) (fun _ _ => 0) (fun _ => 0) 0 ∧ Scr M' := by
  have h3 : 3 ≤ 3 := Nat.le_refl _
  refine rt_n (Nat.le_of_ble_eq_true rfl) ?_
  rw [a74_0, en74]
  unfold k74_0
  refine ev_al0.mpr (ev_oinit.mpr ⟨Nat.le_of_ble_eq_true rfl, ?_⟩)
  refine st_fo (d := d + 2) ct_whl hc (by omega) (Nat.le_of_ble_eq_true rfl) h3 (fun M1 N1 a1 a2 a3 a4 a5 => ?_)
  have s1 : M1.2.1 = 25 := by rw [a5.2.1, h4]
  refine st_fo (d := d + 2) ct_whl a1 (by omega) (Nat.le_of_ble_eq_true rfl) h3 (fun M2 N2 b1 b2 b3 b4 b5 => ?_)
  have s2 : M2.2.1 = 46 := by rw [b5.2.1, s1]
  refine st_fq 4 fc4 b1 (by omega) (Nat.le_of_ble_eq_true rfl) h3 (fun M3 c1 c2 c3 => ?_)
  have s3 : M3.2.1 = 47 := by rw [c3.2.1, s2]
  refine st_fi 5 fc5 c1 (by omega) (Nat.le_of_ble_eq_true rfl) h3 (fun M4 d1 d2 d3 => ?_)
  have s4 : M4.2.1 = 48 := by rw [d3.2.1, s3]
  refine st_fo (d := d + 2) (ct_rdr (d := d + 1)) d1 (by omega) (Nat.le_of_ble_eq_true rfl) h3 (fun M5 N5 e1 e2 e3 e4 e5 => ?_)
  have s5 : M5.2.1 = 52 := by rw [e5.2.1, s4]
  refine st_fo (d := d + 2) ct_wlk e1 (by omega) (Nat.le_of_ble_eq_true rfl) h3 (fun M6 N6 f1 f2 f3 f4 f5 => ?_)
  have s6 : M6.2.1 = 112 := by rw [f5.2.1, s5]
  refine st_fo (d := d + 2) (ct_vrs (d := d + 1)) f1 (by omega) (Nat.le_of_ble_eq_true rfl) h3 (fun M7 N7 g1 g2 g3 g4 g5 => ?_)
  have s7 : M7.2.1 = 130 := by rw [g5.2.1, s6]
  refine st_fo (d := d + 2) ct_slc g1 (by omega) (Nat.le_of_ble_eq_true rfl) h3 (fun M8 N8 i1 i2 i3 i4 i5 => ?_)
  have s8 : M8.2.1 = 132 := by rw [i5.2.1, s7]
  have t8 := i5
  have t7 := in_t g5 t8
  have t6 := in_t f5 t7
  have t5 := in_t e5 t6
  have t4 := in_t d3 t5
  have t3 := in_t c3 t4
  have t2 := in_t b5 t3
  have t1 := in_t a5 t2
  rw [h4] at a2
  rw [s1] at b2
  rw [s2] at c2
  rw [s3] at d2
  rw [s4] at e2
  rw [s5] at f2
  rw [s6] at g2
  rw [s7] at i2
  rw [s7, s6, s5, s4, s3, s2, s1, h4] at i1
  refine ev_iconst.mpr (ev_is1.mpr ?_)
  refine lp_74 (d := d + 2) (R := 46) (B := 132) (z0 := M8.2.2) (m := M8.1) h3 (by omega) (by omega) (by omega) (by omega) (Nat.le_of_ble_eq_true rfl) rfl ?_ 0 (Nat.zero_le _) M8 i1 ⟨_, (t4.1 46 (by omega) (by omega)).trans c2, fun j hj => absurd hj (Nat.not_lt_zero j)⟩ (fun j hj => absurd hj (Nat.not_lt_zero j)) (fun _ _ _ => rfl) s8 rfl
  intro M' z1 z2 z3 z4 z5 z6
  have k1 : ∀ j, 4 ≤ j → j < 25 → M'.1 j = N1.1 j := fun j h1 h2 => by rw [z4 j (by omega) (by omega), t2.1 j (by omega) (by omega)]; exact a3 j (by omega) (by rw [← a4]; omega)
  have k2 : ∀ j, 25 ≤ j → j < 46 → M'.1 j = N2.1 j := fun j h1 h2 => by rw [z4 j (by omega) (by omega), t3.1 j (by omega) (by omega)]; exact b3 j (by omega) (by rw [← b4]; omega)
  have k5 : ∀ j, 48 ≤ j → j < 52 → M'.1 j = N5.1 j := fun j h1 h2 => by rw [z4 j (by omega) (by omega), t6.1 j (by omega) (by omega)]; exact e3 j (by omega) (by rw [← e4]; omega)
  have k6 : ∀ j, 52 ≤ j → j < 112 → M'.1 j = N6.1 j := fun j h1 h2 => by rw [z4 j (by omega) (by omega), t7.1 j (by omega) (by omega)]; exact f3 j (by omega) (by rw [← f4]; omega)
  have k7 : ∀ j, 112 ≤ j → j < 130 → M'.1 j = N7.1 j := fun j h1 h2 => by rw [z4 j (by omega) (by omega), t8.1 j (by omega) (by omega)]; exact g3 j (by omega) (by rw [← g4]; omega)
  have k8 : ∀ j, 130 ≤ j → j < 132 → M'.1 j = N8.1 j := fun j h1 h2 => by rw [z4 j (by omega) (by omega)]; exact i3 j (by omega) (by rw [← i4]; omega)
  have k0 : ∀ j, j < 3 → M'.1 j = M.1 j := fun j hj => by rw [z4 j (by omega) (by omega)]; exact t1.1 j (by omega) (by omega)
  refine ⟨k0 0 (by omega), by rw [z5], ?_, ?_, ?_⟩
  · rw [z6, t1.2.2]
    show M.2.2 + _ + _ ≤ _
    have q4 : (mnew 4).length = 7 := rfl
    have q6 : (mnew 6).length = 1 := rfl
    have q8 : (mnew 8).length = 1 := rfl
    have q9 : (mnew 9).length = 5 := rfl
    have q10 : (mnew 10).length = 5 := rfl
    rw [q4, q6, q8, q9, q10]
    omega
  · refine ⟨⟨(k0 1 (by omega)).trans hm1, (k0 2 (by omega)).trans hm2⟩, z1, ?_, ?_, z2, ?_, z3, ⟨?_, ?_⟩, Nat.zero_le _, Nat.zero_le _, fun k _ => Nat.zero_le _, fun k _ => Or.inl rfl, Nat.zero_le _, Or.inl rfl, rfl, rfl, Or.inl rfl, Or.inl rfl⟩
    · exact whl_kept a2 (fun j h1 h2 => k1 j (by omega) (by omega))
    · exact whl_kept b2 (fun j h1 h2 => k2 j (by omega) (by omega))
    · rw [z4 47 (by omega) (by omega), t5.1 47 (by omega) (by omega)]; exact d2
    · rw [k5 49 (by omega) (by omega)]; exact e2.2.1.1
    · rw [k5 50 (by omega) (by omega)]; exact e2.2.1.2
  · refine ⟨⟨_, slc_kept i2 (k8 130 (by omega) (by omega)) (k8 131 (by omega) (by omega))⟩, ⟨_, vrs_kept f2.2.2.2.1 (fun j h1 h2 => k6 j (by omega) (by omega))⟩, ⟨_, vrs_kept g2 (fun j h1 h2 => k7 j (by omega) (by omega))⟩, ⟨_, slc_kept f2.2.2.1 (k6 54 (by omega) (by omega)) (k6 55 (by omega) (by omega))⟩, ?_, ?_, ⟨0, 0, ?_⟩, ⟨0, 0, 0, 0, 0, ?_⟩, ⟨_, (k5 51 (by omega) (by omega)).trans e2.2.2⟩⟩
    · obtain ⟨fH, u1, u2⟩ := f2.2.1
      exact ⟨fH, (k6 53 (by omega) (by omega)).trans u1, u2⟩
    · intro i hi
      exact ⟨_, slc_kept (f2.2.2.2.2 i hi) (k6 _ (by omega) (by omega)) (k6 _ (by omega) (by omega))⟩
    · rw [k6 52 (by omega) (by omega)]; exact f2.1
    · rw [k5 48 (by omega) (by omega)]; exact e2.1
theorem st_w {a : Nat} {N : Nat} {f : Nat → Int32} {j x : Int} {g2 g3 : List Nat} (hc : M.1 a = some (cI N f)) (h3 : 3 ≤ a) (hin : vp_in (Int32.ofInt j) N) (K : ∀ M', M'.1 a = some (cI N (upd f (Int32.ofInt j).toNatClampNeg (Int32.ofInt x))) → IN M M' a 0 0 → Ev d μ is L (.ref a :: st) M' Q) : Ev d μ ((.dup, g1) :: (.iconst j, g2) :: (.iconst x, g3) :: (.iastore, g) :: is) L (.ref a :: st) M Q := by
  refine ev_dupr.mpr (ev_iconst.mpr (ev_iconst.mpr (ev_iastore.mpr ⟨⟨h3, by rw [hc]; exact okI_c.mpr hin⟩, ?_⟩)))
  rw [hc, wrI_c]
  exact K _ (by rw [mu_1, if_pos rfl]) ⟨fun j _ hj => by rw [mu_1, if_neg hj], rfl, rfl⟩
/-- the reference's constructor, at place 140 -/
theorem i_mdl (h4 : M.2.1 = 141) (hc : M.1 140 = some (cO 12 (mnew 12))) : ∃ M', Rt d 127 [.ref 140] M none M' ∧ (∀ j, j < 140 → M'.1 j = M.1 j) ∧ M'.2.1 = 157 ∧ M'.2.2 ≤ M.2.2 + 20000 ∧ Mdl M' (fun _ => 0) (fun _ => 0) (fun _ => 0) (fun _ => 0) (fun _ => 0) (fun _ => 0) (fun _ => 0) (fun _ => 0) (fun _ => 0) (fun _ => 0) (fun _ => 0) (fun _ => 0) (fun _ => 0) (upd (upd (upd (upd (fun _ => 0) 0 (-1)) 1 (-1)) 2 (-1)) 3 (-1)) (fun _ => 0) (fun _ => 0) (fun _ => 0) := by
  have h3 : 3 ≤ 140 := by decide
  refine rt_n (Nat.le_of_ble_eq_true rfl) ?_
  rw [a127_0, en127]
  unfold k127_0
  refine ev_al0.mpr (ev_oinit.mpr ⟨Nat.le_of_ble_eq_true rfl, ?_⟩)
  refine st_fi 5 fc5 hc (by omega) (Nat.le_of_ble_eq_true rfl) h3 (fun M1 a1 b1 n1 => ?_)
  have s1 : M1.2.1 = 142 := by rw [n1.2.1, h4]
  refine st_fi 512 fc512 a1 (by omega) (Nat.le_of_ble_eq_true rfl) h3 (fun M2 a2 b2 n2 => ?_)
  have s2 : M2.2.1 = 143 := by rw [n2.2.1, s1]
  refine st_fi 512 fc512 a2 (by omega) (Nat.le_of_ble_eq_true rfl) h3 (fun M3 a3 b3 n3 => ?_)
  have s3 : M3.2.1 = 144 := by rw [n3.2.1, s2]
  refine st_fi 512 fc512 a3 (by omega) (Nat.le_of_ble_eq_true rfl) h3 (fun M4 a4 b4 n4 => ?_)
  have s4 : M4.2.1 = 145 := by rw [n4.2.1, s3]
  refine st_fi 512 fc512 a4 (by omega) (Nat.le_of_ble_eq_true rfl) h3 (fun M5 a5 b5 n5 => ?_)
  have s5 : M5.2.1 = 146 := by rw [n5.2.1, s4]
  refine st_fl 8 fc8 a5 (by omega) (Nat.le_of_ble_eq_true rfl) h3 (fun M6 a6 b6 n6 => ?_)
  have s6 : M6.2.1 = 147 := by rw [n6.2.1, s5]
  refine st_fl 8 fc8 a6 (by omega) (Nat.le_of_ble_eq_true rfl) h3 (fun M7 a7 b7 n7 => ?_)
  have s7 : M7.2.1 = 148 := by rw [n7.2.1, s6]
  refine st_fi 900 fc900 a7 (by omega) (Nat.le_of_ble_eq_true rfl) h3 (fun M8 a8 b8 n8 => ?_)
  have s8 : M8.2.1 = 149 := by rw [n8.2.1, s7]
  refine st_fi 900 fc900 a8 (by omega) (Nat.le_of_ble_eq_true rfl) h3 (fun M9 a9 b9 n9 => ?_)
  have s9 : M9.2.1 = 150 := by rw [n9.2.1, s8]
  refine st_fi 900 fc900 a9 (by omega) (Nat.le_of_ble_eq_true rfl) h3 (fun M10 a10 b10 n10 => ?_)
  have s10 : M10.2.1 = 151 := by rw [n10.2.1, s9]
  refine st_fi 160 fc160 a10 (by omega) (Nat.le_of_ble_eq_true rfl) h3 (fun M11 a11 b11 n11 => ?_)
  have s11 : M11.2.1 = 152 := by rw [n11.2.1, s10]
  refine st_fl 256 fc256 a11 (by omega) (Nat.le_of_ble_eq_true rfl) h3 (fun M12 a12 b12 n12 => ?_)
  have s12 : M12.2.1 = 153 := by rw [n12.2.1, s11]
  refine ev_al0.mpr (st_ni 4 fc4 (p := 153) (fun W0 u0 m0 => ?_))
  rw [s12] at u0 ⊢
  refine st_w u0 (by decide) (by unfold vp_in; decide +kernel) (fun W1 u1 m1 => ?_)
  refine st_w u1 (by decide) (by unfold vp_in; decide +kernel) (fun W2 u2 m2 => ?_)
  refine st_w u2 (by decide) (by unfold vp_in; decide +kernel) (fun W3 u3 m3 => ?_)
  refine st_w u3 (by decide) (by unfold vp_in; decide +kernel) (fun W4 u4 m4 => ?_)
  have r0 : W0.2.1 = 154 := by rw [m0.2.1, s12]
  have r1 : W1.2.1 = 154 := by rw [m1.2.1, r0]
  have r2 : W2.2.1 = 154 := by rw [m2.2.1, r1]
  have r3 : W3.2.1 = 154 := by rw [m3.2.1, r2]
  have r4 : W4.2.1 = 154 := by rw [m4.2.1, r3]
  have kW : ∀ j, j < 153 → W4.1 j = M12.1 j := fun j hj => by rw [m4.1 j (by omega) (by omega), m3.1 j (by omega) (by omega), m2.1 j (by omega) (by omega), m1.1 j (by omega) (by omega)]; exact m0.1 j (by omega) (by omega)
  refine st_put ((kW 140 (by omega)).trans a12) (Nat.le_of_ble_eq_true rfl) h3 rfl (fun M13 a13 n13' => ?_)
  have b13 : M13.1 153 = some (cI 4 (upd (upd (upd (upd (fun _ => 0) 0 (-1)) 1 (-1)) 2 (-1)) 3 (-1))) := (n13'.1 153 (by omega) (by omega)).trans u4
  have n13 : IN M12 M13 140 1 4 := ⟨fun j h1 h2 => (n13'.1 j (by omega) h2).trans (kW j (by omega)), by rw [n13'.2.1, r4, s12], by rw [n13'.2.2, m4.2.2, m3.2.2, m2.2.2, m1.2.2, m0.2.2]⟩
  have s13 : M13.2.1 = 154 := by rw [n13.2.1, s12]
  refine st_fi 4 fc4 a13 (by omega) (Nat.le_of_ble_eq_true rfl) h3 (fun M14 a14 b14 n14 => ?_)
  have s14 : M14.2.1 = 155 := by rw [n14.2.1, s13]
  refine st_fi 64 fc64 a14 (by omega) (Nat.le_of_ble_eq_true rfl) h3 (fun M15 a15 b15 n15 => ?_)
  have s15 : M15.2.1 = 156 := by rw [n15.2.1, s14]
  refine st_fi 5120 fc5120 a15 (by omega) (Nat.le_of_ble_eq_true rfl) h3 (fun M16 a16 b16 n16 => ?_)
  have s16 : M16.2.1 = 157 := by rw [n16.2.1, s15]
  refine ev_al0.mpr (ev_iconst.mpr (st_put a16 (Nat.le_of_ble_eq_true rfl) h3 rfl (fun M17 a17 n17 => ev_return.mpr ⟨rfl, ?_⟩)))
  have t16 := n17
  have t15 := in_t n16 t16
  have t14 := in_t n15 t15
  have t13 := in_t n14 t14
  have t12 := in_t n13 t13
  have t11 := in_t n12 t12
  have t10 := in_t n11 t11
  have t9 := in_t n10 t10
  have t8 := in_t n9 t9
  have t7 := in_t n8 t8
  have t6 := in_t n7 t7
  have t5 := in_t n6 t6
  have t4 := in_t n5 t5
  have t3 := in_t n4 t4
  have t2 := in_t n3 t3
  have t1 := in_t n2 t2
  have t0 := in_t n1 t1
  rw [h4] at b1
  rw [s1] at b2
  rw [s2] at b3
  rw [s3] at b4
  rw [s4] at b5
  rw [s5] at b6
  rw [s6] at b7
  rw [s7] at b8
  rw [s8] at b9
  rw [s9] at b10
  rw [s10] at b11
  rw [s11] at b12
  rw [s13] at b14
  rw [s14] at b15
  rw [s15] at b16
  refine ⟨fun j hj => t0.1 j (by omega) (by omega), by rw [n17.2.1, s16], ?_, ?_, (t1.1 141 (by omega) (by omega)).trans b1, (t2.1 142 (by omega) (by omega)).trans b2, (t3.1 143 (by omega) (by omega)).trans b3, (t4.1 144 (by omega) (by omega)).trans b4, (t5.1 145 (by omega) (by omega)).trans b5, (t6.1 146 (by omega) (by omega)).trans b6, (t7.1 147 (by omega) (by omega)).trans b7, (t8.1 148 (by omega) (by omega)).trans b8, (t9.1 149 (by omega) (by omega)).trans b9, (t10.1 150 (by omega) (by omega)).trans b10, (t11.1 151 (by omega) (by omega)).trans b11, (t12.1 152 (by omega) (by omega)).trans b12, (t13.1 153 (by omega) (by omega)).trans b13, (t14.1 154 (by omega) (by omega)).trans b14, (t15.1 155 (by omega) (by omega)).trans b15, (t16.1 156 (by omega) (by omega)).trans b16⟩
  · rw [t0.2.2]
    omega
  · rw [s15, s14, s13, s11, s10, s9, s8, s7, s6, s5, s4, s3, s2, s1, h4] at a17
    exact a17
end IN

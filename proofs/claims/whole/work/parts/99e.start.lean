/-! The law from its start: both made, the loop, 1. -/
theorem cuts_0 : Cuts (fun _ _ => 0) (fun _ _ => 0) := fun v _ l _ k _ => by
  show (0 : Int64).toBitVec.getLsbD l = (0 : BitVec 8).getLsbD k
  simp
theorem row_0 : Row (fun _ => 0) (fun _ _ => 0) := fun v _ l _ => rfl
theorem sm_0 : Sm (fun _ _ => 0) (fun _ _ => 0) (fun _ => 0) (fun _ => 0) 0 0 0 0 0 0 0 (fun _ => 0) (fun _ => -1) (fun _ => 0) (fun _ _ => 0) (fun _ => 0) 0 (fun _ => 0) (fun _ => 0) (fun _ => 0) (fun _ => 0) (fun _ => 0) (fun _ => 0) (fun _ => 0) (fun _ => 0) (upd (upd (upd (upd (fun _ => 0) 0 (-1)) 1 (-1)) 2 (-1)) 3 (-1)) (fun _ => 0) (fun _ _ => 0) (fun _ _ => 0) := by
  refine ⟨⟨cuts_0, row_0⟩, ⟨cuts_0, row_0⟩, ⟨rfl, fun _ _ => rfl⟩, ⟨rfl, fun _ _ => rfl⟩, ⟨rfl, rfl, rfl, rfl, rfl⟩, fun _ _ => rfl, ⟨rfl, fun _ _ => rfl⟩, fun k hk => ⟨?_, rfl, fun _ _ => rfl⟩⟩
  have hc : k = 0 ∨ k = 1 ∨ k = 2 ∨ k = 3 := by omega
  rcases hc with rfl | rfl | rfl | rfl <;> rfl
theorem pgs_0 {M : mM} {nd : Nat → Int32} : Pgs M .null (.num 0) nd 0 0 := ⟨⟨Nat.zero_le _, Or.inl ⟨rfl, rfl, rfl⟩⟩, fun p hp => by cases hp⟩
/-- the memory at the law's start -/
def mM0 (len : Nat) (xs : Nat → Int32) : mM := (fun k => if k = 0 then some (cI len xs) else if k = 1 then some (cI 12 mf1) else if k = 2 then some (cJ 8 mf2) else none, 3, 0)
theorem law_ev {len : Nat} {xs : Nat → Int32} (hl : len ≤ 2560) : Ev 201 212 k212_0 [some (.ref 0), none, none, none] [] (mM0 len xs) (fun v m => v = some (.int 1) ∧ m.2.1 ≤ 256157 ∧ m.2.2 ≤ 995900) := by
  unfold k212_0
  refine ev_new.mpr (ev_dupr.mpr ?_)
  obtain ⟨M1, r1, x1, s1, z1, hp, hs⟩ := i_lan (d := 197) (M := mp (mM0 len xs) (cO 11 (mnew 11)) (mnew 11).length) rfl rfl rfl rfl
  refine (ev_sc0 (d := 200) r1 (Nat.le_of_ble_eq_true rfl)).mpr ?_
  refine ev_as1.mpr (ev_new.mpr (ev_dupr.mpr ?_))
  obtain ⟨M2, r2, k2, s2, z2, hm⟩ := i_mdl (d := 200) (M := mp M1 (cO 12 (mnew 12)) (mnew 12).length) (by show M1.2.1 + 1 = 141; omega) (by rw [mp_1, if_pos s1.symm])
  rw [s1]
  refine (ev_sc0 (d := 200) r2 (Nat.le_of_ble_eq_true rfl)).mpr ?_
  refine ev_as2.mpr (ev_iconst.mpr (ev_is3.mpr ?_))
  have e : ∀ j, j < 140 → M2.1 j = M1.1 j := fun j hj => by rw [k2 j hj, mp_1, if_neg (by omega)]
  have hR : Rel M2 := ⟨_, _, _, _, _, _, _, _, _, _, _, _, _, _, _, _, _, _, _, _, _, _, _, _, _, _, _, _, _, _, _, _, _, _, _, _, _, _, _, _, per_kept hp (fun j h1 h2 => e j (by omega)), scr_kept hs (fun j _ h1 _ _ => e j (by omega)), hm, sm_0, pgs_0, pgs_0, by omega⟩
  have h0 : M2.1 0 = some (cI len xs) := (e 0 (by omega)).trans (x1.trans rfl)
  have w1 : M1.2.2 ≤ 9 + 3000 := z1
  have w2 : M2.2.2 ≤ M1.2.2 + 37 + 20000 := z2
  exact lw_loop hl 512 0 M2 _ (by omega) (by omega) hR h0 (fun m g1 g2 => ⟨rfl, by omega, by omega⟩)
theorem law_run {len : Nat} {xs : Nat → Int32} (hl : len ≤ 2560) : ∃ (f : Nat) (M : mM), mrun mTab f 201 212 (mat mTab 212 0) [some (.ref 0), none, none, none] [] (mM0 len xs) = some (some (.int 1), M) ∧ M.2.1 ≤ 256157 ∧ M.2.2 ≤ 995900 := by
  obtain ⟨f, ⟨v, M⟩, h1, h2, h3⟩ := law_ev (xs := xs) hl
  have h2 : v = some (.int 1) := h2
  subst h2
  exact ⟨f, M, h1, h3⟩

/-! The law's start meets what the small machine asks of it. -/
section GD
variable {s : State} {b : Nat}
theorem gd_tbl (hts : ∀ w ∈ lw_tbl, w.before #[Value.ref b] s = true) : ∀ w ∈ mtb, w.before #[Value.ref b] s = true := fun w hw => hts w (List.mem_filter.mp hw).1
theorem gd_cls (hts : ∀ w ∈ lw_tbl, w.before #[Value.ref b] s = true) : ∃ (dC : Nat → ClassId) (dI : Nat → Nat → Nat), ∀ (k : Nat) (q : vw_C), vwCl[k]? = some q → u_Kn s q.1 q.2.1 q.2.2 (dC k) (dI k) := by
  have h : ∀ k : Nat, ∃ x : ClassId × (Nat → Nat), ∀ q : vw_C, vwCl[k]? = some q → u_Kn s q.1 q.2.1 q.2.2 x.1 x.2 := by
    intro k
    cases hk : vwCl[k]? with
    | none => exact ⟨(0, fun _ => 0), fun q hq => by cases hq⟩
    | some r =>
      obtain ⟨cC, iS, hu⟩ := u_known (gd_tbl hts) (mcl_in k r hk) (gd_tbl hts _ (mcl_ins k r hk).1)
      exact ⟨(cC, iS), fun q hq => by cases hq; exact hu⟩
  exact ⟨fun k => (h k).choose.1, fun k => (h k).choose.2, fun k q hq => (h k).choose_spec q hq⟩
theorem gd_ai (h : (Cond.arrayClass .int).before #[Value.ref b] s = true) : ∃ cA, ArrOfT s cA .int ∧ va_RA s cA .int := by
  obtain ⟨cA, kA, comp, h1, h2, h3⟩ := Cond.arrayClass_spec h
  exact ⟨cA, fun n z => ⟨fun k h => (by cases h), kA, h2, comp, h3⟩, h1⟩
theorem gd_al (h : (Cond.arrayClass .long).before #[Value.ref b] s = true) : ∃ cA, ArrOfT s cA .long ∧ va_RA s cA .long := by
  obtain ⟨cA, kA, comp, h1, h2, h3⟩ := Cond.arrayClass_spec h
  exact ⟨cA, fun n z => ⟨fun k h => (by cases h), kA, h2, comp, h3⟩, h1⟩
theorem gd_ao {C : String} (h : (Cond.arrayOver (.object C)).before #[Value.ref b] s = true) : ∃ cA, ArrOfT s cA (.object C) ∧ va_RA s cA (.object C) := by
  obtain ⟨comp, cA, kA, h1, h2, h3, h4, h5⟩ := Cond.arrayOver_spec h
  exact ⟨cA, fun n z => ⟨fun k h => (by cases h), kA, h3, comp, h4⟩, kA, comp, h3, h4, h1, h5⟩
theorem gd_K (hts : ∀ w ∈ lw_tbl, w.before #[Value.ref b] s = true) : ∃ (D : va_G) (cA : Nat → ClassId), va_K D vwCl (mtys cA) s := by
  obtain ⟨dC, dI, hc⟩ := gd_cls hts
  obtain ⟨c0, h0⟩ := gd_ai (gd_tbl hts _ mw_119)
  obtain ⟨c1, h1⟩ := gd_al (gd_tbl hts _ mw_52)
  obtain ⟨c2, h2⟩ := gd_ao (hts _ mw_41)
  obtain ⟨c3, h3⟩ := gd_ao (hts _ mw_96)
  refine ⟨(dC, dI), fun k => match k with | 0 => c0 | 1 => c1 | 2 => c2 | _ => c3, hc, ?_⟩
  intro k q hq
  match k, hq with
  | 0, hq => cases hq; exact h0
  | 1, hq => cases hq; exact h1
  | 2, hq => cases hq; exact h2
  | 3, hq => cases hq; exact h3
  | k + 4, hq => simp [mtys] at hq
theorem gd_nest (hts : ∀ w ∈ lw_tbl, w.before #[Value.ref b] s = true) : ∀ w ∈ lw_tbl, misN w = true → va_Nw w s := by
  intro w hw hn
  have h := hts w hw
  cases w with
  | fieldLinkNest a i b n d h' => exact va_Nw.of rfl h
  | methodLinkNest a i y h' => exact va_Nw.of rfl h
  | _ => cases hn
theorem gd_A : ∀ a : Nat, a < s.heap.size → ¬ mA s.heap.size a := fun a ha h => by
  have h : s.heap.size ≤ a := h
  omega
theorem gd_1 (hts : ∀ w ∈ lw_tbl, w.before #[Value.ref b] s = true) (hgv : (Jvm.Cond.and given_1 narrow_1).before #[Value.ref b] s = true) : ∃ t : Nat, va_Z "LaneSlices" "STEPS_OF" "[I" (.ref t) (mA s.heap.size) s s.heap ∧ va_T .int t 12 (fun j => .int (mf1 j)) (mA s.heap.size) s s.heap := by
  have hs := flat_of_before _ hgv
  have harr : (Cond.arrayOf (.static "LaneSlices" "STEPS_OF" "[I") .int).before #[Value.ref b] s = true := hs _ (by decide +kernel)
  have hlen : (Cond.eq (.length (.static "LaneSlices" "STEPS_OF" "[I")) (.int 12)).before #[Value.ref b] s = true := hs _ (by decide +kernel)
  have hel : ∀ j : Nat, j < 12 → (Term.elem (.static "LaneSlices" "STEPS_OF" "[I") (.int (Int32.ofNat j))).eval #[Value.ref b] s none [] s = some (.int (mf1 j)) := by
    intro j hj
    have hc : j = 0 ∨ j = 1 ∨ j = 2 ∨ j = 3 ∨ j = 4 ∨ j = 5 ∨ j = 6 ∨ j = 7 ∨ j = 8 ∨ j = 9 ∨ j = 10 ∨ j = 11 := by omega
    rcases hc with rfl | rfl | rfl | rfl | rfl | rfl | rfl | rfl | rfl | rfl | rfl | rfl
    · have h : (Cond.eq (.elem (.static "LaneSlices" "STEPS_OF" "[I") (.int 0)) (.int (16))).before #[Value.ref b] s = true := hs _ (by decide +kernel)
      exact va_eqt h
    · have h : (Cond.eq (.elem (.static "LaneSlices" "STEPS_OF" "[I") (.int 1)) (.int (16))).before #[Value.ref b] s = true := hs _ (by decide +kernel)
      exact va_eqt h
    · have h : (Cond.eq (.elem (.static "LaneSlices" "STEPS_OF" "[I") (.int 2)) (.int (136))).before #[Value.ref b] s = true := hs _ (by decide +kernel)
      exact va_eqt h
    · have h : (Cond.eq (.elem (.static "LaneSlices" "STEPS_OF" "[I") (.int 3)) (.int (8))).before #[Value.ref b] s = true := hs _ (by decide +kernel)
      exact va_eqt h
    · have h : (Cond.eq (.elem (.static "LaneSlices" "STEPS_OF" "[I") (.int 4)) (.int (9))).before #[Value.ref b] s = true := hs _ (by decide +kernel)
      exact va_eqt h
    · have h : (Cond.eq (.elem (.static "LaneSlices" "STEPS_OF" "[I") (.int 5)) (.int (9))).before #[Value.ref b] s = true := hs _ (by decide +kernel)
      exact va_eqt h
    · have h : (Cond.eq (.elem (.static "LaneSlices" "STEPS_OF" "[I") (.int 6)) (.int (17))).before #[Value.ref b] s = true := hs _ (by decide +kernel)
      exact va_eqt h
    · have h : (Cond.eq (.elem (.static "LaneSlices" "STEPS_OF" "[I") (.int 7)) (.int (17))).before #[Value.ref b] s = true := hs _ (by decide +kernel)
      exact va_eqt h
    · have h : (Cond.eq (.elem (.static "LaneSlices" "STEPS_OF" "[I") (.int 8)) (.int (8))).before #[Value.ref b] s = true := hs _ (by decide +kernel)
      exact va_eqt h
    · have h : (Cond.eq (.elem (.static "LaneSlices" "STEPS_OF" "[I") (.int 9)) (.int (0))).before #[Value.ref b] s = true := hs _ (by decide +kernel)
      exact va_eqt h
    · have h : (Cond.eq (.elem (.static "LaneSlices" "STEPS_OF" "[I") (.int 10)) (.int (6))).before #[Value.ref b] s = true := hs _ (by decide +kernel)
      exact va_eqt h
    · have h : (Cond.eq (.elem (.static "LaneSlices" "STEPS_OF" "[I") (.int 11)) (.int (8))).before #[Value.ref b] s = true := hs _ (by decide +kernel)
      exact va_eqt h
  obtain ⟨t, h1, h2⟩ := va_Tof (N := 12) (f := fun j => .int (mf1 j)) (by decide) harr (va_eqt hlen) hel gd_A
  exact ⟨t, va_Zof (hts _ mw_286) (gd_tbl hts _ mw_1) h1 gd_A, h2⟩
theorem gd_2 (hts : ∀ w ∈ lw_tbl, w.before #[Value.ref b] s = true) (hgv : (Jvm.Cond.and given_1 narrow_1).before #[Value.ref b] s = true) : ∃ t : Nat, va_Z "LaneSlices" "LANE_PLANES" "[J" (.ref t) (mA s.heap.size) s s.heap ∧ va_T .long t 8 (fun j => .long (mf2 j)) (mA s.heap.size) s s.heap := by
  have hs := flat_of_before _ hgv
  have harr : (Cond.arrayOf (.static "LaneSlices" "LANE_PLANES" "[J") .long).before #[Value.ref b] s = true := hs _ (by decide +kernel)
  have hlen : (Cond.eq (.length (.static "LaneSlices" "LANE_PLANES" "[J")) (.int 8)).before #[Value.ref b] s = true := hs _ (by decide +kernel)
  have hel : ∀ j : Nat, j < 8 → (Term.elem (.static "LaneSlices" "LANE_PLANES" "[J") (.int (Int32.ofNat j))).eval #[Value.ref b] s none [] s = some (.long (mf2 j)) := by
    intro j hj
    have hc : j = 0 ∨ j = 1 ∨ j = 2 ∨ j = 3 ∨ j = 4 ∨ j = 5 ∨ j = 6 ∨ j = 7 := by omega
    rcases hc with rfl | rfl | rfl | rfl | rfl | rfl | rfl | rfl
    · have h : (Cond.eq (.elem (.static "LaneSlices" "LANE_PLANES" "[J") (.int 0)) (.long (-6148914691236517206))).before #[Value.ref b] s = true := hs _ (by decide +kernel)
      exact va_eqtl h
    · have h : (Cond.eq (.elem (.static "LaneSlices" "LANE_PLANES" "[J") (.int 1)) (.long (-3689348814741910324))).before #[Value.ref b] s = true := hs _ (by decide +kernel)
      exact va_eqtl h
    · have h : (Cond.eq (.elem (.static "LaneSlices" "LANE_PLANES" "[J") (.int 2)) (.long (-1085102592571150096))).before #[Value.ref b] s = true := hs _ (by decide +kernel)
      exact va_eqtl h
    · have h : (Cond.eq (.elem (.static "LaneSlices" "LANE_PLANES" "[J") (.int 3)) (.long (-71777214294589696))).before #[Value.ref b] s = true := hs _ (by decide +kernel)
      exact va_eqtl h
    · have h : (Cond.eq (.elem (.static "LaneSlices" "LANE_PLANES" "[J") (.int 4)) (.long (-281470681808896))).before #[Value.ref b] s = true := hs _ (by decide +kernel)
      exact va_eqtl h
    · have h : (Cond.eq (.elem (.static "LaneSlices" "LANE_PLANES" "[J") (.int 5)) (.long (-4294967296))).before #[Value.ref b] s = true := hs _ (by decide +kernel)
      exact va_eqtl h
    · have h : (Cond.eq (.elem (.static "LaneSlices" "LANE_PLANES" "[J") (.int 6)) (.long (0))).before #[Value.ref b] s = true := hs _ (by decide +kernel)
      exact va_eqtl h
    · have h : (Cond.eq (.elem (.static "LaneSlices" "LANE_PLANES" "[J") (.int 7)) (.long (0))).before #[Value.ref b] s = true := hs _ (by decide +kernel)
      exact va_eqtl h
  obtain ⟨t, h1, h2⟩ := va_Tof (N := 8) (f := fun j => .long (mf2 j)) (by decide) harr (va_eqt hlen) hel gd_A
  exact ⟨t, va_Zof (hts _ mw_691) (gd_tbl hts _ mw_1) h1 gd_A, h2⟩
theorem gd_all {L : Nat} {xs : Nat → Int32} (hts : ∀ w ∈ lw_tbl, w.before #[Value.ref b] s = true) (hgv : (Jvm.Cond.and given_1 narrow_1).before #[Value.ref b] s = true) (hX : va_X b L xs s s.heap) (hb : b < s.heap.size) : ∃ (sp : Nat → Nat) (D : va_G) (cA : Nat → ClassId), sp 0 = b ∧ mGood s.heap.size sp D cA s.heap L xs s := by
  obtain ⟨D, cA, hK⟩ := gd_K hts
  obtain ⟨t1, z1, a1⟩ := gd_1 hts hgv
  obtain ⟨t2, z2, a2⟩ := gd_2 hts hgv
  exact ⟨fun k => match k with | 0 => b | 1 => t1 | _ => t2, D, cA, rfl, hK, gd_nest hts, va_AO.of (hts _ mw_41), va_AO.of (hts _ mw_96), hX, z1, a1, z2, a2, rfl, hb⟩
end GD
theorem mM0_wf {len : Nat} {xs : Nat → Int32} : mWf len xs (mM0 len xs) := by
  refine ⟨Nat.le_refl _, fun k hk => ?_, fun k hk => ?_, rfl, rfl, rfl⟩
  · have hk : 3 ≤ k := hk
    show (if k = 0 then _ else if k = 1 then _ else if k = 2 then _ else none) = none
    rw [if_neg (by omega), if_neg (by omega), if_neg (by omega)]
  · have hk : k < 3 := hk
    have hc : k = 0 ∨ k = 1 ∨ k = 2 := by omega
    rcases hc with rfl | rfl | rfl <;> rfl
theorem mM0_holds {sp : Nat → Nat} {D : va_G} {cA : Nat → ClassId} {H : Heap} {len : Nat} {xs : Nat → Int32} : mHolds H.size sp D cA H len xs (mM0 len xs) H := by
  refine ⟨mM0_wf, fun k q h => ?_, rfl, fun _ _ => rfl⟩
  have e : mws (mad H.size sp) cA (mM0 len xs) = [] := rfl
  rw [e] at h
  cases h

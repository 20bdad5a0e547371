/-! The small machine's memory and the real heap. -/
def mad (N0 : Nat) (sp : Nat → Nat) (k : Nat) : Nat := if k < 3 then sp k else N0 + (k - 3)
def mtr (ad : Nat → Nat) : Value → Value
  | .ref k => .ref (ad k)
  | v => v
def mtA (ad : Nat → Nat) : vp_A → vp_A
  | (n, .inr (.inr (.inr (.inr f)))) => (n, .inr (.inr (.inr (.inr (fun j => (f j).map ad)))))
  | a => a
def mrc (ad : Nat → Nat) (cA : Nat → ClassId) : mE → va_E
  | .inl (t, a) => .inl (cA t, mtA ad a)
  | .inr (c, fs) => .inr (c, fs.map (mtr ad))
def mtys (cA : Nat → ClassId) : List (ClassId × FieldType) := [(cA 0, .int), (cA 1, .long), (cA 2, .object RX6), (cA 3, .object RX5)]
def mws (ad : Nat → Nat) (cA : Nat → ClassId) (M : mM) : va_W := (List.range (M.2.1 - 3)).map (fun k => (ad (k + 3), mrc ad cA ((M.1 (k + 3)).getD (cO 0 []))))
def mf1 (j : Nat) : Int32 := ([16, 16, 136, 8, 9, 9, 17, 17, 8, 0, 6, 8] : List Int32).getD j 0
def mf2 (j : Nat) : Int64 := ([-6148914691236517206, -3689348814741910324, -1085102592571150096, -71777214294589696, -281470681808896, -4294967296, 0, 0] : List Int64).getD j 0
def mA (N0 : Nat) : Nat → Prop := fun q => N0 ≤ q
def misN : Cond → Bool
  | .fieldLinkNest .. => true
  | .methodLinkNest .. => true
  | _ => false
/-- the memory's shape -/
def mWf (len : Nat) (xs : Nat → Int32) (M : mM) : Prop := 3 ≤ M.2.1 ∧ (∀ k, M.2.1 ≤ k → M.1 k = none) ∧ (∀ k, k < M.2.1 → (M.1 k).isSome = true) ∧ M.1 0 = some (cI len xs) ∧ M.1 1 = some (cI 12 mf1) ∧ M.1 2 = some (cJ 8 mf2)
def mHolds (N0 : Nat) (sp : Nat → Nat) (D : va_G) (cA : Nat → ClassId) (H0 : Heap) (len : Nat) (xs : Nat → Int32) (M : mM) (H : Heap) : Prop :=
  mWf len xs M ∧ va_P D vwCl (mws (mad N0 sp) cA M) H ∧ H.size = N0 + (M.2.1 - 3) ∧ ∀ q : Nat, q < N0 → H[q]? = H0[q]?
def mGood (N0 : Nat) (sp : Nat → Nat) (D : va_G) (cA : Nat → ClassId) (H0 : Heap) (len : Nat) (xs : Nat → Int32) (U : State) : Prop :=
  va_K D vwCl (mtys cA) U ∧ (∀ w ∈ lw_tbl, misN w = true → va_Nw w U) ∧ va_AO RX6 U ∧ va_AO RX5 U ∧ va_X (sp 0) len xs U H0 ∧ va_Z "LaneSlices" "STEPS_OF" "[I" (.ref (sp 1)) (mA N0) U H0 ∧ va_T .int (sp 1) 12 (fun j => .int (mf1 j)) (mA N0) U H0 ∧ va_Z "LaneSlices" "LANE_PLANES" "[J" (.ref (sp 2)) (mA N0) U H0 ∧ va_T .long (sp 2) 8 (fun j => .long (mf2 j)) (mA N0) U H0 ∧ H0.size = N0 ∧ sp 0 < N0
theorem mad_3 {N0 : Nat} {sp : Nat → Nat} (k : Nat) : mad N0 sp (k + 3) = N0 + k := by
  unfold mad
  rw [if_neg (by omega)]
  omega
theorem mad_ge {N0 : Nat} {sp : Nat → Nat} {k : Nat} (h : 3 ≤ k) : mad N0 sp k = N0 + (k - 3) := by
  unfold mad
  rw [if_neg (by omega)]
theorem mws_len {ad : Nat → Nat} {cA : Nat → ClassId} {M : mM} : (mws ad cA M).length = M.2.1 - 3 := by simp [mws]
theorem mws_get {ad : Nat → Nat} {cA : Nat → ClassId} {M : mM} {k : Nat} {c : mE} (h3 : 3 ≤ k) (hk : k < M.2.1) (hc : M.1 k = some c) : (mws ad cA M)[k - 3]? = some (ad k, mrc ad cA c) := by
  unfold mws
  rw [List.getElem?_map, List.getElem?_range (by omega)]
  have e : k - 3 + 3 = k := by omega
  simp [e, hc]
theorem mws_D {N0 : Nat} {sp : Nat → Nat} {cA : Nat → ClassId} {M : mM} : va_D (mA N0) (mws (mad N0 sp) cA M) := by
  have key : ∀ (i : Nat) (p : Nat × va_E), (mws (mad N0 sp) cA M)[i]? = some p → p.1 = N0 + i := by
    intro i p h
    unfold mws at h
    rw [List.getElem?_map] at h
    cases hr : (List.range (M.2.1 - 3))[i]? with
    | none => rw [hr] at h; cases h
    | some j =>
      rw [hr] at h
      have hj : j = i := by
        obtain ⟨h1, h2⟩ := List.getElem?_eq_some_iff.mp hr
        rw [List.getElem_range] at h2
        exact h2.symm
      subst hj
      have := Option.some.inj h
      rw [← this]
      exact mad_3 (sp := sp) j
  refine ⟨fun i j p q hi hj e => ?_, fun k q h => ?_⟩
  · have h1 := key i p hi
    have h2 := key j q hj
    omega
  · rw [key k q h]
    exact Nat.le_add_right _ _
theorem mws_mu {ad : Nat → Nat} {cA : Nat → ClassId} {M : mM} {k : Nat} {c : mE} (h3 : 3 ≤ k) (hk : k < M.2.1) : mws ad cA (mu M k c) = (mws ad cA M).set (k - 3) (ad k, mrc ad cA c) := by
  apply List.ext_getElem?
  intro i
  unfold mws mu
  by_cases hi : i < M.2.1 - 3
  · by_cases e : i = k - 3
    · subst e
      rw [List.getElem?_set_self (by simp; omega)]
      rw [List.getElem?_map, List.getElem?_range (by omega)]
      have e : k - 3 + 3 = k := by omega
      simp [e]
    · rw [List.getElem?_set_ne (Ne.symm e)]
      rw [List.getElem?_map, List.getElem?_map, List.getElem?_range hi]
      have e : i + 3 ≠ k := by omega
      simp [e]
  · have h1 : (List.range (M.2.1 - 3))[i]? = none := List.getElem?_eq_none (by simp; omega)
    rw [List.getElem?_set_ne (by omega), List.getElem?_map, List.getElem?_map]
    rw [h1]
    rfl
theorem mws_mp {ad : Nat → Nat} {cA : Nat → ClassId} {M : mM} {c : mE} {z : Nat} (h3 : 3 ≤ M.2.1) : mws ad cA (mp M c z) = mws ad cA M ++ [(ad M.2.1, mrc ad cA c)] := by
  unfold mws mp
  show (List.range (M.2.1 + 1 - 3)).map _ = _
  rw [show M.2.1 + 1 - 3 = (M.2.1 - 3) + 1 by omega, List.range_succ, List.map_append]
  congr 1
  · apply List.map_congr_left
    intro k hk
    have hk' : k < M.2.1 - 3 := List.mem_range.mp hk
    have e : k + 3 ≠ M.2.1 := by omega
    simp [e]
  · have e : M.2.1 - 3 + 3 = M.2.1 := by omega
    simp [e]
theorem mWf_mu {len : Nat} {xs : Nat → Int32} {M : mM} {k : Nat} {c : mE} (h : mWf len xs M) (h3 : 3 ≤ k) (hk : k < M.2.1) : mWf len xs (mu M k c) := by
  obtain ⟨h1, h2, h4, h5, h6, h7⟩ := h
  refine ⟨h1, fun j hj => ?_, fun j hj => ?_, ?_, ?_, ?_⟩
  · show (if j = k then some c else M.1 j) = none
    have hj : M.2.1 ≤ j := hj
    rw [if_neg (by omega)]
    exact h2 j hj
  · show (if j = k then some c else M.1 j).isSome = true
    split
    · rfl
    · exact h4 j hj
  · show (if 0 = k then some c else M.1 0) = _
    rw [if_neg (by omega)]; exact h5
  · show (if 1 = k then some c else M.1 1) = _
    rw [if_neg (by omega)]; exact h6
  · show (if 2 = k then some c else M.1 2) = _
    rw [if_neg (by omega)]; exact h7
theorem mWf_mp {len : Nat} {xs : Nat → Int32} {M : mM} {c : mE} {z : Nat} (h : mWf len xs M) : mWf len xs (mp M c z) := by
  obtain ⟨h1, h2, h4, h5, h6, h7⟩ := h
  refine ⟨Nat.le_succ_of_le h1, fun j hj => ?_, fun j hj => ?_, ?_, ?_, ?_⟩
  · show (if j = M.2.1 then some c else M.1 j) = none
    have hj : M.2.1 + 1 ≤ j := hj
    rw [if_neg (by omega)]
    exact h2 j (by omega)
  · show (if j = M.2.1 then some c else M.1 j).isSome = true
    have hj : j < M.2.1 + 1 := hj
    split
    · rfl
    · exact h4 j (by omega)
  · show (if 0 = M.2.1 then some c else M.1 0) = _
    rw [if_neg (by omega)]; exact h5
  · show (if 1 = M.2.1 then some c else M.1 1) = _
    rw [if_neg (by omega)]; exact h6
  · show (if 2 = M.2.1 then some c else M.1 2) = _
    rw [if_neg (by omega)]; exact h7
theorem mWf_lt {len : Nat} {xs : Nat → Int32} {M : mM} {k : Nat} {c : mE} (h : mWf len xs M) (hc : M.1 k = some c) : k < M.2.1 := by
  apply Nat.lt_of_not_le
  intro hk
  rw [h.2.1 k hk] at hc
  cases hc
section MS
variable {p : Program} {l : Launch} {e : Env} {R : Room} {s : State} {m : MethodId} {args : Array Value} {below : List Frame} {meth : Method} {c : Code} {H : Heap} {locs : List Loc} {cells slots : Nat} {Q : State → Prop} {g : JFrame}
theorem mW_sz (h : H.size ≤ s.heap.size + cells → W p l e R s m args below meth c H locs cells slots Q g) : W p l e R s m args below meth c H locs cells slots Q g := fun T hT X => h (by have := X.heapSize; rw [hT] at this; exact this) T hT X
end MS
/-- a store at place k -/
theorem mHolds_set {N0 : Nat} {sp : Nat → Nat} {D : va_G} {cA : Nat → ClassId} {H0 : Heap} {len : Nat} {xs : Nat → Int32} {M : mM} {H H1 : Heap} {locs : List Loc} {k : Nat} {c : mE} (h : mHolds N0 sp D cA H0 len xs M H) (h3 : 3 ≤ k) (hk : k < M.2.1)
    (hP : va_P D vwCl ((mws (mad N0 sp) cA M).set (k - 3) (mad N0 sp k, mrc (mad N0 sp) cA c)) H1) (hS : va_S (mA N0) H H1 locs) (hz : H1.size ≤ H.size) : mHolds N0 sp D cA H0 len xs (mu M k c) H1 := by
  obtain ⟨hw, hP0, hz0, hq⟩ := h
  refine ⟨mWf_mu hw h3 hk, by rw [mws_mu h3 hk]; exact hP, ?_, fun q hq1 => ?_⟩
  · show H1.size = N0 + (M.2.1 - 3)
    have := hS.1
    omega
  · rw [hS.2.1 q (by omega) (fun z => by have z : N0 ≤ q := z; omega)]
    exact hq q hq1
/-- a new cell -/
theorem mHolds_push {N0 : Nat} {sp : Nat → Nat} {D : va_G} {cA : Nat → ClassId} {H0 : Heap} {len : Nat} {xs : Nat → Int32} {M : mM} {H H1 : Heap} {locs : List Loc} {q z : Nat} {c : mE} (h : mHolds N0 sp D cA H0 len xs M H)
    (hP : va_P D vwCl (mws (mad N0 sp) cA M ++ [(q, mrc (mad N0 sp) cA c)]) H1) (hD : va_D (mA N0) (mws (mad N0 sp) cA M ++ [(q, mrc (mad N0 sp) cA c)])) (hS : va_S (mA N0) H H1 locs) (hz : H1.size ≤ H.size + 1) : q = mad N0 sp M.2.1 ∧ mHolds N0 sp D cA H0 len xs (mp M c z) H1 := by
  obtain ⟨hw, hP0, hz0, hq⟩ := h
  have hlen : (mws (mad N0 sp) cA M).length = M.2.1 - 3 := mws_len
  have hlast : (mws (mad N0 sp) cA M ++ [(q, mrc (mad N0 sp) cA c)])[M.2.1 - 3]? = some (q, mrc (mad N0 sp) cA c) := by
    rw [List.getElem?_append_right (by omega), hlen, Nat.sub_self]
    rfl
  have h1 : q < H1.size := (hP _ _ hlast).lt
  have h2 : N0 ≤ q := hD.2 _ _ hlast
  have h3 : H.size ≤ q := by
    apply Nat.le_of_not_lt
    intro hlt
    have hi : q - N0 < M.2.1 - 3 := by omega
    cases hx : (mws (mad N0 sp) cA M)[q - N0]? with
    | none =>
      have := List.getElem?_eq_none_iff.mp hx
      omega
    | some y =>
      have hy : (mws (mad N0 sp) cA M ++ [(q, mrc (mad N0 sp) cA c)])[q - N0]? = some y := by
        rw [List.getElem?_append_left (by omega)]
        exact hx
      have hy1 : y.1 = q := by
        unfold mws at hx
        rw [List.getElem?_map, List.getElem?_range hi] at hx
        have hx := Option.some.inj hx
        rw [← hx]
        show mad N0 sp (q - N0 + 3) = q
        rw [mad_3]
        omega
      have := hD.1 _ _ _ _ hy hlast hy1
      omega
  have hqe : q = mad N0 sp M.2.1 := by
    rw [mad_ge hw.1]
    omega
  refine ⟨hqe, mWf_mp hw, ?_, ?_, fun x hx => ?_⟩
  · rw [mws_mp hw.1, ← hqe]
    exact hP
  · show H1.size = N0 + (M.2.1 + 1 - 3)
    have := hw.1
    omega
  · rw [hS.2.1 x (by omega) (fun z => by have z : N0 ≤ x := z; omega)]
    exact hq x hx

/-! The small machine's locals and the real ones. -/
def mpr (ad : Nat → Nat) : Nat → mL → List (Nat × Value)
  | _, [] => []
  | o, none :: r => mpr ad (o + 1) r
  | o, some v :: r => (o, mtr ad v) :: mpr ad (o + 1) r
def mLs (ad : Nat → Nat) (n : Nat) (ls : Array Slot) (L : mL) : Prop := L.length = n ∧ ls.size = n ∧ lv_wf ls ∧ ∀ (k : Nat) (v : Value), lget L k = some v → ls[k]? = some (.val (mtr ad v))
theorem mpr_mem {ad : Nat → Nat} : ∀ (L : mL) (o : Nat) (x : Nat × Value), x ∈ mpr ad o L → ∃ v, lget L (x.1 - o) = some v ∧ o ≤ x.1 ∧ x.2 = mtr ad v
  | [], _, _, h => by cases h
  | none :: r, o, x, h => by
    obtain ⟨v, h1, h2, h3⟩ := mpr_mem r (o + 1) x h
    refine ⟨v, ?_, by omega, h3⟩
    rw [show x.1 - o = (x.1 - (o + 1)) + 1 by omega]
    exact h1
  | some w :: r, o, x, h => by
    rcases List.mem_cons.mp h with h | h
    · subst h
      exact ⟨w, by rw [Nat.sub_self]; rfl, Nat.le_refl _, rfl⟩
    · obtain ⟨v, h1, h2, h3⟩ := mpr_mem r (o + 1) x h
      refine ⟨v, ?_, by omega, h3⟩
      rw [show x.1 - o = (x.1 - (o + 1)) + 1 by omega]
      exact h1
theorem mpr_in {ad : Nat → Nat} : ∀ (L : mL) (o k : Nat) (v : Value), lget L k = some v → (o + k, mtr ad v) ∈ mpr ad o L
  | [], _, _, _, h => by cases h
  | none :: r, o, 0, v, h => by cases h
  | some w :: r, o, 0, v, h => by
    cases h
    exact List.mem_cons_self
  | none :: r, o, k + 1, v, h => by
    have := mpr_in (ad := ad) r (o + 1) k v h
    rw [show o + (k + 1) = o + 1 + k by omega]
    exact this
  | some w :: r, o, k + 1, v, h => by
    have := mpr_in (ad := ad) r (o + 1) k v h
    rw [show o + (k + 1) = o + 1 + k by omega]
    exact List.mem_cons_of_mem _ this
theorem mLs_has {ad : Nat → Nat} {n : Nat} {ls : Array Slot} {L : mL} (h : mLs ad n ls L) : lv_has ls n (mpr ad 0 L) := by
  refine ⟨h.2.1, h.2.2.1, fun x hx => ?_⟩
  obtain ⟨v, h1, h2, h3⟩ := mpr_mem L 0 x hx
  rw [h3]
  exact h.2.2.2 x.1 v h1
theorem mtr_cat {ad : Nat → Nat} (v : Value) : (mtr ad v).category = v.category := by cases v <;> rfl
theorem lget_lt : ∀ (L : mL) (k : Nat) (v : Value), lget L k = some v → k < L.length
  | [], _, _, h => by cases h
  | _ :: r, 0, _, _ => Nat.succ_pos _
  | _ :: r, k + 1, v, h => Nat.succ_lt_succ (lget_lt r k v h)
theorem lset1_len : ∀ (L : mL) (i : Nat) (v : Value), (lset1 L i v).length = L.length
  | [], _, _ => rfl
  | _ :: r, 0, _ => rfl
  | x :: r, 1, v => by show (lset1 r 0 v).length + 1 = _; rw [lset1_len r 0 v]; rfl
  | x :: r, n + 2, v => by show (lset1 r (n + 1) v).length + 1 = _; rw [lset1_len r (n + 1) v]; rfl
theorem lset2_len : ∀ (L : mL) (i : Nat) (v : Value), (lset2 L i v).length = L.length
  | [], _, _ => rfl
  | _ :: [], 0, _ => rfl
  | _ :: _ :: r, 0, _ => rfl
  | x :: r, 1, v => by show (lset2 r 0 v).length + 1 = _; rw [lset2_len r 0 v]; rfl
  | x :: r, n + 2, v => by show (lset2 r (n + 1) v).length + 1 = _; rw [lset2_len r (n + 1) v]; rfl
theorem lkl_some {x : Option Value} {w : Value} (h : lkl x = some w) : x = some w ∧ w.category ≠ 2 := by
  cases x with
  | none => cases h
  | some v => cases v <;> simp [lkl] at h <;> subst h <;> exact ⟨rfl, by simp [Value.category]⟩
theorem lset1_get : ∀ (L : mL) (i : Nat) (v : Value) (k : Nat) (w : Value), lget (lset1 L i v) k = some w → (k = i ∧ w = v) ∨ (k ≠ i ∧ lget L k = some w ∧ (k + 1 = i → w.category ≠ 2))
  | [], _, _, _, _, h => by cases h
  | _ :: r, 0, v, 0, w, h => Or.inl ⟨rfl, (Option.some.inj h).symm⟩
  | _ :: r, 0, v, k + 1, w, h => Or.inr ⟨by omega, h, by omega⟩
  | x :: r, 1, v, 0, w, h => by
    obtain ⟨h1, h2⟩ := lkl_some h
    exact Or.inr ⟨by omega, h1, fun _ => h2⟩
  | x :: r, 1, v, k + 1, w, h => by
    rcases lset1_get r 0 v k w h with ⟨h1, h2⟩ | ⟨h1, h2, h3⟩
    · exact Or.inl ⟨by omega, h2⟩
    · exact Or.inr ⟨by omega, h2, by omega⟩
  | x :: r, n + 2, v, 0, w, h => Or.inr ⟨by omega, h, by omega⟩
  | x :: r, n + 2, v, k + 1, w, h => by
    rcases lset1_get r (n + 1) v k w h with ⟨h1, h2⟩ | ⟨h1, h2, h3⟩
    · exact Or.inl ⟨by omega, h2⟩
    · exact Or.inr ⟨by omega, h2, fun e => h3 (by omega)⟩
theorem lset2_get : ∀ (L : mL) (i : Nat) (v : Value) (k : Nat) (w : Value), lget (lset2 L i v) k = some w → (k = i ∧ w = v) ∨ (k ≠ i ∧ k ≠ i + 1 ∧ lget L k = some w ∧ (k + 1 = i → w.category ≠ 2))
  | [], _, _, _, _, h => by cases h
  | _ :: [], 0, v, 0, w, h => Or.inl ⟨rfl, (Option.some.inj h).symm⟩
  | _ :: [], 0, v, k + 1, w, h => by cases h
  | _ :: _ :: r, 0, v, 0, w, h => Or.inl ⟨rfl, (Option.some.inj h).symm⟩
  | _ :: _ :: r, 0, v, 1, w, h => by cases h
  | _ :: _ :: r, 0, v, k + 2, w, h => Or.inr ⟨by omega, by omega, h, by omega⟩
  | x :: r, 1, v, 0, w, h => by
    obtain ⟨h1, h2⟩ := lkl_some h
    exact Or.inr ⟨by omega, by omega, h1, fun _ => h2⟩
  | x :: r, 1, v, k + 1, w, h => by
    rcases lset2_get r 0 v k w h with ⟨h1, h2⟩ | ⟨h1, h4, h2, h3⟩
    · exact Or.inl ⟨by omega, h2⟩
    · exact Or.inr ⟨by omega, by omega, h2, by omega⟩
  | x :: r, n + 2, v, 0, w, h => Or.inr ⟨by omega, by omega, h, by omega⟩
  | x :: r, n + 2, v, k + 1, w, h => by
    rcases lset2_get r (n + 1) v k w h with ⟨h1, h2⟩ | ⟨h1, h4, h2, h3⟩
    · exact Or.inl ⟨by omega, h2⟩
    · exact Or.inr ⟨by omega, by omega, h2, fun e => h3 (by omega)⟩
theorem mLs_set1 {ad : Nat → Nat} {n : Nat} {ls' : Array Slot} {L : mL} {i : Nat} {v : Value} (hL : L.length = n) (h : lv_has ls' n ((i, mtr ad v) :: (mpr ad 0 L).filter (fun q => !(q.1 == i) && !(q.1 + 1 == i && q.2.category == 2)))) : mLs ad n ls' (lset1 L i v) := by
  refine ⟨by rw [lset1_len]; exact hL, h.1, h.2.1, fun k w hk => ?_⟩
  rcases lset1_get L i v k w hk with ⟨h1, h2⟩ | ⟨h1, h2, h3⟩
  · subst h1; subst h2
    exact h.2.2 _ List.mem_cons_self
  · have hm := mpr_in (ad := ad) L 0 k w h2
    rw [Nat.zero_add] at hm
    refine h.2.2 (k, mtr ad w) (List.mem_cons_of_mem _ (List.mem_filter.mpr ⟨hm, ?_⟩))
    simp [h1, mtr_cat]
    exact Decidable.not_or_of_imp h3
theorem mLs_set2 {ad : Nat → Nat} {n : Nat} {ls' : Array Slot} {L : mL} {i : Nat} {v : Value} (hL : L.length = n) (h : lv_has ls' n ((i, mtr ad v) :: (mpr ad 0 L).filter (fun q => !(q.1 == i) && (!(q.1 == i + 1) && !(q.1 + 1 == i && q.2.category == 2))))) : mLs ad n ls' (lset2 L i v) := by
  refine ⟨by rw [lset2_len]; exact hL, h.1, h.2.1, fun k w hk => ?_⟩
  rcases lset2_get L i v k w hk with ⟨h1, h2⟩ | ⟨h1, h4, h2, h3⟩
  · subst h1; subst h2
    exact h.2.2 _ List.mem_cons_self
  · have hm := mpr_in (ad := ad) L 0 k w h2
    rw [Nat.zero_add] at hm
    refine h.2.2 (k, mtr ad w) (List.mem_cons_of_mem _ (List.mem_filter.mpr ⟨hm, ?_⟩))
    simp [h1, h4, mtr_cat]
    exact Decidable.not_or_of_imp h3
/-- the locals at a method's entry -/
theorem mlay_get {ad : Nat → Nat} : ∀ (vs : List Value) (o k : Nat) (v : Value), lget (mlay vs) k = some v → (o + k, mtr ad v) ∈ lv_args o (vs.map (mtr ad))
  | [], _, _, _, h => by cases h
  | x :: vs, o, k, v, h => by
    unfold mlay at h
    by_cases hc : x.category = 2
    · rw [if_pos hc] at h
      match k, h with
      | 0, h =>
        cases h
        simp [lv_args]
      | 1, h => cases h
      | k + 2, h =>
        have := mlay_get (ad := ad) vs (o + 2) k v h
        simp only [List.map_cons, lv_args, mtr_cat, hc]
        rw [show o + (k + 2) = o + 2 + k by omega]
        exact List.mem_cons_of_mem _ this
    · rw [if_neg hc] at h
      have hc1 : x.category = 1 := by cases x <;> first | rfl | exact absurd rfl hc
      match k, h with
      | 0, h =>
        cases h
        simp [lv_args]
      | k + 1, h =>
        have := mlay_get (ad := ad) vs (o + 1) k v h
        simp only [List.map_cons, lv_args, mtr_cat, hc1]
        rw [show o + (k + 1) = o + 1 + k by omega]
        exact List.mem_cons_of_mem _ this
theorem mlay_len {ad : Nat → Nat} : ∀ (vs : List Value), (lg_sl (vs.map (mtr ad))).length = (mlay vs).length
  | [] => rfl
  | x :: vs => by
    have ih := mlay_len (ad := ad) vs
    unfold lg_sl at ih ⊢
    simp only [List.map_cons, List.flatMap_cons, List.length_append, mtr_cat, ih]
    show _ = (if x.category = 2 then some x :: none :: mlay vs else some x :: mlay vs).length
    by_cases hc : x.category = 2 <;> simp [hc] <;> omega
theorem lget_app : ∀ (L : mL) (n k : Nat) (v : Value), lget (L ++ List.replicate n none) k = some v → lget L k = some v
  | [], 0, _, _, h => by cases h
  | [], n + 1, 0, _, h => by cases h
  | [], n + 1, k + 1, v, h => by
    have := lget_app [] n k v h
    cases this
  | x :: L, n, 0, v, h => h
  | x :: L, n, k + 1, v, h => lget_app L n k v h
theorem mLs_entry {ad : Nat → Nat} {tb : mB} {μ : Nat} {q : mT} (hq : tb[μ]? = some q) {vs : List Value} (h : (mlay vs).length ≤ q.1.2.2.1) : mLs ad q.1.2.2.1 ((lg_sl (vs.map (mtr ad)) ++ List.replicate (q.1.2.2.1 - (lg_sl (vs.map (mtr ad))).length) Slot.unset).toArray) (ment tb μ vs) := by
  have hm : mmx tb μ = q.1.2.2.1 := by unfold mmx; rw [hq]
  have hl := lv_entry (vs.map (mtr ad)) (n := q.1.2.2.1) (by rw [mlay_len]; exact h)
  refine ⟨?_, hl.1, hl.2.1, fun k v hk => ?_⟩
  · unfold ment
    rw [hm]
    simp
    omega
  · unfold ment at hk
    have h1 := lget_app _ _ _ _ hk
    have h2 := mlay_get (ad := ad) vs 0 k v h1
    rw [Nat.zero_add] at h2
    exact hl.2.2 _ h2

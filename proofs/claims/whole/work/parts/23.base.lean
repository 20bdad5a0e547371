theorem mu_1 {M : mM} {k j : Nat} {c : mE} : (mu M k c).1 j = if j = k then some c else M.1 j := rfl
theorem mu_2 {M : mM} {k : Nat} {c : mE} : (mu M k c).2 = M.2 := rfl
theorem mu_mu {M : mM} {k : Nat} {c e : mE} : mu (mu M k c) k e = mu M k e := by
  unfold mu
  congr 1
  funext j
  by_cases h : j = k <;> simp [h]
theorem mu_self {M : mM} {k : Nat} {c : mE} (h : M.1 k = some c) : mu M k c = M := by
  unfold mu
  have : (fun j => if j = k then some c else M.1 j) = M.1 := by
    funext j
    by_cases e : j = k
    · rw [if_pos e, e, h]
    · rw [if_neg e]
  rw [this]
theorem down {P : Nat → Prop} (n : Nat) (hn : P n) (hs : ∀ k, k < n → P (k + 1) → P k) : ∀ k, k ≤ n → P k := by
  intro k hk
  obtain ⟨m, rfl⟩ := Nat.exists_eq_add_of_le hk
  clear hk
  induction m generalizing k with
  | zero => exact hn
  | succ m ih =>
    refine hs k (by omega) ?_
    have := ih (k := k + 1) (by rw [show k + 1 + m = k + (m + 1) by omega]; exact hn) (fun j hj => hs j (by omega))
    exact this
def lfill (f g : Nat → Int64) (k : Nat) : Nat → Int64 := fun j => if j < k then f j else g j
theorem lfill_0 {f g : Nat → Int64} : lfill f g 0 = g := by
  funext j
  simp [lfill]
theorem lfill_s {f g : Nat → Int64} {k : Nat} : vp_updL (lfill f g k) k (f k) = lfill f g (k + 1) := by
  funext j
  unfold vp_updL lfill
  by_cases h : j = k
  · subst h; simp
  · rw [if_neg h]
    by_cases h2 : j < k
    · rw [if_pos h2, if_pos (by omega)]
    · rw [if_neg h2, if_neg (by omega)]
theorem lfill_at {f g : Nat → Int64} {k : Nat} : lfill f g k k = g k := by simp [lfill]
theorem in8 {k : Nat} (h : k < 8) : vp_in (nI k) 8 := vp_in_nI h (by decide)
theorem cl8 {k : Nat} (h : k < 8) : (nI k).toNatClampNeg = k := nI_clamp (by omega)
theorem n0 : nI 0 = 0 := rfl
theorem n8 : nI 8 = 8 := rfl
theorem n64 : nI 64 = 64 := rfl
theorem ge8 {k : Nat} (h : k < 8) : ¬ (8 : Int32) ≤ nI k := by rw [← n8]; exact nI_ge h (by decide)
theorem ge64 {k : Nat} (h : k < 64) : ¬ (64 : Int32) ≤ nI k := by rw [← n64]; exact nI_ge h (by decide)
theorem ge8e : (8 : Int32) ≤ nI 8 := by decide
theorem ge64e : (64 : Int32) ≤ nI 64 := by decide
theorem in64 {k : Nat} (h : k < 64) : vp_in (nI k) 64 := vp_in_nI h (by decide)
theorem cl64 {k : Nat} (h : k < 64) : (nI k).toNatClampNeg = k := nI_clamp (by omega)
theorem nI_z {k : Nat} (h : k < 8) : nI k = 0 ↔ k = 0 := by
  rw [show (0 : Int32) = nI 0 from rfl]
  exact nI_eq (by omega) (by decide)
theorem sub1 {n : Nat} (h : n < 8) : nI (8 - n) - 1 = nI (7 - n) := by
  rw [show 8 - n = (7 - n) + 1 by omega, nI_pred]
theorem nlt0 {n : Nat} (h : n < 8) : ¬ nI n < 0 := nI_pos (by omega)
theorem lcmp0 {x : Int64} : lg_cmp x 0 = 0 ↔ x = 0 := by
  unfold lg_cmp
  by_cases h1 : x = 0
  · subst h1; decide
  · simp only [h1, iff_false]
    (repeat' split) <;> first | decide | (intro h; exact h1 (by simp_all))

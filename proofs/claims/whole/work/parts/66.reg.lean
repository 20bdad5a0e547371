/-! A region, flooded: the least closed set. -/
theorem pflo_reg {x : Nat → Int32} {v a : Nat} {e : Int32} {like : Int64} (he : e = 0 ∨ e = 1) (hlk : ∀ l, l < 64 → (pb like l = true ↔ x (64 * v + l) = x (64 * v + a))) : ∀ n (X : Int64), Few x v a e X → (∀ l, l < 64 → pb X l = true → pb like l = true) → 65 ≤ pcn X 64 + n → Reg x v a e (pflo e like n X) := by
  have sp : ∀ X : Int64, ∀ l, l < 64 → (pb (pspr X e 4 &&& like) l = true ↔ (pb X l = true ∨ ∃ k w, k < 64 ∧ w < 4 ∧ pb X k = true ∧ bes k w e = nI l) ∧ x (64 * v + l) = x (64 * v + a)) := fun X l hl => by
    rw [pb_and, Bool.and_eq_true, pspr_s he hl, hlk l hl]
  intro n
  induction n with
  | zero =>
    intro X _ _ h
    have := pcn_le (x := X) (n := 64)
    omega
  | succ n ih =>
    intro X hf hin hn
    show Reg x v a e (if pspr X e 4 &&& like = X then X else pflo e like n (pspr X e 4 &&& like))
    by_cases c : pspr X e 4 &&& like = X
    · rw [if_pos c]
      refine ⟨hf, fun k b hk hp hs => ?_⟩
      obtain ⟨w, hw, hb, hb6, hx⟩ := hs
      rw [← c]
      exact (sp X b hb6).mpr ⟨Or.inr ⟨k, w, hk, hw, hp, hb⟩, hx⟩
    · rw [if_neg c]
      have sub : ∀ l, l < 64 → pb X l = true → pb (pspr X e 4 &&& like) l = true := fun l hl hp => (sp X l hl).mpr ⟨Or.inl hp, (hlk l hl).mp (hin l hl hp)⟩
      refine ih _ ⟨?_, fun S h0 hS l hl hp => ?_⟩ (fun l hl hp => ?_) ?_
      · by_cases ha : a < 64
        · exact sub a ha hf.1
        · have := hf.1
          rw [pb_ge (by omega)] at this
          cases this
      · obtain ⟨h1, hx⟩ := (sp X l hl).mp hp
        rcases h1 with h1 | ⟨k, w, hk, hw, h2, h3⟩
        · exact hf.2 S h0 hS l hl h1
        · exact hS k l hk (hf.2 S h0 hS k hk h2) ⟨w, hw, h3, hl, hx⟩
      · rw [hlk l hl]
        exact ((sp X l hl).mp hp).2
      · have : pcn X 64 < pcn (pspr X e 4 &&& like) 64 := by
          have hne : ∃ l, l < 64 ∧ pb X l = false ∧ pb (pspr X e 4 &&& like) l = true := by
            refine Classical.byContradiction (fun hz => c (pb_ext (fun l hl => ?_)))
            cases hb : pb X l
            · cases hb2 : pb (pspr X e 4 &&& like) l
              · rfl
              · exact absurd ⟨l, hl, hb, hb2⟩ hz
            · exact sub l hl hb
          obtain ⟨l, hl, h1, h2⟩ := hne
          exact pcn_lt sub hl h1 h2
        omega
theorem pcn_1 {a : Nat} (ha : a < 64) : 1 ≤ pcn (onel a) 64 := by
  have : pcn (0 : Int64) 64 < pcn (onel a) 64 := pcn_lt (b := a) (fun k _ h => by rw [pb_0] at h; cases h) ha pb_0 (by rw [pb_one ha ha]; simp)
  omega
theorem s_region {F : Nat → Int64} {x : Nat → Int32} {y : Nat → BitVec 8} {v a : Nat} {e : Int32} (he : e = 0 ∨ e = 1) (ha : a < 64) (hc : Cut F y) (h : ∀ l, l < 64 → x (64 * v + l) = i8 (y l)) : Reg x v a e (preg e F a) := by
  unfold preg
  have hlk : ∀ l, l < 64 → (pb (plk F a) l = true ↔ x (64 * v + l) = x (64 * v + a)) := fun l hl => by
    rw [plk_b hc ha hl, h l hl, h a ha, i8_eq, decide_eq_true_eq]
  refine pflo_reg he hlk 64 (onel a) (few_0 ha) (fun l hl hp => ?_) (by have := pcn_1 ha; omega)
  rw [pb_one ha hl] at hp
  rw [of_decide_eq_true hp, hlk a ha]
theorem s_regions {e : Int32} {F : Nat → Int64} : ∀ n, n ≤ 64 → mrgs (preg e F) n = prgs e F n := by
  intro n
  induction n with
  | zero => intro _; rfl
  | succ n ih =>
    intro hn
    show (if pbit (mrgs (preg e F) n).1 n = 1 then mrgs (preg e F) n else ((mrgs (preg e F) n).1 ||| preg e F n, (mrgs (preg e F) n).2 + 1)) = (if pbit (prgs e F n).1 n = 0 then ((prgs e F n).1 ||| preg e F n, (prgs e F n).2 + 1) else prgs e F n)
    rw [ih (by omega), pbit_pb (by omega)]
    cases pb (prgs e F n).1 n
    · rw [if_neg (by decide), if_pos (by decide)]
    · rw [if_pos (by decide), if_neg (by decide)]
/-! ways -/
theorem mwst_b {x : Nat → Int32} {v k : Nat} {e : Int32} {m : Int64} (hk : k < 64) {l : Nat} (hl : l < 64) : ∀ s, s ≤ 4 → (pb (mwst x v e k m s) l = true ↔ pb m l = true ∨ ∃ w, w < s ∧ bes k w e = nI l ∧ ¬ x (64 * v + l) = 0) := by
  intro s
  induction s with
  | zero =>
    intro _
    rw [show mwst x v e k m 0 = m from rfl]
    simp
  | succ s ih =>
    intro hs
    show pb (mwst x v e k m s ||| (if bes k s e < 0 then 0 else if x (64 * v + (bes k s e).toNatClampNeg) = 0 then 0 else (1 : Int64) <<< ((bes k s e).toInt64 &&& 63))) l = true ↔ _
    rw [pb_or, Bool.or_eq_true, ih (by omega)]
    have lift : ∀ {A B : Prop}, (B ↔ (bes k s e = nI l ∧ ¬ x (64 * v + l) = 0)) → ((A ∨ ∃ w, w < s ∧ bes k w e = nI l ∧ ¬ x (64 * v + l) = 0) ∨ B ↔ A ∨ ∃ w, w < s + 1 ∧ bes k w e = nI l ∧ ¬ x (64 * v + l) = 0) := by
      intro A B hB
      constructor
      · rintro ((h1 | ⟨w, h1, h2⟩) | h1)
        · exact Or.inl h1
        · exact Or.inr ⟨w, by omega, h2⟩
        · exact Or.inr ⟨s, by omega, hB.mp h1⟩
      · rintro (h1 | ⟨w, h1, h2⟩)
        · exact Or.inl (Or.inl h1)
        · by_cases c : w = s
          · rw [c] at h2
            exact Or.inr (hB.mpr h2)
          · exact Or.inl (Or.inr ⟨w, by omega, h2⟩)
    apply lift
    rcases bes_in (wy := s) (e := e) hk with hb | ⟨j, hj, hb⟩
    · rw [hb, if_pos (by decide), pb_0]
      constructor
      · intro z; cases z
      · rintro ⟨z, _⟩
        exact absurd (show nI l < 0 by rw [← z]; decide) (nI_pos (by omega))
    · rw [hb, if_neg (nI_pos (by omega)), nI_clamp (by omega)]
      by_cases c : x (64 * v + j) = 0
      · rw [if_pos c, pb_0]
        constructor
        · intro z; cases z
        · rintro ⟨z, hz⟩
          rw [nI_eq (by omega) (by omega)] at z
          rw [← z] at hz
          exact absurd c hz
      · rw [if_neg c, pb_one hj hl]
        constructor
        · intro z
          rw [of_decide_eq_true z]
          exact ⟨rfl, c⟩
        · rintro ⟨z, _⟩
          rw [nI_eq (by omega) (by omega)] at z
          exact decide_eq_true z.symm
theorem mwn_b {x : Nat → Int32} {v : Nat} {e : Int32} {m : Int64} {l : Nat} (hl : l < 64) : ∀ n, n ≤ 64 → (pb (mwn x v e m n) l = true ↔ pb m l = true ∨ ∃ k w, k < n ∧ w < 4 ∧ pb m k = true ∧ bes k w e = nI l ∧ ¬ x (64 * v + l) = 0) := by
  intro n
  induction n with
  | zero =>
    intro _
    rw [show mwn x v e m 0 = m from rfl]
    simp
  | succ n ih =>
    intro hn
    show pb (if pbit m n = 1 then mwst x v e n (mwn x v e m n) 4 else mwn x v e m n) l = true ↔ _
    rw [pbit_pb (by omega)]
    cases hb : pb m n
    · rw [if_neg (show ¬ (if false = true then (1 : Int64) else 0) = 1 by decide), ih (by omega)]
      constructor
      · rintro (h1 | ⟨k, w, h1, h2⟩)
        · exact Or.inl h1
        · exact Or.inr ⟨k, w, by omega, h2⟩
      · rintro (h1 | ⟨k, w, h1, h2, h3, h4⟩)
        · exact Or.inl h1
        · by_cases c : k = n
          · rw [c, hb] at h3
            cases h3
          · exact Or.inr ⟨k, w, by omega, h2, h3, h4⟩
    · rw [if_pos (show (if true = true then (1 : Int64) else 0) = 1 from rfl), mwst_b (by omega) hl 4 (Nat.le_refl _), ih (by omega)]
      constructor
      · rintro ((h1 | ⟨k, w, h1, h2⟩) | ⟨w, h1, h2, h3⟩)
        · exact Or.inl h1
        · exact Or.inr ⟨k, w, by omega, h2⟩
        · exact Or.inr ⟨n, w, by omega, h1, hb, h2, h3⟩
      · rintro (h1 | ⟨k, w, h1, h2, h3, h4, h5⟩)
        · exact Or.inl (Or.inl h1)
        · by_cases c : k = n
          · rw [c] at h4
            exact Or.inr ⟨w, h2, h4, h5⟩
          · exact Or.inl (Or.inr ⟨k, w, by omega, h2, h3, h4, h5⟩)
theorem s_step {x : Nat → Int32} {v : Nat} {e : Int32} {op X : Int64} (he : e = 0 ∨ e = 1) (hop : ∀ l, l < 64 → (pb op l = true ↔ ¬ x (64 * v + l) = 0)) (hX : ∀ l, l < 64 → pb X l = true → pb op l = true) : mwn x v e X 64 = pspr X e 4 &&& op := by
  apply pb_ext
  intro l hl
  apply b_ext
  rw [mwn_b hl 64 (Nat.le_refl _), pb_and, Bool.and_eq_true, pspr_s he hl, hop l hl]
  constructor
  · rintro (h1 | ⟨k, w, h1, h2, h3, h4, h5⟩)
    · exact ⟨Or.inl h1, (hop l hl).mp (hX l hl h1)⟩
    · exact ⟨Or.inr ⟨k, w, h1, h2, h3, h4⟩, h5⟩
  · rintro ⟨h1 | ⟨k, w, h1, h2, h3, h4⟩, h5⟩
    · exact Or.inl h1
    · exact Or.inr ⟨k, w, h1, h2, h3, h4, h5⟩
theorem pway_out {e : Int32} {op : Int64} {b : Nat} (hb : b < 64) (hop : pb op b = false) : ∀ n k (X : Int64), pb X b = false → pway e op b n k X = -1 := by
  intro n
  induction n with
  | zero => intro k X _; rfl
  | succ n ih =>
    intro k X hX
    show (if pbit X b = 1 then nI k else pway e op b n (k + 1) (pspr X e 4 &&& op)) = -1
    rw [if_neg ((pbit_n1 hb).mpr hX)]
    exact ih _ _ (by rw [pb_and, hop, Bool.and_false])
theorem pway_fix {e : Int32} {op : Int64} {b : Nat} (hb : b < 64) {X : Int64} (hX : pb X b = false) (hf : pspr X e 4 &&& op = X) : ∀ n k, pway e op b n k X = -1 := by
  intro n
  induction n with
  | zero => intro k; rfl
  | succ n ih =>
    intro k
    show (if pbit X b = 1 then nI k else pway e op b n (k + 1) (pspr X e 4 &&& op)) = -1
    rw [if_neg ((pbit_n1 hb).mpr hX), hf]
    exact ih _
theorem mwy_fix {x : Nat → Int32} {v b : Nat} {e : Int32} (hb : b < 64) {X : Int64} (hX : pb X b = false) (hf : mwn x v e X 64 = X) : ∀ n k, mwy x v b e n k X = -1 := by
  intro n
  induction n with
  | zero => intro k; rfl
  | succ n ih =>
    intro k
    show (if pbit X b = 1 then nI k else mwy x v b e n (k + 1) (mwn x v e X 64)) = -1
    rw [if_neg ((pbit_n1 hb).mpr hX), hf]
    exact ih _
theorem s_way1 {x : Nat → Int32} {v b : Nat} {e : Int32} {op : Int64} (he : e = 0 ∨ e = 1) (hb : b < 64) (hop : ∀ l, l < 64 → (pb op l = true ↔ ¬ x (64 * v + l) = 0)) : ∀ n k (X : Int64), (∀ l, l < 64 → pb X l = true → pb op l = true) → 65 ≤ pcn X 64 + n → pway e op b n k X = mwy x v b e (n + 1) k X := by
  intro n
  induction n with
  | zero =>
    intro k X _ h
    have := pcn_le (x := X) (n := 64)
    omega
  | succ n ih =>
    intro k X hX hn
    show (if pbit X b = 1 then nI k else pway e op b n (k + 1) (pspr X e 4 &&& op)) = (if pbit X b = 1 then nI k else mwy x v b e (n + 1) (k + 1) (mwn x v e X 64))
    by_cases c : pbit X b = 1
    · rw [if_pos c, if_pos c]
    · rw [if_neg c, if_neg c, s_step he hop hX]
      have cX := (pbit_n1 hb).mp c
      by_cases f : pspr X e 4 &&& op = X
      · rw [f, pway_fix hb cX f, mwy_fix hb cX (by rw [s_step he hop hX]; exact f)]
      · refine ih _ _ (fun l hl hp => ?_) ?_
        · rw [pb_and, Bool.and_eq_true] at hp
          exact hp.2
        · have sub : ∀ l, l < 64 → pb X l = true → pb (pspr X e 4 &&& op) l = true := fun l hl hp => by
            rw [pb_and, hX l hl hp, Bool.and_true]
            exact (pspr_s he hl).mpr (Or.inl hp)
          have hne : ∃ l, l < 64 ∧ pb X l = false ∧ pb (pspr X e 4 &&& op) l = true := by
            refine Classical.byContradiction (fun hz => f (pb_ext (fun l hl => ?_)))
            cases hb1 : pb X l
            · cases hb2 : pb (pspr X e 4 &&& op) l
              · rfl
              · exact absurd ⟨l, hl, hb1, hb2⟩ hz
            · exact sub l hl hb1
          obtain ⟨l, hl, h1, h2⟩ := hne
          have := pcn_lt sub hl h1 h2
          omega
theorem s_way {F : Nat → Int64} {x : Nat → Int32} {y : Nat → BitVec 8} {v a b : Nat} {e : Int32} (he : e = 0 ∨ e = 1) (ha : a < 64) (hb : b < 64) (hc : Cut F y) (h : ∀ l, l < 64 → x (64 * v + l) = i8 (y l)) : pway e (pany F 8) b 64 0 (onel a &&& pany F 8) = if x (64 * v + a) = 0 then -1 else if x (64 * v + b) = 0 then -1 else mwy x v b e 65 0 (onel a) := by
  have hop : ∀ l, l < 64 → (pb (pany F 8) l = true ↔ ¬ x (64 * v + l) = 0) := fun l hl => by
    rw [cut_any hc hl, h l hl, i8_z]
    simp
  have hf : ∀ l, l < 64 → (x (64 * v + l) = 0) → pb (pany F 8) l = false := fun l hl hz => by
    cases hp : pb (pany F 8) l
    · rfl
    · exact absurd hz ((hop l hl).mp hp)
  by_cases ca : x (64 * v + a) = 0
  · rw [if_pos ca]
    have hz : onel a &&& pany F 8 = 0 := z_iff.mpr (fun l hl => by
      rw [pb_and, pb_one ha hl]
      by_cases e : l = a
      · rw [e, hf a ha ca, Bool.and_false]
      · simp [e])
    rw [hz]
    refine pway_fix hb pb_0 (z_iff.mpr (fun l hl => ?_)) 64 0
    rw [pb_and]
    have : pb (pspr 0 e 4) l = false := Bool.eq_false_iff.mpr (fun hp => by
      rcases (pspr_s he hl).mp hp with h1 | ⟨k, w, _, _, h1, _⟩
      · rw [pb_0] at h1; cases h1
      · rw [pb_0] at h1; cases h1)
    rw [this, Bool.false_and]
  · rw [if_neg ca]
    by_cases cb : x (64 * v + b) = 0
    · rw [if_pos cb]
      exact pway_out hb (hf b hb cb) 64 0 _ (by rw [pb_and, hf b hb cb, Bool.and_false])
    · rw [if_neg cb]
      have hz : onel a &&& pany F 8 = onel a := pb_ext (fun l hl => by
        rw [pb_and, pb_one ha hl]
        by_cases e : l = a
        · rw [e, (hop a ha).mpr ca, Bool.and_true]
        · simp [e])
      rw [hz]
      refine s_way1 he hb hop 64 0 _ (fun l hl hp => ?_) (by have := pcn_1 ha; omega)
      rw [pb_one ha hl] at hp
      rw [of_decide_eq_true hp]
      exact (hop a ha).mpr ca

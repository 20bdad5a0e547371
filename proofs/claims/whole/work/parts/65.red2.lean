/-! least, part, rank, alike. -/
theorem plea_g {F : Nat → Int64} {m : Int64} : ∀ n, plea F m n = pgre (fun k => F k ^^^ (-1)) m n := by
  intro n
  induction n with
  | zero => rfl
  | succ n ih =>
    show (if plea F m n &&& (F (7 - n) ^^^ (-1)) = 0 then plea F m n else plea F m n &&& (F (7 - n) ^^^ (-1))) = (if pgre (fun k => F k ^^^ (-1)) m n &&& (F (7 - n) ^^^ (-1)) = 0 then pgre (fun k => F k ^^^ (-1)) m n else pgre (fun k => F k ^^^ (-1)) m n &&& (F (7 - n) ^^^ (-1)))
    rw [ih]
theorem not_n {b : BitVec 8} : (~~~ b).toNat = 255 - b.toNat := by
  rw [BitVec.toNat_not]
theorem mre_f {x : Nat → Int32} {y : Nat → BitVec 8} {m : Int64} {v : Nat} (h : ∀ l, l < 64 → x (64 * v + l) = i8 (y l)) : ∀ n, n ≤ 64 → ((∀ l, l < n → pb m l = false) ∧ mre x v m n = -1) ∨ ∃ t, Fst (fun l => ~~~ y l) m n t ∧ mre x v m n = i8 (y t) := by
  have hy : ∀ n, (y n).toNat < 256 := fun n => (y n).isLt
  intro n
  induction n with
  | zero => intro _; exact Or.inl ⟨fun l hl => absurd hl (Nat.not_lt_zero _), rfl⟩
  | succ n ih =>
    intro hn
    have e1 : mre x v m (n + 1) = if pbit m n = 1 then (if mre x v m n < 0 then x (64 * v + n) else if mre x v m n ≤ x (64 * v + n) then mre x v m n else x (64 * v + n)) else mre x v m n := rfl
    rw [e1, pbit_pb (by omega), h n (by omega)]
    cases hb : pb m n
    · rw [if_neg (show ¬ (if false = true then (1 : Int64) else 0) = 1 by decide)]
      rcases ih (by omega) with ⟨h1, h2⟩ | ⟨t, ⟨h1, h2, h3, h4⟩, h5⟩
      · refine Or.inl ⟨fun l hl => ?_, h2⟩
        by_cases e : l = n
        · rw [e]; exact hb
        · exact h1 l (by omega)
      · refine Or.inr ⟨t, ⟨by omega, h2, fun l hl hm => ?_, h4⟩, h5⟩
        by_cases e : l = n
        · rw [e, hb] at hm
          cases hm
        · exact h3 l (by omega) hm
    · rw [if_pos (show (if true = true then (1 : Int64) else 0) = 1 from rfl)]
      rcases ih (by omega) with ⟨h1, h2⟩ | ⟨t, ⟨h1, h2, h3, h4⟩, h5⟩
      · rw [h2, if_pos (show (-1 : Int32) < 0 by decide)]
        refine Or.inr ⟨n, ⟨by omega, hb, fun l hl hm => ?_, fun l hl hm => ?_⟩, rfl⟩
        · by_cases e : l = n
          · rw [e]; exact Nat.le_refl _
          · rw [h1 l (by omega)] at hm
            cases hm
        · rw [h1 l hl] at hm
          cases hm
      · simp only [not_n] at h3 h4
        rw [h5, if_neg (show ¬ i8 (y t) < 0 from nI_pos (by have := hy t; omega))]
        by_cases c : (y t).toNat ≤ (y n).toNat
        · have c' : i8 (y t) ≤ i8 (y n) := nI_le c (by have := hy n; omega)
          rw [if_pos c']
          refine Or.inr ⟨t, ⟨by omega, h2, fun l hl hm => ?_, fun l hl hm => ?_⟩, rfl⟩
          · simp only [not_n]
            by_cases e : l = n
            · rw [e]; omega
            · exact h3 l (by omega) hm
          · simp only [not_n]
            exact h4 l hl hm
        · have c' : ¬ i8 (y t) ≤ i8 (y n) := nI_ge (by omega) (by have := hy t; omega)
          rw [if_neg c']
          refine Or.inr ⟨n, ⟨by omega, hb, fun l hl hm => ?_, fun l hl hm => ?_⟩, rfl⟩
          · simp only [not_n]
            by_cases e : l = n
            · rw [e]; omega
            · have := h3 l (by omega) hm
              have := hy l
              have := hy t
              omega
          · simp only [not_n]
            have := h3 l hl hm
            have := hy l
            have := hy t
            omega
theorem s_least {F : Nat → Int64} {x : Nat → Int32} {y : Nat → BitVec 8} {m : Int64} {v : Nat} (hc : Cut F y) (h : ∀ l, l < 64 → x (64 * v + l) = i8 (y l)) : (m = 0 → mre x v m 64 = -1) ∧ (¬ m = 0 → mre x v m 64 = plan F (jtl (plea F m 8)) 8) := by
  constructor
  · intro hm
    rcases mre_f (m := m) h 64 (Nat.le_refl _) with ⟨_, h2⟩ | ⟨t, ⟨h1, h2, _⟩, _⟩
    · exact h2
    · rw [hm, pb_0] at h2
      cases h2
  · intro hm
    rcases mre_f (m := m) h 64 (Nat.le_refl _) with ⟨h1, _⟩ | ⟨t, ht, h5⟩
    · exact absurd (z_iff.mpr h1) hm
    · rw [plea_g, jtl_low (pgre_low (cut_not hc) hm ht), cut_plan hc ht.1]
      exact h5
/-! part -/
def smp (y : Nat → BitVec 8) (m : Int64) (b : Nat) : Nat → Nat
  | 0 => 0
  | n + 1 => smp y m b n + (if pb m (b + n) then (y (b + n)).toNat else 0)
theorem mpt_n {x : Nat → Int32} {y : Nat → BitVec 8} {m : Int64} {v b : Nat} (h : ∀ l, l < 64 → x (64 * v + l) = i8 (y l)) : ∀ n, b + n ≤ 64 → mpt x v m b n = nI (smp y m b n) := by
  intro n
  induction n with
  | zero => intro _; rfl
  | succ n ih =>
    intro hn
    show mpt x v m b n + (if pbit m (b + n) = 1 then x (64 * v + (b + n)) else 0) = nI (smp y m b n + (if pb m (b + n) then (y (b + n)).toNat else 0))
    rw [ih (by omega), pbit_pb (by omega), h _ (by omega)]
    cases pb m (b + n)
    · rw [if_neg (by decide), if_neg (by decide), a0, Nat.add_zero]
    · rw [if_pos (by decide), if_pos rfl]
      exact nI_add _ _
theorem sml_blk {y : Nat → BitVec 8} {m blk : Int64} {b c : Nat} (hb : b + c ≤ 64) (hk : ∀ k, k < 64 → pb blk k = decide (b ≤ k ∧ k < b + c)) : sml y (blk &&& m) 64 = smp y m b c := by
  have h1 : ∀ n, n ≤ b → sml y (blk &&& m) n = 0 := by
    intro n
    induction n with
    | zero => intro _; rfl
    | succ n ih =>
      intro hn
      show sml y (blk &&& m) n + (if pb (blk &&& m) n then (y n).toNat else 0) = 0
      rw [ih (by omega), pb_and, hk n (by omega)]
      have : ¬ (b ≤ n ∧ n < b + c) := by omega
      simp [this]
  have h2 : ∀ n, n ≤ c → sml y (blk &&& m) (b + n) = smp y m b n := by
    intro n
    induction n with
    | zero => intro _; exact h1 b (Nat.le_refl _)
    | succ n ih =>
      intro hn
      show sml y (blk &&& m) (b + n) + (if pb (blk &&& m) (b + n) then (y (b + n)).toNat else 0) = smp y m b n + (if pb m (b + n) then (y (b + n)).toNat else 0)
      rw [ih (by omega), pb_and, hk _ (by omega)]
      have : b ≤ b + n ∧ b + n < b + c := by omega
      simp [this]
  have h3 : ∀ n, b + c + n ≤ 64 → sml y (blk &&& m) (b + c + n) = smp y m b c := by
    intro n
    induction n with
    | zero => intro _; exact h2 c (Nat.le_refl _)
    | succ n ih =>
      intro hn
      show sml y (blk &&& m) (b + c + n) + (if pb (blk &&& m) (b + c + n) then (y (b + c + n)).toNat else 0) = _
      rw [ih (by omega), pb_and, hk _ (by omega)]
      have : ¬ (b ≤ b + c + n ∧ b + c + n < b + c) := by omega
      simp [this]
  have := h3 (64 - (b + c)) (by omega)
  rw [show b + c + (64 - (b + c)) = 64 by omega] at this
  exact this
theorem blk_l {i s : Nat} {c : Int64} {k : Nat} (hc : ∀ k : Fin 64, pb c k.1 = decide (k.1 < s)) (hi : i * s < 64) (hk : k < 64) : pb (c <<< ((nI (i * s)).toInt64 &&& 63)) k = decide (i * s ≤ k ∧ k < i * s + s) := by
  rw [sh_am ⟨i * s, hi⟩, pb_shl hi]
  by_cases h : k < i * s
  · have : ¬ (i * s ≤ k ∧ k < i * s + s) := by omega
    simp [h, this]
  · rw [hc ⟨k - i * s, by omega⟩]
    by_cases h2 : k - i * s < s
    · have : i * s ≤ k ∧ k < i * s + s := by omega
      simp [h, h2, this, hk]
    · have : ¬ (i * s ≤ k ∧ k < i * s + s) := by omega
      simp [h2, this]
theorem pblk_b {l i : Nat} (hl : l < 7) (hi : i < 64 / 2 ^ l) {k : Nat} (hk : k < 64) : pb (pblk l i) k = decide (i * 2 ^ l ≤ k ∧ k < i * 2 ^ l + 2 ^ l) := by
  have pm : ∀ a b : Nat, nI a * nI b = nI (a * b) := fun a b => pk_mul a b
  match l, hl with
  | 0, _ =>
    have hi' : i < 64 := by simpa using hi
    show pb ((((1 : Int64) <<< ((1 : Int32).toInt64 &&& 63)) - 1) <<< ((nI i * nI 1).toInt64 &&& 63)) k = _
    rw [pm]
    exact blk_l (by decide) (by omega) hk
  | 1, _ =>
    have hi' : i < 32 := by simpa using hi
    show pb ((((1 : Int64) <<< ((2 : Int32).toInt64 &&& 63)) - 1) <<< ((nI i * nI 2).toInt64 &&& 63)) k = _
    rw [pm]
    exact blk_l (by decide) (by omega) hk
  | 2, _ =>
    have hi' : i < 16 := by simpa using hi
    show pb ((((1 : Int64) <<< ((4 : Int32).toInt64 &&& 63)) - 1) <<< ((nI i * nI 4).toInt64 &&& 63)) k = _
    rw [pm]
    exact blk_l (by decide) (by omega) hk
  | 3, _ =>
    have hi' : i < 8 := by simpa using hi
    show pb ((((1 : Int64) <<< ((8 : Int32).toInt64 &&& 63)) - 1) <<< ((nI i * nI 8).toInt64 &&& 63)) k = _
    rw [pm]
    exact blk_l (by decide) (by omega) hk
  | 4, _ =>
    have hi' : i < 4 := by simpa using hi
    show pb ((((1 : Int64) <<< ((16 : Int32).toInt64 &&& 63)) - 1) <<< ((nI i * nI 16).toInt64 &&& 63)) k = _
    rw [pm]
    exact blk_l (by decide) (by omega) hk
  | 5, _ =>
    have hi' : i < 2 := by simpa using hi
    show pb ((((1 : Int64) <<< ((32 : Int32).toInt64 &&& 63)) - 1) <<< ((nI i * nI 32).toInt64 &&& 63)) k = _
    rw [pm]
    exact blk_l (by decide) (by omega) hk
  | 6, _ =>
    have hi' : i < 1 := by simpa using hi
    have : i = 0 := by omega
    subst this
    show pb (-1) k = _
    rw [pb_m hk]
    have : 0 * 2 ^ 6 ≤ k ∧ k < 0 * 2 ^ 6 + 2 ^ 6 := by omega
    simp [hk]
theorem s_part {F : Nat → Int64} {x : Nat → Int32} {y : Nat → BitVec 8} {m : Int64} {v l i : Nat} (hc : Cut F y) (h : ∀ l, l < 64 → x (64 * v + l) = i8 (y l)) (hl : l < 7) (hi : i < 64 / 2 ^ l) : psum F (pblk l i &&& m) 8 = mpt x v m (i * 2 ^ l) (2 ^ l) := by
  have hb := part_b hl hi
  rw [Nat.succ_mul] at hb
  rw [psum_n hc, mpt_n h _ hb, sml_blk hb (fun k hk => pblk_b hl hi hk)]
/-! rank -/
theorem s_rank {F q : Nat → Int64} {x : Nat → Int32} {y : Nat → BitVec 8} {m : Int64} {v a : Nat} (ha : a < 64) (hc : Cut F y) (h : ∀ l, l < 64 → x (64 * v + l) = i8 (y l)) : jbc (pbor F (lfill (pall (plan F (nI a) 8)) q 8) 8 &&& m) = mrk x v a m 64 := by
  rw [jbc_cn, cut_plan hc ha]
  have hq : Cut (lfill (pall (i8 (y a))) q 8) (fun _ => y a) := cut_lfill.mpr cut_all
  have key : ∀ n, n ≤ 64 → nI (pcn (pbor F (lfill (pall (i8 (y a))) q 8) 8 &&& m) n) = mrk x v a m n := by
    intro n
    induction n with
    | zero => intro _; rfl
    | succ n ih =>
      intro hn
      show nI (pcn (pbor F (lfill (pall (i8 (y a))) q 8) 8 &&& m) n + (if pb (pbor F (lfill (pall (i8 (y a))) q 8) 8 &&& m) n then 1 else 0)) = mrk x v a m n + (if pbit m n = 1 then (if x (64 * v + n) < x (64 * v + a) then 1 else 0) else 0)
      rw [← ih (by omega), pb_and, cut_bor hc hq (by omega), pbit_pb (by omega), h n (by omega), h a ha]
      simp only [i8_lt]
      cases pb m n
      · simp [a0]
      · by_cases c : y n < y a
        · simp only [c, decide_true, Bool.true_and, if_true]
          rw [nI_succ]
        · simp only [c, decide_false, Bool.false_and, if_true, if_false, Bool.false_eq_true, Nat.add_zero]
          rw [a0]
  exact key 64 (Nat.le_refl _)
/-! alike -/
theorem plk_b {F : Nat → Int64} {y : Nat → BitVec 8} (hc : Cut F y) {a l : Nat} (ha : a < 64) (hl : l < 64) : pb (plk F a) l = decide (y l = y a) := by
  unfold plk plik
  rw [pb_not hl, cut_plan hc ha, cut_dif hc (cut_lfill.mpr cut_all) hl]
  simp
theorem palk_b {P : Nat → Nat → Int64} {Y : Nat → Nat → BitVec 8} (hc : Cuts P Y) {a l : Nat} (ha : a < 64) (hl : l < 64) : ∀ n, n ≤ 8 → (pb (palk P a n) l = true ↔ ∀ v, v < n → Y v l = Y v a) := by
  intro n
  induction n with
  | zero =>
    intro _
    rw [show palk P a 0 = -1 from rfl, pb_m hl]
    simp
  | succ n ih =>
    intro hn
    show pb (palk P a n &&& plk (P n) a) l = true ↔ _
    rw [pb_and, Bool.and_eq_true, ih (by omega), plk_b (hc n (by omega)) ha hl, decide_eq_true_eq]
    constructor
    · rintro ⟨h1, h2⟩ v hv
      by_cases e : v = n
      · rw [e]; exact h2
      · exact h1 v (by omega)
    · intro h1
      exact ⟨fun v hv => h1 v (by omega), h1 n (by omega)⟩
theorem mal_b {x : Nat → Int32} {Y : Nat → Nat → BitVec 8} (h : Row x Y) {a l : Nat} (ha : a < 64) (hl : l < 64) : ∀ n, n ≤ 8 → (¬ mal x a l n = 0 ↔ ∀ v, v < n → Y v l = Y v a) := by
  intro n
  induction n with
  | zero =>
    intro _
    simp [mal]
  | succ n ih =>
    intro hn
    have ih := ih (by omega)
    show ¬ (if mal x a l n = 0 then (0 : Int32) else if x (64 * n + l) = x (64 * n + a) then 1 else 0) = 0 ↔ _
    rw [h n (by omega) l hl, h n (by omega) a ha]
    simp only [i8_eq]
    by_cases c : mal x a l n = 0
    · rw [if_pos c]
      constructor
      · intro z; exact absurd rfl z
      · intro z
        exact absurd c (ih.mpr (fun v hv => z v (by omega)))
    · rw [if_neg c]
      have c' := ih.mp c
      by_cases e : Y n l = Y n a
      · rw [if_pos e]
        constructor
        · intro _ v hv
          by_cases e2 : v = n
          · rw [e2]; exact e
          · exact c' v (by omega)
        · intro _; decide
      · rw [if_neg e]
        constructor
        · intro z; exact absurd rfl z
        · intro z; exact absurd (z n (by omega)) e
theorem mas_b {x : Nat → Int32} {a : Nat} : ∀ n, n ≤ 64 → ∀ l, l < 64 → (pb (mas x a n) l = true ↔ l < n ∧ ¬ mal x a l 8 = 0) := by
  intro n
  induction n with
  | zero =>
    intro _ l hl
    rw [show mas x a 0 = 0 from rfl, pb_0]
    simp
  | succ n ih =>
    intro hn l hl
    show pb (mas x a n ||| (if mal x a n 8 = 0 then 0 else (1 : Int64) <<< ((nI n).toInt64 &&& 63))) l = true ↔ _
    rw [pb_or, Bool.or_eq_true, ih (by omega) l hl]
    by_cases c : mal x a n 8 = 0
    · rw [if_pos c, pb_0]
      constructor
      · rintro (⟨h1, h2⟩ | h1)
        · exact ⟨by omega, h2⟩
        · cases h1
      · rintro ⟨h1, h2⟩
        by_cases e : l = n
        · rw [e] at h2
          exact absurd c h2
        · exact Or.inl ⟨by omega, h2⟩
    · rw [if_neg c, pb_one (by omega) hl]
      constructor
      · rintro (⟨h1, h2⟩ | h1)
        · exact ⟨by omega, h2⟩
        · have e := of_decide_eq_true h1
          rw [e]
          exact ⟨by omega, c⟩
      · rintro ⟨h1, h2⟩
        by_cases e : l = n
        · exact Or.inr (decide_eq_true e)
        · exact Or.inl ⟨by omega, h2⟩
theorem s_alike {P : Nat → Nat → Int64} {x : Nat → Int32} {Y : Nat → Nat → BitVec 8} (hc : Cuts P Y) (h : Row x Y) {a : Nat} (ha : a < 64) : palk P a 8 = mas x a 64 := by
  apply pb_ext
  intro l hl
  apply b_ext
  rw [palk_b hc ha hl 8 (Nat.le_refl _), mas_b 64 (Nat.le_refl _) l hl, mal_b h ha hl 8 (Nat.le_refl _)]
  exact ⟨fun z => ⟨hl, z⟩, fun z => z.2⟩
/-! regions and ways -/
theorem bes_opp {l wy k : Nat} {e : Int32} (hl : l < 64) (hy : wy < 4) (hk : k < 64) (h : bes l wy e = nI k) : ∃ y', y' < 4 ∧ bes k y' e = nI l := by
  have ne : ∀ j, j < 64 → ¬ (-1 : Int32) = nI j := fun j hj z => absurd (show nI j < 0 by rw [← z]; decide) (nI_pos (by omega))
  have inj : ∀ i j, i < 200 → j < 200 → nI i = nI j → i = j := fun i j hi hj z => (nI_eq (by omega) (by omega)).mp z
  match wy, hy with
  | 0, _ =>
    refine ⟨2, by decide, ?_⟩
    unfold bes at h ⊢
    simp only at h ⊢
    by_cases c : 8 ≤ l
    · rw [if_pos c] at h
      have := inj _ _ (by omega) (by omega) h
      rw [if_pos (by omega)]
      congr 1
      omega
    · rw [if_neg c] at h
      by_cases ce : e = 0
      · rw [if_pos ce] at h
        exact absurd h (ne k hk)
      · rw [if_neg ce] at h
        have := inj _ _ (by omega) (by omega) h
        rw [if_neg (by omega), if_neg ce]
        congr 1
        omega
  | 1, _ =>
    refine ⟨3, by decide, ?_⟩
    unfold bes at h ⊢
    simp only at h ⊢
    by_cases c : l % 8 < 7
    · rw [if_pos c] at h
      have := inj _ _ (by omega) (by omega) h
      rw [if_pos (by omega)]
      congr 1
      omega
    · rw [if_neg c] at h
      by_cases ce : e = 0
      · rw [if_pos ce] at h
        exact absurd h (ne k hk)
      · rw [if_neg ce] at h
        have := inj _ _ (by omega) (by omega) h
        rw [if_neg (by omega), if_neg ce]
        congr 1
        omega
  | 2, _ =>
    refine ⟨0, by decide, ?_⟩
    unfold bes at h ⊢
    simp only at h ⊢
    by_cases c : l < 56
    · rw [if_pos c] at h
      have := inj _ _ (by omega) (by omega) h
      rw [if_pos (by omega)]
      congr 1
      omega
    · rw [if_neg c] at h
      by_cases ce : e = 0
      · rw [if_pos ce] at h
        exact absurd h (ne k hk)
      · rw [if_neg ce] at h
        have := inj _ _ (by omega) (by omega) h
        rw [if_neg (by omega), if_neg ce]
        congr 1
        omega
  | 3, _ =>
    refine ⟨1, by decide, ?_⟩
    unfold bes at h ⊢
    simp only at h ⊢
    by_cases c : 0 < l % 8
    · rw [if_pos c] at h
      have := inj _ _ (by omega) (by omega) h
      rw [if_pos (by omega)]
      congr 1
      omega
    · rw [if_neg c] at h
      by_cases ce : e = 0
      · rw [if_pos ce] at h
        exact absurd h (ne k hk)
      · rw [if_neg ce] at h
        have := inj _ _ (by omega) (by omega) h
        rw [if_neg (by omega), if_neg ce]
        congr 1
        omega
theorem pspr_b {x : Int64} {e : Int32} (he : e = 0 ∨ e = 1) {l : Nat} (hl : l < 64) : ∀ n, n ≤ 4 → (pb (pspr x e n) l = true ↔ pb x l = true ∨ ∃ w, w < n ∧ pbi x (bes l w e) = true) := by
  intro n
  induction n with
  | zero =>
    intro _
    rw [show pspr x e 0 = x from rfl]
    simp
  | succ n ih =>
    intro hn
    show pb (pspr x e n ||| pshf x (nI n) e) l = true ↔ _
    rw [pb_or, Bool.or_eq_true, ih (by omega), pshf_bes hl (by omega) he]
    constructor
    · rintro ((h1 | ⟨w, h1, h2⟩) | h1)
      · exact Or.inl h1
      · exact Or.inr ⟨w, by omega, h2⟩
      · exact Or.inr ⟨n, by omega, h1⟩
    · rintro (h1 | ⟨w, h1, h2⟩)
      · exact Or.inl (Or.inl h1)
      · by_cases c : w = n
        · rw [c] at h2
          exact Or.inr h2
        · exact Or.inl (Or.inr ⟨w, by omega, h2⟩)
/-- a step to l from a lane of the set -/
theorem pspr_s {x : Int64} {e : Int32} (he : e = 0 ∨ e = 1) {l : Nat} (hl : l < 64) : pb (pspr x e 4) l = true ↔ pb x l = true ∨ ∃ k w, k < 64 ∧ w < 4 ∧ pb x k = true ∧ bes k w e = nI l := by
  rw [pspr_b he hl 4 (Nat.le_refl _)]
  constructor
  · rintro (h1 | ⟨w, h1, h2⟩)
    · exact Or.inl h1
    · rcases bes_in (wy := w) (e := e) hl with hb | ⟨j, hj, hb⟩
      · rw [hb, pbi_n] at h2
        cases h2
      · rw [hb, pbi_i hj] at h2
        obtain ⟨w', h3, h4⟩ := bes_opp hl h1 hj hb
        exact Or.inr ⟨j, w', hj, h3, h2, h4⟩
  · rintro (h1 | ⟨k, w, hk, hw, hp, hb⟩)
    · exact Or.inl h1
    · obtain ⟨w', h3, h4⟩ := bes_opp hk hw hl hb
      refine Or.inr ⟨w', h3, ?_⟩
      rw [h4, pbi_i hk]
      exact hp

/-! The reference's cells: its object at 140 with the numbers w, its rows from 141 on. -/
def mo (w : Nat → Int32) : List Value := [.ref 141, .ref 142, .ref 143, .ref 144, .ref 145, .ref 146, .ref 147, .int (w 7), .int (w 8), .int (w 9), .int (w 10), .int (w 11), .int (w 12), .int (w 13), .ref 148, .ref 149, .ref 150, .int (w 17), .int (w 18), .int (w 19), .int (w 20), .ref 151, .int (w 22), .ref 152, .ref 153, .ref 154, .ref 155, .int (w 27), .int (w 28), .int (w 29), .int (w 30), .int (w 31), .int (w 32), .int (w 33), .int (w 34), .ref 156, .int (w 36)]
theorem mo_len {w : Nat → Int32} : (mo w).length = 37 := rfl
theorem mg_0 {w : Nat → Int32} : fget (mo w) 0 = .ref 141 := rfl
theorem mg_1 {w : Nat → Int32} : fget (mo w) 1 = .ref 142 := rfl
theorem mg_2 {w : Nat → Int32} : fget (mo w) 2 = .ref 143 := rfl
theorem mg_3 {w : Nat → Int32} : fget (mo w) 3 = .ref 144 := rfl
theorem mg_4 {w : Nat → Int32} : fget (mo w) 4 = .ref 145 := rfl
theorem mg_5 {w : Nat → Int32} : fget (mo w) 5 = .ref 146 := rfl
theorem mg_6 {w : Nat → Int32} : fget (mo w) 6 = .ref 147 := rfl
theorem mg_7 {w : Nat → Int32} : fget (mo w) 7 = .int (w 7) := rfl
theorem mg_8 {w : Nat → Int32} : fget (mo w) 8 = .int (w 8) := rfl
theorem mg_9 {w : Nat → Int32} : fget (mo w) 9 = .int (w 9) := rfl
theorem mg_10 {w : Nat → Int32} : fget (mo w) 10 = .int (w 10) := rfl
theorem mg_11 {w : Nat → Int32} : fget (mo w) 11 = .int (w 11) := rfl
theorem mg_12 {w : Nat → Int32} : fget (mo w) 12 = .int (w 12) := rfl
theorem mg_13 {w : Nat → Int32} : fget (mo w) 13 = .int (w 13) := rfl
theorem mg_14 {w : Nat → Int32} : fget (mo w) 14 = .ref 148 := rfl
theorem mg_15 {w : Nat → Int32} : fget (mo w) 15 = .ref 149 := rfl
theorem mg_16 {w : Nat → Int32} : fget (mo w) 16 = .ref 150 := rfl
theorem mg_17 {w : Nat → Int32} : fget (mo w) 17 = .int (w 17) := rfl
theorem mg_18 {w : Nat → Int32} : fget (mo w) 18 = .int (w 18) := rfl
theorem mg_19 {w : Nat → Int32} : fget (mo w) 19 = .int (w 19) := rfl
theorem mg_20 {w : Nat → Int32} : fget (mo w) 20 = .int (w 20) := rfl
theorem mg_21 {w : Nat → Int32} : fget (mo w) 21 = .ref 151 := rfl
theorem mg_22 {w : Nat → Int32} : fget (mo w) 22 = .int (w 22) := rfl
theorem mg_23 {w : Nat → Int32} : fget (mo w) 23 = .ref 152 := rfl
theorem mg_24 {w : Nat → Int32} : fget (mo w) 24 = .ref 153 := rfl
theorem mg_25 {w : Nat → Int32} : fget (mo w) 25 = .ref 154 := rfl
theorem mg_26 {w : Nat → Int32} : fget (mo w) 26 = .ref 155 := rfl
theorem mg_27 {w : Nat → Int32} : fget (mo w) 27 = .int (w 27) := rfl
theorem mg_28 {w : Nat → Int32} : fget (mo w) 28 = .int (w 28) := rfl
theorem mg_29 {w : Nat → Int32} : fget (mo w) 29 = .int (w 29) := rfl
theorem mg_30 {w : Nat → Int32} : fget (mo w) 30 = .int (w 30) := rfl
theorem mg_31 {w : Nat → Int32} : fget (mo w) 31 = .int (w 31) := rfl
theorem mg_32 {w : Nat → Int32} : fget (mo w) 32 = .int (w 32) := rfl
theorem mg_33 {w : Nat → Int32} : fget (mo w) 33 = .int (w 33) := rfl
theorem mg_34 {w : Nat → Int32} : fget (mo w) 34 = .int (w 34) := rfl
theorem mg_35 {w : Nat → Int32} : fget (mo w) 35 = .ref 156 := rfl
theorem mg_36 {w : Nat → Int32} : fget (mo w) 36 = .int (w 36) := rfl
theorem mf_7 {w : Nat → Int32} {v : Int32} : fset (mo w) 7 (.int v) = mo (upd w 7 v) := rfl
theorem mf_8 {w : Nat → Int32} {v : Int32} : fset (mo w) 8 (.int v) = mo (upd w 8 v) := rfl
theorem mf_9 {w : Nat → Int32} {v : Int32} : fset (mo w) 9 (.int v) = mo (upd w 9 v) := rfl
theorem mf_10 {w : Nat → Int32} {v : Int32} : fset (mo w) 10 (.int v) = mo (upd w 10 v) := rfl
theorem mf_11 {w : Nat → Int32} {v : Int32} : fset (mo w) 11 (.int v) = mo (upd w 11 v) := rfl
theorem mf_12 {w : Nat → Int32} {v : Int32} : fset (mo w) 12 (.int v) = mo (upd w 12 v) := rfl
theorem mf_13 {w : Nat → Int32} {v : Int32} : fset (mo w) 13 (.int v) = mo (upd w 13 v) := rfl
theorem mf_17 {w : Nat → Int32} {v : Int32} : fset (mo w) 17 (.int v) = mo (upd w 17 v) := rfl
theorem mf_18 {w : Nat → Int32} {v : Int32} : fset (mo w) 18 (.int v) = mo (upd w 18 v) := rfl
theorem mf_19 {w : Nat → Int32} {v : Int32} : fset (mo w) 19 (.int v) = mo (upd w 19 v) := rfl
theorem mf_20 {w : Nat → Int32} {v : Int32} : fset (mo w) 20 (.int v) = mo (upd w 20 v) := rfl
theorem mf_22 {w : Nat → Int32} {v : Int32} : fset (mo w) 22 (.int v) = mo (upd w 22 v) := rfl
theorem mf_27 {w : Nat → Int32} {v : Int32} : fset (mo w) 27 (.int v) = mo (upd w 27 v) := rfl
theorem mf_28 {w : Nat → Int32} {v : Int32} : fset (mo w) 28 (.int v) = mo (upd w 28 v) := rfl
theorem mf_29 {w : Nat → Int32} {v : Int32} : fset (mo w) 29 (.int v) = mo (upd w 29 v) := rfl
theorem mf_30 {w : Nat → Int32} {v : Int32} : fset (mo w) 30 (.int v) = mo (upd w 30 v) := rfl
theorem mf_31 {w : Nat → Int32} {v : Int32} : fset (mo w) 31 (.int v) = mo (upd w 31 v) := rfl
theorem mf_32 {w : Nat → Int32} {v : Int32} : fset (mo w) 32 (.int v) = mo (upd w 32 v) := rfl
theorem mf_33 {w : Nat → Int32} {v : Int32} : fset (mo w) 33 (.int v) = mo (upd w 33 v) := rfl
theorem mf_34 {w : Nat → Int32} {v : Int32} : fset (mo w) 34 (.int v) = mo (upd w 34 v) := rfl
theorem mf_36 {w : Nat → Int32} {v : Int32} : fset (mo w) 36 (.int v) = mo (upd w 36 v) := rfl
def Mdl (M : mM) (w : Nat → Int32) (rf : Nat → Int32) (x : Nat → Int32) (bf : Nat → Int32) (sx : Nat → Int32) (kx : Nat → Int32) (mk : Nat → Int64) (km : Nat → Int64) (nd : Nat → Int32) (knd : Nat → Int32) (fr : Nat → Int32) (tp : Nat → Int32) (sh : Nat → Int64) (so : Nat → Int32) (ln : Nat → Int32) (cm : Nat → Int32) (va : Nat → Int32) : Prop := M.1 140 = some (cO 12 (mo w)) ∧ M.1 141 = some (cI 5 rf) ∧ M.1 142 = some (cI 512 x) ∧ M.1 143 = some (cI 512 bf) ∧ M.1 144 = some (cI 512 sx) ∧ M.1 145 = some (cI 512 kx) ∧ M.1 146 = some (cJ 8 mk) ∧ M.1 147 = some (cJ 8 km) ∧ M.1 148 = some (cI 900 nd) ∧ M.1 149 = some (cI 900 knd) ∧ M.1 150 = some (cI 900 fr) ∧ M.1 151 = some (cI 160 tp) ∧ M.1 152 = some (cJ 256 sh) ∧ M.1 153 = some (cI 4 so) ∧ M.1 154 = some (cI 4 ln) ∧ M.1 155 = some (cI 64 cm) ∧ M.1 156 = some (cI 5120 va)
section MD
variable {M : mM} {w : Nat → Int32} {rf : Nat → Int32} {x : Nat → Int32} {bf : Nat → Int32} {sx : Nat → Int32} {kx : Nat → Int32} {mk : Nat → Int64} {km : Nat → Int64} {nd : Nat → Int32} {knd : Nat → Int32} {fr : Nat → Int32} {tp : Nat → Int32} {sh : Nat → Int64} {so : Nat → Int32} {ln : Nat → Int32} {cm : Nat → Int32} {va : Nat → Int32}
theorem md_rf (hm : Mdl M w rf x bf sx kx mk km nd knd fr tp sh so ln cm va) : M.1 141 = some (cI 5 rf) := hm.2.1
theorem md_x (hm : Mdl M w rf x bf sx kx mk km nd knd fr tp sh so ln cm va) : M.1 142 = some (cI 512 x) := hm.2.2.1
theorem md_bf (hm : Mdl M w rf x bf sx kx mk km nd knd fr tp sh so ln cm va) : M.1 143 = some (cI 512 bf) := hm.2.2.2.1
theorem md_sx (hm : Mdl M w rf x bf sx kx mk km nd knd fr tp sh so ln cm va) : M.1 144 = some (cI 512 sx) := hm.2.2.2.2.1
theorem md_kx (hm : Mdl M w rf x bf sx kx mk km nd knd fr tp sh so ln cm va) : M.1 145 = some (cI 512 kx) := hm.2.2.2.2.2.1
theorem md_mk (hm : Mdl M w rf x bf sx kx mk km nd knd fr tp sh so ln cm va) : M.1 146 = some (cJ 8 mk) := hm.2.2.2.2.2.2.1
theorem md_km (hm : Mdl M w rf x bf sx kx mk km nd knd fr tp sh so ln cm va) : M.1 147 = some (cJ 8 km) := hm.2.2.2.2.2.2.2.1
theorem md_nd (hm : Mdl M w rf x bf sx kx mk km nd knd fr tp sh so ln cm va) : M.1 148 = some (cI 900 nd) := hm.2.2.2.2.2.2.2.2.1
theorem md_knd (hm : Mdl M w rf x bf sx kx mk km nd knd fr tp sh so ln cm va) : M.1 149 = some (cI 900 knd) := hm.2.2.2.2.2.2.2.2.2.1
theorem md_fr (hm : Mdl M w rf x bf sx kx mk km nd knd fr tp sh so ln cm va) : M.1 150 = some (cI 900 fr) := hm.2.2.2.2.2.2.2.2.2.2.1
theorem md_tp (hm : Mdl M w rf x bf sx kx mk km nd knd fr tp sh so ln cm va) : M.1 151 = some (cI 160 tp) := hm.2.2.2.2.2.2.2.2.2.2.2.1
theorem md_sh (hm : Mdl M w rf x bf sx kx mk km nd knd fr tp sh so ln cm va) : M.1 152 = some (cJ 256 sh) := hm.2.2.2.2.2.2.2.2.2.2.2.2.1
theorem md_so (hm : Mdl M w rf x bf sx kx mk km nd knd fr tp sh so ln cm va) : M.1 153 = some (cI 4 so) := hm.2.2.2.2.2.2.2.2.2.2.2.2.2.1
theorem md_ln (hm : Mdl M w rf x bf sx kx mk km nd knd fr tp sh so ln cm va) : M.1 154 = some (cI 4 ln) := hm.2.2.2.2.2.2.2.2.2.2.2.2.2.2.1
theorem md_cm (hm : Mdl M w rf x bf sx kx mk km nd knd fr tp sh so ln cm va) : M.1 155 = some (cI 64 cm) := hm.2.2.2.2.2.2.2.2.2.2.2.2.2.2.2.1
theorem md_va (hm : Mdl M w rf x bf sx kx mk km nd knd fr tp sh so ln cm va) : M.1 156 = some (cI 5120 va) := hm.2.2.2.2.2.2.2.2.2.2.2.2.2.2.2.2
theorem md_o (hm : Mdl M w rf x bf sx kx mk km nd knd fr tp sh so ln cm va) : M.1 140 = some (cO 12 (mo w)) := hm.1
theorem md_i (hm : Mdl M w rf x bf sx kx mk km nd knd fr tp sh so ln cm va) : 3 ≤ 140 ∧ isO 12 (M.1 140) = true := ⟨by decide, by rw [hm.1]; rfl⟩
theorem md_kept {M' : mM} (hm : Mdl M w rf x bf sx kx mk km nd knd fr tp sh so ln cm va) (hk : ∀ j, 140 ≤ j → j < 157 → M'.1 j = M.1 j) : Mdl (M') w rf x bf sx kx mk km nd knd fr tp sh so ln cm va := by
  unfold Mdl at hm ⊢
  simp only [hk _ (show 140 ≤ 140 by decide) (by decide), hk 141 (by decide) (by decide), hk 142 (by decide) (by decide), hk 143 (by decide) (by decide), hk 144 (by decide) (by decide), hk 145 (by decide) (by decide), hk 146 (by decide) (by decide), hk 147 (by decide) (by decide), hk 148 (by decide) (by decide), hk 149 (by decide) (by decide), hk 150 (by decide) (by decide), hk 151 (by decide) (by decide), hk 152 (by decide) (by decide), hk 153 (by decide) (by decide), hk 154 (by decide) (by decide), hk 155 (by decide) (by decide), hk 156 (by decide) (by decide)]
  exact hm
theorem mu_w (hm : Mdl M w rf x bf sx kx mk km nd knd fr tp sh so ln cm va) {w' : Nat → Int32} : Mdl (mu M 140 (cO 12 (mo w'))) (w') rf x bf sx kx mk km nd knd fr tp sh so ln cm va := by
  unfold Mdl at hm ⊢
  simp only [mu_1, if_true, if_false, Nat.reduceEqDiff, ite_true, ite_false]
  simp only [hm.1, md_rf hm, md_x hm, md_bf hm, md_sx hm, md_kx hm, md_mk hm, md_km hm, md_nd hm, md_knd hm, md_fr hm, md_tp hm, md_sh hm, md_so hm, md_ln hm, md_cm hm, md_va hm, and_self]
theorem mu_rf (hm : Mdl M w rf x bf sx kx mk km nd knd fr tp sh so ln cm va) {rf' : Nat → Int32} : Mdl (mu M 141 (cI 5 rf')) w (rf') x bf sx kx mk km nd knd fr tp sh so ln cm va := by
  unfold Mdl at hm ⊢
  simp only [mu_1, if_true, if_false, Nat.reduceEqDiff, ite_true, ite_false]
  simp only [hm.1, md_rf hm, md_x hm, md_bf hm, md_sx hm, md_kx hm, md_mk hm, md_km hm, md_nd hm, md_knd hm, md_fr hm, md_tp hm, md_sh hm, md_so hm, md_ln hm, md_cm hm, md_va hm, and_self]
theorem mu_x (hm : Mdl M w rf x bf sx kx mk km nd knd fr tp sh so ln cm va) {x' : Nat → Int32} : Mdl (mu M 142 (cI 512 x')) w rf (x') bf sx kx mk km nd knd fr tp sh so ln cm va := by
  unfold Mdl at hm ⊢
  simp only [mu_1, if_true, if_false, Nat.reduceEqDiff, ite_true, ite_false]
  simp only [hm.1, md_rf hm, md_x hm, md_bf hm, md_sx hm, md_kx hm, md_mk hm, md_km hm, md_nd hm, md_knd hm, md_fr hm, md_tp hm, md_sh hm, md_so hm, md_ln hm, md_cm hm, md_va hm, and_self]
theorem mu_bf (hm : Mdl M w rf x bf sx kx mk km nd knd fr tp sh so ln cm va) {bf' : Nat → Int32} : Mdl (mu M 143 (cI 512 bf')) w rf x (bf') sx kx mk km nd knd fr tp sh so ln cm va := by
  unfold Mdl at hm ⊢
  simp only [mu_1, if_true, if_false, Nat.reduceEqDiff, ite_true, ite_false]
  simp only [hm.1, md_rf hm, md_x hm, md_bf hm, md_sx hm, md_kx hm, md_mk hm, md_km hm, md_nd hm, md_knd hm, md_fr hm, md_tp hm, md_sh hm, md_so hm, md_ln hm, md_cm hm, md_va hm, and_self]
theorem mu_sx (hm : Mdl M w rf x bf sx kx mk km nd knd fr tp sh so ln cm va) {sx' : Nat → Int32} : Mdl (mu M 144 (cI 512 sx')) w rf x bf (sx') kx mk km nd knd fr tp sh so ln cm va := by
  unfold Mdl at hm ⊢
  simp only [mu_1, if_true, if_false, Nat.reduceEqDiff, ite_true, ite_false]
  simp only [hm.1, md_rf hm, md_x hm, md_bf hm, md_sx hm, md_kx hm, md_mk hm, md_km hm, md_nd hm, md_knd hm, md_fr hm, md_tp hm, md_sh hm, md_so hm, md_ln hm, md_cm hm, md_va hm, and_self]
theorem mu_kx (hm : Mdl M w rf x bf sx kx mk km nd knd fr tp sh so ln cm va) {kx' : Nat → Int32} : Mdl (mu M 145 (cI 512 kx')) w rf x bf sx (kx') mk km nd knd fr tp sh so ln cm va := by
  unfold Mdl at hm ⊢
  simp only [mu_1, if_true, if_false, Nat.reduceEqDiff, ite_true, ite_false]
  simp only [hm.1, md_rf hm, md_x hm, md_bf hm, md_sx hm, md_kx hm, md_mk hm, md_km hm, md_nd hm, md_knd hm, md_fr hm, md_tp hm, md_sh hm, md_so hm, md_ln hm, md_cm hm, md_va hm, and_self]
theorem mu_mk (hm : Mdl M w rf x bf sx kx mk km nd knd fr tp sh so ln cm va) {mk' : Nat → Int64} : Mdl (mu M 146 (cJ 8 mk')) w rf x bf sx kx (mk') km nd knd fr tp sh so ln cm va := by
  unfold Mdl at hm ⊢
  simp only [mu_1, if_true, if_false, Nat.reduceEqDiff, ite_true, ite_false]
  simp only [hm.1, md_rf hm, md_x hm, md_bf hm, md_sx hm, md_kx hm, md_mk hm, md_km hm, md_nd hm, md_knd hm, md_fr hm, md_tp hm, md_sh hm, md_so hm, md_ln hm, md_cm hm, md_va hm, and_self]
theorem mu_km (hm : Mdl M w rf x bf sx kx mk km nd knd fr tp sh so ln cm va) {km' : Nat → Int64} : Mdl (mu M 147 (cJ 8 km')) w rf x bf sx kx mk (km') nd knd fr tp sh so ln cm va := by
  unfold Mdl at hm ⊢
  simp only [mu_1, if_true, if_false, Nat.reduceEqDiff, ite_true, ite_false]
  simp only [hm.1, md_rf hm, md_x hm, md_bf hm, md_sx hm, md_kx hm, md_mk hm, md_km hm, md_nd hm, md_knd hm, md_fr hm, md_tp hm, md_sh hm, md_so hm, md_ln hm, md_cm hm, md_va hm, and_self]
theorem mu_nd (hm : Mdl M w rf x bf sx kx mk km nd knd fr tp sh so ln cm va) {nd' : Nat → Int32} : Mdl (mu M 148 (cI 900 nd')) w rf x bf sx kx mk km (nd') knd fr tp sh so ln cm va := by
  unfold Mdl at hm ⊢
  simp only [mu_1, if_true, if_false, Nat.reduceEqDiff, ite_true, ite_false]
  simp only [hm.1, md_rf hm, md_x hm, md_bf hm, md_sx hm, md_kx hm, md_mk hm, md_km hm, md_nd hm, md_knd hm, md_fr hm, md_tp hm, md_sh hm, md_so hm, md_ln hm, md_cm hm, md_va hm, and_self]
theorem mu_knd (hm : Mdl M w rf x bf sx kx mk km nd knd fr tp sh so ln cm va) {knd' : Nat → Int32} : Mdl (mu M 149 (cI 900 knd')) w rf x bf sx kx mk km nd (knd') fr tp sh so ln cm va := by
  unfold Mdl at hm ⊢
  simp only [mu_1, if_true, if_false, Nat.reduceEqDiff, ite_true, ite_false]
  simp only [hm.1, md_rf hm, md_x hm, md_bf hm, md_sx hm, md_kx hm, md_mk hm, md_km hm, md_nd hm, md_knd hm, md_fr hm, md_tp hm, md_sh hm, md_so hm, md_ln hm, md_cm hm, md_va hm, and_self]
theorem mu_fr (hm : Mdl M w rf x bf sx kx mk km nd knd fr tp sh so ln cm va) {fr' : Nat → Int32} : Mdl (mu M 150 (cI 900 fr')) w rf x bf sx kx mk km nd knd (fr') tp sh so ln cm va := by
  unfold Mdl at hm ⊢
  simp only [mu_1, if_true, if_false, Nat.reduceEqDiff, ite_true, ite_false]
  simp only [hm.1, md_rf hm, md_x hm, md_bf hm, md_sx hm, md_kx hm, md_mk hm, md_km hm, md_nd hm, md_knd hm, md_fr hm, md_tp hm, md_sh hm, md_so hm, md_ln hm, md_cm hm, md_va hm, and_self]
theorem mu_tp (hm : Mdl M w rf x bf sx kx mk km nd knd fr tp sh so ln cm va) {tp' : Nat → Int32} : Mdl (mu M 151 (cI 160 tp')) w rf x bf sx kx mk km nd knd fr (tp') sh so ln cm va := by
  unfold Mdl at hm ⊢
  simp only [mu_1, if_true, if_false, Nat.reduceEqDiff, ite_true, ite_false]
  simp only [hm.1, md_rf hm, md_x hm, md_bf hm, md_sx hm, md_kx hm, md_mk hm, md_km hm, md_nd hm, md_knd hm, md_fr hm, md_tp hm, md_sh hm, md_so hm, md_ln hm, md_cm hm, md_va hm, and_self]
theorem mu_sh (hm : Mdl M w rf x bf sx kx mk km nd knd fr tp sh so ln cm va) {sh' : Nat → Int64} : Mdl (mu M 152 (cJ 256 sh')) w rf x bf sx kx mk km nd knd fr tp (sh') so ln cm va := by
  unfold Mdl at hm ⊢
  simp only [mu_1, if_true, if_false, Nat.reduceEqDiff, ite_true, ite_false]
  simp only [hm.1, md_rf hm, md_x hm, md_bf hm, md_sx hm, md_kx hm, md_mk hm, md_km hm, md_nd hm, md_knd hm, md_fr hm, md_tp hm, md_sh hm, md_so hm, md_ln hm, md_cm hm, md_va hm, and_self]
theorem mu_so (hm : Mdl M w rf x bf sx kx mk km nd knd fr tp sh so ln cm va) {so' : Nat → Int32} : Mdl (mu M 153 (cI 4 so')) w rf x bf sx kx mk km nd knd fr tp sh (so') ln cm va := by
  unfold Mdl at hm ⊢
  simp only [mu_1, if_true, if_false, Nat.reduceEqDiff, ite_true, ite_false]
  simp only [hm.1, md_rf hm, md_x hm, md_bf hm, md_sx hm, md_kx hm, md_mk hm, md_km hm, md_nd hm, md_knd hm, md_fr hm, md_tp hm, md_sh hm, md_so hm, md_ln hm, md_cm hm, md_va hm, and_self]
theorem mu_ln (hm : Mdl M w rf x bf sx kx mk km nd knd fr tp sh so ln cm va) {ln' : Nat → Int32} : Mdl (mu M 154 (cI 4 ln')) w rf x bf sx kx mk km nd knd fr tp sh so (ln') cm va := by
  unfold Mdl at hm ⊢
  simp only [mu_1, if_true, if_false, Nat.reduceEqDiff, ite_true, ite_false]
  simp only [hm.1, md_rf hm, md_x hm, md_bf hm, md_sx hm, md_kx hm, md_mk hm, md_km hm, md_nd hm, md_knd hm, md_fr hm, md_tp hm, md_sh hm, md_so hm, md_ln hm, md_cm hm, md_va hm, and_self]
theorem mu_cm (hm : Mdl M w rf x bf sx kx mk km nd knd fr tp sh so ln cm va) {cm' : Nat → Int32} : Mdl (mu M 155 (cI 64 cm')) w rf x bf sx kx mk km nd knd fr tp sh so ln (cm') va := by
  unfold Mdl at hm ⊢
  simp only [mu_1, if_true, if_false, Nat.reduceEqDiff, ite_true, ite_false]
  simp only [hm.1, md_rf hm, md_x hm, md_bf hm, md_sx hm, md_kx hm, md_mk hm, md_km hm, md_nd hm, md_knd hm, md_fr hm, md_tp hm, md_sh hm, md_so hm, md_ln hm, md_cm hm, md_va hm, and_self]
theorem mu_va (hm : Mdl M w rf x bf sx kx mk km nd knd fr tp sh so ln cm va) {va' : Nat → Int32} : Mdl (mu M 156 (cI 5120 va')) w rf x bf sx kx mk km nd knd fr tp sh so ln cm (va') := by
  unfold Mdl at hm ⊢
  simp only [mu_1, if_true, if_false, Nat.reduceEqDiff, ite_true, ite_false]
  simp only [hm.1, md_rf hm, md_x hm, md_bf hm, md_sx hm, md_kx hm, md_mk hm, md_km hm, md_nd hm, md_knd hm, md_fr hm, md_tp hm, md_sh hm, md_so hm, md_ln hm, md_cm hm, md_va hm, and_self]
end MD

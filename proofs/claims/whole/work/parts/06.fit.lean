theorem mkX0 : ∀ w ∈ u_ws RX0 TX0 8, w ∈ mtb := by
  intro w hw
  obtain ⟨j, hj, rfl⟩ := List.mem_map.mp hw
  have hj := List.mem_range.mp hj
  match j, hj with
  | 0, _ => exact mw_523
  | 1, _ => exact mw_525
  | 2, _ => exact mw_527
  | 3, _ => exact mw_529
  | 4, _ => exact mw_531
  | 5, _ => exact mw_533
  | 6, _ => exact mw_535
  | 7, _ => exact mw_537
  | j + 8, h => exact absurd h (by omega)
theorem mkX1 : ∀ w ∈ u_ws RX1 TX1 2, w ∈ mtb := by
  intro w hw
  obtain ⟨j, hj, rfl⟩ := List.mem_map.mp hw
  have hj := List.mem_range.mp hj
  match j, hj with
  | 0, _ => exact mw_620
  | 1, _ => exact mw_622
  | j + 2, h => exact absurd h (by omega)
theorem mkX2 : ∀ w ∈ u_ws RX2 TX2 2, w ∈ mtb := by
  intro w hw
  obtain ⟨j, hj, rfl⟩ := List.mem_map.mp hw
  have hj := List.mem_range.mp hj
  match j, hj with
  | 0, _ => exact mw_66
  | 1, _ => exact mw_68
  | j + 2, h => exact absurd h (by omega)
theorem mkX3 : ∀ w ∈ u_ws RX3 TX3 2, w ∈ mtb := by
  intro w hw
  obtain ⟨j, hj, rfl⟩ := List.mem_map.mp hw
  have hj := List.mem_range.mp hj
  match j, hj with
  | 0, _ => exact mw_643
  | 1, _ => exact mw_645
  | j + 2, h => exact absurd h (by omega)
theorem mkX4 : ∀ w ∈ u_ws RX4 TX4 7, w ∈ mtb := by
  intro w hw
  obtain ⟨j, hj, rfl⟩ := List.mem_map.mp hw
  have hj := List.mem_range.mp hj
  match j, hj with
  | 0, _ => exact mw_129
  | 1, _ => exact mw_131
  | 2, _ => exact mw_133
  | 3, _ => exact mw_135
  | 4, _ => exact mw_137
  | 5, _ => exact mw_139
  | 6, _ => exact mw_141
  | j + 7, h => exact absurd h (by omega)
theorem mkX5 : ∀ w ∈ u_ws RX5 TX5 3, w ∈ mtb := by
  intro w hw
  obtain ⟨j, hj, rfl⟩ := List.mem_map.mp hw
  have hj := List.mem_range.mp hj
  match j, hj with
  | 0, _ => exact mw_185
  | 1, _ => exact mw_187
  | 2, _ => exact mw_189
  | j + 3, h => exact absurd h (by omega)
theorem mkX6 : ∀ w ∈ u_ws RX6 TX6 1, w ∈ mtb := by
  intro w hw
  obtain ⟨j, hj, rfl⟩ := List.mem_map.mp hw
  have hj := List.mem_range.mp hj
  match j, hj with
  | 0, _ => exact mw_49
  | j + 1, h => exact absurd h (by omega)
theorem mkX7 : ∀ w ∈ u_ws RX7 TX7 2, w ∈ mtb := by
  intro w hw
  obtain ⟨j, hj, rfl⟩ := List.mem_map.mp hw
  have hj := List.mem_range.mp hj
  match j, hj with
  | 0, _ => exact mw_114
  | 1, _ => exact mw_116
  | j + 2, h => exact absurd h (by omega)
theorem mkX8 : ∀ w ∈ u_ws RX8 TX8 1, w ∈ mtb := by
  intro w hw
  obtain ⟨j, hj, rfl⟩ := List.mem_map.mp hw
  have hj := List.mem_range.mp hj
  match j, hj with
  | 0, _ => exact mw_54
  | j + 1, h => exact absurd h (by omega)
theorem mkX9 : ∀ w ∈ u_ws RX9 TX9 5, w ∈ mtb := by
  intro w hw
  obtain ⟨j, hj, rfl⟩ := List.mem_map.mp hw
  have hj := List.mem_range.mp hj
  match j, hj with
  | 0, _ => exact mw_160
  | 1, _ => exact mw_162
  | 2, _ => exact mw_164
  | 3, _ => exact mw_166
  | 4, _ => exact mw_168
  | j + 5, h => exact absurd h (by omega)
theorem mkX10 : ∀ w ∈ u_ws RX10 TX10 5, w ∈ mtb := by
  intro w hw
  obtain ⟨j, hj, rfl⟩ := List.mem_map.mp hw
  have hj := List.mem_range.mp hj
  match j, hj with
  | 0, _ => exact mw_84
  | 1, _ => exact mw_86
  | 2, _ => exact mw_88
  | 3, _ => exact mw_90
  | 4, _ => exact mw_92
  | j + 5, h => exact absurd h (by omega)
theorem mkX11 : ∀ w ∈ u_ws RX11 TX11 9, w ∈ mtb := by
  intro w hw
  obtain ⟨j, hj, rfl⟩ := List.mem_map.mp hw
  have hj := List.mem_range.mp hj
  match j, hj with
  | 0, _ => exact mw_201
  | 1, _ => exact mw_203
  | 2, _ => exact mw_205
  | 3, _ => exact mw_207
  | 4, _ => exact mw_209
  | 5, _ => exact mw_211
  | 6, _ => exact mw_213
  | 7, _ => exact mw_215
  | 8, _ => exact mw_217
  | j + 9, h => exact absurd h (by omega)
theorem mkX12 : ∀ w ∈ u_ws RX12 TX12 37, w ∈ mtb := by
  intro w hw
  obtain ⟨j, hj, rfl⟩ := List.mem_map.mp hw
  have hj := List.mem_range.mp hj
  match j, hj with
  | 0, _ => exact mw_860
  | 1, _ => exact mw_862
  | 2, _ => exact mw_864
  | 3, _ => exact mw_866
  | 4, _ => exact mw_868
  | 5, _ => exact mw_870
  | 6, _ => exact mw_872
  | 7, _ => exact mw_874
  | 8, _ => exact mw_876
  | 9, _ => exact mw_878
  | 10, _ => exact mw_880
  | 11, _ => exact mw_882
  | 12, _ => exact mw_884
  | 13, _ => exact mw_886
  | 14, _ => exact mw_888
  | 15, _ => exact mw_890
  | 16, _ => exact mw_892
  | 17, _ => exact mw_894
  | 18, _ => exact mw_896
  | 19, _ => exact mw_898
  | 20, _ => exact mw_900
  | 21, _ => exact mw_902
  | 22, _ => exact mw_904
  | 23, _ => exact mw_906
  | 24, _ => exact mw_908
  | 25, _ => exact mw_910
  | 26, _ => exact mw_912
  | 27, _ => exact mw_914
  | 28, _ => exact mw_916
  | 29, _ => exact mw_918
  | 30, _ => exact mw_920
  | 31, _ => exact mw_922
  | 32, _ => exact mw_924
  | 33, _ => exact mw_926
  | 34, _ => exact mw_928
  | 35, _ => exact mw_930
  | 36, _ => exact mw_932
  | j + 37, h => exact absurd h (by omega)
theorem mcl_in : ∀ (ci : Nat) (r : vw_C), vwCl[ci]? = some r → ∀ w ∈ u_ws r.1 r.2.1 r.2.2, w ∈ mtb
  | 0, _, h => by cases h; exact mkX0
  | 1, _, h => by cases h; exact mkX1
  | 2, _, h => by cases h; exact mkX2
  | 3, _, h => by cases h; exact mkX3
  | 4, _, h => by cases h; exact mkX4
  | 5, _, h => by cases h; exact mkX5
  | 6, _, h => by cases h; exact mkX6
  | 7, _, h => by cases h; exact mkX7
  | 8, _, h => by cases h; exact mkX8
  | 9, _, h => by cases h; exact mkX9
  | 10, _, h => by cases h; exact mkX10
  | 11, _, h => by cases h; exact mkX11
  | 12, _, h => by cases h; exact mkX12
  | n + 13, _, h => by simp [vwCl] at h
theorem mcl_nm : ∀ (ci : Nat) (r : vw_C), vwCl[ci]? = some r → ∀ a, a < r.2.2 → ∀ b, b < r.2.2 → a ≠ b → (r.2.1 a).2.1 ≠ (r.2.1 b).2.1
  | 0, _, h => by cases h; exact nmX0
  | 1, _, h => by cases h; exact nmX1
  | 2, _, h => by cases h; exact nmX2
  | 3, _, h => by cases h; exact nmX3
  | 4, _, h => by cases h; exact nmX4
  | 5, _, h => by cases h; exact nmX5
  | 6, _, h => by cases h; exact nmX6
  | 7, _, h => by cases h; exact nmX7
  | 8, _, h => by cases h; exact nmX8
  | 9, _, h => by cases h; exact nmX9
  | 10, _, h => by cases h; exact nmX10
  | 11, _, h => by cases h; exact nmX11
  | 12, _, h => by cases h; exact nmX12
  | n + 13, _, h => by simp [vwCl] at h
def mcty (ci : Nat) : Nat → FieldType := match ci with
  | 0 => tyX0
  | 1 => tyX1
  | 2 => tyX2
  | 3 => tyX3
  | 4 => tyX4
  | 5 => tyX5
  | 6 => tyX6
  | 7 => tyX7
  | 8 => tyX8
  | 9 => tyX9
  | 10 => tyX10
  | 11 => tyX11
  | 12 => tyX12
  | _ => fun _ => .int
theorem mcl_ty : ∀ (ci : Nat) (r : vw_C), vwCl[ci]? = some r → ∀ k, k < r.2.2 → parseFieldDescriptor (r.2.1 k).2.2.1 = some (mcty ci k)
  | 0, _, h => by cases h; exact tyX0_ok
  | 1, _, h => by cases h; exact tyX1_ok
  | 2, _, h => by cases h; exact tyX2_ok
  | 3, _, h => by cases h; exact tyX3_ok
  | 4, _, h => by cases h; exact tyX4_ok
  | 5, _, h => by cases h; exact tyX5_ok
  | 6, _, h => by cases h; exact tyX6_ok
  | 7, _, h => by cases h; exact tyX7_ok
  | 8, _, h => by cases h; exact tyX8_ok
  | 9, _, h => by cases h; exact tyX9_ok
  | 10, _, h => by cases h; exact tyX10_ok
  | 11, _, h => by cases h; exact tyX11_ok
  | 12, _, h => by cases h; exact tyX12_ok
  | n + 13, _, h => by simp [vwCl] at h
theorem mcl_new : ∀ (ci : Nat) (r : vw_C), vwCl[ci]? = some r → ∀ j, j < r.2.2 → defaultValue (mcty ci j) = vp_V (mnew ci) j
  | 0, _, h => by cases h; exact by decide +kernel
  | 1, _, h => by cases h; exact by decide +kernel
  | 2, _, h => by cases h; exact by decide +kernel
  | 3, _, h => by cases h; exact by decide +kernel
  | 4, _, h => by cases h; exact by decide +kernel
  | 5, _, h => by cases h; exact by decide +kernel
  | 6, _, h => by cases h; exact by decide +kernel
  | 7, _, h => by cases h; exact by decide +kernel
  | 8, _, h => by cases h; exact by decide +kernel
  | 9, _, h => by cases h; exact by decide +kernel
  | 10, _, h => by cases h; exact by decide +kernel
  | 11, _, h => by cases h; exact by decide +kernel
  | 12, _, h => by cases h; exact by decide +kernel
  | n + 13, _, h => by simp [vwCl] at h
theorem mcl_len : ∀ (ci : Nat) (r : vw_C), vwCl[ci]? = some r → (mnew ci).length = r.2.2
  | 0, _, h => by cases h; exact rfl
  | 1, _, h => by cases h; exact rfl
  | 2, _, h => by cases h; exact rfl
  | 3, _, h => by cases h; exact rfl
  | 4, _, h => by cases h; exact rfl
  | 5, _, h => by cases h; exact rfl
  | 6, _, h => by cases h; exact rfl
  | 7, _, h => by cases h; exact rfl
  | 8, _, h => by cases h; exact rfl
  | 9, _, h => by cases h; exact rfl
  | 10, _, h => by cases h; exact rfl
  | 11, _, h => by cases h; exact rfl
  | 12, _, h => by cases h; exact rfl
  | n + 13, _, h => by simp [vwCl] at h
theorem mcl_ins : ∀ (ci : Nat) (r : vw_C), vwCl[ci]? = some r → Cond.instantiable r.1 r.2.2 ∈ mtb ∧ Cond.initialized r.1 ∈ mtb
  | 0, _, h => by cases h; exact ⟨mw_502, mw_15⟩
  | 1, _, h => by cases h; exact ⟨mw_597, mw_16⟩
  | 2, _, h => by cases h; exact ⟨mw_58, mw_5⟩
  | 3, _, h => by cases h; exact ⟨mw_634, mw_19⟩
  | 4, _, h => by cases h; exact ⟨mw_98, mw_6⟩
  | 5, _, h => by cases h; exact ⟨mw_175, mw_9⟩
  | 6, _, h => by cases h; exact ⟨mw_42, mw_4⟩
  | 7, _, h => by cases h; exact ⟨mw_104, mw_7⟩
  | 8, _, h => by cases h; exact ⟨mw_35, mw_3⟩
  | 9, _, h => by cases h; exact ⟨mw_145, mw_8⟩
  | 10, _, h => by cases h; exact ⟨mw_29, mw_2⟩
  | 11, _, h => by cases h; exact ⟨mw_21, mw_1⟩
  | 12, _, h => by cases h; exact ⟨mw_818, mw_10⟩
  | n + 13, _, h => by simp [vwCl] at h
def mtc : FieldType → Nat
  | .int => 0
  | .boolean => 2
  | .object _ => 1
  | .array _ => 1
  | _ => 9
theorem mtr_fit {ad : Nat → Nat} {ty : FieldType} {t : Nat} {v : Value} (ht : mtc ty = t) (hf : mfit t v = true) : narrow ty (mtr ad v) = mtr ad v ∧ fits ty (mtr ad v) = true := by
  subst ht
  cases ty <;> cases v <;> simp [mtc, mfit, mtr, narrow, fits] at hf ⊢
  rcases hf with h | h <;> subst h <;> decide
/-- a field's link -/
def mFd (q : mT) (idx ci k : Nat) : Prop := ∃ r : vw_C, vwCl[ci]? = some r ∧ k < r.2.2 ∧ (Cond.fieldLink q.1.1.cls idx (r.2.1 k).1 (r.2.1 k).2.1 (r.2.1 k).2.2.1 ∈ mtb ∨ Cond.fieldLinkNest q.1.1.cls idx (r.2.1 k).1 (r.2.1 k).2.1 (r.2.1 k).2.2.1 "LaneSlices" ∈ lw_tbl)
/-- a field's link for a store: no final field, or a final one in its own class's constructor -/
def mFp (q : mT) (idx ci k t : Nat) : Prop := mtc (mcty ci k) = t ∧ ∃ r : vw_C, vwCl[ci]? = some r ∧ k < r.2.2 ∧
  (((r.2.1 k).2.2.2 = false ∧ (Cond.fieldLink q.1.1.cls idx (r.2.1 k).1 (r.2.1 k).2.1 (r.2.1 k).2.2.1 ∈ mtb ∨ Cond.fieldLinkNest q.1.1.cls idx (r.2.1 k).1 (r.2.1 k).2.1 (r.2.1 k).2.2.1 "LaneSlices" ∈ lw_tbl)) ∨
    ((r.2.1 k).2.2.2 = true ∧ q.1.1.name = "<init>" ∧ (r.2.1 k).1 = q.1.1.cls ∧ Cond.fieldLink q.1.1.cls idx (r.2.1 k).1 (r.2.1 k).2.1 (r.2.1 k).2.2.1 ∈ mtb))
/-- a method that may be called -/
def mCe (q : mT) : Prop := Cond.code q.1.1 q.1.2.1 q.1.2.2.1 q.1.2.2.2 ∈ mtb ∧ Cond.initialized q.1.1.cls ∈ mtb ∧ plainName q.1.1.cls = true ∧ q.1.1.cls ≠ "java/lang/invoke/MethodHandle" ∧ q.1.1.cls ≠ "java/lang/invoke/VarHandle" ∧ q.1.2.2.1 ≤ 44
def mCk (tb : mB) (q : mT) (idx μ n : Nat) : Prop := ∃ q' : mT, tb[μ]? = some q' ∧ mCe q' ∧ (parseMethodDescriptor q'.1.1.desc).map (fun d => d.parameters.length) = some n ∧ (Cond.methodLink q.1.1.cls idx q'.1.1 ∈ mtb ∨ Cond.methodLinkNest q.1.1.cls idx q'.1.1 "LaneSlices" ∈ lw_tbl)
def mCs (tb : mB) (μ : Nat) : Prop := ∃ q' : mT, tb[μ]? = some q' ∧ Cond.static q'.1.1 ∈ mtb
def mCv (tb : mB) (μ ci : Nat) : Prop := ∃ (q' : mT) (r : vw_C), tb[μ]? = some q' ∧ vwCl[ci]? = some r ∧ Cond.instanceMethod q'.1.1 ∈ mtb ∧ Cond.selects r.1 q'.1.1 q'.1.1 ∈ mtb
def mCi (tb : mB) (μ : Nat) : Prop := ∃ q' : mT, tb[μ]? = some q' ∧ Cond.instanceMethod q'.1.1 ∈ mtb ∧ q'.1.1.name = "<init>" ∧ q'.1.2.2.2 = none
def mLk (tb : mB) (q : mT) (pc : Nat) (i' : Instr) (n : Nat) (i : Instr) (g : List Nat) : Prop := match i' with
  | .iconst v => n = 1 ∧ i = .iconst v
  | .bipush v => n = 2 ∧ i = .iconst v ∧ (Int8.ofInt v).toInt32 = Int32.ofInt v
  | .sipush v => n = 3 ∧ i = .iconst v ∧ (Int16.ofInt v).toInt32 = Int32.ofInt v
  | .ldc_w idx => n = 3 ∧ ∃ v, i = .iconst v ∧ Cond.constant q.1.1.cls idx (Int32.ofInt v) ∈ mtb
  | .lconst v => n = 1 ∧ ∃ w : Int, i = .jsr_w w ∧ Int64.ofNat (v : Nat) = Int64.ofInt w
  | .ldc2_w idx => n = 3 ∧ ∃ v, i = .jsr_w v ∧ Cond.constantLong q.1.1.cls idx (Int64.ofInt v) ∈ mtb
  | .aconst_null => n = 1 ∧ i = .aconst_null
  | .iload_n k => n = 1 ∧ i = .iload (k : Nat)
  | .iload k => n = 2 ∧ i = .iload k
  | .lload_n k => n = 1 ∧ i = .lload (k : Nat)
  | .lload k => n = 2 ∧ i = .lload k
  | .aload_n k => n = 1 ∧ i = .aload (k : Nat)
  | .aload k => n = 2 ∧ i = .aload k
  | .istore_n k => n = 1 ∧ i = .istore (k : Nat)
  | .istore k => n = 2 ∧ i = .istore k
  | .lstore_n k => n = 1 ∧ i = .lstore (k : Nat)
  | .lstore k => n = 2 ∧ i = .lstore k
  | .astore_n k => n = 1 ∧ i = .astore (k : Nat)
  | .astore k => n = 2 ∧ i = .astore k
  | .iinc k v => n = 3 ∧ i = .iinc k v
  | .iadd => n = 1 ∧ i = .iadd
  | .isub => n = 1 ∧ i = .isub
  | .imul => n = 1 ∧ i = .imul
  | .iand => n = 1 ∧ i = .iand
  | .ior => n = 1 ∧ i = .ior
  | .ixor => n = 1 ∧ i = .ixor
  | .ishl => n = 1 ∧ i = .ishl
  | .ishr => n = 1 ∧ i = .ishr
  | .iushr => n = 1 ∧ i = .iushr
  | .idiv => n = 1 ∧ i = .idiv
  | .irem => n = 1 ∧ i = .irem
  | .ineg => n = 1 ∧ i = .ineg
  | .ladd => n = 1 ∧ i = .ladd
  | .lsub => n = 1 ∧ i = .lsub
  | .land => n = 1 ∧ i = .land
  | .lor => n = 1 ∧ i = .lor
  | .lxor => n = 1 ∧ i = .lxor
  | .lshl => n = 1 ∧ i = .lshl
  | .lshr => n = 1 ∧ i = .lshr
  | .lushr => n = 1 ∧ i = .lushr
  | .lcmp => n = 1 ∧ i = .lcmp
  | .i2l => n = 1 ∧ i = .i2l
  | .l2i => n = 1 ∧ i = .l2i
  | .i2b => n = 1 ∧ i = .i2b
  | .i2s => n = 1 ∧ i = .i2s
  | .dup => n = 1 ∧ i = .dup
  | .dup2 => n = 1 ∧ i = .dup2
  | .pop => n = 1 ∧ i = .pop
  | .iaload => n = 1 ∧ i = .iaload
  | .laload => n = 1 ∧ i = .laload
  | .aaload => n = 1 ∧ i = .aaload
  | .iastore => n = 1 ∧ i = .iastore
  | .lastore => n = 1 ∧ i = .lastore
  | .aastore => n = 1 ∧ i = .aastore
  | .arraylength => n = 1 ∧ i = .arraylength
  | .lreturn => n = 1 ∧ i = .lreturn ∧ q.1.2.2.2 = some .long
  | .areturn => n = 1 ∧ i = .areturn ∧ ∃ C, q.1.2.2.2 = some C ∧ mtc C = 1
  | .return_ => n = 1 ∧ i = .return_ ∧ q.1.2.2.2 = none
  | .ireturn => n = 1 ∧ i = .ireturn ∧ ((g = [] ∧ q.1.2.2.2 = some .int) ∨ (g = [1] ∧ q.1.2.2.2 = some .boolean))
  | .getfield idx => n = 3 ∧ ∃ ci k, i = .getfield 0 ∧ g = [ci, k] ∧ mFd q idx ci k
  | .putfield idx => n = 3 ∧ ∃ ci k t, i = .putfield 0 ∧ g = [ci, k, t] ∧ mFp q idx ci k t
  | .getstatic idx => n = 3 ∧ i = .getstatic 0 ∧ ((g = [1] ∧ (Cond.fieldLink q.1.1.cls idx "LaneSlices" "STEPS_OF" "[I" ∈ mtb ∨ Cond.fieldLinkNest q.1.1.cls idx "LaneSlices" "STEPS_OF" "[I" "LaneSlices" ∈ lw_tbl)) ∨ (g = [2] ∧ (Cond.fieldLink q.1.1.cls idx "LaneSlices" "LANE_PLANES" "[J" ∈ mtb ∨ Cond.fieldLinkNest q.1.1.cls idx "LaneSlices" "LANE_PLANES" "[J" "LaneSlices" ∈ lw_tbl)))
  | .new idx => n = 3 ∧ i = .new 0 ∧ ∃ (ci : Nat) (r : vw_C), g = [ci] ∧ vwCl[ci]? = some r ∧ Cond.classLink q.1.1.cls idx r.1 ∈ mtb
  | .newarray t => n = 2 ∧ i = .newarray t
  | .anewarray idx => n = 3 ∧ i = .anewarray 0 ∧ ((g = [2] ∧ Cond.classLink q.1.1.cls idx RX6 ∈ mtb) ∨ (g = [3] ∧ Cond.classLink q.1.1.cls idx RX5 ∈ mtb))
  | .goto off => n = 3 ∧ i = .goto 0 ∧ ∃ t : Nat, g = [t] ∧ (pc : Int) + off = (t : Int)
  | .if_icmp cd off => n = 3 ∧ i = .if_icmp cd 0 ∧ ∃ t : Nat, g = [t] ∧ (pc : Int) + off = (t : Int)
  | .ifCond cd off => n = 3 ∧ i = .ifCond cd 0 ∧ ∃ t : Nat, g = [t] ∧ (pc : Int) + off = (t : Int)
  | .ifnull off => n = 3 ∧ i = .ifnull 0 ∧ ∃ t : Nat, g = [t] ∧ (pc : Int) + off = (t : Int)
  | .ifnonnull off => n = 3 ∧ i = .ifnonnull 0 ∧ ∃ t : Nat, g = [t] ∧ (pc : Int) + off = (t : Int)
  | .tableswitch d lo hi offs => i = .tableswitch 0 lo hi #[] ∧ ∃ (t : Nat) (ts : List Nat), g = t :: ts ∧ (pc : Int) + d = (t : Int) ∧ offs.toList.map (fun o => (pc : Int) + o) = ts.map (fun t : Nat => (t : Int))
  | .lookupswitch d ps => i = .lookupswitch d ps ∧ g = [pc] ∧ (ps.toList.zip (ps.toList.drop 1)).all (fun (a, next) => a.1 < next.1) = true
  | .invokestatic idx => n = 3 ∧ i = .invokestatic 0 ∧ ((∃ μ k, g = [μ, k] ∧ mCk tb q idx μ k ∧ mCs tb μ) ∨ (g = [] ∧ Cond.methodLink q.1.1.cls idx arraycopyName ∈ mtb) ∨ (g = [1] ∧ Cond.methodLink q.1.1.cls idx Lib.Math.max.name ∈ mtb) ∨ (g = [2] ∧ Cond.methodLink q.1.1.cls idx Lib.Math.min.name ∈ mtb))
  | .invokevirtual idx => n = 3 ∧ i = .invokevirtual 0 ∧ ∃ μ k ci, g = [μ, k, ci] ∧ mCk tb q idx μ k ∧ mCv tb μ ci
  | .invokespecial idx => n = 3 ∧ i = .invokespecial 0 ∧ ((∃ μ k, g = [μ, k] ∧ mCk tb q idx μ k ∧ mCi tb μ) ∨ (g = [] ∧ Cond.methodLink q.1.1.cls idx Lib.objectInit ∈ mtb))
  | _ => False
def mFit (tb : mB) (q : mT) : Nat → List mI → Prop
  | _, [] => True
  | pc, (i, g) :: is => ∃ (i' : Instr) (n : Nat), decode q.1.2.1 pc = .ok (i', n) ∧ mLk tb q pc i' n i g ∧ mFit tb q (pc + n) is
def mOK (tb : mB) : Prop := ∀ q ∈ tb, ∀ b ∈ q.2, mFit tb q b.1 b.2
theorem mFit_mat {tb : mB} (h : mOK tb) {μ t : Nat} {q : mT} (hq : tb[μ]? = some q) : mFit tb q t (mat tb μ t) := by
  have key : ∀ (l : List (Nat × List mI)), (∀ b ∈ l, mFit tb q b.1 b.2) → mFit tb q t ((l.lookup t).getD []) := by
    intro l
    induction l with
    | nil => intro _; exact trivial
    | cons b l ih =>
      intro hb
      obtain ⟨k, is⟩ := b
      rw [List.lookup_cons]
      by_cases e : t = k
      · subst e
        simp
        exact hb (t, is) List.mem_cons_self
      · rw [show (t == k) = false by simp [e]]
        exact ih (fun b h => hb b (List.mem_cons_of_mem _ h))
  unfold mat
  rw [hq]
  exact key q.2 (h q (List.mem_of_getElem? hq))

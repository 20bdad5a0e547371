section RU
variable {d μ : Nat} {is : List mI} {L : mL} {st : List Value} {M : mM} {Q : Option Value → mM → Prop} {g : List Nat}
theorem ev_iconst {n : Int} : Ev d μ ((.iconst n, g) :: is) L st M Q ↔ Ev d μ is L (.int (Int32.ofInt n) :: st) M Q := ev_nx rfl
theorem ev_lconst {n : Int} : Ev d μ ((.jsr_w n, g) :: is) L st M Q ↔ Ev d μ is L (.long (Int64.ofInt n) :: st) M Q := ev_nx rfl
theorem ev_null : Ev d μ ((.aconst_null, g) :: is) L st M Q ↔ Ev d μ is L (.null :: st) M Q := ev_nx rfl
theorem ev_il0 {r : mL} {x : Int32} : Ev d μ ((.iload 0, g) :: is) (some (.int x) :: r) st M Q ↔ Ev d μ is (some (.int x) :: r) (.int x :: st) M Q := ev_nx rfl
theorem ev_ll0 {r : mL} {x : Int64} : Ev d μ ((.lload 0, g) :: is) (some (.long x) :: r) st M Q ↔ Ev d μ is (some (.long x) :: r) (.long x :: st) M Q := ev_nx rfl
theorem ev_al0 {r : mL} {x : Nat} : Ev d μ ((.aload 0, g) :: is) (some (.ref x) :: r) st M Q ↔ Ev d μ is (some (.ref x) :: r) (.ref x :: st) M Q := ev_nx rfl
theorem ev_an0 {r : mL} : Ev d μ ((.aload 0, g) :: is) (some .null :: r) st M Q ↔ Ev d μ is (some .null :: r) (.null :: st) M Q := ev_nx rfl
theorem ev_il1 {l0 : Option Value} {r : mL} {x : Int32} : Ev d μ ((.iload 1, g) :: is) (l0 :: some (.int x) :: r) st M Q ↔ Ev d μ is (l0 :: some (.int x) :: r) (.int x :: st) M Q := ev_nx rfl
theorem ev_ll1 {l0 : Option Value} {r : mL} {x : Int64} : Ev d μ ((.lload 1, g) :: is) (l0 :: some (.long x) :: r) st M Q ↔ Ev d μ is (l0 :: some (.long x) :: r) (.long x :: st) M Q := ev_nx rfl
theorem ev_al1 {l0 : Option Value} {r : mL} {x : Nat} : Ev d μ ((.aload 1, g) :: is) (l0 :: some (.ref x) :: r) st M Q ↔ Ev d μ is (l0 :: some (.ref x) :: r) (.ref x :: st) M Q := ev_nx rfl
theorem ev_an1 {l0 : Option Value} {r : mL} : Ev d μ ((.aload 1, g) :: is) (l0 :: some .null :: r) st M Q ↔ Ev d μ is (l0 :: some .null :: r) (.null :: st) M Q := ev_nx rfl
theorem ev_il2 {l0 l1 : Option Value} {r : mL} {x : Int32} : Ev d μ ((.iload 2, g) :: is) (l0 :: l1 :: some (.int x) :: r) st M Q ↔ Ev d μ is (l0 :: l1 :: some (.int x) :: r) (.int x :: st) M Q := ev_nx rfl
theorem ev_ll2 {l0 l1 : Option Value} {r : mL} {x : Int64} : Ev d μ ((.lload 2, g) :: is) (l0 :: l1 :: some (.long x) :: r) st M Q ↔ Ev d μ is (l0 :: l1 :: some (.long x) :: r) (.long x :: st) M Q := ev_nx rfl
theorem ev_al2 {l0 l1 : Option Value} {r : mL} {x : Nat} : Ev d μ ((.aload 2, g) :: is) (l0 :: l1 :: some (.ref x) :: r) st M Q ↔ Ev d μ is (l0 :: l1 :: some (.ref x) :: r) (.ref x :: st) M Q := ev_nx rfl
theorem ev_an2 {l0 l1 : Option Value} {r : mL} : Ev d μ ((.aload 2, g) :: is) (l0 :: l1 :: some .null :: r) st M Q ↔ Ev d μ is (l0 :: l1 :: some .null :: r) (.null :: st) M Q := ev_nx rfl
theorem ev_il3 {l0 l1 l2 : Option Value} {r : mL} {x : Int32} : Ev d μ ((.iload 3, g) :: is) (l0 :: l1 :: l2 :: some (.int x) :: r) st M Q ↔ Ev d μ is (l0 :: l1 :: l2 :: some (.int x) :: r) (.int x :: st) M Q := ev_nx rfl
theorem ev_ll3 {l0 l1 l2 : Option Value} {r : mL} {x : Int64} : Ev d μ ((.lload 3, g) :: is) (l0 :: l1 :: l2 :: some (.long x) :: r) st M Q ↔ Ev d μ is (l0 :: l1 :: l2 :: some (.long x) :: r) (.long x :: st) M Q := ev_nx rfl
theorem ev_al3 {l0 l1 l2 : Option Value} {r : mL} {x : Nat} : Ev d μ ((.aload 3, g) :: is) (l0 :: l1 :: l2 :: some (.ref x) :: r) st M Q ↔ Ev d μ is (l0 :: l1 :: l2 :: some (.ref x) :: r) (.ref x :: st) M Q := ev_nx rfl
theorem ev_an3 {l0 l1 l2 : Option Value} {r : mL} : Ev d μ ((.aload 3, g) :: is) (l0 :: l1 :: l2 :: some .null :: r) st M Q ↔ Ev d μ is (l0 :: l1 :: l2 :: some .null :: r) (.null :: st) M Q := ev_nx rfl
theorem ev_il4 {l0 l1 l2 l3 : Option Value} {r : mL} {x : Int32} : Ev d μ ((.iload 4, g) :: is) (l0 :: l1 :: l2 :: l3 :: some (.int x) :: r) st M Q ↔ Ev d μ is (l0 :: l1 :: l2 :: l3 :: some (.int x) :: r) (.int x :: st) M Q := ev_nx rfl
theorem ev_ll4 {l0 l1 l2 l3 : Option Value} {r : mL} {x : Int64} : Ev d μ ((.lload 4, g) :: is) (l0 :: l1 :: l2 :: l3 :: some (.long x) :: r) st M Q ↔ Ev d μ is (l0 :: l1 :: l2 :: l3 :: some (.long x) :: r) (.long x :: st) M Q := ev_nx rfl
theorem ev_al4 {l0 l1 l2 l3 : Option Value} {r : mL} {x : Nat} : Ev d μ ((.aload 4, g) :: is) (l0 :: l1 :: l2 :: l3 :: some (.ref x) :: r) st M Q ↔ Ev d μ is (l0 :: l1 :: l2 :: l3 :: some (.ref x) :: r) (.ref x :: st) M Q := ev_nx rfl
theorem ev_an4 {l0 l1 l2 l3 : Option Value} {r : mL} : Ev d μ ((.aload 4, g) :: is) (l0 :: l1 :: l2 :: l3 :: some .null :: r) st M Q ↔ Ev d μ is (l0 :: l1 :: l2 :: l3 :: some .null :: r) (.null :: st) M Q := ev_nx rfl
theorem ev_il5 {l0 l1 l2 l3 l4 : Option Value} {r : mL} {x : Int32} : Ev d μ ((.iload 5, g) :: is) (l0 :: l1 :: l2 :: l3 :: l4 :: some (.int x) :: r) st M Q ↔ Ev d μ is (l0 :: l1 :: l2 :: l3 :: l4 :: some (.int x) :: r) (.int x :: st) M Q := ev_nx rfl
theorem ev_ll5 {l0 l1 l2 l3 l4 : Option Value} {r : mL} {x : Int64} : Ev d μ ((.lload 5, g) :: is) (l0 :: l1 :: l2 :: l3 :: l4 :: some (.long x) :: r) st M Q ↔ Ev d μ is (l0 :: l1 :: l2 :: l3 :: l4 :: some (.long x) :: r) (.long x :: st) M Q := ev_nx rfl
theorem ev_al5 {l0 l1 l2 l3 l4 : Option Value} {r : mL} {x : Nat} : Ev d μ ((.aload 5, g) :: is) (l0 :: l1 :: l2 :: l3 :: l4 :: some (.ref x) :: r) st M Q ↔ Ev d μ is (l0 :: l1 :: l2 :: l3 :: l4 :: some (.ref x) :: r) (.ref x :: st) M Q := ev_nx rfl
theorem ev_an5 {l0 l1 l2 l3 l4 : Option Value} {r : mL} : Ev d μ ((.aload 5, g) :: is) (l0 :: l1 :: l2 :: l3 :: l4 :: some .null :: r) st M Q ↔ Ev d μ is (l0 :: l1 :: l2 :: l3 :: l4 :: some .null :: r) (.null :: st) M Q := ev_nx rfl
theorem ev_il6 {l0 l1 l2 l3 l4 l5 : Option Value} {r : mL} {x : Int32} : Ev d μ ((.iload 6, g) :: is) (l0 :: l1 :: l2 :: l3 :: l4 :: l5 :: some (.int x) :: r) st M Q ↔ Ev d μ is (l0 :: l1 :: l2 :: l3 :: l4 :: l5 :: some (.int x) :: r) (.int x :: st) M Q := ev_nx rfl
theorem ev_ll6 {l0 l1 l2 l3 l4 l5 : Option Value} {r : mL} {x : Int64} : Ev d μ ((.lload 6, g) :: is) (l0 :: l1 :: l2 :: l3 :: l4 :: l5 :: some (.long x) :: r) st M Q ↔ Ev d μ is (l0 :: l1 :: l2 :: l3 :: l4 :: l5 :: some (.long x) :: r) (.long x :: st) M Q := ev_nx rfl
theorem ev_al6 {l0 l1 l2 l3 l4 l5 : Option Value} {r : mL} {x : Nat} : Ev d μ ((.aload 6, g) :: is) (l0 :: l1 :: l2 :: l3 :: l4 :: l5 :: some (.ref x) :: r) st M Q ↔ Ev d μ is (l0 :: l1 :: l2 :: l3 :: l4 :: l5 :: some (.ref x) :: r) (.ref x :: st) M Q := ev_nx rfl
theorem ev_an6 {l0 l1 l2 l3 l4 l5 : Option Value} {r : mL} : Ev d μ ((.aload 6, g) :: is) (l0 :: l1 :: l2 :: l3 :: l4 :: l5 :: some .null :: r) st M Q ↔ Ev d μ is (l0 :: l1 :: l2 :: l3 :: l4 :: l5 :: some .null :: r) (.null :: st) M Q := ev_nx rfl
theorem ev_il7 {l0 l1 l2 l3 l4 l5 l6 : Option Value} {r : mL} {x : Int32} : Ev d μ ((.iload 7, g) :: is) (l0 :: l1 :: l2 :: l3 :: l4 :: l5 :: l6 :: some (.int x) :: r) st M Q ↔ Ev d μ is (l0 :: l1 :: l2 :: l3 :: l4 :: l5 :: l6 :: some (.int x) :: r) (.int x :: st) M Q := ev_nx rfl
theorem ev_ll7 {l0 l1 l2 l3 l4 l5 l6 : Option Value} {r : mL} {x : Int64} : Ev d μ ((.lload 7, g) :: is) (l0 :: l1 :: l2 :: l3 :: l4 :: l5 :: l6 :: some (.long x) :: r) st M Q ↔ Ev d μ is (l0 :: l1 :: l2 :: l3 :: l4 :: l5 :: l6 :: some (.long x) :: r) (.long x :: st) M Q := ev_nx rfl
theorem ev_al7 {l0 l1 l2 l3 l4 l5 l6 : Option Value} {r : mL} {x : Nat} : Ev d μ ((.aload 7, g) :: is) (l0 :: l1 :: l2 :: l3 :: l4 :: l5 :: l6 :: some (.ref x) :: r) st M Q ↔ Ev d μ is (l0 :: l1 :: l2 :: l3 :: l4 :: l5 :: l6 :: some (.ref x) :: r) (.ref x :: st) M Q := ev_nx rfl
theorem ev_an7 {l0 l1 l2 l3 l4 l5 l6 : Option Value} {r : mL} : Ev d μ ((.aload 7, g) :: is) (l0 :: l1 :: l2 :: l3 :: l4 :: l5 :: l6 :: some .null :: r) st M Q ↔ Ev d μ is (l0 :: l1 :: l2 :: l3 :: l4 :: l5 :: l6 :: some .null :: r) (.null :: st) M Q := ev_nx rfl
theorem ev_il8 {l0 l1 l2 l3 l4 l5 l6 l7 : Option Value} {r : mL} {x : Int32} : Ev d μ ((.iload 8, g) :: is) (l0 :: l1 :: l2 :: l3 :: l4 :: l5 :: l6 :: l7 :: some (.int x) :: r) st M Q ↔ Ev d μ is (l0 :: l1 :: l2 :: l3 :: l4 :: l5 :: l6 :: l7 :: some (.int x) :: r) (.int x :: st) M Q := ev_nx rfl
theorem ev_ll8 {l0 l1 l2 l3 l4 l5 l6 l7 : Option Value} {r : mL} {x : Int64} : Ev d μ ((.lload 8, g) :: is) (l0 :: l1 :: l2 :: l3 :: l4 :: l5 :: l6 :: l7 :: some (.long x) :: r) st M Q ↔ Ev d μ is (l0 :: l1 :: l2 :: l3 :: l4 :: l5 :: l6 :: l7 :: some (.long x) :: r) (.long x :: st) M Q := ev_nx rfl
theorem ev_al8 {l0 l1 l2 l3 l4 l5 l6 l7 : Option Value} {r : mL} {x : Nat} : Ev d μ ((.aload 8, g) :: is) (l0 :: l1 :: l2 :: l3 :: l4 :: l5 :: l6 :: l7 :: some (.ref x) :: r) st M Q ↔ Ev d μ is (l0 :: l1 :: l2 :: l3 :: l4 :: l5 :: l6 :: l7 :: some (.ref x) :: r) (.ref x :: st) M Q := ev_nx rfl
theorem ev_an8 {l0 l1 l2 l3 l4 l5 l6 l7 : Option Value} {r : mL} : Ev d μ ((.aload 8, g) :: is) (l0 :: l1 :: l2 :: l3 :: l4 :: l5 :: l6 :: l7 :: some .null :: r) st M Q ↔ Ev d μ is (l0 :: l1 :: l2 :: l3 :: l4 :: l5 :: l6 :: l7 :: some .null :: r) (.null :: st) M Q := ev_nx rfl
theorem ev_il9 {l0 l1 l2 l3 l4 l5 l6 l7 l8 : Option Value} {r : mL} {x : Int32} : Ev d μ ((.iload 9, g) :: is) (l0 :: l1 :: l2 :: l3 :: l4 :: l5 :: l6 :: l7 :: l8 :: some (.int x) :: r) st M Q ↔ Ev d μ is (l0 :: l1 :: l2 :: l3 :: l4 :: l5 :: l6 :: l7 :: l8 :: some (.int x) :: r) (.int x :: st) M Q := ev_nx rfl
theorem ev_ll9 {l0 l1 l2 l3 l4 l5 l6 l7 l8 : Option Value} {r : mL} {x : Int64} : Ev d μ ((.lload 9, g) :: is) (l0 :: l1 :: l2 :: l3 :: l4 :: l5 :: l6 :: l7 :: l8 :: some (.long x) :: r) st M Q ↔ Ev d μ is (l0 :: l1 :: l2 :: l3 :: l4 :: l5 :: l6 :: l7 :: l8 :: some (.long x) :: r) (.long x :: st) M Q := ev_nx rfl
theorem ev_al9 {l0 l1 l2 l3 l4 l5 l6 l7 l8 : Option Value} {r : mL} {x : Nat} : Ev d μ ((.aload 9, g) :: is) (l0 :: l1 :: l2 :: l3 :: l4 :: l5 :: l6 :: l7 :: l8 :: some (.ref x) :: r) st M Q ↔ Ev d μ is (l0 :: l1 :: l2 :: l3 :: l4 :: l5 :: l6 :: l7 :: l8 :: some (.ref x) :: r) (.ref x :: st) M Q := ev_nx rfl
theorem ev_an9 {l0 l1 l2 l3 l4 l5 l6 l7 l8 : Option Value} {r : mL} : Ev d μ ((.aload 9, g) :: is) (l0 :: l1 :: l2 :: l3 :: l4 :: l5 :: l6 :: l7 :: l8 :: some .null :: r) st M Q ↔ Ev d μ is (l0 :: l1 :: l2 :: l3 :: l4 :: l5 :: l6 :: l7 :: l8 :: some .null :: r) (.null :: st) M Q := ev_nx rfl
theorem ev_il10 {l0 l1 l2 l3 l4 l5 l6 l7 l8 l9 : Option Value} {r : mL} {x : Int32} : Ev d μ ((.iload 10, g) :: is) (l0 :: l1 :: l2 :: l3 :: l4 :: l5 :: l6 :: l7 :: l8 :: l9 :: some (.int x) :: r) st M Q ↔ Ev d μ is (l0 :: l1 :: l2 :: l3 :: l4 :: l5 :: l6 :: l7 :: l8 :: l9 :: some (.int x) :: r) (.int x :: st) M Q := ev_nx rfl
theorem ev_ll10 {l0 l1 l2 l3 l4 l5 l6 l7 l8 l9 : Option Value} {r : mL} {x : Int64} : Ev d μ ((.lload 10, g) :: is) (l0 :: l1 :: l2 :: l3 :: l4 :: l5 :: l6 :: l7 :: l8 :: l9 :: some (.long x) :: r) st M Q ↔ Ev d μ is (l0 :: l1 :: l2 :: l3 :: l4 :: l5 :: l6 :: l7 :: l8 :: l9 :: some (.long x) :: r) (.long x :: st) M Q := ev_nx rfl
theorem ev_al10 {l0 l1 l2 l3 l4 l5 l6 l7 l8 l9 : Option Value} {r : mL} {x : Nat} : Ev d μ ((.aload 10, g) :: is) (l0 :: l1 :: l2 :: l3 :: l4 :: l5 :: l6 :: l7 :: l8 :: l9 :: some (.ref x) :: r) st M Q ↔ Ev d μ is (l0 :: l1 :: l2 :: l3 :: l4 :: l5 :: l6 :: l7 :: l8 :: l9 :: some (.ref x) :: r) (.ref x :: st) M Q := ev_nx rfl
theorem ev_an10 {l0 l1 l2 l3 l4 l5 l6 l7 l8 l9 : Option Value} {r : mL} : Ev d μ ((.aload 10, g) :: is) (l0 :: l1 :: l2 :: l3 :: l4 :: l5 :: l6 :: l7 :: l8 :: l9 :: some .null :: r) st M Q ↔ Ev d μ is (l0 :: l1 :: l2 :: l3 :: l4 :: l5 :: l6 :: l7 :: l8 :: l9 :: some .null :: r) (.null :: st) M Q := ev_nx rfl
theorem ev_il11 {l0 l1 l2 l3 l4 l5 l6 l7 l8 l9 l10 : Option Value} {r : mL} {x : Int32} : Ev d μ ((.iload 11, g) :: is) (l0 :: l1 :: l2 :: l3 :: l4 :: l5 :: l6 :: l7 :: l8 :: l9 :: l10 :: some (.int x) :: r) st M Q ↔ Ev d μ is (l0 :: l1 :: l2 :: l3 :: l4 :: l5 :: l6 :: l7 :: l8 :: l9 :: l10 :: some (.int x) :: r) (.int x :: st) M Q := ev_nx rfl
theorem ev_ll11 {l0 l1 l2 l3 l4 l5 l6 l7 l8 l9 l10 : Option Value} {r : mL} {x : Int64} : Ev d μ ((.lload 11, g) :: is) (l0 :: l1 :: l2 :: l3 :: l4 :: l5 :: l6 :: l7 :: l8 :: l9 :: l10 :: some (.long x) :: r) st M Q ↔ Ev d μ is (l0 :: l1 :: l2 :: l3 :: l4 :: l5 :: l6 :: l7 :: l8 :: l9 :: l10 :: some (.long x) :: r) (.long x :: st) M Q := ev_nx rfl
theorem ev_al11 {l0 l1 l2 l3 l4 l5 l6 l7 l8 l9 l10 : Option Value} {r : mL} {x : Nat} : Ev d μ ((.aload 11, g) :: is) (l0 :: l1 :: l2 :: l3 :: l4 :: l5 :: l6 :: l7 :: l8 :: l9 :: l10 :: some (.ref x) :: r) st M Q ↔ Ev d μ is (l0 :: l1 :: l2 :: l3 :: l4 :: l5 :: l6 :: l7 :: l8 :: l9 :: l10 :: some (.ref x) :: r) (.ref x :: st) M Q := ev_nx rfl
theorem ev_an11 {l0 l1 l2 l3 l4 l5 l6 l7 l8 l9 l10 : Option Value} {r : mL} : Ev d μ ((.aload 11, g) :: is) (l0 :: l1 :: l2 :: l3 :: l4 :: l5 :: l6 :: l7 :: l8 :: l9 :: l10 :: some .null :: r) st M Q ↔ Ev d μ is (l0 :: l1 :: l2 :: l3 :: l4 :: l5 :: l6 :: l7 :: l8 :: l9 :: l10 :: some .null :: r) (.null :: st) M Q := ev_nx rfl
theorem ev_il12 {l0 l1 l2 l3 l4 l5 l6 l7 l8 l9 l10 l11 : Option Value} {r : mL} {x : Int32} : Ev d μ ((.iload 12, g) :: is) (l0 :: l1 :: l2 :: l3 :: l4 :: l5 :: l6 :: l7 :: l8 :: l9 :: l10 :: l11 :: some (.int x) :: r) st M Q ↔ Ev d μ is (l0 :: l1 :: l2 :: l3 :: l4 :: l5 :: l6 :: l7 :: l8 :: l9 :: l10 :: l11 :: some (.int x) :: r) (.int x :: st) M Q := ev_nx rfl
theorem ev_ll12 {l0 l1 l2 l3 l4 l5 l6 l7 l8 l9 l10 l11 : Option Value} {r : mL} {x : Int64} : Ev d μ ((.lload 12, g) :: is) (l0 :: l1 :: l2 :: l3 :: l4 :: l5 :: l6 :: l7 :: l8 :: l9 :: l10 :: l11 :: some (.long x) :: r) st M Q ↔ Ev d μ is (l0 :: l1 :: l2 :: l3 :: l4 :: l5 :: l6 :: l7 :: l8 :: l9 :: l10 :: l11 :: some (.long x) :: r) (.long x :: st) M Q := ev_nx rfl
theorem ev_al12 {l0 l1 l2 l3 l4 l5 l6 l7 l8 l9 l10 l11 : Option Value} {r : mL} {x : Nat} : Ev d μ ((.aload 12, g) :: is) (l0 :: l1 :: l2 :: l3 :: l4 :: l5 :: l6 :: l7 :: l8 :: l9 :: l10 :: l11 :: some (.ref x) :: r) st M Q ↔ Ev d μ is (l0 :: l1 :: l2 :: l3 :: l4 :: l5 :: l6 :: l7 :: l8 :: l9 :: l10 :: l11 :: some (.ref x) :: r) (.ref x :: st) M Q := ev_nx rfl
theorem ev_an12 {l0 l1 l2 l3 l4 l5 l6 l7 l8 l9 l10 l11 : Option Value} {r : mL} : Ev d μ ((.aload 12, g) :: is) (l0 :: l1 :: l2 :: l3 :: l4 :: l5 :: l6 :: l7 :: l8 :: l9 :: l10 :: l11 :: some .null :: r) st M Q ↔ Ev d μ is (l0 :: l1 :: l2 :: l3 :: l4 :: l5 :: l6 :: l7 :: l8 :: l9 :: l10 :: l11 :: some .null :: r) (.null :: st) M Q := ev_nx rfl
theorem ev_il13 {l0 l1 l2 l3 l4 l5 l6 l7 l8 l9 l10 l11 l12 : Option Value} {r : mL} {x : Int32} : Ev d μ ((.iload 13, g) :: is) (l0 :: l1 :: l2 :: l3 :: l4 :: l5 :: l6 :: l7 :: l8 :: l9 :: l10 :: l11 :: l12 :: some (.int x) :: r) st M Q ↔ Ev d μ is (l0 :: l1 :: l2 :: l3 :: l4 :: l5 :: l6 :: l7 :: l8 :: l9 :: l10 :: l11 :: l12 :: some (.int x) :: r) (.int x :: st) M Q := ev_nx rfl
theorem ev_ll13 {l0 l1 l2 l3 l4 l5 l6 l7 l8 l9 l10 l11 l12 : Option Value} {r : mL} {x : Int64} : Ev d μ ((.lload 13, g) :: is) (l0 :: l1 :: l2 :: l3 :: l4 :: l5 :: l6 :: l7 :: l8 :: l9 :: l10 :: l11 :: l12 :: some (.long x) :: r) st M Q ↔ Ev d μ is (l0 :: l1 :: l2 :: l3 :: l4 :: l5 :: l6 :: l7 :: l8 :: l9 :: l10 :: l11 :: l12 :: some (.long x) :: r) (.long x :: st) M Q := ev_nx rfl
theorem ev_al13 {l0 l1 l2 l3 l4 l5 l6 l7 l8 l9 l10 l11 l12 : Option Value} {r : mL} {x : Nat} : Ev d μ ((.aload 13, g) :: is) (l0 :: l1 :: l2 :: l3 :: l4 :: l5 :: l6 :: l7 :: l8 :: l9 :: l10 :: l11 :: l12 :: some (.ref x) :: r) st M Q ↔ Ev d μ is (l0 :: l1 :: l2 :: l3 :: l4 :: l5 :: l6 :: l7 :: l8 :: l9 :: l10 :: l11 :: l12 :: some (.ref x) :: r) (.ref x :: st) M Q := ev_nx rfl
theorem ev_an13 {l0 l1 l2 l3 l4 l5 l6 l7 l8 l9 l10 l11 l12 : Option Value} {r : mL} : Ev d μ ((.aload 13, g) :: is) (l0 :: l1 :: l2 :: l3 :: l4 :: l5 :: l6 :: l7 :: l8 :: l9 :: l10 :: l11 :: l12 :: some .null :: r) st M Q ↔ Ev d μ is (l0 :: l1 :: l2 :: l3 :: l4 :: l5 :: l6 :: l7 :: l8 :: l9 :: l10 :: l11 :: l12 :: some .null :: r) (.null :: st) M Q := ev_nx rfl
theorem ev_istore {k : Nat} {x : Int32} : Ev d μ ((.istore k, g) :: is) L (.int x :: st) M Q ↔ k < L.length ∧ Ev d μ is (lset1 L k (.int x)) st M Q := by
  by_cases h : k < L.length
  · rw [ev_nx (show ms (.istore k) g L (.int x :: st) M = some (.inl (lset1 L k (.int x), st, M, none)) by simp only [ms, mnx, if_pos h])]
    simp [h]
  · simp only [h, false_and, iff_false]
    rintro ⟨f, r, h1, -⟩
    cases f with
    | zero => cases h1
    | succ f =>
      unfold mrun at h1
      rw [show ms (.istore k) g L (.int x :: st) M = none by simp only [ms, if_neg h]] at h1
      cases h1
theorem ev_gd {i : Instr} {c : Prop} {L' : mL} {st0 st' : List Value} {M' : mM} (hp : c → ms i g L st0 M = some (.inl (L', st', M', none))) (hn : ¬ c → ms i g L st0 M = none) : Ev d μ ((i, g) :: is) L st0 M Q ↔ c ∧ Ev d μ is L' st' M' Q := by
  by_cases h : c
  · rw [ev_nx (hp h)]
    simp [h]
  · simp only [h, false_and, iff_false]
    rintro ⟨f, r, h1, -⟩
    cases f with
    | zero => cases h1
    | succ f =>
      unfold mrun at h1
      rw [hn h] at h1
      cases h1
theorem ev_astore {k x : Nat} : Ev d μ ((.astore k, g) :: is) L (.ref x :: st) M Q ↔ k < L.length ∧ Ev d μ is (lset1 L k (.ref x)) st M Q := ev_gd (fun h => by simp only [ms, mnx, if_pos h]) (fun h => by simp only [ms, if_neg h])
theorem ev_astoreN {k : Nat} : Ev d μ ((.astore k, g) :: is) L (.null :: st) M Q ↔ k < L.length ∧ Ev d μ is (lset1 L k .null) st M Q := ev_gd (fun h => by simp only [ms, mnx, if_pos h]) (fun h => by simp only [ms, if_neg h])
theorem ev_lstore {k : Nat} {x : Int64} : Ev d μ ((.lstore k, g) :: is) L (.long x :: st) M Q ↔ k + 1 < L.length ∧ Ev d μ is (lset2 L k (.long x)) st M Q := ev_gd (fun h => by simp only [ms, mnx, if_pos h]) (fun h => by simp only [ms, if_neg h])
theorem ev_iinc {k : Nat} {n : Int} {x : Int32} (h : lget L k = some (.int x)) : Ev d μ ((.iinc k n, g) :: is) L st M Q ↔ k < L.length ∧ Ev d μ is (lset1 L k (.int (x + Int32.ofInt n))) st M Q := ev_gd (fun h' => by simp only [ms, mnx, h, if_pos h']) (fun h' => by simp only [ms, h, if_neg h'])
theorem ev_inc0 {r : mL} {n : Int} {x : Int32} : Ev d μ ((.iinc 0 n, g) :: is) (some (.int x) :: r) st M Q ↔ Ev d μ is (some (.int (x + Int32.ofInt n)) :: r) st M Q := by
  rw [ev_iinc (show lget (some (.int x) :: r) 0 = some (.int x) from rfl)]
  exact ⟨fun h => h.2, fun h => ⟨by simp, h⟩⟩
theorem ev_is0 {l0 : Option Value} {r : mL} {x : Int32} : Ev d μ ((.istore 0, g) :: is) (l0 :: r) (.int x :: st) M Q ↔ Ev d μ is (some (.int x) :: r) st M Q := by
  rw [ev_istore]
  exact ⟨fun h => h.2, fun h => ⟨by simp, h⟩⟩
theorem ev_as0 {l0 : Option Value} {r : mL} {x : Nat} : Ev d μ ((.astore 0, g) :: is) (l0 :: r) (.ref x :: st) M Q ↔ Ev d μ is (some (.ref x) :: r) st M Q := by
  rw [ev_astore]
  exact ⟨fun h => h.2, fun h => ⟨by simp, h⟩⟩
theorem ev_asN0 {l0 : Option Value} {r : mL} : Ev d μ ((.astore 0, g) :: is) (l0 :: r) (.null :: st) M Q ↔ Ev d μ is (some .null :: r) st M Q := by
  rw [ev_astoreN]
  exact ⟨fun h => h.2, fun h => ⟨by simp, h⟩⟩
theorem ev_ls0 {l0 l1 : Option Value} {r : mL} {x : Int64} : Ev d μ ((.lstore 0, g) :: is) (l0 :: l1 :: r) (.long x :: st) M Q ↔ Ev d μ is (some (.long x) :: none :: r) st M Q := by
  rw [ev_lstore]
  exact ⟨fun h => h.2, fun h => ⟨by simp, h⟩⟩
theorem ev_inc1 {l0 : Option Value} {r : mL} {n : Int} {x : Int32} : Ev d μ ((.iinc 1 n, g) :: is) (l0 :: some (.int x) :: r) st M Q ↔ Ev d μ is (lkl l0 :: some (.int (x + Int32.ofInt n)) :: r) st M Q := by
  rw [ev_iinc (show lget (l0 :: some (.int x) :: r) 1 = some (.int x) from rfl)]
  exact ⟨fun h => h.2, fun h => ⟨by simp, h⟩⟩
theorem ev_is1 {l0 : Option Value} {l1 : Option Value} {r : mL} {x : Int32} : Ev d μ ((.istore 1, g) :: is) (l0 :: l1 :: r) (.int x :: st) M Q ↔ Ev d μ is (lkl l0 :: some (.int x) :: r) st M Q := by
  rw [ev_istore]
  exact ⟨fun h => h.2, fun h => ⟨by simp, h⟩⟩
theorem ev_as1 {l0 : Option Value} {l1 : Option Value} {r : mL} {x : Nat} : Ev d μ ((.astore 1, g) :: is) (l0 :: l1 :: r) (.ref x :: st) M Q ↔ Ev d μ is (lkl l0 :: some (.ref x) :: r) st M Q := by
  rw [ev_astore]
  exact ⟨fun h => h.2, fun h => ⟨by simp, h⟩⟩
theorem ev_asN1 {l0 : Option Value} {l1 : Option Value} {r : mL} : Ev d μ ((.astore 1, g) :: is) (l0 :: l1 :: r) (.null :: st) M Q ↔ Ev d μ is (lkl l0 :: some .null :: r) st M Q := by
  rw [ev_astoreN]
  exact ⟨fun h => h.2, fun h => ⟨by simp, h⟩⟩
theorem ev_ls1 {l0 : Option Value} {l1 l2 : Option Value} {r : mL} {x : Int64} : Ev d μ ((.lstore 1, g) :: is) (l0 :: l1 :: l2 :: r) (.long x :: st) M Q ↔ Ev d μ is (lkl l0 :: some (.long x) :: none :: r) st M Q := by
  rw [ev_lstore]
  exact ⟨fun h => h.2, fun h => ⟨by simp, h⟩⟩
theorem ev_inc2 {l0 l1 : Option Value} {r : mL} {n : Int} {x : Int32} : Ev d μ ((.iinc 2 n, g) :: is) (l0 :: l1 :: some (.int x) :: r) st M Q ↔ Ev d μ is (l0 :: lkl l1 :: some (.int (x + Int32.ofInt n)) :: r) st M Q := by
  rw [ev_iinc (show lget (l0 :: l1 :: some (.int x) :: r) 2 = some (.int x) from rfl)]
  exact ⟨fun h => h.2, fun h => ⟨by simp, h⟩⟩
theorem ev_is2 {l0 l1 : Option Value} {l2 : Option Value} {r : mL} {x : Int32} : Ev d μ ((.istore 2, g) :: is) (l0 :: l1 :: l2 :: r) (.int x :: st) M Q ↔ Ev d μ is (l0 :: lkl l1 :: some (.int x) :: r) st M Q := by
  rw [ev_istore]
  exact ⟨fun h => h.2, fun h => ⟨by simp, h⟩⟩
theorem ev_as2 {l0 l1 : Option Value} {l2 : Option Value} {r : mL} {x : Nat} : Ev d μ ((.astore 2, g) :: is) (l0 :: l1 :: l2 :: r) (.ref x :: st) M Q ↔ Ev d μ is (l0 :: lkl l1 :: some (.ref x) :: r) st M Q := by
  rw [ev_astore]
  exact ⟨fun h => h.2, fun h => ⟨by simp, h⟩⟩
theorem ev_asN2 {l0 l1 : Option Value} {l2 : Option Value} {r : mL} : Ev d μ ((.astore 2, g) :: is) (l0 :: l1 :: l2 :: r) (.null :: st) M Q ↔ Ev d μ is (l0 :: lkl l1 :: some .null :: r) st M Q := by
  rw [ev_astoreN]
  exact ⟨fun h => h.2, fun h => ⟨by simp, h⟩⟩
theorem ev_ls2 {l0 l1 : Option Value} {l2 l3 : Option Value} {r : mL} {x : Int64} : Ev d μ ((.lstore 2, g) :: is) (l0 :: l1 :: l2 :: l3 :: r) (.long x :: st) M Q ↔ Ev d μ is (l0 :: lkl l1 :: some (.long x) :: none :: r) st M Q := by
  rw [ev_lstore]
  exact ⟨fun h => h.2, fun h => ⟨by simp, h⟩⟩
theorem ev_inc3 {l0 l1 l2 : Option Value} {r : mL} {n : Int} {x : Int32} : Ev d μ ((.iinc 3 n, g) :: is) (l0 :: l1 :: l2 :: some (.int x) :: r) st M Q ↔ Ev d μ is (l0 :: l1 :: lkl l2 :: some (.int (x + Int32.ofInt n)) :: r) st M Q := by
  rw [ev_iinc (show lget (l0 :: l1 :: l2 :: some (.int x) :: r) 3 = some (.int x) from rfl)]
  exact ⟨fun h => h.2, fun h => ⟨by simp, h⟩⟩
theorem ev_is3 {l0 l1 l2 : Option Value} {l3 : Option Value} {r : mL} {x : Int32} : Ev d μ ((.istore 3, g) :: is) (l0 :: l1 :: l2 :: l3 :: r) (.int x :: st) M Q ↔ Ev d μ is (l0 :: l1 :: lkl l2 :: some (.int x) :: r) st M Q := by
  rw [ev_istore]
  exact ⟨fun h => h.2, fun h => ⟨by simp, h⟩⟩
theorem ev_as3 {l0 l1 l2 : Option Value} {l3 : Option Value} {r : mL} {x : Nat} : Ev d μ ((.astore 3, g) :: is) (l0 :: l1 :: l2 :: l3 :: r) (.ref x :: st) M Q ↔ Ev d μ is (l0 :: l1 :: lkl l2 :: some (.ref x) :: r) st M Q := by
  rw [ev_astore]
  exact ⟨fun h => h.2, fun h => ⟨by simp, h⟩⟩
theorem ev_asN3 {l0 l1 l2 : Option Value} {l3 : Option Value} {r : mL} : Ev d μ ((.astore 3, g) :: is) (l0 :: l1 :: l2 :: l3 :: r) (.null :: st) M Q ↔ Ev d μ is (l0 :: l1 :: lkl l2 :: some .null :: r) st M Q := by
  rw [ev_astoreN]
  exact ⟨fun h => h.2, fun h => ⟨by simp, h⟩⟩
theorem ev_ls3 {l0 l1 l2 : Option Value} {l3 l4 : Option Value} {r : mL} {x : Int64} : Ev d μ ((.lstore 3, g) :: is) (l0 :: l1 :: l2 :: l3 :: l4 :: r) (.long x :: st) M Q ↔ Ev d μ is (l0 :: l1 :: lkl l2 :: some (.long x) :: none :: r) st M Q := by
  rw [ev_lstore]
  exact ⟨fun h => h.2, fun h => ⟨by simp, h⟩⟩
theorem ev_inc4 {l0 l1 l2 l3 : Option Value} {r : mL} {n : Int} {x : Int32} : Ev d μ ((.iinc 4 n, g) :: is) (l0 :: l1 :: l2 :: l3 :: some (.int x) :: r) st M Q ↔ Ev d μ is (l0 :: l1 :: l2 :: lkl l3 :: some (.int (x + Int32.ofInt n)) :: r) st M Q := by
  rw [ev_iinc (show lget (l0 :: l1 :: l2 :: l3 :: some (.int x) :: r) 4 = some (.int x) from rfl)]
  exact ⟨fun h => h.2, fun h => ⟨by simp, h⟩⟩
theorem ev_is4 {l0 l1 l2 l3 : Option Value} {l4 : Option Value} {r : mL} {x : Int32} : Ev d μ ((.istore 4, g) :: is) (l0 :: l1 :: l2 :: l3 :: l4 :: r) (.int x :: st) M Q ↔ Ev d μ is (l0 :: l1 :: l2 :: lkl l3 :: some (.int x) :: r) st M Q := by
  rw [ev_istore]
  exact ⟨fun h => h.2, fun h => ⟨by simp, h⟩⟩
theorem ev_as4 {l0 l1 l2 l3 : Option Value} {l4 : Option Value} {r : mL} {x : Nat} : Ev d μ ((.astore 4, g) :: is) (l0 :: l1 :: l2 :: l3 :: l4 :: r) (.ref x :: st) M Q ↔ Ev d μ is (l0 :: l1 :: l2 :: lkl l3 :: some (.ref x) :: r) st M Q := by
  rw [ev_astore]
  exact ⟨fun h => h.2, fun h => ⟨by simp, h⟩⟩
theorem ev_asN4 {l0 l1 l2 l3 : Option Value} {l4 : Option Value} {r : mL} : Ev d μ ((.astore 4, g) :: is) (l0 :: l1 :: l2 :: l3 :: l4 :: r) (.null :: st) M Q ↔ Ev d μ is (l0 :: l1 :: l2 :: lkl l3 :: some .null :: r) st M Q := by
  rw [ev_astoreN]
  exact ⟨fun h => h.2, fun h => ⟨by simp, h⟩⟩
theorem ev_ls4 {l0 l1 l2 l3 : Option Value} {l4 l5 : Option Value} {r : mL} {x : Int64} : Ev d μ ((.lstore 4, g) :: is) (l0 :: l1 :: l2 :: l3 :: l4 :: l5 :: r) (.long x :: st) M Q ↔ Ev d μ is (l0 :: l1 :: l2 :: lkl l3 :: some (.long x) :: none :: r) st M Q := by
  rw [ev_lstore]
  exact ⟨fun h => h.2, fun h => ⟨by simp, h⟩⟩
theorem ev_inc5 {l0 l1 l2 l3 l4 : Option Value} {r : mL} {n : Int} {x : Int32} : Ev d μ ((.iinc 5 n, g) :: is) (l0 :: l1 :: l2 :: l3 :: l4 :: some (.int x) :: r) st M Q ↔ Ev d μ is (l0 :: l1 :: l2 :: l3 :: lkl l4 :: some (.int (x + Int32.ofInt n)) :: r) st M Q := by
  rw [ev_iinc (show lget (l0 :: l1 :: l2 :: l3 :: l4 :: some (.int x) :: r) 5 = some (.int x) from rfl)]
  exact ⟨fun h => h.2, fun h => ⟨by simp, h⟩⟩
theorem ev_is5 {l0 l1 l2 l3 l4 : Option Value} {l5 : Option Value} {r : mL} {x : Int32} : Ev d μ ((.istore 5, g) :: is) (l0 :: l1 :: l2 :: l3 :: l4 :: l5 :: r) (.int x :: st) M Q ↔ Ev d μ is (l0 :: l1 :: l2 :: l3 :: lkl l4 :: some (.int x) :: r) st M Q := by
  rw [ev_istore]
  exact ⟨fun h => h.2, fun h => ⟨by simp, h⟩⟩
theorem ev_as5 {l0 l1 l2 l3 l4 : Option Value} {l5 : Option Value} {r : mL} {x : Nat} : Ev d μ ((.astore 5, g) :: is) (l0 :: l1 :: l2 :: l3 :: l4 :: l5 :: r) (.ref x :: st) M Q ↔ Ev d μ is (l0 :: l1 :: l2 :: l3 :: lkl l4 :: some (.ref x) :: r) st M Q := by
  rw [ev_astore]
  exact ⟨fun h => h.2, fun h => ⟨by simp, h⟩⟩
theorem ev_asN5 {l0 l1 l2 l3 l4 : Option Value} {l5 : Option Value} {r : mL} : Ev d μ ((.astore 5, g) :: is) (l0 :: l1 :: l2 :: l3 :: l4 :: l5 :: r) (.null :: st) M Q ↔ Ev d μ is (l0 :: l1 :: l2 :: l3 :: lkl l4 :: some .null :: r) st M Q := by
  rw [ev_astoreN]
  exact ⟨fun h => h.2, fun h => ⟨by simp, h⟩⟩
theorem ev_ls5 {l0 l1 l2 l3 l4 : Option Value} {l5 l6 : Option Value} {r : mL} {x : Int64} : Ev d μ ((.lstore 5, g) :: is) (l0 :: l1 :: l2 :: l3 :: l4 :: l5 :: l6 :: r) (.long x :: st) M Q ↔ Ev d μ is (l0 :: l1 :: l2 :: l3 :: lkl l4 :: some (.long x) :: none :: r) st M Q := by
  rw [ev_lstore]
  exact ⟨fun h => h.2, fun h => ⟨by simp, h⟩⟩
theorem ev_inc6 {l0 l1 l2 l3 l4 l5 : Option Value} {r : mL} {n : Int} {x : Int32} : Ev d μ ((.iinc 6 n, g) :: is) (l0 :: l1 :: l2 :: l3 :: l4 :: l5 :: some (.int x) :: r) st M Q ↔ Ev d μ is (l0 :: l1 :: l2 :: l3 :: l4 :: lkl l5 :: some (.int (x + Int32.ofInt n)) :: r) st M Q := by
  rw [ev_iinc (show lget (l0 :: l1 :: l2 :: l3 :: l4 :: l5 :: some (.int x) :: r) 6 = some (.int x) from rfl)]
  exact ⟨fun h => h.2, fun h => ⟨by simp, h⟩⟩
theorem ev_is6 {l0 l1 l2 l3 l4 l5 : Option Value} {l6 : Option Value} {r : mL} {x : Int32} : Ev d μ ((.istore 6, g) :: is) (l0 :: l1 :: l2 :: l3 :: l4 :: l5 :: l6 :: r) (.int x :: st) M Q ↔ Ev d μ is (l0 :: l1 :: l2 :: l3 :: l4 :: lkl l5 :: some (.int x) :: r) st M Q := by
  rw [ev_istore]
  exact ⟨fun h => h.2, fun h => ⟨by simp, h⟩⟩
theorem ev_as6 {l0 l1 l2 l3 l4 l5 : Option Value} {l6 : Option Value} {r : mL} {x : Nat} : Ev d μ ((.astore 6, g) :: is) (l0 :: l1 :: l2 :: l3 :: l4 :: l5 :: l6 :: r) (.ref x :: st) M Q ↔ Ev d μ is (l0 :: l1 :: l2 :: l3 :: l4 :: lkl l5 :: some (.ref x) :: r) st M Q := by
  rw [ev_astore]
  exact ⟨fun h => h.2, fun h => ⟨by simp, h⟩⟩
theorem ev_asN6 {l0 l1 l2 l3 l4 l5 : Option Value} {l6 : Option Value} {r : mL} : Ev d μ ((.astore 6, g) :: is) (l0 :: l1 :: l2 :: l3 :: l4 :: l5 :: l6 :: r) (.null :: st) M Q ↔ Ev d μ is (l0 :: l1 :: l2 :: l3 :: l4 :: lkl l5 :: some .null :: r) st M Q := by
  rw [ev_astoreN]
  exact ⟨fun h => h.2, fun h => ⟨by simp, h⟩⟩
theorem ev_ls6 {l0 l1 l2 l3 l4 l5 : Option Value} {l6 l7 : Option Value} {r : mL} {x : Int64} : Ev d μ ((.lstore 6, g) :: is) (l0 :: l1 :: l2 :: l3 :: l4 :: l5 :: l6 :: l7 :: r) (.long x :: st) M Q ↔ Ev d μ is (l0 :: l1 :: l2 :: l3 :: l4 :: lkl l5 :: some (.long x) :: none :: r) st M Q := by
  rw [ev_lstore]
  exact ⟨fun h => h.2, fun h => ⟨by simp, h⟩⟩
theorem ev_inc7 {l0 l1 l2 l3 l4 l5 l6 : Option Value} {r : mL} {n : Int} {x : Int32} : Ev d μ ((.iinc 7 n, g) :: is) (l0 :: l1 :: l2 :: l3 :: l4 :: l5 :: l6 :: some (.int x) :: r) st M Q ↔ Ev d μ is (l0 :: l1 :: l2 :: l3 :: l4 :: l5 :: lkl l6 :: some (.int (x + Int32.ofInt n)) :: r) st M Q := by
  rw [ev_iinc (show lget (l0 :: l1 :: l2 :: l3 :: l4 :: l5 :: l6 :: some (.int x) :: r) 7 = some (.int x) from rfl)]
  exact ⟨fun h => h.2, fun h => ⟨by simp, h⟩⟩
theorem ev_is7 {l0 l1 l2 l3 l4 l5 l6 : Option Value} {l7 : Option Value} {r : mL} {x : Int32} : Ev d μ ((.istore 7, g) :: is) (l0 :: l1 :: l2 :: l3 :: l4 :: l5 :: l6 :: l7 :: r) (.int x :: st) M Q ↔ Ev d μ is (l0 :: l1 :: l2 :: l3 :: l4 :: l5 :: lkl l6 :: some (.int x) :: r) st M Q := by
  rw [ev_istore]
  exact ⟨fun h => h.2, fun h => ⟨by simp, h⟩⟩
theorem ev_as7 {l0 l1 l2 l3 l4 l5 l6 : Option Value} {l7 : Option Value} {r : mL} {x : Nat} : Ev d μ ((.astore 7, g) :: is) (l0 :: l1 :: l2 :: l3 :: l4 :: l5 :: l6 :: l7 :: r) (.ref x :: st) M Q ↔ Ev d μ is (l0 :: l1 :: l2 :: l3 :: l4 :: l5 :: lkl l6 :: some (.ref x) :: r) st M Q := by
  rw [ev_astore]
  exact ⟨fun h => h.2, fun h => ⟨by simp, h⟩⟩
theorem ev_asN7 {l0 l1 l2 l3 l4 l5 l6 : Option Value} {l7 : Option Value} {r : mL} : Ev d μ ((.astore 7, g) :: is) (l0 :: l1 :: l2 :: l3 :: l4 :: l5 :: l6 :: l7 :: r) (.null :: st) M Q ↔ Ev d μ is (l0 :: l1 :: l2 :: l3 :: l4 :: l5 :: lkl l6 :: some .null :: r) st M Q := by
  rw [ev_astoreN]
  exact ⟨fun h => h.2, fun h => ⟨by simp, h⟩⟩
theorem ev_ls7 {l0 l1 l2 l3 l4 l5 l6 : Option Value} {l7 l8 : Option Value} {r : mL} {x : Int64} : Ev d μ ((.lstore 7, g) :: is) (l0 :: l1 :: l2 :: l3 :: l4 :: l5 :: l6 :: l7 :: l8 :: r) (.long x :: st) M Q ↔ Ev d μ is (l0 :: l1 :: l2 :: l3 :: l4 :: l5 :: lkl l6 :: some (.long x) :: none :: r) st M Q := by
  rw [ev_lstore]
  exact ⟨fun h => h.2, fun h => ⟨by simp, h⟩⟩
theorem ev_inc8 {l0 l1 l2 l3 l4 l5 l6 l7 : Option Value} {r : mL} {n : Int} {x : Int32} : Ev d μ ((.iinc 8 n, g) :: is) (l0 :: l1 :: l2 :: l3 :: l4 :: l5 :: l6 :: l7 :: some (.int x) :: r) st M Q ↔ Ev d μ is (l0 :: l1 :: l2 :: l3 :: l4 :: l5 :: l6 :: lkl l7 :: some (.int (x + Int32.ofInt n)) :: r) st M Q := by
  rw [ev_iinc (show lget (l0 :: l1 :: l2 :: l3 :: l4 :: l5 :: l6 :: l7 :: some (.int x) :: r) 8 = some (.int x) from rfl)]
  exact ⟨fun h => h.2, fun h => ⟨by simp, h⟩⟩
theorem ev_is8 {l0 l1 l2 l3 l4 l5 l6 l7 : Option Value} {l8 : Option Value} {r : mL} {x : Int32} : Ev d μ ((.istore 8, g) :: is) (l0 :: l1 :: l2 :: l3 :: l4 :: l5 :: l6 :: l7 :: l8 :: r) (.int x :: st) M Q ↔ Ev d μ is (l0 :: l1 :: l2 :: l3 :: l4 :: l5 :: l6 :: lkl l7 :: some (.int x) :: r) st M Q := by
  rw [ev_istore]
  exact ⟨fun h => h.2, fun h => ⟨by simp, h⟩⟩
theorem ev_as8 {l0 l1 l2 l3 l4 l5 l6 l7 : Option Value} {l8 : Option Value} {r : mL} {x : Nat} : Ev d μ ((.astore 8, g) :: is) (l0 :: l1 :: l2 :: l3 :: l4 :: l5 :: l6 :: l7 :: l8 :: r) (.ref x :: st) M Q ↔ Ev d μ is (l0 :: l1 :: l2 :: l3 :: l4 :: l5 :: l6 :: lkl l7 :: some (.ref x) :: r) st M Q := by
  rw [ev_astore]
  exact ⟨fun h => h.2, fun h => ⟨by simp, h⟩⟩
theorem ev_asN8 {l0 l1 l2 l3 l4 l5 l6 l7 : Option Value} {l8 : Option Value} {r : mL} : Ev d μ ((.astore 8, g) :: is) (l0 :: l1 :: l2 :: l3 :: l4 :: l5 :: l6 :: l7 :: l8 :: r) (.null :: st) M Q ↔ Ev d μ is (l0 :: l1 :: l2 :: l3 :: l4 :: l5 :: l6 :: lkl l7 :: some .null :: r) st M Q := by
  rw [ev_astoreN]
  exact ⟨fun h => h.2, fun h => ⟨by simp, h⟩⟩
theorem ev_ls8 {l0 l1 l2 l3 l4 l5 l6 l7 : Option Value} {l8 l9 : Option Value} {r : mL} {x : Int64} : Ev d μ ((.lstore 8, g) :: is) (l0 :: l1 :: l2 :: l3 :: l4 :: l5 :: l6 :: l7 :: l8 :: l9 :: r) (.long x :: st) M Q ↔ Ev d μ is (l0 :: l1 :: l2 :: l3 :: l4 :: l5 :: l6 :: lkl l7 :: some (.long x) :: none :: r) st M Q := by
  rw [ev_lstore]
  exact ⟨fun h => h.2, fun h => ⟨by simp, h⟩⟩
theorem ev_inc9 {l0 l1 l2 l3 l4 l5 l6 l7 l8 : Option Value} {r : mL} {n : Int} {x : Int32} : Ev d μ ((.iinc 9 n, g) :: is) (l0 :: l1 :: l2 :: l3 :: l4 :: l5 :: l6 :: l7 :: l8 :: some (.int x) :: r) st M Q ↔ Ev d μ is (l0 :: l1 :: l2 :: l3 :: l4 :: l5 :: l6 :: l7 :: lkl l8 :: some (.int (x + Int32.ofInt n)) :: r) st M Q := by
  rw [ev_iinc (show lget (l0 :: l1 :: l2 :: l3 :: l4 :: l5 :: l6 :: l7 :: l8 :: some (.int x) :: r) 9 = some (.int x) from rfl)]
  exact ⟨fun h => h.2, fun h => ⟨by simp, h⟩⟩
theorem ev_is9 {l0 l1 l2 l3 l4 l5 l6 l7 l8 : Option Value} {l9 : Option Value} {r : mL} {x : Int32} : Ev d μ ((.istore 9, g) :: is) (l0 :: l1 :: l2 :: l3 :: l4 :: l5 :: l6 :: l7 :: l8 :: l9 :: r) (.int x :: st) M Q ↔ Ev d μ is (l0 :: l1 :: l2 :: l3 :: l4 :: l5 :: l6 :: l7 :: lkl l8 :: some (.int x) :: r) st M Q := by
  rw [ev_istore]
  exact ⟨fun h => h.2, fun h => ⟨by simp, h⟩⟩
theorem ev_as9 {l0 l1 l2 l3 l4 l5 l6 l7 l8 : Option Value} {l9 : Option Value} {r : mL} {x : Nat} : Ev d μ ((.astore 9, g) :: is) (l0 :: l1 :: l2 :: l3 :: l4 :: l5 :: l6 :: l7 :: l8 :: l9 :: r) (.ref x :: st) M Q ↔ Ev d μ is (l0 :: l1 :: l2 :: l3 :: l4 :: l5 :: l6 :: l7 :: lkl l8 :: some (.ref x) :: r) st M Q := by
  rw [ev_astore]
  exact ⟨fun h => h.2, fun h => ⟨by simp, h⟩⟩
theorem ev_asN9 {l0 l1 l2 l3 l4 l5 l6 l7 l8 : Option Value} {l9 : Option Value} {r : mL} : Ev d μ ((.astore 9, g) :: is) (l0 :: l1 :: l2 :: l3 :: l4 :: l5 :: l6 :: l7 :: l8 :: l9 :: r) (.null :: st) M Q ↔ Ev d μ is (l0 :: l1 :: l2 :: l3 :: l4 :: l5 :: l6 :: l7 :: lkl l8 :: some .null :: r) st M Q := by
  rw [ev_astoreN]
  exact ⟨fun h => h.2, fun h => ⟨by simp, h⟩⟩
theorem ev_ls9 {l0 l1 l2 l3 l4 l5 l6 l7 l8 : Option Value} {l9 l10 : Option Value} {r : mL} {x : Int64} : Ev d μ ((.lstore 9, g) :: is) (l0 :: l1 :: l2 :: l3 :: l4 :: l5 :: l6 :: l7 :: l8 :: l9 :: l10 :: r) (.long x :: st) M Q ↔ Ev d μ is (l0 :: l1 :: l2 :: l3 :: l4 :: l5 :: l6 :: l7 :: lkl l8 :: some (.long x) :: none :: r) st M Q := by
  rw [ev_lstore]
  exact ⟨fun h => h.2, fun h => ⟨by simp, h⟩⟩
theorem ev_inc10 {l0 l1 l2 l3 l4 l5 l6 l7 l8 l9 : Option Value} {r : mL} {n : Int} {x : Int32} : Ev d μ ((.iinc 10 n, g) :: is) (l0 :: l1 :: l2 :: l3 :: l4 :: l5 :: l6 :: l7 :: l8 :: l9 :: some (.int x) :: r) st M Q ↔ Ev d μ is (l0 :: l1 :: l2 :: l3 :: l4 :: l5 :: l6 :: l7 :: l8 :: lkl l9 :: some (.int (x + Int32.ofInt n)) :: r) st M Q := by
  rw [ev_iinc (show lget (l0 :: l1 :: l2 :: l3 :: l4 :: l5 :: l6 :: l7 :: l8 :: l9 :: some (.int x) :: r) 10 = some (.int x) from rfl)]
  exact ⟨fun h => h.2, fun h => ⟨by simp, h⟩⟩
theorem ev_is10 {l0 l1 l2 l3 l4 l5 l6 l7 l8 l9 : Option Value} {l10 : Option Value} {r : mL} {x : Int32} : Ev d μ ((.istore 10, g) :: is) (l0 :: l1 :: l2 :: l3 :: l4 :: l5 :: l6 :: l7 :: l8 :: l9 :: l10 :: r) (.int x :: st) M Q ↔ Ev d μ is (l0 :: l1 :: l2 :: l3 :: l4 :: l5 :: l6 :: l7 :: l8 :: lkl l9 :: some (.int x) :: r) st M Q := by
  rw [ev_istore]
  exact ⟨fun h => h.2, fun h => ⟨by simp, h⟩⟩
theorem ev_as10 {l0 l1 l2 l3 l4 l5 l6 l7 l8 l9 : Option Value} {l10 : Option Value} {r : mL} {x : Nat} : Ev d μ ((.astore 10, g) :: is) (l0 :: l1 :: l2 :: l3 :: l4 :: l5 :: l6 :: l7 :: l8 :: l9 :: l10 :: r) (.ref x :: st) M Q ↔ Ev d μ is (l0 :: l1 :: l2 :: l3 :: l4 :: l5 :: l6 :: l7 :: l8 :: lkl l9 :: some (.ref x) :: r) st M Q := by
  rw [ev_astore]
  exact ⟨fun h => h.2, fun h => ⟨by simp, h⟩⟩
theorem ev_asN10 {l0 l1 l2 l3 l4 l5 l6 l7 l8 l9 : Option Value} {l10 : Option Value} {r : mL} : Ev d μ ((.astore 10, g) :: is) (l0 :: l1 :: l2 :: l3 :: l4 :: l5 :: l6 :: l7 :: l8 :: l9 :: l10 :: r) (.null :: st) M Q ↔ Ev d μ is (l0 :: l1 :: l2 :: l3 :: l4 :: l5 :: l6 :: l7 :: l8 :: lkl l9 :: some .null :: r) st M Q := by
  rw [ev_astoreN]
  exact ⟨fun h => h.2, fun h => ⟨by simp, h⟩⟩
theorem ev_ls10 {l0 l1 l2 l3 l4 l5 l6 l7 l8 l9 : Option Value} {l10 l11 : Option Value} {r : mL} {x : Int64} : Ev d μ ((.lstore 10, g) :: is) (l0 :: l1 :: l2 :: l3 :: l4 :: l5 :: l6 :: l7 :: l8 :: l9 :: l10 :: l11 :: r) (.long x :: st) M Q ↔ Ev d μ is (l0 :: l1 :: l2 :: l3 :: l4 :: l5 :: l6 :: l7 :: l8 :: lkl l9 :: some (.long x) :: none :: r) st M Q := by
  rw [ev_lstore]
  exact ⟨fun h => h.2, fun h => ⟨by simp, h⟩⟩
theorem ev_inc11 {l0 l1 l2 l3 l4 l5 l6 l7 l8 l9 l10 : Option Value} {r : mL} {n : Int} {x : Int32} : Ev d μ ((.iinc 11 n, g) :: is) (l0 :: l1 :: l2 :: l3 :: l4 :: l5 :: l6 :: l7 :: l8 :: l9 :: l10 :: some (.int x) :: r) st M Q ↔ Ev d μ is (l0 :: l1 :: l2 :: l3 :: l4 :: l5 :: l6 :: l7 :: l8 :: l9 :: lkl l10 :: some (.int (x + Int32.ofInt n)) :: r) st M Q := by
  rw [ev_iinc (show lget (l0 :: l1 :: l2 :: l3 :: l4 :: l5 :: l6 :: l7 :: l8 :: l9 :: l10 :: some (.int x) :: r) 11 = some (.int x) from rfl)]
  exact ⟨fun h => h.2, fun h => ⟨by simp, h⟩⟩
theorem ev_is11 {l0 l1 l2 l3 l4 l5 l6 l7 l8 l9 l10 : Option Value} {l11 : Option Value} {r : mL} {x : Int32} : Ev d μ ((.istore 11, g) :: is) (l0 :: l1 :: l2 :: l3 :: l4 :: l5 :: l6 :: l7 :: l8 :: l9 :: l10 :: l11 :: r) (.int x :: st) M Q ↔ Ev d μ is (l0 :: l1 :: l2 :: l3 :: l4 :: l5 :: l6 :: l7 :: l8 :: l9 :: lkl l10 :: some (.int x) :: r) st M Q := by
  rw [ev_istore]
  exact ⟨fun h => h.2, fun h => ⟨by simp, h⟩⟩
theorem ev_as11 {l0 l1 l2 l3 l4 l5 l6 l7 l8 l9 l10 : Option Value} {l11 : Option Value} {r : mL} {x : Nat} : Ev d μ ((.astore 11, g) :: is) (l0 :: l1 :: l2 :: l3 :: l4 :: l5 :: l6 :: l7 :: l8 :: l9 :: l10 :: l11 :: r) (.ref x :: st) M Q ↔ Ev d μ is (l0 :: l1 :: l2 :: l3 :: l4 :: l5 :: l6 :: l7 :: l8 :: l9 :: lkl l10 :: some (.ref x) :: r) st M Q := by
  rw [ev_astore]
  exact ⟨fun h => h.2, fun h => ⟨by simp, h⟩⟩
theorem ev_asN11 {l0 l1 l2 l3 l4 l5 l6 l7 l8 l9 l10 : Option Value} {l11 : Option Value} {r : mL} : Ev d μ ((.astore 11, g) :: is) (l0 :: l1 :: l2 :: l3 :: l4 :: l5 :: l6 :: l7 :: l8 :: l9 :: l10 :: l11 :: r) (.null :: st) M Q ↔ Ev d μ is (l0 :: l1 :: l2 :: l3 :: l4 :: l5 :: l6 :: l7 :: l8 :: l9 :: lkl l10 :: some .null :: r) st M Q := by
  rw [ev_astoreN]
  exact ⟨fun h => h.2, fun h => ⟨by simp, h⟩⟩
theorem ev_ls11 {l0 l1 l2 l3 l4 l5 l6 l7 l8 l9 l10 : Option Value} {l11 l12 : Option Value} {r : mL} {x : Int64} : Ev d μ ((.lstore 11, g) :: is) (l0 :: l1 :: l2 :: l3 :: l4 :: l5 :: l6 :: l7 :: l8 :: l9 :: l10 :: l11 :: l12 :: r) (.long x :: st) M Q ↔ Ev d μ is (l0 :: l1 :: l2 :: l3 :: l4 :: l5 :: l6 :: l7 :: l8 :: l9 :: lkl l10 :: some (.long x) :: none :: r) st M Q := by
  rw [ev_lstore]
  exact ⟨fun h => h.2, fun h => ⟨by simp, h⟩⟩
theorem ev_inc12 {l0 l1 l2 l3 l4 l5 l6 l7 l8 l9 l10 l11 : Option Value} {r : mL} {n : Int} {x : Int32} : Ev d μ ((.iinc 12 n, g) :: is) (l0 :: l1 :: l2 :: l3 :: l4 :: l5 :: l6 :: l7 :: l8 :: l9 :: l10 :: l11 :: some (.int x) :: r) st M Q ↔ Ev d μ is (l0 :: l1 :: l2 :: l3 :: l4 :: l5 :: l6 :: l7 :: l8 :: l9 :: l10 :: lkl l11 :: some (.int (x + Int32.ofInt n)) :: r) st M Q := by
  rw [ev_iinc (show lget (l0 :: l1 :: l2 :: l3 :: l4 :: l5 :: l6 :: l7 :: l8 :: l9 :: l10 :: l11 :: some (.int x) :: r) 12 = some (.int x) from rfl)]
  exact ⟨fun h => h.2, fun h => ⟨by simp, h⟩⟩
theorem ev_is12 {l0 l1 l2 l3 l4 l5 l6 l7 l8 l9 l10 l11 : Option Value} {l12 : Option Value} {r : mL} {x : Int32} : Ev d μ ((.istore 12, g) :: is) (l0 :: l1 :: l2 :: l3 :: l4 :: l5 :: l6 :: l7 :: l8 :: l9 :: l10 :: l11 :: l12 :: r) (.int x :: st) M Q ↔ Ev d μ is (l0 :: l1 :: l2 :: l3 :: l4 :: l5 :: l6 :: l7 :: l8 :: l9 :: l10 :: lkl l11 :: some (.int x) :: r) st M Q := by
  rw [ev_istore]
  exact ⟨fun h => h.2, fun h => ⟨by simp, h⟩⟩
theorem ev_as12 {l0 l1 l2 l3 l4 l5 l6 l7 l8 l9 l10 l11 : Option Value} {l12 : Option Value} {r : mL} {x : Nat} : Ev d μ ((.astore 12, g) :: is) (l0 :: l1 :: l2 :: l3 :: l4 :: l5 :: l6 :: l7 :: l8 :: l9 :: l10 :: l11 :: l12 :: r) (.ref x :: st) M Q ↔ Ev d μ is (l0 :: l1 :: l2 :: l3 :: l4 :: l5 :: l6 :: l7 :: l8 :: l9 :: l10 :: lkl l11 :: some (.ref x) :: r) st M Q := by
  rw [ev_astore]
  exact ⟨fun h => h.2, fun h => ⟨by simp, h⟩⟩
theorem ev_asN12 {l0 l1 l2 l3 l4 l5 l6 l7 l8 l9 l10 l11 : Option Value} {l12 : Option Value} {r : mL} : Ev d μ ((.astore 12, g) :: is) (l0 :: l1 :: l2 :: l3 :: l4 :: l5 :: l6 :: l7 :: l8 :: l9 :: l10 :: l11 :: l12 :: r) (.null :: st) M Q ↔ Ev d μ is (l0 :: l1 :: l2 :: l3 :: l4 :: l5 :: l6 :: l7 :: l8 :: l9 :: l10 :: lkl l11 :: some .null :: r) st M Q := by
  rw [ev_astoreN]
  exact ⟨fun h => h.2, fun h => ⟨by simp, h⟩⟩
theorem ev_ls12 {l0 l1 l2 l3 l4 l5 l6 l7 l8 l9 l10 l11 : Option Value} {l12 l13 : Option Value} {r : mL} {x : Int64} : Ev d μ ((.lstore 12, g) :: is) (l0 :: l1 :: l2 :: l3 :: l4 :: l5 :: l6 :: l7 :: l8 :: l9 :: l10 :: l11 :: l12 :: l13 :: r) (.long x :: st) M Q ↔ Ev d μ is (l0 :: l1 :: l2 :: l3 :: l4 :: l5 :: l6 :: l7 :: l8 :: l9 :: l10 :: lkl l11 :: some (.long x) :: none :: r) st M Q := by
  rw [ev_lstore]
  exact ⟨fun h => h.2, fun h => ⟨by simp, h⟩⟩
theorem ev_inc13 {l0 l1 l2 l3 l4 l5 l6 l7 l8 l9 l10 l11 l12 : Option Value} {r : mL} {n : Int} {x : Int32} : Ev d μ ((.iinc 13 n, g) :: is) (l0 :: l1 :: l2 :: l3 :: l4 :: l5 :: l6 :: l7 :: l8 :: l9 :: l10 :: l11 :: l12 :: some (.int x) :: r) st M Q ↔ Ev d μ is (l0 :: l1 :: l2 :: l3 :: l4 :: l5 :: l6 :: l7 :: l8 :: l9 :: l10 :: l11 :: lkl l12 :: some (.int (x + Int32.ofInt n)) :: r) st M Q := by
  rw [ev_iinc (show lget (l0 :: l1 :: l2 :: l3 :: l4 :: l5 :: l6 :: l7 :: l8 :: l9 :: l10 :: l11 :: l12 :: some (.int x) :: r) 13 = some (.int x) from rfl)]
  exact ⟨fun h => h.2, fun h => ⟨by simp, h⟩⟩
theorem ev_is13 {l0 l1 l2 l3 l4 l5 l6 l7 l8 l9 l10 l11 l12 : Option Value} {l13 : Option Value} {r : mL} {x : Int32} : Ev d μ ((.istore 13, g) :: is) (l0 :: l1 :: l2 :: l3 :: l4 :: l5 :: l6 :: l7 :: l8 :: l9 :: l10 :: l11 :: l12 :: l13 :: r) (.int x :: st) M Q ↔ Ev d μ is (l0 :: l1 :: l2 :: l3 :: l4 :: l5 :: l6 :: l7 :: l8 :: l9 :: l10 :: l11 :: lkl l12 :: some (.int x) :: r) st M Q := by
  rw [ev_istore]
  exact ⟨fun h => h.2, fun h => ⟨by simp, h⟩⟩
theorem ev_as13 {l0 l1 l2 l3 l4 l5 l6 l7 l8 l9 l10 l11 l12 : Option Value} {l13 : Option Value} {r : mL} {x : Nat} : Ev d μ ((.astore 13, g) :: is) (l0 :: l1 :: l2 :: l3 :: l4 :: l5 :: l6 :: l7 :: l8 :: l9 :: l10 :: l11 :: l12 :: l13 :: r) (.ref x :: st) M Q ↔ Ev d μ is (l0 :: l1 :: l2 :: l3 :: l4 :: l5 :: l6 :: l7 :: l8 :: l9 :: l10 :: l11 :: lkl l12 :: some (.ref x) :: r) st M Q := by
  rw [ev_astore]
  exact ⟨fun h => h.2, fun h => ⟨by simp, h⟩⟩
theorem ev_asN13 {l0 l1 l2 l3 l4 l5 l6 l7 l8 l9 l10 l11 l12 : Option Value} {l13 : Option Value} {r : mL} : Ev d μ ((.astore 13, g) :: is) (l0 :: l1 :: l2 :: l3 :: l4 :: l5 :: l6 :: l7 :: l8 :: l9 :: l10 :: l11 :: l12 :: l13 :: r) (.null :: st) M Q ↔ Ev d μ is (l0 :: l1 :: l2 :: l3 :: l4 :: l5 :: l6 :: l7 :: l8 :: l9 :: l10 :: l11 :: lkl l12 :: some .null :: r) st M Q := by
  rw [ev_astoreN]
  exact ⟨fun h => h.2, fun h => ⟨by simp, h⟩⟩
theorem ev_ls13 {l0 l1 l2 l3 l4 l5 l6 l7 l8 l9 l10 l11 l12 : Option Value} {l13 l14 : Option Value} {r : mL} {x : Int64} : Ev d μ ((.lstore 13, g) :: is) (l0 :: l1 :: l2 :: l3 :: l4 :: l5 :: l6 :: l7 :: l8 :: l9 :: l10 :: l11 :: l12 :: l13 :: l14 :: r) (.long x :: st) M Q ↔ Ev d μ is (l0 :: l1 :: l2 :: l3 :: l4 :: l5 :: l6 :: l7 :: l8 :: l9 :: l10 :: l11 :: lkl l12 :: some (.long x) :: none :: r) st M Q := by
  rw [ev_lstore]
  exact ⟨fun h => h.2, fun h => ⟨by simp, h⟩⟩
theorem lkl_none : lkl none = none := rfl
theorem lkl_int {x : Int32} : lkl (some (.int x)) = some (.int x) := rfl
theorem lkl_ref {x : Nat} : lkl (some (.ref x)) = some (.ref x) := rfl
theorem lkl_null : lkl (some .null) = some .null := rfl
theorem lkl_long {x : Int64} : lkl (some (.long x)) = none := rfl
theorem ev_iadd {x y : Int32} : Ev d μ ((.iadd, g) :: is) L (.int y :: .int x :: st) M Q ↔ Ev d μ is L (.int (x + y) :: st) M Q := ev_nx rfl
theorem ev_isub {x y : Int32} : Ev d μ ((.isub, g) :: is) L (.int y :: .int x :: st) M Q ↔ Ev d μ is L (.int (x - y) :: st) M Q := ev_nx rfl
theorem ev_imul {x y : Int32} : Ev d μ ((.imul, g) :: is) L (.int y :: .int x :: st) M Q ↔ Ev d μ is L (.int (x * y) :: st) M Q := ev_nx rfl
theorem ev_iand {x y : Int32} : Ev d μ ((.iand, g) :: is) L (.int y :: .int x :: st) M Q ↔ Ev d μ is L (.int (x &&& y) :: st) M Q := ev_nx rfl
theorem ev_ior {x y : Int32} : Ev d μ ((.ior, g) :: is) L (.int y :: .int x :: st) M Q ↔ Ev d μ is L (.int (x ||| y) :: st) M Q := ev_nx rfl
theorem ev_ixor {x y : Int32} : Ev d μ ((.ixor, g) :: is) L (.int y :: .int x :: st) M Q ↔ Ev d μ is L (.int (x ^^^ y) :: st) M Q := ev_nx rfl
theorem ev_ishl {x y : Int32} : Ev d μ ((.ishl, g) :: is) L (.int y :: .int x :: st) M Q ↔ Ev d μ is L (.int (x <<< (y &&& 31)) :: st) M Q := ev_nx rfl
theorem ev_ishr {x y : Int32} : Ev d μ ((.ishr, g) :: is) L (.int y :: .int x :: st) M Q ↔ Ev d μ is L (.int (x >>> (y &&& 31)) :: st) M Q := ev_nx rfl
theorem ev_iushr {x y : Int32} : Ev d μ ((.iushr, g) :: is) L (.int y :: .int x :: st) M Q ↔ Ev d μ is L (.int ((x.toUInt32 >>> (y.toUInt32 &&& Int32.toUInt32 31)).toInt32) :: st) M Q := ev_nx rfl
theorem ev_ladd {x y : Int64} : Ev d μ ((.ladd, g) :: is) L (.long y :: .long x :: st) M Q ↔ Ev d μ is L (.long (x + y) :: st) M Q := ev_nx rfl
theorem ev_lsub {x y : Int64} : Ev d μ ((.lsub, g) :: is) L (.long y :: .long x :: st) M Q ↔ Ev d μ is L (.long (x - y) :: st) M Q := ev_nx rfl
theorem ev_land {x y : Int64} : Ev d μ ((.land, g) :: is) L (.long y :: .long x :: st) M Q ↔ Ev d μ is L (.long (x &&& y) :: st) M Q := ev_nx rfl
theorem ev_lor {x y : Int64} : Ev d μ ((.lor, g) :: is) L (.long y :: .long x :: st) M Q ↔ Ev d μ is L (.long (x ||| y) :: st) M Q := ev_nx rfl
theorem ev_lxor {x y : Int64} : Ev d μ ((.lxor, g) :: is) L (.long y :: .long x :: st) M Q ↔ Ev d μ is L (.long (x ^^^ y) :: st) M Q := ev_nx rfl
theorem ev_lshl {x : Int64} {y : Int32} : Ev d μ ((.lshl, g) :: is) L (.int y :: .long x :: st) M Q ↔ Ev d μ is L (.long (x <<< (y.toInt64 &&& 63)) :: st) M Q := ev_nx rfl
theorem ev_lshr {x : Int64} {y : Int32} : Ev d μ ((.lshr, g) :: is) L (.int y :: .long x :: st) M Q ↔ Ev d μ is L (.long (x >>> (y.toInt64 &&& 63)) :: st) M Q := ev_nx rfl
theorem ev_lushr {x : Int64} {y : Int32} : Ev d μ ((.lushr, g) :: is) L (.int y :: .long x :: st) M Q ↔ Ev d μ is L (.long ((x.toUInt64 >>> (y.toInt64.toUInt64 &&& Int64.toUInt64 63)).toInt64) :: st) M Q := ev_nx rfl
theorem ev_lcmp {x y : Int64} : Ev d μ ((.lcmp, g) :: is) L (.long y :: .long x :: st) M Q ↔ Ev d μ is L (.int (lg_cmp x y) :: st) M Q := ev_nx rfl
theorem ev_ineg {x : Int32} : Ev d μ ((.ineg, g) :: is) L (.int x :: st) M Q ↔ Ev d μ is L (.int (-x) :: st) M Q := ev_nx rfl
theorem ev_i2l {x : Int32} : Ev d μ ((.i2l, g) :: is) L (.int x :: st) M Q ↔ Ev d μ is L (.long x.toInt64 :: st) M Q := ev_nx rfl
theorem ev_l2i {x : Int64} : Ev d μ ((.l2i, g) :: is) L (.long x :: st) M Q ↔ Ev d μ is L (.int x.toInt32 :: st) M Q := ev_nx rfl
theorem ev_i2b {x : Int32} : Ev d μ ((.i2b, g) :: is) L (.int x :: st) M Q ↔ Ev d μ is L (.int x.toInt8.toInt32 :: st) M Q := ev_nx rfl
theorem ev_i2s {x : Int32} : Ev d μ ((.i2s, g) :: is) L (.int x :: st) M Q ↔ Ev d μ is L (.int x.toInt16.toInt32 :: st) M Q := ev_nx rfl
theorem ev_dupi {x : Int32} : Ev d μ ((.dup, g) :: is) L (.int x :: st) M Q ↔ Ev d μ is L (.int x :: .int x :: st) M Q := ev_nx rfl
theorem ev_dupr {x : Nat} : Ev d μ ((.dup, g) :: is) L (.ref x :: st) M Q ↔ Ev d μ is L (.ref x :: .ref x :: st) M Q := ev_nx rfl
theorem ev_dup2l {x : Int64} : Ev d μ ((.dup2, g) :: is) L (.long x :: st) M Q ↔ Ev d μ is L (.long x :: .long x :: st) M Q := ev_nx rfl
theorem ev_dup2ir {x : Int32} {y : Nat} : Ev d μ ((.dup2, g) :: is) L (.int x :: .ref y :: st) M Q ↔ Ev d μ is L (.int x :: .ref y :: .int x :: .ref y :: st) M Q := ev_nx rfl
theorem ev_popi {x : Int32} : Ev d μ ((.pop, g) :: is) L (.int x :: st) M Q ↔ Ev d μ is L st M Q := ev_nx rfl
theorem ev_popr {x : Nat} : Ev d μ ((.pop, g) :: is) L (.ref x :: st) M Q ↔ Ev d μ is L st M Q := ev_nx rfl
theorem ev_idiv {x y : Int32} : Ev d μ ((.idiv, g) :: is) L (.int y :: .int x :: st) M Q ↔ ¬ y = 0 ∧ Ev d μ is L (.int (x / y) :: st) M Q := ev_gd (fun h => by simp only [ms, mnx, if_pos h]) (fun h => by simp only [ms, if_neg h])
theorem ev_irem {x y : Int32} : Ev d μ ((.irem, g) :: is) L (.int y :: .int x :: st) M Q ↔ ¬ y = 0 ∧ Ev d μ is L (.int (x - x / y * y) :: st) M Q := ev_gd (fun h => by simp only [ms, mnx, if_pos h]) (fun h => by simp only [ms, if_neg h])
theorem ev_iaload {j : Int32} {p : Nat} : Ev d μ ((.iaload, g) :: is) L (.int j :: .ref p :: st) M Q ↔ okI (M.1 p) j = true ∧ Ev d μ is L (.int (rdI (M.1 p) j) :: st) M Q := by
  cases h : gI (M.1 p) with
  | none => exact ev_gd (fun hc => by simp [okI, h] at hc) (fun _ => by simp only [ms, h])
  | some x =>
    obtain ⟨n, f⟩ := x
    refine ev_gd (fun hc => ?_) (fun hc => ?_)
    · simp only [okI, h, decide_eq_true_eq] at hc
      simp only [ms, mnx, h, rdI, if_pos hc]
    · simp only [okI, h, decide_eq_true_eq] at hc
      simp only [ms, h, if_neg hc]
theorem ev_laload {j : Int32} {p : Nat} : Ev d μ ((.laload, g) :: is) L (.int j :: .ref p :: st) M Q ↔ okJ (M.1 p) j = true ∧ Ev d μ is L (.long (rdJ (M.1 p) j) :: st) M Q := by
  cases h : gJ (M.1 p) with
  | none => exact ev_gd (fun hc => by simp [okJ, h] at hc) (fun _ => by simp only [ms, h])
  | some x =>
    obtain ⟨n, f⟩ := x
    refine ev_gd (fun hc => ?_) (fun hc => ?_)
    · simp only [okJ, h, decide_eq_true_eq] at hc
      simp only [ms, mnx, h, rdJ, if_pos hc]
    · simp only [okJ, h, decide_eq_true_eq] at hc
      simp only [ms, h, if_neg hc]
theorem ev_aaload {j : Int32} {p : Nat} : Ev d μ ((.aaload, g) :: is) L (.int j :: .ref p :: st) M Q ↔ (3 ≤ p ∧ okR (M.1 p) j = true) ∧ Ev d μ is L (va_rf (rdR (M.1 p) j) :: st) M Q := by
  cases h : gR (M.1 p) with
  | none => exact ev_gd (fun hc => by simp [okR, h] at hc) (fun _ => by simp only [ms, h])
  | some x =>
    obtain ⟨t, n, f⟩ := x
    refine ev_gd (fun hc => ?_) (fun hc => ?_)
    · simp only [okR, h, decide_eq_true_eq] at hc
      simp only [ms, mnx, h, rdR, if_pos hc]
    · simp only [okR, h, decide_eq_true_eq] at hc
      simp only [ms, h, if_neg hc]
theorem ev_iastore {j x : Int32} {p : Nat} : Ev d μ ((.iastore, g) :: is) L (.int x :: .int j :: .ref p :: st) M Q ↔ (3 ≤ p ∧ okI (M.1 p) j = true) ∧ Ev d μ is L st (mu M p (wrI (M.1 p) j x)) Q := by
  cases h : gI (M.1 p) with
  | none => exact ev_gd (fun hc => by simp [okI, h] at hc) (fun _ => by simp only [ms, h])
  | some x =>
    obtain ⟨n, f⟩ := x
    refine ev_gd (fun hc => ?_) (fun hc => ?_)
    · simp only [okI, h, decide_eq_true_eq] at hc
      simp only [ms, mnx, h, wrI, if_pos hc]
    · simp only [okI, h, decide_eq_true_eq] at hc
      simp only [ms, h, if_neg hc]
theorem ev_lastore {j : Int32} {x : Int64} {p : Nat} : Ev d μ ((.lastore, g) :: is) L (.long x :: .int j :: .ref p :: st) M Q ↔ (3 ≤ p ∧ okJ (M.1 p) j = true) ∧ Ev d μ is L st (mu M p (wrJ (M.1 p) j x)) Q := by
  cases h : gJ (M.1 p) with
  | none => exact ev_gd (fun hc => by simp [okJ, h] at hc) (fun _ => by simp only [ms, h])
  | some x =>
    obtain ⟨n, f⟩ := x
    refine ev_gd (fun hc => ?_) (fun hc => ?_)
    · simp only [okJ, h, decide_eq_true_eq] at hc
      simp only [ms, mnx, h, wrJ, if_pos hc]
    · simp only [okJ, h, decide_eq_true_eq] at hc
      simp only [ms, h, if_neg hc]
theorem ev_alenI {p n : Nat} {f : Nat → Int32} (h : M.1 p = some (cI n f)) : Ev d μ ((.arraylength, g) :: is) L (.ref p :: st) M Q ↔ (3 ≤ p ∨ p = 0) ∧ Ev d μ is L (.int (Int32.ofNat n) :: st) M Q := ev_gd (fun hc => by simp only [ms, mnx, h, if_pos (And.intro hc (show 0 < 4 by decide))]) (fun hc => by simp only [ms, h]; rw [if_neg (fun z => hc z.1)])
theorem ev_alenJ {p n : Nat} {f : Nat → Int64} (h : M.1 p = some (cJ n f)) : Ev d μ ((.arraylength, g) :: is) L (.ref p :: st) M Q ↔ (3 ≤ p ∨ p = 0) ∧ Ev d μ is L (.int (Int32.ofNat n) :: st) M Q := ev_gd (fun hc => by simp only [ms, mnx, h, if_pos (And.intro hc (show 1 < 4 by decide))]) (fun hc => by simp only [ms, h]; rw [if_neg (fun z => hc z.1)])
theorem ev_getf {ci k p : Nat} : Ev d μ ((.getfield 0, [ci, k]) :: is) L (.ref p :: st) M Q ↔ (3 ≤ p ∧ okO ci k (M.1 p) = true) ∧ Ev d μ is L (rdO k (M.1 p) :: st) M Q := by
  cases h : gO (M.1 p) with
  | none => exact ev_gd (fun hc => by simp [okO, h] at hc) (fun _ => by simp only [ms, h])
  | some x =>
    obtain ⟨c, fs⟩ := x
    refine ev_gd (fun hc => ?_) (fun hc => ?_)
    · simp only [okO, h, decide_eq_true_eq] at hc
      simp only [ms, mnx, h, rdO, if_pos (And.intro hc.1 hc.2.1), fget_eq fs k hc.2.2]
    · simp only [okO, h, decide_eq_true_eq] at hc
      simp only [ms, mnx, h]
      split
      next hx =>
        have : fs[k]? = none := List.getElem?_eq_none (Nat.le_of_not_lt (fun z => hc ⟨hx.1, hx.2, z⟩))
        rw [this]
      next => rfl
theorem ev_putf {ci k t p : Nat} {v : Value} : Ev d μ ((.putfield 0, [ci, k, t]) :: is) L (v :: .ref p :: st) M Q ↔ (3 ≤ p ∧ okO ci k (M.1 p) = true ∧ mfit t v = true) ∧ Ev d μ is L st (mu M p (wrO k v (M.1 p))) Q := by
  cases h : gO (M.1 p) with
  | none => exact ev_gd (fun hc => by simp [okO, h] at hc) (fun _ => by simp only [ms, h])
  | some x =>
    obtain ⟨c, fs⟩ := x
    refine ev_gd (fun hc => ?_) (fun hc => ?_)
    · simp only [okO, h, decide_eq_true_eq] at hc
      simp only [ms, mnx, h, wrO, if_pos (show 3 ≤ p ∧ c = ci ∧ k < fs.length ∧ mfit t v = true from ⟨hc.1, hc.2.1.1, hc.2.1.2, hc.2.2⟩), fset_eq]
    · simp only [okO, h, decide_eq_true_eq] at hc
      simp only [ms, h]
      rw [if_neg (fun z => hc ⟨z.1, ⟨z.2.1, z.2.2.1⟩, z.2.2.2⟩)]
theorem ev_gets1 : Ev d μ ((.getstatic 0, [1]) :: is) L st M Q ↔ Ev d μ is L (.ref 1 :: st) M Q := ev_nx rfl
theorem ev_gets2 : Ev d μ ((.getstatic 0, [2]) :: is) L st M Q ↔ Ev d μ is L (.ref 2 :: st) M Q := ev_nx rfl
theorem ev_new {ci : Nat} : Ev d μ ((.new 0, [ci]) :: is) L st M Q ↔ Ev d μ is L (.ref M.2.1 :: st) (mp M (cO ci (mnew ci)) (mnew ci).length) Q := ev_nx rfl
theorem ev_newi {n : Int32} : Ev d μ ((.newarray .int, g) :: is) L (.int n :: st) M Q ↔ (¬ n < 0 ∧ n.toNatClampNeg ≤ 60000) ∧ Ev d μ is L (.ref M.2.1 :: st) (mp M (cI n.toNatClampNeg (fun _ => 0)) n.toNatClampNeg) Q := ev_gd (fun h => by simp only [ms, mnx, if_pos h]) (fun h => by simp only [ms, if_neg h])
theorem ev_newl {n : Int32} : Ev d μ ((.newarray .long, g) :: is) L (.int n :: st) M Q ↔ (¬ n < 0 ∧ n.toNatClampNeg ≤ 60000) ∧ Ev d μ is L (.ref M.2.1 :: st) (mp M (cJ n.toNatClampNeg (fun _ => 0)) n.toNatClampNeg) Q := ev_gd (fun h => by simp only [ms, mnx, if_pos h]) (fun h => by simp only [ms, if_neg h])
theorem ev_newq {t : Nat} {n : Int32} : Ev d μ ((.anewarray 0, [t]) :: is) L (.int n :: st) M Q ↔ (¬ n < 0 ∧ n.toNatClampNeg ≤ 60000) ∧ Ev d μ is L (.ref M.2.1 :: st) (mp M (cR t n.toNatClampNeg (fun _ => none)) n.toNatClampNeg) Q := ev_gd (fun h => by simp only [ms, mnx, if_pos h]) (fun h => by simp only [ms, if_neg h])
theorem ev_goto {t : Nat} : Ev d μ ((.goto 0, [t]) :: is) L st M Q ↔ Ev d μ (mat mTab μ t) L st M Q := ev_jp rfl
theorem ev_br {i : Instr} {t : Nat} {c : Prop} {b : Decidable c} {st0 : List Value} (h : ms i [t] L st0 M = mbr [t] (@decide c b) L st M) : Ev d μ ((i, [t]) :: is) L st0 M Q ↔ if c then Ev d μ (mat mTab μ t) L st M Q else Ev d μ is L st M Q := by
  by_cases hc : c
  · rw [if_pos hc, ev_jp (t := t) (L' := L) (st' := st) (M' := M)]
    rw [h]
    simp [mbr, mjp, hc]
  · rw [if_neg hc, ev_nx (L' := L) (st' := st) (M' := M)]
    rw [h]
    simp [mbr, mnx, hc]
theorem ev_iceq {x y : Int32} {t : Nat} : Ev d μ ((.if_icmp .eq 0, [t]) :: is) L (.int y :: .int x :: st) M Q ↔ if x = y then Ev d μ (mat mTab μ t) L st M Q else Ev d μ is L st M Q := ev_br rfl
theorem ev_icne {x y : Int32} {t : Nat} : Ev d μ ((.if_icmp .ne 0, [t]) :: is) L (.int y :: .int x :: st) M Q ↔ if ¬ x = y then Ev d μ (mat mTab μ t) L st M Q else Ev d μ is L st M Q := ev_br rfl
theorem ev_iclt {x y : Int32} {t : Nat} : Ev d μ ((.if_icmp .lt 0, [t]) :: is) L (.int y :: .int x :: st) M Q ↔ if x < y then Ev d μ (mat mTab μ t) L st M Q else Ev d μ is L st M Q := ev_br rfl
theorem ev_icge {x y : Int32} {t : Nat} : Ev d μ ((.if_icmp .ge 0, [t]) :: is) L (.int y :: .int x :: st) M Q ↔ if y ≤ x then Ev d μ (mat mTab μ t) L st M Q else Ev d μ is L st M Q := ev_br rfl
theorem ev_icgt {x y : Int32} {t : Nat} : Ev d μ ((.if_icmp .gt 0, [t]) :: is) L (.int y :: .int x :: st) M Q ↔ if y < x then Ev d μ (mat mTab μ t) L st M Q else Ev d μ is L st M Q := ev_br rfl
theorem ev_icle {x y : Int32} {t : Nat} : Ev d μ ((.if_icmp .le 0, [t]) :: is) L (.int y :: .int x :: st) M Q ↔ if x ≤ y then Ev d μ (mat mTab μ t) L st M Q else Ev d μ is L st M Q := ev_br rfl
theorem ev_ifeq {x : Int32} {t : Nat} : Ev d μ ((.ifCond .eq 0, [t]) :: is) L (.int x :: st) M Q ↔ if x = 0 then Ev d μ (mat mTab μ t) L st M Q else Ev d μ is L st M Q := ev_br rfl
theorem ev_ifne {x : Int32} {t : Nat} : Ev d μ ((.ifCond .ne 0, [t]) :: is) L (.int x :: st) M Q ↔ if ¬ x = 0 then Ev d μ (mat mTab μ t) L st M Q else Ev d μ is L st M Q := ev_br rfl
theorem ev_iflt {x : Int32} {t : Nat} : Ev d μ ((.ifCond .lt 0, [t]) :: is) L (.int x :: st) M Q ↔ if x < 0 then Ev d μ (mat mTab μ t) L st M Q else Ev d μ is L st M Q := ev_br rfl
theorem ev_ifge {x : Int32} {t : Nat} : Ev d μ ((.ifCond .ge 0, [t]) :: is) L (.int x :: st) M Q ↔ if 0 ≤ x then Ev d μ (mat mTab μ t) L st M Q else Ev d μ is L st M Q := ev_br rfl
theorem ev_ifgt {x : Int32} {t : Nat} : Ev d μ ((.ifCond .gt 0, [t]) :: is) L (.int x :: st) M Q ↔ if 0 < x then Ev d μ (mat mTab μ t) L st M Q else Ev d μ is L st M Q := ev_br rfl
theorem ev_ifle {x : Int32} {t : Nat} : Ev d μ ((.ifCond .le 0, [t]) :: is) L (.int x :: st) M Q ↔ if x ≤ 0 then Ev d μ (mat mTab μ t) L st M Q else Ev d μ is L st M Q := ev_br rfl
theorem ev_ifnullR {x t : Nat} : Ev d μ ((.ifnull 0, [t]) :: is) L (.ref x :: st) M Q ↔ Ev d μ is L st M Q := ev_nx rfl
theorem ev_ifnullN {t : Nat} : Ev d μ ((.ifnull 0, [t]) :: is) L (.null :: st) M Q ↔ Ev d μ (mat mTab μ t) L st M Q := ev_jp rfl
theorem ev_ifnonnullR {x t : Nat} : Ev d μ ((.ifnonnull 0, [t]) :: is) L (.ref x :: st) M Q ↔ Ev d μ (mat mTab μ t) L st M Q := ev_jp rfl
theorem ev_ifnonnullN {t : Nat} : Ev d μ ((.ifnonnull 0, [t]) :: is) L (.null :: st) M Q ↔ Ev d μ is L st M Q := ev_nx rfl
theorem ev_tabO {lo hi : Int} {a : Array Int} {x : Int32} {t : Nat} {ts : List Nat} (h : x.toInt < lo ∨ hi < x.toInt) : Ev d μ ((.tableswitch 0 lo hi a, t :: ts) :: is) L (.int x :: st) M Q ↔ Ev d μ (mat mTab μ t) L st M Q := ev_jp (by simp only [ms, mjp, if_pos h])
theorem ev_tabI {lo hi : Int} {a : Array Int} {x : Int32} {t t' : Nat} {ts : List Nat} (h : ¬ (x.toInt < lo ∨ hi < x.toInt)) (ht : ts[(x.toInt - lo).toNat]? = some t') : Ev d μ ((.tableswitch 0 lo hi a, t :: ts) :: is) L (.int x :: st) M Q ↔ Ev d μ (mat mTab μ t') L st M Q := ev_jp (by simp only [ms, mjp, if_neg h, ht])
theorem ev_look {dd : Int} {ps : Array (Int × Int)} {x : Int32} {pc t : Nat} (h : (pc : Int) + Op.lookupswitch.offset ps.toList dd x.toInt = (t : Int)) : Ev d μ ((.lookupswitch dd ps, [pc]) :: is) L (.int x :: st) M Q ↔ Ev d μ (mat mTab μ t) L st M Q := by
  refine ev_jp ?_
  simp only [ms, mjp, h]
  rw [if_pos (Int.natCast_nonneg t)]
  rfl
theorem ev_oinit {p : Nat} : Ev d μ ((.invokespecial 0, []) :: is) L (.ref p :: st) M Q ↔ mcat st ≤ 8 ∧ Ev d μ is L st M Q := ev_gd (fun h => by show (if mcat st ≤ 8 then mnx L st M else none) = _; rw [if_pos h]; rfl) (fun h => by show (if mcat st ≤ 8 then mnx L st M else none) = _; rw [if_neg h])
theorem ev_ireturn {v : Int32} : Ev d μ ((.ireturn, []) :: is) L [.int v] M Q ↔ Q (some (.int v)) M := ev_rt rfl
theorem ev_zreturn {v : Int32} (h : v = 0 ∨ v = 1) : Ev d μ ((.ireturn, [1]) :: is) L [.int v] M Q ↔ Q (some (.int v)) M := ev_rt (by simp only [ms, if_pos h])
theorem ev_zret0 : Ev d μ ((.ireturn, [1]) :: is) L [.int 0] M Q ↔ Q (some (.int 0)) M := ev_zreturn (Or.inl rfl)
theorem ev_zret1 : Ev d μ ((.ireturn, [1]) :: is) L [.int 1] M Q ↔ Q (some (.int 1)) M := ev_zreturn (Or.inr rfl)
theorem ev_lreturn {v : Int64} : Ev d μ ((.lreturn, g) :: is) L [.long v] M Q ↔ Q (some (.long v)) M := ev_rt rfl
theorem ev_areturn {v : Nat} : Ev d μ ((.areturn, g) :: is) L [.ref v] M Q ↔ Q (some (.ref v)) M := ev_rt rfl
theorem ev_areturnN : Ev d μ ((.areturn, g) :: is) L [.null] M Q ↔ Q (some .null) M := ev_rt rfl
theorem ev_return : Ev d μ ((.return_, g) :: is) L [] M Q ↔ Q none M := ev_rt rfl
theorem ev_mmax {x y : Int32} : Ev d μ ((.invokestatic 0, [1]) :: is) L (.int y :: .int x :: st) M Q ↔ mcat st ≤ 8 ∧ Ev d μ is L (.int (if x < y then y else x) :: st) M Q := ev_gd (fun h => by simp only [ms, mnx, if_pos h]) (fun h => by simp only [ms, if_neg h])
theorem ev_mmin {x y : Int32} : Ev d μ ((.invokestatic 0, [2]) :: is) L (.int y :: .int x :: st) M Q ↔ mcat st ≤ 8 ∧ Ev d μ is L (.int (if y < x then y else x) :: st) M Q := ev_gd (fun h => by simp only [ms, mnx, if_pos h]) (fun h => by simp only [ms, if_neg h])
theorem ev_copyl {n dp sp : Int32} {p q n0 n1 : Nat} {f h : Nat → Int64} (hp : M.1 p = some (cJ n0 f)) (hq : M.1 q = some (cJ n1 h)) (h3 : 3 ≤ q) (h30 : 3 ≤ p ∨ p = 2) (h1 : ¬ sp < 0) (h2 : ¬ dp < 0) (h4 : ¬ n < 0) (hcat : mcat st ≤ 8) (h5 : sp.toNatClampNeg + n.toNatClampNeg ≤ n0) (h6 : dp.toNatClampNeg + n.toNatClampNeg ≤ n1) : Ev d μ ((.invokestatic 0, []) :: is) L (.int n :: .int dp :: .ref q :: .int sp :: .ref p :: st) M Q ↔ Ev d μ is L st (mu M q (cJ n1 (va_cpy f h sp.toNatClampNeg dp.toNatClampNeg n.toNatClampNeg))) Q := by
  refine ev_nx ?_
  simp only [ms, mcopy]
  rw [if_pos ⟨h3, h1, h2, h4, hcat⟩, hp, hq]
  simp only [gI, gJ, mnx]
  rw [if_pos ⟨h30, h5, h6⟩]
theorem ev_copyi {n dp sp : Int32} {p q n0 n1 : Nat} {f h : Nat → Int32} (hp : M.1 p = some (cI n0 f)) (hq : M.1 q = some (cI n1 h)) (h3 : 3 ≤ q) (h30 : 3 ≤ p) (h1 : ¬ sp < 0) (h2 : ¬ dp < 0) (h4 : ¬ n < 0) (hcat : mcat st ≤ 8) (h5 : sp.toNatClampNeg + n.toNatClampNeg ≤ n0) (h6 : dp.toNatClampNeg + n.toNatClampNeg ≤ n1) : Ev d μ ((.invokestatic 0, []) :: is) L (.int n :: .int dp :: .ref q :: .int sp :: .ref p :: st) M Q ↔ Ev d μ is L st (mu M q (cI n1 (va_cpy f h sp.toNatClampNeg dp.toNatClampNeg n.toNatClampNeg))) Q := by
  refine ev_nx ?_
  simp only [ms, mcopy]
  rw [if_pos ⟨h3, h1, h2, h4, hcat⟩, hp, hq]
  simp only [gI, mnx]
  rw [if_pos ⟨h30, h5, h6⟩]
theorem ev_aastore {j : Int32} {x p t n c : Nat} {f : Nat → Option Nat} {fs : List Value} (hp : M.1 p = some (cR (t + 2) n f)) (hx : M.1 x = some (cO c fs)) (h3 : 3 ≤ p) (h3x : 3 ≤ x) (hin : vp_in j n) (ht : (t = 0 ∧ c = 6) ∨ (t = 1 ∧ c = 5)) : Ev d μ ((.aastore, g) :: is) L (.ref x :: .int j :: .ref p :: st) M Q ↔ Ev d μ is L st (mu M p (cR (t + 2) n (va_up f j.toNatClampNeg (some x)))) Q := by
  refine ev_nx ?_
  simp only [ms, hp, hx, gR, gO, mnx]
  rw [if_pos ⟨h3, h3x, hin, by omega⟩]
theorem ev_vc0 {μ' p ci : Nat} {v : Option Value} {M' : mM} (hr : Rt d μ' [.ref p] M v M') (ho : (3 ≤ p ∧ isO ci (M.1 p) = true) ∧ mcat st ≤ 8) : Ev (d + 1) μ ((.invokevirtual 0, [μ', 0, ci]) :: is) L (.ref p :: st) M Q ↔ Ev (d + 1) μ is L (v.toList ++ st) M' Q := by
  refine ev_cl ?_ hr
  obtain ⟨⟨h3, ho⟩, hc⟩ := ho
  cases h : gO (M.1 p) with
  | none => simp [isO, h] at ho
  | some x =>
    obtain ⟨c, fs⟩ := x
    simp only [isO, h, decide_eq_true_eq] at ho
    simp [ms, h, h3, ho, hc]
theorem ev_sc0 {μ' p : Nat} {v : Option Value} {M' : mM} (hr : Rt d μ' [.ref p] M v M') (hc : mcat st ≤ 8) : Ev (d + 1) μ ((.invokespecial 0, [μ', 0]) :: is) L (.ref p :: st) M Q ↔ Ev (d + 1) μ is L (v.toList ++ st) M' Q := by
  refine ev_cl ?_ hr
  simp [ms, hc]
theorem ev_vc1 {v0 : Value} {μ' p ci : Nat} {v : Option Value} {M' : mM} (hr : Rt d μ' [.ref p, v0] M v M') (ho : (3 ≤ p ∧ isO ci (M.1 p) = true) ∧ mcat st ≤ 8) : Ev (d + 1) μ ((.invokevirtual 0, [μ', 1, ci]) :: is) L (v0 :: .ref p :: st) M Q ↔ Ev (d + 1) μ is L (v.toList ++ st) M' Q := by
  refine ev_cl ?_ hr
  obtain ⟨⟨h3, ho⟩, hc⟩ := ho
  cases h : gO (M.1 p) with
  | none => simp [isO, h] at ho
  | some x =>
    obtain ⟨c, fs⟩ := x
    simp only [isO, h, decide_eq_true_eq] at ho
    simp [ms, h, h3, ho, hc]
theorem ev_sc1 {v0 : Value} {μ' p : Nat} {v : Option Value} {M' : mM} (hr : Rt d μ' [.ref p, v0] M v M') (hc : mcat st ≤ 8) : Ev (d + 1) μ ((.invokespecial 0, [μ', 1]) :: is) L (v0 :: .ref p :: st) M Q ↔ Ev (d + 1) μ is L (v.toList ++ st) M' Q := by
  refine ev_cl ?_ hr
  simp [ms, hc]
theorem ev_st1 {v0 : Value} {μ' : Nat} {v : Option Value} {M' : mM} (hr : Rt d μ' [v0] M v M') (hc : mcat st ≤ 8) : Ev (d + 1) μ ((.invokestatic 0, [μ', 1]) :: is) L (v0 :: st) M Q ↔ Ev (d + 1) μ is L (v.toList ++ st) M' Q := by
  refine ev_cl ?_ hr
  simp [ms, hc]
theorem ev_vc2 {v0 v1 : Value} {μ' p ci : Nat} {v : Option Value} {M' : mM} (hr : Rt d μ' [.ref p, v0, v1] M v M') (ho : (3 ≤ p ∧ isO ci (M.1 p) = true) ∧ mcat st ≤ 8) : Ev (d + 1) μ ((.invokevirtual 0, [μ', 2, ci]) :: is) L (v1 :: v0 :: .ref p :: st) M Q ↔ Ev (d + 1) μ is L (v.toList ++ st) M' Q := by
  refine ev_cl ?_ hr
  obtain ⟨⟨h3, ho⟩, hc⟩ := ho
  cases h : gO (M.1 p) with
  | none => simp [isO, h] at ho
  | some x =>
    obtain ⟨c, fs⟩ := x
    simp only [isO, h, decide_eq_true_eq] at ho
    simp [ms, h, h3, ho, hc]
theorem ev_sc2 {v0 v1 : Value} {μ' p : Nat} {v : Option Value} {M' : mM} (hr : Rt d μ' [.ref p, v0, v1] M v M') (hc : mcat st ≤ 8) : Ev (d + 1) μ ((.invokespecial 0, [μ', 2]) :: is) L (v1 :: v0 :: .ref p :: st) M Q ↔ Ev (d + 1) μ is L (v.toList ++ st) M' Q := by
  refine ev_cl ?_ hr
  simp [ms, hc]
theorem ev_st2 {v0 v1 : Value} {μ' : Nat} {v : Option Value} {M' : mM} (hr : Rt d μ' [v0, v1] M v M') (hc : mcat st ≤ 8) : Ev (d + 1) μ ((.invokestatic 0, [μ', 2]) :: is) L (v1 :: v0 :: st) M Q ↔ Ev (d + 1) μ is L (v.toList ++ st) M' Q := by
  refine ev_cl ?_ hr
  simp [ms, hc]
theorem ev_vc3 {v0 v1 v2 : Value} {μ' p ci : Nat} {v : Option Value} {M' : mM} (hr : Rt d μ' [.ref p, v0, v1, v2] M v M') (ho : (3 ≤ p ∧ isO ci (M.1 p) = true) ∧ mcat st ≤ 8) : Ev (d + 1) μ ((.invokevirtual 0, [μ', 3, ci]) :: is) L (v2 :: v1 :: v0 :: .ref p :: st) M Q ↔ Ev (d + 1) μ is L (v.toList ++ st) M' Q := by
  refine ev_cl ?_ hr
  obtain ⟨⟨h3, ho⟩, hc⟩ := ho
  cases h : gO (M.1 p) with
  | none => simp [isO, h] at ho
  | some x =>
    obtain ⟨c, fs⟩ := x
    simp only [isO, h, decide_eq_true_eq] at ho
    simp [ms, h, h3, ho, hc]
theorem ev_sc3 {v0 v1 v2 : Value} {μ' p : Nat} {v : Option Value} {M' : mM} (hr : Rt d μ' [.ref p, v0, v1, v2] M v M') (hc : mcat st ≤ 8) : Ev (d + 1) μ ((.invokespecial 0, [μ', 3]) :: is) L (v2 :: v1 :: v0 :: .ref p :: st) M Q ↔ Ev (d + 1) μ is L (v.toList ++ st) M' Q := by
  refine ev_cl ?_ hr
  simp [ms, hc]
theorem ev_st3 {v0 v1 v2 : Value} {μ' : Nat} {v : Option Value} {M' : mM} (hr : Rt d μ' [v0, v1, v2] M v M') (hc : mcat st ≤ 8) : Ev (d + 1) μ ((.invokestatic 0, [μ', 3]) :: is) L (v2 :: v1 :: v0 :: st) M Q ↔ Ev (d + 1) μ is L (v.toList ++ st) M' Q := by
  refine ev_cl ?_ hr
  simp [ms, hc]
theorem ev_vc4 {v0 v1 v2 v3 : Value} {μ' p ci : Nat} {v : Option Value} {M' : mM} (hr : Rt d μ' [.ref p, v0, v1, v2, v3] M v M') (ho : (3 ≤ p ∧ isO ci (M.1 p) = true) ∧ mcat st ≤ 8) : Ev (d + 1) μ ((.invokevirtual 0, [μ', 4, ci]) :: is) L (v3 :: v2 :: v1 :: v0 :: .ref p :: st) M Q ↔ Ev (d + 1) μ is L (v.toList ++ st) M' Q := by
  refine ev_cl ?_ hr
  obtain ⟨⟨h3, ho⟩, hc⟩ := ho
  cases h : gO (M.1 p) with
  | none => simp [isO, h] at ho
  | some x =>
    obtain ⟨c, fs⟩ := x
    simp only [isO, h, decide_eq_true_eq] at ho
    simp [ms, h, h3, ho, hc]
theorem ev_sc4 {v0 v1 v2 v3 : Value} {μ' p : Nat} {v : Option Value} {M' : mM} (hr : Rt d μ' [.ref p, v0, v1, v2, v3] M v M') (hc : mcat st ≤ 8) : Ev (d + 1) μ ((.invokespecial 0, [μ', 4]) :: is) L (v3 :: v2 :: v1 :: v0 :: .ref p :: st) M Q ↔ Ev (d + 1) μ is L (v.toList ++ st) M' Q := by
  refine ev_cl ?_ hr
  simp [ms, hc]
theorem ev_st4 {v0 v1 v2 v3 : Value} {μ' : Nat} {v : Option Value} {M' : mM} (hr : Rt d μ' [v0, v1, v2, v3] M v M') (hc : mcat st ≤ 8) : Ev (d + 1) μ ((.invokestatic 0, [μ', 4]) :: is) L (v3 :: v2 :: v1 :: v0 :: st) M Q ↔ Ev (d + 1) μ is L (v.toList ++ st) M' Q := by
  refine ev_cl ?_ hr
  simp [ms, hc]
end RU

theorem a0_0 : mat mTab 0 0 = k0_0 := rfl
theorem en0 (this : Nat) : ment mTab 0 [.ref this] = [some (.ref this)] := rfl
theorem x0 : mmx mTab 0 = 1 := rfl
theorem a1_0 : mat mTab 1 0 = k1_0 := rfl
theorem en1 (this : Nat) (a0 : Nat) (a1 : Int32) : ment mTab 1 [.ref this, .ref a0, .int a1] = [some (.ref this), some (.ref a0), some (.int a1)] := rfl
theorem x1 : mmx mTab 1 = 3 := rfl
theorem a2_0 : mat mTab 2 0 = k2_0 := rfl
theorem en2 (this : Nat) : ment mTab 2 [.ref this] = [some (.ref this)] := rfl
theorem x2 : mmx mTab 2 = 1 := rfl
theorem a3_14 : mat mTab 3 14 = k3_14 := rfl
theorem a3_13 : mat mTab 3 13 = k3_13 := rfl
theorem a3_0 : mat mTab 3 0 = k3_0 := rfl
theorem en3 (this : Nat) : ment mTab 3 [.ref this] = [some (.ref this)] := rfl
theorem x3 : mmx mTab 3 = 1 := rfl
theorem a4_36 : mat mTab 4 36 = k4_36 := rfl
theorem a4_0 : mat mTab 4 0 = k4_0 := rfl
theorem en4 (this : Nat) (a0 : Int64) : ment mTab 4 [.ref this, .long a0] = [some (.ref this), some (.long a0), none] := rfl
theorem x4 : mmx mTab 4 = 3 := rfl
theorem a5_42 : mat mTab 5 42 = k5_42 := rfl
theorem a5_0 : mat mTab 5 0 = k5_0 := rfl
theorem en5 (this : Nat) : ment mTab 5 [.ref this] = [some (.ref this)] := rfl
theorem x5 : mmx mTab 5 = 1 := rfl
theorem a6_35 : mat mTab 6 35 = k6_35 := rfl
theorem a6_6 : mat mTab 6 6 = k6_6 := rfl
theorem a6_0 : mat mTab 6 0 = k6_0 := rfl
theorem en6 (this : Nat) : ment mTab 6 [.ref this] = [some (.ref this), none, none, none] := rfl
theorem x6 : mmx mTab 6 = 4 := rfl
theorem a7_0 : mat mTab 7 0 = k7_0 := rfl
theorem en7 (this : Nat) (a0 : Nat) : ment mTab 7 [.ref this, .ref a0] = [some (.ref this), some (.ref a0)] := rfl
theorem x7 : mmx mTab 7 = 2 := rfl
theorem a8_0 : mat mTab 8 0 = k8_0 := rfl
theorem en8 (this : Nat) (a0 : Nat) (a1 : Int32) : ment mTab 8 [.ref this, .ref a0, .int a1] = [some (.ref this), some (.ref a0), some (.int a1)] := rfl
theorem x8 : mmx mTab 8 = 3 := rfl
theorem a9_0 : mat mTab 9 0 = k9_0 := rfl
theorem en9 (this : Nat) : ment mTab 9 [.ref this] = [some (.ref this)] := rfl
theorem x9 : mmx mTab 9 = 1 := rfl
theorem a10_64 : mat mTab 10 64 = k10_64 := rfl
theorem a10_63 : mat mTab 10 63 = k10_63 := rfl
theorem a10_40 : mat mTab 10 40 = k10_40 := rfl
theorem a10_0 : mat mTab 10 0 = k10_0 := rfl
theorem en10 (this : Nat) : ment mTab 10 [.ref this] = [some (.ref this), none] := rfl
theorem x10 : mmx mTab 10 = 2 := rfl
theorem a11_65 : mat mTab 11 65 = k11_65 := rfl
theorem a11_64 : mat mTab 11 64 = k11_64 := rfl
theorem a11_36 : mat mTab 11 36 = k11_36 := rfl
theorem a11_35 : mat mTab 11 35 = k11_35 := rfl
theorem a11_0 : mat mTab 11 0 = k11_0 := rfl
theorem en11 (this : Nat) : ment mTab 11 [.ref this] = [some (.ref this), none] := rfl
theorem x11 : mmx mTab 11 = 2 := rfl
theorem a12_16 : mat mTab 12 16 = k12_16 := rfl
theorem a12_0 : mat mTab 12 0 = k12_0 := rfl
theorem en12 (this : Nat) : ment mTab 12 [.ref this] = [some (.ref this)] := rfl
theorem x12 : mmx mTab 12 = 1 := rfl
theorem a13_25 : mat mTab 13 25 = k13_25 := rfl
theorem a13_21 : mat mTab 13 21 = k13_21 := rfl
theorem a13_0 : mat mTab 13 0 = k13_0 := rfl
theorem en13 (this : Nat) (a0 : Int32) : ment mTab 13 [.ref this, .int a0] = [some (.ref this), some (.int a0)] := rfl
theorem x13 : mmx mTab 13 = 2 := rfl
theorem a14_65 : mat mTab 14 65 = k14_65 := rfl
theorem a14_13 : mat mTab 14 13 = k14_13 := rfl
theorem a14_0 : mat mTab 14 0 = k14_0 := rfl
theorem en14 (this : Nat) (a0 : Int32) (a1 : Int32) : ment mTab 14 [.ref this, .int a0, .int a1] = [some (.ref this), some (.int a0), some (.int a1), none, none, none, none] := rfl
theorem x14 : mmx mTab 14 = 7 := rfl
theorem a15_105 : mat mTab 15 105 = k15_105 := rfl
theorem a15_101 : mat mTab 15 101 = k15_101 := rfl
theorem a15_70 : mat mTab 15 70 = k15_70 := rfl
theorem a15_46 : mat mTab 15 46 = k15_46 := rfl
theorem a15_0 : mat mTab 15 0 = k15_0 := rfl
theorem en15 (this : Nat) (a0 : Int32) (a1 : Int32) : ment mTab 15 [.ref this, .int a0, .int a1] = [some (.ref this), some (.int a0), some (.int a1), none, none] := rfl
theorem x15 : mmx mTab 15 = 5 := rfl
theorem a16_70 : mat mTab 16 70 = k16_70 := rfl
theorem a16_51 : mat mTab 16 51 = k16_51 := rfl
theorem a16_0 : mat mTab 16 0 = k16_0 := rfl
theorem en16 (this : Nat) (a0 : Nat) : ment mTab 16 [.ref this, .ref a0] = [some (.ref this), some (.ref a0)] := rfl
theorem x16 : mmx mTab 16 = 2 := rfl
theorem a17_68 : mat mTab 17 68 = k17_68 := rfl
theorem a17_0 : mat mTab 17 0 = k17_0 := rfl
theorem en17 (this : Nat) (a0 : Nat) (a1 : Int32) (a2 : Int32) : ment mTab 17 [.ref this, .ref a0, .int a1, .int a2] = [some (.ref this), some (.ref a0), some (.int a1), some (.int a2)] := rfl
theorem x17 : mmx mTab 17 = 4 := rfl
theorem a18_0 : mat mTab 18 0 = k18_0 := rfl
theorem en18 (this : Nat) (a0 : Nat) (a1 : Int32) (a2 : Int32) : ment mTab 18 [.ref this, .ref a0, .int a1, .int a2] = [some (.ref this), some (.ref a0), some (.int a1), some (.int a2)] := rfl
theorem x18 : mmx mTab 18 = 4 := rfl
theorem a19_24 : mat mTab 19 24 = k19_24 := rfl
theorem a19_18 : mat mTab 19 18 = k19_18 := rfl
theorem a19_0 : mat mTab 19 0 = k19_0 := rfl
theorem en19 (this : Nat) : ment mTab 19 [.ref this] = [some (.ref this), none] := rfl
theorem x19 : mmx mTab 19 = 2 := rfl
theorem a20_74 : mat mTab 20 74 = k20_74 := rfl
theorem a20_68 : mat mTab 20 68 = k20_68 := rfl
theorem a20_63 : mat mTab 20 63 = k20_63 := rfl
theorem a20_58 : mat mTab 20 58 = k20_58 := rfl
theorem a20_53 : mat mTab 20 53 = k20_53 := rfl
theorem a20_48 : mat mTab 20 48 = k20_48 := rfl
theorem a20_0 : mat mTab 20 0 = k20_0 := rfl
theorem en20 (this : Nat) : ment mTab 20 [.ref this] = [some (.ref this), none] := rfl
theorem x20 : mmx mTab 20 = 2 := rfl
theorem a21_0 : mat mTab 21 0 = k21_0 := rfl
theorem en21 (this : Nat) : ment mTab 21 [.ref this] = [some (.ref this)] := rfl
theorem x21 : mmx mTab 21 = 1 := rfl
theorem a22_50 : mat mTab 22 50 = k22_50 := rfl
theorem a22_0 : mat mTab 22 0 = k22_0 := rfl
theorem en22 (this : Nat) (a0 : Int32) (a1 : Int32) : ment mTab 22 [.ref this, .int a0, .int a1] = [some (.ref this), some (.int a0), some (.int a1)] := rfl
theorem x22 : mmx mTab 22 = 3 := rfl
theorem a23_53 : mat mTab 23 53 = k23_53 := rfl
theorem a23_49 : mat mTab 23 49 = k23_49 := rfl
theorem a23_48 : mat mTab 23 48 = k23_48 := rfl
theorem a23_22 : mat mTab 23 22 = k23_22 := rfl
theorem a23_0 : mat mTab 23 0 = k23_0 := rfl
theorem en23 (this : Nat) (a0 : Int32) : ment mTab 23 [.ref this, .int a0] = [some (.ref this), some (.int a0), none] := rfl
theorem x23 : mmx mTab 23 = 3 := rfl
theorem a24_74 : mat mTab 24 74 = k24_74 := rfl
theorem a24_46 : mat mTab 24 46 = k24_46 := rfl
theorem a24_45 : mat mTab 24 45 = k24_45 := rfl
theorem a24_32 : mat mTab 24 32 = k24_32 := rfl
theorem a24_7 : mat mTab 24 7 = k24_7 := rfl
theorem a24_0 : mat mTab 24 0 = k24_0 := rfl
theorem en24 (this : Nat) (a0 : Int32) : ment mTab 24 [.ref this, .int a0] = [some (.ref this), some (.int a0), none, none] := rfl
theorem x24 : mmx mTab 24 = 4 := rfl
theorem a25_74 : mat mTab 25 74 = k25_74 := rfl
theorem a25_46 : mat mTab 25 46 = k25_46 := rfl
theorem a25_45 : mat mTab 25 45 = k25_45 := rfl
theorem a25_32 : mat mTab 25 32 = k25_32 := rfl
theorem a25_7 : mat mTab 25 7 = k25_7 := rfl
theorem a25_0 : mat mTab 25 0 = k25_0 := rfl
theorem en25 (this : Nat) (a0 : Int32) : ment mTab 25 [.ref this, .int a0] = [some (.ref this), some (.int a0), none, none] := rfl
theorem x25 : mmx mTab 25 = 4 := rfl
theorem a26_149 : mat mTab 26 149 = k26_149 := rfl
theorem a26_145 : mat mTab 26 145 = k26_145 := rfl
theorem a26_108 : mat mTab 26 108 = k26_108 := rfl
theorem a26_70 : mat mTab 26 70 = k26_70 := rfl
theorem a26_44 : mat mTab 26 44 = k26_44 := rfl
theorem a26_19 : mat mTab 26 19 = k26_19 := rfl
theorem a26_0 : mat mTab 26 0 = k26_0 := rfl
theorem en26 (this : Nat) (a0 : Int32) : ment mTab 26 [.ref this, .int a0] = [some (.ref this), some (.int a0), none] := rfl
theorem x26 : mmx mTab 26 = 3 := rfl
theorem a27_79 : mat mTab 27 79 = k27_79 := rfl
theorem a27_72 : mat mTab 27 72 = k27_72 := rfl
theorem a27_53 : mat mTab 27 53 = k27_53 := rfl
theorem a27_9 : mat mTab 27 9 = k27_9 := rfl
theorem a27_0 : mat mTab 27 0 = k27_0 := rfl
theorem en27 (this : Nat) : ment mTab 27 [.ref this] = [some (.ref this), none, none, none] := rfl
theorem x27 : mmx mTab 27 = 4 := rfl
theorem a28_17 : mat mTab 28 17 = k28_17 := rfl
theorem a28_16 : mat mTab 28 16 = k28_16 := rfl
theorem a28_0 : mat mTab 28 0 = k28_0 := rfl
theorem en28 (a0 : Int32) : ment mTab 28 [.int a0] = [some (.int a0)] := rfl
theorem x28 : mmx mTab 28 = 1 := rfl
theorem a29_0 : mat mTab 29 0 = k29_0 := rfl
theorem en29 (this : Nat) : ment mTab 29 [.ref this] = [some (.ref this)] := rfl
theorem x29 : mmx mTab 29 = 1 := rfl
theorem a30_25 : mat mTab 30 25 = k30_25 := rfl
theorem a30_15 : mat mTab 30 15 = k30_15 := rfl
theorem a30_0 : mat mTab 30 0 = k30_0 := rfl
theorem en30 (this : Nat) (a0 : Int32) (a1 : Int32) : ment mTab 30 [.ref this, .int a0, .int a1] = [some (.ref this), some (.int a0), some (.int a1)] := rfl
theorem x30 : mmx mTab 30 = 3 := rfl
theorem a31_13 : mat mTab 31 13 = k31_13 := rfl
theorem a31_12 : mat mTab 31 12 = k31_12 := rfl
theorem a31_0 : mat mTab 31 0 = k31_0 := rfl
theorem en31 (this : Nat) : ment mTab 31 [.ref this] = [some (.ref this)] := rfl
theorem x31 : mmx mTab 31 = 1 := rfl
theorem a32_23 : mat mTab 32 23 = k32_23 := rfl
theorem a32_22 : mat mTab 32 22 = k32_22 := rfl
theorem a32_0 : mat mTab 32 0 = k32_0 := rfl
theorem en32 (this : Nat) (a0 : Int32) : ment mTab 32 [.ref this, .int a0] = [some (.ref this), some (.int a0)] := rfl
theorem x32 : mmx mTab 32 = 2 := rfl
theorem a33_19 : mat mTab 33 19 = k33_19 := rfl
theorem a33_0 : mat mTab 33 0 = k33_0 := rfl
theorem en33 (this : Nat) (a0 : Int32) (a1 : Int64) : ment mTab 33 [.ref this, .int a0, .long a1] = [some (.ref this), some (.int a0), some (.long a1), none] := rfl
theorem x33 : mmx mTab 33 = 4 := rfl
theorem a34_46 : mat mTab 34 46 = k34_46 := rfl
theorem a34_42 : mat mTab 34 42 = k34_42 := rfl
theorem a34_37 : mat mTab 34 37 = k34_37 := rfl
theorem a34_32 : mat mTab 34 32 = k34_32 := rfl
theorem a34_0 : mat mTab 34 0 = k34_0 := rfl
theorem en34 (this : Nat) (a0 : Int64) : ment mTab 34 [.ref this, .long a0] = [some (.ref this), some (.long a0), none] := rfl
theorem x34 : mmx mTab 34 = 3 := rfl
theorem a35_0 : mat mTab 35 0 = k35_0 := rfl
theorem en35 (this : Nat) : ment mTab 35 [.ref this] = [some (.ref this)] := rfl
theorem x35 : mmx mTab 35 = 1 := rfl
theorem a36_32 : mat mTab 36 32 = k36_32 := rfl
theorem a36_4 : mat mTab 36 4 = k36_4 := rfl
theorem a36_0 : mat mTab 36 0 = k36_0 := rfl
theorem en36 (this : Nat) (a0 : Int32) : ment mTab 36 [.ref this, .int a0] = [some (.ref this), some (.int a0), none, none] := rfl
theorem x36 : mmx mTab 36 = 4 := rfl
theorem a37_62 : mat mTab 37 62 = k37_62 := rfl
theorem a37_55 : mat mTab 37 55 = k37_55 := rfl
theorem a37_42 : mat mTab 37 42 = k37_42 := rfl
theorem a37_7 : mat mTab 37 7 = k37_7 := rfl
theorem a37_0 : mat mTab 37 0 = k37_0 := rfl
theorem en37 (this : Nat) (a0 : Int32) (a1 : Int32) : ment mTab 37 [.ref this, .int a0, .int a1] = [some (.ref this), some (.int a0), some (.int a1), none, none, none] := rfl
theorem x37 : mmx mTab 37 = 6 := rfl
theorem a38_36 : mat mTab 38 36 = k38_36 := rfl
theorem a38_29 : mat mTab 38 29 = k38_29 := rfl
theorem a38_28 : mat mTab 38 28 = k38_28 := rfl
theorem a38_2 : mat mTab 38 2 = k38_2 := rfl
theorem a38_0 : mat mTab 38 0 = k38_0 := rfl
theorem en38 (this : Nat) (a0 : Int32) : ment mTab 38 [.ref this, .int a0] = [some (.ref this), some (.int a0), none] := rfl
theorem x38 : mmx mTab 38 = 3 := rfl
theorem a39_0 : mat mTab 39 0 = k39_0 := rfl
theorem en39 (this : Nat) : ment mTab 39 [.ref this] = [some (.ref this)] := rfl
theorem x39 : mmx mTab 39 = 1 := rfl
theorem a40_0 : mat mTab 40 0 = k40_0 := rfl
theorem en40 (this : Nat) (a0 : Nat) : ment mTab 40 [.ref this, .ref a0] = [some (.ref this), some (.ref a0)] := rfl
theorem x40 : mmx mTab 40 = 2 := rfl
theorem a41_46 : mat mTab 41 46 = k41_46 := rfl
theorem a41_3 : mat mTab 41 3 = k41_3 := rfl
theorem a41_0 : mat mTab 41 0 = k41_0 := rfl
theorem en41 (this : Nat) (a0 : Nat) (a1 : Int64) : ment mTab 41 [.ref this, .ref a0, .long a1] = [some (.ref this), some (.ref a0), some (.long a1), none, none] := rfl
theorem x41 : mmx mTab 41 = 5 := rfl
theorem a42_35 : mat mTab 42 35 = k42_35 := rfl
theorem a42_3 : mat mTab 42 3 = k42_3 := rfl
theorem a42_0 : mat mTab 42 0 = k42_0 := rfl
theorem en42 (this : Nat) (a0 : Nat) (a1 : Int32) (a2 : Int32) : ment mTab 42 [.ref this, .ref a0, .int a1, .int a2] = [some (.ref this), some (.ref a0), some (.int a1), some (.int a2), none] := rfl
theorem x42 : mmx mTab 42 = 5 := rfl
theorem a43_25 : mat mTab 43 25 = k43_25 := rfl
theorem a43_4 : mat mTab 43 4 = k43_4 := rfl
theorem a43_0 : mat mTab 43 0 = k43_0 := rfl
theorem en43 (this : Nat) : ment mTab 43 [.ref this] = [some (.ref this), none, none, none] := rfl
theorem x43 : mmx mTab 43 = 4 := rfl
theorem a44_36 : mat mTab 44 36 = k44_36 := rfl
theorem a44_5 : mat mTab 44 5 = k44_5 := rfl
theorem a44_0 : mat mTab 44 0 = k44_0 := rfl
theorem en44 (this : Nat) (a0 : Nat) : ment mTab 44 [.ref this, .ref a0] = [some (.ref this), some (.ref a0), none, none, none] := rfl
theorem x44 : mmx mTab 44 = 5 := rfl
theorem a45_58 : mat mTab 45 58 = k45_58 := rfl
theorem a45_5 : mat mTab 45 5 = k45_5 := rfl
theorem a45_0 : mat mTab 45 0 = k45_0 := rfl
theorem en45 (this : Nat) (a0 : Nat) : ment mTab 45 [.ref this, .ref a0] = [some (.ref this), some (.ref a0), none, none, none, none, none, none, none] := rfl
theorem x45 : mmx mTab 45 = 9 := rfl
theorem a46_138 : mat mTab 46 138 = k46_138 := rfl
theorem a46_125 : mat mTab 46 125 = k46_125 := rfl
theorem a46_108 : mat mTab 46 108 = k46_108 := rfl
theorem a46_92 : mat mTab 46 92 = k46_92 := rfl
theorem a46_80 : mat mTab 46 80 = k46_80 := rfl
theorem a46_72 : mat mTab 46 72 = k46_72 := rfl
theorem a46_64 : mat mTab 46 64 = k46_64 := rfl
theorem a46_56 : mat mTab 46 56 = k46_56 := rfl
theorem a46_48 : mat mTab 46 48 = k46_48 := rfl
theorem a46_0 : mat mTab 46 0 = k46_0 := rfl
theorem en46 (this : Nat) (a0 : Int32) (a1 : Nat) : ment mTab 46 [.ref this, .int a0, .ref a1] = [some (.ref this), some (.int a0), some (.ref a1)] := rfl
theorem x46 : mmx mTab 46 = 3 := rfl
theorem a47_64 : mat mTab 47 64 = k47_64 := rfl
theorem a47_5 : mat mTab 47 5 = k47_5 := rfl
theorem a47_0 : mat mTab 47 0 = k47_0 := rfl
theorem en47 (this : Nat) (a0 : Nat) : ment mTab 47 [.ref this, .ref a0] = [some (.ref this), some (.ref a0), none, none, none, none, none, none, none] := rfl
theorem x47 : mmx mTab 47 = 9 := rfl
theorem a48_72 : mat mTab 48 72 = k48_72 := rfl
theorem a48_5 : mat mTab 48 5 = k48_5 := rfl
theorem a48_0 : mat mTab 48 0 = k48_0 := rfl
theorem en48 (this : Nat) (a0 : Nat) : ment mTab 48 [.ref this, .ref a0] = [some (.ref this), some (.ref a0), none, none, none, none, none, none, none] := rfl
theorem x48 : mmx mTab 48 = 9 := rfl
theorem a49_99 : mat mTab 49 99 = k49_99 := rfl
theorem a49_93 : mat mTab 49 93 = k49_93 := rfl
theorem a49_27 : mat mTab 49 27 = k49_27 := rfl
theorem a49_3 : mat mTab 49 3 = k49_3 := rfl
theorem a49_0 : mat mTab 49 0 = k49_0 := rfl
theorem en49 (this : Nat) (a0 : Nat) : ment mTab 49 [.ref this, .ref a0] = [some (.ref this), some (.ref a0), none, none, none, none, none, none, none, none, none, none] := rfl
theorem x49 : mmx mTab 49 = 12 := rfl
theorem a50_29 : mat mTab 50 29 = k50_29 := rfl
theorem a50_2 : mat mTab 50 2 = k50_2 := rfl
theorem a50_0 : mat mTab 50 0 = k50_0 := rfl
theorem en50 (this : Nat) (a0 : Nat) : ment mTab 50 [.ref this, .ref a0] = [some (.ref this), some (.ref a0), none] := rfl
theorem x50 : mmx mTab 50 = 3 := rfl
theorem a51_29 : mat mTab 51 29 = k51_29 := rfl
theorem a51_22 : mat mTab 51 22 = k51_22 := rfl
theorem a51_21 : mat mTab 51 21 = k51_21 := rfl
theorem a51_2 : mat mTab 51 2 = k51_2 := rfl
theorem a51_0 : mat mTab 51 0 = k51_0 := rfl
theorem en51 (this : Nat) (a0 : Int64) : ment mTab 51 [.ref this, .long a0] = [some (.ref this), some (.long a0), none, none] := rfl
theorem x51 : mmx mTab 51 = 4 := rfl
theorem a52_30 : mat mTab 52 30 = k52_30 := rfl
theorem a52_2 : mat mTab 52 2 = k52_2 := rfl
theorem a52_0 : mat mTab 52 0 = k52_0 := rfl
theorem en52 (this : Nat) : ment mTab 52 [.ref this] = [some (.ref this), none] := rfl
theorem x52 : mmx mTab 52 = 2 := rfl
theorem a53_36 : mat mTab 53 36 = k53_36 := rfl
theorem a53_5 : mat mTab 53 5 = k53_5 := rfl
theorem a53_0 : mat mTab 53 0 = k53_0 := rfl
theorem en53 (this : Nat) (a0 : Int64) : ment mTab 53 [.ref this, .long a0] = [some (.ref this), some (.long a0), none, none, none] := rfl
theorem x53 : mmx mTab 53 = 5 := rfl
theorem a54_0 : mat mTab 54 0 = k54_0 := rfl
theorem en54 (this : Nat) (a0 : Int64) : ment mTab 54 [.ref this, .long a0] = [some (.ref this), some (.long a0), none] := rfl
theorem x54 : mmx mTab 54 = 3 := rfl
theorem a55_42 : mat mTab 55 42 = k55_42 := rfl
theorem a55_35 : mat mTab 55 35 = k55_35 := rfl
theorem a55_33 : mat mTab 55 33 = k55_33 := rfl
theorem a55_6 : mat mTab 55 6 = k55_6 := rfl
theorem a55_0 : mat mTab 55 0 = k55_0 := rfl
theorem en55 (this : Nat) (a0 : Int64) : ment mTab 55 [.ref this, .long a0] = [some (.ref this), some (.long a0), none, none, none, none, none, none] := rfl
theorem x55 : mmx mTab 55 = 8 := rfl
theorem a56_46 : mat mTab 56 46 = k56_46 := rfl
theorem a56_39 : mat mTab 56 39 = k56_39 := rfl
theorem a56_37 : mat mTab 56 37 = k56_37 := rfl
theorem a56_6 : mat mTab 56 6 = k56_6 := rfl
theorem a56_0 : mat mTab 56 0 = k56_0 := rfl
theorem en56 (this : Nat) (a0 : Int64) : ment mTab 56 [.ref this, .long a0] = [some (.ref this), some (.long a0), none, none, none, none, none, none] := rfl
theorem x56 : mmx mTab 56 = 8 := rfl
theorem a57_43 : mat mTab 57 43 = k57_43 := rfl
theorem a57_35 : mat mTab 57 35 = k57_35 := rfl
theorem a57_34 : mat mTab 57 34 = k57_34 := rfl
theorem a57_5 : mat mTab 57 5 = k57_5 := rfl
theorem a57_0 : mat mTab 57 0 = k57_0 := rfl
theorem en57 (this : Nat) (a0 : Int64) : ment mTab 57 [.ref this, .long a0] = [some (.ref this), some (.long a0), none, none, none] := rfl
theorem x57 : mmx mTab 57 = 5 := rfl
theorem a58_47 : mat mTab 58 47 = k58_47 := rfl
theorem a58_39 : mat mTab 58 39 = k58_39 := rfl
theorem a58_38 : mat mTab 58 38 = k58_38 := rfl
theorem a58_5 : mat mTab 58 5 = k58_5 := rfl
theorem a58_0 : mat mTab 58 0 = k58_0 := rfl
theorem en58 (this : Nat) (a0 : Int64) : ment mTab 58 [.ref this, .long a0] = [some (.ref this), some (.long a0), none, none, none] := rfl
theorem x58 : mmx mTab 58 = 5 := rfl
theorem a59_0 : mat mTab 59 0 = k59_0 := rfl
theorem en59 (this : Nat) : ment mTab 59 [.ref this] = [some (.ref this)] := rfl
theorem x59 : mmx mTab 59 = 1 := rfl
theorem a60_37 : mat mTab 60 37 = k60_37 := rfl
theorem a60_0 : mat mTab 60 0 = k60_0 := rfl
theorem en60 (this : Nat) (a0 : Int32) : ment mTab 60 [.ref this, .int a0] = [some (.ref this), some (.int a0)] := rfl
theorem x60 : mmx mTab 60 = 2 := rfl
theorem a61_40 : mat mTab 61 40 = k61_40 := rfl
theorem a61_15 : mat mTab 61 15 = k61_15 := rfl
theorem a61_0 : mat mTab 61 0 = k61_0 := rfl
theorem en61 (this : Nat) : ment mTab 61 [.ref this] = [some (.ref this), none] := rfl
theorem x61 : mmx mTab 61 = 2 := rfl
theorem a62_0 : mat mTab 62 0 = k62_0 := rfl
theorem en62 (this : Nat) (a0 : Int32) : ment mTab 62 [.ref this, .int a0] = [some (.ref this), some (.int a0)] := rfl
theorem x62 : mmx mTab 62 = 2 := rfl
theorem a63_29 : mat mTab 63 29 = k63_29 := rfl
theorem a63_2 : mat mTab 63 2 = k63_2 := rfl
theorem a63_0 : mat mTab 63 0 = k63_0 := rfl
theorem en63 (this : Nat) (a0 : Nat) : ment mTab 63 [.ref this, .ref a0] = [some (.ref this), some (.ref a0), none] := rfl
theorem x63 : mmx mTab 63 = 3 := rfl
theorem a64_38 : mat mTab 64 38 = k64_38 := rfl
theorem a64_5 : mat mTab 64 5 = k64_5 := rfl
theorem a64_0 : mat mTab 64 0 = k64_0 := rfl
theorem en64 (this : Nat) (a0 : Nat) : ment mTab 64 [.ref this, .ref a0] = [some (.ref this), some (.ref a0), none, none, none] := rfl
theorem x64 : mmx mTab 64 = 5 := rfl
theorem a65_62 : mat mTab 65 62 = k65_62 := rfl
theorem a65_37 : mat mTab 65 37 = k65_37 := rfl
theorem a65_0 : mat mTab 65 0 = k65_0 := rfl
theorem en65 (this : Nat) : ment mTab 65 [.ref this] = [some (.ref this), none] := rfl
theorem x65 : mmx mTab 65 = 2 := rfl
theorem a66_66 : mat mTab 66 66 = k66_66 := rfl
theorem a66_36 : mat mTab 66 36 = k66_36 := rfl
theorem a66_11 : mat mTab 66 11 = k66_11 := rfl
theorem a66_0 : mat mTab 66 0 = k66_0 := rfl
theorem en66 (this : Nat) (a0 : Nat) (a1 : Int32) : ment mTab 66 [.ref this, .ref a0, .int a1] = [some (.ref this), some (.ref a0), some (.int a1), none, none, none, none] := rfl
theorem x66 : mmx mTab 66 = 7 := rfl
theorem a67_184 : mat mTab 67 184 = k67_184 := rfl
theorem a67_174 : mat mTab 67 174 = k67_174 := rfl
theorem a67_165 : mat mTab 67 165 = k67_165 := rfl
theorem a67_153 : mat mTab 67 153 = k67_153 := rfl
theorem a67_91 : mat mTab 67 91 = k67_91 := rfl
theorem a67_52 : mat mTab 67 52 = k67_52 := rfl
theorem a67_16 : mat mTab 67 16 = k67_16 := rfl
theorem a67_13 : mat mTab 67 13 = k67_13 := rfl
theorem a67_12 : mat mTab 67 12 = k67_12 := rfl
theorem a67_0 : mat mTab 67 0 = k67_0 := rfl
theorem en67 (this : Nat) (a0 : Nat) (a1 : Int64) (a2 : Int32) : ment mTab 67 [.ref this, .ref a0, .long a1, .int a2] = [some (.ref this), some (.ref a0), some (.long a1), none, some (.int a2), none] := rfl
theorem x67 : mmx mTab 67 = 6 := rfl
theorem a68_0 : mat mTab 68 0 = k68_0 := rfl
theorem en68 (this : Nat) (a0 : Nat) (a1 : Int64) (a2 : Int32) : ment mTab 68 [.ref this, .ref a0, .long a1, .int a2] = [some (.ref this), some (.ref a0), some (.long a1), none, some (.int a2), none, none] := rfl
theorem x68 : mmx mTab 68 = 7 := rfl
theorem a69_66 : mat mTab 69 66 = k69_66 := rfl
theorem a69_6 : mat mTab 69 6 = k69_6 := rfl
theorem a69_0 : mat mTab 69 0 = k69_0 := rfl
theorem en69 (this : Nat) (a0 : Nat) (a1 : Int64) (a2 : Int32) : ment mTab 69 [.ref this, .ref a0, .long a1, .int a2] = [some (.ref this), some (.ref a0), some (.long a1), none, some (.int a2), none, none, none] := rfl
theorem x69 : mmx mTab 69 = 8 := rfl
theorem a70_141 : mat mTab 70 141 = k70_141 := rfl
theorem a70_135 : mat mTab 70 135 = k70_135 := rfl
theorem a70_108 : mat mTab 70 108 = k70_108 := rfl
theorem a70_82 : mat mTab 70 82 = k70_82 := rfl
theorem a70_25 : mat mTab 70 25 = k70_25 := rfl
theorem a70_11 : mat mTab 70 11 = k70_11 := rfl
theorem a70_0 : mat mTab 70 0 = k70_0 := rfl
theorem en70 (this : Nat) (a0 : Nat) : ment mTab 70 [.ref this, .ref a0] = [some (.ref this), some (.ref a0), none, none, none, none, none, none] := rfl
theorem x70 : mmx mTab 70 = 8 := rfl
theorem a71_39 : mat mTab 71 39 = k71_39 := rfl
theorem a71_35 : mat mTab 71 35 = k71_35 := rfl
theorem a71_14 : mat mTab 71 14 = k71_14 := rfl
theorem a71_0 : mat mTab 71 0 = k71_0 := rfl
theorem en71 (this : Nat) (a0 : Nat) (a1 : Int32) (a2 : Int32) : ment mTab 71 [.ref this, .ref a0, .int a1, .int a2] = [some (.ref this), some (.ref a0), some (.int a1), some (.int a2)] := rfl
theorem x71 : mmx mTab 71 = 4 := rfl
theorem a72_0 : mat mTab 72 0 = k72_0 := rfl
theorem en72 (this : Nat) : ment mTab 72 [.ref this] = [some (.ref this)] := rfl
theorem x72 : mmx mTab 72 = 1 := rfl
theorem a73_0 : mat mTab 73 0 = k73_0 := rfl
theorem en73 (this : Nat) (a0 : Nat) : ment mTab 73 [.ref this, .ref a0] = [some (.ref this), some (.ref a0)] := rfl
theorem x73 : mmx mTab 73 = 2 := rfl
theorem a74_111 : mat mTab 74 111 = k74_111 := rfl
theorem a74_87 : mat mTab 74 87 = k74_87 := rfl
theorem a74_0 : mat mTab 74 0 = k74_0 := rfl
theorem en74 (this : Nat) : ment mTab 74 [.ref this] = [some (.ref this), none] := rfl
theorem x74 : mmx mTab 74 = 2 := rfl
theorem a75_22 : mat mTab 75 22 = k75_22 := rfl
theorem a75_14 : mat mTab 75 14 = k75_14 := rfl
theorem a75_0 : mat mTab 75 0 = k75_0 := rfl
theorem en75 (this : Nat) (a0 : Int32) (a1 : Int32) : ment mTab 75 [.ref this, .int a0, .int a1] = [some (.ref this), some (.int a0), some (.int a1)] := rfl
theorem x75 : mmx mTab 75 = 3 := rfl
theorem a76_29 : mat mTab 76 29 = k76_29 := rfl
theorem a76_21 : mat mTab 76 21 = k76_21 := rfl
theorem a76_0 : mat mTab 76 0 = k76_0 := rfl
theorem en76 (this : Nat) (a0 : Int32) (a1 : Int32) (a2 : Int32) : ment mTab 76 [.ref this, .int a0, .int a1, .int a2] = [some (.ref this), some (.int a0), some (.int a1), some (.int a2), none] := rfl
theorem x76 : mmx mTab 76 = 5 := rfl
theorem a77_16 : mat mTab 77 16 = k77_16 := rfl
theorem a77_14 : mat mTab 77 14 = k77_14 := rfl
theorem a77_0 : mat mTab 77 0 = k77_0 := rfl
theorem en77 (this : Nat) (a0 : Int32) (a1 : Int32) : ment mTab 77 [.ref this, .int a0, .int a1] = [some (.ref this), some (.int a0), some (.int a1)] := rfl
theorem x77 : mmx mTab 77 = 3 := rfl
theorem a78_22 : mat mTab 78 22 = k78_22 := rfl
theorem a78_14 : mat mTab 78 14 = k78_14 := rfl
theorem a78_0 : mat mTab 78 0 = k78_0 := rfl
theorem en78 (this : Nat) (a0 : Int32) (a1 : Int32) (a2 : Int64) : ment mTab 78 [.ref this, .int a0, .int a1, .long a2] = [some (.ref this), some (.int a0), some (.int a1), some (.long a2), none, none, none, none] := rfl
theorem x78 : mmx mTab 78 = 8 := rfl
theorem a79_22 : mat mTab 79 22 = k79_22 := rfl
theorem a79_14 : mat mTab 79 14 = k79_14 := rfl
theorem a79_0 : mat mTab 79 0 = k79_0 := rfl
theorem en79 (this : Nat) (a0 : Int32) (a1 : Int32) : ment mTab 79 [.ref this, .int a0, .int a1] = [some (.ref this), some (.int a0), some (.int a1)] := rfl
theorem x79 : mmx mTab 79 = 3 := rfl
theorem a80_40 : mat mTab 80 40 = k80_40 := rfl
theorem a80_32 : mat mTab 80 32 = k80_32 := rfl
theorem a80_0 : mat mTab 80 0 = k80_0 := rfl
theorem en80 (this : Nat) (a0 : Int32) (a1 : Int32) (a2 : Int32) (a3 : Int32) : ment mTab 80 [.ref this, .int a0, .int a1, .int a2, .int a3] = [some (.ref this), some (.int a0), some (.int a1), some (.int a2), some (.int a3)] := rfl
theorem x80 : mmx mTab 80 = 5 := rfl
theorem a81_31 : mat mTab 81 31 = k81_31 := rfl
theorem a81_23 : mat mTab 81 23 = k81_23 := rfl
theorem a81_0 : mat mTab 81 0 = k81_0 := rfl
theorem en81 (this : Nat) (a0 : Int32) (a1 : Int32) (a2 : Int32) : ment mTab 81 [.ref this, .int a0, .int a1, .int a2] = [some (.ref this), some (.int a0), some (.int a1), some (.int a2)] := rfl
theorem x81 : mmx mTab 81 = 4 := rfl
theorem a82_17 : mat mTab 82 17 = k82_17 := rfl
theorem a82_0 : mat mTab 82 0 = k82_0 := rfl
theorem en82 (this : Nat) (a0 : Int32) : ment mTab 82 [.ref this, .int a0] = [some (.ref this), some (.int a0), none] := rfl
theorem x82 : mmx mTab 82 = 3 := rfl
theorem a83_43 : mat mTab 83 43 = k83_43 := rfl
theorem a83_22 : mat mTab 83 22 = k83_22 := rfl
theorem a83_14 : mat mTab 83 14 = k83_14 := rfl
theorem a83_0 : mat mTab 83 0 = k83_0 := rfl
theorem en83 (this : Nat) (a0 : Int32) (a1 : Int32) : ment mTab 83 [.ref this, .int a0, .int a1] = [some (.ref this), some (.int a0), some (.int a1)] := rfl
theorem x83 : mmx mTab 83 = 3 := rfl
theorem a84_21 : mat mTab 84 21 = k84_21 := rfl
theorem a84_0 : mat mTab 84 0 = k84_0 := rfl
theorem en84 (this : Nat) : ment mTab 84 [.ref this] = [some (.ref this)] := rfl
theorem x84 : mmx mTab 84 = 1 := rfl
theorem a85_21 : mat mTab 85 21 = k85_21 := rfl
theorem a85_0 : mat mTab 85 0 = k85_0 := rfl
theorem en85 (this : Nat) : ment mTab 85 [.ref this] = [some (.ref this)] := rfl
theorem x85 : mmx mTab 85 = 1 := rfl
theorem a86_0 : mat mTab 86 0 = k86_0 := rfl
theorem en86 (this : Nat) : ment mTab 86 [.ref this] = [some (.ref this)] := rfl
theorem x86 : mmx mTab 86 = 1 := rfl
theorem a87_173 : mat mTab 87 173 = k87_173 := rfl
theorem a87_167 : mat mTab 87 167 = k87_167 := rfl
theorem a87_156 : mat mTab 87 156 = k87_156 := rfl
theorem a87_145 : mat mTab 87 145 = k87_145 := rfl
theorem a87_138 : mat mTab 87 138 = k87_138 := rfl
theorem a87_131 : mat mTab 87 131 = k87_131 := rfl
theorem a87_130 : mat mTab 87 130 = k87_130 := rfl
theorem a87_124 : mat mTab 87 124 = k87_124 := rfl
theorem a87_113 : mat mTab 87 113 = k87_113 := rfl
theorem a87_112 : mat mTab 87 112 = k87_112 := rfl
theorem a87_106 : mat mTab 87 106 = k87_106 := rfl
theorem a87_95 : mat mTab 87 95 = k87_95 := rfl
theorem a87_88 : mat mTab 87 88 = k87_88 := rfl
theorem a87_25 : mat mTab 87 25 = k87_25 := rfl
theorem a87_17 : mat mTab 87 17 = k87_17 := rfl
theorem a87_0 : mat mTab 87 0 = k87_0 := rfl
theorem en87 (this : Nat) (a0 : Int32) (a1 : Int32) : ment mTab 87 [.ref this, .int a0, .int a1] = [some (.ref this), some (.int a0), some (.int a1), none, none, none] := rfl
theorem x87 : mmx mTab 87 = 6 := rfl
theorem a88_66 : mat mTab 88 66 = k88_66 := rfl
theorem a88_55 : mat mTab 88 55 = k88_55 := rfl
theorem a88_37 : mat mTab 88 37 = k88_37 := rfl
theorem a88_29 : mat mTab 88 29 = k88_29 := rfl
theorem a88_0 : mat mTab 88 0 = k88_0 := rfl
theorem en88 (this : Nat) (a0 : Int32) (a1 : Int32) (a2 : Int32) : ment mTab 88 [.ref this, .int a0, .int a1, .int a2] = [some (.ref this), some (.int a0), some (.int a1), some (.int a2), none, none, none] := rfl
theorem x88 : mmx mTab 88 = 7 := rfl
theorem a89_22 : mat mTab 89 22 = k89_22 := rfl
theorem a89_14 : mat mTab 89 14 = k89_14 := rfl
theorem a89_0 : mat mTab 89 0 = k89_0 := rfl
theorem en89 (this : Nat) (a0 : Int32) (a1 : Int32) : ment mTab 89 [.ref this, .int a0, .int a1] = [some (.ref this), some (.int a0), some (.int a1), none] := rfl
theorem x89 : mmx mTab 89 = 4 := rfl
theorem a90_39 : mat mTab 90 39 = k90_39 := rfl
theorem a90_16 : mat mTab 90 16 = k90_16 := rfl
theorem a90_9 : mat mTab 90 9 = k90_9 := rfl
theorem a90_0 : mat mTab 90 0 = k90_0 := rfl
theorem en90 (this : Nat) (a0 : Int32) : ment mTab 90 [.ref this, .int a0] = [some (.ref this), some (.int a0), none, none, none] := rfl
theorem x90 : mmx mTab 90 = 5 := rfl
theorem a91_16 : mat mTab 91 16 = k91_16 := rfl
theorem a91_14 : mat mTab 91 14 = k91_14 := rfl
theorem a91_0 : mat mTab 91 0 = k91_0 := rfl
theorem en91 (this : Nat) (a0 : Int32) (a1 : Int32) : ment mTab 91 [.ref this, .int a0, .int a1] = [some (.ref this), some (.int a0), some (.int a1)] := rfl
theorem x91 : mmx mTab 91 = 3 := rfl
theorem a92_60 : mat mTab 92 60 = k92_60 := rfl
theorem a92_54 : mat mTab 92 54 = k92_54 := rfl
theorem a92_23 : mat mTab 92 23 = k92_23 := rfl
theorem a92_15 : mat mTab 92 15 = k92_15 := rfl
theorem a92_0 : mat mTab 92 0 = k92_0 := rfl
theorem en92 (this : Nat) (a0 : Int32) : ment mTab 92 [.ref this, .int a0] = [some (.ref this), some (.int a0), none, none, none, none] := rfl
theorem x92 : mmx mTab 92 = 6 := rfl
theorem a93_93 : mat mTab 93 93 = k93_93 := rfl
theorem a93_77 : mat mTab 93 77 = k93_77 := rfl
theorem a93_56 : mat mTab 93 56 = k93_56 := rfl
theorem a93_29 : mat mTab 93 29 = k93_29 := rfl
theorem a93_21 : mat mTab 93 21 = k93_21 := rfl
theorem a93_0 : mat mTab 93 0 = k93_0 := rfl
theorem en93 (this : Nat) (a0 : Int32) (a1 : Int32) (a2 : Int32) : ment mTab 93 [.ref this, .int a0, .int a1, .int a2] = [some (.ref this), some (.int a0), some (.int a1), some (.int a2), none, none, none, none, none] := rfl
theorem x93 : mmx mTab 93 = 9 := rfl
theorem a94_81 : mat mTab 94 81 = k94_81 := rfl
theorem a94_52 : mat mTab 94 52 = k94_52 := rfl
theorem a94_49 : mat mTab 94 49 = k94_49 := rfl
theorem a94_19 : mat mTab 94 19 = k94_19 := rfl
theorem a94_11 : mat mTab 94 11 = k94_11 := rfl
theorem a94_0 : mat mTab 94 0 = k94_0 := rfl
theorem en94 (this : Nat) (a0 : Int64) (a1 : Int32) : ment mTab 94 [.ref this, .long a0, .int a1] = [some (.ref this), some (.long a0), none, some (.int a1), none, none] := rfl
theorem x94 : mmx mTab 94 = 6 := rfl
theorem a95_0 : mat mTab 95 0 = k95_0 := rfl
theorem en95 (this : Nat) : ment mTab 95 [.ref this] = [some (.ref this), none] := rfl
theorem x95 : mmx mTab 95 = 2 := rfl
theorem a96_34 : mat mTab 96 34 = k96_34 := rfl
theorem a96_0 : mat mTab 96 0 = k96_0 := rfl
theorem en96 (this : Nat) : ment mTab 96 [.ref this] = [some (.ref this), none] := rfl
theorem x96 : mmx mTab 96 = 2 := rfl
theorem a97_37 : mat mTab 97 37 = k97_37 := rfl
theorem a97_19 : mat mTab 97 19 = k97_19 := rfl
theorem a97_11 : mat mTab 97 11 = k97_11 := rfl
theorem a97_0 : mat mTab 97 0 = k97_0 := rfl
theorem en97 (this : Nat) (a0 : Int32) : ment mTab 97 [.ref this, .int a0] = [some (.ref this), some (.int a0), none] := rfl
theorem x97 : mmx mTab 97 = 3 := rfl
theorem a98_47 : mat mTab 98 47 = k98_47 := rfl
theorem a98_29 : mat mTab 98 29 = k98_29 := rfl
theorem a98_21 : mat mTab 98 21 = k98_21 := rfl
theorem a98_0 : mat mTab 98 0 = k98_0 := rfl
theorem en98 (this : Nat) (a0 : Int32) (a1 : Int32) (a2 : Int32) : ment mTab 98 [.ref this, .int a0, .int a1, .int a2] = [some (.ref this), some (.int a0), some (.int a1), some (.int a2)] := rfl
theorem x98 : mmx mTab 98 = 4 := rfl
theorem a99_33 : mat mTab 99 33 = k99_33 := rfl
theorem a99_15 : mat mTab 99 15 = k99_15 := rfl
theorem a99_0 : mat mTab 99 0 = k99_0 := rfl
theorem en99 (this : Nat) (a0 : Int32) : ment mTab 99 [.ref this, .int a0] = [some (.ref this), some (.int a0)] := rfl
theorem x99 : mmx mTab 99 = 2 := rfl
theorem a100_19 : mat mTab 100 19 = k100_19 := rfl
theorem a100_17 : mat mTab 100 17 = k100_17 := rfl
theorem a100_0 : mat mTab 100 0 = k100_0 := rfl
theorem en100 (this : Nat) (a0 : Int32) : ment mTab 100 [.ref this, .int a0] = [some (.ref this), some (.int a0)] := rfl
theorem x100 : mmx mTab 100 = 2 := rfl
theorem a101_97 : mat mTab 101 97 = k101_97 := rfl
theorem a101_91 : mat mTab 101 91 = k101_91 := rfl
theorem a101_37 : mat mTab 101 37 = k101_37 := rfl
theorem a101_18 : mat mTab 101 18 = k101_18 := rfl
theorem a101_0 : mat mTab 101 0 = k101_0 := rfl
theorem en101 (this : Nat) : ment mTab 101 [.ref this] = [some (.ref this), none] := rfl
theorem x101 : mmx mTab 101 = 2 := rfl
theorem a102_115 : mat mTab 102 115 = k102_115 := rfl
theorem a102_96 : mat mTab 102 96 = k102_96 := rfl
theorem a102_67 : mat mTab 102 67 = k102_67 := rfl
theorem a102_47 : mat mTab 102 47 = k102_47 := rfl
theorem a102_29 : mat mTab 102 29 = k102_29 := rfl
theorem a102_21 : mat mTab 102 21 = k102_21 := rfl
theorem a102_0 : mat mTab 102 0 = k102_0 := rfl
theorem en102 (this : Nat) (a0 : Int32) (a1 : Int32) (a2 : Int32) : ment mTab 102 [.ref this, .int a0, .int a1, .int a2] = [some (.ref this), some (.int a0), some (.int a1), some (.int a2), none] := rfl
theorem x102 : mmx mTab 102 = 5 := rfl
theorem a103_86 : mat mTab 103 86 = k103_86 := rfl
theorem a103_80 : mat mTab 103 80 = k103_80 := rfl
theorem a103_37 : mat mTab 103 37 = k103_37 := rfl
theorem a103_18 : mat mTab 103 18 = k103_18 := rfl
theorem a103_0 : mat mTab 103 0 = k103_0 := rfl
theorem en103 (this : Nat) : ment mTab 103 [.ref this] = [some (.ref this), none] := rfl
theorem x103 : mmx mTab 103 = 2 := rfl
theorem a104_53 : mat mTab 104 53 = k104_53 := rfl
theorem a104_36 : mat mTab 104 36 = k104_36 := rfl
theorem a104_28 : mat mTab 104 28 = k104_28 := rfl
theorem a104_0 : mat mTab 104 0 = k104_0 := rfl
theorem en104 (this : Nat) (a0 : Int32) (a1 : Int32) (a2 : Int32) : ment mTab 104 [.ref this, .int a0, .int a1, .int a2] = [some (.ref this), some (.int a0), some (.int a1), some (.int a2)] := rfl
theorem x104 : mmx mTab 104 = 4 := rfl
theorem a105_56 : mat mTab 105 56 = k105_56 := rfl
theorem a105_35 : mat mTab 105 35 = k105_35 := rfl
theorem a105_15 : mat mTab 105 15 = k105_15 := rfl
theorem a105_0 : mat mTab 105 0 = k105_0 := rfl
theorem en105 (this : Nat) (a0 : Int32) (a1 : Int32) (a2 : Int64) : ment mTab 105 [.ref this, .int a0, .int a1, .long a2] = [some (.ref this), some (.int a0), some (.int a1), some (.long a2), none] := rfl
theorem x105 : mmx mTab 105 = 5 := rfl
theorem a106_22 : mat mTab 106 22 = k106_22 := rfl
theorem a106_20 : mat mTab 106 20 = k106_20 := rfl
theorem a106_0 : mat mTab 106 0 = k106_0 := rfl
theorem en106 (this : Nat) (a0 : Int32) (a1 : Int32) : ment mTab 106 [.ref this, .int a0, .int a1] = [some (.ref this), some (.int a0), some (.int a1)] := rfl
theorem x106 : mmx mTab 106 = 3 := rfl
theorem a107_127 : mat mTab 107 127 = k107_127 := rfl
theorem a107_121 : mat mTab 107 121 = k107_121 := rfl
theorem a107_62 : mat mTab 107 62 = k107_62 := rfl
theorem a107_44 : mat mTab 107 44 = k107_44 := rfl
theorem a107_22 : mat mTab 107 22 = k107_22 := rfl
theorem a107_14 : mat mTab 107 14 = k107_14 := rfl
theorem a107_0 : mat mTab 107 0 = k107_0 := rfl
theorem en107 (this : Nat) (a0 : Int32) (a1 : Int32) : ment mTab 107 [.ref this, .int a0, .int a1] = [some (.ref this), some (.int a0), some (.int a1), none, none, none, none, none] := rfl
theorem x107 : mmx mTab 107 = 8 := rfl
theorem a108_92 : mat mTab 108 92 = k108_92 := rfl
theorem a108_47 : mat mTab 108 47 = k108_47 := rfl
theorem a108_44 : mat mTab 108 44 = k108_44 := rfl
theorem a108_22 : mat mTab 108 22 = k108_22 := rfl
theorem a108_14 : mat mTab 108 14 = k108_14 := rfl
theorem a108_0 : mat mTab 108 0 = k108_0 := rfl
theorem en108 (this : Nat) (a0 : Int32) (a1 : Int32) : ment mTab 108 [.ref this, .int a0, .int a1] = [some (.ref this), some (.int a0), some (.int a1), none, none] := rfl
theorem x108 : mmx mTab 108 = 5 := rfl
theorem a109_100 : mat mTab 109 100 = k109_100 := rfl
theorem a109_94 : mat mTab 109 94 = k109_94 := rfl
theorem a109_47 : mat mTab 109 47 = k109_47 := rfl
theorem a109_44 : mat mTab 109 44 = k109_44 := rfl
theorem a109_22 : mat mTab 109 22 = k109_22 := rfl
theorem a109_14 : mat mTab 109 14 = k109_14 := rfl
theorem a109_0 : mat mTab 109 0 = k109_0 := rfl
theorem en109 (this : Nat) (a0 : Int32) (a1 : Int32) : ment mTab 109 [.ref this, .int a0, .int a1] = [some (.ref this), some (.int a0), some (.int a1), none, none] := rfl
theorem x109 : mmx mTab 109 = 5 := rfl
theorem a110_0 : mat mTab 110 0 = k110_0 := rfl
theorem en110 (this : Nat) : ment mTab 110 [.ref this] = [some (.ref this)] := rfl
theorem x110 : mmx mTab 110 = 1 := rfl
theorem a111_15 : mat mTab 111 15 = k111_15 := rfl
theorem a111_0 : mat mTab 111 0 = k111_0 := rfl
theorem en111 (this : Nat) : ment mTab 111 [.ref this] = [some (.ref this)] := rfl
theorem x111 : mmx mTab 111 = 1 := rfl
theorem a112_99 : mat mTab 112 99 = k112_99 := rfl
theorem a112_91 : mat mTab 112 91 = k112_91 := rfl
theorem a112_90 : mat mTab 112 90 = k112_90 := rfl
theorem a112_80 : mat mTab 112 80 = k112_80 := rfl
theorem a112_66 : mat mTab 112 66 = k112_66 := rfl
theorem a112_55 : mat mTab 112 55 = k112_55 := rfl
theorem a112_44 : mat mTab 112 44 = k112_44 := rfl
theorem a112_36 : mat mTab 112 36 = k112_36 := rfl
theorem a112_0 : mat mTab 112 0 = k112_0 := rfl
theorem en112 (this : Nat) (a0 : Int32) : ment mTab 112 [.ref this, .int a0] = [some (.ref this), some (.int a0)] := rfl
theorem x112 : mmx mTab 112 = 2 := rfl
theorem a113_17 : mat mTab 113 17 = k113_17 := rfl
theorem a113_9 : mat mTab 113 9 = k113_9 := rfl
theorem a113_0 : mat mTab 113 0 = k113_0 := rfl
theorem en113 (this : Nat) (a0 : Int32) : ment mTab 113 [.ref this, .int a0] = [some (.ref this), some (.int a0)] := rfl
theorem x113 : mmx mTab 113 = 2 := rfl
theorem a114_25 : mat mTab 114 25 = k114_25 := rfl
theorem a114_0 : mat mTab 114 0 = k114_0 := rfl
theorem en114 (this : Nat) (a0 : Int32) : ment mTab 114 [.ref this, .int a0] = [some (.ref this), some (.int a0), none] := rfl
theorem x114 : mmx mTab 114 = 3 := rfl
theorem a115_15 : mat mTab 115 15 = k115_15 := rfl
theorem a115_14 : mat mTab 115 14 = k115_14 := rfl
theorem a115_0 : mat mTab 115 0 = k115_0 := rfl
theorem en115 (a0 : Int32) : ment mTab 115 [.int a0] = [some (.int a0)] := rfl
theorem x115 : mmx mTab 115 = 1 := rfl
theorem a116_15 : mat mTab 116 15 = k116_15 := rfl
theorem a116_14 : mat mTab 116 14 = k116_14 := rfl
theorem a116_0 : mat mTab 116 0 = k116_0 := rfl
theorem en116 (a0 : Int32) : ment mTab 116 [.int a0] = [some (.int a0)] := rfl
theorem x116 : mmx mTab 116 = 1 := rfl
theorem a117_15 : mat mTab 117 15 = k117_15 := rfl
theorem a117_14 : mat mTab 117 14 = k117_14 := rfl
theorem a117_0 : mat mTab 117 0 = k117_0 := rfl
theorem en117 (a0 : Int32) : ment mTab 117 [.int a0] = [some (.int a0)] := rfl
theorem x117 : mmx mTab 117 = 1 := rfl
theorem a118_16 : mat mTab 118 16 = k118_16 := rfl
theorem a118_15 : mat mTab 118 15 = k118_15 := rfl
theorem a118_0 : mat mTab 118 0 = k118_0 := rfl
theorem en118 (a0 : Int32) : ment mTab 118 [.int a0] = [some (.int a0)] := rfl
theorem x118 : mmx mTab 118 = 1 := rfl
theorem a119_15 : mat mTab 119 15 = k119_15 := rfl
theorem a119_14 : mat mTab 119 14 = k119_14 := rfl
theorem a119_0 : mat mTab 119 0 = k119_0 := rfl
theorem en119 (a0 : Int32) : ment mTab 119 [.int a0] = [some (.int a0)] := rfl
theorem x119 : mmx mTab 119 = 1 := rfl
theorem a120_14 : mat mTab 120 14 = k120_14 := rfl
theorem a120_13 : mat mTab 120 13 = k120_13 := rfl
theorem a120_0 : mat mTab 120 0 = k120_0 := rfl
theorem en120 (a0 : Int32) : ment mTab 120 [.int a0] = [some (.int a0)] := rfl
theorem x120 : mmx mTab 120 = 1 := rfl
theorem a121_0 : mat mTab 121 0 = k121_0 := rfl
theorem en121 (this : Nat) (a0 : Int32) (a1 : Int32) : ment mTab 121 [.ref this, .int a0, .int a1] = [some (.ref this), some (.int a0), some (.int a1)] := rfl
theorem x121 : mmx mTab 121 = 3 := rfl
theorem a122_0 : mat mTab 122 0 = k122_0 := rfl
theorem en122 (this : Nat) (a0 : Int32) (a1 : Int32) : ment mTab 122 [.ref this, .int a0, .int a1] = [some (.ref this), some (.int a0), some (.int a1), none] := rfl
theorem x122 : mmx mTab 122 = 4 := rfl
theorem a123_52 : mat mTab 123 52 = k123_52 := rfl
theorem a123_42 : mat mTab 123 42 = k123_42 := rfl
theorem a123_15 : mat mTab 123 15 = k123_15 := rfl
theorem a123_0 : mat mTab 123 0 = k123_0 := rfl
theorem en123 (this : Nat) (a0 : Int32) (a1 : Int32) : ment mTab 123 [.ref this, .int a0, .int a1] = [some (.ref this), some (.int a0), some (.int a1), none, none, none, none, none, none, none] := rfl
theorem x123 : mmx mTab 123 = 10 := rfl
theorem a124_36 : mat mTab 124 36 = k124_36 := rfl
theorem a124_6 : mat mTab 124 6 = k124_6 := rfl
theorem a124_0 : mat mTab 124 0 = k124_0 := rfl
theorem en124 (this : Nat) (a0 : Int64) (a1 : Int64) : ment mTab 124 [.ref this, .long a0, .long a1] = [some (.ref this), some (.long a0), none, some (.long a1), none, none, none, none] := rfl
theorem x124 : mmx mTab 124 = 8 := rfl
theorem a125_113 : mat mTab 125 113 = k125_113 := rfl
theorem a125_112 : mat mTab 125 112 = k125_112 := rfl
theorem a125_96 : mat mTab 125 96 = k125_96 := rfl
theorem a125_95 : mat mTab 125 95 = k125_95 := rfl
theorem a125_91 : mat mTab 125 91 = k125_91 := rfl
theorem a125_77 : mat mTab 125 77 = k125_77 := rfl
theorem a125_64 : mat mTab 125 64 = k125_64 := rfl
theorem a125_63 : mat mTab 125 63 = k125_63 := rfl
theorem a125_47 : mat mTab 125 47 = k125_47 := rfl
theorem a125_46 : mat mTab 125 46 = k125_46 := rfl
theorem a125_42 : mat mTab 125 42 = k125_42 := rfl
theorem a125_28 : mat mTab 125 28 = k125_28 := rfl
theorem a125_0 : mat mTab 125 0 = k125_0 := rfl
theorem en125 (a0 : Int64) (a1 : Int32) (a2 : Int32) : ment mTab 125 [.long a0, .int a1, .int a2] = [some (.long a0), none, some (.int a1), some (.int a2), none, none] := rfl
theorem x125 : mmx mTab 125 = 6 := rfl
theorem a126_0 : mat mTab 126 0 = k126_0 := rfl
theorem en126 (this : Nat) (a0 : Int32) : ment mTab 126 [.ref this, .int a0] = [some (.ref this), some (.int a0)] := rfl
theorem x126 : mmx mTab 126 = 2 := rfl
theorem a127_0 : mat mTab 127 0 = k127_0 := rfl
theorem en127 (this : Nat) : ment mTab 127 [.ref this] = [some (.ref this)] := rfl
theorem x127 : mmx mTab 127 = 1 := rfl
theorem a128_18 : mat mTab 128 18 = k128_18 := rfl
theorem a128_17 : mat mTab 128 17 = k128_17 := rfl
theorem a128_0 : mat mTab 128 0 = k128_0 := rfl
theorem en128 (a0 : Int64) (a1 : Int64) (a2 : Int64) : ment mTab 128 [.long a0, .long a1, .long a2] = [some (.long a0), none, some (.long a1), none, some (.long a2), none] := rfl
theorem x128 : mmx mTab 128 = 6 := rfl
theorem a129_0 : mat mTab 129 0 = k129_0 := rfl
theorem en129 (this : Nat) (a0 : Int32) : ment mTab 129 [.ref this, .int a0] = [some (.ref this), some (.int a0)] := rfl
theorem x129 : mmx mTab 129 = 2 := rfl
theorem a130_15 : mat mTab 130 15 = k130_15 := rfl
theorem a130_14 : mat mTab 130 14 = k130_14 := rfl
theorem a130_0 : mat mTab 130 0 = k130_0 := rfl
theorem en130 (a0 : Int32) : ment mTab 130 [.int a0] = [some (.int a0)] := rfl
theorem x130 : mmx mTab 130 = 1 := rfl
theorem a131_15 : mat mTab 131 15 = k131_15 := rfl
theorem a131_14 : mat mTab 131 14 = k131_14 := rfl
theorem a131_0 : mat mTab 131 0 = k131_0 := rfl
theorem en131 (a0 : Int32) : ment mTab 131 [.int a0] = [some (.int a0)] := rfl
theorem x131 : mmx mTab 131 = 1 := rfl
theorem a132_15 : mat mTab 132 15 = k132_15 := rfl
theorem a132_14 : mat mTab 132 14 = k132_14 := rfl
theorem a132_0 : mat mTab 132 0 = k132_0 := rfl
theorem en132 (a0 : Int32) : ment mTab 132 [.int a0] = [some (.int a0)] := rfl
theorem x132 : mmx mTab 132 = 1 := rfl
theorem a133_15 : mat mTab 133 15 = k133_15 := rfl
theorem a133_14 : mat mTab 133 14 = k133_14 := rfl
theorem a133_0 : mat mTab 133 0 = k133_0 := rfl
theorem en133 (a0 : Int64) (a1 : Int32) : ment mTab 133 [.long a0, .int a1] = [some (.long a0), none, some (.int a1)] := rfl
theorem x133 : mmx mTab 133 = 3 := rfl
theorem a134_32 : mat mTab 134 32 = k134_32 := rfl
theorem a134_24 : mat mTab 134 24 = k134_24 := rfl
theorem a134_23 : mat mTab 134 23 = k134_23 := rfl
theorem a134_4 : mat mTab 134 4 = k134_4 := rfl
theorem a134_0 : mat mTab 134 0 = k134_0 := rfl
theorem en134 (a0 : Int64) : ment mTab 134 [.long a0] = [some (.long a0), none, none, none] := rfl
theorem x134 : mmx mTab 134 = 4 := rfl
theorem a135_35 : mat mTab 135 35 = k135_35 := rfl
theorem a135_28 : mat mTab 135 28 = k135_28 := rfl
theorem a135_0 : mat mTab 135 0 = k135_0 := rfl
theorem en135 (this : Nat) (a0 : Int32) (a1 : Int32) : ment mTab 135 [.ref this, .int a0, .int a1] = [some (.ref this), some (.int a0), some (.int a1)] := rfl
theorem x135 : mmx mTab 135 = 3 := rfl
theorem a136_34 : mat mTab 136 34 = k136_34 := rfl
theorem a136_26 : mat mTab 136 26 = k136_26 := rfl
theorem a136_0 : mat mTab 136 0 = k136_0 := rfl
theorem en136 (this : Nat) (a0 : Int32) (a1 : Int32) (a2 : Int32) : ment mTab 136 [.ref this, .int a0, .int a1, .int a2] = [some (.ref this), some (.int a0), some (.int a1), some (.int a2), none] := rfl
theorem x136 : mmx mTab 136 = 5 := rfl
theorem a137_55 : mat mTab 137 55 = k137_55 := rfl
theorem a137_5 : mat mTab 137 5 = k137_5 := rfl
theorem a137_0 : mat mTab 137 0 = k137_0 := rfl
theorem en137 (this : Nat) (a0 : Int32) (a1 : Int32) : ment mTab 137 [.ref this, .int a0, .int a1] = [some (.ref this), some (.int a0), some (.int a1), none, none, none] := rfl
theorem x137 : mmx mTab 137 = 6 := rfl
theorem a138_101 : mat mTab 138 101 = k138_101 := rfl
theorem a138_95 : mat mTab 138 95 = k138_95 := rfl
theorem a138_93 : mat mTab 138 93 = k138_93 := rfl
theorem a138_92 : mat mTab 138 92 = k138_92 := rfl
theorem a138_31 : mat mTab 138 31 = k138_31 := rfl
theorem a138_22 : mat mTab 138 22 = k138_22 := rfl
theorem a138_14 : mat mTab 138 14 = k138_14 := rfl
theorem a138_0 : mat mTab 138 0 = k138_0 := rfl
theorem en138 (this : Nat) (a0 : Int32) (a1 : Int32) (a2 : Int64) : ment mTab 138 [.ref this, .int a0, .int a1, .long a2] = [some (.ref this), some (.int a0), some (.int a1), some (.long a2), none, none, none, none] := rfl
theorem x138 : mmx mTab 138 = 8 := rfl
theorem a139_0 : mat mTab 139 0 = k139_0 := rfl
theorem en139 (this : Nat) (a0 : Int32) : ment mTab 139 [.ref this, .int a0] = [some (.ref this), some (.int a0)] := rfl
theorem x139 : mmx mTab 139 = 2 := rfl
theorem a140_85 : mat mTab 140 85 = k140_85 := rfl
theorem a140_78 : mat mTab 140 78 = k140_78 := rfl
theorem a140_66 : mat mTab 140 66 = k140_66 := rfl
theorem a140_35 : mat mTab 140 35 = k140_35 := rfl
theorem a140_27 : mat mTab 140 27 = k140_27 := rfl
theorem a140_19 : mat mTab 140 19 = k140_19 := rfl
theorem a140_0 : mat mTab 140 0 = k140_0 := rfl
theorem en140 (this : Nat) (a0 : Int32) (a1 : Int32) : ment mTab 140 [.ref this, .int a0, .int a1] = [some (.ref this), some (.int a0), some (.int a1), none, none, none] := rfl
theorem x140 : mmx mTab 140 = 6 := rfl
theorem a141_85 : mat mTab 141 85 = k141_85 := rfl
theorem a141_84 : mat mTab 141 84 = k141_84 := rfl
theorem a141_75 : mat mTab 141 75 = k141_75 := rfl
theorem a141_74 : mat mTab 141 74 = k141_74 := rfl
theorem a141_73 : mat mTab 141 73 = k141_73 := rfl
theorem a141_64 : mat mTab 141 64 = k141_64 := rfl
theorem a141_60 : mat mTab 141 60 = k141_60 := rfl
theorem a141_52 : mat mTab 141 52 = k141_52 := rfl
theorem a141_44 : mat mTab 141 44 = k141_44 := rfl
theorem a141_36 : mat mTab 141 36 = k141_36 := rfl
theorem a141_0 : mat mTab 141 0 = k141_0 := rfl
theorem en141 (a0 : Int32) (a1 : Int32) (a2 : Int32) : ment mTab 141 [.int a0, .int a1, .int a2] = [some (.int a0), some (.int a1), some (.int a2)] := rfl
theorem x141 : mmx mTab 141 = 3 := rfl
theorem a142_40 : mat mTab 142 40 = k142_40 := rfl
theorem a142_38 : mat mTab 142 38 = k142_38 := rfl
theorem a142_27 : mat mTab 142 27 = k142_27 := rfl
theorem a142_15 : mat mTab 142 15 = k142_15 := rfl
theorem a142_10 : mat mTab 142 10 = k142_10 := rfl
theorem a142_0 : mat mTab 142 0 = k142_0 := rfl
theorem en142 (a0 : Int32) : ment mTab 142 [.int a0] = [some (.int a0)] := rfl
theorem x142 : mmx mTab 142 = 1 := rfl
theorem a143_204 : mat mTab 143 204 = k143_204 := rfl
theorem a143_202 : mat mTab 143 202 = k143_202 := rfl
theorem a143_186 : mat mTab 143 186 = k143_186 := rfl
theorem a143_179 : mat mTab 143 179 = k143_179 := rfl
theorem a143_167 : mat mTab 143 167 = k143_167 := rfl
theorem a143_139 : mat mTab 143 139 = k143_139 := rfl
theorem a143_137 : mat mTab 143 137 = k143_137 := rfl
theorem a143_129 : mat mTab 143 129 = k143_129 := rfl
theorem a143_128 : mat mTab 143 128 = k143_128 := rfl
theorem a143_118 : mat mTab 143 118 = k143_118 := rfl
theorem a143_117 : mat mTab 143 117 = k143_117 := rfl
theorem a143_106 : mat mTab 143 106 = k143_106 := rfl
theorem a143_51 : mat mTab 143 51 = k143_51 := rfl
theorem a143_42 : mat mTab 143 42 = k143_42 := rfl
theorem a143_34 : mat mTab 143 34 = k143_34 := rfl
theorem a143_0 : mat mTab 143 0 = k143_0 := rfl
theorem en143 (this : Nat) (a0 : Int32) (a1 : Int32) (a2 : Int32) (a3 : Int32) : ment mTab 143 [.ref this, .int a0, .int a1, .int a2, .int a3] = [some (.ref this), some (.int a0), some (.int a1), some (.int a2), some (.int a3), none, none, none, none, none, none] := rfl
theorem x143 : mmx mTab 143 = 11 := rfl
theorem a144_113 : mat mTab 144 113 = k144_113 := rfl
theorem a144_94 : mat mTab 144 94 = k144_94 := rfl
theorem a144_83 : mat mTab 144 83 = k144_83 := rfl
theorem a144_47 : mat mTab 144 47 = k144_47 := rfl
theorem a144_46 : mat mTab 144 46 = k144_46 := rfl
theorem a144_37 : mat mTab 144 37 = k144_37 := rfl
theorem a144_22 : mat mTab 144 22 = k144_22 := rfl
theorem a144_21 : mat mTab 144 21 = k144_21 := rfl
theorem a144_12 : mat mTab 144 12 = k144_12 := rfl
theorem a144_0 : mat mTab 144 0 = k144_0 := rfl
theorem en144 (this : Nat) (a0 : Int32) (a1 : Int32) : ment mTab 144 [.ref this, .int a0, .int a1] = [some (.ref this), some (.int a0), some (.int a1), none, none] := rfl
theorem x144 : mmx mTab 144 = 5 := rfl
theorem a145_113 : mat mTab 145 113 = k145_113 := rfl
theorem a145_106 : mat mTab 145 106 = k145_106 := rfl
theorem a145_94 : mat mTab 145 94 = k145_94 := rfl
theorem a145_56 : mat mTab 145 56 = k145_56 := rfl
theorem a145_53 : mat mTab 145 53 = k145_53 := rfl
theorem a145_46 : mat mTab 145 46 = k145_46 := rfl
theorem a145_34 : mat mTab 145 34 = k145_34 := rfl
theorem a145_3 : mat mTab 145 3 = k145_3 := rfl
theorem a145_0 : mat mTab 145 0 = k145_0 := rfl
theorem en145 (this : Nat) (a0 : Int32) (a1 : Int32) (a2 : Int32) (a3 : Int64) : ment mTab 145 [.ref this, .int a0, .int a1, .int a2, .long a3] = [some (.ref this), some (.int a0), some (.int a1), some (.int a2), some (.long a3), none, none, none] := rfl
theorem x145 : mmx mTab 145 = 8 := rfl
theorem a146_34 : mat mTab 146 34 = k146_34 := rfl
theorem a146_26 : mat mTab 146 26 = k146_26 := rfl
theorem a146_0 : mat mTab 146 0 = k146_0 := rfl
theorem en146 (this : Nat) (a0 : Int32) (a1 : Int32) (a2 : Int32) : ment mTab 146 [.ref this, .int a0, .int a1, .int a2] = [some (.ref this), some (.int a0), some (.int a1), some (.int a2)] := rfl
theorem x146 : mmx mTab 146 = 4 := rfl
theorem a147_18 : mat mTab 147 18 = k147_18 := rfl
theorem a147_0 : mat mTab 147 0 = k147_0 := rfl
theorem en147 (this : Nat) (a0 : Int32) : ment mTab 147 [.ref this, .int a0] = [some (.ref this), some (.int a0), none] := rfl
theorem x147 : mmx mTab 147 = 3 := rfl
theorem a148_29 : mat mTab 148 29 = k148_29 := rfl
theorem a148_6 : mat mTab 148 6 = k148_6 := rfl
theorem a148_0 : mat mTab 148 0 = k148_0 := rfl
theorem en148 (this : Nat) : ment mTab 148 [.ref this] = [some (.ref this), none, none, none] := rfl
theorem x148 : mmx mTab 148 = 4 := rfl
theorem a149_39 : mat mTab 149 39 = k149_39 := rfl
theorem a149_22 : mat mTab 149 22 = k149_22 := rfl
theorem a149_14 : mat mTab 149 14 = k149_14 := rfl
theorem a149_0 : mat mTab 149 0 = k149_0 := rfl
theorem en149 (this : Nat) (a0 : Int32) (a1 : Int32) : ment mTab 149 [.ref this, .int a0, .int a1] = [some (.ref this), some (.int a0), some (.int a1)] := rfl
theorem x149 : mmx mTab 149 = 3 := rfl
theorem a150_15 : mat mTab 150 15 = k150_15 := rfl
theorem a150_0 : mat mTab 150 0 = k150_0 := rfl
theorem en150 (this : Nat) : ment mTab 150 [.ref this] = [some (.ref this)] := rfl
theorem x150 : mmx mTab 150 = 1 := rfl
theorem a151_15 : mat mTab 151 15 = k151_15 := rfl
theorem a151_0 : mat mTab 151 0 = k151_0 := rfl
theorem en151 (this : Nat) : ment mTab 151 [.ref this] = [some (.ref this)] := rfl
theorem x151 : mmx mTab 151 = 1 := rfl
theorem a152_242 : mat mTab 152 242 = k152_242 := rfl
theorem a152_239 : mat mTab 152 239 = k152_239 := rfl
theorem a152_236 : mat mTab 152 236 = k152_236 := rfl
theorem a152_233 : mat mTab 152 233 = k152_233 := rfl
theorem a152_230 : mat mTab 152 230 = k152_230 := rfl
theorem a152_227 : mat mTab 152 227 = k152_227 := rfl
theorem a152_224 : mat mTab 152 224 = k152_224 := rfl
theorem a152_186 : mat mTab 152 186 = k152_186 := rfl
theorem a152_180 : mat mTab 152 180 = k152_180 := rfl
theorem a152_177 : mat mTab 152 177 = k152_177 := rfl
theorem a152_176 : mat mTab 152 176 = k152_176 := rfl
theorem a152_163 : mat mTab 152 163 = k152_163 := rfl
theorem a152_161 : mat mTab 152 161 = k152_161 := rfl
theorem a152_156 : mat mTab 152 156 = k152_156 := rfl
theorem a152_142 : mat mTab 152 142 = k152_142 := rfl
theorem a152_140 : mat mTab 152 140 = k152_140 := rfl
theorem a152_126 : mat mTab 152 126 = k152_126 := rfl
theorem a152_124 : mat mTab 152 124 = k152_124 := rfl
theorem a152_91 : mat mTab 152 91 = k152_91 := rfl
theorem a152_58 : mat mTab 152 58 = k152_58 := rfl
theorem a152_27 : mat mTab 152 27 = k152_27 := rfl
theorem a152_19 : mat mTab 152 19 = k152_19 := rfl
theorem a152_0 : mat mTab 152 0 = k152_0 := rfl
theorem en152 (this : Nat) (a0 : Int32) (a1 : Int32) : ment mTab 152 [.ref this, .int a0, .int a1] = [some (.ref this), some (.int a0), some (.int a1), none, none, none, none, none, none, none, none, none, none, none] := rfl
theorem x152 : mmx mTab 152 = 14 := rfl
theorem a153_104 : mat mTab 153 104 = k153_104 := rfl
theorem a153_95 : mat mTab 153 95 = k153_95 := rfl
theorem a153_94 : mat mTab 153 94 = k153_94 := rfl
theorem a153_57 : mat mTab 153 57 = k153_57 := rfl
theorem a153_43 : mat mTab 153 43 = k153_43 := rfl
theorem a153_35 : mat mTab 153 35 = k153_35 := rfl
theorem a153_0 : mat mTab 153 0 = k153_0 := rfl
theorem en153 (this : Nat) (a0 : Int32) (a1 : Int32) (a2 : Int32) : ment mTab 153 [.ref this, .int a0, .int a1, .int a2] = [some (.ref this), some (.int a0), some (.int a1), some (.int a2), none, none, none, none] := rfl
theorem x153 : mmx mTab 153 = 8 := rfl
theorem a154_91 : mat mTab 154 91 = k154_91 := rfl
theorem a154_82 : mat mTab 154 82 = k154_82 := rfl
theorem a154_81 : mat mTab 154 81 = k154_81 := rfl
theorem a154_33 : mat mTab 154 33 = k154_33 := rfl
theorem a154_22 : mat mTab 154 22 = k154_22 := rfl
theorem a154_14 : mat mTab 154 14 = k154_14 := rfl
theorem a154_0 : mat mTab 154 0 = k154_0 := rfl
theorem en154 (this : Nat) (a0 : Int32) (a1 : Int32) : ment mTab 154 [.ref this, .int a0, .int a1] = [some (.ref this), some (.int a0), some (.int a1), none, none, none, none] := rfl
theorem x154 : mmx mTab 154 = 7 := rfl
theorem a155_100 : mat mTab 155 100 = k155_100 := rfl
theorem a155_92 : mat mTab 155 92 = k155_92 := rfl
theorem a155_91 : mat mTab 155 91 = k155_91 := rfl
theorem a155_78 : mat mTab 155 78 = k155_78 := rfl
theorem a155_70 : mat mTab 155 70 = k155_70 := rfl
theorem a155_69 : mat mTab 155 69 = k155_69 := rfl
theorem a155_25 : mat mTab 155 25 = k155_25 := rfl
theorem a155_5 : mat mTab 155 5 = k155_5 := rfl
theorem a155_0 : mat mTab 155 0 = k155_0 := rfl
theorem en155 (this : Nat) (a0 : Int32) : ment mTab 155 [.ref this, .int a0] = [some (.ref this), some (.int a0), none, none, none, none, none] := rfl
theorem x155 : mmx mTab 155 = 7 := rfl
theorem a156_118 : mat mTab 156 118 = k156_118 := rfl
theorem a156_115 : mat mTab 156 115 = k156_115 := rfl
theorem a156_109 : mat mTab 156 109 = k156_109 := rfl
theorem a156_103 : mat mTab 156 103 = k156_103 := rfl
theorem a156_28 : mat mTab 156 28 = k156_28 := rfl
theorem a156_18 : mat mTab 156 18 = k156_18 := rfl
theorem a156_7 : mat mTab 156 7 = k156_7 := rfl
theorem a156_0 : mat mTab 156 0 = k156_0 := rfl
theorem en156 (this : Nat) (a0 : Int32) (a1 : Int32) : ment mTab 156 [.ref this, .int a0, .int a1] = [some (.ref this), some (.int a0), some (.int a1), none, none, none, none, none, none] := rfl
theorem x156 : mmx mTab 156 = 9 := rfl
theorem a157_24 : mat mTab 157 24 = k157_24 := rfl
theorem a157_23 : mat mTab 157 23 = k157_23 := rfl
theorem a157_0 : mat mTab 157 0 = k157_0 := rfl
theorem en157 (this : Nat) (a0 : Int32) (a1 : Int32) : ment mTab 157 [.ref this, .int a0, .int a1] = [some (.ref this), some (.int a0), some (.int a1)] := rfl
theorem x157 : mmx mTab 157 = 3 := rfl
theorem a158_58 : mat mTab 158 58 = k158_58 := rfl
theorem a158_52 : mat mTab 158 52 = k158_52 := rfl
theorem a158_23 : mat mTab 158 23 = k158_23 := rfl
theorem a158_15 : mat mTab 158 15 = k158_15 := rfl
theorem a158_0 : mat mTab 158 0 = k158_0 := rfl
theorem en158 (this : Nat) (a0 : Int32) : ment mTab 158 [.ref this, .int a0] = [some (.ref this), some (.int a0), none, none, none, none] := rfl
theorem x158 : mmx mTab 158 = 6 := rfl
theorem a159_184 : mat mTab 159 184 = k159_184 := rfl
theorem a159_174 : mat mTab 159 174 = k159_174 := rfl
theorem a159_168 : mat mTab 159 168 = k159_168 := rfl
theorem a159_159 : mat mTab 159 159 = k159_159 := rfl
theorem a159_158 : mat mTab 159 158 = k159_158 := rfl
theorem a159_103 : mat mTab 159 103 = k159_103 := rfl
theorem a159_93 : mat mTab 159 93 = k159_93 := rfl
theorem a159_86 : mat mTab 159 86 = k159_86 := rfl
theorem a159_67 : mat mTab 159 67 = k159_67 := rfl
theorem a159_59 : mat mTab 159 59 = k159_59 := rfl
theorem a159_57 : mat mTab 159 57 = k159_57 := rfl
theorem a159_29 : mat mTab 159 29 = k159_29 := rfl
theorem a159_21 : mat mTab 159 21 = k159_21 := rfl
theorem a159_0 : mat mTab 159 0 = k159_0 := rfl
theorem en159 (this : Nat) (a0 : Int32) (a1 : Int32) (a2 : Int32) : ment mTab 159 [.ref this, .int a0, .int a1, .int a2] = [some (.ref this), some (.int a0), some (.int a1), some (.int a2), none, none, none, none, none, none, none, none] := rfl
theorem x159 : mmx mTab 159 = 12 := rfl
theorem a160_86 : mat mTab 160 86 = k160_86 := rfl
theorem a160_43 : mat mTab 160 43 = k160_43 := rfl
theorem a160_40 : mat mTab 160 40 = k160_40 := rfl
theorem a160_20 : mat mTab 160 20 = k160_20 := rfl
theorem a160_0 : mat mTab 160 0 = k160_0 := rfl
theorem en160 (this : Nat) (a0 : Int64) (a1 : Int32) : ment mTab 160 [.ref this, .long a0, .int a1] = [some (.ref this), some (.long a0), none, some (.int a1), none] := rfl
theorem x160 : mmx mTab 160 = 5 := rfl
theorem a161_0 : mat mTab 161 0 = k161_0 := rfl
theorem en161 (this : Nat) : ment mTab 161 [.ref this] = [some (.ref this), none] := rfl
theorem x161 : mmx mTab 161 = 2 := rfl
theorem a162_24 : mat mTab 162 24 = k162_24 := rfl
theorem a162_23 : mat mTab 162 23 = k162_23 := rfl
theorem a162_0 : mat mTab 162 0 = k162_0 := rfl
theorem en162 (this : Nat) : ment mTab 162 [.ref this] = [some (.ref this)] := rfl
theorem x162 : mmx mTab 162 = 1 := rfl
theorem a163_0 : mat mTab 163 0 = k163_0 := rfl
theorem en163 (this : Nat) (a0 : Int32) (a1 : Int32) (a2 : Int32) (a3 : Int32) : ment mTab 163 [.ref this, .int a0, .int a1, .int a2, .int a3] = [some (.ref this), some (.int a0), some (.int a1), some (.int a2), some (.int a3), none] := rfl
theorem x163 : mmx mTab 163 = 6 := rfl
theorem a164_16 : mat mTab 164 16 = k164_16 := rfl
theorem a164_12 : mat mTab 164 12 = k164_12 := rfl
theorem a164_0 : mat mTab 164 0 = k164_0 := rfl
theorem en164 (this : Nat) (a0 : Int32) : ment mTab 164 [.ref this, .int a0] = [some (.ref this), some (.int a0)] := rfl
theorem x164 : mmx mTab 164 = 2 := rfl
theorem a165_17 : mat mTab 165 17 = k165_17 := rfl
theorem a165_15 : mat mTab 165 15 = k165_15 := rfl
theorem a165_0 : mat mTab 165 0 = k165_0 := rfl
theorem en165 (this : Nat) (a0 : Int32) : ment mTab 165 [.ref this, .int a0] = [some (.ref this), some (.int a0)] := rfl
theorem x165 : mmx mTab 165 = 2 := rfl
theorem a166_24 : mat mTab 166 24 = k166_24 := rfl
theorem a166_0 : mat mTab 166 0 = k166_0 := rfl
theorem en166 (this : Nat) (a0 : Int32) : ment mTab 166 [.ref this, .int a0] = [some (.ref this), some (.int a0)] := rfl
theorem x166 : mmx mTab 166 = 2 := rfl
theorem a167_23 : mat mTab 167 23 = k167_23 := rfl
theorem a167_22 : mat mTab 167 22 = k167_22 := rfl
theorem a167_0 : mat mTab 167 0 = k167_0 := rfl
theorem en167 (this : Nat) : ment mTab 167 [.ref this] = [some (.ref this)] := rfl
theorem x167 : mmx mTab 167 = 1 := rfl
theorem a168_73 : mat mTab 168 73 = k168_73 := rfl
theorem a168_65 : mat mTab 168 65 = k168_65 := rfl
theorem a168_50 : mat mTab 168 50 = k168_50 := rfl
theorem a168_7 : mat mTab 168 7 = k168_7 := rfl
theorem a168_0 : mat mTab 168 0 = k168_0 := rfl
theorem en168 (this : Nat) : ment mTab 168 [.ref this] = [some (.ref this), none, none] := rfl
theorem x168 : mmx mTab 168 = 3 := rfl
theorem a169_33 : mat mTab 169 33 = k169_33 := rfl
theorem a169_24 : mat mTab 169 24 = k169_24 := rfl
theorem a169_0 : mat mTab 169 0 = k169_0 := rfl
theorem en169 (this : Nat) : ment mTab 169 [.ref this] = [some (.ref this), none] := rfl
theorem x169 : mmx mTab 169 = 2 := rfl
theorem a170_176 : mat mTab 170 176 = k170_176 := rfl
theorem a170_170 : mat mTab 170 170 = k170_170 := rfl
theorem a170_151 : mat mTab 170 151 = k170_151 := rfl
theorem a170_147 : mat mTab 170 147 = k170_147 := rfl
theorem a170_114 : mat mTab 170 114 = k170_114 := rfl
theorem a170_105 : mat mTab 170 105 = k170_105 := rfl
theorem a170_97 : mat mTab 170 97 = k170_97 := rfl
theorem a170_85 : mat mTab 170 85 = k170_85 := rfl
theorem a170_60 : mat mTab 170 60 = k170_60 := rfl
theorem a170_21 : mat mTab 170 21 = k170_21 := rfl
theorem a170_9 : mat mTab 170 9 = k170_9 := rfl
theorem a170_0 : mat mTab 170 0 = k170_0 := rfl
theorem en170 (this : Nat) : ment mTab 170 [.ref this] = [some (.ref this), none, none] := rfl
theorem x170 : mmx mTab 170 = 3 := rfl
theorem a171_74 : mat mTab 171 74 = k171_74 := rfl
theorem a171_46 : mat mTab 171 46 = k171_46 := rfl
theorem a171_44 : mat mTab 171 44 = k171_44 := rfl
theorem a171_30 : mat mTab 171 30 = k171_30 := rfl
theorem a171_5 : mat mTab 171 5 = k171_5 := rfl
theorem a171_0 : mat mTab 171 0 = k171_0 := rfl
theorem en171 (this : Nat) : ment mTab 171 [.ref this] = [some (.ref this), none, none, none] := rfl
theorem x171 : mmx mTab 171 = 4 := rfl
theorem a172_72 : mat mTab 172 72 = k172_72 := rfl
theorem a172_44 : mat mTab 172 44 = k172_44 := rfl
theorem a172_43 : mat mTab 172 43 = k172_43 := rfl
theorem a172_30 : mat mTab 172 30 = k172_30 := rfl
theorem a172_5 : mat mTab 172 5 = k172_5 := rfl
theorem a172_0 : mat mTab 172 0 = k172_0 := rfl
theorem en172 (this : Nat) : ment mTab 172 [.ref this] = [some (.ref this), none, none, none] := rfl
theorem x172 : mmx mTab 172 = 4 := rfl
theorem a173_71 : mat mTab 173 71 = k173_71 := rfl
theorem a173_46 : mat mTab 173 46 = k173_46 := rfl
theorem a173_44 : mat mTab 173 44 = k173_44 := rfl
theorem a173_30 : mat mTab 173 30 = k173_30 := rfl
theorem a173_0 : mat mTab 173 0 = k173_0 := rfl
theorem en173 (this : Nat) : ment mTab 173 [.ref this] = [some (.ref this), none, none, none] := rfl
theorem x173 : mmx mTab 173 = 4 := rfl
theorem a174_326 : mat mTab 174 326 = k174_326 := rfl
theorem a174_312 : mat mTab 174 312 = k174_312 := rfl
theorem a174_311 : mat mTab 174 311 = k174_311 := rfl
theorem a174_298 : mat mTab 174 298 = k174_298 := rfl
theorem a174_285 : mat mTab 174 285 = k174_285 := rfl
theorem a174_272 : mat mTab 174 272 = k174_272 := rfl
theorem a174_259 : mat mTab 174 259 = k174_259 := rfl
theorem a174_244 : mat mTab 174 244 = k174_244 := rfl
theorem a174_217 : mat mTab 174 217 = k174_217 := rfl
theorem a174_209 : mat mTab 174 209 = k174_209 := rfl
theorem a174_207 : mat mTab 174 207 = k174_207 := rfl
theorem a174_191 : mat mTab 174 191 = k174_191 := rfl
theorem a174_190 : mat mTab 174 190 = k174_190 := rfl
theorem a174_162 : mat mTab 174 162 = k174_162 := rfl
theorem a174_160 : mat mTab 174 160 = k174_160 := rfl
theorem a174_146 : mat mTab 174 146 = k174_146 := rfl
theorem a174_145 : mat mTab 174 145 = k174_145 := rfl
theorem a174_103 : mat mTab 174 103 = k174_103 := rfl
theorem a174_102 : mat mTab 174 102 = k174_102 := rfl
theorem a174_67 : mat mTab 174 67 = k174_67 := rfl
theorem a174_58 : mat mTab 174 58 = k174_58 := rfl
theorem a174_36 : mat mTab 174 36 = k174_36 := rfl
theorem a174_9 : mat mTab 174 9 = k174_9 := rfl
theorem a174_0 : mat mTab 174 0 = k174_0 := rfl
theorem en174 (this : Nat) : ment mTab 174 [.ref this] = [some (.ref this), none, none, none, none] := rfl
theorem x174 : mmx mTab 174 = 5 := rfl
theorem a175_37 : mat mTab 175 37 = k175_37 := rfl
theorem a175_7 : mat mTab 175 7 = k175_7 := rfl
theorem a175_0 : mat mTab 175 0 = k175_0 := rfl
theorem en175 (this : Nat) : ment mTab 175 [.ref this] = [some (.ref this), none, none, none] := rfl
theorem x175 : mmx mTab 175 = 4 := rfl
theorem a176_95 : mat mTab 176 95 = k176_95 := rfl
theorem a176_80 : mat mTab 176 80 = k176_80 := rfl
theorem a176_0 : mat mTab 176 0 = k176_0 := rfl
theorem en176 (this : Nat) : ment mTab 176 [.ref this] = [some (.ref this), none] := rfl
theorem x176 : mmx mTab 176 = 2 := rfl
theorem a177_265 : mat mTab 177 265 = k177_265 := rfl
theorem a177_258 : mat mTab 177 258 = k177_258 := rfl
theorem a177_230 : mat mTab 177 230 = k177_230 := rfl
theorem a177_208 : mat mTab 177 208 = k177_208 := rfl
theorem a177_206 : mat mTab 177 206 = k177_206 := rfl
theorem a177_181 : mat mTab 177 181 = k177_181 := rfl
theorem a177_179 : mat mTab 177 179 = k177_179 := rfl
theorem a177_151 : mat mTab 177 151 = k177_151 := rfl
theorem a177_128 : mat mTab 177 128 = k177_128 := rfl
theorem a177_121 : mat mTab 177 121 = k177_121 := rfl
theorem a177_120 : mat mTab 177 120 = k177_120 := rfl
theorem a177_109 : mat mTab 177 109 = k177_109 := rfl
theorem a177_104 : mat mTab 177 104 = k177_104 := rfl
theorem a177_88 : mat mTab 177 88 = k177_88 := rfl
theorem a177_69 : mat mTab 177 69 = k177_69 := rfl
theorem a177_0 : mat mTab 177 0 = k177_0 := rfl
theorem en177 (this : Nat) (a0 : Int32) (a1 : Int32) : ment mTab 177 [.ref this, .int a0, .int a1] = [some (.ref this), some (.int a0), some (.int a1), none, none, none, none, none] := rfl
theorem x177 : mmx mTab 177 = 8 := rfl
theorem a178_57 : mat mTab 178 57 = k178_57 := rfl
theorem a178_48 : mat mTab 178 48 = k178_48 := rfl
theorem a178_47 : mat mTab 178 47 = k178_47 := rfl
theorem a178_12 : mat mTab 178 12 = k178_12 := rfl
theorem a178_0 : mat mTab 178 0 = k178_0 := rfl
theorem en178 (this : Nat) (a0 : Int32) (a1 : Int64) : ment mTab 178 [.ref this, .int a0, .long a1] = [some (.ref this), some (.int a0), some (.long a1), none, none, none, none] := rfl
theorem x178 : mmx mTab 178 = 7 := rfl
theorem a179_67 : mat mTab 179 67 = k179_67 := rfl
theorem a179_47 : mat mTab 179 47 = k179_47 := rfl
theorem a179_6 : mat mTab 179 6 = k179_6 := rfl
theorem a179_0 : mat mTab 179 0 = k179_0 := rfl
theorem en179 (this : Nat) (a0 : Int32) (a1 : Int64) : ment mTab 179 [.ref this, .int a0, .long a1] = [some (.ref this), some (.int a0), some (.long a1), none, none, none, none] := rfl
theorem x179 : mmx mTab 179 = 7 := rfl
theorem a180_285 : mat mTab 180 285 = k180_285 := rfl
theorem a180_269 : mat mTab 180 269 = k180_269 := rfl
theorem a180_262 : mat mTab 180 262 = k180_262 := rfl
theorem a180_192 : mat mTab 180 192 = k180_192 := rfl
theorem a180_153 : mat mTab 180 153 = k180_153 := rfl
theorem a180_150 : mat mTab 180 150 = k180_150 := rfl
theorem a180_143 : mat mTab 180 143 = k180_143 := rfl
theorem a180_130 : mat mTab 180 130 = k180_130 := rfl
theorem a180_92 : mat mTab 180 92 = k180_92 := rfl
theorem a180_64 : mat mTab 180 64 = k180_64 := rfl
theorem a180_3 : mat mTab 180 3 = k180_3 := rfl
theorem a180_0 : mat mTab 180 0 = k180_0 := rfl
theorem en180 (this : Nat) (a0 : Int32) (a1 : Int64) : ment mTab 180 [.ref this, .int a0, .long a1] = [some (.ref this), some (.int a0), some (.long a1), none, none, none, none, none, none] := rfl
theorem x180 : mmx mTab 180 = 9 := rfl
theorem a181_20 : mat mTab 181 20 = k181_20 := rfl
theorem a181_2 : mat mTab 181 2 = k181_2 := rfl
theorem a181_0 : mat mTab 181 0 = k181_0 := rfl
theorem en181 (a0 : Nat) (a1 : Nat) : ment mTab 181 [.ref a0, .ref a1] = [some (.ref a0), some (.ref a1), none] := rfl
theorem x181 : mmx mTab 181 = 3 := rfl
theorem a182_35 : mat mTab 182 35 = k182_35 := rfl
theorem a182_28 : mat mTab 182 28 = k182_28 := rfl
theorem a182_27 : mat mTab 182 27 = k182_27 := rfl
theorem a182_4 : mat mTab 182 4 = k182_4 := rfl
theorem a182_0 : mat mTab 182 0 = k182_0 := rfl
theorem en182 (a0 : Nat) (a1 : Nat) : ment mTab 182 [.ref a0, .ref a1] = [some (.ref a0), some (.ref a1), none, none] := rfl
theorem x182 : mmx mTab 182 = 4 := rfl
theorem a183_65 : mat mTab 183 65 = k183_65 := rfl
theorem a183_42 : mat mTab 183 42 = k183_42 := rfl
theorem a183_35 : mat mTab 183 35 = k183_35 := rfl
theorem a183_20 : mat mTab 183 20 = k183_20 := rfl
theorem a183_0 : mat mTab 183 0 = k183_0 := rfl
theorem en183 (this : Nat) (a0 : Int32) : ment mTab 183 [.ref this, .int a0] = [some (.ref this), some (.int a0), none] := rfl
theorem x183 : mmx mTab 183 = 3 := rfl
theorem a184_41 : mat mTab 184 41 = k184_41 := rfl
theorem a184_18 : mat mTab 184 18 = k184_18 := rfl
theorem a184_0 : mat mTab 184 0 = k184_0 := rfl
theorem en184 (this : Nat) (a0 : Int32) : ment mTab 184 [.ref this, .int a0] = [some (.ref this), some (.int a0), none] := rfl
theorem x184 : mmx mTab 184 = 3 := rfl
theorem a185_0 : mat mTab 185 0 = k185_0 := rfl
theorem en185 (this : Nat) : ment mTab 185 [.ref this] = [some (.ref this)] := rfl
theorem x185 : mmx mTab 185 = 1 := rfl
theorem a186_49 : mat mTab 186 49 = k186_49 := rfl
theorem a186_34 : mat mTab 186 34 = k186_34 := rfl
theorem a186_26 : mat mTab 186 26 = k186_26 := rfl
theorem a186_0 : mat mTab 186 0 = k186_0 := rfl
theorem en186 (this : Nat) (a0 : Int32) (a1 : Int32) (a2 : Int32) : ment mTab 186 [.ref this, .int a0, .int a1, .int a2] = [some (.ref this), some (.int a0), some (.int a1), some (.int a2), none] := rfl
theorem x186 : mmx mTab 186 = 5 := rfl
theorem a187_35 : mat mTab 187 35 = k187_35 := rfl
theorem a187_20 : mat mTab 187 20 = k187_20 := rfl
theorem a187_0 : mat mTab 187 0 = k187_0 := rfl
theorem en187 (this : Nat) (a0 : Int32) : ment mTab 187 [.ref this, .int a0] = [some (.ref this), some (.int a0)] := rfl
theorem x187 : mmx mTab 187 = 2 := rfl
theorem a188_76 : mat mTab 188 76 = k188_76 := rfl
theorem a188_68 : mat mTab 188 68 = k188_68 := rfl
theorem a188_67 : mat mTab 188 67 = k188_67 := rfl
theorem a188_31 : mat mTab 188 31 = k188_31 := rfl
theorem a188_21 : mat mTab 188 21 = k188_21 := rfl
theorem a188_19 : mat mTab 188 19 = k188_19 := rfl
theorem a188_0 : mat mTab 188 0 = k188_0 := rfl
theorem en188 (this : Nat) (a0 : Int32) : ment mTab 188 [.ref this, .int a0] = [some (.ref this), some (.int a0), none, none, none] := rfl
theorem x188 : mmx mTab 188 = 5 := rfl
theorem a189_89 : mat mTab 189 89 = k189_89 := rfl
theorem a189_82 : mat mTab 189 82 = k189_82 := rfl
theorem a189_81 : mat mTab 189 81 = k189_81 := rfl
theorem a189_30 : mat mTab 189 30 = k189_30 := rfl
theorem a189_15 : mat mTab 189 15 = k189_15 := rfl
theorem a189_0 : mat mTab 189 0 = k189_0 := rfl
theorem en189 (this : Nat) : ment mTab 189 [.ref this] = [some (.ref this), none, none] := rfl
theorem x189 : mmx mTab 189 = 3 := rfl
theorem a190_119 : mat mTab 190 119 = k190_119 := rfl
theorem a190_99 : mat mTab 190 99 = k190_99 := rfl
theorem a190_98 : mat mTab 190 98 = k190_98 := rfl
theorem a190_66 : mat mTab 190 66 = k190_66 := rfl
theorem a190_49 : mat mTab 190 49 = k190_49 := rfl
theorem a190_34 : mat mTab 190 34 = k190_34 := rfl
theorem a190_26 : mat mTab 190 26 = k190_26 := rfl
theorem a190_0 : mat mTab 190 0 = k190_0 := rfl
theorem en190 (this : Nat) (a0 : Int32) (a1 : Int32) (a2 : Int32) : ment mTab 190 [.ref this, .int a0, .int a1, .int a2] = [some (.ref this), some (.int a0), some (.int a1), some (.int a2), none, none] := rfl
theorem x190 : mmx mTab 190 = 6 := rfl
theorem a191_78 : mat mTab 191 78 = k191_78 := rfl
theorem a191_71 : mat mTab 191 71 = k191_71 := rfl
theorem a191_70 : mat mTab 191 70 = k191_70 := rfl
theorem a191_30 : mat mTab 191 30 = k191_30 := rfl
theorem a191_15 : mat mTab 191 15 = k191_15 := rfl
theorem a191_0 : mat mTab 191 0 = k191_0 := rfl
theorem en191 (this : Nat) : ment mTab 191 [.ref this] = [some (.ref this), none, none] := rfl
theorem x191 : mmx mTab 191 = 3 := rfl
theorem a192_14 : mat mTab 192 14 = k192_14 := rfl
theorem a192_13 : mat mTab 192 13 = k192_13 := rfl
theorem a192_0 : mat mTab 192 0 = k192_0 := rfl
theorem en192 (a0 : Int32) : ment mTab 192 [.int a0] = [some (.int a0)] := rfl
theorem x192 : mmx mTab 192 = 1 := rfl
theorem a193_106 : mat mTab 193 106 = k193_106 := rfl
theorem a193_80 : mat mTab 193 80 = k193_80 := rfl
theorem a193_76 : mat mTab 193 76 = k193_76 := rfl
theorem a193_75 : mat mTab 193 75 = k193_75 := rfl
theorem a193_55 : mat mTab 193 55 = k193_55 := rfl
theorem a193_39 : mat mTab 193 39 = k193_39 := rfl
theorem a193_31 : mat mTab 193 31 = k193_31 := rfl
theorem a193_0 : mat mTab 193 0 = k193_0 := rfl
theorem en193 (this : Nat) (a0 : Int32) (a1 : Int32) (a2 : Int32) : ment mTab 193 [.ref this, .int a0, .int a1, .int a2] = [some (.ref this), some (.int a0), some (.int a1), some (.int a2), none] := rfl
theorem x193 : mmx mTab 193 = 5 := rfl
theorem a194_56 : mat mTab 194 56 = k194_56 := rfl
theorem a194_55 : mat mTab 194 55 = k194_55 := rfl
theorem a194_43 : mat mTab 194 43 = k194_43 := rfl
theorem a194_30 : mat mTab 194 30 = k194_30 := rfl
theorem a194_0 : mat mTab 194 0 = k194_0 := rfl
theorem en194 (this : Nat) (a0 : Int32) (a1 : Int32) (a2 : Int64) : ment mTab 194 [.ref this, .int a0, .int a1, .long a2] = [some (.ref this), some (.int a0), some (.int a1), some (.long a2), none, none] := rfl
theorem x194 : mmx mTab 194 = 6 := rfl
theorem a195_58 : mat mTab 195 58 = k195_58 := rfl
theorem a195_32 : mat mTab 195 32 = k195_32 := rfl
theorem a195_15 : mat mTab 195 15 = k195_15 := rfl
theorem a195_0 : mat mTab 195 0 = k195_0 := rfl
theorem en195 (this : Nat) (a0 : Int32) (a1 : Int32) (a2 : Int64) : ment mTab 195 [.ref this, .int a0, .int a1, .long a2] = [some (.ref this), some (.int a0), some (.int a1), some (.long a2), none] := rfl
theorem x195 : mmx mTab 195 = 5 := rfl
theorem a196_40 : mat mTab 196 40 = k196_40 := rfl
theorem a196_39 : mat mTab 196 39 = k196_39 := rfl
theorem a196_0 : mat mTab 196 0 = k196_0 := rfl
theorem en196 (this : Nat) (a0 : Int32) (a1 : Int32) : ment mTab 196 [.ref this, .int a0, .int a1] = [some (.ref this), some (.int a0), some (.int a1)] := rfl
theorem x196 : mmx mTab 196 = 3 := rfl
theorem a197_36 : mat mTab 197 36 = k197_36 := rfl
theorem a197_35 : mat mTab 197 35 = k197_35 := rfl
theorem a197_20 : mat mTab 197 20 = k197_20 := rfl
theorem a197_14 : mat mTab 197 14 = k197_14 := rfl
theorem a197_0 : mat mTab 197 0 = k197_0 := rfl
theorem en197 (this : Nat) (a0 : Int32) (a1 : Int32) : ment mTab 197 [.ref this, .int a0, .int a1] = [some (.ref this), some (.int a0), some (.int a1)] := rfl
theorem x197 : mmx mTab 197 = 3 := rfl
theorem a198_89 : mat mTab 198 89 = k198_89 := rfl
theorem a198_83 : mat mTab 198 83 = k198_83 := rfl
theorem a198_31 : mat mTab 198 31 = k198_31 := rfl
theorem a198_20 : mat mTab 198 20 = k198_20 := rfl
theorem a198_0 : mat mTab 198 0 = k198_0 := rfl
theorem en198 (this : Nat) (a0 : Int32) (a1 : Int32) : ment mTab 198 [.ref this, .int a0, .int a1] = [some (.ref this), some (.int a0), some (.int a1), none, none, none, none] := rfl
theorem x198 : mmx mTab 198 = 7 := rfl
theorem a199_56 : mat mTab 199 56 = k199_56 := rfl
theorem a199_22 : mat mTab 199 22 = k199_22 := rfl
theorem a199_20 : mat mTab 199 20 = k199_20 := rfl
theorem a199_0 : mat mTab 199 0 = k199_0 := rfl
theorem en199 (this : Nat) (a0 : Int32) (a1 : Int32) : ment mTab 199 [.ref this, .int a0, .int a1] = [some (.ref this), some (.int a0), some (.int a1), none] := rfl
theorem x199 : mmx mTab 199 = 4 := rfl
theorem a200_67 : mat mTab 200 67 = k200_67 := rfl
theorem a200_61 : mat mTab 200 61 = k200_61 := rfl
theorem a200_22 : mat mTab 200 22 = k200_22 := rfl
theorem a200_20 : mat mTab 200 20 = k200_20 := rfl
theorem a200_0 : mat mTab 200 0 = k200_0 := rfl
theorem en200 (this : Nat) (a0 : Int32) (a1 : Int32) : ment mTab 200 [.ref this, .int a0, .int a1] = [some (.ref this), some (.int a0), some (.int a1), none] := rfl
theorem x200 : mmx mTab 200 = 4 := rfl
theorem a201_48 : mat mTab 201 48 = k201_48 := rfl
theorem a201_24 : mat mTab 201 24 = k201_24 := rfl
theorem a201_0 : mat mTab 201 0 = k201_0 := rfl
theorem en201 (this : Nat) : ment mTab 201 [.ref this] = [some (.ref this), none] := rfl
theorem x201 : mmx mTab 201 = 2 := rfl
theorem a202_63 : mat mTab 202 63 = k202_63 := rfl
theorem a202_39 : mat mTab 202 39 = k202_39 := rfl
theorem a202_15 : mat mTab 202 15 = k202_15 := rfl
theorem a202_0 : mat mTab 202 0 = k202_0 := rfl
theorem en202 (this : Nat) : ment mTab 202 [.ref this] = [some (.ref this), none] := rfl
theorem x202 : mmx mTab 202 = 2 := rfl
theorem a203_61 : mat mTab 203 61 = k203_61 := rfl
theorem a203_56 : mat mTab 203 56 = k203_56 := rfl
theorem a203_51 : mat mTab 203 51 = k203_51 := rfl
theorem a203_46 : mat mTab 203 46 = k203_46 := rfl
theorem a203_41 : mat mTab 203 41 = k203_41 := rfl
theorem a203_36 : mat mTab 203 36 = k203_36 := rfl
theorem a203_0 : mat mTab 203 0 = k203_0 := rfl
theorem en203 (this : Nat) (a0 : Int32) : ment mTab 203 [.ref this, .int a0] = [some (.ref this), some (.int a0)] := rfl
theorem x203 : mmx mTab 203 = 2 := rfl
theorem a204_28 : mat mTab 204 28 = k204_28 := rfl
theorem a204_21 : mat mTab 204 21 = k204_21 := rfl
theorem a204_0 : mat mTab 204 0 = k204_0 := rfl
theorem en204 (this : Nat) (a0 : Int32) : ment mTab 204 [.ref this, .int a0] = [some (.ref this), some (.int a0)] := rfl
theorem x204 : mmx mTab 204 = 2 := rfl
theorem a205_74 : mat mTab 205 74 = k205_74 := rfl
theorem a205_62 : mat mTab 205 62 = k205_62 := rfl
theorem a205_49 : mat mTab 205 49 = k205_49 := rfl
theorem a205_34 : mat mTab 205 34 = k205_34 := rfl
theorem a205_17 : mat mTab 205 17 = k205_17 := rfl
theorem a205_0 : mat mTab 205 0 = k205_0 := rfl
theorem en205 (a0 : Int32) : ment mTab 205 [.int a0] = [some (.int a0), none] := rfl
theorem x205 : mmx mTab 205 = 2 := rfl
theorem a206_25 : mat mTab 206 25 = k206_25 := rfl
theorem a206_21 : mat mTab 206 21 = k206_21 := rfl
theorem a206_0 : mat mTab 206 0 = k206_0 := rfl
theorem en206 (a0 : Int64) : ment mTab 206 [.long a0] = [some (.long a0), none, none] := rfl
theorem x206 : mmx mTab 206 = 3 := rfl
theorem a207_0 : mat mTab 207 0 = k207_0 := rfl
theorem en207 (a0 : Int64) : ment mTab 207 [.long a0] = [some (.long a0), none] := rfl
theorem x207 : mmx mTab 207 = 2 := rfl
theorem a208_0 : mat mTab 208 0 = k208_0 := rfl
theorem en208 (a0 : Int64) (a1 : Int32) : ment mTab 208 [.long a0, .int a1] = [some (.long a0), none, some (.int a1)] := rfl
theorem x208 : mmx mTab 208 = 3 := rfl
theorem a209_0 : mat mTab 209 0 = k209_0 := rfl
theorem en209 (a0 : Int64) (a1 : Int32) : ment mTab 209 [.long a0, .int a1] = [some (.long a0), none, some (.int a1)] := rfl
theorem x209 : mmx mTab 209 = 3 := rfl
theorem a210_22 : mat mTab 210 22 = k210_22 := rfl
theorem a210_6 : mat mTab 210 6 = k210_6 := rfl
theorem a210_0 : mat mTab 210 0 = k210_0 := rfl
theorem en210 (a0 : Nat) (a1 : Int64) : ment mTab 210 [.ref a0, .long a1] = [some (.ref a0), some (.long a1), none, none, none] := rfl
theorem x210 : mmx mTab 210 = 5 := rfl
theorem a211_14 : mat mTab 211 14 = k211_14 := rfl
theorem a211_0 : mat mTab 211 0 = k211_0 := rfl
theorem en211 (a0 : Nat) (a1 : Int32) : ment mTab 211 [.ref a0, .int a1] = [some (.ref a0), some (.int a1), none] := rfl
theorem x211 : mmx mTab 211 = 3 := rfl
theorem a212_1443 : mat mTab 212 1443 = k212_1443 := rfl
theorem a212_1437 : mat mTab 212 1437 = k212_1437 := rfl
theorem a212_1414 : mat mTab 212 1414 = k212_1414 := rfl
theorem a212_1391 : mat mTab 212 1391 = k212_1391 := rfl
theorem a212_1378 : mat mTab 212 1378 = k212_1378 := rfl
theorem a212_1365 : mat mTab 212 1365 = k212_1365 := rfl
theorem a212_1332 : mat mTab 212 1332 = k212_1332 := rfl
theorem a212_1299 : mat mTab 212 1299 = k212_1299 := rfl
theorem a212_1266 : mat mTab 212 1266 = k212_1266 := rfl
theorem a212_1232 : mat mTab 212 1232 = k212_1232 := rfl
theorem a212_1159 : mat mTab 212 1159 = k212_1159 := rfl
theorem a212_1116 : mat mTab 212 1116 = k212_1116 := rfl
theorem a212_1103 : mat mTab 212 1103 = k212_1103 := rfl
theorem a212_1060 : mat mTab 212 1060 = k212_1060 := rfl
theorem a212_1047 : mat mTab 212 1047 = k212_1047 := rfl
theorem a212_1023 : mat mTab 212 1023 = k212_1023 := rfl
theorem a212_1000 : mat mTab 212 1000 = k212_1000 := rfl
theorem a212_957 : mat mTab 212 957 = k212_957 := rfl
theorem a212_934 : mat mTab 212 934 = k212_934 := rfl
theorem a212_921 : mat mTab 212 921 = k212_921 := rfl
theorem a212_908 : mat mTab 212 908 = k212_908 := rfl
theorem a212_845 : mat mTab 212 845 = k212_845 := rfl
theorem a212_802 : mat mTab 212 802 = k212_802 := rfl
theorem a212_779 : mat mTab 212 779 = k212_779 := rfl
theorem a212_745 : mat mTab 212 745 = k212_745 := rfl
theorem a212_721 : mat mTab 212 721 = k212_721 := rfl
theorem a212_688 : mat mTab 212 688 = k212_688 := rfl
theorem a212_645 : mat mTab 212 645 = k212_645 := rfl
theorem a212_612 : mat mTab 212 612 = k212_612 := rfl
theorem a212_598 : mat mTab 212 598 = k212_598 := rfl
theorem a212_585 : mat mTab 212 585 = k212_585 := rfl
theorem a212_572 : mat mTab 212 572 = k212_572 := rfl
theorem a212_539 : mat mTab 212 539 = k212_539 := rfl
theorem a212_516 : mat mTab 212 516 = k212_516 := rfl
theorem a212_473 : mat mTab 212 473 = k212_473 := rfl
theorem a212_420 : mat mTab 212 420 = k212_420 := rfl
theorem a212_387 : mat mTab 212 387 = k212_387 := rfl
theorem a212_314 : mat mTab 212 314 = k212_314 := rfl
theorem a212_280 : mat mTab 212 280 = k212_280 := rfl
theorem a212_237 : mat mTab 212 237 = k212_237 := rfl
theorem a212_204 : mat mTab 212 204 = k212_204 := rfl
theorem a212_18 : mat mTab 212 18 = k212_18 := rfl
theorem a212_0 : mat mTab 212 0 = k212_0 := rfl
theorem en212 (a0 : Nat) : ment mTab 212 [.ref a0] = [some (.ref a0), none, none, none] := rfl
theorem x212 : mmx mTab 212 = 4 := rfl

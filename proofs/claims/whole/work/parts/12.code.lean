def k0_0 : List mI := (.aload 0, []) :: (.invokespecial 0, []) :: (.return_, []) :: []
def k1_0 : List mI := (.aload 0, []) :: (.invokespecial 0, []) :: (.aload 0, []) :: (.aload 1, []) :: (.putfield 0, [1, 0, 1]) :: (.aload 0, []) :: (.iload 2, []) :: (.putfield 0, [1, 1, 0]) :: (.return_, []) :: []
def k2_0 : List mI := (.aload 0, []) :: (.invokespecial 0, []) :: (.aload 0, []) :: (.iconst 8, []) :: (.newarray .long, []) :: (.putfield 0, [2, 0, 1]) :: (.return_, []) :: []
def k3_14 : List mI := (.ireturn, [1]) :: []
def k3_13 : List mI := (.iconst 0, []) :: k3_14
def k3_0 : List mI := (.aload 0, []) :: (.getfield 0, [2, 1]) :: (.iconst 8, []) :: (.if_icmp .lt 0, [13]) :: (.iconst 1, []) :: (.goto 0, [14]) :: []
def k4_36 : List mI := (.return_, []) :: []
def k4_0 : List mI := (.aload 0, []) :: (.getfield 0, [2, 1]) :: (.ifCond .lt 0, [36]) :: (.aload 0, []) :: (.getfield 0, [2, 1]) :: (.iconst 8, []) :: (.if_icmp .ge 0, [36]) :: (.aload 0, []) :: (.getfield 0, [2, 0]) :: (.aload 0, []) :: (.getfield 0, [2, 1]) :: (.lload 1, []) :: (.lastore, []) :: (.aload 0, []) :: (.dup, []) :: (.getfield 0, [2, 1]) :: (.iconst 1, []) :: (.iadd, []) :: (.putfield 0, [2, 1, 0]) :: k4_36
def k5_42 : List mI := (.return_, []) :: []
def k5_0 : List mI := (.aload 0, []) :: (.getfield 0, [2, 1]) :: (.ifCond .le 0, [42]) :: (.aload 0, []) :: (.getfield 0, [2, 1]) :: (.iconst 8, []) :: (.if_icmp .gt 0, [42]) :: (.aload 0, []) :: (.getfield 0, [2, 0]) :: (.aload 0, []) :: (.getfield 0, [2, 1]) :: (.iconst 1, []) :: (.isub, []) :: (.aload 0, []) :: (.getfield 0, [2, 0]) :: (.aload 0, []) :: (.getfield 0, [2, 1]) :: (.iconst 1, []) :: (.isub, []) :: (.laload, []) :: (.jsr_w (-1), []) :: (.lxor, []) :: (.lastore, []) :: k5_42
def k6_35 : List mI := (.lload 1, []) :: (.lreturn, []) :: []
def k6_6 : List mI := (.iload 3, []) :: (.iconst 8, []) :: (.if_icmp .ge 0, [35]) :: (.iload 3, []) :: (.aload 0, []) :: (.getfield 0, [2, 1]) :: (.if_icmp .ge 0, [35]) :: (.lload 1, []) :: (.aload 0, []) :: (.getfield 0, [2, 0]) :: (.iload 3, []) :: (.laload, []) :: (.land, []) :: (.lstore 1, []) :: (.iinc 3 1, []) :: (.goto 0, [6]) :: []
def k6_0 : List mI := (.jsr_w (-1), []) :: (.lstore 1, []) :: (.iconst 0, []) :: (.istore 3, []) :: k6_6
def k7_0 : List mI := (.aload 1, []) :: (.getfield 0, [2, 0]) :: (.iconst 0, []) :: (.aload 0, []) :: (.getfield 0, [2, 0]) :: (.iconst 0, []) :: (.iconst 8, []) :: (.invokestatic 0, []) :: (.aload 0, []) :: (.aload 1, []) :: (.getfield 0, [2, 1]) :: (.putfield 0, [2, 1, 0]) :: (.return_, []) :: []
def k8_0 : List mI := (.aload 0, []) :: (.invokespecial 0, []) :: (.aload 0, []) :: (.aload 1, []) :: (.putfield 0, [3, 0, 1]) :: (.aload 0, []) :: (.iload 2, []) :: (.putfield 0, [3, 1, 0]) :: (.return_, []) :: []
def k9_0 : List mI := (.aload 0, []) :: (.invokespecial 0, []) :: (.aload 0, []) :: (.new 0, [7]) :: (.dup, []) :: (.invokespecial 0, [59, 0]) :: (.putfield 0, [4, 0, 1]) :: (.aload 0, []) :: (.iconst 160, []) :: (.newarray .int, []) :: (.putfield 0, [4, 1, 1]) :: (.return_, []) :: []
def k10_64 : List mI := (.areturn, []) :: []
def k10_63 : List mI := (.aconst_null, []) :: k10_64
def k10_40 : List mI := (.aload 0, []) :: (.getfield 0, [4, 6]) :: (.iconst (-1), []) :: (.if_icmp .ne 0, [63]) :: (.new 0, [3]) :: (.dup, []) :: (.aload 1, []) :: (.aload 0, []) :: (.getfield 0, [4, 5]) :: (.invokespecial 0, [8, 2]) :: (.goto 0, [64]) :: []
def k10_0 : List mI := (.aload 0, []) :: (.iconst 0, []) :: (.putfield 0, [4, 4, 0]) :: (.aload 0, []) :: (.iconst 0, []) :: (.putfield 0, [4, 5, 0]) :: (.aload 0, []) :: (.iconst (-1), []) :: (.putfield 0, [4, 6, 0]) :: (.aload 0, []) :: (.iconst 0, []) :: (.iconst 0, []) :: (.invokevirtual 0, [14, 2, 4]) :: (.astore 1, []) :: (.aload 0, []) :: (.getfield 0, [4, 4]) :: (.aload 0, []) :: (.getfield 0, [4, 0]) :: (.getfield 0, [7, 1]) :: (.if_icmp .ge 0, [40]) :: (.aload 0, []) :: (.invokevirtual 0, [12, 0, 4]) :: k10_40
def k11_65 : List mI := (.ireturn, []) :: []
def k11_64 : List mI := (.iconst (-1), []) :: k11_65
def k11_36 : List mI := (.istore 1, []) :: (.iload 1, []) :: (.ifCond .eq 0, [64]) :: (.aload 0, []) :: (.getfield 0, [4, 6]) :: (.iconst (-1), []) :: (.if_icmp .ne 0, [64]) :: (.aload 0, []) :: (.getfield 0, [4, 0]) :: (.getfield 0, [7, 0]) :: (.aload 0, []) :: (.getfield 0, [4, 4]) :: (.iaload, []) :: (.goto 0, [65]) :: []
def k11_35 : List mI := (.iconst 0, []) :: k11_36
def k11_0 : List mI := (.aload 0, []) :: (.getfield 0, [4, 4]) :: (.ifCond .lt 0, [35]) :: (.aload 0, []) :: (.getfield 0, [4, 4]) :: (.aload 0, []) :: (.getfield 0, [4, 0]) :: (.getfield 0, [7, 1]) :: (.if_icmp .ge 0, [35]) :: (.aload 0, []) :: (.getfield 0, [4, 4]) :: (.iconst 160, []) :: (.if_icmp .ge 0, [35]) :: (.iconst 1, []) :: (.goto 0, [36]) :: []
def k12_16 : List mI := (.return_, []) :: []
def k12_0 : List mI := (.aload 0, []) :: (.getfield 0, [4, 6]) :: (.iconst (-1), []) :: (.if_icmp .ne 0, [16]) :: (.aload 0, []) :: (.aload 0, []) :: (.getfield 0, [4, 4]) :: (.putfield 0, [4, 6, 0]) :: k12_16
def k13_25 : List mI := (.return_, []) :: []
def k13_21 : List mI := (.aload 0, []) :: (.invokevirtual 0, [12, 0, 4]) :: k13_25
def k13_0 : List mI := (.aload 0, []) :: (.invokevirtual 0, [11, 0, 4]) :: (.iload 1, []) :: (.if_icmp .ne 0, [21]) :: (.aload 0, []) :: (.dup, []) :: (.getfield 0, [4, 4]) :: (.iconst 1, []) :: (.iadd, []) :: (.putfield 0, [4, 4, 0]) :: (.goto 0, [25]) :: []
def k14_65 : List mI := (.aload 3, []) :: (.areturn, []) :: []
def k14_13 : List mI := (.iload 5, []) :: (.iconst 160, []) :: (.if_icmp .ge 0, [65]) :: (.aload 0, []) :: (.invokevirtual 0, [11, 0, 4]) :: (.iconst 59, []) :: (.if_icmp .ne 0, [65]) :: (.aload 0, []) :: (.dup, []) :: (.getfield 0, [4, 4]) :: (.iconst 1, []) :: (.iadd, []) :: (.putfield 0, [4, 4, 0]) :: (.aload 0, []) :: (.iload 1, []) :: (.iload 2, []) :: (.invokevirtual 0, [15, 2, 4]) :: (.astore 6, []) :: (.aload 4, []) :: (.aload 6, []) :: (.putfield 0, [0, 7, 1]) :: (.aload 6, []) :: (.astore 4, []) :: (.iinc 5 1, []) :: (.goto 0, [13]) :: []
def k14_0 : List mI := (.aload 0, []) :: (.iload 1, []) :: (.iload 2, []) :: (.invokevirtual 0, [15, 2, 4]) :: (.astore 3, []) :: (.aload 3, []) :: (.astore 4, []) :: (.iconst 0, []) :: (.istore 5, []) :: k14_13
def k15_105 : List mI := (.aload 3, []) :: (.areturn, []) :: []
def k15_101 : List mI := (.aload 0, []) :: (.invokevirtual 0, [12, 0, 4]) :: k15_105
def k15_70 : List mI := (.iload 4, []) :: (.iconst 123, []) :: (.if_icmp .ne 0, [101]) :: (.iload 1, []) :: (.iconst 4, []) :: (.if_icmp .ge 0, [101]) :: (.iload 2, []) :: (.iconst 2, []) :: (.if_icmp .ge 0, [101]) :: (.aload 0, []) :: (.aload 3, []) :: (.iload 1, []) :: (.iconst 1, []) :: (.iadd, []) :: (.iload 2, []) :: (.iconst 1, []) :: (.iadd, []) :: (.invokevirtual 0, [18, 3, 4]) :: (.goto 0, [105]) :: []
def k15_46 : List mI := (.iload 4, []) :: (.iconst 91, []) :: (.if_icmp .ne 0, [70]) :: (.iload 1, []) :: (.iconst 4, []) :: (.if_icmp .ge 0, [70]) :: (.aload 0, []) :: (.aload 3, []) :: (.iload 1, []) :: (.iconst 1, []) :: (.iadd, []) :: (.iload 2, []) :: (.invokevirtual 0, [17, 3, 4]) :: (.goto 0, [105]) :: []
def k15_0 : List mI := (.new 0, [0]) :: (.dup, []) :: (.invokespecial 0, [0, 0]) :: (.astore 3, []) :: (.aload 0, []) :: (.dup, []) :: (.getfield 0, [4, 5]) :: (.iconst 1, []) :: (.iadd, []) :: (.putfield 0, [4, 5, 0]) :: (.aload 0, []) :: (.invokevirtual 0, [11, 0, 4]) :: (.istore 4, []) :: (.iload 4, []) :: (.iconst 97, []) :: (.if_icmp .lt 0, [46]) :: (.iload 4, []) :: (.iconst 104, []) :: (.if_icmp .gt 0, [46]) :: (.aload 0, []) :: (.aload 3, []) :: (.invokevirtual 0, [16, 1, 4]) :: (.goto 0, [105]) :: []
def k16_70 : List mI := (.return_, []) :: []
def k16_51 : List mI := (.aload 0, []) :: (.iconst 61, []) :: (.invokevirtual 0, [13, 1, 4]) :: (.aload 1, []) :: (.iconst 0, []) :: (.putfield 0, [0, 0, 0]) :: (.aload 1, []) :: (.aload 0, []) :: (.invokevirtual 0, [21, 0, 4]) :: (.putfield 0, [0, 4, 1]) :: k16_70
def k16_0 : List mI := (.aload 1, []) :: (.aload 0, []) :: (.invokevirtual 0, [19, 0, 4]) :: (.putfield 0, [0, 1, 0]) :: (.aload 0, []) :: (.invokevirtual 0, [11, 0, 4]) :: (.iconst 64, []) :: (.if_icmp .ne 0, [51]) :: (.aload 0, []) :: (.dup, []) :: (.getfield 0, [4, 4]) :: (.iconst 1, []) :: (.iadd, []) :: (.putfield 0, [4, 4, 0]) :: (.aload 1, []) :: (.iconst 1, []) :: (.putfield 0, [0, 0, 0]) :: (.aload 1, []) :: (.aload 0, []) :: (.invokevirtual 0, [20, 0, 4]) :: (.putfield 0, [0, 3, 0]) :: (.aload 1, []) :: (.aload 0, []) :: (.invokevirtual 0, [19, 0, 4]) :: (.putfield 0, [0, 2, 0]) :: (.goto 0, [70]) :: []
def k17_68 : List mI := (.aload 0, []) :: (.iconst 93, []) :: (.invokevirtual 0, [13, 1, 4]) :: (.return_, []) :: []
def k17_0 : List mI := (.aload 0, []) :: (.dup, []) :: (.getfield 0, [4, 4]) :: (.iconst 1, []) :: (.iadd, []) :: (.putfield 0, [4, 4, 0]) :: (.aload 1, []) :: (.iconst 2, []) :: (.putfield 0, [0, 0, 0]) :: (.aload 1, []) :: (.aload 0, []) :: (.invokevirtual 0, [21, 0, 4]) :: (.putfield 0, [0, 4, 1]) :: (.aload 0, []) :: (.iconst 58, []) :: (.invokevirtual 0, [13, 1, 4]) :: (.aload 1, []) :: (.aload 0, []) :: (.iload 2, []) :: (.iload 3, []) :: (.invokevirtual 0, [14, 2, 4]) :: (.putfield 0, [0, 5, 1]) :: (.aload 0, []) :: (.invokevirtual 0, [11, 0, 4]) :: (.iconst 124, []) :: (.if_icmp .ne 0, [68]) :: (.aload 0, []) :: (.dup, []) :: (.getfield 0, [4, 4]) :: (.iconst 1, []) :: (.iadd, []) :: (.putfield 0, [4, 4, 0]) :: (.aload 1, []) :: (.aload 0, []) :: (.iload 2, []) :: (.iload 3, []) :: (.invokevirtual 0, [14, 2, 4]) :: (.putfield 0, [0, 6, 1]) :: k17_68
def k18_0 : List mI := (.aload 0, []) :: (.dup, []) :: (.getfield 0, [4, 4]) :: (.iconst 1, []) :: (.iadd, []) :: (.putfield 0, [4, 4, 0]) :: (.aload 1, []) :: (.iconst 3, []) :: (.putfield 0, [0, 0, 0]) :: (.aload 1, []) :: (.aload 0, []) :: (.invokevirtual 0, [21, 0, 4]) :: (.putfield 0, [0, 4, 1]) :: (.aload 0, []) :: (.iconst 58, []) :: (.invokevirtual 0, [13, 1, 4]) :: (.aload 1, []) :: (.aload 0, []) :: (.iload 2, []) :: (.iload 3, []) :: (.invokevirtual 0, [14, 2, 4]) :: (.putfield 0, [0, 5, 1]) :: (.aload 0, []) :: (.iconst 125, []) :: (.invokevirtual 0, [13, 1, 4]) :: (.return_, []) :: []
def k19_24 : List mI := (.aload 0, []) :: (.dup, []) :: (.getfield 0, [4, 4]) :: (.iconst 1, []) :: (.iadd, []) :: (.putfield 0, [4, 4, 0]) :: (.iload 1, []) :: (.ireturn, []) :: []
def k19_18 : List mI := (.aload 0, []) :: (.invokevirtual 0, [12, 0, 4]) :: (.iconst 0, []) :: (.ireturn, []) :: []
def k19_0 : List mI := (.aload 0, []) :: (.invokevirtual 0, [11, 0, 4]) :: (.iconst 97, []) :: (.isub, []) :: (.istore 1, []) :: (.iload 1, []) :: (.ifCond .lt 0, [18]) :: (.iload 1, []) :: (.iconst 8, []) :: (.if_icmp .lt 0, [24]) :: k19_18
def k20_74 : List mI := (.aload 0, []) :: (.dup, []) :: (.getfield 0, [4, 4]) :: (.iconst 1, []) :: (.iadd, []) :: (.putfield 0, [4, 4, 0]) :: (.iload 1, []) :: (.ireturn, []) :: []
def k20_68 : List mI := (.aload 0, []) :: (.invokevirtual 0, [12, 0, 4]) :: (.iconst 0, []) :: (.ireturn, []) :: []
def k20_63 : List mI := (.iconst 3, []) :: (.istore 1, []) :: (.goto 0, [74]) :: []
def k20_58 : List mI := (.iconst 2, []) :: (.istore 1, []) :: (.goto 0, [74]) :: []
def k20_53 : List mI := (.iconst 1, []) :: (.istore 1, []) :: (.goto 0, [74]) :: []
def k20_48 : List mI := (.iconst 0, []) :: (.istore 1, []) :: (.goto 0, [74]) :: []
def k20_0 : List mI := (.iconst (-1), []) :: (.istore 1, []) :: (.aload 0, []) :: (.invokevirtual 0, [11, 0, 4]) :: (.lookupswitch 62 #[(101, 47), (110, 42), (115, 52), (119, 57)], [6]) :: []
def k21_0 : List mI := (.aload 0, []) :: (.iconst 0, []) :: (.putfield 0, [4, 2, 0]) :: (.aload 0, []) :: (.iconst 0, []) :: (.putfield 0, [4, 3, 0]) :: (.aload 0, []) :: (.iconst 0, []) :: (.invokevirtual 0, [23, 1, 4]) :: (.new 0, [1]) :: (.dup, []) :: (.aload 0, []) :: (.getfield 0, [4, 1]) :: (.aload 0, []) :: (.getfield 0, [4, 2]) :: (.invokestatic 0, [211, 2]) :: (.aload 0, []) :: (.getfield 0, [4, 3]) :: (.invokespecial 0, [1, 2]) :: (.areturn, []) :: []
def k22_50 : List mI := (.return_, []) :: []
def k22_0 : List mI := (.aload 0, []) :: (.getfield 0, [4, 2]) :: (.iconst 160, []) :: (.if_icmp .ge 0, [50]) :: (.aload 0, []) :: (.getfield 0, [4, 1]) :: (.aload 0, []) :: (.getfield 0, [4, 2]) :: (.iload 1, []) :: (.iconst 256, []) :: (.imul, []) :: (.iload 2, []) :: (.iadd, []) :: (.iastore, []) :: (.aload 0, []) :: (.dup, []) :: (.getfield 0, [4, 2]) :: (.iconst 1, []) :: (.iadd, []) :: (.putfield 0, [4, 2, 0]) :: (.aload 0, []) :: (.dup, []) :: (.getfield 0, [4, 3]) :: (.getstatic 0, [1]) :: (.iload 1, []) :: (.iaload, []) :: (.iadd, []) :: (.putfield 0, [4, 3, 0]) :: k22_50
def k23_53 : List mI := (.return_, []) :: []
def k23_49 : List mI := (.iconst 0, []) :: (.invokevirtual 0, [22, 2, 4]) :: k23_53
def k23_48 : List mI := (.iconst 5, []) :: k23_49
def k23_22 : List mI := (.aload 0, []) :: (.dup, []) :: (.getfield 0, [4, 4]) :: (.iconst 1, []) :: (.iadd, []) :: (.putfield 0, [4, 4, 0]) :: (.aload 0, []) :: (.iload 1, []) :: (.invokevirtual 0, [24, 1, 4]) :: (.aload 0, []) :: (.iload 2, []) :: (.iconst 60, []) :: (.if_icmp .ne 0, [48]) :: (.iconst 4, []) :: (.goto 0, [49]) :: []
def k23_0 : List mI := (.aload 0, []) :: (.iload 1, []) :: (.invokevirtual 0, [24, 1, 4]) :: (.aload 0, []) :: (.invokevirtual 0, [11, 0, 4]) :: (.istore 2, []) :: (.iload 2, []) :: (.iconst 60, []) :: (.if_icmp .eq 0, [22]) :: (.iload 2, []) :: (.iconst 61, []) :: (.if_icmp .ne 0, [53]) :: k23_22
def k24_74 : List mI := (.return_, []) :: []
def k24_46 : List mI := (.istore 3, []) :: (.aload 0, []) :: (.dup, []) :: (.getfield 0, [4, 4]) :: (.iconst 1, []) :: (.iadd, []) :: (.putfield 0, [4, 4, 0]) :: (.aload 0, []) :: (.iload 1, []) :: (.invokevirtual 0, [25, 1, 4]) :: (.aload 0, []) :: (.iload 3, []) :: (.iconst 0, []) :: (.invokevirtual 0, [22, 2, 4]) :: (.iinc 2 1, []) :: (.goto 0, [7]) :: []
def k24_45 : List mI := (.iconst 1, []) :: k24_46
def k24_32 : List mI := (.aload 0, []) :: (.invokevirtual 0, [11, 0, 4]) :: (.iconst 43, []) :: (.if_icmp .ne 0, [45]) :: (.iconst 0, []) :: (.goto 0, [46]) :: []
def k24_7 : List mI := (.iload 2, []) :: (.iconst 160, []) :: (.if_icmp .ge 0, [74]) :: (.aload 0, []) :: (.invokevirtual 0, [11, 0, 4]) :: (.iconst 43, []) :: (.if_icmp .eq 0, [32]) :: (.aload 0, []) :: (.invokevirtual 0, [11, 0, 4]) :: (.iconst 45, []) :: (.if_icmp .ne 0, [74]) :: k24_32
def k24_0 : List mI := (.aload 0, []) :: (.iload 1, []) :: (.invokevirtual 0, [25, 1, 4]) :: (.iconst 0, []) :: (.istore 2, []) :: k24_7
def k25_74 : List mI := (.return_, []) :: []
def k25_46 : List mI := (.istore 3, []) :: (.aload 0, []) :: (.dup, []) :: (.getfield 0, [4, 4]) :: (.iconst 1, []) :: (.iadd, []) :: (.putfield 0, [4, 4, 0]) :: (.aload 0, []) :: (.iload 1, []) :: (.invokevirtual 0, [26, 1, 4]) :: (.aload 0, []) :: (.iload 3, []) :: (.iconst 0, []) :: (.invokevirtual 0, [22, 2, 4]) :: (.iinc 2 1, []) :: (.goto 0, [7]) :: []
def k25_45 : List mI := (.iconst 3, []) :: k25_46
def k25_32 : List mI := (.aload 0, []) :: (.invokevirtual 0, [11, 0, 4]) :: (.iconst 42, []) :: (.if_icmp .ne 0, [45]) :: (.iconst 2, []) :: (.goto 0, [46]) :: []
def k25_7 : List mI := (.iload 2, []) :: (.iconst 160, []) :: (.if_icmp .ge 0, [74]) :: (.aload 0, []) :: (.invokevirtual 0, [11, 0, 4]) :: (.iconst 42, []) :: (.if_icmp .eq 0, [32]) :: (.aload 0, []) :: (.invokevirtual 0, [11, 0, 4]) :: (.iconst 38, []) :: (.if_icmp .ne 0, [74]) :: k25_32
def k25_0 : List mI := (.aload 0, []) :: (.iload 1, []) :: (.invokevirtual 0, [26, 1, 4]) :: (.iconst 0, []) :: (.istore 2, []) :: k25_7
def k26_149 : List mI := (.return_, []) :: []
def k26_145 : List mI := (.aload 0, []) :: (.invokevirtual 0, [12, 0, 4]) :: k26_149
def k26_108 : List mI := (.iload 2, []) :: (.iconst 40, []) :: (.if_icmp .ne 0, [145]) :: (.iload 1, []) :: (.iconst 5, []) :: (.if_icmp .ge 0, [145]) :: (.aload 0, []) :: (.dup, []) :: (.getfield 0, [4, 4]) :: (.iconst 1, []) :: (.iadd, []) :: (.putfield 0, [4, 4, 0]) :: (.aload 0, []) :: (.iload 1, []) :: (.iconst 1, []) :: (.iadd, []) :: (.invokevirtual 0, [23, 1, 4]) :: (.aload 0, []) :: (.iconst 41, []) :: (.invokevirtual 0, [13, 1, 4]) :: (.goto 0, [149]) :: []
def k26_70 : List mI := (.iload 2, []) :: (.iconst 126, []) :: (.if_icmp .ne 0, [108]) :: (.iload 1, []) :: (.iconst 5, []) :: (.if_icmp .ge 0, [108]) :: (.aload 0, []) :: (.dup, []) :: (.getfield 0, [4, 4]) :: (.iconst 1, []) :: (.iadd, []) :: (.putfield 0, [4, 4, 0]) :: (.aload 0, []) :: (.iload 1, []) :: (.iconst 1, []) :: (.iadd, []) :: (.invokevirtual 0, [26, 1, 4]) :: (.aload 0, []) :: (.iconst 11, []) :: (.iconst 0, []) :: (.invokevirtual 0, [22, 2, 4]) :: (.goto 0, [149]) :: []
def k26_44 : List mI := (.iload 2, []) :: (.iconst 35, []) :: (.if_icmp .ne 0, [70]) :: (.aload 0, []) :: (.dup, []) :: (.getfield 0, [4, 4]) :: (.iconst 1, []) :: (.iadd, []) :: (.putfield 0, [4, 4, 0]) :: (.aload 0, []) :: (.iconst 10, []) :: (.iconst 0, []) :: (.invokevirtual 0, [22, 2, 4]) :: (.goto 0, [149]) :: []
def k26_19 : List mI := (.iload 2, []) :: (.iconst 97, []) :: (.if_icmp .lt 0, [44]) :: (.iload 2, []) :: (.iconst 104, []) :: (.if_icmp .gt 0, [44]) :: (.aload 0, []) :: (.iconst 9, []) :: (.aload 0, []) :: (.invokevirtual 0, [19, 0, 4]) :: (.invokevirtual 0, [22, 2, 4]) :: (.goto 0, [149]) :: []
def k26_0 : List mI := (.aload 0, []) :: (.invokevirtual 0, [11, 0, 4]) :: (.istore 2, []) :: (.iload 2, []) :: (.invokestatic 0, [28, 1]) :: (.ifCond .eq 0, [19]) :: (.aload 0, []) :: (.invokevirtual 0, [27, 0, 4]) :: (.goto 0, [149]) :: []
def k27_79 : List mI := (.return_, []) :: []
def k27_72 : List mI := (.aload 0, []) :: (.iconst 8, []) :: (.iload 2, []) :: (.invokevirtual 0, [22, 2, 4]) :: k27_79
def k27_53 : List mI := (.iload 2, []) :: (.iconst 255, []) :: (.if_icmp .le 0, [72]) :: (.aload 0, []) :: (.iload 1, []) :: (.putfield 0, [4, 4, 0]) :: (.aload 0, []) :: (.invokevirtual 0, [12, 0, 4]) :: (.goto 0, [79]) :: []
def k27_9 : List mI := (.iload 3, []) :: (.iconst 3, []) :: (.if_icmp .ge 0, [53]) :: (.aload 0, []) :: (.invokevirtual 0, [11, 0, 4]) :: (.invokestatic 0, [28, 1]) :: (.ifCond .eq 0, [53]) :: (.iload 2, []) :: (.iconst 10, []) :: (.imul, []) :: (.aload 0, []) :: (.invokevirtual 0, [11, 0, 4]) :: (.iadd, []) :: (.iconst 48, []) :: (.isub, []) :: (.istore 2, []) :: (.aload 0, []) :: (.dup, []) :: (.getfield 0, [4, 4]) :: (.iconst 1, []) :: (.iadd, []) :: (.putfield 0, [4, 4, 0]) :: (.iinc 3 1, []) :: (.goto 0, [9]) :: []
def k27_0 : List mI := (.aload 0, []) :: (.getfield 0, [4, 4]) :: (.istore 1, []) :: (.iconst 0, []) :: (.istore 2, []) :: (.iconst 0, []) :: (.istore 3, []) :: k27_9
def k28_17 : List mI := (.ireturn, [1]) :: []
def k28_16 : List mI := (.iconst 0, []) :: k28_17
def k28_0 : List mI := (.iload 0, []) :: (.iconst 48, []) :: (.if_icmp .lt 0, [16]) :: (.iload 0, []) :: (.iconst 57, []) :: (.if_icmp .gt 0, [16]) :: (.iconst 1, []) :: (.goto 0, [17]) :: []
def k29_0 : List mI := (.aload 0, []) :: (.invokespecial 0, []) :: (.aload 0, []) :: (.iconst 64, []) :: (.newarray .long, []) :: (.putfield 0, [5, 0, 1]) :: (.aload 0, []) :: (.iconst (-1), []) :: (.putfield 0, [5, 1, 0]) :: (.return_, []) :: []
def k30_25 : List mI := (.putfield 0, [5, 2, 0]) :: (.aload 0, []) :: (.getfield 0, [5, 0]) :: (.jsr_w 0, []) :: (.invokestatic 0, [210, 2]) :: (.return_, []) :: []
def k30_15 : List mI := (.iconst 0, []) :: (.iload 2, []) :: (.iconst 64, []) :: (.invokestatic 0, [2]) :: (.invokestatic 0, [1]) :: k30_25
def k30_0 : List mI := (.aload 0, []) :: (.iload 1, []) :: (.putfield 0, [5, 1, 0]) :: (.aload 0, []) :: (.iload 1, []) :: (.iconst (-1), []) :: (.if_icmp .ne 0, [15]) :: (.iconst 0, []) :: (.goto 0, [25]) :: []
def k31_13 : List mI := (.ireturn, [1]) :: []
def k31_12 : List mI := (.iconst 0, []) :: k31_13
def k31_0 : List mI := (.aload 0, []) :: (.getfield 0, [5, 1]) :: (.iconst (-1), []) :: (.if_icmp .ne 0, [12]) :: (.iconst 1, []) :: (.goto 0, [13]) :: []
def k32_23 : List mI := (.ireturn, [1]) :: []
def k32_22 : List mI := (.iconst 0, []) :: k32_23
def k32_0 : List mI := (.iload 1, []) :: (.ifCond .lt 0, [22]) :: (.iload 1, []) :: (.aload 0, []) :: (.getfield 0, [5, 2]) :: (.if_icmp .ge 0, [22]) :: (.iload 1, []) :: (.iconst 64, []) :: (.if_icmp .ge 0, [22]) :: (.iconst 1, []) :: (.goto 0, [23]) :: []
def k33_19 : List mI := (.return_, []) :: []
def k33_0 : List mI := (.aload 0, []) :: (.iload 1, []) :: (.invokevirtual 0, [32, 1, 5]) :: (.ifCond .eq 0, [19]) :: (.aload 0, []) :: (.getfield 0, [5, 0]) :: (.iload 1, []) :: (.aload 0, []) :: (.lload 2, []) :: (.invokevirtual 0, [34, 1, 5]) :: (.lastore, []) :: k33_19
def k34_46 : List mI := (.lload 1, []) :: (.lreturn, []) :: []
def k34_42 : List mI := (.lload 1, []) :: (.l2i, []) :: (.i2l, []) :: (.lreturn, []) :: []
def k34_37 : List mI := (.lload 1, []) :: (.l2i, []) :: (.i2s, []) :: (.i2l, []) :: (.lreturn, []) :: []
def k34_32 : List mI := (.lload 1, []) :: (.l2i, []) :: (.i2b, []) :: (.i2l, []) :: (.lreturn, []) :: []
def k34_0 : List mI := (.aload 0, []) :: (.getfield 0, [5, 1]) :: (.tableswitch 0 0 2 #[], [46, 32, 37, 42]) :: []
def k35_0 : List mI := (.aload 0, []) :: (.invokespecial 0, []) :: (.aload 0, []) :: (.iconst 8, []) :: (.newarray .long, []) :: (.putfield 0, [6, 0, 1]) :: (.return_, []) :: []
def k36_32 : List mI := (.iload 2, []) :: (.ireturn, []) :: []
def k36_4 : List mI := (.iload 3, []) :: (.iconst 8, []) :: (.if_icmp .ge 0, [32]) :: (.iload 2, []) :: (.aload 0, []) :: (.getfield 0, [6, 0]) :: (.iload 3, []) :: (.laload, []) :: (.iload 1, []) :: (.lushr, []) :: (.jsr_w 1, []) :: (.land, []) :: (.l2i, []) :: (.iload 3, []) :: (.ishl, []) :: (.ior, []) :: (.istore 2, []) :: (.iinc 3 1, []) :: (.goto 0, [4]) :: []
def k36_0 : List mI := (.iconst 0, []) :: (.istore 2, []) :: (.iconst 0, []) :: (.istore 3, []) :: k36_4
def k37_62 : List mI := (.return_, []) :: []
def k37_55 : List mI := (.lastore, []) :: (.iinc 5 1, []) :: (.goto 0, [7]) :: []
def k37_42 : List mI := (.aload 0, []) :: (.getfield 0, [6, 0]) :: (.iload 5, []) :: (.laload, []) :: (.lload 3, []) :: (.jsr_w (-1), []) :: (.lxor, []) :: (.land, []) :: k37_55
def k37_7 : List mI := (.iload 5, []) :: (.iconst 8, []) :: (.if_icmp .ge 0, [62]) :: (.aload 0, []) :: (.getfield 0, [6, 0]) :: (.iload 5, []) :: (.iload 2, []) :: (.iload 5, []) :: (.ishr, []) :: (.iconst 1, []) :: (.iand, []) :: (.iconst 1, []) :: (.if_icmp .ne 0, [42]) :: (.aload 0, []) :: (.getfield 0, [6, 0]) :: (.iload 5, []) :: (.laload, []) :: (.lload 3, []) :: (.lor, []) :: (.goto 0, [55]) :: []
def k37_0 : List mI := (.jsr_w 1, []) :: (.iload 1, []) :: (.lshl, []) :: (.lstore 3, []) :: (.iconst 0, []) :: (.istore 5, []) :: k37_7
def k38_36 : List mI := (.return_, []) :: []
def k38_29 : List mI := (.lastore, []) :: (.iinc 2 1, []) :: (.goto 0, [2]) :: []
def k38_28 : List mI := (.jsr_w 0, []) :: k38_29
def k38_2 : List mI := (.iload 2, []) :: (.iconst 8, []) :: (.if_icmp .ge 0, [36]) :: (.aload 0, []) :: (.getfield 0, [6, 0]) :: (.iload 2, []) :: (.iload 1, []) :: (.iload 2, []) :: (.ishr, []) :: (.iconst 1, []) :: (.iand, []) :: (.iconst 1, []) :: (.if_icmp .ne 0, [28]) :: (.jsr_w (-1), []) :: (.goto 0, [29]) :: []
def k38_0 : List mI := (.iconst 0, []) :: (.istore 2, []) :: k38_2
def k39_0 : List mI := (.getstatic 0, [2]) :: (.iconst 0, []) :: (.aload 0, []) :: (.getfield 0, [6, 0]) :: (.iconst 0, []) :: (.iconst 8, []) :: (.invokestatic 0, []) :: (.return_, []) :: []
def k40_0 : List mI := (.aload 1, []) :: (.getfield 0, [6, 0]) :: (.iconst 0, []) :: (.aload 0, []) :: (.getfield 0, [6, 0]) :: (.iconst 0, []) :: (.iconst 8, []) :: (.invokestatic 0, []) :: (.return_, []) :: []
def k41_46 : List mI := (.return_, []) :: []
def k41_3 : List mI := (.iload 4, []) :: (.iconst 8, []) :: (.if_icmp .ge 0, [46]) :: (.aload 0, []) :: (.getfield 0, [6, 0]) :: (.iload 4, []) :: (.aload 0, []) :: (.getfield 0, [6, 0]) :: (.iload 4, []) :: (.laload, []) :: (.lload 2, []) :: (.jsr_w (-1), []) :: (.lxor, []) :: (.land, []) :: (.aload 1, []) :: (.getfield 0, [6, 0]) :: (.iload 4, []) :: (.laload, []) :: (.lload 2, []) :: (.land, []) :: (.lor, []) :: (.lastore, []) :: (.iinc 4 1, []) :: (.goto 0, [3]) :: []
def k41_0 : List mI := (.iconst 0, []) :: (.istore 4, []) :: k41_3
def k42_35 : List mI := (.return_, []) :: []
def k42_3 : List mI := (.iload 4, []) :: (.iconst 8, []) :: (.if_icmp .ge 0, [35]) :: (.aload 0, []) :: (.getfield 0, [6, 0]) :: (.iload 4, []) :: (.aload 1, []) :: (.getfield 0, [6, 0]) :: (.iload 4, []) :: (.laload, []) :: (.iload 2, []) :: (.iload 3, []) :: (.invokestatic 0, [125, 3]) :: (.lastore, []) :: (.iinc 4 1, []) :: (.goto 0, [3]) :: []
def k42_0 : List mI := (.iconst 0, []) :: (.istore 4, []) :: k42_3
def k43_25 : List mI := (.lload 1, []) :: (.lreturn, []) :: []
def k43_4 : List mI := (.iload 3, []) :: (.iconst 8, []) :: (.if_icmp .ge 0, [25]) :: (.lload 1, []) :: (.aload 0, []) :: (.getfield 0, [6, 0]) :: (.iload 3, []) :: (.laload, []) :: (.lor, []) :: (.lstore 1, []) :: (.iinc 3 1, []) :: (.goto 0, [4]) :: []
def k43_0 : List mI := (.jsr_w 0, []) :: (.lstore 1, []) :: (.iconst 0, []) :: (.istore 3, []) :: k43_4
def k44_36 : List mI := (.lload 2, []) :: (.lreturn, []) :: []
def k44_5 : List mI := (.iload 4, []) :: (.iconst 8, []) :: (.if_icmp .ge 0, [36]) :: (.lload 2, []) :: (.aload 0, []) :: (.getfield 0, [6, 0]) :: (.iload 4, []) :: (.laload, []) :: (.aload 1, []) :: (.getfield 0, [6, 0]) :: (.iload 4, []) :: (.laload, []) :: (.lxor, []) :: (.lor, []) :: (.lstore 2, []) :: (.iinc 4 1, []) :: (.goto 0, [5]) :: []
def k44_0 : List mI := (.jsr_w 0, []) :: (.lstore 2, []) :: (.iconst 0, []) :: (.istore 4, []) :: k44_5
def k45_58 : List mI := (.lload 2, []) :: (.lreturn, []) :: []
def k45_5 : List mI := (.iload 4, []) :: (.iconst 8, []) :: (.if_icmp .ge 0, [58]) :: (.aload 0, []) :: (.getfield 0, [6, 0]) :: (.iload 4, []) :: (.laload, []) :: (.lstore 5, []) :: (.aload 1, []) :: (.getfield 0, [6, 0]) :: (.iload 4, []) :: (.laload, []) :: (.lstore 7, []) :: (.lload 5, []) :: (.jsr_w (-1), []) :: (.lxor, []) :: (.lload 7, []) :: (.land, []) :: (.lload 5, []) :: (.lload 7, []) :: (.lxor, []) :: (.jsr_w (-1), []) :: (.lxor, []) :: (.lload 2, []) :: (.land, []) :: (.lor, []) :: (.lstore 2, []) :: (.iinc 4 1, []) :: (.goto 0, [5]) :: []
def k45_0 : List mI := (.jsr_w 0, []) :: (.lstore 2, []) :: (.iconst 0, []) :: (.istore 4, []) :: k45_5
def k46_138 : List mI := (.return_, []) :: []
def k46_125 : List mI := (.aload 0, []) :: (.aload 2, []) :: (.aload 0, []) :: (.aload 2, []) :: (.invokevirtual 0, [45, 1, 6]) :: (.invokevirtual 0, [41, 2, 6]) :: (.goto 0, [138]) :: []
def k46_108 : List mI := (.aload 0, []) :: (.aload 2, []) :: (.aload 0, []) :: (.aload 2, []) :: (.invokevirtual 0, [45, 1, 6]) :: (.jsr_w (-1), []) :: (.lxor, []) :: (.invokevirtual 0, [41, 2, 6]) :: (.goto 0, [138]) :: []
def k46_92 : List mI := (.aload 0, []) :: (.aload 0, []) :: (.aload 2, []) :: (.invokevirtual 0, [44, 1, 6]) :: (.jsr_w (-1), []) :: (.lxor, []) :: (.invokevirtual 0, [51, 1, 6]) :: (.goto 0, [138]) :: []
def k46_80 : List mI := (.aload 0, []) :: (.aload 0, []) :: (.aload 2, []) :: (.invokevirtual 0, [45, 1, 6]) :: (.invokevirtual 0, [51, 1, 6]) :: (.goto 0, [138]) :: []
def k46_72 : List mI := (.aload 0, []) :: (.aload 2, []) :: (.invokevirtual 0, [50, 1, 6]) :: (.goto 0, [138]) :: []
def k46_64 : List mI := (.aload 0, []) :: (.aload 2, []) :: (.invokevirtual 0, [49, 1, 6]) :: (.goto 0, [138]) :: []
def k46_56 : List mI := (.aload 0, []) :: (.aload 2, []) :: (.invokevirtual 0, [48, 1, 6]) :: (.goto 0, [138]) :: []
def k46_48 : List mI := (.aload 0, []) :: (.aload 2, []) :: (.invokevirtual 0, [47, 1, 6]) :: (.goto 0, [138]) :: []
def k46_0 : List mI := (.iload 1, []) :: (.tableswitch 0 0 7 #[], [138, 48, 56, 64, 72, 80, 92, 108, 125]) :: []
def k47_64 : List mI := (.return_, []) :: []
def k47_5 : List mI := (.iload 4, []) :: (.iconst 8, []) :: (.if_icmp .ge 0, [64]) :: (.aload 0, []) :: (.getfield 0, [6, 0]) :: (.iload 4, []) :: (.laload, []) :: (.lstore 5, []) :: (.aload 1, []) :: (.getfield 0, [6, 0]) :: (.iload 4, []) :: (.laload, []) :: (.lstore 7, []) :: (.aload 0, []) :: (.getfield 0, [6, 0]) :: (.iload 4, []) :: (.lload 5, []) :: (.lload 7, []) :: (.lxor, []) :: (.lload 2, []) :: (.lxor, []) :: (.lastore, []) :: (.lload 5, []) :: (.lload 7, []) :: (.land, []) :: (.lload 5, []) :: (.lload 7, []) :: (.lxor, []) :: (.lload 2, []) :: (.land, []) :: (.lor, []) :: (.lstore 2, []) :: (.iinc 4 1, []) :: (.goto 0, [5]) :: []
def k47_0 : List mI := (.jsr_w 0, []) :: (.lstore 2, []) :: (.iconst 0, []) :: (.istore 4, []) :: k47_5
def k48_72 : List mI := (.return_, []) :: []
def k48_5 : List mI := (.iload 4, []) :: (.iconst 8, []) :: (.if_icmp .ge 0, [72]) :: (.aload 0, []) :: (.getfield 0, [6, 0]) :: (.iload 4, []) :: (.laload, []) :: (.lstore 5, []) :: (.aload 1, []) :: (.getfield 0, [6, 0]) :: (.iload 4, []) :: (.laload, []) :: (.lstore 7, []) :: (.aload 0, []) :: (.getfield 0, [6, 0]) :: (.iload 4, []) :: (.lload 5, []) :: (.lload 7, []) :: (.lxor, []) :: (.lload 2, []) :: (.lxor, []) :: (.lastore, []) :: (.lload 5, []) :: (.jsr_w (-1), []) :: (.lxor, []) :: (.lload 7, []) :: (.land, []) :: (.lload 5, []) :: (.lload 7, []) :: (.lxor, []) :: (.jsr_w (-1), []) :: (.lxor, []) :: (.lload 2, []) :: (.land, []) :: (.lor, []) :: (.lstore 2, []) :: (.iinc 4 1, []) :: (.goto 0, [5]) :: []
def k48_0 : List mI := (.jsr_w 0, []) :: (.lstore 2, []) :: (.iconst 0, []) :: (.istore 4, []) :: k48_5
def k49_99 : List mI := (.return_, []) :: []
def k49_93 : List mI := (.iinc 2 (-1), []) :: (.goto 0, [3]) :: []
def k49_27 : List mI := (.iload 7, []) :: (.iconst 8, []) :: (.if_icmp .ge 0, [93]) :: (.aload 0, []) :: (.getfield 0, [6, 0]) :: (.iload 7, []) :: (.laload, []) :: (.lstore 8, []) :: (.aload 1, []) :: (.getfield 0, [6, 0]) :: (.iload 7, []) :: (.iload 2, []) :: (.isub, []) :: (.laload, []) :: (.lload 3, []) :: (.land, []) :: (.lstore 10, []) :: (.aload 0, []) :: (.getfield 0, [6, 0]) :: (.iload 7, []) :: (.lload 8, []) :: (.lload 10, []) :: (.lxor, []) :: (.lload 5, []) :: (.lxor, []) :: (.lastore, []) :: (.lload 8, []) :: (.lload 10, []) :: (.land, []) :: (.lload 8, []) :: (.lload 10, []) :: (.lxor, []) :: (.lload 5, []) :: (.land, []) :: (.lor, []) :: (.lstore 5, []) :: (.iinc 7 1, []) :: (.goto 0, [27]) :: []
def k49_3 : List mI := (.iload 2, []) :: (.ifCond .lt 0, [99]) :: (.aload 0, []) :: (.getfield 0, [6, 0]) :: (.iload 2, []) :: (.laload, []) :: (.lstore 3, []) :: (.aload 0, []) :: (.getfield 0, [6, 0]) :: (.iload 2, []) :: (.jsr_w 0, []) :: (.lastore, []) :: (.jsr_w 0, []) :: (.lstore 5, []) :: (.iload 2, []) :: (.istore 7, []) :: k49_27
def k49_0 : List mI := (.iconst 7, []) :: (.istore 2, []) :: k49_3
def k50_29 : List mI := (.return_, []) :: []
def k50_2 : List mI := (.iload 2, []) :: (.iconst 8, []) :: (.if_icmp .ge 0, [29]) :: (.aload 0, []) :: (.getfield 0, [6, 0]) :: (.iload 2, []) :: (.dup2, []) :: (.laload, []) :: (.aload 1, []) :: (.getfield 0, [6, 0]) :: (.iload 2, []) :: (.laload, []) :: (.land, []) :: (.lastore, []) :: (.iinc 2 1, []) :: (.goto 0, [2]) :: []
def k50_0 : List mI := (.iconst 0, []) :: (.istore 2, []) :: k50_2
def k51_29 : List mI := (.return_, []) :: []
def k51_22 : List mI := (.lastore, []) :: (.iinc 3 1, []) :: (.goto 0, [2]) :: []
def k51_21 : List mI := (.jsr_w 0, []) :: k51_22
def k51_2 : List mI := (.iload 3, []) :: (.iconst 8, []) :: (.if_icmp .ge 0, [29]) :: (.aload 0, []) :: (.getfield 0, [6, 0]) :: (.iload 3, []) :: (.iload 3, []) :: (.ifCond .ne 0, [21]) :: (.lload 1, []) :: (.goto 0, [22]) :: []
def k51_0 : List mI := (.iconst 0, []) :: (.istore 3, []) :: k51_2
def k52_30 : List mI := (.return_, []) :: []
def k52_2 : List mI := (.iload 1, []) :: (.iconst 8, []) :: (.if_icmp .ge 0, [30]) :: (.aload 0, []) :: (.getfield 0, [6, 0]) :: (.iload 1, []) :: (.aload 0, []) :: (.getfield 0, [6, 0]) :: (.iload 1, []) :: (.laload, []) :: (.jsr_w (-1), []) :: (.lxor, []) :: (.lastore, []) :: (.iinc 1 1, []) :: (.goto 0, [2]) :: []
def k52_0 : List mI := (.iconst 0, []) :: (.istore 1, []) :: k52_2
def k53_36 : List mI := (.iload 3, []) :: (.ireturn, []) :: []
def k53_5 : List mI := (.iload 4, []) :: (.iconst 8, []) :: (.if_icmp .ge 0, [36]) :: (.iload 3, []) :: (.aload 0, []) :: (.getfield 0, [6, 0]) :: (.iload 4, []) :: (.laload, []) :: (.lload 1, []) :: (.land, []) :: (.invokestatic 0, [207, 1]) :: (.iload 4, []) :: (.ishl, []) :: (.iadd, []) :: (.istore 3, []) :: (.iinc 4 1, []) :: (.goto 0, [5]) :: []
def k53_0 : List mI := (.iconst 0, []) :: (.istore 3, []) :: (.iconst 0, []) :: (.istore 4, []) :: k53_5
def k54_0 : List mI := (.aload 0, []) :: (.aload 0, []) :: (.lload 1, []) :: (.invokevirtual 0, [55, 1, 6]) :: (.invokevirtual 0, [36, 1, 6]) :: (.ireturn, []) :: []
def k55_42 : List mI := (.lload 3, []) :: (.invokestatic 0, [206, 1]) :: (.ireturn, []) :: []
def k55_35 : List mI := (.lstore 3, []) :: (.iinc 5 (-1), []) :: (.goto 0, [6]) :: []
def k55_33 : List mI := (.lload 6, []) :: k55_35
def k55_6 : List mI := (.iload 5, []) :: (.ifCond .lt 0, [42]) :: (.lload 3, []) :: (.aload 0, []) :: (.getfield 0, [6, 0]) :: (.iload 5, []) :: (.laload, []) :: (.land, []) :: (.lstore 6, []) :: (.lload 6, []) :: (.jsr_w 0, []) :: (.lcmp, []) :: (.ifCond .ne 0, [33]) :: (.lload 3, []) :: (.goto 0, [35]) :: []
def k55_0 : List mI := (.lload 1, []) :: (.lstore 3, []) :: (.iconst 7, []) :: (.istore 5, []) :: k55_6
def k56_46 : List mI := (.aload 0, []) :: (.lload 3, []) :: (.invokestatic 0, [206, 1]) :: (.invokevirtual 0, [36, 1, 6]) :: (.ireturn, []) :: []
def k56_39 : List mI := (.lstore 3, []) :: (.iinc 5 (-1), []) :: (.goto 0, [6]) :: []
def k56_37 : List mI := (.lload 6, []) :: k56_39
def k56_6 : List mI := (.iload 5, []) :: (.ifCond .lt 0, [46]) :: (.lload 3, []) :: (.aload 0, []) :: (.getfield 0, [6, 0]) :: (.iload 5, []) :: (.laload, []) :: (.jsr_w (-1), []) :: (.lxor, []) :: (.land, []) :: (.lstore 6, []) :: (.lload 6, []) :: (.jsr_w 0, []) :: (.lcmp, []) :: (.ifCond .ne 0, [37]) :: (.lload 3, []) :: (.goto 0, [39]) :: []
def k56_0 : List mI := (.lload 1, []) :: (.lstore 3, []) :: (.iconst 7, []) :: (.istore 5, []) :: k56_6
def k57_43 : List mI := (.iload 3, []) :: (.ireturn, []) :: []
def k57_35 : List mI := (.ior, []) :: (.istore 3, []) :: (.iinc 4 1, []) :: (.goto 0, [5]) :: []
def k57_34 : List mI := (.iconst 0, []) :: k57_35
def k57_5 : List mI := (.iload 4, []) :: (.iconst 8, []) :: (.if_icmp .ge 0, [43]) :: (.iload 3, []) :: (.aload 0, []) :: (.getfield 0, [6, 0]) :: (.iload 4, []) :: (.laload, []) :: (.lload 1, []) :: (.land, []) :: (.jsr_w 0, []) :: (.lcmp, []) :: (.ifCond .eq 0, [34]) :: (.iconst 1, []) :: (.iload 4, []) :: (.ishl, []) :: (.goto 0, [35]) :: []
def k57_0 : List mI := (.iconst 0, []) :: (.istore 3, []) :: (.iconst 0, []) :: (.istore 4, []) :: k57_5
def k58_47 : List mI := (.iload 3, []) :: (.ireturn, []) :: []
def k58_39 : List mI := (.ior, []) :: (.istore 3, []) :: (.iinc 4 1, []) :: (.goto 0, [5]) :: []
def k58_38 : List mI := (.iconst 0, []) :: k58_39
def k58_5 : List mI := (.iload 4, []) :: (.iconst 8, []) :: (.if_icmp .ge 0, [47]) :: (.iload 3, []) :: (.aload 0, []) :: (.getfield 0, [6, 0]) :: (.iload 4, []) :: (.laload, []) :: (.jsr_w (-1), []) :: (.lxor, []) :: (.lload 1, []) :: (.land, []) :: (.jsr_w 0, []) :: (.lcmp, []) :: (.ifCond .ne 0, [38]) :: (.iconst 1, []) :: (.iload 4, []) :: (.ishl, []) :: (.goto 0, [39]) :: []
def k58_0 : List mI := (.iconst 0, []) :: (.istore 3, []) :: (.iconst 0, []) :: (.istore 4, []) :: k58_5
def k59_0 : List mI := (.aload 0, []) :: (.invokespecial 0, []) :: (.aload 0, []) :: (.iconst 160, []) :: (.newarray .int, []) :: (.putfield 0, [7, 0, 1]) :: (.return_, []) :: []
def k60_37 : List mI := (.return_, []) :: []
def k60_0 : List mI := (.aload 0, []) :: (.getfield 0, [7, 1]) :: (.ifCond .lt 0, [37]) :: (.aload 0, []) :: (.getfield 0, [7, 1]) :: (.iconst 160, []) :: (.if_icmp .ge 0, [37]) :: (.aload 0, []) :: (.getfield 0, [7, 0]) :: (.aload 0, []) :: (.getfield 0, [7, 1]) :: (.iload 1, []) :: (.iastore, []) :: (.aload 0, []) :: (.dup, []) :: (.getfield 0, [7, 1]) :: (.iconst 1, []) :: (.iadd, []) :: (.putfield 0, [7, 1, 0]) :: k60_37
def k61_40 : List mI := (.return_, []) :: []
def k61_15 : List mI := (.iload 1, []) :: (.iconst 8, []) :: (.if_icmp .ge 0, [40]) :: (.aload 0, []) :: (.getfield 0, [8, 0]) :: (.iload 1, []) :: (.new 0, [6]) :: (.dup, []) :: (.invokespecial 0, [35, 0]) :: (.aastore, []) :: (.iinc 1 1, []) :: (.goto 0, [15]) :: []
def k61_0 : List mI := (.aload 0, []) :: (.invokespecial 0, []) :: (.aload 0, []) :: (.iconst 8, []) :: (.anewarray 0, [2]) :: (.putfield 0, [8, 0, 1]) :: (.iconst 0, []) :: (.istore 1, []) :: k61_15
def k62_0 : List mI := (.aload 0, []) :: (.getfield 0, [8, 0]) :: (.iload 1, []) :: (.iconst 7, []) :: (.iand, []) :: (.aaload, []) :: (.areturn, []) :: []
def k63_29 : List mI := (.return_, []) :: []
def k63_2 : List mI := (.iload 2, []) :: (.iconst 8, []) :: (.if_icmp .ge 0, [29]) :: (.aload 0, []) :: (.getfield 0, [8, 0]) :: (.iload 2, []) :: (.aaload, []) :: (.aload 1, []) :: (.getfield 0, [8, 0]) :: (.iload 2, []) :: (.aaload, []) :: (.invokevirtual 0, [40, 1, 6]) :: (.iinc 2 1, []) :: (.goto 0, [2]) :: []
def k63_0 : List mI := (.iconst 0, []) :: (.istore 2, []) :: k63_2
def k64_38 : List mI := (.lload 2, []) :: (.lreturn, []) :: []
def k64_5 : List mI := (.iload 4, []) :: (.iconst 8, []) :: (.if_icmp .ge 0, [38]) :: (.lload 2, []) :: (.aload 0, []) :: (.getfield 0, [8, 0]) :: (.iload 4, []) :: (.aaload, []) :: (.aload 1, []) :: (.getfield 0, [8, 0]) :: (.iload 4, []) :: (.aaload, []) :: (.invokevirtual 0, [44, 1, 6]) :: (.lor, []) :: (.lstore 2, []) :: (.iinc 4 1, []) :: (.goto 0, [5]) :: []
def k64_0 : List mI := (.jsr_w 0, []) :: (.lstore 2, []) :: (.iconst 0, []) :: (.istore 4, []) :: k64_5
def k65_62 : List mI := (.return_, []) :: []
def k65_37 : List mI := (.iload 1, []) :: (.iconst 19, []) :: (.if_icmp .ge 0, [62]) :: (.aload 0, []) :: (.getfield 0, [9, 0]) :: (.iload 1, []) :: (.new 0, [6]) :: (.dup, []) :: (.invokespecial 0, [35, 0]) :: (.aastore, []) :: (.iinc 1 1, []) :: (.goto 0, [37]) :: []
def k65_0 : List mI := (.aload 0, []) :: (.invokespecial 0, []) :: (.aload 0, []) :: (.iconst 19, []) :: (.anewarray 0, [2]) :: (.putfield 0, [9, 0, 1]) :: (.aload 0, []) :: (.new 0, [6]) :: (.dup, []) :: (.invokespecial 0, [35, 0]) :: (.putfield 0, [9, 1, 1]) :: (.aload 0, []) :: (.new 0, [8]) :: (.dup, []) :: (.invokespecial 0, [61, 0]) :: (.putfield 0, [9, 2, 1]) :: (.iconst 0, []) :: (.istore 1, []) :: k65_37
def k66_66 : List mI := (.aload 0, []) :: (.getfield 0, [9, 4]) :: (.ireturn, []) :: []
def k66_36 : List mI := (.iload 6, []) :: (.iload 2, []) :: (.if_icmp .ge 0, [66]) :: (.iload 6, []) :: (.iconst 30, []) :: (.if_icmp .ge 0, [66]) :: (.aload 0, []) :: (.aload 3, []) :: (.getfield 0, [3, 0]) :: (.lload 4, []) :: (.iconst 0, []) :: (.invokevirtual 0, [67, 3, 9]) :: (.iinc 6 1, []) :: (.goto 0, [36]) :: []
def k66_11 : List mI := (.aload 0, []) :: (.aload 1, []) :: (.getfield 0, [10, 2]) :: (.putfield 0, [9, 3, 0]) :: (.aload 0, []) :: (.iconst 0, []) :: (.putfield 0, [9, 4, 0]) :: (.aload 1, []) :: (.getfield 0, [10, 1]) :: (.invokevirtual 0, [6, 0, 2]) :: (.lstore 4, []) :: (.iconst 0, []) :: (.istore 6, []) :: k66_36
def k66_0 : List mI := (.aload 1, []) :: (.getfield 0, [10, 4]) :: (.astore 3, []) :: (.aload 3, []) :: (.ifnonnull 0, [11]) :: (.iconst 0, []) :: (.ireturn, []) :: []
def k67_184 : List mI := (.return_, []) :: []
def k67_174 : List mI := (.aload 5, []) :: (.getfield 0, [0, 7]) :: (.astore 5, []) :: (.goto 0, [16]) :: []
def k67_165 : List mI := (.aload 0, []) :: (.aload 5, []) :: (.lload 2, []) :: (.iload 4, []) :: (.invokevirtual 0, [69, 3, 9]) :: k67_174
def k67_153 : List mI := (.aload 0, []) :: (.aload 5, []) :: (.lload 2, []) :: (.iload 4, []) :: (.invokevirtual 0, [68, 3, 9]) :: (.goto 0, [174]) :: []
def k67_91 : List mI := (.aload 0, []) :: (.getfield 0, [9, 1]) :: (.aload 0, []) :: (.getfield 0, [9, 2]) :: (.aload 5, []) :: (.getfield 0, [0, 2]) :: (.invokevirtual 0, [62, 1, 8]) :: (.aload 5, []) :: (.getfield 0, [0, 3]) :: (.aload 0, []) :: (.getfield 0, [9, 3]) :: (.invokevirtual 0, [42, 3, 6]) :: (.aload 0, []) :: (.getfield 0, [9, 2]) :: (.aload 5, []) :: (.getfield 0, [0, 1]) :: (.invokevirtual 0, [62, 1, 8]) :: (.aload 0, []) :: (.getfield 0, [9, 1]) :: (.lload 2, []) :: (.invokevirtual 0, [41, 2, 6]) :: (.aload 0, []) :: (.dup, []) :: (.getfield 0, [9, 4]) :: (.iconst 8, []) :: (.iadd, []) :: (.putfield 0, [9, 4, 0]) :: (.goto 0, [174]) :: []
def k67_52 : List mI := (.aload 0, []) :: (.getfield 0, [9, 2]) :: (.aload 5, []) :: (.getfield 0, [0, 1]) :: (.invokevirtual 0, [62, 1, 8]) :: (.aload 0, []) :: (.aload 5, []) :: (.getfield 0, [0, 4]) :: (.invokevirtual 0, [70, 1, 9]) :: (.lload 2, []) :: (.invokevirtual 0, [41, 2, 6]) :: (.aload 0, []) :: (.dup, []) :: (.getfield 0, [9, 4]) :: (.iconst 8, []) :: (.iadd, []) :: (.putfield 0, [9, 4, 0]) :: (.goto 0, [174]) :: []
def k67_16 : List mI := (.aload 5, []) :: (.ifnull 0, [184]) :: (.aload 5, []) :: (.getfield 0, [0, 0]) :: (.tableswitch 0 0 2 #[], [165, 52, 91, 153]) :: []
def k67_13 : List mI := (.aload 1, []) :: (.astore 5, []) :: k67_16
def k67_12 : List mI := (.return_, []) :: []
def k67_0 : List mI := (.lload 2, []) :: (.jsr_w 0, []) :: (.lcmp, []) :: (.ifCond .eq 0, [12]) :: (.iload 4, []) :: (.iconst 4, []) :: (.if_icmp .le 0, [13]) :: k67_12
def k68_0 : List mI := (.aload 0, []) :: (.aload 1, []) :: (.getfield 0, [0, 4]) :: (.invokevirtual 0, [70, 1, 9]) :: (.invokevirtual 0, [43, 0, 6]) :: (.lstore 5, []) :: (.aload 0, []) :: (.dup, []) :: (.getfield 0, [9, 4]) :: (.iconst 2, []) :: (.iadd, []) :: (.putfield 0, [9, 4, 0]) :: (.aload 0, []) :: (.aload 1, []) :: (.getfield 0, [0, 5]) :: (.lload 2, []) :: (.lload 5, []) :: (.land, []) :: (.iload 4, []) :: (.iconst 1, []) :: (.iadd, []) :: (.invokevirtual 0, [67, 3, 9]) :: (.aload 0, []) :: (.aload 1, []) :: (.getfield 0, [0, 6]) :: (.lload 2, []) :: (.lload 5, []) :: (.jsr_w (-1), []) :: (.lxor, []) :: (.land, []) :: (.iload 4, []) :: (.iconst 1, []) :: (.iadd, []) :: (.invokevirtual 0, [67, 3, 9]) :: (.return_, []) :: []
def k69_66 : List mI := (.return_, []) :: []
def k69_6 : List mI := (.iload 7, []) :: (.iconst 20, []) :: (.if_icmp .ge 0, [66]) :: (.lload 5, []) :: (.jsr_w 0, []) :: (.lcmp, []) :: (.ifCond .eq 0, [66]) :: (.lload 5, []) :: (.aload 0, []) :: (.aload 1, []) :: (.getfield 0, [0, 4]) :: (.invokevirtual 0, [70, 1, 9]) :: (.invokevirtual 0, [43, 0, 6]) :: (.land, []) :: (.lstore 5, []) :: (.aload 0, []) :: (.dup, []) :: (.getfield 0, [9, 4]) :: (.iconst 1, []) :: (.iadd, []) :: (.putfield 0, [9, 4, 0]) :: (.aload 0, []) :: (.aload 1, []) :: (.getfield 0, [0, 5]) :: (.lload 5, []) :: (.iload 4, []) :: (.iconst 1, []) :: (.iadd, []) :: (.invokevirtual 0, [67, 3, 9]) :: (.iinc 7 1, []) :: (.goto 0, [6]) :: []
def k69_0 : List mI := (.lload 2, []) :: (.lstore 5, []) :: (.iconst 0, []) :: (.istore 7, []) :: k69_6
def k70_141 : List mI := (.aload 0, []) :: (.dup, []) :: (.getfield 0, [9, 4]) :: (.aload 1, []) :: (.getfield 0, [1, 1]) :: (.iadd, []) :: (.putfield 0, [9, 4, 0]) :: (.aload 0, []) :: (.getfield 0, [9, 0]) :: (.iconst 0, []) :: (.aaload, []) :: (.areturn, []) :: []
def k70_135 : List mI := (.iinc 5 1, []) :: (.goto 0, [25]) :: []
def k70_108 : List mI := (.iload 2, []) :: (.iconst 19, []) :: (.if_icmp .ge 0, [135]) :: (.aload 0, []) :: (.aload 0, []) :: (.getfield 0, [9, 0]) :: (.iload 2, []) :: (.aaload, []) :: (.iload 7, []) :: (.iload 6, []) :: (.iconst 255, []) :: (.iand, []) :: (.invokevirtual 0, [71, 3, 9]) :: (.iinc 2 1, []) :: k70_135
def k70_82 : List mI := (.iload 7, []) :: (.iconst 11, []) :: (.if_icmp .ne 0, [108]) :: (.iload 2, []) :: (.iconst 1, []) :: (.if_icmp .lt 0, [108]) :: (.aload 0, []) :: (.getfield 0, [9, 0]) :: (.iload 2, []) :: (.iconst 1, []) :: (.isub, []) :: (.aaload, []) :: (.invokevirtual 0, [52, 0, 6]) :: (.goto 0, [135]) :: []
def k70_25 : List mI := (.iload 5, []) :: (.iload 4, []) :: (.if_icmp .ge 0, [141]) :: (.aload 3, []) :: (.iload 5, []) :: (.iaload, []) :: (.istore 6, []) :: (.iload 6, []) :: (.iconst 8, []) :: (.ishr, []) :: (.istore 7, []) :: (.iload 7, []) :: (.iconst 8, []) :: (.if_icmp .ge 0, [82]) :: (.iload 2, []) :: (.iconst 2, []) :: (.if_icmp .lt 0, [82]) :: (.iinc 2 (-1), []) :: (.aload 0, []) :: (.getfield 0, [9, 0]) :: (.iload 2, []) :: (.iconst 1, []) :: (.isub, []) :: (.aaload, []) :: (.iload 7, []) :: (.aload 0, []) :: (.getfield 0, [9, 0]) :: (.iload 2, []) :: (.aaload, []) :: (.invokevirtual 0, [46, 2, 6]) :: (.goto 0, [135]) :: []
def k70_11 : List mI := (.iconst 0, []) :: (.istore 2, []) :: (.aload 1, []) :: (.getfield 0, [1, 0]) :: (.astore 3, []) :: (.aload 3, []) :: (.arraylength, []) :: (.istore 4, []) :: (.iconst 0, []) :: (.istore 5, []) :: k70_25
def k70_0 : List mI := (.aload 1, []) :: (.ifnonnull 0, [11]) :: (.aload 0, []) :: (.getfield 0, [9, 0]) :: (.iconst 0, []) :: (.aaload, []) :: (.areturn, []) :: []
def k71_39 : List mI := (.return_, []) :: []
def k71_35 : List mI := (.aload 1, []) :: (.invokevirtual 0, [39, 0, 6]) :: k71_39
def k71_14 : List mI := (.iload 2, []) :: (.iconst 9, []) :: (.if_icmp .ne 0, [35]) :: (.aload 1, []) :: (.aload 0, []) :: (.getfield 0, [9, 2]) :: (.iload 3, []) :: (.invokevirtual 0, [62, 1, 8]) :: (.invokevirtual 0, [40, 1, 6]) :: (.goto 0, [39]) :: []
def k71_0 : List mI := (.iload 2, []) :: (.iconst 8, []) :: (.if_icmp .ne 0, [14]) :: (.aload 1, []) :: (.iload 3, []) :: (.invokevirtual 0, [38, 1, 6]) :: (.goto 0, [39]) :: []
def k72_0 : List mI := (.aload 0, []) :: (.invokespecial 0, []) :: (.aload 0, []) :: (.new 0, [8]) :: (.dup, []) :: (.invokespecial 0, [61, 0]) :: (.putfield 0, [10, 0, 1]) :: (.aload 0, []) :: (.new 0, [2]) :: (.dup, []) :: (.invokespecial 0, [2, 0]) :: (.putfield 0, [10, 1, 1]) :: (.return_, []) :: []
def k73_0 : List mI := (.aload 0, []) :: (.getfield 0, [10, 0]) :: (.aload 1, []) :: (.getfield 0, [10, 0]) :: (.invokevirtual 0, [63, 1, 8]) :: (.aload 0, []) :: (.getfield 0, [10, 1]) :: (.aload 1, []) :: (.getfield 0, [10, 1]) :: (.invokevirtual 0, [7, 1, 2]) :: (.aload 0, []) :: (.aload 1, []) :: (.getfield 0, [10, 2]) :: (.putfield 0, [10, 2, 0]) :: (.aload 0, []) :: (.aload 1, []) :: (.getfield 0, [10, 3]) :: (.putfield 0, [10, 3, 0]) :: (.aload 0, []) :: (.aload 1, []) :: (.getfield 0, [10, 4]) :: (.putfield 0, [10, 4, 1]) :: (.return_, []) :: []
def k74_111 : List mI := (.return_, []) :: []
def k74_87 : List mI := (.iload 1, []) :: (.iconst 4, []) :: (.if_icmp .ge 0, [111]) :: (.aload 0, []) :: (.getfield 0, [11, 3]) :: (.iload 1, []) :: (.new 0, [5]) :: (.dup, []) :: (.invokespecial 0, [29, 0]) :: (.aastore, []) :: (.iinc 1 1, []) :: (.goto 0, [87]) :: []
def k74_0 : List mI := (.aload 0, []) :: (.invokespecial 0, []) :: (.aload 0, []) :: (.new 0, [10]) :: (.dup, []) :: (.invokespecial 0, [72, 0]) :: (.putfield 0, [11, 0, 1]) :: (.aload 0, []) :: (.new 0, [10]) :: (.dup, []) :: (.invokespecial 0, [72, 0]) :: (.putfield 0, [11, 1, 1]) :: (.aload 0, []) :: (.iconst 4, []) :: (.anewarray 0, [3]) :: (.putfield 0, [11, 3, 1]) :: (.aload 0, []) :: (.iconst 5, []) :: (.newarray .int, []) :: (.putfield 0, [11, 4, 1]) :: (.aload 0, []) :: (.new 0, [4]) :: (.dup, []) :: (.invokespecial 0, [9, 0]) :: (.putfield 0, [11, 5, 1]) :: (.aload 0, []) :: (.new 0, [9]) :: (.dup, []) :: (.invokespecial 0, [65, 0]) :: (.putfield 0, [11, 6, 1]) :: (.aload 0, []) :: (.new 0, [8]) :: (.dup, []) :: (.invokespecial 0, [61, 0]) :: (.putfield 0, [11, 7, 1]) :: (.aload 0, []) :: (.new 0, [6]) :: (.dup, []) :: (.invokespecial 0, [35, 0]) :: (.putfield 0, [11, 8, 1]) :: (.iconst 0, []) :: (.istore 1, []) :: k74_87
def k75_22 : List mI := (.aload 0, []) :: (.getfield 0, [11, 0]) :: (.getfield 0, [10, 0]) :: (.iload 2, []) :: (.invokevirtual 0, [62, 1, 8]) :: (.iload 1, []) :: (.invokevirtual 0, [36, 1, 6]) :: (.ireturn, []) :: []
def k75_14 : List mI := (.aload 0, []) :: (.iconst (-1001), []) :: (.invokevirtual 0, [114, 1, 11]) :: (.ireturn, []) :: []
def k75_0 : List mI := (.iload 1, []) :: (.invokestatic 0, [115, 1]) :: (.ifCond .eq 0, [14]) :: (.iload 2, []) :: (.invokestatic 0, [116, 1]) :: (.ifCond .ne 0, [22]) :: k75_14
def k76_29 : List mI := (.aload 0, []) :: (.getfield 0, [11, 0]) :: (.getfield 0, [10, 0]) :: (.iload 2, []) :: (.invokevirtual 0, [62, 1, 8]) :: (.iload 1, []) :: (.invokevirtual 0, [36, 1, 6]) :: (.istore 4, []) :: (.aload 0, []) :: (.getfield 0, [11, 0]) :: (.getfield 0, [10, 0]) :: (.iload 2, []) :: (.invokevirtual 0, [62, 1, 8]) :: (.iload 1, []) :: (.iload 3, []) :: (.invokevirtual 0, [37, 2, 6]) :: (.iload 4, []) :: (.ireturn, []) :: []
def k76_21 : List mI := (.aload 0, []) :: (.iconst (-1001), []) :: (.invokevirtual 0, [114, 1, 11]) :: (.ireturn, []) :: []
def k76_0 : List mI := (.iload 1, []) :: (.invokestatic 0, [115, 1]) :: (.ifCond .eq 0, [21]) :: (.iload 2, []) :: (.invokestatic 0, [116, 1]) :: (.ifCond .eq 0, [21]) :: (.iload 3, []) :: (.invokestatic 0, [118, 1]) :: (.ifCond .ne 0, [29]) :: k76_21
def k77_16 : List mI := (.aload 0, []) :: (.getfield 0, [11, 0]) :: (.getfield 0, [10, 0]) :: (.iload 1, []) :: (.invokevirtual 0, [62, 1, 8]) :: (.getfield 0, [6, 0]) :: (.iload 2, []) :: (.laload, []) :: (.lreturn, []) :: []
def k77_14 : List mI := (.jsr_w 0, []) :: (.lreturn, []) :: []
def k77_0 : List mI := (.iload 1, []) :: (.invokestatic 0, [116, 1]) :: (.ifCond .eq 0, [14]) :: (.iload 2, []) :: (.invokestatic 0, [117, 1]) :: (.ifCond .ne 0, [16]) :: k77_14
def k78_22 : List mI := (.aload 0, []) :: (.getfield 0, [11, 0]) :: (.getfield 0, [10, 0]) :: (.iload 1, []) :: (.invokevirtual 0, [62, 1, 8]) :: (.getfield 0, [6, 0]) :: (.astore 5, []) :: (.aload 0, []) :: (.getfield 0, [11, 0]) :: (.getfield 0, [10, 1]) :: (.invokevirtual 0, [6, 0, 2]) :: (.lstore 6, []) :: (.aload 5, []) :: (.iload 2, []) :: (.aload 5, []) :: (.iload 2, []) :: (.laload, []) :: (.lload 6, []) :: (.jsr_w (-1), []) :: (.lxor, []) :: (.land, []) :: (.lload 3, []) :: (.lload 6, []) :: (.land, []) :: (.lor, []) :: (.lastore, []) :: (.aload 5, []) :: (.iload 2, []) :: (.laload, []) :: (.invokestatic 0, [207, 1]) :: (.ireturn, []) :: []
def k78_14 : List mI := (.aload 0, []) :: (.iconst (-1001), []) :: (.invokevirtual 0, [114, 1, 11]) :: (.ireturn, []) :: []
def k78_0 : List mI := (.iload 1, []) :: (.invokestatic 0, [116, 1]) :: (.ifCond .eq 0, [14]) :: (.iload 2, []) :: (.invokestatic 0, [117, 1]) :: (.ifCond .ne 0, [22]) :: k78_14
def k79_22 : List mI := (.aload 0, []) :: (.getfield 0, [11, 8]) :: (.iload 2, []) :: (.invokevirtual 0, [38, 1, 6]) :: (.aload 0, []) :: (.iload 1, []) :: (.getstatic 0, [1]) :: (.iconst 8, []) :: (.iaload, []) :: (.invokevirtual 0, [121, 2, 11]) :: (.ireturn, []) :: []
def k79_14 : List mI := (.aload 0, []) :: (.iconst (-1001), []) :: (.invokevirtual 0, [114, 1, 11]) :: (.ireturn, []) :: []
def k79_0 : List mI := (.iload 1, []) :: (.invokestatic 0, [116, 1]) :: (.ifCond .eq 0, [14]) :: (.iload 2, []) :: (.invokestatic 0, [118, 1]) :: (.ifCond .ne 0, [22]) :: k79_14
def k80_40 : List mI := (.aload 0, []) :: (.getfield 0, [11, 8]) :: (.aload 0, []) :: (.getfield 0, [11, 0]) :: (.getfield 0, [10, 0]) :: (.iload 3, []) :: (.invokevirtual 0, [62, 1, 8]) :: (.invokevirtual 0, [40, 1, 6]) :: (.aload 0, []) :: (.getfield 0, [11, 8]) :: (.iload 1, []) :: (.aload 0, []) :: (.getfield 0, [11, 0]) :: (.getfield 0, [10, 0]) :: (.iload 4, []) :: (.invokevirtual 0, [62, 1, 8]) :: (.invokevirtual 0, [46, 2, 6]) :: (.aload 0, []) :: (.iload 2, []) :: (.getstatic 0, [1]) :: (.iload 1, []) :: (.iaload, []) :: (.invokevirtual 0, [121, 2, 11]) :: (.ireturn, []) :: []
def k80_32 : List mI := (.aload 0, []) :: (.iconst (-1001), []) :: (.invokevirtual 0, [114, 1, 11]) :: (.ireturn, []) :: []
def k80_0 : List mI := (.iload 1, []) :: (.ifCond .lt 0, [32]) :: (.iload 1, []) :: (.iconst 8, []) :: (.if_icmp .ge 0, [32]) :: (.iload 2, []) :: (.invokestatic 0, [116, 1]) :: (.ifCond .eq 0, [32]) :: (.iload 3, []) :: (.invokestatic 0, [116, 1]) :: (.ifCond .eq 0, [32]) :: (.iload 4, []) :: (.invokestatic 0, [116, 1]) :: (.ifCond .ne 0, [40]) :: k80_32
def k81_31 : List mI := (.aload 0, []) :: (.getfield 0, [11, 8]) :: (.aload 0, []) :: (.getfield 0, [11, 0]) :: (.getfield 0, [10, 0]) :: (.iload 2, []) :: (.invokevirtual 0, [62, 1, 8]) :: (.iload 3, []) :: (.aload 0, []) :: (.getfield 0, [11, 0]) :: (.getfield 0, [10, 2]) :: (.invokevirtual 0, [42, 3, 6]) :: (.aload 0, []) :: (.iload 1, []) :: (.iconst 8, []) :: (.invokevirtual 0, [121, 2, 11]) :: (.ireturn, []) :: []
def k81_23 : List mI := (.aload 0, []) :: (.iconst (-1001), []) :: (.invokevirtual 0, [114, 1, 11]) :: (.ireturn, []) :: []
def k81_0 : List mI := (.iload 1, []) :: (.invokestatic 0, [116, 1]) :: (.ifCond .eq 0, [23]) :: (.iload 2, []) :: (.invokestatic 0, [116, 1]) :: (.ifCond .eq 0, [23]) :: (.iload 3, []) :: (.ifCond .lt 0, [23]) :: (.iload 3, []) :: (.iconst 4, []) :: (.if_icmp .lt 0, [31]) :: k81_23
def k82_17 : List mI := (.aload 0, []) :: (.getfield 0, [11, 0]) :: (.getfield 0, [10, 2]) :: (.istore 2, []) :: (.aload 0, []) :: (.getfield 0, [11, 0]) :: (.iload 1, []) :: (.putfield 0, [10, 2, 0]) :: (.iload 2, []) :: (.ireturn, []) :: []
def k82_0 : List mI := (.iload 1, []) :: (.ifCond .eq 0, [17]) :: (.iload 1, []) :: (.iconst 1, []) :: (.if_icmp .eq 0, [17]) :: (.aload 0, []) :: (.iconst (-1001), []) :: (.invokevirtual 0, [114, 1, 11]) :: (.ireturn, []) :: []
def k83_43 : List mI := (.aload 0, []) :: (.getfield 0, [11, 0]) :: (.getfield 0, [10, 1]) :: (.aload 0, []) :: (.getfield 0, [11, 0]) :: (.getfield 0, [10, 0]) :: (.iload 1, []) :: (.invokevirtual 0, [62, 1, 8]) :: (.getfield 0, [6, 0]) :: (.iload 2, []) :: (.laload, []) :: (.invokevirtual 0, [4, 1, 2]) :: (.aload 0, []) :: (.getfield 0, [11, 0]) :: (.getfield 0, [10, 1]) :: (.invokevirtual 0, [6, 0, 2]) :: (.invokestatic 0, [207, 1]) :: (.ireturn, []) :: []
def k83_22 : List mI := (.aload 0, []) :: (.getfield 0, [11, 0]) :: (.getfield 0, [10, 1]) :: (.invokevirtual 0, [3, 0, 2]) :: (.ifCond .eq 0, [43]) :: (.aload 0, []) :: (.iconst (-1002), []) :: (.invokevirtual 0, [114, 1, 11]) :: (.ireturn, []) :: []
def k83_14 : List mI := (.aload 0, []) :: (.iconst (-1001), []) :: (.invokevirtual 0, [114, 1, 11]) :: (.ireturn, []) :: []
def k83_0 : List mI := (.iload 1, []) :: (.invokestatic 0, [116, 1]) :: (.ifCond .eq 0, [14]) :: (.iload 2, []) :: (.invokestatic 0, [117, 1]) :: (.ifCond .ne 0, [22]) :: k83_14
def k84_21 : List mI := (.aload 0, []) :: (.getfield 0, [11, 0]) :: (.getfield 0, [10, 1]) :: (.invokevirtual 0, [5, 0, 2]) :: (.aload 0, []) :: (.getfield 0, [11, 0]) :: (.getfield 0, [10, 1]) :: (.invokevirtual 0, [6, 0, 2]) :: (.invokestatic 0, [207, 1]) :: (.ireturn, []) :: []
def k84_0 : List mI := (.aload 0, []) :: (.getfield 0, [11, 0]) :: (.getfield 0, [10, 1]) :: (.getfield 0, [2, 1]) :: (.ifCond .ne 0, [21]) :: (.aload 0, []) :: (.iconst (-1003), []) :: (.invokevirtual 0, [114, 1, 11]) :: (.ireturn, []) :: []
def k85_21 : List mI := (.aload 0, []) :: (.getfield 0, [11, 0]) :: (.getfield 0, [10, 1]) :: (.dup, []) :: (.getfield 0, [2, 1]) :: (.iconst 1, []) :: (.isub, []) :: (.putfield 0, [2, 1, 0]) :: (.aload 0, []) :: (.getfield 0, [11, 0]) :: (.getfield 0, [10, 1]) :: (.invokevirtual 0, [6, 0, 2]) :: (.invokestatic 0, [207, 1]) :: (.ireturn, []) :: []
def k85_0 : List mI := (.aload 0, []) :: (.getfield 0, [11, 0]) :: (.getfield 0, [10, 1]) :: (.getfield 0, [2, 1]) :: (.ifCond .ne 0, [21]) :: (.aload 0, []) :: (.iconst (-1003), []) :: (.invokevirtual 0, [114, 1, 11]) :: (.ireturn, []) :: []
def k86_0 : List mI := (.aload 0, []) :: (.getfield 0, [11, 0]) :: (.getfield 0, [10, 1]) :: (.invokevirtual 0, [6, 0, 2]) :: (.lreturn, []) :: []
def k87_173 : List mI := (.ireturn, []) :: []
def k87_167 : List mI := (.aload 3, []) :: (.lload 4, []) :: (.invokevirtual 0, [55, 1, 6]) :: k87_173
def k87_156 : List mI := (.lload 4, []) :: (.jsr_w 0, []) :: (.lcmp, []) :: (.ifCond .ne 0, [167]) :: (.iconst (-1), []) :: (.goto 0, [173]) :: []
def k87_145 : List mI := (.aload 3, []) :: (.invokevirtual 0, [43, 0, 6]) :: (.lload 4, []) :: (.land, []) :: (.invokestatic 0, [207, 1]) :: (.ireturn, []) :: []
def k87_138 : List mI := (.aload 3, []) :: (.lload 4, []) :: (.invokevirtual 0, [58, 1, 6]) :: (.ireturn, []) :: []
def k87_131 : List mI := (.aload 3, []) :: (.lload 4, []) :: (.invokevirtual 0, [57, 1, 6]) :: (.ireturn, []) :: []
def k87_130 : List mI := (.ireturn, []) :: []
def k87_124 : List mI := (.aload 3, []) :: (.lload 4, []) :: (.invokevirtual 0, [56, 1, 6]) :: k87_130
def k87_113 : List mI := (.lload 4, []) :: (.jsr_w 0, []) :: (.lcmp, []) :: (.ifCond .ne 0, [124]) :: (.iconst (-1), []) :: (.goto 0, [130]) :: []
def k87_112 : List mI := (.ireturn, []) :: []
def k87_106 : List mI := (.aload 3, []) :: (.lload 4, []) :: (.invokevirtual 0, [54, 1, 6]) :: k87_112
def k87_95 : List mI := (.lload 4, []) :: (.jsr_w 0, []) :: (.lcmp, []) :: (.ifCond .ne 0, [106]) :: (.iconst (-1), []) :: (.goto 0, [112]) :: []
def k87_88 : List mI := (.aload 3, []) :: (.lload 4, []) :: (.invokevirtual 0, [53, 1, 6]) :: (.ireturn, []) :: []
def k87_25 : List mI := (.aload 0, []) :: (.getfield 0, [11, 0]) :: (.getfield 0, [10, 0]) :: (.iload 2, []) :: (.invokevirtual 0, [62, 1, 8]) :: (.astore 3, []) :: (.aload 0, []) :: (.getfield 0, [11, 0]) :: (.getfield 0, [10, 1]) :: (.invokevirtual 0, [6, 0, 2]) :: (.lstore 4, []) :: (.iload 1, []) :: (.tableswitch 0 0 5 #[], [156, 88, 95, 113, 131, 138, 145]) :: []
def k87_17 : List mI := (.aload 0, []) :: (.iconst (-1001), []) :: (.invokevirtual 0, [114, 1, 11]) :: (.ireturn, []) :: []
def k87_0 : List mI := (.iload 1, []) :: (.ifCond .lt 0, [17]) :: (.iload 1, []) :: (.iconst 6, []) :: (.if_icmp .gt 0, [17]) :: (.iload 2, []) :: (.invokestatic 0, [116, 1]) :: (.ifCond .ne 0, [25]) :: k87_17
def k88_66 : List mI := (.lstore 5, []) :: (.aload 0, []) :: (.getfield 0, [11, 0]) :: (.getfield 0, [10, 0]) :: (.iload 1, []) :: (.invokevirtual 0, [62, 1, 8]) :: (.lload 5, []) :: (.aload 0, []) :: (.getfield 0, [11, 0]) :: (.getfield 0, [10, 1]) :: (.invokevirtual 0, [6, 0, 2]) :: (.land, []) :: (.invokevirtual 0, [53, 1, 6]) :: (.ireturn, []) :: []
def k88_55 : List mI := (.jsr_w 1, []) :: (.iload 4, []) :: (.lshl, []) :: (.jsr_w 1, []) :: (.lsub, []) :: (.iload 3, []) :: (.iload 4, []) :: (.imul, []) :: (.lshl, []) :: k88_66
def k88_37 : List mI := (.iconst 1, []) :: (.iload 2, []) :: (.ishl, []) :: (.istore 4, []) :: (.iload 4, []) :: (.iconst 64, []) :: (.if_icmp .ne 0, [55]) :: (.jsr_w (-1), []) :: (.goto 0, [66]) :: []
def k88_29 : List mI := (.aload 0, []) :: (.iconst (-1001), []) :: (.invokevirtual 0, [114, 1, 11]) :: (.ireturn, []) :: []
def k88_0 : List mI := (.iload 1, []) :: (.invokestatic 0, [116, 1]) :: (.ifCond .eq 0, [29]) :: (.iload 2, []) :: (.ifCond .lt 0, [29]) :: (.iload 2, []) :: (.iconst 7, []) :: (.if_icmp .ge 0, [29]) :: (.iload 3, []) :: (.ifCond .lt 0, [29]) :: (.iload 3, []) :: (.iconst 64, []) :: (.iload 2, []) :: (.ishr, []) :: (.if_icmp .lt 0, [37]) :: k88_29
def k89_22 : List mI := (.aload 0, []) :: (.getfield 0, [11, 0]) :: (.getfield 0, [10, 0]) :: (.iload 2, []) :: (.invokevirtual 0, [62, 1, 8]) :: (.astore 3, []) :: (.aload 0, []) :: (.getfield 0, [11, 8]) :: (.aload 3, []) :: (.iload 1, []) :: (.invokevirtual 0, [36, 1, 6]) :: (.invokevirtual 0, [38, 1, 6]) :: (.aload 3, []) :: (.aload 0, []) :: (.getfield 0, [11, 8]) :: (.invokevirtual 0, [45, 1, 6]) :: (.aload 0, []) :: (.getfield 0, [11, 0]) :: (.getfield 0, [10, 1]) :: (.invokevirtual 0, [6, 0, 2]) :: (.land, []) :: (.invokestatic 0, [207, 1]) :: (.ireturn, []) :: []
def k89_14 : List mI := (.aload 0, []) :: (.iconst (-1001), []) :: (.invokevirtual 0, [114, 1, 11]) :: (.ireturn, []) :: []
def k89_0 : List mI := (.iload 1, []) :: (.invokestatic 0, [115, 1]) :: (.ifCond .eq 0, [14]) :: (.iload 2, []) :: (.invokestatic 0, [116, 1]) :: (.ifCond .ne 0, [22]) :: k89_14
def k90_39 : List mI := (.lload 2, []) :: (.lreturn, []) :: []
def k90_16 : List mI := (.iload 4, []) :: (.iconst 8, []) :: (.if_icmp .ge 0, [39]) :: (.lload 2, []) :: (.aload 0, []) :: (.iload 1, []) :: (.iload 4, []) :: (.invokevirtual 0, [122, 2, 11]) :: (.land, []) :: (.lstore 2, []) :: (.iinc 4 1, []) :: (.goto 0, [16]) :: []
def k90_9 : List mI := (.jsr_w (-1), []) :: (.lstore 2, []) :: (.iconst 0, []) :: (.istore 4, []) :: k90_16
def k90_0 : List mI := (.iload 1, []) :: (.invokestatic 0, [115, 1]) :: (.ifCond .ne 0, [9]) :: (.jsr_w 0, []) :: (.lreturn, []) :: []
def k91_16 : List mI := (.aload 0, []) :: (.iload 1, []) :: (.iload 2, []) :: (.invokevirtual 0, [123, 2, 11]) :: (.lreturn, []) :: []
def k91_14 : List mI := (.jsr_w 0, []) :: (.lreturn, []) :: []
def k91_0 : List mI := (.iload 1, []) :: (.invokestatic 0, [115, 1]) :: (.ifCond .eq 0, [14]) :: (.iload 2, []) :: (.invokestatic 0, [116, 1]) :: (.ifCond .ne 0, [16]) :: k91_14
def k92_60 : List mI := (.iload 4, []) :: (.ireturn, []) :: []
def k92_54 : List mI := (.iinc 5 1, []) :: (.goto 0, [23]) :: []
def k92_23 : List mI := (.iload 5, []) :: (.iconst 64, []) :: (.if_icmp .ge 0, [60]) :: (.lload 2, []) :: (.iload 5, []) :: (.lushr, []) :: (.jsr_w 1, []) :: (.land, []) :: (.jsr_w 0, []) :: (.lcmp, []) :: (.ifCond .ne 0, [54]) :: (.lload 2, []) :: (.aload 0, []) :: (.iload 5, []) :: (.iload 1, []) :: (.invokevirtual 0, [123, 2, 11]) :: (.lor, []) :: (.lstore 2, []) :: (.iinc 4 1, []) :: k92_54
def k92_15 : List mI := (.jsr_w 0, []) :: (.lstore 2, []) :: (.iconst 0, []) :: (.istore 4, []) :: (.iconst 0, []) :: (.istore 5, []) :: k92_23
def k92_0 : List mI := (.iload 1, []) :: (.invokestatic 0, [116, 1]) :: (.ifCond .ne 0, [15]) :: (.aload 0, []) :: (.iconst (-1001), []) :: (.invokevirtual 0, [114, 1, 11]) :: (.ireturn, []) :: []
def k93_93 : List mI := (.iconst (-1), []) :: (.ireturn, []) :: []
def k93_77 : List mI := (.aload 0, []) :: (.lload 6, []) :: (.lload 4, []) :: (.invokevirtual 0, [124, 2, 11]) :: (.lstore 6, []) :: (.iinc 8 1, []) :: (.goto 0, [56]) :: []
def k93_56 : List mI := (.iload 8, []) :: (.iconst 64, []) :: (.if_icmp .ge 0, [93]) :: (.lload 6, []) :: (.iload 2, []) :: (.lushr, []) :: (.jsr_w 1, []) :: (.land, []) :: (.jsr_w 1, []) :: (.lcmp, []) :: (.ifCond .ne 0, [77]) :: (.iload 8, []) :: (.ireturn, []) :: []
def k93_29 : List mI := (.aload 0, []) :: (.getfield 0, [11, 0]) :: (.getfield 0, [10, 0]) :: (.iload 3, []) :: (.invokevirtual 0, [62, 1, 8]) :: (.invokevirtual 0, [43, 0, 6]) :: (.lstore 4, []) :: (.jsr_w 1, []) :: (.iload 1, []) :: (.lshl, []) :: (.lload 4, []) :: (.land, []) :: (.lstore 6, []) :: (.iconst 0, []) :: (.istore 8, []) :: k93_56
def k93_21 : List mI := (.aload 0, []) :: (.iconst (-1001), []) :: (.invokevirtual 0, [114, 1, 11]) :: (.ireturn, []) :: []
def k93_0 : List mI := (.iload 1, []) :: (.invokestatic 0, [115, 1]) :: (.ifCond .eq 0, [21]) :: (.iload 2, []) :: (.invokestatic 0, [115, 1]) :: (.ifCond .eq 0, [21]) :: (.iload 3, []) :: (.invokestatic 0, [116, 1]) :: (.ifCond .ne 0, [29]) :: k93_21
def k94_81 : List mI := (.aload 4, []) :: (.getfield 0, [7, 1]) :: (.ireturn, []) :: []
def k94_52 : List mI := (.iload 5, []) :: (.iload 3, []) :: (.if_icmp .ge 0, [81]) :: (.aload 4, []) :: (.lload 1, []) :: (.iconst 8, []) :: (.iload 5, []) :: (.imul, []) :: (.lushr, []) :: (.l2i, []) :: (.iconst 255, []) :: (.iand, []) :: (.invokevirtual 0, [60, 1, 7]) :: (.iinc 5 1, []) :: (.goto 0, [52]) :: []
def k94_49 : List mI := (.iconst 0, []) :: (.istore 5, []) :: k94_52
def k94_19 : List mI := (.aload 0, []) :: (.getfield 0, [11, 5]) :: (.getfield 0, [4, 0]) :: (.astore 4, []) :: (.aload 4, []) :: (.getfield 0, [7, 1]) :: (.iload 3, []) :: (.iadd, []) :: (.iconst 160, []) :: (.if_icmp .le 0, [49]) :: (.aload 0, []) :: (.iconst (-1002), []) :: (.invokevirtual 0, [114, 1, 11]) :: (.ireturn, []) :: []
def k94_11 : List mI := (.aload 0, []) :: (.iconst (-1001), []) :: (.invokevirtual 0, [114, 1, 11]) :: (.ireturn, []) :: []
def k94_0 : List mI := (.iload 3, []) :: (.iconst 1, []) :: (.if_icmp .lt 0, [11]) :: (.iload 3, []) :: (.iconst 8, []) :: (.if_icmp .le 0, [19]) :: k94_11
def k95_0 : List mI := (.aload 0, []) :: (.getfield 0, [11, 5]) :: (.getfield 0, [4, 0]) :: (.getfield 0, [7, 1]) :: (.istore 1, []) :: (.aload 0, []) :: (.getfield 0, [11, 5]) :: (.getfield 0, [4, 0]) :: (.iconst 0, []) :: (.putfield 0, [7, 1, 0]) :: (.iload 1, []) :: (.ireturn, []) :: []
def k96_34 : List mI := (.aload 0, []) :: (.getfield 0, [11, 0]) :: (.aload 1, []) :: (.putfield 0, [10, 4, 1]) :: (.aload 1, []) :: (.getfield 0, [3, 1]) :: (.ireturn, []) :: []
def k96_0 : List mI := (.aload 0, []) :: (.getfield 0, [11, 5]) :: (.invokevirtual 0, [10, 0, 4]) :: (.astore 1, []) :: (.aload 0, []) :: (.getfield 0, [11, 5]) :: (.getfield 0, [4, 0]) :: (.iconst 0, []) :: (.putfield 0, [7, 1, 0]) :: (.aload 1, []) :: (.ifnonnull 0, [34]) :: (.iconst (-10), []) :: (.aload 0, []) :: (.getfield 0, [11, 5]) :: (.getfield 0, [4, 6]) :: (.isub, []) :: (.ireturn, []) :: []
def k97_37 : List mI := (.aload 0, []) :: (.iload 1, []) :: (.invokevirtual 0, [126, 1, 11]) :: (.istore 2, []) :: (.aload 0, []) :: (.getfield 0, [11, 0]) :: (.getfield 0, [10, 0]) :: (.aload 0, []) :: (.getfield 0, [11, 6]) :: (.getfield 0, [9, 2]) :: (.invokevirtual 0, [63, 1, 8]) :: (.aload 0, []) :: (.getfield 0, [11, 0]) :: (.dup, []) :: (.getfield 0, [10, 3]) :: (.iload 2, []) :: (.iadd, []) :: (.putfield 0, [10, 3, 0]) :: (.iload 2, []) :: (.ireturn, []) :: []
def k97_19 : List mI := (.aload 0, []) :: (.getfield 0, [11, 0]) :: (.getfield 0, [10, 4]) :: (.ifnonnull 0, [37]) :: (.aload 0, []) :: (.iconst (-1003), []) :: (.invokevirtual 0, [114, 1, 11]) :: (.ireturn, []) :: []
def k97_11 : List mI := (.aload 0, []) :: (.iconst (-1001), []) :: (.invokevirtual 0, [114, 1, 11]) :: (.ireturn, []) :: []
def k97_0 : List mI := (.iload 1, []) :: (.iconst 1, []) :: (.if_icmp .lt 0, [11]) :: (.iload 1, []) :: (.iconst 30, []) :: (.if_icmp .le 0, [19]) :: k97_11
def k98_47 : List mI := (.aload 0, []) :: (.iload 1, []) :: (.invokevirtual 0, [126, 1, 11]) :: (.pop, []) :: (.aload 0, []) :: (.getfield 0, [11, 6]) :: (.getfield 0, [9, 2]) :: (.iload 3, []) :: (.invokevirtual 0, [62, 1, 8]) :: (.iload 2, []) :: (.invokevirtual 0, [36, 1, 6]) :: (.ireturn, []) :: []
def k98_29 : List mI := (.aload 0, []) :: (.getfield 0, [11, 0]) :: (.getfield 0, [10, 4]) :: (.ifnonnull 0, [47]) :: (.aload 0, []) :: (.iconst (-1003), []) :: (.invokevirtual 0, [114, 1, 11]) :: (.ireturn, []) :: []
def k98_21 : List mI := (.aload 0, []) :: (.iconst (-1001), []) :: (.invokevirtual 0, [114, 1, 11]) :: (.ireturn, []) :: []
def k98_0 : List mI := (.iload 1, []) :: (.invokestatic 0, [119, 1]) :: (.ifCond .eq 0, [21]) :: (.iload 2, []) :: (.invokestatic 0, [115, 1]) :: (.ifCond .eq 0, [21]) :: (.iload 3, []) :: (.invokestatic 0, [116, 1]) :: (.ifCond .ne 0, [29]) :: k98_21
def k99_33 : List mI := (.aload 0, []) :: (.iload 1, []) :: (.invokevirtual 0, [126, 1, 11]) :: (.ireturn, []) :: []
def k99_15 : List mI := (.aload 0, []) :: (.getfield 0, [11, 0]) :: (.getfield 0, [10, 4]) :: (.ifnonnull 0, [33]) :: (.aload 0, []) :: (.iconst (-1003), []) :: (.invokevirtual 0, [114, 1, 11]) :: (.ireturn, []) :: []
def k99_0 : List mI := (.iload 1, []) :: (.invokestatic 0, [119, 1]) :: (.ifCond .ne 0, [15]) :: (.aload 0, []) :: (.iconst (-1001), []) :: (.invokevirtual 0, [114, 1, 11]) :: (.ireturn, []) :: []
def k100_19 : List mI := (.aload 0, []) :: (.iload 1, []) :: (.invokevirtual 0, [126, 1, 11]) :: (.pop, []) :: (.aload 0, []) :: (.getfield 0, [11, 6]) :: (.getfield 0, [9, 2]) :: (.aload 0, []) :: (.getfield 0, [11, 0]) :: (.getfield 0, [10, 0]) :: (.invokevirtual 0, [64, 1, 8]) :: (.lreturn, []) :: []
def k100_17 : List mI := (.jsr_w 0, []) :: (.lreturn, []) :: []
def k100_0 : List mI := (.iload 1, []) :: (.invokestatic 0, [119, 1]) :: (.ifCond .eq 0, [17]) :: (.aload 0, []) :: (.getfield 0, [11, 0]) :: (.getfield 0, [10, 4]) :: (.ifnonnull 0, [19]) :: k100_17
def k101_97 : List mI := (.iconst (-1), []) :: (.ireturn, []) :: []
def k101_91 : List mI := (.iinc 1 1, []) :: (.goto 0, [37]) :: []
def k101_37 : List mI := (.iload 1, []) :: (.iconst 30, []) :: (.if_icmp .gt 0, [97]) :: (.aload 0, []) :: (.getfield 0, [11, 7]) :: (.aload 0, []) :: (.getfield 0, [11, 6]) :: (.getfield 0, [9, 2]) :: (.invokevirtual 0, [63, 1, 8]) :: (.aload 0, []) :: (.getfield 0, [11, 6]) :: (.aload 0, []) :: (.getfield 0, [11, 0]) :: (.iconst 1, []) :: (.invokevirtual 0, [66, 2, 9]) :: (.pop, []) :: (.aload 0, []) :: (.getfield 0, [11, 6]) :: (.getfield 0, [9, 2]) :: (.aload 0, []) :: (.getfield 0, [11, 7]) :: (.invokevirtual 0, [64, 1, 8]) :: (.jsr_w 0, []) :: (.lcmp, []) :: (.ifCond .ne 0, [91]) :: (.iload 1, []) :: (.ireturn, []) :: []
def k101_18 : List mI := (.aload 0, []) :: (.getfield 0, [11, 6]) :: (.getfield 0, [9, 2]) :: (.aload 0, []) :: (.getfield 0, [11, 0]) :: (.getfield 0, [10, 0]) :: (.invokevirtual 0, [63, 1, 8]) :: (.iconst 0, []) :: (.istore 1, []) :: k101_37
def k101_0 : List mI := (.aload 0, []) :: (.getfield 0, [11, 0]) :: (.getfield 0, [10, 4]) :: (.ifnonnull 0, [18]) :: (.aload 0, []) :: (.iconst (-1003), []) :: (.invokevirtual 0, [114, 1, 11]) :: (.ireturn, []) :: []
def k102_115 : List mI := (.iconst (-1), []) :: (.ireturn, []) :: []
def k102_96 : List mI := (.aload 0, []) :: (.getfield 0, [11, 6]) :: (.aload 0, []) :: (.getfield 0, [11, 0]) :: (.iconst 1, []) :: (.invokevirtual 0, [66, 2, 9]) :: (.pop, []) :: (.iinc 4 1, []) :: (.goto 0, [67]) :: []
def k102_67 : List mI := (.iload 4, []) :: (.iconst 30, []) :: (.if_icmp .gt 0, [115]) :: (.aload 0, []) :: (.getfield 0, [11, 6]) :: (.getfield 0, [9, 2]) :: (.iload 2, []) :: (.invokevirtual 0, [62, 1, 8]) :: (.iload 1, []) :: (.invokevirtual 0, [36, 1, 6]) :: (.iload 3, []) :: (.if_icmp .ne 0, [96]) :: (.iload 4, []) :: (.ireturn, []) :: []
def k102_47 : List mI := (.aload 0, []) :: (.getfield 0, [11, 6]) :: (.getfield 0, [9, 2]) :: (.aload 0, []) :: (.getfield 0, [11, 0]) :: (.getfield 0, [10, 0]) :: (.invokevirtual 0, [63, 1, 8]) :: (.iconst 0, []) :: (.istore 4, []) :: k102_67
def k102_29 : List mI := (.aload 0, []) :: (.getfield 0, [11, 0]) :: (.getfield 0, [10, 4]) :: (.ifnonnull 0, [47]) :: (.aload 0, []) :: (.iconst (-1003), []) :: (.invokevirtual 0, [114, 1, 11]) :: (.ireturn, []) :: []
def k102_21 : List mI := (.aload 0, []) :: (.iconst (-1001), []) :: (.invokevirtual 0, [114, 1, 11]) :: (.ireturn, []) :: []
def k102_0 : List mI := (.iload 1, []) :: (.invokestatic 0, [115, 1]) :: (.ifCond .eq 0, [21]) :: (.iload 2, []) :: (.invokestatic 0, [116, 1]) :: (.ifCond .eq 0, [21]) :: (.iload 3, []) :: (.invokestatic 0, [118, 1]) :: (.ifCond .ne 0, [29]) :: k102_21
def k103_86 : List mI := (.iconst (-1), []) :: (.ireturn, []) :: []
def k103_80 : List mI := (.iinc 1 1, []) :: (.goto 0, [37]) :: []
def k103_37 : List mI := (.iload 1, []) :: (.iconst 30, []) :: (.if_icmp .gt 0, [86]) :: (.aload 0, []) :: (.getfield 0, [11, 6]) :: (.aload 0, []) :: (.getfield 0, [11, 0]) :: (.iconst 1, []) :: (.invokevirtual 0, [66, 2, 9]) :: (.pop, []) :: (.aload 0, []) :: (.getfield 0, [11, 6]) :: (.getfield 0, [9, 2]) :: (.aload 0, []) :: (.getfield 0, [11, 0]) :: (.getfield 0, [10, 0]) :: (.invokevirtual 0, [64, 1, 8]) :: (.jsr_w 0, []) :: (.lcmp, []) :: (.ifCond .ne 0, [80]) :: (.iload 1, []) :: (.ireturn, []) :: []
def k103_18 : List mI := (.aload 0, []) :: (.getfield 0, [11, 6]) :: (.getfield 0, [9, 2]) :: (.aload 0, []) :: (.getfield 0, [11, 0]) :: (.getfield 0, [10, 0]) :: (.invokevirtual 0, [63, 1, 8]) :: (.iconst 1, []) :: (.istore 1, []) :: k103_37
def k103_0 : List mI := (.aload 0, []) :: (.getfield 0, [11, 0]) :: (.getfield 0, [10, 4]) :: (.ifnonnull 0, [18]) :: (.aload 0, []) :: (.iconst (-1003), []) :: (.invokevirtual 0, [114, 1, 11]) :: (.ireturn, []) :: []
def k104_53 : List mI := (.aload 0, []) :: (.getfield 0, [11, 3]) :: (.iload 1, []) :: (.aaload, []) :: (.iload 2, []) :: (.iload 3, []) :: (.invokevirtual 0, [30, 2, 5]) :: (.iconst 1, []) :: (.ireturn, []) :: []
def k104_36 : List mI := (.iload 2, []) :: (.iconst (-1), []) :: (.if_icmp .eq 0, [53]) :: (.iload 3, []) :: (.ifCond .ge 0, [53]) :: (.aload 0, []) :: (.iconst (-1005), []) :: (.invokevirtual 0, [114, 1, 11]) :: (.ireturn, []) :: []
def k104_28 : List mI := (.aload 0, []) :: (.iconst (-1001), []) :: (.invokevirtual 0, [114, 1, 11]) :: (.ireturn, []) :: []
def k104_0 : List mI := (.iload 1, []) :: (.invokestatic 0, [120, 1]) :: (.ifCond .eq 0, [28]) :: (.iload 2, []) :: (.iconst (-1), []) :: (.if_icmp .lt 0, [28]) :: (.iload 2, []) :: (.iconst 4, []) :: (.if_icmp .ge 0, [28]) :: (.iload 2, []) :: (.iconst (-1), []) :: (.if_icmp .eq 0, [36]) :: (.iload 3, []) :: (.iconst 64, []) :: (.if_icmp .le 0, [36]) :: k104_28
def k105_56 : List mI := (.aload 0, []) :: (.getfield 0, [11, 3]) :: (.iload 1, []) :: (.aaload, []) :: (.iload 2, []) :: (.lload 3, []) :: (.invokevirtual 0, [33, 2, 5]) :: (.iconst 1, []) :: (.ireturn, []) :: []
def k105_35 : List mI := (.aload 0, []) :: (.getfield 0, [11, 3]) :: (.iload 1, []) :: (.aaload, []) :: (.iload 2, []) :: (.invokevirtual 0, [32, 1, 5]) :: (.ifCond .ne 0, [56]) :: (.aload 0, []) :: (.iconst (-1005), []) :: (.invokevirtual 0, [114, 1, 11]) :: (.ireturn, []) :: []
def k105_15 : List mI := (.aload 0, []) :: (.getfield 0, [11, 3]) :: (.iload 1, []) :: (.aaload, []) :: (.invokevirtual 0, [31, 0, 5]) :: (.ifCond .eq 0, [35]) :: (.aload 0, []) :: (.iconst (-1004), []) :: (.invokevirtual 0, [114, 1, 11]) :: (.ireturn, []) :: []
def k105_0 : List mI := (.iload 1, []) :: (.invokestatic 0, [120, 1]) :: (.ifCond .ne 0, [15]) :: (.aload 0, []) :: (.iconst (-1001), []) :: (.invokevirtual 0, [114, 1, 11]) :: (.ireturn, []) :: []
def k106_22 : List mI := (.aload 0, []) :: (.getfield 0, [11, 3]) :: (.iload 1, []) :: (.aaload, []) :: (.getfield 0, [5, 0]) :: (.iload 2, []) :: (.laload, []) :: (.lreturn, []) :: []
def k106_20 : List mI := (.jsr_w 0, []) :: (.lreturn, []) :: []
def k106_0 : List mI := (.iload 1, []) :: (.invokestatic 0, [120, 1]) :: (.ifCond .eq 0, [20]) :: (.aload 0, []) :: (.getfield 0, [11, 3]) :: (.iload 1, []) :: (.aaload, []) :: (.iload 2, []) :: (.invokevirtual 0, [32, 1, 5]) :: (.ifCond .ne 0, [22]) :: k106_20
def k107_127 : List mI := (.iload 6, []) :: (.ireturn, []) :: []
def k107_121 : List mI := (.iinc 7 1, []) :: (.goto 0, [62]) :: []
def k107_62 : List mI := (.iload 7, []) :: (.iconst 64, []) :: (.if_icmp .ge 0, [127]) :: (.iload 7, []) :: (.aload 3, []) :: (.getfield 0, [5, 2]) :: (.if_icmp .ge 0, [127]) :: (.lload 4, []) :: (.iload 7, []) :: (.lushr, []) :: (.jsr_w 1, []) :: (.land, []) :: (.jsr_w 1, []) :: (.lcmp, []) :: (.ifCond .ne 0, [121]) :: (.aload 0, []) :: (.getfield 0, [11, 0]) :: (.getfield 0, [10, 0]) :: (.iload 1, []) :: (.invokevirtual 0, [62, 1, 8]) :: (.iload 7, []) :: (.aload 3, []) :: (.getfield 0, [5, 0]) :: (.iload 7, []) :: (.laload, []) :: (.l2i, []) :: (.iconst 255, []) :: (.iand, []) :: (.invokevirtual 0, [37, 2, 6]) :: (.iinc 6 1, []) :: k107_121
def k107_44 : List mI := (.aload 0, []) :: (.getfield 0, [11, 0]) :: (.getfield 0, [10, 1]) :: (.invokevirtual 0, [6, 0, 2]) :: (.lstore 4, []) :: (.iconst 0, []) :: (.istore 6, []) :: (.iconst 0, []) :: (.istore 7, []) :: k107_62
def k107_22 : List mI := (.aload 0, []) :: (.getfield 0, [11, 3]) :: (.iload 2, []) :: (.aaload, []) :: (.astore 3, []) :: (.aload 3, []) :: (.invokevirtual 0, [31, 0, 5]) :: (.ifCond .eq 0, [44]) :: (.aload 0, []) :: (.iconst (-1004), []) :: (.invokevirtual 0, [114, 1, 11]) :: (.ireturn, []) :: []
def k107_14 : List mI := (.aload 0, []) :: (.iconst (-1001), []) :: (.invokevirtual 0, [114, 1, 11]) :: (.ireturn, []) :: []
def k107_0 : List mI := (.iload 1, []) :: (.invokestatic 0, [116, 1]) :: (.ifCond .eq 0, [14]) :: (.iload 2, []) :: (.invokestatic 0, [120, 1]) :: (.ifCond .ne 0, [22]) :: k107_14
def k108_92 : List mI := (.aload 3, []) :: (.getfield 0, [5, 2]) :: (.ireturn, []) :: []
def k108_47 : List mI := (.iload 4, []) :: (.iconst 64, []) :: (.if_icmp .ge 0, [92]) :: (.iload 4, []) :: (.aload 3, []) :: (.getfield 0, [5, 2]) :: (.if_icmp .ge 0, [92]) :: (.aload 3, []) :: (.iload 4, []) :: (.aload 0, []) :: (.getfield 0, [11, 0]) :: (.getfield 0, [10, 0]) :: (.iload 1, []) :: (.invokevirtual 0, [62, 1, 8]) :: (.iload 4, []) :: (.invokevirtual 0, [36, 1, 6]) :: (.i2l, []) :: (.invokevirtual 0, [33, 2, 5]) :: (.iinc 4 1, []) :: (.goto 0, [47]) :: []
def k108_44 : List mI := (.iconst 0, []) :: (.istore 4, []) :: k108_47
def k108_22 : List mI := (.aload 0, []) :: (.getfield 0, [11, 3]) :: (.iload 2, []) :: (.aaload, []) :: (.astore 3, []) :: (.aload 3, []) :: (.invokevirtual 0, [31, 0, 5]) :: (.ifCond .eq 0, [44]) :: (.aload 0, []) :: (.iconst (-1004), []) :: (.invokevirtual 0, [114, 1, 11]) :: (.ireturn, []) :: []
def k108_14 : List mI := (.aload 0, []) :: (.iconst (-1001), []) :: (.invokevirtual 0, [114, 1, 11]) :: (.ireturn, []) :: []
def k108_0 : List mI := (.iload 1, []) :: (.invokestatic 0, [116, 1]) :: (.ifCond .eq 0, [14]) :: (.iload 2, []) :: (.invokestatic 0, [120, 1]) :: (.ifCond .ne 0, [22]) :: k108_14
def k109_100 : List mI := (.iconst (-1), []) :: (.ireturn, []) :: []
def k109_94 : List mI := (.iinc 4 1, []) :: (.goto 0, [47]) :: []
def k109_47 : List mI := (.iload 4, []) :: (.iconst 64, []) :: (.if_icmp .ge 0, [100]) :: (.iload 4, []) :: (.aload 3, []) :: (.getfield 0, [5, 2]) :: (.if_icmp .ge 0, [100]) :: (.aload 3, []) :: (.getfield 0, [5, 0]) :: (.iload 4, []) :: (.laload, []) :: (.aload 0, []) :: (.getfield 0, [11, 0]) :: (.getfield 0, [10, 0]) :: (.iload 1, []) :: (.invokevirtual 0, [62, 1, 8]) :: (.iload 4, []) :: (.invokevirtual 0, [36, 1, 6]) :: (.i2l, []) :: (.lcmp, []) :: (.ifCond .eq 0, [94]) :: (.iload 4, []) :: (.ireturn, []) :: []
def k109_44 : List mI := (.iconst 0, []) :: (.istore 4, []) :: k109_47
def k109_22 : List mI := (.aload 0, []) :: (.getfield 0, [11, 3]) :: (.iload 2, []) :: (.aaload, []) :: (.astore 3, []) :: (.aload 3, []) :: (.invokevirtual 0, [31, 0, 5]) :: (.ifCond .eq 0, [44]) :: (.aload 0, []) :: (.iconst (-1004), []) :: (.invokevirtual 0, [114, 1, 11]) :: (.ireturn, []) :: []
def k109_14 : List mI := (.aload 0, []) :: (.iconst (-1001), []) :: (.invokevirtual 0, [114, 1, 11]) :: (.ireturn, []) :: []
def k109_0 : List mI := (.iload 1, []) :: (.invokestatic 0, [116, 1]) :: (.ifCond .eq 0, [14]) :: (.iload 2, []) :: (.invokestatic 0, [120, 1]) :: (.ifCond .ne 0, [22]) :: k109_14
def k110_0 : List mI := (.aload 0, []) :: (.getfield 0, [11, 1]) :: (.aload 0, []) :: (.getfield 0, [11, 0]) :: (.invokevirtual 0, [73, 1, 10]) :: (.aload 0, []) :: (.iconst 1, []) :: (.putfield 0, [11, 2, 2]) :: (.aload 0, []) :: (.getfield 0, [11, 0]) :: (.getfield 0, [10, 3]) :: (.ireturn, []) :: []
def k111_15 : List mI := (.aload 0, []) :: (.getfield 0, [11, 0]) :: (.aload 0, []) :: (.getfield 0, [11, 1]) :: (.invokevirtual 0, [73, 1, 10]) :: (.aload 0, []) :: (.getfield 0, [11, 0]) :: (.getfield 0, [10, 3]) :: (.ireturn, []) :: []
def k111_0 : List mI := (.aload 0, []) :: (.getfield 0, [11, 2]) :: (.ifCond .ne 0, [15]) :: (.aload 0, []) :: (.iconst (-1003), []) :: (.invokevirtual 0, [114, 1, 11]) :: (.ireturn, []) :: []
def k112_99 : List mI := (.aload 0, []) :: (.iconst (-1001), []) :: (.invokevirtual 0, [114, 1, 11]) :: (.ireturn, []) :: []
def k112_91 : List mI := (.aload 0, []) :: (.getfield 0, [11, 0]) :: (.getfield 0, [10, 2]) :: (.ireturn, []) :: []
def k112_90 : List mI := (.ireturn, []) :: []
def k112_80 : List mI := (.aload 0, []) :: (.getfield 0, [11, 0]) :: (.getfield 0, [10, 4]) :: (.getfield 0, [3, 1]) :: k112_90
def k112_66 : List mI := (.aload 0, []) :: (.getfield 0, [11, 0]) :: (.getfield 0, [10, 4]) :: (.ifnonnull 0, [80]) :: (.iconst 0, []) :: (.goto 0, [90]) :: []
def k112_55 : List mI := (.aload 0, []) :: (.getfield 0, [11, 5]) :: (.getfield 0, [4, 0]) :: (.getfield 0, [7, 1]) :: (.ireturn, []) :: []
def k112_44 : List mI := (.aload 0, []) :: (.getfield 0, [11, 0]) :: (.getfield 0, [10, 1]) :: (.getfield 0, [2, 1]) :: (.ireturn, []) :: []
def k112_36 : List mI := (.aload 0, []) :: (.getfield 0, [11, 0]) :: (.getfield 0, [10, 3]) :: (.ireturn, []) :: []
def k112_0 : List mI := (.iload 1, []) :: (.tableswitch 0 0 4 #[], [99, 36, 44, 55, 66, 91]) :: []
def k113_17 : List mI := (.aload 0, []) :: (.getfield 0, [11, 4]) :: (.iload 1, []) :: (.iaload, []) :: (.ireturn, []) :: []
def k113_9 : List mI := (.aload 0, []) :: (.iconst (-1001), []) :: (.invokevirtual 0, [114, 1, 11]) :: (.ireturn, []) :: []
def k113_0 : List mI := (.iload 1, []) :: (.ifCond .lt 0, [9]) :: (.iload 1, []) :: (.iconst 5, []) :: (.if_icmp .lt 0, [17]) :: k113_9
def k114_25 : List mI := (.iload 1, []) :: (.ireturn, []) :: []
def k114_0 : List mI := (.iconst (-1001), []) :: (.iload 1, []) :: (.isub, []) :: (.istore 2, []) :: (.iload 2, []) :: (.ifCond .lt 0, [25]) :: (.iload 2, []) :: (.iconst 5, []) :: (.if_icmp .ge 0, [25]) :: (.aload 0, []) :: (.getfield 0, [11, 4]) :: (.iload 2, []) :: (.dup2, []) :: (.iaload, []) :: (.iconst 1, []) :: (.iadd, []) :: (.iastore, []) :: k114_25
def k115_15 : List mI := (.ireturn, [1]) :: []
def k115_14 : List mI := (.iconst 0, []) :: k115_15
def k115_0 : List mI := (.iload 0, []) :: (.ifCond .lt 0, [14]) :: (.iload 0, []) :: (.iconst 64, []) :: (.if_icmp .ge 0, [14]) :: (.iconst 1, []) :: (.goto 0, [15]) :: []
def k116_15 : List mI := (.ireturn, [1]) :: []
def k116_14 : List mI := (.iconst 0, []) :: k116_15
def k116_0 : List mI := (.iload 0, []) :: (.ifCond .lt 0, [14]) :: (.iload 0, []) :: (.iconst 8, []) :: (.if_icmp .ge 0, [14]) :: (.iconst 1, []) :: (.goto 0, [15]) :: []
def k117_15 : List mI := (.ireturn, [1]) :: []
def k117_14 : List mI := (.iconst 0, []) :: k117_15
def k117_0 : List mI := (.iload 0, []) :: (.ifCond .lt 0, [14]) :: (.iload 0, []) :: (.iconst 8, []) :: (.if_icmp .ge 0, [14]) :: (.iconst 1, []) :: (.goto 0, [15]) :: []
def k118_16 : List mI := (.ireturn, [1]) :: []
def k118_15 : List mI := (.iconst 0, []) :: k118_16
def k118_0 : List mI := (.iload 0, []) :: (.ifCond .lt 0, [15]) :: (.iload 0, []) :: (.iconst 255, []) :: (.if_icmp .gt 0, [15]) :: (.iconst 1, []) :: (.goto 0, [16]) :: []
def k119_15 : List mI := (.ireturn, [1]) :: []
def k119_14 : List mI := (.iconst 0, []) :: k119_15
def k119_0 : List mI := (.iload 0, []) :: (.ifCond .lt 0, [14]) :: (.iload 0, []) :: (.iconst 30, []) :: (.if_icmp .gt 0, [14]) :: (.iconst 1, []) :: (.goto 0, [15]) :: []
def k120_14 : List mI := (.ireturn, [1]) :: []
def k120_13 : List mI := (.iconst 0, []) :: k120_14
def k120_0 : List mI := (.iload 0, []) :: (.ifCond .lt 0, [13]) :: (.iload 0, []) :: (.iconst 4, []) :: (.if_icmp .ge 0, [13]) :: (.iconst 1, []) :: (.goto 0, [14]) :: []
def k121_0 : List mI := (.aload 0, []) :: (.getfield 0, [11, 0]) :: (.getfield 0, [10, 0]) :: (.iload 1, []) :: (.invokevirtual 0, [62, 1, 8]) :: (.aload 0, []) :: (.getfield 0, [11, 8]) :: (.aload 0, []) :: (.getfield 0, [11, 0]) :: (.getfield 0, [10, 1]) :: (.invokevirtual 0, [6, 0, 2]) :: (.invokevirtual 0, [41, 2, 6]) :: (.aload 0, []) :: (.getfield 0, [11, 0]) :: (.dup, []) :: (.getfield 0, [10, 3]) :: (.iload 2, []) :: (.iadd, []) :: (.putfield 0, [10, 3, 0]) :: (.iload 2, []) :: (.ireturn, []) :: []
def k122_0 : List mI := (.aload 0, []) :: (.getfield 0, [11, 0]) :: (.getfield 0, [10, 0]) :: (.iload 2, []) :: (.invokevirtual 0, [62, 1, 8]) :: (.astore 3, []) :: (.aload 0, []) :: (.getfield 0, [11, 8]) :: (.aload 3, []) :: (.iload 1, []) :: (.invokevirtual 0, [36, 1, 6]) :: (.invokevirtual 0, [38, 1, 6]) :: (.aload 3, []) :: (.aload 0, []) :: (.getfield 0, [11, 8]) :: (.invokevirtual 0, [44, 1, 6]) :: (.jsr_w (-1), []) :: (.lxor, []) :: (.lreturn, []) :: []
def k123_52 : List mI := (.lload 5, []) :: (.lreturn, []) :: []
def k123_42 : List mI := (.lload 8, []) :: (.lstore 5, []) :: (.iinc 7 1, []) :: (.goto 0, [15]) :: []
def k123_15 : List mI := (.iload 7, []) :: (.iconst 64, []) :: (.if_icmp .ge 0, [52]) :: (.aload 0, []) :: (.lload 5, []) :: (.lload 3, []) :: (.invokevirtual 0, [124, 2, 11]) :: (.lstore 8, []) :: (.lload 8, []) :: (.lload 5, []) :: (.lcmp, []) :: (.ifCond .ne 0, [42]) :: (.goto 0, [52]) :: []
def k123_0 : List mI := (.aload 0, []) :: (.iload 1, []) :: (.iload 2, []) :: (.invokevirtual 0, [122, 2, 11]) :: (.lstore 3, []) :: (.jsr_w 1, []) :: (.iload 1, []) :: (.lshl, []) :: (.lstore 5, []) :: (.iconst 0, []) :: (.istore 7, []) :: k123_15
def k124_36 : List mI := (.lload 5, []) :: (.lload 3, []) :: (.land, []) :: (.lreturn, []) :: []
def k124_6 : List mI := (.iload 7, []) :: (.iconst 4, []) :: (.if_icmp .ge 0, [36]) :: (.lload 5, []) :: (.lload 1, []) :: (.iload 7, []) :: (.aload 0, []) :: (.getfield 0, [11, 0]) :: (.getfield 0, [10, 2]) :: (.invokestatic 0, [125, 3]) :: (.lor, []) :: (.lstore 5, []) :: (.iinc 7 1, []) :: (.goto 0, [6]) :: []
def k124_0 : List mI := (.lload 1, []) :: (.lstore 5, []) :: (.iconst 0, []) :: (.istore 7, []) :: k124_6
def k125_113 : List mI := (.lstore 4, []) :: (.lload 0, []) :: (.iconst 1, []) :: (.lshl, []) :: (.jsr_w (-72340172838076674), []) :: (.land, []) :: (.lload 4, []) :: (.lor, []) :: (.lreturn, []) :: []
def k125_112 : List mI := (.jsr_w 0, []) :: k125_113
def k125_96 : List mI := (.iload 3, []) :: (.iconst 1, []) :: (.if_icmp .ne 0, [112]) :: (.lload 0, []) :: (.iconst 7, []) :: (.lushr, []) :: (.jsr_w 72340172838076673, []) :: (.land, []) :: (.goto 0, [113]) :: []
def k125_95 : List mI := (.lreturn, []) :: []
def k125_91 : List mI := (.lload 0, []) :: (.iconst 8, []) :: (.lushr, []) :: k125_95
def k125_77 : List mI := (.iload 3, []) :: (.iconst 1, []) :: (.if_icmp .ne 0, [91]) :: (.lload 0, []) :: (.iconst 8, []) :: (.invokestatic 0, [209, 2]) :: (.goto 0, [95]) :: []
def k125_64 : List mI := (.lstore 4, []) :: (.lload 0, []) :: (.iconst 1, []) :: (.lushr, []) :: (.jsr_w 9187201950435737471, []) :: (.land, []) :: (.lload 4, []) :: (.lor, []) :: (.lreturn, []) :: []
def k125_63 : List mI := (.jsr_w 0, []) :: k125_64
def k125_47 : List mI := (.iload 3, []) :: (.iconst 1, []) :: (.if_icmp .ne 0, [63]) :: (.lload 0, []) :: (.iconst 7, []) :: (.lshl, []) :: (.jsr_w (-9187201950435737472), []) :: (.land, []) :: (.goto 0, [64]) :: []
def k125_46 : List mI := (.lreturn, []) :: []
def k125_42 : List mI := (.lload 0, []) :: (.iconst 8, []) :: (.lshl, []) :: k125_46
def k125_28 : List mI := (.iload 3, []) :: (.iconst 1, []) :: (.if_icmp .ne 0, [42]) :: (.lload 0, []) :: (.iconst 8, []) :: (.invokestatic 0, [208, 2]) :: (.goto 0, [46]) :: []
def k125_0 : List mI := (.iload 2, []) :: (.tableswitch 0 0 2 #[], [96, 28, 47, 77]) :: []
def k126_0 : List mI := (.aload 0, []) :: (.getfield 0, [11, 6]) :: (.getfield 0, [9, 2]) :: (.aload 0, []) :: (.getfield 0, [11, 0]) :: (.getfield 0, [10, 0]) :: (.invokevirtual 0, [63, 1, 8]) :: (.aload 0, []) :: (.getfield 0, [11, 6]) :: (.aload 0, []) :: (.getfield 0, [11, 0]) :: (.iload 1, []) :: (.invokevirtual 0, [66, 2, 9]) :: (.ireturn, []) :: []
def k127_0 : List mI := (.aload 0, []) :: (.invokespecial 0, []) :: (.aload 0, []) :: (.iconst 5, []) :: (.newarray .int, []) :: (.putfield 0, [12, 0, 1]) :: (.aload 0, []) :: (.iconst 512, []) :: (.newarray .int, []) :: (.putfield 0, [12, 1, 1]) :: (.aload 0, []) :: (.iconst 512, []) :: (.newarray .int, []) :: (.putfield 0, [12, 2, 1]) :: (.aload 0, []) :: (.iconst 512, []) :: (.newarray .int, []) :: (.putfield 0, [12, 3, 1]) :: (.aload 0, []) :: (.iconst 512, []) :: (.newarray .int, []) :: (.putfield 0, [12, 4, 1]) :: (.aload 0, []) :: (.iconst 8, []) :: (.newarray .long, []) :: (.putfield 0, [12, 5, 1]) :: (.aload 0, []) :: (.iconst 8, []) :: (.newarray .long, []) :: (.putfield 0, [12, 6, 1]) :: (.aload 0, []) :: (.iconst 900, []) :: (.newarray .int, []) :: (.putfield 0, [12, 14, 1]) :: (.aload 0, []) :: (.iconst 900, []) :: (.newarray .int, []) :: (.putfield 0, [12, 15, 1]) :: (.aload 0, []) :: (.iconst 900, []) :: (.newarray .int, []) :: (.putfield 0, [12, 16, 1]) :: (.aload 0, []) :: (.iconst 160, []) :: (.newarray .int, []) :: (.putfield 0, [12, 21, 1]) :: (.aload 0, []) :: (.iconst 256, []) :: (.newarray .long, []) :: (.putfield 0, [12, 23, 1]) :: (.aload 0, []) :: (.iconst 4, []) :: (.newarray .int, []) :: (.dup, []) :: (.iconst 0, []) :: (.iconst (-1), []) :: (.iastore, []) :: (.dup, []) :: (.iconst 1, []) :: (.iconst (-1), []) :: (.iastore, []) :: (.dup, []) :: (.iconst 2, []) :: (.iconst (-1), []) :: (.iastore, []) :: (.dup, []) :: (.iconst 3, []) :: (.iconst (-1), []) :: (.iastore, []) :: (.putfield 0, [12, 24, 1]) :: (.aload 0, []) :: (.iconst 4, []) :: (.newarray .int, []) :: (.putfield 0, [12, 25, 1]) :: (.aload 0, []) :: (.iconst 64, []) :: (.newarray .int, []) :: (.putfield 0, [12, 26, 1]) :: (.aload 0, []) :: (.iconst 5120, []) :: (.newarray .int, []) :: (.putfield 0, [12, 35, 1]) :: (.aload 0, []) :: (.iconst 0, []) :: (.putfield 0, [12, 17, 0]) :: (.return_, []) :: []
def k128_18 : List mI := (.ireturn, [1]) :: []
def k128_17 : List mI := (.iconst 0, []) :: k128_18
def k128_0 : List mI := (.lload 0, []) :: (.lload 2, []) :: (.lcmp, []) :: (.ifCond .lt 0, [17]) :: (.lload 0, []) :: (.lload 4, []) :: (.lcmp, []) :: (.ifCond .gt 0, [17]) :: (.iconst 1, []) :: (.goto 0, [18]) :: []
def k129_0 : List mI := (.aload 0, []) :: (.getfield 0, [12, 0]) :: (.iconst (-1001), []) :: (.iload 1, []) :: (.isub, []) :: (.dup2, []) :: (.iaload, []) :: (.iconst 1, []) :: (.iadd, []) :: (.iastore, []) :: (.iload 1, []) :: (.ireturn, []) :: []
def k130_15 : List mI := (.ireturn, [1]) :: []
def k130_14 : List mI := (.iconst 0, []) :: k130_15
def k130_0 : List mI := (.iload 0, []) :: (.ifCond .lt 0, [14]) :: (.iload 0, []) :: (.iconst 64, []) :: (.if_icmp .ge 0, [14]) :: (.iconst 1, []) :: (.goto 0, [15]) :: []
def k131_15 : List mI := (.ireturn, [1]) :: []
def k131_14 : List mI := (.iconst 0, []) :: k131_15
def k131_0 : List mI := (.iload 0, []) :: (.ifCond .lt 0, [14]) :: (.iload 0, []) :: (.iconst 8, []) :: (.if_icmp .ge 0, [14]) :: (.iconst 1, []) :: (.goto 0, [15]) :: []
def k132_15 : List mI := (.ireturn, [1]) :: []
def k132_14 : List mI := (.iconst 0, []) :: k132_15
def k132_0 : List mI := (.iload 0, []) :: (.ifCond .lt 0, [14]) :: (.iload 0, []) :: (.iconst 8, []) :: (.if_icmp .ge 0, [14]) :: (.iconst 1, []) :: (.goto 0, [15]) :: []
def k133_15 : List mI := (.ireturn, [1]) :: []
def k133_14 : List mI := (.iconst 0, []) :: k133_15
def k133_0 : List mI := (.lload 0, []) :: (.iload 2, []) :: (.lushr, []) :: (.jsr_w 1, []) :: (.land, []) :: (.jsr_w 1, []) :: (.lcmp, []) :: (.ifCond .ne 0, [14]) :: (.iconst 1, []) :: (.goto 0, [15]) :: []
def k134_32 : List mI := (.iload 2, []) :: (.ireturn, []) :: []
def k134_24 : List mI := (.iadd, []) :: (.istore 2, []) :: (.iinc 3 1, []) :: (.goto 0, [4]) :: []
def k134_23 : List mI := (.iconst 0, []) :: k134_24
def k134_4 : List mI := (.iload 3, []) :: (.iconst 64, []) :: (.if_icmp .ge 0, [32]) :: (.iload 2, []) :: (.lload 0, []) :: (.iload 3, []) :: (.invokestatic 0, [133, 2]) :: (.ifCond .eq 0, [23]) :: (.iconst 1, []) :: (.goto 0, [24]) :: []
def k134_0 : List mI := (.iconst 0, []) :: (.istore 2, []) :: (.iconst 0, []) :: (.istore 3, []) :: k134_4
def k135_35 : List mI := (.ireturn, []) :: []
def k135_28 : List mI := (.aload 0, []) :: (.iconst (-1001), []) :: (.invokevirtual 0, [129, 1, 12]) :: k135_35
def k135_0 : List mI := (.iload 1, []) :: (.invokestatic 0, [130, 1]) :: (.ifCond .eq 0, [28]) :: (.iload 2, []) :: (.invokestatic 0, [131, 1]) :: (.ifCond .eq 0, [28]) :: (.aload 0, []) :: (.getfield 0, [12, 1]) :: (.iconst 64, []) :: (.iload 2, []) :: (.imul, []) :: (.iload 1, []) :: (.iadd, []) :: (.iaload, []) :: (.goto 0, [35]) :: []
def k136_34 : List mI := (.aload 0, []) :: (.getfield 0, [12, 1]) :: (.iconst 64, []) :: (.iload 2, []) :: (.imul, []) :: (.iload 1, []) :: (.iadd, []) :: (.iaload, []) :: (.istore 4, []) :: (.aload 0, []) :: (.getfield 0, [12, 1]) :: (.iconst 64, []) :: (.iload 2, []) :: (.imul, []) :: (.iload 1, []) :: (.iadd, []) :: (.iload 3, []) :: (.iastore, []) :: (.iload 4, []) :: (.ireturn, []) :: []
def k136_26 : List mI := (.aload 0, []) :: (.iconst (-1001), []) :: (.invokevirtual 0, [129, 1, 12]) :: (.ireturn, []) :: []
def k136_0 : List mI := (.iload 1, []) :: (.invokestatic 0, [130, 1]) :: (.ifCond .eq 0, [26]) :: (.iload 2, []) :: (.invokestatic 0, [131, 1]) :: (.ifCond .eq 0, [26]) :: (.iload 3, []) :: (.i2l, []) :: (.jsr_w 0, []) :: (.jsr_w 255, []) :: (.invokestatic 0, [128, 3]) :: (.ifCond .ne 0, [34]) :: k136_26
def k137_55 : List mI := (.lload 3, []) :: (.lreturn, []) :: []
def k137_5 : List mI := (.iload 5, []) :: (.iconst 64, []) :: (.if_icmp .ge 0, [55]) :: (.iload 1, []) :: (.invokestatic 0, [131, 1]) :: (.ifCond .eq 0, [55]) :: (.iload 2, []) :: (.invokestatic 0, [132, 1]) :: (.ifCond .eq 0, [55]) :: (.lload 3, []) :: (.aload 0, []) :: (.getfield 0, [12, 1]) :: (.iconst 64, []) :: (.iload 1, []) :: (.imul, []) :: (.iload 5, []) :: (.iadd, []) :: (.iaload, []) :: (.iload 2, []) :: (.ishr, []) :: (.iconst 1, []) :: (.iand, []) :: (.i2l, []) :: (.iload 5, []) :: (.lshl, []) :: (.lor, []) :: (.lstore 3, []) :: (.iinc 5 1, []) :: (.goto 0, [5]) :: []
def k137_0 : List mI := (.jsr_w 0, []) :: (.lstore 3, []) :: (.iconst 0, []) :: (.istore 5, []) :: k137_5
def k138_101 : List mI := (.aload 0, []) :: (.iload 1, []) :: (.iload 2, []) :: (.invokevirtual 0, [137, 2, 12]) :: (.invokestatic 0, [134, 1]) :: (.ireturn, []) :: []
def k138_95 : List mI := (.iinc 7 1, []) :: (.goto 0, [31]) :: []
def k138_93 : List mI := (.ior, []) :: (.iastore, []) :: k138_95
def k138_92 : List mI := (.iconst 0, []) :: k138_93
def k138_31 : List mI := (.iload 7, []) :: (.iconst 64, []) :: (.if_icmp .ge 0, [101]) :: (.lload 5, []) :: (.iload 7, []) :: (.invokestatic 0, [133, 2]) :: (.ifCond .eq 0, [95]) :: (.aload 0, []) :: (.getfield 0, [12, 1]) :: (.iconst 64, []) :: (.iload 1, []) :: (.imul, []) :: (.iload 7, []) :: (.iadd, []) :: (.aload 0, []) :: (.getfield 0, [12, 1]) :: (.iconst 64, []) :: (.iload 1, []) :: (.imul, []) :: (.iload 7, []) :: (.iadd, []) :: (.iaload, []) :: (.iconst 1, []) :: (.iload 2, []) :: (.ishl, []) :: (.iconst (-1), []) :: (.ixor, []) :: (.iand, []) :: (.lload 3, []) :: (.iload 7, []) :: (.invokestatic 0, [133, 2]) :: (.ifCond .eq 0, [92]) :: (.iconst 1, []) :: (.iload 2, []) :: (.ishl, []) :: (.goto 0, [93]) :: []
def k138_22 : List mI := (.aload 0, []) :: (.invokevirtual 0, [148, 0, 12]) :: (.lstore 5, []) :: (.iconst 0, []) :: (.istore 7, []) :: k138_31
def k138_14 : List mI := (.aload 0, []) :: (.iconst (-1001), []) :: (.invokevirtual 0, [129, 1, 12]) :: (.ireturn, []) :: []
def k138_0 : List mI := (.iload 1, []) :: (.invokestatic 0, [131, 1]) :: (.ifCond .eq 0, [14]) :: (.iload 2, []) :: (.invokestatic 0, [132, 1]) :: (.ifCond .ne 0, [22]) :: k138_14
def k139_0 : List mI := (.aload 0, []) :: (.dup, []) :: (.getfield 0, [12, 11]) :: (.iload 1, []) :: (.iadd, []) :: (.putfield 0, [12, 11, 0]) :: (.iload 1, []) :: (.ireturn, []) :: []
def k140_85 : List mI := (.aload 0, []) :: (.iconst 8, []) :: (.invokevirtual 0, [139, 1, 12]) :: (.ireturn, []) :: []
def k140_78 : List mI := (.iastore, []) :: (.iinc 5 1, []) :: (.goto 0, [35]) :: []
def k140_66 : List mI := (.aload 0, []) :: (.getfield 0, [12, 1]) :: (.iconst 64, []) :: (.iload 1, []) :: (.imul, []) :: (.iload 5, []) :: (.iadd, []) :: (.iaload, []) :: k140_78
def k140_35 : List mI := (.iload 5, []) :: (.iconst 64, []) :: (.if_icmp .ge 0, [85]) :: (.aload 0, []) :: (.getfield 0, [12, 1]) :: (.iconst 64, []) :: (.iload 1, []) :: (.imul, []) :: (.iload 5, []) :: (.iadd, []) :: (.lload 3, []) :: (.iload 5, []) :: (.invokestatic 0, [133, 2]) :: (.ifCond .eq 0, [66]) :: (.iload 2, []) :: (.goto 0, [78]) :: []
def k140_27 : List mI := (.aload 0, []) :: (.invokevirtual 0, [148, 0, 12]) :: (.lstore 3, []) :: (.iconst 0, []) :: (.istore 5, []) :: k140_35
def k140_19 : List mI := (.aload 0, []) :: (.iconst (-1001), []) :: (.invokevirtual 0, [129, 1, 12]) :: (.ireturn, []) :: []
def k140_0 : List mI := (.iload 1, []) :: (.invokestatic 0, [131, 1]) :: (.ifCond .eq 0, [19]) :: (.iload 2, []) :: (.i2l, []) :: (.jsr_w 0, []) :: (.jsr_w 255, []) :: (.invokestatic 0, [128, 3]) :: (.ifCond .ne 0, [27]) :: k140_19
def k141_85 : List mI := (.ireturn, []) :: []
def k141_84 : List mI := (.iconst 0, []) :: k141_85
def k141_75 : List mI := (.iload 1, []) :: (.iload 2, []) :: (.if_icmp .ne 0, [84]) :: (.iconst 1, []) :: (.goto 0, [85]) :: []
def k141_74 : List mI := (.ireturn, []) :: []
def k141_73 : List mI := (.iconst 0, []) :: k141_74
def k141_64 : List mI := (.iload 1, []) :: (.iload 2, []) :: (.if_icmp .ge 0, [73]) :: (.iconst 1, []) :: (.goto 0, [74]) :: []
def k141_60 : List mI := (.iload 1, []) :: (.iload 2, []) :: (.iand, []) :: (.ireturn, []) :: []
def k141_52 : List mI := (.iload 1, []) :: (.iload 2, []) :: (.imul, []) :: (.iconst 255, []) :: (.iand, []) :: (.ireturn, []) :: []
def k141_44 : List mI := (.iload 1, []) :: (.iload 2, []) :: (.isub, []) :: (.iconst 255, []) :: (.iand, []) :: (.ireturn, []) :: []
def k141_36 : List mI := (.iload 1, []) :: (.iload 2, []) :: (.iadd, []) :: (.iconst 255, []) :: (.iand, []) :: (.ireturn, []) :: []
def k141_0 : List mI := (.iload 0, []) :: (.tableswitch 0 4 8 #[], [75, 36, 44, 52, 60, 64]) :: []
def k142_40 : List mI := (.ireturn, []) :: []
def k142_38 : List mI := (.iconst 9, []) :: k142_40
def k142_27 : List mI := (.iload 0, []) :: (.iconst 7, []) :: (.if_icmp .ne 0, [38]) :: (.iconst 8, []) :: (.goto 0, [40]) :: []
def k142_15 : List mI := (.iload 0, []) :: (.iconst 6, []) :: (.if_icmp .ne 0, [27]) :: (.iconst 136, []) :: (.goto 0, [40]) :: []
def k142_10 : List mI := (.iconst 16, []) :: (.goto 0, [40]) :: []
def k142_0 : List mI := (.iload 0, []) :: (.iconst 4, []) :: (.if_icmp .eq 0, [10]) :: (.iload 0, []) :: (.iconst 5, []) :: (.if_icmp .ne 0, [15]) :: k142_10
def k143_204 : List mI := (.invokevirtual 0, [139, 1, 12]) :: (.ireturn, []) :: []
def k143_202 : List mI := (.iconst 17, []) :: k143_204
def k143_186 : List mI := (.aload 0, []) :: (.iload 1, []) :: (.iconst 6, []) :: (.if_icmp .ge 0, [202]) :: (.iconst 4, []) :: (.iload 1, []) :: (.iadd, []) :: (.invokestatic 0, [142, 1]) :: (.goto 0, [204]) :: []
def k143_179 : List mI := (.iastore, []) :: (.iinc 7 1, []) :: (.goto 0, [51]) :: []
def k143_167 : List mI := (.aload 0, []) :: (.getfield 0, [12, 1]) :: (.iconst 64, []) :: (.iload 2, []) :: (.imul, []) :: (.iload 7, []) :: (.iadd, []) :: (.iaload, []) :: k143_179
def k143_139 : List mI := (.istore 10, []) :: (.aload 0, []) :: (.getfield 0, [12, 1]) :: (.iconst 64, []) :: (.iload 2, []) :: (.imul, []) :: (.iload 7, []) :: (.iadd, []) :: (.lload 5, []) :: (.iload 7, []) :: (.invokestatic 0, [133, 2]) :: (.ifCond .eq 0, [167]) :: (.iload 10, []) :: (.goto 0, [179]) :: []
def k143_137 : List mI := (.iload 9, []) :: k143_139
def k143_129 : List mI := (.if_icmp .ne 0, [137]) :: (.iload 8, []) :: (.goto 0, [139]) :: []
def k143_128 : List mI := (.iconst 0, []) :: k143_129
def k143_118 : List mI := (.iload 1, []) :: (.iconst 6, []) :: (.if_icmp .ne 0, [128]) :: (.iconst 1, []) :: (.goto 0, [129]) :: []
def k143_117 : List mI := (.iconst 0, []) :: k143_118
def k143_106 : List mI := (.iload 8, []) :: (.iload 9, []) :: (.if_icmp .ge 0, [117]) :: (.iconst 1, []) :: (.goto 0, [118]) :: []
def k143_51 : List mI := (.iload 7, []) :: (.iconst 64, []) :: (.if_icmp .ge 0, [186]) :: (.aload 0, []) :: (.getfield 0, [12, 1]) :: (.iconst 64, []) :: (.iload 3, []) :: (.imul, []) :: (.iload 7, []) :: (.iadd, []) :: (.iaload, []) :: (.istore 8, []) :: (.aload 0, []) :: (.getfield 0, [12, 1]) :: (.iconst 64, []) :: (.iload 4, []) :: (.imul, []) :: (.iload 7, []) :: (.iadd, []) :: (.iaload, []) :: (.istore 9, []) :: (.iload 1, []) :: (.iconst 6, []) :: (.if_icmp .ge 0, [106]) :: (.iconst 4, []) :: (.iload 1, []) :: (.iadd, []) :: (.iload 8, []) :: (.iload 9, []) :: (.invokestatic 0, [141, 3]) :: (.goto 0, [139]) :: []
def k143_42 : List mI := (.aload 0, []) :: (.invokevirtual 0, [148, 0, 12]) :: (.lstore 5, []) :: (.iconst 0, []) :: (.istore 7, []) :: k143_51
def k143_34 : List mI := (.aload 0, []) :: (.iconst (-1001), []) :: (.invokevirtual 0, [129, 1, 12]) :: (.ireturn, []) :: []
def k143_0 : List mI := (.iload 1, []) :: (.i2l, []) :: (.jsr_w 0, []) :: (.jsr_w 7, []) :: (.invokestatic 0, [128, 3]) :: (.ifCond .eq 0, [34]) :: (.iload 2, []) :: (.invokestatic 0, [131, 1]) :: (.ifCond .eq 0, [34]) :: (.iload 3, []) :: (.invokestatic 0, [131, 1]) :: (.ifCond .eq 0, [34]) :: (.iload 4, []) :: (.invokestatic 0, [131, 1]) :: (.ifCond .ne 0, [42]) :: k143_34
def k144_113 : List mI := (.ireturn, []) :: []
def k144_94 : List mI := (.iconst 8, []) :: (.iload 3, []) :: (.iconst 8, []) :: (.iadd, []) :: (.iconst 8, []) :: (.irem, []) :: (.imul, []) :: (.iload 4, []) :: (.iconst 8, []) :: (.iadd, []) :: (.iconst 8, []) :: (.irem, []) :: (.iadd, []) :: k144_113
def k144_83 : List mI := (.aload 0, []) :: (.getfield 0, [12, 9]) :: (.ifCond .ne 0, [94]) :: (.iconst (-1), []) :: (.goto 0, [113]) :: []
def k144_47 : List mI := (.iadd, []) :: (.istore 4, []) :: (.iload 3, []) :: (.i2l, []) :: (.jsr_w 0, []) :: (.jsr_w 7, []) :: (.invokestatic 0, [128, 3]) :: (.ifCond .eq 0, [83]) :: (.iload 4, []) :: (.i2l, []) :: (.jsr_w 0, []) :: (.jsr_w 7, []) :: (.invokestatic 0, [128, 3]) :: (.ifCond .eq 0, [83]) :: (.iconst 8, []) :: (.iload 3, []) :: (.imul, []) :: (.iload 4, []) :: (.iadd, []) :: (.ireturn, []) :: []
def k144_46 : List mI := (.iconst 0, []) :: k144_47
def k144_37 : List mI := (.iload 2, []) :: (.iconst 3, []) :: (.if_icmp .ne 0, [46]) :: (.iconst (-1), []) :: (.goto 0, [47]) :: []
def k144_22 : List mI := (.iadd, []) :: (.istore 3, []) :: (.iload 1, []) :: (.iconst 8, []) :: (.irem, []) :: (.iload 2, []) :: (.iconst 1, []) :: (.if_icmp .ne 0, [37]) :: (.iconst 1, []) :: (.goto 0, [47]) :: []
def k144_21 : List mI := (.iconst 0, []) :: k144_22
def k144_12 : List mI := (.iload 2, []) :: (.iconst 2, []) :: (.if_icmp .ne 0, [21]) :: (.iconst 1, []) :: (.goto 0, [22]) :: []
def k144_0 : List mI := (.iload 1, []) :: (.iconst 8, []) :: (.idiv, []) :: (.iload 2, []) :: (.ifCond .ne 0, [12]) :: (.iconst (-1), []) :: (.goto 0, [22]) :: []
def k145_113 : List mI := (.return_, []) :: []
def k145_106 : List mI := (.iastore, []) :: (.iinc 6 1, []) :: (.goto 0, [56]) :: []
def k145_94 : List mI := (.aload 0, []) :: (.getfield 0, [12, 1]) :: (.iconst 64, []) :: (.iload 1, []) :: (.imul, []) :: (.iload 6, []) :: (.iadd, []) :: (.iaload, []) :: k145_106
def k145_56 : List mI := (.iload 6, []) :: (.iconst 64, []) :: (.if_icmp .ge 0, [113]) :: (.aload 0, []) :: (.getfield 0, [12, 1]) :: (.iconst 64, []) :: (.iload 1, []) :: (.imul, []) :: (.iload 6, []) :: (.iadd, []) :: (.lload 4, []) :: (.iload 6, []) :: (.invokestatic 0, [133, 2]) :: (.ifCond .eq 0, [94]) :: (.aload 0, []) :: (.getfield 0, [12, 26]) :: (.iload 6, []) :: (.iaload, []) :: (.goto 0, [106]) :: []
def k145_53 : List mI := (.iconst 0, []) :: (.istore 6, []) :: k145_56
def k145_46 : List mI := (.iastore, []) :: (.iinc 6 1, []) :: (.goto 0, [3]) :: []
def k145_34 : List mI := (.aload 0, []) :: (.getfield 0, [12, 1]) :: (.iconst 64, []) :: (.iload 2, []) :: (.imul, []) :: (.iload 7, []) :: (.iadd, []) :: (.iaload, []) :: k145_46
def k145_3 : List mI := (.iload 6, []) :: (.iconst 64, []) :: (.if_icmp .ge 0, [53]) :: (.aload 0, []) :: (.iload 6, []) :: (.iload 3, []) :: (.invokevirtual 0, [144, 2, 12]) :: (.istore 7, []) :: (.aload 0, []) :: (.getfield 0, [12, 26]) :: (.iload 6, []) :: (.iload 7, []) :: (.ifCond .ge 0, [34]) :: (.iconst 0, []) :: (.goto 0, [46]) :: []
def k145_0 : List mI := (.iconst 0, []) :: (.istore 6, []) :: k145_3
def k146_34 : List mI := (.aload 0, []) :: (.iload 1, []) :: (.iload 2, []) :: (.iload 3, []) :: (.aload 0, []) :: (.invokevirtual 0, [148, 0, 12]) :: (.invokevirtual 0, [145, 4, 12]) :: (.aload 0, []) :: (.iconst 8, []) :: (.invokevirtual 0, [139, 1, 12]) :: (.ireturn, []) :: []
def k146_26 : List mI := (.aload 0, []) :: (.iconst (-1001), []) :: (.invokevirtual 0, [129, 1, 12]) :: (.ireturn, []) :: []
def k146_0 : List mI := (.iload 1, []) :: (.invokestatic 0, [131, 1]) :: (.ifCond .eq 0, [26]) :: (.iload 2, []) :: (.invokestatic 0, [131, 1]) :: (.ifCond .eq 0, [26]) :: (.iload 3, []) :: (.i2l, []) :: (.jsr_w 0, []) :: (.jsr_w 3, []) :: (.invokestatic 0, [128, 3]) :: (.ifCond .ne 0, [34]) :: k146_26
def k147_18 : List mI := (.aload 0, []) :: (.getfield 0, [12, 9]) :: (.istore 2, []) :: (.aload 0, []) :: (.iload 1, []) :: (.putfield 0, [12, 9, 0]) :: (.iload 2, []) :: (.ireturn, []) :: []
def k147_0 : List mI := (.iload 1, []) :: (.i2l, []) :: (.jsr_w 0, []) :: (.jsr_w 1, []) :: (.invokestatic 0, [128, 3]) :: (.ifCond .ne 0, [18]) :: (.aload 0, []) :: (.iconst (-1001), []) :: (.invokevirtual 0, [129, 1, 12]) :: (.ireturn, []) :: []
def k148_29 : List mI := (.lload 1, []) :: (.lreturn, []) :: []
def k148_6 : List mI := (.iload 3, []) :: (.aload 0, []) :: (.getfield 0, [12, 7]) :: (.if_icmp .ge 0, [29]) :: (.lload 1, []) :: (.aload 0, []) :: (.getfield 0, [12, 5]) :: (.iload 3, []) :: (.laload, []) :: (.land, []) :: (.lstore 1, []) :: (.iinc 3 1, []) :: (.goto 0, [6]) :: []
def k148_0 : List mI := (.jsr_w (-1), []) :: (.lstore 1, []) :: (.iconst 0, []) :: (.istore 3, []) :: k148_6
def k149_39 : List mI := (.aload 0, []) :: (.getfield 0, [12, 5]) :: (.aload 0, []) :: (.getfield 0, [12, 7]) :: (.aload 0, []) :: (.iload 1, []) :: (.iload 2, []) :: (.invokevirtual 0, [137, 2, 12]) :: (.lastore, []) :: (.aload 0, []) :: (.dup, []) :: (.getfield 0, [12, 7]) :: (.iconst 1, []) :: (.iadd, []) :: (.putfield 0, [12, 7, 0]) :: (.aload 0, []) :: (.invokevirtual 0, [148, 0, 12]) :: (.invokestatic 0, [134, 1]) :: (.ireturn, []) :: []
def k149_22 : List mI := (.aload 0, []) :: (.getfield 0, [12, 7]) :: (.iconst 8, []) :: (.if_icmp .ne 0, [39]) :: (.aload 0, []) :: (.iconst (-1002), []) :: (.invokevirtual 0, [129, 1, 12]) :: (.ireturn, []) :: []
def k149_14 : List mI := (.aload 0, []) :: (.iconst (-1001), []) :: (.invokevirtual 0, [129, 1, 12]) :: (.ireturn, []) :: []
def k149_0 : List mI := (.iload 1, []) :: (.invokestatic 0, [131, 1]) :: (.ifCond .eq 0, [14]) :: (.iload 2, []) :: (.invokestatic 0, [132, 1]) :: (.ifCond .ne 0, [22]) :: k149_14
def k150_15 : List mI := (.aload 0, []) :: (.getfield 0, [12, 5]) :: (.aload 0, []) :: (.getfield 0, [12, 7]) :: (.iconst 1, []) :: (.isub, []) :: (.aload 0, []) :: (.getfield 0, [12, 5]) :: (.aload 0, []) :: (.getfield 0, [12, 7]) :: (.iconst 1, []) :: (.isub, []) :: (.laload, []) :: (.jsr_w (-1), []) :: (.lxor, []) :: (.lastore, []) :: (.aload 0, []) :: (.invokevirtual 0, [148, 0, 12]) :: (.invokestatic 0, [134, 1]) :: (.ireturn, []) :: []
def k150_0 : List mI := (.aload 0, []) :: (.getfield 0, [12, 7]) :: (.ifCond .ne 0, [15]) :: (.aload 0, []) :: (.iconst (-1003), []) :: (.invokevirtual 0, [129, 1, 12]) :: (.ireturn, []) :: []
def k151_15 : List mI := (.aload 0, []) :: (.dup, []) :: (.getfield 0, [12, 7]) :: (.iconst 1, []) :: (.isub, []) :: (.putfield 0, [12, 7, 0]) :: (.aload 0, []) :: (.invokevirtual 0, [148, 0, 12]) :: (.invokestatic 0, [134, 1]) :: (.ireturn, []) :: []
def k151_0 : List mI := (.aload 0, []) :: (.getfield 0, [12, 7]) :: (.ifCond .ne 0, [15]) :: (.aload 0, []) :: (.iconst (-1003), []) :: (.invokevirtual 0, [129, 1, 12]) :: (.ireturn, []) :: []
def k152_242 : List mI := (.iload 10, []) :: (.ireturn, []) :: []
def k152_239 : List mI := (.iload 11, []) :: (.ireturn, []) :: []
def k152_236 : List mI := (.iload 7, []) :: (.ireturn, []) :: []
def k152_233 : List mI := (.iload 6, []) :: (.ireturn, []) :: []
def k152_230 : List mI := (.iload 9, []) :: (.ireturn, []) :: []
def k152_227 : List mI := (.iload 8, []) :: (.ireturn, []) :: []
def k152_224 : List mI := (.iload 5, []) :: (.ireturn, []) :: []
def k152_186 : List mI := (.iload 1, []) :: (.tableswitch 0 0 5 #[], [242, 224, 227, 230, 233, 236, 239]) :: []
def k152_180 : List mI := (.iinc 12 1, []) :: (.goto 0, [58]) :: []
def k152_177 : List mI := (.iadd, []) :: (.istore 11, []) :: k152_180
def k152_176 : List mI := (.iconst 0, []) :: k152_177
def k152_163 : List mI := (.istore 9, []) :: (.iload 11, []) :: (.iload 13, []) :: (.ifCond .eq 0, [176]) :: (.iconst 1, []) :: (.goto 0, [177]) :: []
def k152_161 : List mI := (.iload 9, []) :: k152_163
def k152_156 : List mI := (.iload 13, []) :: (.goto 0, [163]) :: []
def k152_142 : List mI := (.istore 8, []) :: (.iload 9, []) :: (.ifCond .lt 0, [156]) :: (.iload 13, []) :: (.iload 9, []) :: (.if_icmp .ge 0, [161]) :: k152_156
def k152_140 : List mI := (.iload 8, []) :: k152_142
def k152_126 : List mI := (.istore 10, []) :: (.iload 13, []) :: (.iload 8, []) :: (.if_icmp .le 0, [140]) :: (.iload 13, []) :: (.goto 0, [142]) :: []
def k152_124 : List mI := (.iload 10, []) :: k152_126
def k152_91 : List mI := (.iload 5, []) :: (.iload 13, []) :: (.iadd, []) :: (.istore 5, []) :: (.iload 6, []) :: (.iload 13, []) :: (.ior, []) :: (.istore 6, []) :: (.iload 7, []) :: (.iload 13, []) :: (.iand, []) :: (.istore 7, []) :: (.iload 13, []) :: (.iload 8, []) :: (.if_icmp .le 0, [124]) :: (.iload 12, []) :: (.goto 0, [126]) :: []
def k152_58 : List mI := (.iload 12, []) :: (.iconst 64, []) :: (.if_icmp .ge 0, [186]) :: (.aload 0, []) :: (.getfield 0, [12, 1]) :: (.iconst 64, []) :: (.iload 2, []) :: (.imul, []) :: (.iload 12, []) :: (.iadd, []) :: (.iaload, []) :: (.istore 13, []) :: (.lload 3, []) :: (.iload 12, []) :: (.invokestatic 0, [133, 2]) :: (.ifCond .ne 0, [91]) :: (.goto 0, [180]) :: []
def k152_27 : List mI := (.aload 0, []) :: (.invokevirtual 0, [148, 0, 12]) :: (.lstore 3, []) :: (.iconst 0, []) :: (.istore 5, []) :: (.iconst 0, []) :: (.istore 6, []) :: (.iconst 255, []) :: (.istore 7, []) :: (.iconst (-1), []) :: (.istore 8, []) :: (.iconst (-1), []) :: (.istore 9, []) :: (.iconst (-1), []) :: (.istore 10, []) :: (.iconst 0, []) :: (.istore 11, []) :: (.iconst 0, []) :: (.istore 12, []) :: k152_58
def k152_19 : List mI := (.aload 0, []) :: (.iconst (-1001), []) :: (.invokevirtual 0, [129, 1, 12]) :: (.ireturn, []) :: []
def k152_0 : List mI := (.iload 1, []) :: (.i2l, []) :: (.jsr_w 0, []) :: (.jsr_w 6, []) :: (.invokestatic 0, [128, 3]) :: (.ifCond .eq 0, [19]) :: (.iload 2, []) :: (.invokestatic 0, [131, 1]) :: (.ifCond .ne 0, [27]) :: k152_19
def k153_104 : List mI := (.iload 6, []) :: (.ireturn, []) :: []
def k153_95 : List mI := (.iadd, []) :: (.istore 6, []) :: (.iinc 7 1, []) :: (.goto 0, [57]) :: []
def k153_94 : List mI := (.iconst 0, []) :: k153_95
def k153_57 : List mI := (.iload 7, []) :: (.iload 3, []) :: (.iconst 1, []) :: (.iadd, []) :: (.iload 2, []) :: (.ishl, []) :: (.if_icmp .ge 0, [104]) :: (.iload 6, []) :: (.lload 4, []) :: (.iload 7, []) :: (.invokestatic 0, [133, 2]) :: (.ifCond .eq 0, [94]) :: (.aload 0, []) :: (.getfield 0, [12, 1]) :: (.iconst 64, []) :: (.iload 1, []) :: (.imul, []) :: (.iload 7, []) :: (.iadd, []) :: (.iaload, []) :: (.goto 0, [95]) :: []
def k153_43 : List mI := (.aload 0, []) :: (.invokevirtual 0, [148, 0, 12]) :: (.lstore 4, []) :: (.iconst 0, []) :: (.istore 6, []) :: (.iload 3, []) :: (.iload 2, []) :: (.ishl, []) :: (.istore 7, []) :: k153_57
def k153_35 : List mI := (.aload 0, []) :: (.iconst (-1001), []) :: (.invokevirtual 0, [129, 1, 12]) :: (.ireturn, []) :: []
def k153_0 : List mI := (.iload 1, []) :: (.invokestatic 0, [131, 1]) :: (.ifCond .eq 0, [35]) :: (.iload 2, []) :: (.i2l, []) :: (.jsr_w 0, []) :: (.jsr_w 6, []) :: (.invokestatic 0, [128, 3]) :: (.ifCond .eq 0, [35]) :: (.iload 3, []) :: (.i2l, []) :: (.jsr_w 0, []) :: (.iconst 64, []) :: (.iload 2, []) :: (.ishr, []) :: (.iconst 1, []) :: (.isub, []) :: (.i2l, []) :: (.invokestatic 0, [128, 3]) :: (.ifCond .ne 0, [43]) :: k153_35
def k154_91 : List mI := (.iload 5, []) :: (.ireturn, []) :: []
def k154_82 : List mI := (.iadd, []) :: (.istore 5, []) :: (.iinc 6 1, []) :: (.goto 0, [33]) :: []
def k154_81 : List mI := (.iconst 0, []) :: k154_82
def k154_33 : List mI := (.iload 6, []) :: (.iconst 64, []) :: (.if_icmp .ge 0, [91]) :: (.iload 5, []) :: (.lload 3, []) :: (.iload 6, []) :: (.invokestatic 0, [133, 2]) :: (.ifCond .eq 0, [81]) :: (.aload 0, []) :: (.getfield 0, [12, 1]) :: (.iconst 64, []) :: (.iload 2, []) :: (.imul, []) :: (.iload 6, []) :: (.iadd, []) :: (.iaload, []) :: (.aload 0, []) :: (.getfield 0, [12, 1]) :: (.iconst 64, []) :: (.iload 2, []) :: (.imul, []) :: (.iload 1, []) :: (.iadd, []) :: (.iaload, []) :: (.if_icmp .ge 0, [81]) :: (.iconst 1, []) :: (.goto 0, [82]) :: []
def k154_22 : List mI := (.aload 0, []) :: (.invokevirtual 0, [148, 0, 12]) :: (.lstore 3, []) :: (.iconst 0, []) :: (.istore 5, []) :: (.iconst 0, []) :: (.istore 6, []) :: k154_33
def k154_14 : List mI := (.aload 0, []) :: (.iconst (-1001), []) :: (.invokevirtual 0, [129, 1, 12]) :: (.ireturn, []) :: []
def k154_0 : List mI := (.iload 1, []) :: (.invokestatic 0, [130, 1]) :: (.ifCond .eq 0, [14]) :: (.iload 2, []) :: (.invokestatic 0, [131, 1]) :: (.ifCond .ne 0, [22]) :: k154_14
def k155_100 : List mI := (.lload 2, []) :: (.lreturn, []) :: []
def k155_92 : List mI := (.lor, []) :: (.lstore 2, []) :: (.iinc 4 1, []) :: (.goto 0, [5]) :: []
def k155_91 : List mI := (.jsr_w 0, []) :: k155_92
def k155_78 : List mI := (.lload 2, []) :: (.iload 5, []) :: (.ifCond .eq 0, [91]) :: (.jsr_w 1, []) :: (.iload 4, []) :: (.lshl, []) :: (.goto 0, [92]) :: []
def k155_70 : List mI := (.istore 5, []) :: (.iinc 6 1, []) :: (.goto 0, [25]) :: []
def k155_69 : List mI := (.iconst 0, []) :: k155_70
def k155_25 : List mI := (.iload 6, []) :: (.iconst 8, []) :: (.if_icmp .ge 0, [78]) :: (.iload 5, []) :: (.ifCond .eq 0, [69]) :: (.aload 0, []) :: (.getfield 0, [12, 1]) :: (.iconst 64, []) :: (.iload 6, []) :: (.imul, []) :: (.iload 4, []) :: (.iadd, []) :: (.iaload, []) :: (.aload 0, []) :: (.getfield 0, [12, 1]) :: (.iconst 64, []) :: (.iload 6, []) :: (.imul, []) :: (.iload 1, []) :: (.iadd, []) :: (.iaload, []) :: (.if_icmp .ne 0, [69]) :: (.iconst 1, []) :: (.goto 0, [70]) :: []
def k155_5 : List mI := (.iload 4, []) :: (.iconst 64, []) :: (.if_icmp .ge 0, [100]) :: (.iload 1, []) :: (.invokestatic 0, [130, 1]) :: (.ifCond .eq 0, [100]) :: (.iconst 1, []) :: (.istore 5, []) :: (.iconst 0, []) :: (.istore 6, []) :: k155_25
def k155_0 : List mI := (.jsr_w 0, []) :: (.lstore 2, []) :: (.iconst 0, []) :: (.istore 4, []) :: k155_5
def k156_118 : List mI := (.lload 3, []) :: (.lreturn, []) :: []
def k156_115 : List mI := (.goto 0, [7]) :: []
def k156_109 : List mI := (.iinc 6 1, []) :: (.goto 0, [18]) :: []
def k156_103 : List mI := (.iinc 7 1, []) :: (.goto 0, [28]) :: []
def k156_28 : List mI := (.iload 7, []) :: (.iconst 4, []) :: (.if_icmp .ge 0, [109]) :: (.lload 3, []) :: (.iload 6, []) :: (.invokestatic 0, [133, 2]) :: (.ifCond .eq 0, [109]) :: (.aload 0, []) :: (.iload 6, []) :: (.iload 7, []) :: (.invokevirtual 0, [144, 2, 12]) :: (.istore 8, []) :: (.iload 8, []) :: (.ifCond .lt 0, [103]) :: (.lload 3, []) :: (.iload 8, []) :: (.invokestatic 0, [133, 2]) :: (.ifCond .ne 0, [103]) :: (.aload 0, []) :: (.getfield 0, [12, 1]) :: (.iconst 64, []) :: (.iload 2, []) :: (.imul, []) :: (.iload 8, []) :: (.iadd, []) :: (.iaload, []) :: (.aload 0, []) :: (.getfield 0, [12, 1]) :: (.iconst 64, []) :: (.iload 2, []) :: (.imul, []) :: (.iload 1, []) :: (.iadd, []) :: (.iaload, []) :: (.if_icmp .ne 0, [103]) :: (.lload 3, []) :: (.jsr_w 1, []) :: (.iload 8, []) :: (.lshl, []) :: (.lor, []) :: (.lstore 3, []) :: (.iconst 1, []) :: (.istore 5, []) :: k156_103
def k156_18 : List mI := (.iload 6, []) :: (.iconst 64, []) :: (.if_icmp .ge 0, [115]) :: (.iconst 0, []) :: (.istore 7, []) :: k156_28
def k156_7 : List mI := (.iload 5, []) :: (.ifCond .eq 0, [118]) :: (.iconst 0, []) :: (.istore 5, []) :: (.iconst 0, []) :: (.istore 6, []) :: k156_18
def k156_0 : List mI := (.jsr_w 1, []) :: (.iload 1, []) :: (.lshl, []) :: (.lstore 3, []) :: (.iconst 1, []) :: (.istore 5, []) :: k156_7
def k157_24 : List mI := (.lreturn, []) :: []
def k157_23 : List mI := (.jsr_w 0, []) :: k157_24
def k157_0 : List mI := (.iload 1, []) :: (.invokestatic 0, [130, 1]) :: (.ifCond .eq 0, [23]) :: (.iload 2, []) :: (.invokestatic 0, [131, 1]) :: (.ifCond .eq 0, [23]) :: (.aload 0, []) :: (.iload 1, []) :: (.iload 2, []) :: (.invokevirtual 0, [156, 2, 12]) :: (.goto 0, [24]) :: []
def k158_58 : List mI := (.iload 4, []) :: (.ireturn, []) :: []
def k158_52 : List mI := (.iinc 5 1, []) :: (.goto 0, [23]) :: []
def k158_23 : List mI := (.iload 5, []) :: (.iconst 64, []) :: (.if_icmp .ge 0, [58]) :: (.lload 2, []) :: (.iload 5, []) :: (.invokestatic 0, [133, 2]) :: (.ifCond .ne 0, [52]) :: (.lload 2, []) :: (.aload 0, []) :: (.iload 5, []) :: (.iload 1, []) :: (.invokevirtual 0, [156, 2, 12]) :: (.lor, []) :: (.lstore 2, []) :: (.iinc 4 1, []) :: k158_52
def k158_15 : List mI := (.jsr_w 0, []) :: (.lstore 2, []) :: (.iconst 0, []) :: (.istore 4, []) :: (.iconst 0, []) :: (.istore 5, []) :: k158_23
def k158_0 : List mI := (.iload 1, []) :: (.invokestatic 0, [131, 1]) :: (.ifCond .ne 0, [15]) :: (.aload 0, []) :: (.iconst (-1001), []) :: (.invokevirtual 0, [129, 1, 12]) :: (.ireturn, []) :: []
def k159_184 : List mI := (.iconst (-1), []) :: (.ireturn, []) :: []
def k159_174 : List mI := (.lload 7, []) :: (.lstore 4, []) :: (.iinc 6 1, []) :: (.goto 0, [67]) :: []
def k159_168 : List mI := (.iinc 9 1, []) :: (.goto 0, [93]) :: []
def k159_159 : List mI := (.lor, []) :: (.lstore 7, []) :: (.iinc 10 1, []) :: (.goto 0, [103]) :: []
def k159_158 : List mI := (.jsr_w 0, []) :: k159_159
def k159_103 : List mI := (.iload 10, []) :: (.iconst 4, []) :: (.if_icmp .ge 0, [168]) :: (.lload 4, []) :: (.iload 9, []) :: (.invokestatic 0, [133, 2]) :: (.ifCond .eq 0, [168]) :: (.aload 0, []) :: (.iload 9, []) :: (.iload 10, []) :: (.invokevirtual 0, [144, 2, 12]) :: (.istore 11, []) :: (.lload 7, []) :: (.iload 11, []) :: (.ifCond .lt 0, [158]) :: (.aload 0, []) :: (.getfield 0, [12, 1]) :: (.iconst 64, []) :: (.iload 3, []) :: (.imul, []) :: (.iload 11, []) :: (.iadd, []) :: (.iaload, []) :: (.ifCond .eq 0, [158]) :: (.jsr_w 1, []) :: (.iload 11, []) :: (.lshl, []) :: (.goto 0, [159]) :: []
def k159_93 : List mI := (.iload 9, []) :: (.iconst 64, []) :: (.if_icmp .ge 0, [174]) :: (.iconst 0, []) :: (.istore 10, []) :: k159_103
def k159_86 : List mI := (.lload 4, []) :: (.lstore 7, []) :: (.iconst 0, []) :: (.istore 9, []) :: k159_93
def k159_67 : List mI := (.iload 6, []) :: (.iconst 64, []) :: (.if_icmp .gt 0, [184]) :: (.lload 4, []) :: (.iload 2, []) :: (.invokestatic 0, [133, 2]) :: (.ifCond .eq 0, [86]) :: (.iload 6, []) :: (.ireturn, []) :: []
def k159_59 : List mI := (.jsr_w 1, []) :: (.iload 1, []) :: (.lshl, []) :: (.lstore 4, []) :: (.iconst 0, []) :: (.istore 6, []) :: k159_67
def k159_57 : List mI := (.iconst (-1), []) :: (.ireturn, []) :: []
def k159_29 : List mI := (.aload 0, []) :: (.getfield 0, [12, 1]) :: (.iconst 64, []) :: (.iload 3, []) :: (.imul, []) :: (.iload 1, []) :: (.iadd, []) :: (.iaload, []) :: (.ifCond .eq 0, [57]) :: (.aload 0, []) :: (.getfield 0, [12, 1]) :: (.iconst 64, []) :: (.iload 3, []) :: (.imul, []) :: (.iload 2, []) :: (.iadd, []) :: (.iaload, []) :: (.ifCond .ne 0, [59]) :: k159_57
def k159_21 : List mI := (.aload 0, []) :: (.iconst (-1001), []) :: (.invokevirtual 0, [129, 1, 12]) :: (.ireturn, []) :: []
def k159_0 : List mI := (.iload 1, []) :: (.invokestatic 0, [130, 1]) :: (.ifCond .eq 0, [21]) :: (.iload 2, []) :: (.invokestatic 0, [130, 1]) :: (.ifCond .eq 0, [21]) :: (.iload 3, []) :: (.invokestatic 0, [131, 1]) :: (.ifCond .ne 0, [29]) :: k159_21
def k160_86 : List mI := (.aload 0, []) :: (.getfield 0, [12, 22]) :: (.ireturn, []) :: []
def k160_43 : List mI := (.iload 4, []) :: (.iload 3, []) :: (.if_icmp .ge 0, [86]) :: (.aload 0, []) :: (.getfield 0, [12, 21]) :: (.aload 0, []) :: (.getfield 0, [12, 22]) :: (.lload 1, []) :: (.iconst 8, []) :: (.iload 4, []) :: (.imul, []) :: (.lshr, []) :: (.jsr_w 255, []) :: (.land, []) :: (.l2i, []) :: (.iastore, []) :: (.aload 0, []) :: (.dup, []) :: (.getfield 0, [12, 22]) :: (.iconst 1, []) :: (.iadd, []) :: (.putfield 0, [12, 22, 0]) :: (.iinc 4 1, []) :: (.goto 0, [43]) :: []
def k160_40 : List mI := (.iconst 0, []) :: (.istore 4, []) :: k160_43
def k160_20 : List mI := (.aload 0, []) :: (.getfield 0, [12, 22]) :: (.iload 3, []) :: (.iadd, []) :: (.iconst 160, []) :: (.if_icmp .le 0, [40]) :: (.aload 0, []) :: (.iconst (-1002), []) :: (.invokevirtual 0, [129, 1, 12]) :: (.ireturn, []) :: []
def k160_0 : List mI := (.iload 3, []) :: (.i2l, []) :: (.jsr_w 1, []) :: (.jsr_w 8, []) :: (.invokestatic 0, [128, 3]) :: (.ifCond .ne 0, [20]) :: (.aload 0, []) :: (.iconst (-1001), []) :: (.invokevirtual 0, [129, 1, 12]) :: (.ireturn, []) :: []
def k161_0 : List mI := (.aload 0, []) :: (.getfield 0, [12, 22]) :: (.istore 1, []) :: (.aload 0, []) :: (.iconst 0, []) :: (.putfield 0, [12, 22, 0]) :: (.iload 1, []) :: (.ireturn, []) :: []
def k162_24 : List mI := (.ireturn, []) :: []
def k162_23 : List mI := (.iconst (-1), []) :: k162_24
def k162_0 : List mI := (.aload 0, []) :: (.getfield 0, [12, 27]) :: (.aload 0, []) :: (.getfield 0, [12, 28]) :: (.if_icmp .ge 0, [23]) :: (.aload 0, []) :: (.getfield 0, [12, 21]) :: (.aload 0, []) :: (.getfield 0, [12, 27]) :: (.iaload, []) :: (.goto 0, [24]) :: []
def k163_0 : List mI := (.iconst 5, []) :: (.aload 0, []) :: (.getfield 0, [12, 19]) :: (.imul, []) :: (.istore 5, []) :: (.aload 0, []) :: (.getfield 0, [12, 16]) :: (.iload 5, []) :: (.iload 1, []) :: (.iastore, []) :: (.aload 0, []) :: (.getfield 0, [12, 16]) :: (.iload 5, []) :: (.iconst 1, []) :: (.iadd, []) :: (.iload 2, []) :: (.iastore, []) :: (.aload 0, []) :: (.getfield 0, [12, 16]) :: (.iload 5, []) :: (.iconst 2, []) :: (.iadd, []) :: (.iload 3, []) :: (.iastore, []) :: (.aload 0, []) :: (.getfield 0, [12, 16]) :: (.iload 5, []) :: (.iconst 3, []) :: (.iadd, []) :: (.iload 4, []) :: (.iastore, []) :: (.aload 0, []) :: (.getfield 0, [12, 16]) :: (.iload 5, []) :: (.iconst 4, []) :: (.iadd, []) :: (.iconst (-1), []) :: (.iastore, []) :: (.aload 0, []) :: (.dup, []) :: (.getfield 0, [12, 19]) :: (.iconst 1, []) :: (.iadd, []) :: (.putfield 0, [12, 19, 0]) :: (.aload 0, []) :: (.getfield 0, [12, 19]) :: (.iconst 1, []) :: (.isub, []) :: (.ireturn, []) :: []
def k164_16 : List mI := (.putfield 0, [12, 29, 0]) :: (.iconst 0, []) :: (.ireturn, []) :: []
def k164_12 : List mI := (.aload 0, []) :: (.getfield 0, [12, 29]) :: k164_16
def k164_0 : List mI := (.aload 0, []) :: (.aload 0, []) :: (.getfield 0, [12, 29]) :: (.ifCond .ge 0, [12]) :: (.iload 1, []) :: (.goto 0, [16]) :: []
def k165_17 : List mI := (.aload 0, []) :: (.dup, []) :: (.getfield 0, [12, 27]) :: (.iconst 1, []) :: (.iadd, []) :: (.putfield 0, [12, 27, 0]) :: (.iconst 1, []) :: (.ireturn, [1]) :: []
def k165_15 : List mI := (.iconst 0, []) :: (.ireturn, [1]) :: []
def k165_0 : List mI := (.aload 0, []) :: (.getfield 0, [12, 29]) :: (.ifCond .ge 0, [15]) :: (.aload 0, []) :: (.invokevirtual 0, [162, 0, 12]) :: (.iload 1, []) :: (.if_icmp .eq 0, [17]) :: k165_15
def k166_24 : List mI := (.return_, []) :: []
def k166_0 : List mI := (.aload 0, []) :: (.getfield 0, [12, 29]) :: (.ifCond .ge 0, [24]) :: (.aload 0, []) :: (.iload 1, []) :: (.invokevirtual 0, [165, 1, 12]) :: (.ifCond .ne 0, [24]) :: (.aload 0, []) :: (.aload 0, []) :: (.getfield 0, [12, 27]) :: (.invokevirtual 0, [164, 1, 12]) :: (.pop, []) :: k166_24
def k167_23 : List mI := (.ireturn, [1]) :: []
def k167_22 : List mI := (.iconst 0, []) :: k167_23
def k167_0 : List mI := (.aload 0, []) :: (.invokevirtual 0, [162, 0, 12]) :: (.iconst 48, []) :: (.if_icmp .lt 0, [22]) :: (.aload 0, []) :: (.invokevirtual 0, [162, 0, 12]) :: (.iconst 57, []) :: (.if_icmp .gt 0, [22]) :: (.iconst 1, []) :: (.goto 0, [23]) :: []
def k168_73 : List mI := (.ireturn, []) :: []
def k168_65 : List mI := (.aload 0, []) :: (.iconst 0, []) :: (.iload 2, []) :: (.iconst 0, []) :: (.iconst 0, []) :: (.invokevirtual 0, [163, 4, 12]) :: k168_73
def k168_50 : List mI := (.iload 2, []) :: (.iconst 255, []) :: (.if_icmp .le 0, [65]) :: (.aload 0, []) :: (.iload 1, []) :: (.invokevirtual 0, [164, 1, 12]) :: (.goto 0, [73]) :: []
def k168_7 : List mI := (.aload 0, []) :: (.getfield 0, [12, 27]) :: (.iload 1, []) :: (.iconst 3, []) :: (.iadd, []) :: (.if_icmp .ge 0, [50]) :: (.aload 0, []) :: (.invokevirtual 0, [167, 0, 12]) :: (.ifCond .eq 0, [50]) :: (.iconst 10, []) :: (.iload 2, []) :: (.imul, []) :: (.aload 0, []) :: (.invokevirtual 0, [162, 0, 12]) :: (.iadd, []) :: (.iconst 48, []) :: (.isub, []) :: (.istore 2, []) :: (.aload 0, []) :: (.dup, []) :: (.getfield 0, [12, 27]) :: (.iconst 1, []) :: (.iadd, []) :: (.putfield 0, [12, 27, 0]) :: (.goto 0, [7]) :: []
def k168_0 : List mI := (.aload 0, []) :: (.getfield 0, [12, 27]) :: (.istore 1, []) :: (.iconst 0, []) :: (.istore 2, []) :: k168_7
def k169_33 : List mI := (.aload 0, []) :: (.dup, []) :: (.getfield 0, [12, 27]) :: (.iconst 1, []) :: (.iadd, []) :: (.putfield 0, [12, 27, 0]) :: (.iload 1, []) :: (.iconst 97, []) :: (.isub, []) :: (.ireturn, []) :: []
def k169_24 : List mI := (.aload 0, []) :: (.aload 0, []) :: (.getfield 0, [12, 27]) :: (.invokevirtual 0, [164, 1, 12]) :: (.ireturn, []) :: []
def k169_0 : List mI := (.aload 0, []) :: (.invokevirtual 0, [162, 0, 12]) :: (.istore 1, []) :: (.aload 0, []) :: (.getfield 0, [12, 29]) :: (.ifCond .ge 0, [24]) :: (.iload 1, []) :: (.iconst 97, []) :: (.if_icmp .lt 0, [24]) :: (.iload 1, []) :: (.iconst 104, []) :: (.if_icmp .le 0, [33]) :: k169_24
def k170_176 : List mI := (.aload 0, []) :: (.dup, []) :: (.getfield 0, [12, 32]) :: (.iconst 1, []) :: (.isub, []) :: (.putfield 0, [12, 32, 0]) :: (.iload 2, []) :: (.ireturn, []) :: []
def k170_170 : List mI := (.aload 0, []) :: (.iconst 41, []) :: (.invokevirtual 0, [166, 1, 12]) :: k170_176
def k170_151 : List mI := (.istore 2, []) :: (.iload 1, []) :: (.iconst 126, []) :: (.if_icmp .ne 0, [170]) :: (.aload 0, []) :: (.iconst 3, []) :: (.iload 2, []) :: (.iconst 0, []) :: (.iconst 0, []) :: (.invokevirtual 0, [163, 4, 12]) :: (.istore 2, []) :: (.goto 0, [176]) :: []
def k170_147 : List mI := (.aload 0, []) :: (.invokevirtual 0, [173, 0, 12]) :: k170_151
def k170_114 : List mI := (.aload 0, []) :: (.dup, []) :: (.getfield 0, [12, 27]) :: (.iconst 1, []) :: (.iadd, []) :: (.putfield 0, [12, 27, 0]) :: (.aload 0, []) :: (.dup, []) :: (.getfield 0, [12, 32]) :: (.iconst 1, []) :: (.iadd, []) :: (.putfield 0, [12, 32, 0]) :: (.iload 1, []) :: (.iconst 126, []) :: (.if_icmp .ne 0, [147]) :: (.aload 0, []) :: (.invokevirtual 0, [170, 0, 12]) :: (.goto 0, [151]) :: []
def k170_105 : List mI := (.aload 0, []) :: (.aload 0, []) :: (.getfield 0, [12, 27]) :: (.invokevirtual 0, [164, 1, 12]) :: (.ireturn, []) :: []
def k170_97 : List mI := (.aload 0, []) :: (.getfield 0, [12, 32]) :: (.iconst 5, []) :: (.if_icmp .ne 0, [114]) :: k170_105
def k170_85 : List mI := (.iload 1, []) :: (.iconst 126, []) :: (.if_icmp .eq 0, [97]) :: (.iload 1, []) :: (.iconst 40, []) :: (.if_icmp .ne 0, [105]) :: k170_97
def k170_60 : List mI := (.iload 1, []) :: (.iconst 35, []) :: (.if_icmp .ne 0, [85]) :: (.aload 0, []) :: (.dup, []) :: (.getfield 0, [12, 27]) :: (.iconst 1, []) :: (.iadd, []) :: (.putfield 0, [12, 27, 0]) :: (.aload 0, []) :: (.iconst 2, []) :: (.iconst 0, []) :: (.iconst 0, []) :: (.iconst 0, []) :: (.invokevirtual 0, [163, 4, 12]) :: (.ireturn, []) :: []
def k170_21 : List mI := (.aload 0, []) :: (.invokevirtual 0, [162, 0, 12]) :: (.istore 1, []) :: (.iload 1, []) :: (.iconst 97, []) :: (.if_icmp .lt 0, [60]) :: (.iload 1, []) :: (.iconst 104, []) :: (.if_icmp .gt 0, [60]) :: (.aload 0, []) :: (.dup, []) :: (.getfield 0, [12, 27]) :: (.iconst 1, []) :: (.iadd, []) :: (.putfield 0, [12, 27, 0]) :: (.aload 0, []) :: (.iconst 1, []) :: (.iload 1, []) :: (.iconst 97, []) :: (.isub, []) :: (.iconst 0, []) :: (.iconst 0, []) :: (.invokevirtual 0, [163, 4, 12]) :: (.ireturn, []) :: []
def k170_9 : List mI := (.aload 0, []) :: (.invokevirtual 0, [167, 0, 12]) :: (.ifCond .eq 0, [21]) :: (.aload 0, []) :: (.invokevirtual 0, [168, 0, 12]) :: (.ireturn, []) :: []
def k170_0 : List mI := (.aload 0, []) :: (.getfield 0, [12, 29]) :: (.ifCond .lt 0, [9]) :: (.iconst 0, []) :: (.ireturn, []) :: []
def k171_74 : List mI := (.iload 1, []) :: (.ireturn, []) :: []
def k171_46 : List mI := (.istore 2, []) :: (.aload 0, []) :: (.dup, []) :: (.getfield 0, [12, 27]) :: (.iconst 1, []) :: (.iadd, []) :: (.putfield 0, [12, 27, 0]) :: (.aload 0, []) :: (.invokevirtual 0, [170, 0, 12]) :: (.istore 3, []) :: (.aload 0, []) :: (.iload 2, []) :: (.iload 1, []) :: (.iload 3, []) :: (.iconst 0, []) :: (.invokevirtual 0, [163, 4, 12]) :: (.istore 1, []) :: (.goto 0, [5]) :: []
def k171_44 : List mI := (.iconst 7, []) :: k171_46
def k171_30 : List mI := (.aload 0, []) :: (.invokevirtual 0, [162, 0, 12]) :: (.iconst 42, []) :: (.if_icmp .ne 0, [44]) :: (.iconst 6, []) :: (.goto 0, [46]) :: []
def k171_5 : List mI := (.aload 0, []) :: (.getfield 0, [12, 29]) :: (.ifCond .ge 0, [74]) :: (.aload 0, []) :: (.invokevirtual 0, [162, 0, 12]) :: (.iconst 42, []) :: (.if_icmp .eq 0, [30]) :: (.aload 0, []) :: (.invokevirtual 0, [162, 0, 12]) :: (.iconst 38, []) :: (.if_icmp .ne 0, [74]) :: k171_30
def k171_0 : List mI := (.aload 0, []) :: (.invokevirtual 0, [170, 0, 12]) :: (.istore 1, []) :: k171_5
def k172_72 : List mI := (.iload 1, []) :: (.ireturn, []) :: []
def k172_44 : List mI := (.istore 2, []) :: (.aload 0, []) :: (.dup, []) :: (.getfield 0, [12, 27]) :: (.iconst 1, []) :: (.iadd, []) :: (.putfield 0, [12, 27, 0]) :: (.aload 0, []) :: (.invokevirtual 0, [171, 0, 12]) :: (.istore 3, []) :: (.aload 0, []) :: (.iload 2, []) :: (.iload 1, []) :: (.iload 3, []) :: (.iconst 0, []) :: (.invokevirtual 0, [163, 4, 12]) :: (.istore 1, []) :: (.goto 0, [5]) :: []
def k172_43 : List mI := (.iconst 5, []) :: k172_44
def k172_30 : List mI := (.aload 0, []) :: (.invokevirtual 0, [162, 0, 12]) :: (.iconst 43, []) :: (.if_icmp .ne 0, [43]) :: (.iconst 4, []) :: (.goto 0, [44]) :: []
def k172_5 : List mI := (.aload 0, []) :: (.getfield 0, [12, 29]) :: (.ifCond .ge 0, [72]) :: (.aload 0, []) :: (.invokevirtual 0, [162, 0, 12]) :: (.iconst 43, []) :: (.if_icmp .eq 0, [30]) :: (.aload 0, []) :: (.invokevirtual 0, [162, 0, 12]) :: (.iconst 45, []) :: (.if_icmp .ne 0, [72]) :: k172_30
def k172_0 : List mI := (.aload 0, []) :: (.invokevirtual 0, [171, 0, 12]) :: (.istore 1, []) :: k172_5
def k173_71 : List mI := (.iload 1, []) :: (.ireturn, []) :: []
def k173_46 : List mI := (.istore 2, []) :: (.aload 0, []) :: (.dup, []) :: (.getfield 0, [12, 27]) :: (.iconst 1, []) :: (.iadd, []) :: (.putfield 0, [12, 27, 0]) :: (.aload 0, []) :: (.invokevirtual 0, [172, 0, 12]) :: (.istore 3, []) :: (.aload 0, []) :: (.iload 2, []) :: (.iload 1, []) :: (.iload 3, []) :: (.iconst 0, []) :: (.invokevirtual 0, [163, 4, 12]) :: (.istore 1, []) :: k173_71
def k173_44 : List mI := (.iconst 9, []) :: k173_46
def k173_30 : List mI := (.aload 0, []) :: (.invokevirtual 0, [162, 0, 12]) :: (.iconst 60, []) :: (.if_icmp .ne 0, [44]) :: (.iconst 8, []) :: (.goto 0, [46]) :: []
def k173_0 : List mI := (.aload 0, []) :: (.invokevirtual 0, [172, 0, 12]) :: (.istore 1, []) :: (.aload 0, []) :: (.getfield 0, [12, 29]) :: (.ifCond .ge 0, [71]) :: (.aload 0, []) :: (.invokevirtual 0, [162, 0, 12]) :: (.iconst 60, []) :: (.if_icmp .eq 0, [30]) :: (.aload 0, []) :: (.invokevirtual 0, [162, 0, 12]) :: (.iconst 61, []) :: (.if_icmp .ne 0, [71]) :: k173_30
def k174_326 : List mI := (.aload 0, []) :: (.dup, []) :: (.getfield 0, [12, 27]) :: (.iconst 1, []) :: (.iadd, []) :: (.putfield 0, [12, 27, 0]) :: (.aload 0, []) :: (.iconst 11, []) :: (.iload 2, []) :: (.iload 3, []) :: (.aload 0, []) :: (.invokevirtual 0, [169, 0, 12]) :: (.invokevirtual 0, [163, 4, 12]) :: (.ireturn, []) :: []
def k174_312 : List mI := (.istore 3, []) :: (.iload 3, []) :: (.ifCond .ge 0, [326]) :: (.aload 0, []) :: (.aload 0, []) :: (.getfield 0, [12, 27]) :: (.invokevirtual 0, [164, 1, 12]) :: (.ireturn, []) :: []
def k174_311 : List mI := (.iconst (-1), []) :: k174_312
def k174_298 : List mI := (.aload 0, []) :: (.invokevirtual 0, [162, 0, 12]) :: (.iconst 119, []) :: (.if_icmp .ne 0, [311]) :: (.iconst 3, []) :: (.goto 0, [312]) :: []
def k174_285 : List mI := (.aload 0, []) :: (.invokevirtual 0, [162, 0, 12]) :: (.iconst 115, []) :: (.if_icmp .ne 0, [298]) :: (.iconst 2, []) :: (.goto 0, [312]) :: []
def k174_272 : List mI := (.aload 0, []) :: (.invokevirtual 0, [162, 0, 12]) :: (.iconst 101, []) :: (.if_icmp .ne 0, [285]) :: (.iconst 1, []) :: (.goto 0, [312]) :: []
def k174_259 : List mI := (.aload 0, []) :: (.invokevirtual 0, [162, 0, 12]) :: (.iconst 110, []) :: (.if_icmp .ne 0, [272]) :: (.iconst 0, []) :: (.goto 0, [312]) :: []
def k174_244 : List mI := (.aload 0, []) :: (.iconst 64, []) :: (.invokevirtual 0, [166, 1, 12]) :: (.aload 0, []) :: (.getfield 0, [12, 29]) :: (.ifCond .lt 0, [259]) :: (.iconst 0, []) :: (.ireturn, []) :: []
def k174_217 : List mI := (.aload 0, []) :: (.invokevirtual 0, [169, 0, 12]) :: (.istore 2, []) :: (.aload 0, []) :: (.iconst 61, []) :: (.invokevirtual 0, [165, 1, 12]) :: (.ifCond .eq 0, [244]) :: (.aload 0, []) :: (.iconst 10, []) :: (.iload 2, []) :: (.aload 0, []) :: (.invokevirtual 0, [173, 0, 12]) :: (.iconst 0, []) :: (.invokevirtual 0, [163, 4, 12]) :: (.ireturn, []) :: []
def k174_209 : List mI := (.iload 2, []) :: (.iload 3, []) :: (.iload 4, []) :: (.invokevirtual 0, [163, 4, 12]) :: (.ireturn, []) :: []
def k174_207 : List mI := (.iconst 13, []) :: k174_209
def k174_191 : List mI := (.isub, []) :: (.putfield 0, [12, 31, 0]) :: (.aload 0, []) :: (.iload 1, []) :: (.iconst 91, []) :: (.if_icmp .ne 0, [207]) :: (.iconst 12, []) :: (.goto 0, [209]) :: []
def k174_190 : List mI := (.iconst 0, []) :: k174_191
def k174_162 : List mI := (.invokevirtual 0, [166, 1, 12]) :: (.aload 0, []) :: (.dup, []) :: (.getfield 0, [12, 30]) :: (.iconst 1, []) :: (.isub, []) :: (.putfield 0, [12, 30, 0]) :: (.aload 0, []) :: (.dup, []) :: (.getfield 0, [12, 31]) :: (.iload 1, []) :: (.iconst 123, []) :: (.if_icmp .ne 0, [190]) :: (.iconst 1, []) :: (.goto 0, [191]) :: []
def k174_160 : List mI := (.iconst 125, []) :: k174_162
def k174_146 : List mI := (.istore 4, []) :: (.aload 0, []) :: (.iload 1, []) :: (.iconst 91, []) :: (.if_icmp .ne 0, [160]) :: (.iconst 93, []) :: (.goto 0, [162]) :: []
def k174_145 : List mI := (.iconst (-1), []) :: k174_146
def k174_103 : List mI := (.iadd, []) :: (.putfield 0, [12, 31, 0]) :: (.aload 0, []) :: (.invokevirtual 0, [173, 0, 12]) :: (.istore 2, []) :: (.aload 0, []) :: (.iconst 58, []) :: (.invokevirtual 0, [166, 1, 12]) :: (.aload 0, []) :: (.invokevirtual 0, [175, 0, 12]) :: (.istore 3, []) :: (.iload 1, []) :: (.iconst 91, []) :: (.if_icmp .ne 0, [145]) :: (.aload 0, []) :: (.iconst 124, []) :: (.invokevirtual 0, [165, 1, 12]) :: (.ifCond .eq 0, [145]) :: (.aload 0, []) :: (.invokevirtual 0, [175, 0, 12]) :: (.goto 0, [146]) :: []
def k174_102 : List mI := (.iconst 0, []) :: k174_103
def k174_67 : List mI := (.aload 0, []) :: (.dup, []) :: (.getfield 0, [12, 27]) :: (.iconst 1, []) :: (.iadd, []) :: (.putfield 0, [12, 27, 0]) :: (.aload 0, []) :: (.dup, []) :: (.getfield 0, [12, 30]) :: (.iconst 1, []) :: (.iadd, []) :: (.putfield 0, [12, 30, 0]) :: (.aload 0, []) :: (.dup, []) :: (.getfield 0, [12, 31]) :: (.iload 1, []) :: (.iconst 123, []) :: (.if_icmp .ne 0, [102]) :: (.iconst 1, []) :: (.goto 0, [103]) :: []
def k174_58 : List mI := (.aload 0, []) :: (.aload 0, []) :: (.getfield 0, [12, 27]) :: (.invokevirtual 0, [164, 1, 12]) :: (.ireturn, []) :: []
def k174_36 : List mI := (.aload 0, []) :: (.getfield 0, [12, 30]) :: (.iconst 4, []) :: (.if_icmp .eq 0, [58]) :: (.iload 1, []) :: (.iconst 123, []) :: (.if_icmp .ne 0, [67]) :: (.aload 0, []) :: (.getfield 0, [12, 31]) :: (.iconst 2, []) :: (.if_icmp .ne 0, [67]) :: k174_58
def k174_9 : List mI := (.aload 0, []) :: (.dup, []) :: (.getfield 0, [12, 20]) :: (.iconst 1, []) :: (.iadd, []) :: (.putfield 0, [12, 20, 0]) :: (.aload 0, []) :: (.invokevirtual 0, [162, 0, 12]) :: (.istore 1, []) :: (.iload 1, []) :: (.iconst 91, []) :: (.if_icmp .eq 0, [36]) :: (.iload 1, []) :: (.iconst 123, []) :: (.if_icmp .ne 0, [217]) :: k174_36
def k174_0 : List mI := (.aload 0, []) :: (.getfield 0, [12, 29]) :: (.ifCond .lt 0, [9]) :: (.iconst 0, []) :: (.ireturn, []) :: []
def k175_37 : List mI := (.iload 1, []) :: (.ireturn, []) :: []
def k175_7 : List mI := (.aload 0, []) :: (.iconst 59, []) :: (.invokevirtual 0, [165, 1, 12]) :: (.ifCond .eq 0, [37]) :: (.aload 0, []) :: (.invokevirtual 0, [174, 0, 12]) :: (.istore 3, []) :: (.aload 0, []) :: (.getfield 0, [12, 16]) :: (.iconst 5, []) :: (.iload 2, []) :: (.imul, []) :: (.iconst 4, []) :: (.iadd, []) :: (.iload 3, []) :: (.iastore, []) :: (.iload 3, []) :: (.istore 2, []) :: (.goto 0, [7]) :: []
def k175_0 : List mI := (.aload 0, []) :: (.invokevirtual 0, [174, 0, 12]) :: (.istore 1, []) :: (.iload 1, []) :: (.istore 2, []) :: k175_7
def k176_95 : List mI := (.aload 0, []) :: (.getfield 0, [12, 16]) :: (.aload 0, []) :: (.getfield 0, [12, 14]) :: (.invokestatic 0, [181, 2]) :: (.aload 0, []) :: (.iload 1, []) :: (.putfield 0, [12, 33, 0]) :: (.aload 0, []) :: (.aload 0, []) :: (.getfield 0, [12, 20]) :: (.putfield 0, [12, 17, 0]) :: (.aload 0, []) :: (.getfield 0, [12, 17]) :: (.ireturn, []) :: []
def k176_80 : List mI := (.aload 0, []) :: (.getfield 0, [12, 29]) :: (.ifCond .lt 0, [95]) :: (.iconst (-10), []) :: (.aload 0, []) :: (.getfield 0, [12, 29]) :: (.isub, []) :: (.ireturn, []) :: []
def k176_0 : List mI := (.aload 0, []) :: (.aload 0, []) :: (.getfield 0, [12, 22]) :: (.putfield 0, [12, 28, 0]) :: (.aload 0, []) :: (.iconst 0, []) :: (.putfield 0, [12, 22, 0]) :: (.aload 0, []) :: (.iconst 0, []) :: (.putfield 0, [12, 27, 0]) :: (.aload 0, []) :: (.iconst (-1), []) :: (.putfield 0, [12, 29, 0]) :: (.aload 0, []) :: (.iconst 0, []) :: (.putfield 0, [12, 30, 0]) :: (.aload 0, []) :: (.iconst 0, []) :: (.putfield 0, [12, 31, 0]) :: (.aload 0, []) :: (.iconst 0, []) :: (.putfield 0, [12, 32, 0]) :: (.aload 0, []) :: (.iconst 0, []) :: (.putfield 0, [12, 19, 0]) :: (.aload 0, []) :: (.iconst 0, []) :: (.putfield 0, [12, 20, 0]) :: (.aload 0, []) :: (.invokevirtual 0, [175, 0, 12]) :: (.istore 1, []) :: (.aload 0, []) :: (.getfield 0, [12, 29]) :: (.ifCond .ge 0, [80]) :: (.aload 0, []) :: (.getfield 0, [12, 27]) :: (.aload 0, []) :: (.getfield 0, [12, 28]) :: (.if_icmp .ge 0, [80]) :: (.aload 0, []) :: (.aload 0, []) :: (.getfield 0, [12, 27]) :: (.invokevirtual 0, [164, 1, 12]) :: (.pop, []) :: k176_80
def k177_265 : List mI := (.return_, []) :: []
def k177_258 : List mI := (.iastore, []) :: (.iinc 6 1, []) :: (.goto 0, [128]) :: []
def k177_230 : List mI := (.iload 4, []) :: (.aload 0, []) :: (.getfield 0, [12, 35]) :: (.iload 5, []) :: (.iload 6, []) :: (.iadd, []) :: (.iaload, []) :: (.aload 0, []) :: (.getfield 0, [12, 35]) :: (.iload 5, []) :: (.iconst 64, []) :: (.iadd, []) :: (.iload 6, []) :: (.iadd, []) :: (.iaload, []) :: (.invokestatic 0, [141, 3]) :: k177_258
def k177_208 : List mI := (.istore 7, []) :: (.aload 0, []) :: (.getfield 0, [12, 35]) :: (.iload 5, []) :: (.iload 6, []) :: (.iadd, []) :: (.iload 4, []) :: (.iconst 4, []) :: (.if_icmp .ge 0, [230]) :: (.iload 7, []) :: (.goto 0, [258]) :: []
def k177_206 : List mI := (.iload 7, []) :: k177_208
def k177_181 : List mI := (.istore 7, []) :: (.iload 4, []) :: (.iconst 3, []) :: (.if_icmp .ne 0, [206]) :: (.iconst 255, []) :: (.aload 0, []) :: (.getfield 0, [12, 35]) :: (.iload 5, []) :: (.iload 6, []) :: (.iadd, []) :: (.iaload, []) :: (.isub, []) :: (.goto 0, [208]) :: []
def k177_179 : List mI := (.iload 6, []) :: k177_181
def k177_151 : List mI := (.iload 4, []) :: (.iconst 1, []) :: (.if_icmp .ne 0, [179]) :: (.aload 0, []) :: (.getfield 0, [12, 1]) :: (.iconst 64, []) :: (.aload 0, []) :: (.getfield 0, [12, 14]) :: (.iload 3, []) :: (.iconst 1, []) :: (.iadd, []) :: (.iaload, []) :: (.imul, []) :: (.iload 6, []) :: (.iadd, []) :: (.iaload, []) :: (.goto 0, [181]) :: []
def k177_128 : List mI := (.iload 6, []) :: (.iconst 64, []) :: (.if_icmp .ge 0, [265]) :: (.iload 4, []) :: (.ifCond .ne 0, [151]) :: (.aload 0, []) :: (.getfield 0, [12, 14]) :: (.iload 3, []) :: (.iconst 1, []) :: (.iadd, []) :: (.iaload, []) :: (.goto 0, [181]) :: []
def k177_121 : List mI := (.iadd, []) :: (.putfield 0, [12, 36, 0]) :: (.iconst 0, []) :: (.istore 6, []) :: k177_128
def k177_120 : List mI := (.iconst 0, []) :: k177_121
def k177_109 : List mI := (.iload 4, []) :: (.iconst 2, []) :: (.if_icmp .ne 0, [120]) :: (.iconst 6, []) :: (.goto 0, [121]) :: []
def k177_104 : List mI := (.iconst 8, []) :: (.goto 0, [121]) :: []
def k177_88 : List mI := (.aload 0, []) :: (.dup, []) :: (.getfield 0, [12, 36]) :: (.iload 4, []) :: (.ifCond .eq 0, [104]) :: (.iload 4, []) :: (.iconst 3, []) :: (.if_icmp .ne 0, [109]) :: k177_104
def k177_69 : List mI := (.iload 4, []) :: (.iconst 3, []) :: (.if_icmp .ne 0, [88]) :: (.aload 0, []) :: (.aload 0, []) :: (.getfield 0, [12, 14]) :: (.iload 3, []) :: (.iconst 1, []) :: (.iadd, []) :: (.iaload, []) :: (.iload 2, []) :: (.invokevirtual 0, [177, 2, 12]) :: k177_88
def k177_0 : List mI := (.iconst 5, []) :: (.iload 1, []) :: (.imul, []) :: (.istore 3, []) :: (.aload 0, []) :: (.getfield 0, [12, 14]) :: (.iload 3, []) :: (.iaload, []) :: (.istore 4, []) :: (.iconst 64, []) :: (.iload 2, []) :: (.imul, []) :: (.istore 5, []) :: (.iload 4, []) :: (.iconst 4, []) :: (.if_icmp .lt 0, [69]) :: (.aload 0, []) :: (.aload 0, []) :: (.getfield 0, [12, 14]) :: (.iload 3, []) :: (.iconst 1, []) :: (.iadd, []) :: (.iaload, []) :: (.iload 2, []) :: (.invokevirtual 0, [177, 2, 12]) :: (.aload 0, []) :: (.aload 0, []) :: (.getfield 0, [12, 14]) :: (.iload 3, []) :: (.iconst 2, []) :: (.iadd, []) :: (.iaload, []) :: (.iload 2, []) :: (.iconst 1, []) :: (.iadd, []) :: (.invokevirtual 0, [177, 2, 12]) :: (.aload 0, []) :: (.dup, []) :: (.getfield 0, [12, 36]) :: (.iload 4, []) :: (.invokestatic 0, [142, 1]) :: (.iadd, []) :: (.putfield 0, [12, 36, 0]) :: (.goto 0, [88]) :: []
def k178_57 : List mI := (.lload 4, []) :: (.lreturn, []) :: []
def k178_48 : List mI := (.lor, []) :: (.lstore 4, []) :: (.iinc 6 1, []) :: (.goto 0, [12]) :: []
def k178_47 : List mI := (.jsr_w 0, []) :: k178_48
def k178_12 : List mI := (.iload 6, []) :: (.iconst 64, []) :: (.if_icmp .ge 0, [57]) :: (.lload 4, []) :: (.lload 2, []) :: (.iload 6, []) :: (.invokestatic 0, [133, 2]) :: (.ifCond .eq 0, [47]) :: (.aload 0, []) :: (.getfield 0, [12, 35]) :: (.iload 6, []) :: (.iaload, []) :: (.ifCond .eq 0, [47]) :: (.jsr_w 1, []) :: (.iload 6, []) :: (.lshl, []) :: (.goto 0, [48]) :: []
def k178_0 : List mI := (.aload 0, []) :: (.iload 1, []) :: (.iconst 0, []) :: (.invokevirtual 0, [177, 2, 12]) :: (.jsr_w 0, []) :: (.lstore 4, []) :: (.iconst 0, []) :: (.istore 6, []) :: k178_12
def k179_67 : List mI := (.return_, []) :: []
def k179_47 : List mI := (.aload 0, []) :: (.aload 0, []) :: (.getfield 0, [12, 14]) :: (.iload 1, []) :: (.iconst 2, []) :: (.iadd, []) :: (.iaload, []) :: (.lload 4, []) :: (.invokevirtual 0, [180, 2, 12]) :: (.iinc 6 1, []) :: (.goto 0, [6]) :: []
def k179_6 : List mI := (.iload 6, []) :: (.iconst 20, []) :: (.if_icmp .ge 0, [67]) :: (.aload 0, []) :: (.aload 0, []) :: (.getfield 0, [12, 14]) :: (.iload 1, []) :: (.iconst 1, []) :: (.iadd, []) :: (.iaload, []) :: (.lload 4, []) :: (.invokevirtual 0, [178, 2, 12]) :: (.lstore 4, []) :: (.aload 0, []) :: (.dup, []) :: (.getfield 0, [12, 36]) :: (.iconst 1, []) :: (.iadd, []) :: (.putfield 0, [12, 36, 0]) :: (.lload 4, []) :: (.jsr_w 0, []) :: (.lcmp, []) :: (.ifCond .ne 0, [47]) :: (.return_, []) :: []
def k179_0 : List mI := (.lload 2, []) :: (.lstore 4, []) :: (.iconst 0, []) :: (.istore 6, []) :: k179_6
def k180_285 : List mI := (.return_, []) :: []
def k180_269 : List mI := (.aload 0, []) :: (.getfield 0, [12, 14]) :: (.iconst 5, []) :: (.iload 4, []) :: (.imul, []) :: (.iconst 4, []) :: (.iadd, []) :: (.iaload, []) :: (.istore 4, []) :: (.goto 0, [3]) :: []
def k180_262 : List mI := (.aload 0, []) :: (.iload 5, []) :: (.lload 2, []) :: (.invokevirtual 0, [179, 2, 12]) :: k180_269
def k180_192 : List mI := (.aload 0, []) :: (.iload 6, []) :: (.lload 2, []) :: (.invokevirtual 0, [178, 2, 12]) :: (.lstore 7, []) :: (.aload 0, []) :: (.dup, []) :: (.getfield 0, [12, 36]) :: (.iconst 2, []) :: (.iadd, []) :: (.putfield 0, [12, 36, 0]) :: (.aload 0, []) :: (.aload 0, []) :: (.getfield 0, [12, 14]) :: (.iload 5, []) :: (.iconst 2, []) :: (.iadd, []) :: (.iaload, []) :: (.lload 7, []) :: (.invokevirtual 0, [180, 2, 12]) :: (.aload 0, []) :: (.getfield 0, [12, 14]) :: (.iload 5, []) :: (.iconst 3, []) :: (.iadd, []) :: (.iaload, []) :: (.ifCond .lt 0, [269]) :: (.aload 0, []) :: (.aload 0, []) :: (.getfield 0, [12, 14]) :: (.iload 5, []) :: (.iconst 3, []) :: (.iadd, []) :: (.iaload, []) :: (.lload 2, []) :: (.lload 7, []) :: (.jsr_w (-1), []) :: (.lxor, []) :: (.land, []) :: (.invokevirtual 0, [180, 2, 12]) :: (.goto 0, [269]) :: []
def k180_153 : List mI := (.aload 0, []) :: (.iload 6, []) :: (.aload 0, []) :: (.getfield 0, [12, 14]) :: (.iload 5, []) :: (.iconst 3, []) :: (.iadd, []) :: (.iaload, []) :: (.aload 0, []) :: (.getfield 0, [12, 14]) :: (.iload 5, []) :: (.iconst 2, []) :: (.iadd, []) :: (.iaload, []) :: (.lload 2, []) :: (.invokevirtual 0, [145, 4, 12]) :: (.aload 0, []) :: (.dup, []) :: (.getfield 0, [12, 36]) :: (.iconst 8, []) :: (.iadd, []) :: (.putfield 0, [12, 36, 0]) :: (.goto 0, [269]) :: []
def k180_150 : List mI := (.goto 0, [269]) :: []
def k180_143 : List mI := (.iastore, []) :: (.iinc 7 1, []) :: (.goto 0, [92]) :: []
def k180_130 : List mI := (.aload 0, []) :: (.getfield 0, [12, 1]) :: (.iconst 64, []) :: (.iload 6, []) :: (.imul, []) :: (.iload 7, []) :: (.iadd, []) :: (.iaload, []) :: k180_143
def k180_92 : List mI := (.iload 7, []) :: (.iconst 64, []) :: (.if_icmp .ge 0, [150]) :: (.aload 0, []) :: (.getfield 0, [12, 1]) :: (.iconst 64, []) :: (.iload 6, []) :: (.imul, []) :: (.iload 7, []) :: (.iadd, []) :: (.lload 2, []) :: (.iload 7, []) :: (.invokestatic 0, [133, 2]) :: (.ifCond .eq 0, [130]) :: (.aload 0, []) :: (.getfield 0, [12, 35]) :: (.iload 7, []) :: (.iaload, []) :: (.goto 0, [143]) :: []
def k180_64 : List mI := (.aload 0, []) :: (.aload 0, []) :: (.getfield 0, [12, 14]) :: (.iload 5, []) :: (.iconst 2, []) :: (.iadd, []) :: (.iaload, []) :: (.iconst 0, []) :: (.invokevirtual 0, [177, 2, 12]) :: (.aload 0, []) :: (.dup, []) :: (.getfield 0, [12, 36]) :: (.iconst 8, []) :: (.iadd, []) :: (.putfield 0, [12, 36, 0]) :: (.iconst 0, []) :: (.istore 7, []) :: k180_92
def k180_3 : List mI := (.iload 4, []) :: (.ifCond .lt 0, [285]) :: (.lload 2, []) :: (.jsr_w 0, []) :: (.lcmp, []) :: (.ifCond .eq 0, [285]) :: (.iconst 5, []) :: (.iload 4, []) :: (.imul, []) :: (.istore 5, []) :: (.aload 0, []) :: (.getfield 0, [12, 14]) :: (.iload 5, []) :: (.iconst 1, []) :: (.iadd, []) :: (.iaload, []) :: (.istore 6, []) :: (.aload 0, []) :: (.getfield 0, [12, 14]) :: (.iload 5, []) :: (.iaload, []) :: (.tableswitch 0 10 12 #[], [262, 64, 153, 192]) :: []
def k180_0 : List mI := (.iload 1, []) :: (.istore 4, []) :: k180_3
def k181_20 : List mI := (.return_, []) :: []
def k181_2 : List mI := (.iload 2, []) :: (.aload 0, []) :: (.arraylength, []) :: (.if_icmp .ge 0, [20]) :: (.aload 1, []) :: (.iload 2, []) :: (.aload 0, []) :: (.iload 2, []) :: (.iaload, []) :: (.iastore, []) :: (.iinc 2 1, []) :: (.goto 0, [2]) :: []
def k181_0 : List mI := (.iconst 0, []) :: (.istore 2, []) :: k181_2
def k182_35 : List mI := (.iload 2, []) :: (.ireturn, [1]) :: []
def k182_28 : List mI := (.istore 2, []) :: (.iinc 3 1, []) :: (.goto 0, [4]) :: []
def k182_27 : List mI := (.iconst 0, []) :: k182_28
def k182_4 : List mI := (.iload 3, []) :: (.aload 0, []) :: (.arraylength, []) :: (.if_icmp .ge 0, [35]) :: (.iload 2, []) :: (.ifCond .eq 0, [27]) :: (.aload 0, []) :: (.iload 3, []) :: (.iaload, []) :: (.aload 1, []) :: (.iload 3, []) :: (.iaload, []) :: (.if_icmp .ne 0, [27]) :: (.iconst 1, []) :: (.goto 0, [28]) :: []
def k182_0 : List mI := (.iconst 1, []) :: (.istore 2, []) :: (.iconst 0, []) :: (.istore 3, []) :: k182_4
def k183_65 : List mI := (.aload 0, []) :: (.aload 0, []) :: (.getfield 0, [12, 36]) :: (.invokevirtual 0, [139, 1, 12]) :: (.ireturn, []) :: []
def k183_42 : List mI := (.iload 2, []) :: (.iload 1, []) :: (.if_icmp .ge 0, [65]) :: (.aload 0, []) :: (.aload 0, []) :: (.getfield 0, [12, 33]) :: (.aload 0, []) :: (.invokevirtual 0, [148, 0, 12]) :: (.invokevirtual 0, [180, 2, 12]) :: (.iinc 2 1, []) :: (.goto 0, [42]) :: []
def k183_35 : List mI := (.aload 0, []) :: (.iconst 0, []) :: (.putfield 0, [12, 36, 0]) :: (.iconst 0, []) :: (.istore 2, []) :: k183_42
def k183_20 : List mI := (.aload 0, []) :: (.getfield 0, [12, 17]) :: (.ifCond .ne 0, [35]) :: (.aload 0, []) :: (.iconst (-1003), []) :: (.invokevirtual 0, [129, 1, 12]) :: (.ireturn, []) :: []
def k183_0 : List mI := (.iload 1, []) :: (.i2l, []) :: (.jsr_w 1, []) :: (.jsr_w 30, []) :: (.invokestatic 0, [128, 3]) :: (.ifCond .ne 0, [20]) :: (.aload 0, []) :: (.iconst (-1001), []) :: (.invokevirtual 0, [129, 1, 12]) :: (.ireturn, []) :: []
def k184_41 : List mI := (.return_, []) :: []
def k184_18 : List mI := (.iload 2, []) :: (.iload 1, []) :: (.if_icmp .ge 0, [41]) :: (.aload 0, []) :: (.aload 0, []) :: (.getfield 0, [12, 33]) :: (.aload 0, []) :: (.invokevirtual 0, [148, 0, 12]) :: (.invokevirtual 0, [180, 2, 12]) :: (.iinc 2 1, []) :: (.goto 0, [18]) :: []
def k184_0 : List mI := (.aload 0, []) :: (.getfield 0, [12, 1]) :: (.aload 0, []) :: (.getfield 0, [12, 3]) :: (.invokestatic 0, [181, 2]) :: (.aload 0, []) :: (.iconst 0, []) :: (.putfield 0, [12, 36, 0]) :: (.iconst 0, []) :: (.istore 2, []) :: k184_18
def k185_0 : List mI := (.aload 0, []) :: (.getfield 0, [12, 3]) :: (.aload 0, []) :: (.getfield 0, [12, 1]) :: (.invokestatic 0, [181, 2]) :: (.return_, []) :: []
def k186_49 : List mI := (.aload 0, []) :: (.iload 1, []) :: (.invokevirtual 0, [184, 1, 12]) :: (.aload 0, []) :: (.getfield 0, [12, 1]) :: (.iconst 64, []) :: (.iload 3, []) :: (.imul, []) :: (.iload 2, []) :: (.iadd, []) :: (.iaload, []) :: (.istore 4, []) :: (.aload 0, []) :: (.invokevirtual 0, [185, 0, 12]) :: (.iload 4, []) :: (.ireturn, []) :: []
def k186_34 : List mI := (.aload 0, []) :: (.getfield 0, [12, 17]) :: (.ifCond .ne 0, [49]) :: (.aload 0, []) :: (.iconst (-1003), []) :: (.invokevirtual 0, [129, 1, 12]) :: (.ireturn, []) :: []
def k186_26 : List mI := (.aload 0, []) :: (.iconst (-1001), []) :: (.invokevirtual 0, [129, 1, 12]) :: (.ireturn, []) :: []
def k186_0 : List mI := (.iload 1, []) :: (.i2l, []) :: (.jsr_w 0, []) :: (.jsr_w 30, []) :: (.invokestatic 0, [128, 3]) :: (.ifCond .eq 0, [26]) :: (.iload 2, []) :: (.invokestatic 0, [130, 1]) :: (.ifCond .eq 0, [26]) :: (.iload 3, []) :: (.invokestatic 0, [131, 1]) :: (.ifCond .ne 0, [34]) :: k186_26
def k187_35 : List mI := (.aload 0, []) :: (.iload 1, []) :: (.invokevirtual 0, [184, 1, 12]) :: (.aload 0, []) :: (.invokevirtual 0, [185, 0, 12]) :: (.aload 0, []) :: (.getfield 0, [12, 36]) :: (.ireturn, []) :: []
def k187_20 : List mI := (.aload 0, []) :: (.getfield 0, [12, 17]) :: (.ifCond .ne 0, [35]) :: (.aload 0, []) :: (.iconst (-1003), []) :: (.invokevirtual 0, [129, 1, 12]) :: (.ireturn, []) :: []
def k187_0 : List mI := (.iload 1, []) :: (.i2l, []) :: (.jsr_w 0, []) :: (.jsr_w 30, []) :: (.invokestatic 0, [128, 3]) :: (.ifCond .ne 0, [20]) :: (.aload 0, []) :: (.iconst (-1001), []) :: (.invokevirtual 0, [129, 1, 12]) :: (.ireturn, []) :: []
def k188_76 : List mI := (.aload 0, []) :: (.invokevirtual 0, [185, 0, 12]) :: (.lload 2, []) :: (.lreturn, []) :: []
def k188_68 : List mI := (.lor, []) :: (.lstore 2, []) :: (.iinc 4 1, []) :: (.goto 0, [31]) :: []
def k188_67 : List mI := (.jsr_w 0, []) :: k188_68
def k188_31 : List mI := (.iload 4, []) :: (.iconst 512, []) :: (.if_icmp .ge 0, [76]) :: (.lload 2, []) :: (.aload 0, []) :: (.getfield 0, [12, 1]) :: (.iload 4, []) :: (.iaload, []) :: (.aload 0, []) :: (.getfield 0, [12, 3]) :: (.iload 4, []) :: (.iaload, []) :: (.if_icmp .eq 0, [67]) :: (.jsr_w 1, []) :: (.iload 4, []) :: (.iconst 64, []) :: (.irem, []) :: (.lshl, []) :: (.goto 0, [68]) :: []
def k188_21 : List mI := (.aload 0, []) :: (.iload 1, []) :: (.invokevirtual 0, [184, 1, 12]) :: (.jsr_w 0, []) :: (.lstore 2, []) :: (.iconst 0, []) :: (.istore 4, []) :: k188_31
def k188_19 : List mI := (.jsr_w 0, []) :: (.lreturn, []) :: []
def k188_0 : List mI := (.iload 1, []) :: (.i2l, []) :: (.jsr_w 0, []) :: (.jsr_w 30, []) :: (.invokestatic 0, [128, 3]) :: (.ifCond .eq 0, [19]) :: (.aload 0, []) :: (.getfield 0, [12, 17]) :: (.ifCond .ne 0, [21]) :: k188_19
def k189_89 : List mI := (.aload 0, []) :: (.invokevirtual 0, [185, 0, 12]) :: (.iload 1, []) :: (.ireturn, []) :: []
def k189_82 : List mI := (.istore 1, []) :: (.iinc 2 1, []) :: (.goto 0, [30]) :: []
def k189_81 : List mI := (.iconst (-1), []) :: k189_82
def k189_30 : List mI := (.iload 2, []) :: (.iconst 30, []) :: (.if_icmp .gt 0, [89]) :: (.iload 1, []) :: (.ifCond .ge 0, [89]) :: (.aload 0, []) :: (.getfield 0, [12, 1]) :: (.aload 0, []) :: (.getfield 0, [12, 2]) :: (.invokestatic 0, [181, 2]) :: (.aload 0, []) :: (.aload 0, []) :: (.getfield 0, [12, 33]) :: (.aload 0, []) :: (.invokevirtual 0, [148, 0, 12]) :: (.invokevirtual 0, [180, 2, 12]) :: (.aload 0, []) :: (.getfield 0, [12, 1]) :: (.aload 0, []) :: (.getfield 0, [12, 2]) :: (.invokestatic 0, [182, 2]) :: (.ifCond .eq 0, [81]) :: (.iload 2, []) :: (.goto 0, [82]) :: []
def k189_15 : List mI := (.aload 0, []) :: (.getfield 0, [12, 1]) :: (.aload 0, []) :: (.getfield 0, [12, 3]) :: (.invokestatic 0, [181, 2]) :: (.iconst (-1), []) :: (.istore 1, []) :: (.iconst 0, []) :: (.istore 2, []) :: k189_30
def k189_0 : List mI := (.aload 0, []) :: (.getfield 0, [12, 17]) :: (.ifCond .ne 0, [15]) :: (.aload 0, []) :: (.iconst (-1003), []) :: (.invokevirtual 0, [129, 1, 12]) :: (.ireturn, []) :: []
def k190_119 : List mI := (.aload 0, []) :: (.invokevirtual 0, [185, 0, 12]) :: (.iload 4, []) :: (.ireturn, []) :: []
def k190_99 : List mI := (.istore 4, []) :: (.aload 0, []) :: (.aload 0, []) :: (.getfield 0, [12, 33]) :: (.aload 0, []) :: (.invokevirtual 0, [148, 0, 12]) :: (.invokevirtual 0, [180, 2, 12]) :: (.iinc 5 1, []) :: (.goto 0, [66]) :: []
def k190_98 : List mI := (.iconst (-1), []) :: k190_99
def k190_66 : List mI := (.iload 5, []) :: (.iconst 30, []) :: (.if_icmp .gt 0, [119]) :: (.iload 4, []) :: (.ifCond .ge 0, [119]) :: (.aload 0, []) :: (.getfield 0, [12, 1]) :: (.iconst 64, []) :: (.iload 2, []) :: (.imul, []) :: (.iload 1, []) :: (.iadd, []) :: (.iaload, []) :: (.iload 3, []) :: (.if_icmp .ne 0, [98]) :: (.iload 5, []) :: (.goto 0, [99]) :: []
def k190_49 : List mI := (.aload 0, []) :: (.getfield 0, [12, 1]) :: (.aload 0, []) :: (.getfield 0, [12, 3]) :: (.invokestatic 0, [181, 2]) :: (.iconst (-1), []) :: (.istore 4, []) :: (.iconst 0, []) :: (.istore 5, []) :: k190_66
def k190_34 : List mI := (.aload 0, []) :: (.getfield 0, [12, 17]) :: (.ifCond .ne 0, [49]) :: (.aload 0, []) :: (.iconst (-1003), []) :: (.invokevirtual 0, [129, 1, 12]) :: (.ireturn, []) :: []
def k190_26 : List mI := (.aload 0, []) :: (.iconst (-1001), []) :: (.invokevirtual 0, [129, 1, 12]) :: (.ireturn, []) :: []
def k190_0 : List mI := (.iload 1, []) :: (.invokestatic 0, [130, 1]) :: (.ifCond .eq 0, [26]) :: (.iload 2, []) :: (.invokestatic 0, [131, 1]) :: (.ifCond .eq 0, [26]) :: (.iload 3, []) :: (.i2l, []) :: (.jsr_w 0, []) :: (.jsr_w 255, []) :: (.invokestatic 0, [128, 3]) :: (.ifCond .ne 0, [34]) :: k190_26
def k191_78 : List mI := (.aload 0, []) :: (.invokevirtual 0, [185, 0, 12]) :: (.iload 1, []) :: (.ireturn, []) :: []
def k191_71 : List mI := (.istore 1, []) :: (.iinc 2 1, []) :: (.goto 0, [30]) :: []
def k191_70 : List mI := (.iconst (-1), []) :: k191_71
def k191_30 : List mI := (.iload 2, []) :: (.iconst 30, []) :: (.if_icmp .gt 0, [78]) :: (.iload 1, []) :: (.ifCond .ge 0, [78]) :: (.aload 0, []) :: (.aload 0, []) :: (.getfield 0, [12, 33]) :: (.aload 0, []) :: (.invokevirtual 0, [148, 0, 12]) :: (.invokevirtual 0, [180, 2, 12]) :: (.aload 0, []) :: (.getfield 0, [12, 1]) :: (.aload 0, []) :: (.getfield 0, [12, 3]) :: (.invokestatic 0, [182, 2]) :: (.ifCond .eq 0, [70]) :: (.iload 2, []) :: (.goto 0, [71]) :: []
def k191_15 : List mI := (.aload 0, []) :: (.getfield 0, [12, 1]) :: (.aload 0, []) :: (.getfield 0, [12, 3]) :: (.invokestatic 0, [181, 2]) :: (.iconst (-1), []) :: (.istore 1, []) :: (.iconst 1, []) :: (.istore 2, []) :: k191_30
def k191_0 : List mI := (.aload 0, []) :: (.getfield 0, [12, 17]) :: (.ifCond .ne 0, [15]) :: (.aload 0, []) :: (.iconst (-1003), []) :: (.invokevirtual 0, [129, 1, 12]) :: (.ireturn, []) :: []
def k192_14 : List mI := (.ireturn, [1]) :: []
def k192_13 : List mI := (.iconst 0, []) :: k192_14
def k192_0 : List mI := (.iload 0, []) :: (.ifCond .lt 0, [13]) :: (.iload 0, []) :: (.iconst 4, []) :: (.if_icmp .ge 0, [13]) :: (.iconst 1, []) :: (.goto 0, [14]) :: []
def k193_106 : List mI := (.iconst 1, []) :: (.ireturn, []) :: []
def k193_80 : List mI := (.iload 4, []) :: (.iconst 64, []) :: (.if_icmp .ge 0, [106]) :: (.aload 0, []) :: (.getfield 0, [12, 23]) :: (.iconst 64, []) :: (.iload 1, []) :: (.imul, []) :: (.iload 4, []) :: (.iadd, []) :: (.jsr_w 0, []) :: (.lastore, []) :: (.iinc 4 1, []) :: (.goto 0, [80]) :: []
def k193_76 : List mI := (.iastore, []) :: (.iconst 0, []) :: (.istore 4, []) :: k193_80
def k193_75 : List mI := (.iload 3, []) :: k193_76
def k193_55 : List mI := (.aload 0, []) :: (.getfield 0, [12, 24]) :: (.iload 1, []) :: (.iload 2, []) :: (.iastore, []) :: (.aload 0, []) :: (.getfield 0, [12, 25]) :: (.iload 1, []) :: (.iload 2, []) :: (.ifCond .ge 0, [75]) :: (.iconst 0, []) :: (.goto 0, [76]) :: []
def k193_39 : List mI := (.iload 2, []) :: (.ifCond .lt 0, [55]) :: (.iload 3, []) :: (.ifCond .ge 0, [55]) :: (.aload 0, []) :: (.iconst (-1005), []) :: (.invokevirtual 0, [129, 1, 12]) :: (.ireturn, []) :: []
def k193_31 : List mI := (.aload 0, []) :: (.iconst (-1001), []) :: (.invokevirtual 0, [129, 1, 12]) :: (.ireturn, []) :: []
def k193_0 : List mI := (.iload 1, []) :: (.invokestatic 0, [192, 1]) :: (.ifCond .eq 0, [31]) :: (.iload 2, []) :: (.i2l, []) :: (.jsr_w (-1), []) :: (.jsr_w 3, []) :: (.invokestatic 0, [128, 3]) :: (.ifCond .eq 0, [31]) :: (.iload 2, []) :: (.ifCond .lt 0, [39]) :: (.iload 3, []) :: (.iconst 64, []) :: (.if_icmp .le 0, [39]) :: k193_31
def k194_56 : List mI := (.lastore, []) :: (.return_, []) :: []
def k194_55 : List mI := (.lload 3, []) :: k194_56
def k194_43 : List mI := (.iload 5, []) :: (.iconst 2, []) :: (.if_icmp .ne 0, [55]) :: (.lload 3, []) :: (.l2i, []) :: (.i2l, []) :: (.goto 0, [56]) :: []
def k194_30 : List mI := (.iload 5, []) :: (.iconst 1, []) :: (.if_icmp .ne 0, [43]) :: (.lload 3, []) :: (.l2i, []) :: (.i2s, []) :: (.i2l, []) :: (.goto 0, [56]) :: []
def k194_0 : List mI := (.aload 0, []) :: (.getfield 0, [12, 24]) :: (.iload 1, []) :: (.iaload, []) :: (.istore 5, []) :: (.aload 0, []) :: (.getfield 0, [12, 23]) :: (.iconst 64, []) :: (.iload 1, []) :: (.imul, []) :: (.iload 2, []) :: (.iadd, []) :: (.iload 5, []) :: (.ifCond .ne 0, [30]) :: (.lload 3, []) :: (.l2i, []) :: (.i2b, []) :: (.i2l, []) :: (.goto 0, [56]) :: []
def k195_58 : List mI := (.aload 0, []) :: (.iload 1, []) :: (.iload 2, []) :: (.lload 3, []) :: (.invokevirtual 0, [194, 3, 12]) :: (.iconst 1, []) :: (.ireturn, []) :: []
def k195_32 : List mI := (.iload 2, []) :: (.i2l, []) :: (.jsr_w 0, []) :: (.aload 0, []) :: (.getfield 0, [12, 25]) :: (.iload 1, []) :: (.iaload, []) :: (.iconst 1, []) :: (.isub, []) :: (.i2l, []) :: (.invokestatic 0, [128, 3]) :: (.ifCond .ne 0, [58]) :: (.aload 0, []) :: (.iconst (-1005), []) :: (.invokevirtual 0, [129, 1, 12]) :: (.ireturn, []) :: []
def k195_15 : List mI := (.aload 0, []) :: (.getfield 0, [12, 24]) :: (.iload 1, []) :: (.iaload, []) :: (.ifCond .ge 0, [32]) :: (.aload 0, []) :: (.iconst (-1004), []) :: (.invokevirtual 0, [129, 1, 12]) :: (.ireturn, []) :: []
def k195_0 : List mI := (.iload 1, []) :: (.invokestatic 0, [192, 1]) :: (.ifCond .ne 0, [15]) :: (.aload 0, []) :: (.iconst (-1001), []) :: (.invokevirtual 0, [129, 1, 12]) :: (.ireturn, []) :: []
def k196_40 : List mI := (.lreturn, []) :: []
def k196_39 : List mI := (.jsr_w 0, []) :: k196_40
def k196_0 : List mI := (.iload 1, []) :: (.invokestatic 0, [192, 1]) :: (.ifCond .eq 0, [39]) :: (.iload 2, []) :: (.i2l, []) :: (.jsr_w 0, []) :: (.aload 0, []) :: (.getfield 0, [12, 25]) :: (.iload 1, []) :: (.iaload, []) :: (.iconst 1, []) :: (.isub, []) :: (.i2l, []) :: (.invokestatic 0, [128, 3]) :: (.ifCond .eq 0, [39]) :: (.aload 0, []) :: (.getfield 0, [12, 23]) :: (.iconst 64, []) :: (.iload 1, []) :: (.imul, []) :: (.iload 2, []) :: (.iadd, []) :: (.laload, []) :: (.goto 0, [40]) :: []
def k197_36 : List mI := (.ireturn, []) :: []
def k197_35 : List mI := (.iconst 0, []) :: k197_36
def k197_20 : List mI := (.aload 0, []) :: (.getfield 0, [12, 24]) :: (.iload 2, []) :: (.iaload, []) :: (.ifCond .ge 0, [35]) :: (.iconst (-1004), []) :: (.goto 0, [36]) :: []
def k197_14 : List mI := (.iconst (-1001), []) :: (.goto 0, [36]) :: []
def k197_0 : List mI := (.iload 1, []) :: (.invokestatic 0, [131, 1]) :: (.ifCond .eq 0, [14]) :: (.iload 2, []) :: (.invokestatic 0, [192, 1]) :: (.ifCond .ne 0, [20]) :: k197_14
def k198_89 : List mI := (.iload 5, []) :: (.ireturn, []) :: []
def k198_83 : List mI := (.iinc 6 1, []) :: (.goto 0, [31]) :: []
def k198_31 : List mI := (.iload 6, []) :: (.aload 0, []) :: (.getfield 0, [12, 25]) :: (.iload 2, []) :: (.iaload, []) :: (.if_icmp .ge 0, [89]) :: (.lload 3, []) :: (.iload 6, []) :: (.invokestatic 0, [133, 2]) :: (.ifCond .eq 0, [83]) :: (.aload 0, []) :: (.getfield 0, [12, 1]) :: (.iconst 64, []) :: (.iload 1, []) :: (.imul, []) :: (.iload 6, []) :: (.iadd, []) :: (.aload 0, []) :: (.getfield 0, [12, 23]) :: (.iconst 64, []) :: (.iload 2, []) :: (.imul, []) :: (.iload 6, []) :: (.iadd, []) :: (.laload, []) :: (.jsr_w 255, []) :: (.land, []) :: (.l2i, []) :: (.iastore, []) :: (.iinc 5 1, []) :: k198_83
def k198_20 : List mI := (.aload 0, []) :: (.invokevirtual 0, [148, 0, 12]) :: (.lstore 3, []) :: (.iconst 0, []) :: (.istore 5, []) :: (.iconst 0, []) :: (.istore 6, []) :: k198_31
def k198_0 : List mI := (.aload 0, []) :: (.iload 1, []) :: (.iload 2, []) :: (.invokevirtual 0, [197, 2, 12]) :: (.ifCond .eq 0, [20]) :: (.aload 0, []) :: (.aload 0, []) :: (.iload 1, []) :: (.iload 2, []) :: (.invokevirtual 0, [197, 2, 12]) :: (.invokevirtual 0, [129, 1, 12]) :: (.ireturn, []) :: []
def k199_56 : List mI := (.aload 0, []) :: (.getfield 0, [12, 25]) :: (.iload 2, []) :: (.iaload, []) :: (.ireturn, []) :: []
def k199_22 : List mI := (.iload 3, []) :: (.aload 0, []) :: (.getfield 0, [12, 25]) :: (.iload 2, []) :: (.iaload, []) :: (.if_icmp .ge 0, [56]) :: (.aload 0, []) :: (.iload 2, []) :: (.iload 3, []) :: (.aload 0, []) :: (.getfield 0, [12, 1]) :: (.iconst 64, []) :: (.iload 1, []) :: (.imul, []) :: (.iload 3, []) :: (.iadd, []) :: (.iaload, []) :: (.i2l, []) :: (.invokevirtual 0, [194, 3, 12]) :: (.iinc 3 1, []) :: (.goto 0, [22]) :: []
def k199_20 : List mI := (.iconst 0, []) :: (.istore 3, []) :: k199_22
def k199_0 : List mI := (.aload 0, []) :: (.iload 1, []) :: (.iload 2, []) :: (.invokevirtual 0, [197, 2, 12]) :: (.ifCond .eq 0, [20]) :: (.aload 0, []) :: (.aload 0, []) :: (.iload 1, []) :: (.iload 2, []) :: (.invokevirtual 0, [197, 2, 12]) :: (.invokevirtual 0, [129, 1, 12]) :: (.ireturn, []) :: []
def k200_67 : List mI := (.iconst (-1), []) :: (.ireturn, []) :: []
def k200_61 : List mI := (.iinc 3 1, []) :: (.goto 0, [22]) :: []
def k200_22 : List mI := (.iload 3, []) :: (.aload 0, []) :: (.getfield 0, [12, 25]) :: (.iload 2, []) :: (.iaload, []) :: (.if_icmp .ge 0, [67]) :: (.aload 0, []) :: (.getfield 0, [12, 23]) :: (.iconst 64, []) :: (.iload 2, []) :: (.imul, []) :: (.iload 3, []) :: (.iadd, []) :: (.laload, []) :: (.aload 0, []) :: (.getfield 0, [12, 1]) :: (.iconst 64, []) :: (.iload 1, []) :: (.imul, []) :: (.iload 3, []) :: (.iadd, []) :: (.iaload, []) :: (.i2l, []) :: (.lcmp, []) :: (.ifCond .eq 0, [61]) :: (.iload 3, []) :: (.ireturn, []) :: []
def k200_20 : List mI := (.iconst 0, []) :: (.istore 3, []) :: k200_22
def k200_0 : List mI := (.aload 0, []) :: (.iload 1, []) :: (.iload 2, []) :: (.invokevirtual 0, [197, 2, 12]) :: (.ifCond .eq 0, [20]) :: (.aload 0, []) :: (.aload 0, []) :: (.iload 1, []) :: (.iload 2, []) :: (.invokevirtual 0, [197, 2, 12]) :: (.invokevirtual 0, [129, 1, 12]) :: (.ireturn, []) :: []
def k201_48 : List mI := (.aload 0, []) :: (.aload 0, []) :: (.getfield 0, [12, 7]) :: (.putfield 0, [12, 8, 0]) :: (.aload 0, []) :: (.aload 0, []) :: (.getfield 0, [12, 9]) :: (.putfield 0, [12, 10, 0]) :: (.aload 0, []) :: (.aload 0, []) :: (.getfield 0, [12, 11]) :: (.putfield 0, [12, 12, 0]) :: (.aload 0, []) :: (.aload 0, []) :: (.getfield 0, [12, 17]) :: (.putfield 0, [12, 18, 0]) :: (.aload 0, []) :: (.aload 0, []) :: (.getfield 0, [12, 33]) :: (.putfield 0, [12, 34, 0]) :: (.aload 0, []) :: (.iconst 1, []) :: (.putfield 0, [12, 13, 2]) :: (.aload 0, []) :: (.getfield 0, [12, 11]) :: (.ireturn, []) :: []
def k201_24 : List mI := (.iload 1, []) :: (.iconst 8, []) :: (.if_icmp .ge 0, [48]) :: (.aload 0, []) :: (.getfield 0, [12, 6]) :: (.iload 1, []) :: (.aload 0, []) :: (.getfield 0, [12, 5]) :: (.iload 1, []) :: (.laload, []) :: (.lastore, []) :: (.iinc 1 1, []) :: (.goto 0, [24]) :: []
def k201_0 : List mI := (.aload 0, []) :: (.getfield 0, [12, 1]) :: (.aload 0, []) :: (.getfield 0, [12, 4]) :: (.invokestatic 0, [181, 2]) :: (.aload 0, []) :: (.getfield 0, [12, 14]) :: (.aload 0, []) :: (.getfield 0, [12, 15]) :: (.invokestatic 0, [181, 2]) :: (.iconst 0, []) :: (.istore 1, []) :: k201_24
def k202_63 : List mI := (.aload 0, []) :: (.aload 0, []) :: (.getfield 0, [12, 8]) :: (.putfield 0, [12, 7, 0]) :: (.aload 0, []) :: (.aload 0, []) :: (.getfield 0, [12, 10]) :: (.putfield 0, [12, 9, 0]) :: (.aload 0, []) :: (.aload 0, []) :: (.getfield 0, [12, 12]) :: (.putfield 0, [12, 11, 0]) :: (.aload 0, []) :: (.aload 0, []) :: (.getfield 0, [12, 18]) :: (.putfield 0, [12, 17, 0]) :: (.aload 0, []) :: (.aload 0, []) :: (.getfield 0, [12, 34]) :: (.putfield 0, [12, 33, 0]) :: (.aload 0, []) :: (.getfield 0, [12, 11]) :: (.ireturn, []) :: []
def k202_39 : List mI := (.iload 1, []) :: (.iconst 8, []) :: (.if_icmp .ge 0, [63]) :: (.aload 0, []) :: (.getfield 0, [12, 5]) :: (.iload 1, []) :: (.aload 0, []) :: (.getfield 0, [12, 6]) :: (.iload 1, []) :: (.laload, []) :: (.lastore, []) :: (.iinc 1 1, []) :: (.goto 0, [39]) :: []
def k202_15 : List mI := (.aload 0, []) :: (.getfield 0, [12, 4]) :: (.aload 0, []) :: (.getfield 0, [12, 1]) :: (.invokestatic 0, [181, 2]) :: (.aload 0, []) :: (.getfield 0, [12, 15]) :: (.aload 0, []) :: (.getfield 0, [12, 14]) :: (.invokestatic 0, [181, 2]) :: (.iconst 0, []) :: (.istore 1, []) :: k202_39
def k202_0 : List mI := (.aload 0, []) :: (.getfield 0, [12, 13]) :: (.ifCond .ne 0, [15]) :: (.aload 0, []) :: (.iconst (-1003), []) :: (.invokevirtual 0, [129, 1, 12]) :: (.ireturn, []) :: []
def k203_61 : List mI := (.aload 0, []) :: (.iconst (-1001), []) :: (.invokevirtual 0, [129, 1, 12]) :: (.ireturn, []) :: []
def k203_56 : List mI := (.aload 0, []) :: (.getfield 0, [12, 9]) :: (.ireturn, []) :: []
def k203_51 : List mI := (.aload 0, []) :: (.getfield 0, [12, 17]) :: (.ireturn, []) :: []
def k203_46 : List mI := (.aload 0, []) :: (.getfield 0, [12, 22]) :: (.ireturn, []) :: []
def k203_41 : List mI := (.aload 0, []) :: (.getfield 0, [12, 7]) :: (.ireturn, []) :: []
def k203_36 : List mI := (.aload 0, []) :: (.getfield 0, [12, 11]) :: (.ireturn, []) :: []
def k203_0 : List mI := (.iload 1, []) :: (.tableswitch 0 0 4 #[], [61, 36, 41, 46, 51, 56]) :: []
def k204_28 : List mI := (.ireturn, []) :: []
def k204_21 : List mI := (.aload 0, []) :: (.iconst (-1001), []) :: (.invokevirtual 0, [129, 1, 12]) :: k204_28
def k204_0 : List mI := (.iload 1, []) :: (.i2l, []) :: (.jsr_w 0, []) :: (.jsr_w 4, []) :: (.invokestatic 0, [128, 3]) :: (.ifCond .eq 0, [21]) :: (.aload 0, []) :: (.getfield 0, [12, 0]) :: (.iload 1, []) :: (.iaload, []) :: (.goto 0, [28]) :: []
def k205_74 : List mI := (.iload 1, []) :: (.iload 0, []) :: (.iconst 1, []) :: (.iushr, []) :: (.iadd, []) :: (.ireturn, []) :: []
def k205_62 : List mI := (.iload 0, []) :: (.iconst 4, []) :: (.if_icmp .le 0, [74]) :: (.iinc 1 2, []) :: (.iload 0, []) :: (.iconst 2, []) :: (.iushr, []) :: (.istore 0, []) :: k205_74
def k205_49 : List mI := (.iload 0, []) :: (.iconst 16, []) :: (.if_icmp .le 0, [62]) :: (.iinc 1 4, []) :: (.iload 0, []) :: (.iconst 4, []) :: (.iushr, []) :: (.istore 0, []) :: k205_62
def k205_34 : List mI := (.iload 0, []) :: (.iconst 256, []) :: (.if_icmp .le 0, [49]) :: (.iinc 1 8, []) :: (.iload 0, []) :: (.iconst 8, []) :: (.iushr, []) :: (.istore 0, []) :: k205_49
def k205_17 : List mI := (.iconst 1, []) :: (.istore 1, []) :: (.iload 0, []) :: (.iconst 65536, []) :: (.if_icmp .le 0, [34]) :: (.iinc 1 16, []) :: (.iload 0, []) :: (.iconst 16, []) :: (.iushr, []) :: (.istore 0, []) :: k205_34
def k205_0 : List mI := (.iload 0, []) :: (.iconst (-1), []) :: (.ixor, []) :: (.iload 0, []) :: (.iconst 1, []) :: (.isub, []) :: (.iand, []) :: (.istore 0, []) :: (.iload 0, []) :: (.ifCond .gt 0, [17]) :: (.iload 0, []) :: (.iconst 32, []) :: (.iand, []) :: (.ireturn, []) :: []
def k206_25 : List mI := (.ireturn, []) :: []
def k206_21 : List mI := (.iload 2, []) :: (.invokestatic 0, [205, 1]) :: k206_25
def k206_0 : List mI := (.lload 0, []) :: (.l2i, []) :: (.istore 2, []) :: (.iload 2, []) :: (.ifCond .ne 0, [21]) :: (.iconst 32, []) :: (.lload 0, []) :: (.iconst 32, []) :: (.lushr, []) :: (.l2i, []) :: (.invokestatic 0, [205, 1]) :: (.iadd, []) :: (.goto 0, [25]) :: []
def k207_0 : List mI := (.lload 0, []) :: (.lload 0, []) :: (.iconst 1, []) :: (.lushr, []) :: (.jsr_w 6148914691236517205, []) :: (.land, []) :: (.lsub, []) :: (.lstore 0, []) :: (.lload 0, []) :: (.jsr_w 3689348814741910323, []) :: (.land, []) :: (.lload 0, []) :: (.iconst 2, []) :: (.lushr, []) :: (.jsr_w 3689348814741910323, []) :: (.land, []) :: (.ladd, []) :: (.lstore 0, []) :: (.lload 0, []) :: (.lload 0, []) :: (.iconst 4, []) :: (.lushr, []) :: (.ladd, []) :: (.jsr_w 1085102592571150095, []) :: (.land, []) :: (.lstore 0, []) :: (.lload 0, []) :: (.lload 0, []) :: (.iconst 8, []) :: (.lushr, []) :: (.ladd, []) :: (.lstore 0, []) :: (.lload 0, []) :: (.lload 0, []) :: (.iconst 16, []) :: (.lushr, []) :: (.ladd, []) :: (.lstore 0, []) :: (.lload 0, []) :: (.lload 0, []) :: (.iconst 32, []) :: (.lushr, []) :: (.ladd, []) :: (.lstore 0, []) :: (.lload 0, []) :: (.l2i, []) :: (.iconst 127, []) :: (.iand, []) :: (.ireturn, []) :: []
def k208_0 : List mI := (.lload 0, []) :: (.iload 2, []) :: (.lshl, []) :: (.lload 0, []) :: (.iload 2, []) :: (.ineg, []) :: (.lushr, []) :: (.lor, []) :: (.lreturn, []) :: []
def k209_0 : List mI := (.lload 0, []) :: (.iload 2, []) :: (.lushr, []) :: (.lload 0, []) :: (.iload 2, []) :: (.ineg, []) :: (.lshl, []) :: (.lor, []) :: (.lreturn, []) :: []
def k210_22 : List mI := (.return_, []) :: []
def k210_6 : List mI := (.iload 3, []) :: (.iload 4, []) :: (.if_icmp .ge 0, [22]) :: (.aload 0, []) :: (.iload 3, []) :: (.lload 1, []) :: (.lastore, []) :: (.iinc 3 1, []) :: (.goto 0, [6]) :: []
def k210_0 : List mI := (.iconst 0, []) :: (.istore 3, []) :: (.aload 0, []) :: (.arraylength, []) :: (.istore 4, []) :: k210_6
def k211_14 : List mI := (.iload 1, []) :: (.newarray .int, []) :: (.astore 2, []) :: (.aload 0, []) :: (.iconst 0, []) :: (.aload 2, []) :: (.iconst 0, []) :: (.aload 0, []) :: (.arraylength, []) :: (.iload 1, []) :: (.invokestatic 0, [2]) :: (.invokestatic 0, []) :: (.aload 2, []) :: (.areturn, []) :: []
def k211_0 : List mI := (.iload 1, []) :: (.aload 0, []) :: (.arraylength, []) :: (.if_icmp .ne 0, [14]) :: (.aload 0, []) :: []
def k212_1443 : List mI := (.iconst 1, []) :: (.ireturn, [1]) :: []
def k212_1437 : List mI := (.iinc 3 5, []) :: (.goto 0, [18]) :: []
def k212_1414 : List mI := (.aload 1, []) :: (.aload 0, []) :: (.iload 3, []) :: (.iconst 1, []) :: (.iadd, []) :: (.iaload, []) :: (.invokevirtual 0, [113, 1, 11]) :: (.aload 2, []) :: (.aload 0, []) :: (.iload 3, []) :: (.iconst 1, []) :: (.iadd, []) :: (.iaload, []) :: (.invokevirtual 0, [204, 1, 12]) :: (.if_icmp .eq 0, [1437]) :: (.iconst 0, []) :: (.ireturn, [1]) :: []
def k212_1391 : List mI := (.aload 1, []) :: (.aload 0, []) :: (.iload 3, []) :: (.iconst 1, []) :: (.iadd, []) :: (.iaload, []) :: (.invokevirtual 0, [112, 1, 11]) :: (.aload 2, []) :: (.aload 0, []) :: (.iload 3, []) :: (.iconst 1, []) :: (.iadd, []) :: (.iaload, []) :: (.invokevirtual 0, [203, 1, 12]) :: (.if_icmp .eq 0, [1437]) :: (.iconst 0, []) :: (.ireturn, [1]) :: []
def k212_1378 : List mI := (.aload 1, []) :: (.invokevirtual 0, [111, 0, 11]) :: (.aload 2, []) :: (.invokevirtual 0, [202, 0, 12]) :: (.if_icmp .eq 0, [1437]) :: (.iconst 0, []) :: (.ireturn, [1]) :: []
def k212_1365 : List mI := (.aload 1, []) :: (.invokevirtual 0, [110, 0, 11]) :: (.aload 2, []) :: (.invokevirtual 0, [201, 0, 12]) :: (.if_icmp .eq 0, [1437]) :: (.iconst 0, []) :: (.ireturn, [1]) :: []
def k212_1332 : List mI := (.aload 1, []) :: (.aload 0, []) :: (.iload 3, []) :: (.iconst 1, []) :: (.iadd, []) :: (.iaload, []) :: (.aload 0, []) :: (.iload 3, []) :: (.iconst 2, []) :: (.iadd, []) :: (.iaload, []) :: (.invokevirtual 0, [109, 2, 11]) :: (.aload 2, []) :: (.aload 0, []) :: (.iload 3, []) :: (.iconst 1, []) :: (.iadd, []) :: (.iaload, []) :: (.aload 0, []) :: (.iload 3, []) :: (.iconst 2, []) :: (.iadd, []) :: (.iaload, []) :: (.invokevirtual 0, [200, 2, 12]) :: (.if_icmp .eq 0, [1437]) :: (.iconst 0, []) :: (.ireturn, [1]) :: []
def k212_1299 : List mI := (.aload 1, []) :: (.aload 0, []) :: (.iload 3, []) :: (.iconst 1, []) :: (.iadd, []) :: (.iaload, []) :: (.aload 0, []) :: (.iload 3, []) :: (.iconst 2, []) :: (.iadd, []) :: (.iaload, []) :: (.invokevirtual 0, [108, 2, 11]) :: (.aload 2, []) :: (.aload 0, []) :: (.iload 3, []) :: (.iconst 1, []) :: (.iadd, []) :: (.iaload, []) :: (.aload 0, []) :: (.iload 3, []) :: (.iconst 2, []) :: (.iadd, []) :: (.iaload, []) :: (.invokevirtual 0, [199, 2, 12]) :: (.if_icmp .eq 0, [1437]) :: (.iconst 0, []) :: (.ireturn, [1]) :: []
def k212_1266 : List mI := (.aload 1, []) :: (.aload 0, []) :: (.iload 3, []) :: (.iconst 1, []) :: (.iadd, []) :: (.iaload, []) :: (.aload 0, []) :: (.iload 3, []) :: (.iconst 2, []) :: (.iadd, []) :: (.iaload, []) :: (.invokevirtual 0, [107, 2, 11]) :: (.aload 2, []) :: (.aload 0, []) :: (.iload 3, []) :: (.iconst 1, []) :: (.iadd, []) :: (.iaload, []) :: (.aload 0, []) :: (.iload 3, []) :: (.iconst 2, []) :: (.iadd, []) :: (.iaload, []) :: (.invokevirtual 0, [198, 2, 12]) :: (.if_icmp .eq 0, [1437]) :: (.iconst 0, []) :: (.ireturn, [1]) :: []
def k212_1232 : List mI := (.aload 1, []) :: (.aload 0, []) :: (.iload 3, []) :: (.iconst 1, []) :: (.iadd, []) :: (.iaload, []) :: (.aload 0, []) :: (.iload 3, []) :: (.iconst 2, []) :: (.iadd, []) :: (.iaload, []) :: (.invokevirtual 0, [106, 2, 11]) :: (.aload 2, []) :: (.aload 0, []) :: (.iload 3, []) :: (.iconst 1, []) :: (.iadd, []) :: (.iaload, []) :: (.aload 0, []) :: (.iload 3, []) :: (.iconst 2, []) :: (.iadd, []) :: (.iaload, []) :: (.invokevirtual 0, [196, 2, 12]) :: (.lcmp, []) :: (.ifCond .eq 0, [1437]) :: (.iconst 0, []) :: (.ireturn, [1]) :: []
def k212_1159 : List mI := (.aload 1, []) :: (.aload 0, []) :: (.iload 3, []) :: (.iconst 1, []) :: (.iadd, []) :: (.iaload, []) :: (.aload 0, []) :: (.iload 3, []) :: (.iconst 2, []) :: (.iadd, []) :: (.iaload, []) :: (.aload 0, []) :: (.iload 3, []) :: (.iconst 3, []) :: (.iadd, []) :: (.iaload, []) :: (.i2l, []) :: (.iconst 32, []) :: (.lshl, []) :: (.aload 0, []) :: (.iload 3, []) :: (.iconst 4, []) :: (.iadd, []) :: (.iaload, []) :: (.i2l, []) :: (.jsr_w 4294967295, []) :: (.land, []) :: (.lor, []) :: (.invokevirtual 0, [105, 3, 11]) :: (.aload 2, []) :: (.aload 0, []) :: (.iload 3, []) :: (.iconst 1, []) :: (.iadd, []) :: (.iaload, []) :: (.aload 0, []) :: (.iload 3, []) :: (.iconst 2, []) :: (.iadd, []) :: (.iaload, []) :: (.aload 0, []) :: (.iload 3, []) :: (.iconst 3, []) :: (.iadd, []) :: (.iaload, []) :: (.i2l, []) :: (.iconst 32, []) :: (.lshl, []) :: (.aload 0, []) :: (.iload 3, []) :: (.iconst 4, []) :: (.iadd, []) :: (.iaload, []) :: (.i2l, []) :: (.jsr_w 4294967295, []) :: (.land, []) :: (.lor, []) :: (.invokevirtual 0, [195, 3, 12]) :: (.if_icmp .eq 0, [1437]) :: (.iconst 0, []) :: (.ireturn, [1]) :: []
def k212_1116 : List mI := (.aload 1, []) :: (.aload 0, []) :: (.iload 3, []) :: (.iconst 1, []) :: (.iadd, []) :: (.iaload, []) :: (.aload 0, []) :: (.iload 3, []) :: (.iconst 2, []) :: (.iadd, []) :: (.iaload, []) :: (.aload 0, []) :: (.iload 3, []) :: (.iconst 3, []) :: (.iadd, []) :: (.iaload, []) :: (.invokevirtual 0, [104, 3, 11]) :: (.aload 2, []) :: (.aload 0, []) :: (.iload 3, []) :: (.iconst 1, []) :: (.iadd, []) :: (.iaload, []) :: (.aload 0, []) :: (.iload 3, []) :: (.iconst 2, []) :: (.iadd, []) :: (.iaload, []) :: (.aload 0, []) :: (.iload 3, []) :: (.iconst 3, []) :: (.iadd, []) :: (.iaload, []) :: (.invokevirtual 0, [193, 3, 12]) :: (.if_icmp .eq 0, [1437]) :: (.iconst 0, []) :: (.ireturn, [1]) :: []
def k212_1103 : List mI := (.aload 1, []) :: (.invokevirtual 0, [103, 0, 11]) :: (.aload 2, []) :: (.invokevirtual 0, [191, 0, 12]) :: (.if_icmp .eq 0, [1437]) :: (.iconst 0, []) :: (.ireturn, [1]) :: []
def k212_1060 : List mI := (.aload 1, []) :: (.aload 0, []) :: (.iload 3, []) :: (.iconst 1, []) :: (.iadd, []) :: (.iaload, []) :: (.aload 0, []) :: (.iload 3, []) :: (.iconst 2, []) :: (.iadd, []) :: (.iaload, []) :: (.aload 0, []) :: (.iload 3, []) :: (.iconst 3, []) :: (.iadd, []) :: (.iaload, []) :: (.invokevirtual 0, [102, 3, 11]) :: (.aload 2, []) :: (.aload 0, []) :: (.iload 3, []) :: (.iconst 1, []) :: (.iadd, []) :: (.iaload, []) :: (.aload 0, []) :: (.iload 3, []) :: (.iconst 2, []) :: (.iadd, []) :: (.iaload, []) :: (.aload 0, []) :: (.iload 3, []) :: (.iconst 3, []) :: (.iadd, []) :: (.iaload, []) :: (.invokevirtual 0, [190, 3, 12]) :: (.if_icmp .eq 0, [1437]) :: (.iconst 0, []) :: (.ireturn, [1]) :: []
def k212_1047 : List mI := (.aload 1, []) :: (.invokevirtual 0, [101, 0, 11]) :: (.aload 2, []) :: (.invokevirtual 0, [189, 0, 12]) :: (.if_icmp .eq 0, [1437]) :: (.iconst 0, []) :: (.ireturn, [1]) :: []
def k212_1023 : List mI := (.aload 1, []) :: (.aload 0, []) :: (.iload 3, []) :: (.iconst 1, []) :: (.iadd, []) :: (.iaload, []) :: (.invokevirtual 0, [100, 1, 11]) :: (.aload 2, []) :: (.aload 0, []) :: (.iload 3, []) :: (.iconst 1, []) :: (.iadd, []) :: (.iaload, []) :: (.invokevirtual 0, [188, 1, 12]) :: (.lcmp, []) :: (.ifCond .eq 0, [1437]) :: (.iconst 0, []) :: (.ireturn, [1]) :: []
def k212_1000 : List mI := (.aload 1, []) :: (.aload 0, []) :: (.iload 3, []) :: (.iconst 1, []) :: (.iadd, []) :: (.iaload, []) :: (.invokevirtual 0, [99, 1, 11]) :: (.aload 2, []) :: (.aload 0, []) :: (.iload 3, []) :: (.iconst 1, []) :: (.iadd, []) :: (.iaload, []) :: (.invokevirtual 0, [187, 1, 12]) :: (.if_icmp .eq 0, [1437]) :: (.iconst 0, []) :: (.ireturn, [1]) :: []
def k212_957 : List mI := (.aload 1, []) :: (.aload 0, []) :: (.iload 3, []) :: (.iconst 1, []) :: (.iadd, []) :: (.iaload, []) :: (.aload 0, []) :: (.iload 3, []) :: (.iconst 2, []) :: (.iadd, []) :: (.iaload, []) :: (.aload 0, []) :: (.iload 3, []) :: (.iconst 3, []) :: (.iadd, []) :: (.iaload, []) :: (.invokevirtual 0, [98, 3, 11]) :: (.aload 2, []) :: (.aload 0, []) :: (.iload 3, []) :: (.iconst 1, []) :: (.iadd, []) :: (.iaload, []) :: (.aload 0, []) :: (.iload 3, []) :: (.iconst 2, []) :: (.iadd, []) :: (.iaload, []) :: (.aload 0, []) :: (.iload 3, []) :: (.iconst 3, []) :: (.iadd, []) :: (.iaload, []) :: (.invokevirtual 0, [186, 3, 12]) :: (.if_icmp .eq 0, [1437]) :: (.iconst 0, []) :: (.ireturn, [1]) :: []
def k212_934 : List mI := (.aload 1, []) :: (.aload 0, []) :: (.iload 3, []) :: (.iconst 1, []) :: (.iadd, []) :: (.iaload, []) :: (.invokevirtual 0, [97, 1, 11]) :: (.aload 2, []) :: (.aload 0, []) :: (.iload 3, []) :: (.iconst 1, []) :: (.iadd, []) :: (.iaload, []) :: (.invokevirtual 0, [183, 1, 12]) :: (.if_icmp .eq 0, [1437]) :: (.iconst 0, []) :: (.ireturn, [1]) :: []
def k212_921 : List mI := (.aload 1, []) :: (.invokevirtual 0, [96, 0, 11]) :: (.aload 2, []) :: (.invokevirtual 0, [176, 0, 12]) :: (.if_icmp .eq 0, [1437]) :: (.iconst 0, []) :: (.ireturn, [1]) :: []
def k212_908 : List mI := (.aload 1, []) :: (.invokevirtual 0, [95, 0, 11]) :: (.aload 2, []) :: (.invokevirtual 0, [161, 0, 12]) :: (.if_icmp .eq 0, [1437]) :: (.iconst 0, []) :: (.ireturn, [1]) :: []
def k212_845 : List mI := (.aload 1, []) :: (.aload 0, []) :: (.iload 3, []) :: (.iconst 1, []) :: (.iadd, []) :: (.iaload, []) :: (.i2l, []) :: (.iconst 32, []) :: (.lshl, []) :: (.aload 0, []) :: (.iload 3, []) :: (.iconst 2, []) :: (.iadd, []) :: (.iaload, []) :: (.i2l, []) :: (.jsr_w 4294967295, []) :: (.land, []) :: (.lor, []) :: (.aload 0, []) :: (.iload 3, []) :: (.iconst 3, []) :: (.iadd, []) :: (.iaload, []) :: (.invokevirtual 0, [94, 2, 11]) :: (.aload 2, []) :: (.aload 0, []) :: (.iload 3, []) :: (.iconst 1, []) :: (.iadd, []) :: (.iaload, []) :: (.i2l, []) :: (.iconst 32, []) :: (.lshl, []) :: (.aload 0, []) :: (.iload 3, []) :: (.iconst 2, []) :: (.iadd, []) :: (.iaload, []) :: (.i2l, []) :: (.jsr_w 4294967295, []) :: (.land, []) :: (.lor, []) :: (.aload 0, []) :: (.iload 3, []) :: (.iconst 3, []) :: (.iadd, []) :: (.iaload, []) :: (.invokevirtual 0, [160, 2, 12]) :: (.if_icmp .eq 0, [1437]) :: (.iconst 0, []) :: (.ireturn, [1]) :: []
def k212_802 : List mI := (.aload 1, []) :: (.aload 0, []) :: (.iload 3, []) :: (.iconst 1, []) :: (.iadd, []) :: (.iaload, []) :: (.aload 0, []) :: (.iload 3, []) :: (.iconst 2, []) :: (.iadd, []) :: (.iaload, []) :: (.aload 0, []) :: (.iload 3, []) :: (.iconst 3, []) :: (.iadd, []) :: (.iaload, []) :: (.invokevirtual 0, [93, 3, 11]) :: (.aload 2, []) :: (.aload 0, []) :: (.iload 3, []) :: (.iconst 1, []) :: (.iadd, []) :: (.iaload, []) :: (.aload 0, []) :: (.iload 3, []) :: (.iconst 2, []) :: (.iadd, []) :: (.iaload, []) :: (.aload 0, []) :: (.iload 3, []) :: (.iconst 3, []) :: (.iadd, []) :: (.iaload, []) :: (.invokevirtual 0, [159, 3, 12]) :: (.if_icmp .eq 0, [1437]) :: (.iconst 0, []) :: (.ireturn, [1]) :: []
def k212_779 : List mI := (.aload 1, []) :: (.aload 0, []) :: (.iload 3, []) :: (.iconst 1, []) :: (.iadd, []) :: (.iaload, []) :: (.invokevirtual 0, [92, 1, 11]) :: (.aload 2, []) :: (.aload 0, []) :: (.iload 3, []) :: (.iconst 1, []) :: (.iadd, []) :: (.iaload, []) :: (.invokevirtual 0, [158, 1, 12]) :: (.if_icmp .eq 0, [1437]) :: (.iconst 0, []) :: (.ireturn, [1]) :: []
def k212_745 : List mI := (.aload 1, []) :: (.aload 0, []) :: (.iload 3, []) :: (.iconst 1, []) :: (.iadd, []) :: (.iaload, []) :: (.aload 0, []) :: (.iload 3, []) :: (.iconst 2, []) :: (.iadd, []) :: (.iaload, []) :: (.invokevirtual 0, [91, 2, 11]) :: (.aload 2, []) :: (.aload 0, []) :: (.iload 3, []) :: (.iconst 1, []) :: (.iadd, []) :: (.iaload, []) :: (.aload 0, []) :: (.iload 3, []) :: (.iconst 2, []) :: (.iadd, []) :: (.iaload, []) :: (.invokevirtual 0, [157, 2, 12]) :: (.lcmp, []) :: (.ifCond .eq 0, [1437]) :: (.iconst 0, []) :: (.ireturn, [1]) :: []
def k212_721 : List mI := (.aload 1, []) :: (.aload 0, []) :: (.iload 3, []) :: (.iconst 1, []) :: (.iadd, []) :: (.iaload, []) :: (.invokevirtual 0, [90, 1, 11]) :: (.aload 2, []) :: (.aload 0, []) :: (.iload 3, []) :: (.iconst 1, []) :: (.iadd, []) :: (.iaload, []) :: (.invokevirtual 0, [155, 1, 12]) :: (.lcmp, []) :: (.ifCond .eq 0, [1437]) :: (.iconst 0, []) :: (.ireturn, [1]) :: []
def k212_688 : List mI := (.aload 1, []) :: (.aload 0, []) :: (.iload 3, []) :: (.iconst 1, []) :: (.iadd, []) :: (.iaload, []) :: (.aload 0, []) :: (.iload 3, []) :: (.iconst 2, []) :: (.iadd, []) :: (.iaload, []) :: (.invokevirtual 0, [89, 2, 11]) :: (.aload 2, []) :: (.aload 0, []) :: (.iload 3, []) :: (.iconst 1, []) :: (.iadd, []) :: (.iaload, []) :: (.aload 0, []) :: (.iload 3, []) :: (.iconst 2, []) :: (.iadd, []) :: (.iaload, []) :: (.invokevirtual 0, [154, 2, 12]) :: (.if_icmp .eq 0, [1437]) :: (.iconst 0, []) :: (.ireturn, [1]) :: []
def k212_645 : List mI := (.aload 1, []) :: (.aload 0, []) :: (.iload 3, []) :: (.iconst 1, []) :: (.iadd, []) :: (.iaload, []) :: (.aload 0, []) :: (.iload 3, []) :: (.iconst 2, []) :: (.iadd, []) :: (.iaload, []) :: (.aload 0, []) :: (.iload 3, []) :: (.iconst 3, []) :: (.iadd, []) :: (.iaload, []) :: (.invokevirtual 0, [88, 3, 11]) :: (.aload 2, []) :: (.aload 0, []) :: (.iload 3, []) :: (.iconst 1, []) :: (.iadd, []) :: (.iaload, []) :: (.aload 0, []) :: (.iload 3, []) :: (.iconst 2, []) :: (.iadd, []) :: (.iaload, []) :: (.aload 0, []) :: (.iload 3, []) :: (.iconst 3, []) :: (.iadd, []) :: (.iaload, []) :: (.invokevirtual 0, [153, 3, 12]) :: (.if_icmp .eq 0, [1437]) :: (.iconst 0, []) :: (.ireturn, [1]) :: []
def k212_612 : List mI := (.aload 1, []) :: (.aload 0, []) :: (.iload 3, []) :: (.iconst 1, []) :: (.iadd, []) :: (.iaload, []) :: (.aload 0, []) :: (.iload 3, []) :: (.iconst 2, []) :: (.iadd, []) :: (.iaload, []) :: (.invokevirtual 0, [87, 2, 11]) :: (.aload 2, []) :: (.aload 0, []) :: (.iload 3, []) :: (.iconst 1, []) :: (.iadd, []) :: (.iaload, []) :: (.aload 0, []) :: (.iload 3, []) :: (.iconst 2, []) :: (.iadd, []) :: (.iaload, []) :: (.invokevirtual 0, [152, 2, 12]) :: (.if_icmp .eq 0, [1437]) :: (.iconst 0, []) :: (.ireturn, [1]) :: []
def k212_598 : List mI := (.aload 1, []) :: (.invokevirtual 0, [86, 0, 11]) :: (.aload 2, []) :: (.invokevirtual 0, [148, 0, 12]) :: (.lcmp, []) :: (.ifCond .eq 0, [1437]) :: (.iconst 0, []) :: (.ireturn, [1]) :: []
def k212_585 : List mI := (.aload 1, []) :: (.invokevirtual 0, [85, 0, 11]) :: (.aload 2, []) :: (.invokevirtual 0, [151, 0, 12]) :: (.if_icmp .eq 0, [1437]) :: (.iconst 0, []) :: (.ireturn, [1]) :: []
def k212_572 : List mI := (.aload 1, []) :: (.invokevirtual 0, [84, 0, 11]) :: (.aload 2, []) :: (.invokevirtual 0, [150, 0, 12]) :: (.if_icmp .eq 0, [1437]) :: (.iconst 0, []) :: (.ireturn, [1]) :: []
def k212_539 : List mI := (.aload 1, []) :: (.aload 0, []) :: (.iload 3, []) :: (.iconst 1, []) :: (.iadd, []) :: (.iaload, []) :: (.aload 0, []) :: (.iload 3, []) :: (.iconst 2, []) :: (.iadd, []) :: (.iaload, []) :: (.invokevirtual 0, [83, 2, 11]) :: (.aload 2, []) :: (.aload 0, []) :: (.iload 3, []) :: (.iconst 1, []) :: (.iadd, []) :: (.iaload, []) :: (.aload 0, []) :: (.iload 3, []) :: (.iconst 2, []) :: (.iadd, []) :: (.iaload, []) :: (.invokevirtual 0, [149, 2, 12]) :: (.if_icmp .eq 0, [1437]) :: (.iconst 0, []) :: (.ireturn, [1]) :: []
def k212_516 : List mI := (.aload 1, []) :: (.aload 0, []) :: (.iload 3, []) :: (.iconst 1, []) :: (.iadd, []) :: (.iaload, []) :: (.invokevirtual 0, [82, 1, 11]) :: (.aload 2, []) :: (.aload 0, []) :: (.iload 3, []) :: (.iconst 1, []) :: (.iadd, []) :: (.iaload, []) :: (.invokevirtual 0, [147, 1, 12]) :: (.if_icmp .eq 0, [1437]) :: (.iconst 0, []) :: (.ireturn, [1]) :: []
def k212_473 : List mI := (.aload 1, []) :: (.aload 0, []) :: (.iload 3, []) :: (.iconst 1, []) :: (.iadd, []) :: (.iaload, []) :: (.aload 0, []) :: (.iload 3, []) :: (.iconst 2, []) :: (.iadd, []) :: (.iaload, []) :: (.aload 0, []) :: (.iload 3, []) :: (.iconst 3, []) :: (.iadd, []) :: (.iaload, []) :: (.invokevirtual 0, [81, 3, 11]) :: (.aload 2, []) :: (.aload 0, []) :: (.iload 3, []) :: (.iconst 1, []) :: (.iadd, []) :: (.iaload, []) :: (.aload 0, []) :: (.iload 3, []) :: (.iconst 2, []) :: (.iadd, []) :: (.iaload, []) :: (.aload 0, []) :: (.iload 3, []) :: (.iconst 3, []) :: (.iadd, []) :: (.iaload, []) :: (.invokevirtual 0, [146, 3, 12]) :: (.if_icmp .eq 0, [1437]) :: (.iconst 0, []) :: (.ireturn, [1]) :: []
def k212_420 : List mI := (.aload 1, []) :: (.aload 0, []) :: (.iload 3, []) :: (.iconst 1, []) :: (.iadd, []) :: (.iaload, []) :: (.aload 0, []) :: (.iload 3, []) :: (.iconst 2, []) :: (.iadd, []) :: (.iaload, []) :: (.aload 0, []) :: (.iload 3, []) :: (.iconst 3, []) :: (.iadd, []) :: (.iaload, []) :: (.aload 0, []) :: (.iload 3, []) :: (.iconst 4, []) :: (.iadd, []) :: (.iaload, []) :: (.invokevirtual 0, [80, 4, 11]) :: (.aload 2, []) :: (.aload 0, []) :: (.iload 3, []) :: (.iconst 1, []) :: (.iadd, []) :: (.iaload, []) :: (.aload 0, []) :: (.iload 3, []) :: (.iconst 2, []) :: (.iadd, []) :: (.iaload, []) :: (.aload 0, []) :: (.iload 3, []) :: (.iconst 3, []) :: (.iadd, []) :: (.iaload, []) :: (.aload 0, []) :: (.iload 3, []) :: (.iconst 4, []) :: (.iadd, []) :: (.iaload, []) :: (.invokevirtual 0, [143, 4, 12]) :: (.if_icmp .eq 0, [1437]) :: (.iconst 0, []) :: (.ireturn, [1]) :: []
def k212_387 : List mI := (.aload 1, []) :: (.aload 0, []) :: (.iload 3, []) :: (.iconst 1, []) :: (.iadd, []) :: (.iaload, []) :: (.aload 0, []) :: (.iload 3, []) :: (.iconst 2, []) :: (.iadd, []) :: (.iaload, []) :: (.invokevirtual 0, [79, 2, 11]) :: (.aload 2, []) :: (.aload 0, []) :: (.iload 3, []) :: (.iconst 1, []) :: (.iadd, []) :: (.iaload, []) :: (.aload 0, []) :: (.iload 3, []) :: (.iconst 2, []) :: (.iadd, []) :: (.iaload, []) :: (.invokevirtual 0, [140, 2, 12]) :: (.if_icmp .eq 0, [1437]) :: (.iconst 0, []) :: (.ireturn, [1]) :: []
def k212_314 : List mI := (.aload 1, []) :: (.aload 0, []) :: (.iload 3, []) :: (.iconst 1, []) :: (.iadd, []) :: (.iaload, []) :: (.aload 0, []) :: (.iload 3, []) :: (.iconst 2, []) :: (.iadd, []) :: (.iaload, []) :: (.aload 0, []) :: (.iload 3, []) :: (.iconst 3, []) :: (.iadd, []) :: (.iaload, []) :: (.i2l, []) :: (.iconst 32, []) :: (.lshl, []) :: (.aload 0, []) :: (.iload 3, []) :: (.iconst 4, []) :: (.iadd, []) :: (.iaload, []) :: (.i2l, []) :: (.jsr_w 4294967295, []) :: (.land, []) :: (.lor, []) :: (.invokevirtual 0, [78, 3, 11]) :: (.aload 2, []) :: (.aload 0, []) :: (.iload 3, []) :: (.iconst 1, []) :: (.iadd, []) :: (.iaload, []) :: (.aload 0, []) :: (.iload 3, []) :: (.iconst 2, []) :: (.iadd, []) :: (.iaload, []) :: (.aload 0, []) :: (.iload 3, []) :: (.iconst 3, []) :: (.iadd, []) :: (.iaload, []) :: (.i2l, []) :: (.iconst 32, []) :: (.lshl, []) :: (.aload 0, []) :: (.iload 3, []) :: (.iconst 4, []) :: (.iadd, []) :: (.iaload, []) :: (.i2l, []) :: (.jsr_w 4294967295, []) :: (.land, []) :: (.lor, []) :: (.invokevirtual 0, [138, 3, 12]) :: (.if_icmp .eq 0, [1437]) :: (.iconst 0, []) :: (.ireturn, [1]) :: []
def k212_280 : List mI := (.aload 1, []) :: (.aload 0, []) :: (.iload 3, []) :: (.iconst 1, []) :: (.iadd, []) :: (.iaload, []) :: (.aload 0, []) :: (.iload 3, []) :: (.iconst 2, []) :: (.iadd, []) :: (.iaload, []) :: (.invokevirtual 0, [77, 2, 11]) :: (.aload 2, []) :: (.aload 0, []) :: (.iload 3, []) :: (.iconst 1, []) :: (.iadd, []) :: (.iaload, []) :: (.aload 0, []) :: (.iload 3, []) :: (.iconst 2, []) :: (.iadd, []) :: (.iaload, []) :: (.invokevirtual 0, [137, 2, 12]) :: (.lcmp, []) :: (.ifCond .eq 0, [1437]) :: (.iconst 0, []) :: (.ireturn, [1]) :: []
def k212_237 : List mI := (.aload 1, []) :: (.aload 0, []) :: (.iload 3, []) :: (.iconst 1, []) :: (.iadd, []) :: (.iaload, []) :: (.aload 0, []) :: (.iload 3, []) :: (.iconst 2, []) :: (.iadd, []) :: (.iaload, []) :: (.aload 0, []) :: (.iload 3, []) :: (.iconst 3, []) :: (.iadd, []) :: (.iaload, []) :: (.invokevirtual 0, [76, 3, 11]) :: (.aload 2, []) :: (.aload 0, []) :: (.iload 3, []) :: (.iconst 1, []) :: (.iadd, []) :: (.iaload, []) :: (.aload 0, []) :: (.iload 3, []) :: (.iconst 2, []) :: (.iadd, []) :: (.iaload, []) :: (.aload 0, []) :: (.iload 3, []) :: (.iconst 3, []) :: (.iadd, []) :: (.iaload, []) :: (.invokevirtual 0, [136, 3, 12]) :: (.if_icmp .eq 0, [1437]) :: (.iconst 0, []) :: (.ireturn, [1]) :: []
def k212_204 : List mI := (.aload 1, []) :: (.aload 0, []) :: (.iload 3, []) :: (.iconst 1, []) :: (.iadd, []) :: (.iaload, []) :: (.aload 0, []) :: (.iload 3, []) :: (.iconst 2, []) :: (.iadd, []) :: (.iaload, []) :: (.invokevirtual 0, [75, 2, 11]) :: (.aload 2, []) :: (.aload 0, []) :: (.iload 3, []) :: (.iconst 1, []) :: (.iadd, []) :: (.iaload, []) :: (.aload 0, []) :: (.iload 3, []) :: (.iconst 2, []) :: (.iadd, []) :: (.iaload, []) :: (.invokevirtual 0, [135, 2, 12]) :: (.if_icmp .eq 0, [1437]) :: (.iconst 0, []) :: (.ireturn, [1]) :: []
def k212_18 : List mI := (.iload 3, []) :: (.aload 0, []) :: (.arraylength, []) :: (.iconst 5, []) :: (.isub, []) :: (.if_icmp .gt 0, [1443]) :: (.aload 0, []) :: (.iload 3, []) :: (.iaload, []) :: (.iconst 63, []) :: (.iand, []) :: (.tableswitch 0 0 38 #[], [1437, 204, 237, 280, 314, 387, 420, 473, 516, 539, 572, 585, 598, 612, 645, 688, 721, 745, 779, 802, 845, 908, 921, 934, 957, 1000, 1023, 1047, 1060, 1103, 1116, 1159, 1232, 1266, 1299, 1332, 1365, 1378, 1391, 1414]) :: []
def k212_0 : List mI := (.new 0, [11]) :: (.dup, []) :: (.invokespecial 0, [74, 0]) :: (.astore 1, []) :: (.new 0, [12]) :: (.dup, []) :: (.invokespecial 0, [127, 0]) :: (.astore 2, []) :: (.iconst 0, []) :: (.istore 3, []) :: k212_18
def mt_0 : mT := ((({ cls := "LaneSlices$Deed", name := "<init>", desc := "()V" } : Jvm.MethodName), prog_2_method_1_code, 1, (Option.none : Option Jvm.ClassFile.FieldType)), [(0, k0_0)])
def mt_1 : mT := ((({ cls := "LaneSlices$Formula", name := "<init>", desc := "([II)V" } : Jvm.MethodName), prog_3_method_1_code, 3, (Option.none : Option Jvm.ClassFile.FieldType)), [(0, k1_0)])
def mt_2 : mT := ((({ cls := "LaneSlices$Masks", name := "<init>", desc := "()V" } : Jvm.MethodName), prog_4_method_1_code, 1, (Option.none : Option Jvm.ClassFile.FieldType)), [(0, k2_0)])
def mt_3 : mT := ((({ cls := "LaneSlices$Masks", name := "isFull", desc := "()Z" } : Jvm.MethodName), prog_4_method_2_code, 1, (Option.some Jvm.ClassFile.FieldType.boolean)), [(0, k3_0), (13, k3_13), (14, k3_14)])
def mt_4 : mT := ((({ cls := "LaneSlices$Masks", name := "lie", desc := "(J)V" } : Jvm.MethodName), prog_4_method_3_code, 3, (Option.none : Option Jvm.ClassFile.FieldType)), [(0, k4_0), (36, k4_36)])
def mt_5 : mT := ((({ cls := "LaneSlices$Masks", name := "turn", desc := "()V" } : Jvm.MethodName), prog_4_method_4_code, 1, (Option.none : Option Jvm.ClassFile.FieldType)), [(0, k5_0), (42, k5_42)])
def mt_6 : mT := ((({ cls := "LaneSlices$Masks", name := "common", desc := "()J" } : Jvm.MethodName), prog_4_method_5_code, 4, (Option.some Jvm.ClassFile.FieldType.long)), [(0, k6_0), (6, k6_6), (35, k6_35)])
def mt_7 : mT := ((({ cls := "LaneSlices$Masks", name := "copyOf", desc := "(LLaneSlices$Masks;)V" } : Jvm.MethodName), prog_4_method_6_code, 2, (Option.none : Option Jvm.ClassFile.FieldType)), [(0, k7_0)])
def mt_8 : mT := ((({ cls := "LaneSlices$Program", name := "<init>", desc := "(LLaneSlices$Deed;I)V" } : Jvm.MethodName), prog_5_method_1_code, 3, (Option.none : Option Jvm.ClassFile.FieldType)), [(0, k8_0)])
def mt_9 : mT := ((({ cls := "LaneSlices$Reader", name := "<init>", desc := "()V" } : Jvm.MethodName), prog_6_method_1_code, 1, (Option.none : Option Jvm.ClassFile.FieldType)), [(0, k9_0)])
def mt_10 : mT := ((({ cls := "LaneSlices$Reader", name := "read", desc := "()LLaneSlices$Program;" } : Jvm.MethodName), prog_6_method_2_code, 2, (Option.some (Jvm.ClassFile.FieldType.object "LaneSlices$Program"))), [(0, k10_0), (40, k10_40), (63, k10_63), (64, k10_64)])
def mt_11 : mT := ((({ cls := "LaneSlices$Reader", name := "sign", desc := "()I" } : Jvm.MethodName), prog_6_method_3_code, 2, (Option.some Jvm.ClassFile.FieldType.int)), [(0, k11_0), (35, k11_35), (36, k11_36), (64, k11_64), (65, k11_65)])
def mt_12 : mT := ((({ cls := "LaneSlices$Reader", name := "fail", desc := "()V" } : Jvm.MethodName), prog_6_method_4_code, 1, (Option.none : Option Jvm.ClassFile.FieldType)), [(0, k12_0), (16, k12_16)])
def mt_13 : mT := ((({ cls := "LaneSlices$Reader", name := "take", desc := "(C)V" } : Jvm.MethodName), prog_6_method_5_code, 2, (Option.none : Option Jvm.ClassFile.FieldType)), [(0, k13_0), (21, k13_21), (25, k13_25)])
def mt_14 : mT := ((({ cls := "LaneSlices$Reader", name := "block", desc := "(II)LLaneSlices$Deed;" } : Jvm.MethodName), prog_6_method_6_code, 7, (Option.some (Jvm.ClassFile.FieldType.object "LaneSlices$Deed"))), [(0, k14_0), (13, k14_13), (65, k14_65)])
def mt_15 : mT := ((({ cls := "LaneSlices$Reader", name := "deed", desc := "(II)LLaneSlices$Deed;" } : Jvm.MethodName), prog_6_method_7_code, 5, (Option.some (Jvm.ClassFile.FieldType.object "LaneSlices$Deed"))), [(0, k15_0), (46, k15_46), (70, k15_70), (101, k15_101), (105, k15_105)])
def mt_16 : mT := ((({ cls := "LaneSlices$Reader", name := "become", desc := "(LLaneSlices$Deed;)V" } : Jvm.MethodName), prog_6_method_8_code, 2, (Option.none : Option Jvm.ClassFile.FieldType)), [(0, k16_0), (51, k16_51), (70, k16_70)])
def mt_17 : mT := ((({ cls := "LaneSlices$Reader", name := "choose", desc := "(LLaneSlices$Deed;II)V" } : Jvm.MethodName), prog_6_method_9_code, 4, (Option.none : Option Jvm.ClassFile.FieldType)), [(0, k17_0), (68, k17_68)])
def mt_18 : mT := ((({ cls := "LaneSlices$Reader", name := "repeat", desc := "(LLaneSlices$Deed;II)V" } : Jvm.MethodName), prog_6_method_10_code, 4, (Option.none : Option Jvm.ClassFile.FieldType)), [(0, k18_0)])
def mt_19 : mT := ((({ cls := "LaneSlices$Reader", name := "takeVariable", desc := "()I" } : Jvm.MethodName), prog_6_method_11_code, 2, (Option.some Jvm.ClassFile.FieldType.int)), [(0, k19_0), (18, k19_18), (24, k19_24)])
def mt_20 : mT := ((({ cls := "LaneSlices$Reader", name := "takeWay", desc := "()I" } : Jvm.MethodName), prog_6_method_12_code, 2, (Option.some Jvm.ClassFile.FieldType.int)), [(0, k20_0), (48, k20_48), (53, k20_53), (58, k20_58), (63, k20_63), (68, k20_68), (74, k20_74)])
def mt_21 : mT := ((({ cls := "LaneSlices$Reader", name := "formula", desc := "()LLaneSlices$Formula;" } : Jvm.MethodName), prog_6_method_13_code, 1, (Option.some (Jvm.ClassFile.FieldType.object "LaneSlices$Formula"))), [(0, k21_0)])
def mt_22 : mT := ((({ cls := "LaneSlices$Reader", name := "word", desc := "(II)V" } : Jvm.MethodName), prog_6_method_14_code, 3, (Option.none : Option Jvm.ClassFile.FieldType)), [(0, k22_0), (50, k22_50)])
def mt_23 : mT := ((({ cls := "LaneSlices$Reader", name := "compared", desc := "(I)V" } : Jvm.MethodName), prog_6_method_15_code, 3, (Option.none : Option Jvm.ClassFile.FieldType)), [(0, k23_0), (22, k23_22), (48, k23_48), (49, k23_49), (53, k23_53)])
def mt_24 : mT := ((({ cls := "LaneSlices$Reader", name := "added", desc := "(I)V" } : Jvm.MethodName), prog_6_method_16_code, 4, (Option.none : Option Jvm.ClassFile.FieldType)), [(0, k24_0), (7, k24_7), (32, k24_32), (45, k24_45), (46, k24_46), (74, k24_74)])
def mt_25 : mT := ((({ cls := "LaneSlices$Reader", name := "multiplied", desc := "(I)V" } : Jvm.MethodName), prog_6_method_17_code, 4, (Option.none : Option Jvm.ClassFile.FieldType)), [(0, k25_0), (7, k25_7), (32, k25_32), (45, k25_45), (46, k25_46), (74, k25_74)])
def mt_26 : mT := ((({ cls := "LaneSlices$Reader", name := "unit", desc := "(I)V" } : Jvm.MethodName), prog_6_method_18_code, 3, (Option.none : Option Jvm.ClassFile.FieldType)), [(0, k26_0), (19, k26_19), (44, k26_44), (70, k26_70), (108, k26_108), (145, k26_145), (149, k26_149)])
def mt_27 : mT := ((({ cls := "LaneSlices$Reader", name := "number", desc := "()V" } : Jvm.MethodName), prog_6_method_19_code, 4, (Option.none : Option Jvm.ClassFile.FieldType)), [(0, k27_0), (9, k27_9), (53, k27_53), (72, k27_72), (79, k27_79)])
def mt_28 : mT := ((({ cls := "LaneSlices$Reader", name := "isDigit", desc := "(I)Z" } : Jvm.MethodName), prog_6_method_20_code, 1, (Option.some Jvm.ClassFile.FieldType.boolean)), [(0, k28_0), (16, k28_16), (17, k28_17)])
def mt_29 : mT := ((({ cls := "LaneSlices$Shelf", name := "<init>", desc := "()V" } : Jvm.MethodName), prog_7_method_1_code, 1, (Option.none : Option Jvm.ClassFile.FieldType)), [(0, k29_0)])
def mt_30 : mT := ((({ cls := "LaneSlices$Shelf", name := "begin", desc := "(II)V" } : Jvm.MethodName), prog_7_method_2_code, 3, (Option.none : Option Jvm.ClassFile.FieldType)), [(0, k30_0), (15, k30_15), (25, k30_25)])
def mt_31 : mT := ((({ cls := "LaneSlices$Shelf", name := "isMissing", desc := "()Z" } : Jvm.MethodName), prog_7_method_3_code, 1, (Option.some Jvm.ClassFile.FieldType.boolean)), [(0, k31_0), (12, k31_12), (13, k31_13)])
def mt_32 : mT := ((({ cls := "LaneSlices$Shelf", name := "has", desc := "(I)Z" } : Jvm.MethodName), prog_7_method_4_code, 2, (Option.some Jvm.ClassFile.FieldType.boolean)), [(0, k32_0), (22, k32_22), (23, k32_23)])
def mt_33 : mT := ((({ cls := "LaneSlices$Shelf", name := "set", desc := "(IJ)V" } : Jvm.MethodName), prog_7_method_5_code, 4, (Option.none : Option Jvm.ClassFile.FieldType)), [(0, k33_0), (19, k33_19)])
def mt_34 : mT := ((({ cls := "LaneSlices$Shelf", name := "narrow", desc := "(J)J" } : Jvm.MethodName), prog_7_method_6_code, 3, (Option.some Jvm.ClassFile.FieldType.long)), [(0, k34_0), (32, k34_32), (37, k34_37), (42, k34_42), (46, k34_46)])
def mt_35 : mT := ((({ cls := "LaneSlices$Slices", name := "<init>", desc := "()V" } : Jvm.MethodName), prog_8_method_1_code, 1, (Option.none : Option Jvm.ClassFile.FieldType)), [(0, k35_0)])
def mt_36 : mT := ((({ cls := "LaneSlices$Slices", name := "inLane", desc := "(I)I" } : Jvm.MethodName), prog_8_method_2_code, 4, (Option.some Jvm.ClassFile.FieldType.int)), [(0, k36_0), (4, k36_4), (32, k36_32)])
def mt_37 : mT := ((({ cls := "LaneSlices$Slices", name := "setLane", desc := "(II)V" } : Jvm.MethodName), prog_8_method_3_code, 6, (Option.none : Option Jvm.ClassFile.FieldType)), [(0, k37_0), (7, k37_7), (42, k37_42), (55, k37_55), (62, k37_62)])
def mt_38 : mT := ((({ cls := "LaneSlices$Slices", name := "setAll", desc := "(I)V" } : Jvm.MethodName), prog_8_method_4_code, 3, (Option.none : Option Jvm.ClassFile.FieldType)), [(0, k38_0), (2, k38_2), (28, k38_28), (29, k38_29), (36, k38_36)])
def mt_39 : mT := ((({ cls := "LaneSlices$Slices", name := "setLaneNumbers", desc := "()V" } : Jvm.MethodName), prog_8_method_5_code, 1, (Option.none : Option Jvm.ClassFile.FieldType)), [(0, k39_0)])
def mt_40 : mT := ((({ cls := "LaneSlices$Slices", name := "copyOf", desc := "(LLaneSlices$Slices;)V" } : Jvm.MethodName), prog_8_method_6_code, 2, (Option.none : Option Jvm.ClassFile.FieldType)), [(0, k40_0)])
def mt_41 : mT := ((({ cls := "LaneSlices$Slices", name := "becomeIn", desc := "(LLaneSlices$Slices;J)V" } : Jvm.MethodName), prog_8_method_7_code, 5, (Option.none : Option Jvm.ClassFile.FieldType)), [(0, k41_0), (3, k41_3), (46, k41_46)])
def mt_42 : mT := ((({ cls := "LaneSlices$Slices", name := "comeFrom", desc := "(LLaneSlices$Slices;II)V" } : Jvm.MethodName), prog_8_method_8_code, 5, (Option.none : Option Jvm.ClassFile.FieldType)), [(0, k42_0), (3, k42_3), (35, k42_35)])
def mt_43 : mT := ((({ cls := "LaneSlices$Slices", name := "notZero", desc := "()J" } : Jvm.MethodName), prog_8_method_9_code, 4, (Option.some Jvm.ClassFile.FieldType.long)), [(0, k43_0), (4, k43_4), (25, k43_25)])
def mt_44 : mT := ((({ cls := "LaneSlices$Slices", name := "differsFrom", desc := "(LLaneSlices$Slices;)J" } : Jvm.MethodName), prog_8_method_10_code, 5, (Option.some Jvm.ClassFile.FieldType.long)), [(0, k44_0), (5, k44_5), (36, k44_36)])
def mt_45 : mT := ((({ cls := "LaneSlices$Slices", name := "lanesBelow", desc := "(LLaneSlices$Slices;)J" } : Jvm.MethodName), prog_8_method_11_code, 9, (Option.some Jvm.ClassFile.FieldType.long)), [(0, k45_0), (5, k45_5), (58, k45_58)])
def mt_46 : mT := ((({ cls := "LaneSlices$Slices", name := "pair", desc := "(ILLaneSlices$Slices;)V" } : Jvm.MethodName), prog_8_method_12_code, 3, (Option.none : Option Jvm.ClassFile.FieldType)), [(0, k46_0), (48, k46_48), (56, k46_56), (64, k46_64), (72, k46_72), (80, k46_80), (92, k46_92), (108, k46_108), (125, k46_125), (138, k46_138)])
def mt_47 : mT := ((({ cls := "LaneSlices$Slices", name := "plus", desc := "(LLaneSlices$Slices;)V" } : Jvm.MethodName), prog_8_method_13_code, 9, (Option.none : Option Jvm.ClassFile.FieldType)), [(0, k47_0), (5, k47_5), (64, k47_64)])
def mt_48 : mT := ((({ cls := "LaneSlices$Slices", name := "minus", desc := "(LLaneSlices$Slices;)V" } : Jvm.MethodName), prog_8_method_14_code, 9, (Option.none : Option Jvm.ClassFile.FieldType)), [(0, k48_0), (5, k48_5), (72, k48_72)])
def mt_49 : mT := ((({ cls := "LaneSlices$Slices", name := "times", desc := "(LLaneSlices$Slices;)V" } : Jvm.MethodName), prog_8_method_15_code, 12, (Option.none : Option Jvm.ClassFile.FieldType)), [(0, k49_0), (3, k49_3), (27, k49_27), (93, k49_93), (99, k49_99)])
def mt_50 : mT := ((({ cls := "LaneSlices$Slices", name := "both", desc := "(LLaneSlices$Slices;)V" } : Jvm.MethodName), prog_8_method_16_code, 3, (Option.none : Option Jvm.ClassFile.FieldType)), [(0, k50_0), (2, k50_2), (29, k50_29)])
def mt_51 : mT := ((({ cls := "LaneSlices$Slices", name := "setTruth", desc := "(J)V" } : Jvm.MethodName), prog_8_method_17_code, 4, (Option.none : Option Jvm.ClassFile.FieldType)), [(0, k51_0), (2, k51_2), (21, k51_21), (22, k51_22), (29, k51_29)])
def mt_52 : mT := ((({ cls := "LaneSlices$Slices", name := "invert", desc := "()V" } : Jvm.MethodName), prog_8_method_18_code, 2, (Option.none : Option Jvm.ClassFile.FieldType)), [(0, k52_0), (2, k52_2), (30, k52_30)])
def mt_53 : mT := ((({ cls := "LaneSlices$Slices", name := "sum", desc := "(J)I" } : Jvm.MethodName), prog_8_method_19_code, 5, (Option.some Jvm.ClassFile.FieldType.int)), [(0, k53_0), (5, k53_5), (36, k53_36)])
def mt_54 : mT := ((({ cls := "LaneSlices$Slices", name := "greatest", desc := "(J)I" } : Jvm.MethodName), prog_8_method_20_code, 3, (Option.some Jvm.ClassFile.FieldType.int)), [(0, k54_0)])
def mt_55 : mT := ((({ cls := "LaneSlices$Slices", name := "firstGreatest", desc := "(J)I" } : Jvm.MethodName), prog_8_method_21_code, 8, (Option.some Jvm.ClassFile.FieldType.int)), [(0, k55_0), (6, k55_6), (33, k55_33), (35, k55_35), (42, k55_42)])
def mt_56 : mT := ((({ cls := "LaneSlices$Slices", name := "least", desc := "(J)I" } : Jvm.MethodName), prog_8_method_22_code, 8, (Option.some Jvm.ClassFile.FieldType.int)), [(0, k56_0), (6, k56_6), (37, k56_37), (39, k56_39), (46, k56_46)])
def mt_57 : mT := ((({ cls := "LaneSlices$Slices", name := "bitsInAny", desc := "(J)I" } : Jvm.MethodName), prog_8_method_23_code, 5, (Option.some Jvm.ClassFile.FieldType.int)), [(0, k57_0), (5, k57_5), (34, k57_34), (35, k57_35), (43, k57_43)])
def mt_58 : mT := ((({ cls := "LaneSlices$Slices", name := "bitsInAll", desc := "(J)I" } : Jvm.MethodName), prog_8_method_24_code, 5, (Option.some Jvm.ClassFile.FieldType.int)), [(0, k58_0), (5, k58_5), (38, k58_38), (39, k58_39), (47, k58_47)])
def mt_59 : mT := ((({ cls := "LaneSlices$Tape", name := "<init>", desc := "()V" } : Jvm.MethodName), prog_9_method_1_code, 1, (Option.none : Option Jvm.ClassFile.FieldType)), [(0, k59_0)])
def mt_60 : mT := ((({ cls := "LaneSlices$Tape", name := "lengthen", desc := "(I)V" } : Jvm.MethodName), prog_9_method_2_code, 2, (Option.none : Option Jvm.ClassFile.FieldType)), [(0, k60_0), (37, k60_37)])
def mt_61 : mT := ((({ cls := "LaneSlices$Variables", name := "<init>", desc := "()V" } : Jvm.MethodName), prog_10_method_1_code, 2, (Option.none : Option Jvm.ClassFile.FieldType)), [(0, k61_0), (15, k61_15), (40, k61_40)])
def mt_62 : mT := ((({ cls := "LaneSlices$Variables", name := "slices", desc := "(I)LLaneSlices$Slices;" } : Jvm.MethodName), prog_10_method_2_code, 2, (Option.some (Jvm.ClassFile.FieldType.object "LaneSlices$Slices"))), [(0, k62_0)])
def mt_63 : mT := ((({ cls := "LaneSlices$Variables", name := "copyOf", desc := "(LLaneSlices$Variables;)V" } : Jvm.MethodName), prog_10_method_3_code, 3, (Option.none : Option Jvm.ClassFile.FieldType)), [(0, k63_0), (2, k63_2), (29, k63_29)])
def mt_64 : mT := ((({ cls := "LaneSlices$Variables", name := "differsFrom", desc := "(LLaneSlices$Variables;)J" } : Jvm.MethodName), prog_10_method_4_code, 5, (Option.some Jvm.ClassFile.FieldType.long)), [(0, k64_0), (5, k64_5), (38, k64_38)])
def mt_65 : mT := ((({ cls := "LaneSlices$Walker", name := "<init>", desc := "()V" } : Jvm.MethodName), prog_11_method_1_code, 2, (Option.none : Option Jvm.ClassFile.FieldType)), [(0, k65_0), (37, k65_37), (62, k65_62)])
def mt_66 : mT := ((({ cls := "LaneSlices$Walker", name := "go", desc := "(LLaneSlices$Whole;I)I" } : Jvm.MethodName), prog_11_method_2_code, 7, (Option.some Jvm.ClassFile.FieldType.int)), [(0, k66_0), (11, k66_11), (36, k66_36), (66, k66_66)])
def mt_67 : mT := ((({ cls := "LaneSlices$Walker", name := "walk", desc := "(LLaneSlices$Deed;JI)V" } : Jvm.MethodName), prog_11_method_3_code, 6, (Option.none : Option Jvm.ClassFile.FieldType)), [(0, k67_0), (12, k67_12), (13, k67_13), (16, k67_16), (52, k67_52), (91, k67_91), (153, k67_153), (165, k67_165), (174, k67_174), (184, k67_184)])
def mt_68 : mT := ((({ cls := "LaneSlices$Walker", name := "choose", desc := "(LLaneSlices$Deed;JI)V" } : Jvm.MethodName), prog_11_method_4_code, 7, (Option.none : Option Jvm.ClassFile.FieldType)), [(0, k68_0)])
def mt_69 : mT := ((({ cls := "LaneSlices$Walker", name := "repeat", desc := "(LLaneSlices$Deed;JI)V" } : Jvm.MethodName), prog_11_method_5_code, 8, (Option.none : Option Jvm.ClassFile.FieldType)), [(0, k69_0), (6, k69_6), (66, k69_66)])
def mt_70 : mT := ((({ cls := "LaneSlices$Walker", name := "workOut", desc := "(LLaneSlices$Formula;)LLaneSlices$Slices;" } : Jvm.MethodName), prog_11_method_6_code, 8, (Option.some (Jvm.ClassFile.FieldType.object "LaneSlices$Slices"))), [(0, k70_0), (11, k70_11), (25, k70_25), (82, k70_82), (108, k70_108), (135, k70_135), (141, k70_141)])
def mt_71 : mT := ((({ cls := "LaneSlices$Walker", name := "hold", desc := "(LLaneSlices$Slices;II)V" } : Jvm.MethodName), prog_11_method_7_code, 4, (Option.none : Option Jvm.ClassFile.FieldType)), [(0, k71_0), (14, k71_14), (35, k71_35), (39, k71_39)])
def mt_72 : mT := ((({ cls := "LaneSlices$Whole", name := "<init>", desc := "()V" } : Jvm.MethodName), prog_12_method_1_code, 1, (Option.none : Option Jvm.ClassFile.FieldType)), [(0, k72_0)])
def mt_73 : mT := ((({ cls := "LaneSlices$Whole", name := "copyOf", desc := "(LLaneSlices$Whole;)V" } : Jvm.MethodName), prog_12_method_2_code, 2, (Option.none : Option Jvm.ClassFile.FieldType)), [(0, k73_0)])
def mt_74 : mT := ((({ cls := "LaneSlices", name := "<init>", desc := "()V" } : Jvm.MethodName), prog_1_method_1_code, 2, (Option.none : Option Jvm.ClassFile.FieldType)), [(0, k74_0), (87, k74_87), (111, k74_111)])
def mt_75 : mT := ((({ cls := "LaneSlices", name := "lane", desc := "(II)I" } : Jvm.MethodName), prog_1_method_2_code, 3, (Option.some Jvm.ClassFile.FieldType.int)), [(0, k75_0), (14, k75_14), (22, k75_22)])
def mt_76 : mT := ((({ cls := "LaneSlices", name := "put", desc := "(III)I" } : Jvm.MethodName), prog_1_method_3_code, 5, (Option.some Jvm.ClassFile.FieldType.int)), [(0, k76_0), (21, k76_21), (29, k76_29)])
def mt_77 : mT := ((({ cls := "LaneSlices", name := "plane", desc := "(II)J" } : Jvm.MethodName), prog_1_method_4_code, 3, (Option.some Jvm.ClassFile.FieldType.long)), [(0, k77_0), (14, k77_14), (16, k77_16)])
def mt_78 : mT := ((({ cls := "LaneSlices", name := "lay", desc := "(IIJ)I" } : Jvm.MethodName), prog_1_method_5_code, 8, (Option.some Jvm.ClassFile.FieldType.int)), [(0, k78_0), (14, k78_14), (22, k78_22)])
def mt_79 : mT := ((({ cls := "LaneSlices", name := "fill", desc := "(II)I" } : Jvm.MethodName), prog_1_method_6_code, 3, (Option.some Jvm.ClassFile.FieldType.int)), [(0, k79_0), (14, k79_14), (22, k79_22)])
def mt_80 : mT := ((({ cls := "LaneSlices", name := "does", desc := "(IIII)I" } : Jvm.MethodName), prog_1_method_7_code, 5, (Option.some Jvm.ClassFile.FieldType.int)), [(0, k80_0), (32, k80_32), (40, k80_40)])
def mt_81 : mT := ((({ cls := "LaneSlices", name := "route", desc := "(III)I" } : Jvm.MethodName), prog_1_method_8_code, 4, (Option.some Jvm.ClassFile.FieldType.int)), [(0, k81_0), (23, k81_23), (31, k81_31)])
def mt_82 : mT := ((({ cls := "LaneSlices", name := "edge", desc := "(I)I" } : Jvm.MethodName), prog_1_method_9_code, 3, (Option.some Jvm.ClassFile.FieldType.int)), [(0, k82_0), (17, k82_17)])
def mt_83 : mT := ((({ cls := "LaneSlices", name := "push", desc := "(II)I" } : Jvm.MethodName), prog_1_method_10_code, 3, (Option.some Jvm.ClassFile.FieldType.int)), [(0, k83_0), (14, k83_14), (22, k83_22), (43, k83_43)])
def mt_84 : mT := ((({ cls := "LaneSlices", name := "other", desc := "()I" } : Jvm.MethodName), prog_1_method_11_code, 1, (Option.some Jvm.ClassFile.FieldType.int)), [(0, k84_0), (21, k84_21)])
def mt_85 : mT := ((({ cls := "LaneSlices", name := "pop", desc := "()I" } : Jvm.MethodName), prog_1_method_12_code, 1, (Option.some Jvm.ClassFile.FieldType.int)), [(0, k85_0), (21, k85_21)])
def mt_86 : mT := ((({ cls := "LaneSlices", name := "active", desc := "()J" } : Jvm.MethodName), prog_1_method_13_code, 1, (Option.some Jvm.ClassFile.FieldType.long)), [(0, k86_0)])
def mt_87 : mT := ((({ cls := "LaneSlices", name := "reduce", desc := "(II)I" } : Jvm.MethodName), prog_1_method_14_code, 6, (Option.some Jvm.ClassFile.FieldType.int)), [(0, k87_0), (17, k87_17), (25, k87_25), (88, k87_88), (95, k87_95), (106, k87_106), (112, k87_112), (113, k87_113), (124, k87_124), (130, k87_130), (131, k87_131), (138, k87_138), (145, k87_145), (156, k87_156), (167, k87_167), (173, k87_173)])
def mt_88 : mT := ((({ cls := "LaneSlices", name := "part", desc := "(III)I" } : Jvm.MethodName), prog_1_method_15_code, 7, (Option.some Jvm.ClassFile.FieldType.int)), [(0, k88_0), (29, k88_29), (37, k88_37), (55, k88_55), (66, k88_66)])
def mt_89 : mT := ((({ cls := "LaneSlices", name := "rank", desc := "(II)I" } : Jvm.MethodName), prog_1_method_16_code, 4, (Option.some Jvm.ClassFile.FieldType.int)), [(0, k89_0), (14, k89_14), (22, k89_22)])
def mt_90 : mT := ((({ cls := "LaneSlices", name := "alike", desc := "(I)J" } : Jvm.MethodName), prog_1_method_17_code, 5, (Option.some Jvm.ClassFile.FieldType.long)), [(0, k90_0), (9, k90_9), (16, k90_16), (39, k90_39)])
def mt_91 : mT := ((({ cls := "LaneSlices", name := "region", desc := "(II)J" } : Jvm.MethodName), prog_1_method_18_code, 3, (Option.some Jvm.ClassFile.FieldType.long)), [(0, k91_0), (14, k91_14), (16, k91_16)])
def mt_92 : mT := ((({ cls := "LaneSlices", name := "regions", desc := "(I)I" } : Jvm.MethodName), prog_1_method_19_code, 6, (Option.some Jvm.ClassFile.FieldType.int)), [(0, k92_0), (15, k92_15), (23, k92_23), (54, k92_54), (60, k92_60)])
def mt_93 : mT := ((({ cls := "LaneSlices", name := "way", desc := "(III)I" } : Jvm.MethodName), prog_1_method_20_code, 9, (Option.some Jvm.ClassFile.FieldType.int)), [(0, k93_0), (21, k93_21), (29, k93_29), (56, k93_56), (77, k93_77), (93, k93_93)])
def mt_94 : mT := ((({ cls := "LaneSlices", name := "feed", desc := "(JI)I" } : Jvm.MethodName), prog_1_method_21_code, 6, (Option.some Jvm.ClassFile.FieldType.int)), [(0, k94_0), (11, k94_11), (19, k94_19), (49, k94_49), (52, k94_52), (81, k94_81)])
def mt_95 : mT := ((({ cls := "LaneSlices", name := "wipe", desc := "()I" } : Jvm.MethodName), prog_1_method_22_code, 2, (Option.some Jvm.ClassFile.FieldType.int)), [(0, k95_0)])
def mt_96 : mT := ((({ cls := "LaneSlices", name := "text", desc := "()I" } : Jvm.MethodName), prog_1_method_23_code, 2, (Option.some Jvm.ClassFile.FieldType.int)), [(0, k96_0), (34, k96_34)])
def mt_97 : mT := ((({ cls := "LaneSlices", name := "run", desc := "(I)I" } : Jvm.MethodName), prog_1_method_24_code, 3, (Option.some Jvm.ClassFile.FieldType.int)), [(0, k97_0), (11, k97_11), (19, k97_19), (37, k97_37)])
def mt_98 : mT := ((({ cls := "LaneSlices", name := "then", desc := "(III)I" } : Jvm.MethodName), prog_1_method_25_code, 4, (Option.some Jvm.ClassFile.FieldType.int)), [(0, k98_0), (21, k98_21), (29, k98_29), (47, k98_47)])
def mt_99 : mT := ((({ cls := "LaneSlices", name := "steps", desc := "(I)I" } : Jvm.MethodName), prog_1_method_26_code, 2, (Option.some Jvm.ClassFile.FieldType.int)), [(0, k99_0), (15, k99_15), (33, k99_33)])
def mt_100 : mT := ((({ cls := "LaneSlices", name := "changed", desc := "(I)J" } : Jvm.MethodName), prog_1_method_27_code, 2, (Option.some Jvm.ClassFile.FieldType.long)), [(0, k100_0), (17, k100_17), (19, k100_19)])
def mt_101 : mT := ((({ cls := "LaneSlices", name := "settles", desc := "()I" } : Jvm.MethodName), prog_1_method_28_code, 2, (Option.some Jvm.ClassFile.FieldType.int)), [(0, k101_0), (18, k101_18), (37, k101_37), (91, k101_91), (97, k101_97)])
def mt_102 : mT := ((({ cls := "LaneSlices", name := "first", desc := "(III)I" } : Jvm.MethodName), prog_1_method_29_code, 5, (Option.some Jvm.ClassFile.FieldType.int)), [(0, k102_0), (21, k102_21), (29, k102_29), (47, k102_47), (67, k102_67), (96, k102_96), (115, k102_115)])
def mt_103 : mT := ((({ cls := "LaneSlices", name := "again", desc := "()I" } : Jvm.MethodName), prog_1_method_30_code, 2, (Option.some Jvm.ClassFile.FieldType.int)), [(0, k103_0), (18, k103_18), (37, k103_37), (80, k103_80), (86, k103_86)])
def mt_104 : mT := ((({ cls := "LaneSlices", name := "row", desc := "(III)I" } : Jvm.MethodName), prog_1_method_31_code, 4, (Option.some Jvm.ClassFile.FieldType.int)), [(0, k104_0), (28, k104_28), (36, k104_36), (53, k104_53)])
def mt_105 : mT := ((({ cls := "LaneSlices", name := "mark", desc := "(IIJ)I" } : Jvm.MethodName), prog_1_method_32_code, 5, (Option.some Jvm.ClassFile.FieldType.int)), [(0, k105_0), (15, k105_15), (35, k105_35), (56, k105_56)])
def mt_106 : mT := ((({ cls := "LaneSlices", name := "at", desc := "(II)J" } : Jvm.MethodName), prog_1_method_33_code, 3, (Option.some Jvm.ClassFile.FieldType.long)), [(0, k106_0), (20, k106_20), (22, k106_22)])
def mt_107 : mT := ((({ cls := "LaneSlices", name := "load", desc := "(II)I" } : Jvm.MethodName), prog_1_method_34_code, 8, (Option.some Jvm.ClassFile.FieldType.int)), [(0, k107_0), (14, k107_14), (22, k107_22), (44, k107_44), (62, k107_62), (121, k107_121), (127, k107_127)])
def mt_108 : mT := ((({ cls := "LaneSlices", name := "store", desc := "(II)I" } : Jvm.MethodName), prog_1_method_35_code, 5, (Option.some Jvm.ClassFile.FieldType.int)), [(0, k108_0), (14, k108_14), (22, k108_22), (44, k108_44), (47, k108_47), (92, k108_92)])
def mt_109 : mT := ((({ cls := "LaneSlices", name := "judge", desc := "(II)I" } : Jvm.MethodName), prog_1_method_36_code, 5, (Option.some Jvm.ClassFile.FieldType.int)), [(0, k109_0), (14, k109_14), (22, k109_22), (44, k109_44), (47, k109_47), (94, k109_94), (100, k109_100)])
def mt_110 : mT := ((({ cls := "LaneSlices", name := "image", desc := "()I" } : Jvm.MethodName), prog_1_method_37_code, 1, (Option.some Jvm.ClassFile.FieldType.int)), [(0, k110_0)])
def mt_111 : mT := ((({ cls := "LaneSlices", name := "back", desc := "()I" } : Jvm.MethodName), prog_1_method_38_code, 1, (Option.some Jvm.ClassFile.FieldType.int)), [(0, k111_0), (15, k111_15)])
def mt_112 : mT := ((({ cls := "LaneSlices", name := "count", desc := "(I)I" } : Jvm.MethodName), prog_1_method_39_code, 2, (Option.some Jvm.ClassFile.FieldType.int)), [(0, k112_0), (36, k112_36), (44, k112_44), (55, k112_55), (66, k112_66), (80, k112_80), (90, k112_90), (91, k112_91), (99, k112_99)])
def mt_113 : mT := ((({ cls := "LaneSlices", name := "refused", desc := "(I)I" } : Jvm.MethodName), prog_1_method_40_code, 2, (Option.some Jvm.ClassFile.FieldType.int)), [(0, k113_0), (9, k113_9), (17, k113_17)])
def mt_114 : mT := ((({ cls := "LaneSlices", name := "refuse", desc := "(I)I" } : Jvm.MethodName), prog_1_method_41_code, 3, (Option.some Jvm.ClassFile.FieldType.int)), [(0, k114_0), (25, k114_25)])
def mt_115 : mT := ((({ cls := "LaneSlices", name := "isLane", desc := "(I)Z" } : Jvm.MethodName), prog_1_method_42_code, 1, (Option.some Jvm.ClassFile.FieldType.boolean)), [(0, k115_0), (14, k115_14), (15, k115_15)])
def mt_116 : mT := ((({ cls := "LaneSlices", name := "isVariable", desc := "(I)Z" } : Jvm.MethodName), prog_1_method_43_code, 1, (Option.some Jvm.ClassFile.FieldType.boolean)), [(0, k116_0), (14, k116_14), (15, k116_15)])
def mt_117 : mT := ((({ cls := "LaneSlices", name := "isBit", desc := "(I)Z" } : Jvm.MethodName), prog_1_method_44_code, 1, (Option.some Jvm.ClassFile.FieldType.boolean)), [(0, k117_0), (14, k117_14), (15, k117_15)])
def mt_118 : mT := ((({ cls := "LaneSlices", name := "isNumber", desc := "(I)Z" } : Jvm.MethodName), prog_1_method_45_code, 1, (Option.some Jvm.ClassFile.FieldType.boolean)), [(0, k118_0), (15, k118_15), (16, k118_16)])
def mt_119 : mT := ((({ cls := "LaneSlices", name := "isGoes", desc := "(I)Z" } : Jvm.MethodName), prog_1_method_46_code, 1, (Option.some Jvm.ClassFile.FieldType.boolean)), [(0, k119_0), (14, k119_14), (15, k119_15)])
def mt_120 : mT := ((({ cls := "LaneSlices", name := "isShelf", desc := "(I)Z" } : Jvm.MethodName), prog_1_method_47_code, 1, (Option.some Jvm.ClassFile.FieldType.boolean)), [(0, k120_0), (13, k120_13), (14, k120_14)])
def mt_121 : mT := ((({ cls := "LaneSlices", name := "becomeSpare", desc := "(II)I" } : Jvm.MethodName), prog_1_method_48_code, 3, (Option.some Jvm.ClassFile.FieldType.int)), [(0, k121_0)])
def mt_122 : mT := ((({ cls := "LaneSlices", name := "lanesLike", desc := "(II)J" } : Jvm.MethodName), prog_1_method_49_code, 4, (Option.some Jvm.ClassFile.FieldType.long)), [(0, k122_0)])
def mt_123 : mT := ((({ cls := "LaneSlices", name := "flood", desc := "(II)J" } : Jvm.MethodName), prog_1_method_50_code, 10, (Option.some Jvm.ClassFile.FieldType.long)), [(0, k123_0), (15, k123_15), (42, k123_42), (52, k123_52)])
def mt_124 : mT := ((({ cls := "LaneSlices", name := "spread", desc := "(JJ)J" } : Jvm.MethodName), prog_1_method_51_code, 8, (Option.some Jvm.ClassFile.FieldType.long)), [(0, k124_0), (6, k124_6), (36, k124_36)])
def mt_125 : mT := ((({ cls := "LaneSlices", name := "shift", desc := "(JII)J" } : Jvm.MethodName), prog_1_method_52_code, 6, (Option.some Jvm.ClassFile.FieldType.long)), [(0, k125_0), (28, k125_28), (42, k125_42), (46, k125_46), (47, k125_47), (63, k125_63), (64, k125_64), (77, k125_77), (91, k125_91), (95, k125_95), (96, k125_96), (112, k125_112), (113, k125_113)])
def mt_126 : mT := ((({ cls := "LaneSlices", name := "think", desc := "(I)I" } : Jvm.MethodName), prog_1_method_53_code, 2, (Option.some Jvm.ClassFile.FieldType.int)), [(0, k126_0)])
def mt_127 : mT := ((({ cls := "LaneSlicesModel", name := "<init>", desc := "()V" } : Jvm.MethodName), prog_14_method_1_code, 1, (Option.none : Option Jvm.ClassFile.FieldType)), [(0, k127_0)])
def mt_128 : mT := ((({ cls := "LaneSlicesModel", name := "isIn", desc := "(JJJ)Z" } : Jvm.MethodName), prog_14_method_2_code, 6, (Option.some Jvm.ClassFile.FieldType.boolean)), [(0, k128_0), (17, k128_17), (18, k128_18)])
def mt_129 : mT := ((({ cls := "LaneSlicesModel", name := "refuse", desc := "(I)I" } : Jvm.MethodName), prog_14_method_3_code, 2, (Option.some Jvm.ClassFile.FieldType.int)), [(0, k129_0)])
def mt_130 : mT := ((({ cls := "LaneSlicesModel", name := "isLane", desc := "(I)Z" } : Jvm.MethodName), prog_14_method_4_code, 1, (Option.some Jvm.ClassFile.FieldType.boolean)), [(0, k130_0), (14, k130_14), (15, k130_15)])
def mt_131 : mT := ((({ cls := "LaneSlicesModel", name := "isVariable", desc := "(I)Z" } : Jvm.MethodName), prog_14_method_5_code, 1, (Option.some Jvm.ClassFile.FieldType.boolean)), [(0, k131_0), (14, k131_14), (15, k131_15)])
def mt_132 : mT := ((({ cls := "LaneSlicesModel", name := "isBit", desc := "(I)Z" } : Jvm.MethodName), prog_14_method_6_code, 1, (Option.some Jvm.ClassFile.FieldType.boolean)), [(0, k132_0), (14, k132_14), (15, k132_15)])
def mt_133 : mT := ((({ cls := "LaneSlicesModel", name := "has", desc := "(JI)Z" } : Jvm.MethodName), prog_14_method_7_code, 3, (Option.some Jvm.ClassFile.FieldType.boolean)), [(0, k133_0), (14, k133_14), (15, k133_15)])
def mt_134 : mT := ((({ cls := "LaneSlicesModel", name := "size", desc := "(J)I" } : Jvm.MethodName), prog_14_method_8_code, 4, (Option.some Jvm.ClassFile.FieldType.int)), [(0, k134_0), (4, k134_4), (23, k134_23), (24, k134_24), (32, k134_32)])
def mt_135 : mT := ((({ cls := "LaneSlicesModel", name := "lane", desc := "(II)I" } : Jvm.MethodName), prog_14_method_9_code, 3, (Option.some Jvm.ClassFile.FieldType.int)), [(0, k135_0), (28, k135_28), (35, k135_35)])
def mt_136 : mT := ((({ cls := "LaneSlicesModel", name := "put", desc := "(III)I" } : Jvm.MethodName), prog_14_method_10_code, 5, (Option.some Jvm.ClassFile.FieldType.int)), [(0, k136_0), (26, k136_26), (34, k136_34)])
def mt_137 : mT := ((({ cls := "LaneSlicesModel", name := "plane", desc := "(II)J" } : Jvm.MethodName), prog_14_method_11_code, 6, (Option.some Jvm.ClassFile.FieldType.long)), [(0, k137_0), (5, k137_5), (55, k137_55)])
def mt_138 : mT := ((({ cls := "LaneSlicesModel", name := "lay", desc := "(IIJ)I" } : Jvm.MethodName), prog_14_method_12_code, 8, (Option.some Jvm.ClassFile.FieldType.int)), [(0, k138_0), (14, k138_14), (22, k138_22), (31, k138_31), (92, k138_92), (93, k138_93), (95, k138_95), (101, k138_101)])
def mt_139 : mT := ((({ cls := "LaneSlicesModel", name := "takes", desc := "(I)I" } : Jvm.MethodName), prog_14_method_13_code, 2, (Option.some Jvm.ClassFile.FieldType.int)), [(0, k139_0)])
def mt_140 : mT := ((({ cls := "LaneSlicesModel", name := "fill", desc := "(II)I" } : Jvm.MethodName), prog_14_method_14_code, 6, (Option.some Jvm.ClassFile.FieldType.int)), [(0, k140_0), (19, k140_19), (27, k140_27), (35, k140_35), (66, k140_66), (78, k140_78), (85, k140_85)])
def mt_141 : mT := ((({ cls := "LaneSlicesModel", name := "worked", desc := "(III)I" } : Jvm.MethodName), prog_14_method_15_code, 3, (Option.some Jvm.ClassFile.FieldType.int)), [(0, k141_0), (36, k141_36), (44, k141_44), (52, k141_52), (60, k141_60), (64, k141_64), (73, k141_73), (74, k141_74), (75, k141_75), (84, k141_84), (85, k141_85)])
def mt_142 : mT := ((({ cls := "LaneSlicesModel", name := "stepsOf", desc := "(I)I" } : Jvm.MethodName), prog_14_method_16_code, 1, (Option.some Jvm.ClassFile.FieldType.int)), [(0, k142_0), (10, k142_10), (15, k142_15), (27, k142_27), (38, k142_38), (40, k142_40)])
def mt_143 : mT := ((({ cls := "LaneSlicesModel", name := "does", desc := "(IIII)I" } : Jvm.MethodName), prog_14_method_17_code, 11, (Option.some Jvm.ClassFile.FieldType.int)), [(0, k143_0), (34, k143_34), (42, k143_42), (51, k143_51), (106, k143_106), (117, k143_117), (118, k143_118), (128, k143_128), (129, k143_129), (137, k143_137), (139, k143_139), (167, k143_167), (179, k143_179), (186, k143_186), (202, k143_202), (204, k143_204)])
def mt_144 : mT := ((({ cls := "LaneSlicesModel", name := "beside", desc := "(II)I" } : Jvm.MethodName), prog_14_method_18_code, 5, (Option.some Jvm.ClassFile.FieldType.int)), [(0, k144_0), (12, k144_12), (21, k144_21), (22, k144_22), (37, k144_37), (46, k144_46), (47, k144_47), (83, k144_83), (94, k144_94), (113, k144_113)])
def mt_145 : mT := ((({ cls := "LaneSlicesModel", name := "routes", desc := "(IIIJ)V" } : Jvm.MethodName), prog_14_method_19_code, 8, (Option.none : Option Jvm.ClassFile.FieldType)), [(0, k145_0), (3, k145_3), (34, k145_34), (46, k145_46), (53, k145_53), (56, k145_56), (94, k145_94), (106, k145_106), (113, k145_113)])
def mt_146 : mT := ((({ cls := "LaneSlicesModel", name := "route", desc := "(III)I" } : Jvm.MethodName), prog_14_method_20_code, 4, (Option.some Jvm.ClassFile.FieldType.int)), [(0, k146_0), (26, k146_26), (34, k146_34)])
def mt_147 : mT := ((({ cls := "LaneSlicesModel", name := "edge", desc := "(I)I" } : Jvm.MethodName), prog_14_method_21_code, 3, (Option.some Jvm.ClassFile.FieldType.int)), [(0, k147_0), (18, k147_18)])
def mt_148 : mT := ((({ cls := "LaneSlicesModel", name := "active", desc := "()J" } : Jvm.MethodName), prog_14_method_22_code, 4, (Option.some Jvm.ClassFile.FieldType.long)), [(0, k148_0), (6, k148_6), (29, k148_29)])
def mt_149 : mT := ((({ cls := "LaneSlicesModel", name := "push", desc := "(II)I" } : Jvm.MethodName), prog_14_method_23_code, 3, (Option.some Jvm.ClassFile.FieldType.int)), [(0, k149_0), (14, k149_14), (22, k149_22), (39, k149_39)])
def mt_150 : mT := ((({ cls := "LaneSlicesModel", name := "other", desc := "()I" } : Jvm.MethodName), prog_14_method_24_code, 1, (Option.some Jvm.ClassFile.FieldType.int)), [(0, k150_0), (15, k150_15)])
def mt_151 : mT := ((({ cls := "LaneSlicesModel", name := "pop", desc := "()I" } : Jvm.MethodName), prog_14_method_25_code, 1, (Option.some Jvm.ClassFile.FieldType.int)), [(0, k151_0), (15, k151_15)])
def mt_152 : mT := ((({ cls := "LaneSlicesModel", name := "reduce", desc := "(II)I" } : Jvm.MethodName), prog_14_method_26_code, 14, (Option.some Jvm.ClassFile.FieldType.int)), [(0, k152_0), (19, k152_19), (27, k152_27), (58, k152_58), (91, k152_91), (124, k152_124), (126, k152_126), (140, k152_140), (142, k152_142), (156, k152_156), (161, k152_161), (163, k152_163), (176, k152_176), (177, k152_177), (180, k152_180), (186, k152_186), (224, k152_224), (227, k152_227), (230, k152_230), (233, k152_233), (236, k152_236), (239, k152_239), (242, k152_242)])
def mt_153 : mT := ((({ cls := "LaneSlicesModel", name := "part", desc := "(III)I" } : Jvm.MethodName), prog_14_method_27_code, 8, (Option.some Jvm.ClassFile.FieldType.int)), [(0, k153_0), (35, k153_35), (43, k153_43), (57, k153_57), (94, k153_94), (95, k153_95), (104, k153_104)])
def mt_154 : mT := ((({ cls := "LaneSlicesModel", name := "rank", desc := "(II)I" } : Jvm.MethodName), prog_14_method_28_code, 7, (Option.some Jvm.ClassFile.FieldType.int)), [(0, k154_0), (14, k154_14), (22, k154_22), (33, k154_33), (81, k154_81), (82, k154_82), (91, k154_91)])
def mt_155 : mT := ((({ cls := "LaneSlicesModel", name := "alike", desc := "(I)J" } : Jvm.MethodName), prog_14_method_29_code, 7, (Option.some Jvm.ClassFile.FieldType.long)), [(0, k155_0), (5, k155_5), (25, k155_25), (69, k155_69), (70, k155_70), (78, k155_78), (91, k155_91), (92, k155_92), (100, k155_100)])
def mt_156 : mT := ((({ cls := "LaneSlicesModel", name := "regionOf", desc := "(II)J" } : Jvm.MethodName), prog_14_method_30_code, 9, (Option.some Jvm.ClassFile.FieldType.long)), [(0, k156_0), (7, k156_7), (18, k156_18), (28, k156_28), (103, k156_103), (109, k156_109), (115, k156_115), (118, k156_118)])
def mt_157 : mT := ((({ cls := "LaneSlicesModel", name := "region", desc := "(II)J" } : Jvm.MethodName), prog_14_method_31_code, 3, (Option.some Jvm.ClassFile.FieldType.long)), [(0, k157_0), (23, k157_23), (24, k157_24)])
def mt_158 : mT := ((({ cls := "LaneSlicesModel", name := "regions", desc := "(I)I" } : Jvm.MethodName), prog_14_method_32_code, 6, (Option.some Jvm.ClassFile.FieldType.int)), [(0, k158_0), (15, k158_15), (23, k158_23), (52, k158_52), (58, k158_58)])
def mt_159 : mT := ((({ cls := "LaneSlicesModel", name := "way", desc := "(III)I" } : Jvm.MethodName), prog_14_method_33_code, 12, (Option.some Jvm.ClassFile.FieldType.int)), [(0, k159_0), (21, k159_21), (29, k159_29), (57, k159_57), (59, k159_59), (67, k159_67), (86, k159_86), (93, k159_93), (103, k159_103), (158, k159_158), (159, k159_159), (168, k159_168), (174, k159_174), (184, k159_184)])
def mt_160 : mT := ((({ cls := "LaneSlicesModel", name := "feed", desc := "(JI)I" } : Jvm.MethodName), prog_14_method_34_code, 5, (Option.some Jvm.ClassFile.FieldType.int)), [(0, k160_0), (20, k160_20), (40, k160_40), (43, k160_43), (86, k160_86)])
def mt_161 : mT := ((({ cls := "LaneSlicesModel", name := "wipe", desc := "()I" } : Jvm.MethodName), prog_14_method_35_code, 2, (Option.some Jvm.ClassFile.FieldType.int)), [(0, k161_0)])
def mt_162 : mT := ((({ cls := "LaneSlicesModel", name := "byteAt", desc := "()I" } : Jvm.MethodName), prog_14_method_36_code, 1, (Option.some Jvm.ClassFile.FieldType.int)), [(0, k162_0), (23, k162_23), (24, k162_24)])
def mt_163 : mT := ((({ cls := "LaneSlicesModel", name := "made", desc := "(IIII)I" } : Jvm.MethodName), prog_14_method_37_code, 6, (Option.some Jvm.ClassFile.FieldType.int)), [(0, k163_0)])
def mt_164 : mT := ((({ cls := "LaneSlicesModel", name := "fails", desc := "(I)I" } : Jvm.MethodName), prog_14_method_38_code, 2, (Option.some Jvm.ClassFile.FieldType.int)), [(0, k164_0), (12, k164_12), (16, k164_16)])
def mt_165 : mT := ((({ cls := "LaneSlicesModel", name := "takesByte", desc := "(I)Z" } : Jvm.MethodName), prog_14_method_39_code, 2, (Option.some Jvm.ClassFile.FieldType.boolean)), [(0, k165_0), (15, k165_15), (17, k165_17)])
def mt_166 : mT := ((({ cls := "LaneSlicesModel", name := "wants", desc := "(I)V" } : Jvm.MethodName), prog_14_method_40_code, 2, (Option.none : Option Jvm.ClassFile.FieldType)), [(0, k166_0), (24, k166_24)])
def mt_167 : mT := ((({ cls := "LaneSlicesModel", name := "isDigit", desc := "()Z" } : Jvm.MethodName), prog_14_method_41_code, 1, (Option.some Jvm.ClassFile.FieldType.boolean)), [(0, k167_0), (22, k167_22), (23, k167_23)])
def mt_168 : mT := ((({ cls := "LaneSlicesModel", name := "number", desc := "()I" } : Jvm.MethodName), prog_14_method_42_code, 3, (Option.some Jvm.ClassFile.FieldType.int)), [(0, k168_0), (7, k168_7), (50, k168_50), (65, k168_65), (73, k168_73)])
def mt_169 : mT := ((({ cls := "LaneSlicesModel", name := "variable", desc := "()I" } : Jvm.MethodName), prog_14_method_43_code, 2, (Option.some Jvm.ClassFile.FieldType.int)), [(0, k169_0), (24, k169_24), (33, k169_33)])
def mt_170 : mT := ((({ cls := "LaneSlicesModel", name := "unit", desc := "()I" } : Jvm.MethodName), prog_14_method_44_code, 3, (Option.some Jvm.ClassFile.FieldType.int)), [(0, k170_0), (9, k170_9), (21, k170_21), (60, k170_60), (85, k170_85), (97, k170_97), (105, k170_105), (114, k170_114), (147, k170_147), (151, k170_151), (170, k170_170), (176, k170_176)])
def mt_171 : mT := ((({ cls := "LaneSlicesModel", name := "term", desc := "()I" } : Jvm.MethodName), prog_14_method_45_code, 4, (Option.some Jvm.ClassFile.FieldType.int)), [(0, k171_0), (5, k171_5), (30, k171_30), (44, k171_44), (46, k171_46), (74, k171_74)])
def mt_172 : mT := ((({ cls := "LaneSlicesModel", name := "sum", desc := "()I" } : Jvm.MethodName), prog_14_method_46_code, 4, (Option.some Jvm.ClassFile.FieldType.int)), [(0, k172_0), (5, k172_5), (30, k172_30), (43, k172_43), (44, k172_44), (72, k172_72)])
def mt_173 : mT := ((({ cls := "LaneSlicesModel", name := "expression", desc := "()I" } : Jvm.MethodName), prog_14_method_47_code, 4, (Option.some Jvm.ClassFile.FieldType.int)), [(0, k173_0), (30, k173_30), (44, k173_44), (46, k173_46), (71, k173_71)])
def mt_174 : mT := ((({ cls := "LaneSlicesModel", name := "statement", desc := "()I" } : Jvm.MethodName), prog_14_method_48_code, 5, (Option.some Jvm.ClassFile.FieldType.int)), [(0, k174_0), (9, k174_9), (36, k174_36), (58, k174_58), (67, k174_67), (102, k174_102), (103, k174_103), (145, k174_145), (146, k174_146), (160, k174_160), (162, k174_162), (190, k174_190), (191, k174_191), (207, k174_207), (209, k174_209), (217, k174_217), (244, k174_244), (259, k174_259), (272, k174_272), (285, k174_285), (298, k174_298), (311, k174_311), (312, k174_312), (326, k174_326)])
def mt_175 : mT := ((({ cls := "LaneSlicesModel", name := "program", desc := "()I" } : Jvm.MethodName), prog_14_method_49_code, 4, (Option.some Jvm.ClassFile.FieldType.int)), [(0, k175_0), (7, k175_7), (37, k175_37)])
def mt_176 : mT := ((({ cls := "LaneSlicesModel", name := "text", desc := "()I" } : Jvm.MethodName), prog_14_method_50_code, 2, (Option.some Jvm.ClassFile.FieldType.int)), [(0, k176_0), (80, k176_80), (95, k176_95)])
def mt_177 : mT := ((({ cls := "LaneSlicesModel", name := "works", desc := "(II)V" } : Jvm.MethodName), prog_14_method_51_code, 8, (Option.none : Option Jvm.ClassFile.FieldType)), [(0, k177_0), (69, k177_69), (88, k177_88), (104, k177_104), (109, k177_109), (120, k177_120), (121, k177_121), (128, k177_128), (151, k177_151), (179, k177_179), (181, k177_181), (206, k177_206), (208, k177_208), (230, k177_230), (258, k177_258), (265, k177_265)])
def mt_178 : mT := ((({ cls := "LaneSlicesModel", name := "asked", desc := "(IJ)J" } : Jvm.MethodName), prog_14_method_52_code, 7, (Option.some Jvm.ClassFile.FieldType.long)), [(0, k178_0), (12, k178_12), (47, k178_47), (48, k178_48), (57, k178_57)])
def mt_179 : mT := ((({ cls := "LaneSlicesModel", name := "loops", desc := "(IJ)V" } : Jvm.MethodName), prog_14_method_53_code, 7, (Option.none : Option Jvm.ClassFile.FieldType)), [(0, k179_0), (6, k179_6), (47, k179_47), (67, k179_67)])
def mt_180 : mT := ((({ cls := "LaneSlicesModel", name := "goes", desc := "(IJ)V" } : Jvm.MethodName), prog_14_method_54_code, 9, (Option.none : Option Jvm.ClassFile.FieldType)), [(0, k180_0), (3, k180_3), (64, k180_64), (92, k180_92), (130, k180_130), (143, k180_143), (150, k180_150), (153, k180_153), (192, k180_192), (262, k180_262), (269, k180_269), (285, k180_285)])
def mt_181 : mT := ((({ cls := "LaneSlicesModel", name := "move", desc := "([I[I)V" } : Jvm.MethodName), prog_14_method_55_code, 3, (Option.none : Option Jvm.ClassFile.FieldType)), [(0, k181_0), (2, k181_2), (20, k181_20)])
def mt_182 : mT := ((({ cls := "LaneSlicesModel", name := "isSame", desc := "([I[I)Z" } : Jvm.MethodName), prog_14_method_56_code, 4, (Option.some Jvm.ClassFile.FieldType.boolean)), [(0, k182_0), (4, k182_4), (27, k182_27), (28, k182_28), (35, k182_35)])
def mt_183 : mT := ((({ cls := "LaneSlicesModel", name := "run", desc := "(I)I" } : Jvm.MethodName), prog_14_method_57_code, 3, (Option.some Jvm.ClassFile.FieldType.int)), [(0, k183_0), (20, k183_20), (35, k183_35), (42, k183_42), (65, k183_65)])
def mt_184 : mT := ((({ cls := "LaneSlicesModel", name := "thinks", desc := "(I)V" } : Jvm.MethodName), prog_14_method_58_code, 3, (Option.none : Option Jvm.ClassFile.FieldType)), [(0, k184_0), (18, k184_18), (41, k184_41)])
def mt_185 : mT := ((({ cls := "LaneSlicesModel", name := "returns", desc := "()V" } : Jvm.MethodName), prog_14_method_59_code, 1, (Option.none : Option Jvm.ClassFile.FieldType)), [(0, k185_0)])
def mt_186 : mT := ((({ cls := "LaneSlicesModel", name := "then", desc := "(III)I" } : Jvm.MethodName), prog_14_method_60_code, 5, (Option.some Jvm.ClassFile.FieldType.int)), [(0, k186_0), (26, k186_26), (34, k186_34), (49, k186_49)])
def mt_187 : mT := ((({ cls := "LaneSlicesModel", name := "steps", desc := "(I)I" } : Jvm.MethodName), prog_14_method_61_code, 2, (Option.some Jvm.ClassFile.FieldType.int)), [(0, k187_0), (20, k187_20), (35, k187_35)])
def mt_188 : mT := ((({ cls := "LaneSlicesModel", name := "changed", desc := "(I)J" } : Jvm.MethodName), prog_14_method_62_code, 5, (Option.some Jvm.ClassFile.FieldType.long)), [(0, k188_0), (19, k188_19), (21, k188_21), (31, k188_31), (67, k188_67), (68, k188_68), (76, k188_76)])
def mt_189 : mT := ((({ cls := "LaneSlicesModel", name := "settles", desc := "()I" } : Jvm.MethodName), prog_14_method_63_code, 3, (Option.some Jvm.ClassFile.FieldType.int)), [(0, k189_0), (15, k189_15), (30, k189_30), (81, k189_81), (82, k189_82), (89, k189_89)])
def mt_190 : mT := ((({ cls := "LaneSlicesModel", name := "first", desc := "(III)I" } : Jvm.MethodName), prog_14_method_64_code, 6, (Option.some Jvm.ClassFile.FieldType.int)), [(0, k190_0), (26, k190_26), (34, k190_34), (49, k190_49), (66, k190_66), (98, k190_98), (99, k190_99), (119, k190_119)])
def mt_191 : mT := ((({ cls := "LaneSlicesModel", name := "again", desc := "()I" } : Jvm.MethodName), prog_14_method_65_code, 3, (Option.some Jvm.ClassFile.FieldType.int)), [(0, k191_0), (15, k191_15), (30, k191_30), (70, k191_70), (71, k191_71), (78, k191_78)])
def mt_192 : mT := ((({ cls := "LaneSlicesModel", name := "isShelf", desc := "(I)Z" } : Jvm.MethodName), prog_14_method_66_code, 1, (Option.some Jvm.ClassFile.FieldType.boolean)), [(0, k192_0), (13, k192_13), (14, k192_14)])
def mt_193 : mT := ((({ cls := "LaneSlicesModel", name := "row", desc := "(III)I" } : Jvm.MethodName), prog_14_method_67_code, 5, (Option.some Jvm.ClassFile.FieldType.int)), [(0, k193_0), (31, k193_31), (39, k193_39), (55, k193_55), (75, k193_75), (76, k193_76), (80, k193_80), (106, k193_106)])
def mt_194 : mT := ((({ cls := "LaneSlicesModel", name := "marks", desc := "(IIJ)V" } : Jvm.MethodName), prog_14_method_68_code, 6, (Option.none : Option Jvm.ClassFile.FieldType)), [(0, k194_0), (30, k194_30), (43, k194_43), (55, k194_55), (56, k194_56)])
def mt_195 : mT := ((({ cls := "LaneSlicesModel", name := "mark", desc := "(IIJ)I" } : Jvm.MethodName), prog_14_method_69_code, 5, (Option.some Jvm.ClassFile.FieldType.int)), [(0, k195_0), (15, k195_15), (32, k195_32), (58, k195_58)])
def mt_196 : mT := ((({ cls := "LaneSlicesModel", name := "at", desc := "(II)J" } : Jvm.MethodName), prog_14_method_70_code, 3, (Option.some Jvm.ClassFile.FieldType.long)), [(0, k196_0), (39, k196_39), (40, k196_40)])
def mt_197 : mT := ((({ cls := "LaneSlicesModel", name := "lacks", desc := "(II)I" } : Jvm.MethodName), prog_14_method_71_code, 3, (Option.some Jvm.ClassFile.FieldType.int)), [(0, k197_0), (14, k197_14), (20, k197_20), (35, k197_35), (36, k197_36)])
def mt_198 : mT := ((({ cls := "LaneSlicesModel", name := "load", desc := "(II)I" } : Jvm.MethodName), prog_14_method_72_code, 7, (Option.some Jvm.ClassFile.FieldType.int)), [(0, k198_0), (20, k198_20), (31, k198_31), (83, k198_83), (89, k198_89)])
def mt_199 : mT := ((({ cls := "LaneSlicesModel", name := "store", desc := "(II)I" } : Jvm.MethodName), prog_14_method_73_code, 4, (Option.some Jvm.ClassFile.FieldType.int)), [(0, k199_0), (20, k199_20), (22, k199_22), (56, k199_56)])
def mt_200 : mT := ((({ cls := "LaneSlicesModel", name := "judge", desc := "(II)I" } : Jvm.MethodName), prog_14_method_74_code, 4, (Option.some Jvm.ClassFile.FieldType.int)), [(0, k200_0), (20, k200_20), (22, k200_22), (61, k200_61), (67, k200_67)])
def mt_201 : mT := ((({ cls := "LaneSlicesModel", name := "image", desc := "()I" } : Jvm.MethodName), prog_14_method_75_code, 2, (Option.some Jvm.ClassFile.FieldType.int)), [(0, k201_0), (24, k201_24), (48, k201_48)])
def mt_202 : mT := ((({ cls := "LaneSlicesModel", name := "back", desc := "()I" } : Jvm.MethodName), prog_14_method_76_code, 2, (Option.some Jvm.ClassFile.FieldType.int)), [(0, k202_0), (15, k202_15), (39, k202_39), (63, k202_63)])
def mt_203 : mT := ((({ cls := "LaneSlicesModel", name := "count", desc := "(I)I" } : Jvm.MethodName), prog_14_method_77_code, 2, (Option.some Jvm.ClassFile.FieldType.int)), [(0, k203_0), (36, k203_36), (41, k203_41), (46, k203_46), (51, k203_51), (56, k203_56), (61, k203_61)])
def mt_204 : mT := ((({ cls := "LaneSlicesModel", name := "refused", desc := "(I)I" } : Jvm.MethodName), prog_14_method_78_code, 2, (Option.some Jvm.ClassFile.FieldType.int)), [(0, k204_0), (21, k204_21), (28, k204_28)])
def mt_205 : mT := ((({ cls := "java/lang/Integer", name := "numberOfTrailingZeros", desc := "(I)I" } : Jvm.MethodName), prog_16_method_48_code, 2, (Option.some Jvm.ClassFile.FieldType.int)), [(0, k205_0), (17, k205_17), (34, k205_34), (49, k205_49), (62, k205_62), (74, k205_74)])
def mt_206 : mT := ((({ cls := "java/lang/Long", name := "numberOfTrailingZeros", desc := "(J)I" } : Jvm.MethodName), prog_17_method_49_code, 3, (Option.some Jvm.ClassFile.FieldType.int)), [(0, k206_0), (21, k206_21), (25, k206_25)])
def mt_207 : mT := ((({ cls := "java/lang/Long", name := "bitCount", desc := "(J)I" } : Jvm.MethodName), prog_17_method_50_code, 2, (Option.some Jvm.ClassFile.FieldType.int)), [(0, k207_0)])
def mt_208 : mT := ((({ cls := "java/lang/Long", name := "rotateLeft", desc := "(JI)J" } : Jvm.MethodName), prog_17_method_51_code, 3, (Option.some Jvm.ClassFile.FieldType.long)), [(0, k208_0)])
def mt_209 : mT := ((({ cls := "java/lang/Long", name := "rotateRight", desc := "(JI)J" } : Jvm.MethodName), prog_17_method_52_code, 3, (Option.some Jvm.ClassFile.FieldType.long)), [(0, k209_0)])
def mt_210 : mT := ((({ cls := "java/util/Arrays", name := "fill", desc := "([JJ)V" } : Jvm.MethodName), prog_21_method_101_code, 5, (Option.none : Option Jvm.ClassFile.FieldType)), [(0, k210_0), (6, k210_6), (22, k210_22)])
def mt_211 : mT := ((({ cls := "java/util/Arrays", name := "copyOf", desc := "([II)[I" } : Jvm.MethodName), prog_21_method_123_code, 3, (Option.some (Jvm.ClassFile.FieldType.array Jvm.ClassFile.FieldType.int))), [(0, k211_0), (14, k211_14)])
def mt_212 : mT := ((({ cls := "LaneSlicesLaw", name := "law", desc := "([I)Z" } : Jvm.MethodName), code, 4, ret), [(0, k212_0), (18, k212_18), (204, k212_204), (237, k212_237), (280, k212_280), (314, k212_314), (387, k212_387), (420, k212_420), (473, k212_473), (516, k212_516), (539, k212_539), (572, k212_572), (585, k212_585), (598, k212_598), (612, k212_612), (645, k212_645), (688, k212_688), (721, k212_721), (745, k212_745), (779, k212_779), (802, k212_802), (845, k212_845), (908, k212_908), (921, k212_921), (934, k212_934), (957, k212_957), (1000, k212_1000), (1023, k212_1023), (1047, k212_1047), (1060, k212_1060), (1103, k212_1103), (1116, k212_1116), (1159, k212_1159), (1232, k212_1232), (1266, k212_1266), (1299, k212_1299), (1332, k212_1332), (1365, k212_1365), (1378, k212_1378), (1391, k212_1391), (1414, k212_1414), (1437, k212_1437), (1443, k212_1443)])
def mTab : mB := [mt_0, mt_1, mt_2, mt_3, mt_4, mt_5, mt_6, mt_7, mt_8, mt_9, mt_10, mt_11, mt_12, mt_13, mt_14, mt_15, mt_16, mt_17, mt_18, mt_19, mt_20, mt_21, mt_22, mt_23, mt_24, mt_25, mt_26, mt_27, mt_28, mt_29, mt_30, mt_31, mt_32, mt_33, mt_34, mt_35, mt_36, mt_37, mt_38, mt_39, mt_40, mt_41, mt_42, mt_43, mt_44, mt_45, mt_46, mt_47, mt_48, mt_49, mt_50, mt_51, mt_52, mt_53, mt_54, mt_55, mt_56, mt_57, mt_58, mt_59, mt_60, mt_61, mt_62, mt_63, mt_64, mt_65, mt_66, mt_67, mt_68, mt_69, mt_70, mt_71, mt_72, mt_73, mt_74, mt_75, mt_76, mt_77, mt_78, mt_79, mt_80, mt_81, mt_82, mt_83, mt_84, mt_85, mt_86, mt_87, mt_88, mt_89, mt_90, mt_91, mt_92, mt_93, mt_94, mt_95, mt_96, mt_97, mt_98, mt_99, mt_100, mt_101, mt_102, mt_103, mt_104, mt_105, mt_106, mt_107, mt_108, mt_109, mt_110, mt_111, mt_112, mt_113, mt_114, mt_115, mt_116, mt_117, mt_118, mt_119, mt_120, mt_121, mt_122, mt_123, mt_124, mt_125, mt_126, mt_127, mt_128, mt_129, mt_130, mt_131, mt_132, mt_133, mt_134, mt_135, mt_136, mt_137, mt_138, mt_139, mt_140, mt_141, mt_142, mt_143, mt_144, mt_145, mt_146, mt_147, mt_148, mt_149, mt_150, mt_151, mt_152, mt_153, mt_154, mt_155, mt_156, mt_157, mt_158, mt_159, mt_160, mt_161, mt_162, mt_163, mt_164, mt_165, mt_166, mt_167, mt_168, mt_169, mt_170, mt_171, mt_172, mt_173, mt_174, mt_175, mt_176, mt_177, mt_178, mt_179, mt_180, mt_181, mt_182, mt_183, mt_184, mt_185, mt_186, mt_187, mt_188, mt_189, mt_190, mt_191, mt_192, mt_193, mt_194, mt_195, mt_196, mt_197, mt_198, mt_199, mt_200, mt_201, mt_202, mt_203, mt_204, mt_205, mt_206, mt_207, mt_208, mt_209, mt_210, mt_211, mt_212]
theorem ce_0 : mCe mt_0 := ⟨mw_505, mw_15, by decide, by decide, by decide, by decide⟩
theorem ce_1 : mCe mt_1 := ⟨mw_614, mw_16, by decide, by decide, by decide, by decide⟩
theorem ce_2 : mCe mt_2 := ⟨mw_61, mw_5, by decide, by decide, by decide, by decide⟩
theorem ce_3 : mCe mt_3 := ⟨mw_371, mw_5, by decide, by decide, by decide, by decide⟩
theorem ce_4 : mCe mt_4 := ⟨mw_375, mw_5, by decide, by decide, by decide, by decide⟩
theorem ce_5 : mCe mt_5 := ⟨mw_383, mw_5, by decide, by decide, by decide, by decide⟩
theorem ce_6 : mCe mt_6 := ⟨mw_268, mw_5, by decide, by decide, by decide, by decide⟩
theorem ce_7 : mCe mt_7 := ⟨mw_803, mw_5, by decide, by decide, by decide, by decide⟩
theorem ce_8 : mCe mt_8 := ⟨mw_637, mw_19, by decide, by decide, by decide, by decide⟩
theorem ce_9 : mCe mt_9 := ⟨mw_101, mw_6, by decide, by decide, by decide, by decide⟩
theorem ce_10 : mCe mt_10 := ⟨mw_492, mw_6, by decide, by decide, by decide, by decide⟩
theorem ce_11 : mCe mt_11 := ⟨mw_543, mw_6, by decide, by decide, by decide, by decide⟩
theorem ce_12 : mCe mt_12 := ⟨mw_555, mw_6, by decide, by decide, by decide, by decide⟩
theorem ce_13 : mCe mt_13 := ⟨mw_563, mw_6, by decide, by decide, by decide, by decide⟩
theorem ce_14 : mCe mt_14 := ⟨mw_496, mw_6, by decide, by decide, by decide, by decide⟩
theorem ce_15 : mCe mt_15 := ⟨mw_500, mw_6, by decide, by decide, by decide, by decide⟩
theorem ce_16 : mCe mt_16 := ⟨mw_547, mw_6, by decide, by decide, by decide, by decide⟩
theorem ce_17 : mCe mt_17 := ⟨mw_628, mw_6, by decide, by decide, by decide, by decide⟩
theorem ce_18 : mCe mt_18 := ⟨mw_632, mw_6, by decide, by decide, by decide, by decide⟩
theorem ce_19 : mCe mt_19 := ⟨mw_551, mw_6, by decide, by decide, by decide, by decide⟩
theorem ce_20 : mCe mt_20 := ⟨mw_559, mw_6, by decide, by decide, by decide, by decide⟩
theorem ce_21 : mCe mt_21 := ⟨mw_567, mw_6, by decide, by decide, by decide, by decide⟩
theorem ce_22 : mCe mt_22 := ⟨mw_594, mw_6, by decide, by decide, by decide, by decide⟩
theorem ce_23 : mCe mt_23 := ⟨mw_571, mw_6, by decide, by decide, by decide, by decide⟩
theorem ce_24 : mCe mt_24 := ⟨mw_575, mw_6, by decide, by decide, by decide, by decide⟩
theorem ce_25 : mCe mt_25 := ⟨mw_579, mw_6, by decide, by decide, by decide, by decide⟩
theorem ce_26 : mCe mt_26 := ⟨mw_583, mw_6, by decide, by decide, by decide, by decide⟩
theorem ce_27 : mCe mt_27 := ⟨mw_590, mw_6, by decide, by decide, by decide, by decide⟩
theorem ce_28 : mCe mt_28 := ⟨mw_586, mw_6, by decide, by decide, by decide, by decide⟩
theorem ce_29 : mCe mt_29 := ⟨mw_178, mw_9, by decide, by decide, by decide, by decide⟩
theorem ce_30 : mCe mt_30 := ⟨mw_746, mw_9, by decide, by decide, by decide, by decide⟩
theorem ce_31 : mCe mt_31 := ⟨mw_761, mw_9, by decide, by decide, by decide, by decide⟩
theorem ce_32 : mCe mt_32 := ⟨mw_765, mw_9, by decide, by decide, by decide, by decide⟩
theorem ce_33 : mCe mt_33 := ⟨mw_769, mw_9, by decide, by decide, by decide, by decide⟩
theorem ce_34 : mCe mt_34 := ⟨mw_774, mw_9, by decide, by decide, by decide, by decide⟩
theorem ce_35 : mCe mt_35 := ⟨mw_45, mw_4, by decide, by decide, by decide, by decide⟩
theorem ce_36 : mCe mt_36 := ⟨mw_241, mw_4, by decide, by decide, by decide, by decide⟩
theorem ce_37 : mCe mt_37 := ⟨mw_252, mw_4, by decide, by decide, by decide, by decide⟩
theorem ce_38 : mCe mt_38 := ⟨mw_284, mw_4, by decide, by decide, by decide, by decide⟩
theorem ce_39 : mCe mt_39 := ⟨mw_689, mw_4, by decide, by decide, by decide, by decide⟩
theorem ce_40 : mCe mt_40 := ⟨mw_302, mw_4, by decide, by decide, by decide, by decide⟩
theorem ce_41 : mCe mt_41 := ⟨mw_294, mw_4, by decide, by decide, by decide, by decide⟩
theorem ce_42 : mCe mt_42 := ⟨mw_346, mw_4, by decide, by decide, by decide, by decide⟩
theorem ce_43 : mCe mt_43 := ⟨mw_432, mw_4, by decide, by decide, by decide, by decide⟩
theorem ce_44 : mCe mt_44 := ⟨mw_337, mw_4, by decide, by decide, by decide, by decide⟩
theorem ce_45 : mCe mt_45 := ⟨mw_329, mw_4, by decide, by decide, by decide, by decide⟩
theorem ce_46 : mCe mt_46 := ⟨mw_309, mw_4, by decide, by decide, by decide, by decide⟩
theorem ce_47 : mCe mt_47 := ⟨mw_313, mw_4, by decide, by decide, by decide, by decide⟩
theorem ce_48 : mCe mt_48 := ⟨mw_317, mw_4, by decide, by decide, by decide, by decide⟩
theorem ce_49 : mCe mt_49 := ⟨mw_321, mw_4, by decide, by decide, by decide, by decide⟩
theorem ce_50 : mCe mt_50 := ⟨mw_325, mw_4, by decide, by decide, by decide, by decide⟩
theorem ce_51 : mCe mt_51 := ⟨mw_333, mw_4, by decide, by decide, by decide, by decide⟩
theorem ce_52 : mCe mt_52 := ⟨mw_679, mw_4, by decide, by decide, by decide, by decide⟩
theorem ce_53 : mCe mt_53 := ⟨mw_399, mw_4, by decide, by decide, by decide, by decide⟩
theorem ce_54 : mCe mt_54 := ⟨mw_404, mw_4, by decide, by decide, by decide, by decide⟩
theorem ce_55 : mCe mt_55 := ⟨mw_408, mw_4, by decide, by decide, by decide, by decide⟩
theorem ce_56 : mCe mt_56 := ⟨mw_420, mw_4, by decide, by decide, by decide, by decide⟩
theorem ce_57 : mCe mt_57 := ⟨mw_424, mw_4, by decide, by decide, by decide, by decide⟩
theorem ce_58 : mCe mt_58 := ⟨mw_428, mw_4, by decide, by decide, by decide, by decide⟩
theorem ce_59 : mCe mt_59 := ⟨mw_107, mw_7, by decide, by decide, by decide, by decide⟩
theorem ce_60 : mCe mt_60 := ⟨mw_480, mw_7, by decide, by decide, by decide, by decide⟩
theorem ce_61 : mCe mt_61 := ⟨mw_38, mw_3, by decide, by decide, by decide, by decide⟩
theorem ce_62 : mCe mt_62 := ⟨mw_237, mw_3, by decide, by decide, by decide, by decide⟩
theorem ce_63 : mCe mt_63 := ⟨mw_659, mw_3, by decide, by decide, by decide, by decide⟩
theorem ce_64 : mCe mt_64 := ⟨mw_722, mw_3, by decide, by decide, by decide, by decide⟩
theorem ce_65 : mCe mt_65 := ⟨mw_148, mw_8, by decide, by decide, by decide, by decide⟩
theorem ce_66 : mCe mt_66 := ⟨mw_664, mw_8, by decide, by decide, by decide, by decide⟩
theorem ce_67 : mCe mt_67 := ⟨mw_669, mw_8, by decide, by decide, by decide, by decide⟩
theorem ce_68 : mCe mt_68 := ⟨mw_697, mw_8, by decide, by decide, by decide, by decide⟩
theorem ce_69 : mCe mt_69 := ⟨mw_703, mw_8, by decide, by decide, by decide, by decide⟩
theorem ce_70 : mCe mt_70 := ⟨mw_674, mw_8, by decide, by decide, by decide, by decide⟩
theorem ce_71 : mCe mt_71 := ⟨mw_683, mw_8, by decide, by decide, by decide, by decide⟩
theorem ce_72 : mCe mt_72 := ⟨mw_32, mw_2, by decide, by decide, by decide, by decide⟩
theorem ce_73 : mCe mt_73 := ⟨mw_798, mw_2, by decide, by decide, by decide, by decide⟩
theorem ce_74 : mCe mt_74 := ⟨mw_24, mw_1, by decide, by decide, by decide, by decide⟩
theorem ce_75 : mCe mt_75 := ⟨mw_223, mw_1, by decide, by decide, by decide, by decide⟩
theorem ce_76 : mCe mt_76 := ⟨mw_245, mw_1, by decide, by decide, by decide, by decide⟩
theorem ce_77 : mCe mt_77 := ⟨mw_257, mw_1, by decide, by decide, by decide, by decide⟩
theorem ce_78 : mCe mt_78 := ⟨mw_264, mw_1, by decide, by decide, by decide, by decide⟩
theorem ce_79 : mCe mt_79 := ⟨mw_280, mw_1, by decide, by decide, by decide, by decide⟩
theorem ce_80 : mCe mt_80 := ⟨mw_298, mw_1, by decide, by decide, by decide, by decide⟩
theorem ce_81 : mCe mt_81 := ⟨mw_342, mw_1, by decide, by decide, by decide, by decide⟩
theorem ce_82 : mCe mt_82 := ⟨mw_363, mw_1, by decide, by decide, by decide, by decide⟩
theorem ce_83 : mCe mt_83 := ⟨mw_367, mw_1, by decide, by decide, by decide, by decide⟩
theorem ce_84 : mCe mt_84 := ⟨mw_379, mw_1, by decide, by decide, by decide, by decide⟩
theorem ce_85 : mCe mt_85 := ⟨mw_387, mw_1, by decide, by decide, by decide, by decide⟩
theorem ce_86 : mCe mt_86 := ⟨mw_391, mw_1, by decide, by decide, by decide, by decide⟩
theorem ce_87 : mCe mt_87 := ⟨mw_395, mw_1, by decide, by decide, by decide, by decide⟩
theorem ce_88 : mCe mt_88 := ⟨mw_437, mw_1, by decide, by decide, by decide, by decide⟩
theorem ce_89 : mCe mt_89 := ⟨mw_441, mw_1, by decide, by decide, by decide, by decide⟩
theorem ce_90 : mCe mt_90 := ⟨mw_446, mw_1, by decide, by decide, by decide, by decide⟩
theorem ce_91 : mCe mt_91 := ⟨mw_455, mw_1, by decide, by decide, by decide, by decide⟩
theorem ce_92 : mCe mt_92 := ⟨mw_468, mw_1, by decide, by decide, by decide, by decide⟩
theorem ce_93 : mCe mt_93 := ⟨mw_472, mw_1, by decide, by decide, by decide, by decide⟩
theorem ce_94 : mCe mt_94 := ⟨mw_476, mw_1, by decide, by decide, by decide, by decide⟩
theorem ce_95 : mCe mt_95 := ⟨mw_484, mw_1, by decide, by decide, by decide, by decide⟩
theorem ce_96 : mCe mt_96 := ⟨mw_488, mw_1, by decide, by decide, by decide, by decide⟩
theorem ce_97 : mCe mt_97 := ⟨mw_651, mw_1, by decide, by decide, by decide, by decide⟩
theorem ce_98 : mCe mt_98 := ⟨mw_707, mw_1, by decide, by decide, by decide, by decide⟩
theorem ce_99 : mCe mt_99 := ⟨mw_714, mw_1, by decide, by decide, by decide, by decide⟩
theorem ce_100 : mCe mt_100 := ⟨mw_718, mw_1, by decide, by decide, by decide, by decide⟩
theorem ce_101 : mCe mt_101 := ⟨mw_727, mw_1, by decide, by decide, by decide, by decide⟩
theorem ce_102 : mCe mt_102 := ⟨mw_731, mw_1, by decide, by decide, by decide, by decide⟩
theorem ce_103 : mCe mt_103 := ⟨mw_735, mw_1, by decide, by decide, by decide, by decide⟩
theorem ce_104 : mCe mt_104 := ⟨mw_739, mw_1, by decide, by decide, by decide, by decide⟩
theorem ce_105 : mCe mt_105 := ⟨mw_757, mw_1, by decide, by decide, by decide, by decide⟩
theorem ce_106 : mCe mt_106 := ⟨mw_778, mw_1, by decide, by decide, by decide, by decide⟩
theorem ce_107 : mCe mt_107 := ⟨mw_782, mw_1, by decide, by decide, by decide, by decide⟩
theorem ce_108 : mCe mt_108 := ⟨mw_786, mw_1, by decide, by decide, by decide, by decide⟩
theorem ce_109 : mCe mt_109 := ⟨mw_790, mw_1, by decide, by decide, by decide, by decide⟩
theorem ce_110 : mCe mt_110 := ⟨mw_794, mw_1, by decide, by decide, by decide, by decide⟩
theorem ce_111 : mCe mt_111 := ⟨mw_808, mw_1, by decide, by decide, by decide, by decide⟩
theorem ce_112 : mCe mt_112 := ⟨mw_812, mw_1, by decide, by decide, by decide, by decide⟩
theorem ce_113 : mCe mt_113 := ⟨mw_816, mw_1, by decide, by decide, by decide, by decide⟩
theorem ce_114 : mCe mt_114 := ⟨mw_233, mw_1, by decide, by decide, by decide, by decide⟩
theorem ce_115 : mCe mt_115 := ⟨mw_226, mw_1, by decide, by decide, by decide, by decide⟩
theorem ce_116 : mCe mt_116 := ⟨mw_229, mw_1, by decide, by decide, by decide, by decide⟩
theorem ce_117 : mCe mt_117 := ⟨mw_260, mw_1, by decide, by decide, by decide, by decide⟩
theorem ce_118 : mCe mt_118 := ⟨mw_248, mw_1, by decide, by decide, by decide, by decide⟩
theorem ce_119 : mCe mt_119 := ⟨mw_710, mw_1, by decide, by decide, by decide, by decide⟩
theorem ce_120 : mCe mt_120 := ⟨mw_742, mw_1, by decide, by decide, by decide, by decide⟩
theorem ce_121 : mCe mt_121 := ⟨mw_290, mw_1, by decide, by decide, by decide, by decide⟩
theorem ce_122 : mCe mt_122 := ⟨mw_450, mw_1, by decide, by decide, by decide, by decide⟩
theorem ce_123 : mCe mt_123 := ⟨mw_459, mw_1, by decide, by decide, by decide, by decide⟩
theorem ce_124 : mCe mt_124 := ⟨mw_463, mw_1, by decide, by decide, by decide, by decide⟩
theorem ce_125 : mCe mt_125 := ⟨mw_349, mw_1, by decide, by decide, by decide, by decide⟩
theorem ce_126 : mCe mt_126 := ⟨mw_655, mw_1, by decide, by decide, by decide, by decide⟩
theorem ce_127 : mCe mt_127 := ⟨mw_821, mw_10, by decide, by decide, by decide, by decide⟩
theorem ce_128 : mCe mt_128 := ⟨mw_956, mw_10, by decide, by decide, by decide, by decide⟩
theorem ce_129 : mCe mt_129 := ⟨mw_948, mw_10, by decide, by decide, by decide, by decide⟩
theorem ce_130 : mCe mt_130 := ⟨mw_941, mw_10, by decide, by decide, by decide, by decide⟩
theorem ce_131 : mCe mt_131 := ⟨mw_944, mw_10, by decide, by decide, by decide, by decide⟩
theorem ce_132 : mCe mt_132 := ⟨mw_963, mw_10, by decide, by decide, by decide, by decide⟩
theorem ce_133 : mCe mt_133 := ⟨mw_975, mw_10, by decide, by decide, by decide, by decide⟩
theorem ce_134 : mCe mt_134 := ⟨mw_979, mw_10, by decide, by decide, by decide, by decide⟩
theorem ce_135 : mCe mt_135 := ⟨mw_938, mw_10, by decide, by decide, by decide, by decide⟩
theorem ce_136 : mCe mt_136 := ⟨mw_952, mw_10, by decide, by decide, by decide, by decide⟩
theorem ce_137 : mCe mt_137 := ⟨mw_960, mw_10, by decide, by decide, by decide, by decide⟩
theorem ce_138 : mCe mt_138 := ⟨mw_967, mw_10, by decide, by decide, by decide, by decide⟩
theorem ce_139 : mCe mt_139 := ⟨mw_987, mw_10, by decide, by decide, by decide, by decide⟩
theorem ce_140 : mCe mt_140 := ⟨mw_983, mw_10, by decide, by decide, by decide, by decide⟩
theorem ce_141 : mCe mt_141 := ⟨mw_995, mw_10, by decide, by decide, by decide, by decide⟩
theorem ce_142 : mCe mt_142 := ⟨mw_998, mw_10, by decide, by decide, by decide, by decide⟩
theorem ce_143 : mCe mt_143 := ⟨mw_991, mw_10, by decide, by decide, by decide, by decide⟩
theorem ce_144 : mCe mt_144 := ⟨mw_1011, mw_10, by decide, by decide, by decide, by decide⟩
theorem ce_145 : mCe mt_145 := ⟨mw_1007, mw_10, by decide, by decide, by decide, by decide⟩
theorem ce_146 : mCe mt_146 := ⟨mw_1002, mw_10, by decide, by decide, by decide, by decide⟩
theorem ce_147 : mCe mt_147 := ⟨mw_1015, mw_10, by decide, by decide, by decide, by decide⟩
theorem ce_148 : mCe mt_148 := ⟨mw_971, mw_10, by decide, by decide, by decide, by decide⟩
theorem ce_149 : mCe mt_149 := ⟨mw_1020, mw_10, by decide, by decide, by decide, by decide⟩
theorem ce_150 : mCe mt_150 := ⟨mw_1024, mw_10, by decide, by decide, by decide, by decide⟩
theorem ce_151 : mCe mt_151 := ⟨mw_1028, mw_10, by decide, by decide, by decide, by decide⟩
theorem ce_152 : mCe mt_152 := ⟨mw_1032, mw_10, by decide, by decide, by decide, by decide⟩
theorem ce_153 : mCe mt_153 := ⟨mw_1037, mw_10, by decide, by decide, by decide, by decide⟩
theorem ce_154 : mCe mt_154 := ⟨mw_1041, mw_10, by decide, by decide, by decide, by decide⟩
theorem ce_155 : mCe mt_155 := ⟨mw_1045, mw_10, by decide, by decide, by decide, by decide⟩
theorem ce_156 : mCe mt_156 := ⟨mw_1053, mw_10, by decide, by decide, by decide, by decide⟩
theorem ce_157 : mCe mt_157 := ⟨mw_1049, mw_10, by decide, by decide, by decide, by decide⟩
theorem ce_158 : mCe mt_158 := ⟨mw_1057, mw_10, by decide, by decide, by decide, by decide⟩
theorem ce_159 : mCe mt_159 := ⟨mw_1061, mw_10, by decide, by decide, by decide, by decide⟩
theorem ce_160 : mCe mt_160 := ⟨mw_1065, mw_10, by decide, by decide, by decide, by decide⟩
theorem ce_161 : mCe mt_161 := ⟨mw_1070, mw_10, by decide, by decide, by decide, by decide⟩
theorem ce_162 : mCe mt_162 := ⟨mw_1086, mw_10, by decide, by decide, by decide, by decide⟩
theorem ce_163 : mCe mt_163 := ⟨mw_1118, mw_10, by decide, by decide, by decide, by decide⟩
theorem ce_164 : mCe mt_164 := ⟨mw_1090, mw_10, by decide, by decide, by decide, by decide⟩
theorem ce_165 : mCe mt_165 := ⟨mw_1126, mw_10, by decide, by decide, by decide, by decide⟩
theorem ce_166 : mCe mt_166 := ⟨mw_1122, mw_10, by decide, by decide, by decide, by decide⟩
theorem ce_167 : mCe mt_167 := ⟨mw_1110, mw_10, by decide, by decide, by decide, by decide⟩
theorem ce_168 : mCe mt_168 := ⟨mw_1114, mw_10, by decide, by decide, by decide, by decide⟩
theorem ce_169 : mCe mt_169 := ⟨mw_1130, mw_10, by decide, by decide, by decide, by decide⟩
theorem ce_170 : mCe mt_170 := ⟨mw_1106, mw_10, by decide, by decide, by decide, by decide⟩
theorem ce_171 : mCe mt_171 := ⟨mw_1102, mw_10, by decide, by decide, by decide, by decide⟩
theorem ce_172 : mCe mt_172 := ⟨mw_1098, mw_10, by decide, by decide, by decide, by decide⟩
theorem ce_173 : mCe mt_173 := ⟨mw_1094, mw_10, by decide, by decide, by decide, by decide⟩
theorem ce_174 : mCe mt_174 := ⟨mw_1082, mw_10, by decide, by decide, by decide, by decide⟩
theorem ce_175 : mCe mt_175 := ⟨mw_1078, mw_10, by decide, by decide, by decide, by decide⟩
theorem ce_176 : mCe mt_176 := ⟨mw_1074, mw_10, by decide, by decide, by decide, by decide⟩
theorem ce_177 : mCe mt_177 := ⟨mw_1146, mw_10, by decide, by decide, by decide, by decide⟩
theorem ce_178 : mCe mt_178 := ⟨mw_1150, mw_10, by decide, by decide, by decide, by decide⟩
theorem ce_179 : mCe mt_179 := ⟨mw_1154, mw_10, by decide, by decide, by decide, by decide⟩
theorem ce_180 : mCe mt_180 := ⟨mw_1142, mw_10, by decide, by decide, by decide, by decide⟩
theorem ce_181 : mCe mt_181 := ⟨mw_1133, mw_10, by decide, by decide, by decide, by decide⟩
theorem ce_182 : mCe mt_182 := ⟨mw_1181, mw_10, by decide, by decide, by decide, by decide⟩
theorem ce_183 : mCe mt_183 := ⟨mw_1137, mw_10, by decide, by decide, by decide, by decide⟩
theorem ce_184 : mCe mt_184 := ⟨mw_1162, mw_10, by decide, by decide, by decide, by decide⟩
theorem ce_185 : mCe mt_185 := ⟨mw_1166, mw_10, by decide, by decide, by decide, by decide⟩
theorem ce_186 : mCe mt_186 := ⟨mw_1158, mw_10, by decide, by decide, by decide, by decide⟩
theorem ce_187 : mCe mt_187 := ⟨mw_1170, mw_10, by decide, by decide, by decide, by decide⟩
theorem ce_188 : mCe mt_188 := ⟨mw_1174, mw_10, by decide, by decide, by decide, by decide⟩
theorem ce_189 : mCe mt_189 := ⟨mw_1178, mw_10, by decide, by decide, by decide, by decide⟩
theorem ce_190 : mCe mt_190 := ⟨mw_1185, mw_10, by decide, by decide, by decide, by decide⟩
theorem ce_191 : mCe mt_191 := ⟨mw_1189, mw_10, by decide, by decide, by decide, by decide⟩
theorem ce_192 : mCe mt_192 := ⟨mw_1196, mw_10, by decide, by decide, by decide, by decide⟩
theorem ce_193 : mCe mt_193 := ⟨mw_1193, mw_10, by decide, by decide, by decide, by decide⟩
theorem ce_194 : mCe mt_194 := ⟨mw_1204, mw_10, by decide, by decide, by decide, by decide⟩
theorem ce_195 : mCe mt_195 := ⟨mw_1200, mw_10, by decide, by decide, by decide, by decide⟩
theorem ce_196 : mCe mt_196 := ⟨mw_1208, mw_10, by decide, by decide, by decide, by decide⟩
theorem ce_197 : mCe mt_197 := ⟨mw_1216, mw_10, by decide, by decide, by decide, by decide⟩
theorem ce_198 : mCe mt_198 := ⟨mw_1212, mw_10, by decide, by decide, by decide, by decide⟩
theorem ce_199 : mCe mt_199 := ⟨mw_1220, mw_10, by decide, by decide, by decide, by decide⟩
theorem ce_200 : mCe mt_200 := ⟨mw_1224, mw_10, by decide, by decide, by decide, by decide⟩
theorem ce_201 : mCe mt_201 := ⟨mw_1228, mw_10, by decide, by decide, by decide, by decide⟩
theorem ce_202 : mCe mt_202 := ⟨mw_1232, mw_10, by decide, by decide, by decide, by decide⟩
theorem ce_203 : mCe mt_203 := ⟨mw_1236, mw_10, by decide, by decide, by decide, by decide⟩
theorem ce_204 : mCe mt_204 := ⟨mw_1240, mw_10, by decide, by decide, by decide, by decide⟩
theorem ce_205 : mCe mt_205 := ⟨mw_414, mw_14, by decide, by decide, by decide, by decide⟩
theorem ce_206 : mCe mt_206 := ⟨mw_411, mw_12, by decide, by decide, by decide, by decide⟩
theorem ce_207 : mCe mt_207 := ⟨mw_273, mw_12, by decide, by decide, by decide, by decide⟩
theorem ce_208 : mCe mt_208 := ⟨mw_352, mw_12, by decide, by decide, by decide, by decide⟩
theorem ce_209 : mCe mt_209 := ⟨mw_357, mw_12, by decide, by decide, by decide, by decide⟩
theorem ce_210 : mCe mt_210 := ⟨mw_753, mw_17, by decide, by decide, by decide, by decide⟩
theorem ce_211 : mCe mt_211 := ⟨mw_600, mw_17, by decide, by decide, by decide, by decide⟩

/-! exceptions: names, decode rows, words (by wip/whole/mkexc.py) -/
abbrev cX2_fail : ByteArray := prog_4_method_7_code
def yX2_fail : MethodName := ⟨RX2, "fail", "()V"⟩
theorem dX2_fail_0 : decode cX2_fail 0 = .ok (.new 24, 3) := by decide +kernel
theorem dX2_fail_3 : decode cX2_fail 3 = .ok (.dup, 1) := by decide +kernel
theorem dX2_fail_4 : decode cX2_fail 4 = .ok (.ldc 26, 2) := by decide +kernel
theorem dX2_fail_6 : decode cX2_fail 6 = .ok (.invokespecial 28, 3) := by decide +kernel
theorem dX2_fail_9 : decode cX2_fail 9 = .ok (.athrow, 1) := by decide +kernel
abbrev cX3_fail : ByteArray := prog_5_method_8_code
def yX3_fail : MethodName := ⟨RX3, "fail", "()V"⟩
theorem dX3_fail_0 : decode cX3_fail 0 = .ok (.new 7, 3) := by decide +kernel
theorem dX3_fail_3 : decode cX3_fail 3 = .ok (.dup, 1) := by decide +kernel
theorem dX3_fail_4 : decode cX3_fail 4 = .ok (.ldc 9, 2) := by decide +kernel
theorem dX3_fail_6 : decode cX3_fail 6 = .ok (.invokespecial 11, 3) := by decide +kernel
theorem dX3_fail_9 : decode cX3_fail 9 = .ok (.athrow, 1) := by decide +kernel
abbrev cX6_fail : ByteArray := prog_8_method_7_code
def yX6_fail : MethodName := ⟨RX6, "fail", "()V"⟩
theorem dX6_fail_0 : decode cX6_fail 0 = .ok (.return_, 1) := by decide +kernel
abbrev cX9_fail : ByteArray := prog_11_method_8_code
def yX9_fail : MethodName := ⟨RX9, "fail", "()V"⟩
theorem dX9_fail_0 : decode cX9_fail 0 = .ok (.new 7, 3) := by decide +kernel
theorem dX9_fail_3 : decode cX9_fail 3 = .ok (.dup, 1) := by decide +kernel
theorem dX9_fail_4 : decode cX9_fail 4 = .ok (.ldc 9, 2) := by decide +kernel
theorem dX9_fail_6 : decode cX9_fail 6 = .ok (.invokespecial 11, 3) := by decide +kernel
theorem dX9_fail_9 : decode cX9_fail 9 = .ok (.athrow, 1) := by decide +kernel
abbrev cX10_element : ByteArray := prog_1_method_41_code
def yX10_element : MethodName := ⟨RX10, "element", "(II)J"⟩
theorem dX10_element_0 : decode cX10_element 0 = .ok (.iload_n 1, 1) := by decide +kernel
theorem dX10_element_1 : decode cX10_element 1 = .ok (.invokestatic 139, 3) := by decide +kernel
theorem dX10_element_4 : decode cX10_element 4 = .ok (.ifCond .ne 14, 3) := by decide +kernel
theorem dX10_element_7 : decode cX10_element 7 = .ok (.new 311, 3) := by decide +kernel
theorem dX10_element_10 : decode cX10_element 10 = .ok (.dup, 1) := by decide +kernel
theorem dX10_element_11 : decode cX10_element 11 = .ok (.ldc_w 313, 3) := by decide +kernel
theorem dX10_element_14 : decode cX10_element 14 = .ok (.invokespecial 315, 3) := by decide +kernel
theorem dX10_element_17 : decode cX10_element 17 = .ok (.athrow, 1) := by decide +kernel
theorem dX10_element_18 : decode cX10_element 18 = .ok (.aload_n 0, 1) := by decide +kernel
theorem dX10_element_19 : decode cX10_element 19 = .ok (.iload_n 1, 1) := by decide +kernel
theorem dX10_element_20 : decode cX10_element 20 = .ok (.invokevirtual 79, 3) := by decide +kernel
theorem dX10_element_23 : decode cX10_element 23 = .ok (.ifCond .eq 14, 3) := by decide +kernel
theorem dX10_element_26 : decode cX10_element 26 = .ok (.new 318, 3) := by decide +kernel
theorem dX10_element_29 : decode cX10_element 29 = .ok (.dup, 1) := by decide +kernel
theorem dX10_element_30 : decode cX10_element 30 = .ok (.ldc_w 320, 3) := by decide +kernel
theorem dX10_element_33 : decode cX10_element 33 = .ok (.invokespecial 322, 3) := by decide +kernel
theorem dX10_element_36 : decode cX10_element 36 = .ok (.athrow, 1) := by decide +kernel
theorem dX10_element_37 : decode cX10_element 37 = .ok (.aload_n 0, 1) := by decide +kernel
theorem dX10_element_38 : decode cX10_element 38 = .ok (.getfield 74, 3) := by decide +kernel
theorem dX10_element_41 : decode cX10_element 41 = .ok (.iload_n 1, 1) := by decide +kernel
theorem dX10_element_42 : decode cX10_element 42 = .ok (.aaload, 1) := by decide +kernel
theorem dX10_element_43 : decode cX10_element 43 = .ok (.iload_n 2, 1) := by decide +kernel
theorem dX10_element_44 : decode cX10_element 44 = .ok (.iconst 1, 1) := by decide +kernel
theorem dX10_element_45 : decode cX10_element 45 = .ok (.invokevirtual 304, 3) := by decide +kernel
theorem dX10_element_48 : decode cX10_element 48 = .ok (.ifCond .ne 14, 3) := by decide +kernel
theorem dX10_element_51 : decode cX10_element 51 = .ok (.new 318, 3) := by decide +kernel
theorem dX10_element_54 : decode cX10_element 54 = .ok (.dup, 1) := by decide +kernel
theorem dX10_element_55 : decode cX10_element 55 = .ok (.ldc_w 323, 3) := by decide +kernel
theorem dX10_element_58 : decode cX10_element 58 = .ok (.invokespecial 322, 3) := by decide +kernel
theorem dX10_element_61 : decode cX10_element 61 = .ok (.athrow, 1) := by decide +kernel
theorem dX10_element_62 : decode cX10_element 62 = .ok (.aload_n 0, 1) := by decide +kernel
theorem dX10_element_63 : decode cX10_element 63 = .ok (.getfield 74, 3) := by decide +kernel
theorem dX10_element_66 : decode cX10_element 66 = .ok (.iload_n 1, 1) := by decide +kernel
theorem dX10_element_67 : decode cX10_element 67 = .ok (.aaload, 1) := by decide +kernel
theorem dX10_element_68 : decode cX10_element 68 = .ok (.getfield 102, 3) := by decide +kernel
theorem dX10_element_71 : decode cX10_element 71 = .ok (.iload_n 2, 1) := by decide +kernel
theorem dX10_element_72 : decode cX10_element 72 = .ok (.iaload, 1) := by decide +kernel
theorem dX10_element_73 : decode cX10_element 73 = .ok (.i2l, 1) := by decide +kernel
theorem dX10_element_74 : decode cX10_element 74 = .ok (.lreturn, 1) := by decide +kernel
abbrev cX10_toss : ByteArray := prog_1_method_44_code
def yX10_toss : MethodName := ⟨RX10, "toss", "(I)I"⟩
theorem dX10_toss_0 : decode cX10_toss 0 = .ok (.aload_n 0, 1) := by decide +kernel
theorem dX10_toss_1 : decode cX10_toss 1 = .ok (.iload_n 1, 1) := by decide +kernel
theorem dX10_toss_2 : decode cX10_toss 2 = .ok (.invokevirtual 145, 3) := by decide +kernel
theorem dX10_toss_5 : decode cX10_toss 5 = .ok (.istore_n 2, 1) := by decide +kernel
theorem dX10_toss_6 : decode cX10_toss 6 = .ok (.iload_n 2, 1) := by decide +kernel
theorem dX10_toss_7 : decode cX10_toss 7 = .ok (.ifCond .eq 5, 3) := by decide +kernel
theorem dX10_toss_10 : decode cX10_toss 10 = .ok (.iload_n 2, 1) := by decide +kernel
theorem dX10_toss_11 : decode cX10_toss 11 = .ok (.ireturn, 1) := by decide +kernel
theorem dX10_toss_12 : decode cX10_toss 12 = .ok (.aload_n 0, 1) := by decide +kernel
theorem dX10_toss_13 : decode cX10_toss 13 = .ok (.getfield 74, 3) := by decide +kernel
theorem dX10_toss_16 : decode cX10_toss 16 = .ok (.iload_n 1, 1) := by decide +kernel
theorem dX10_toss_17 : decode cX10_toss 17 = .ok (.aaload, 1) := by decide +kernel
theorem dX10_toss_18 : decode cX10_toss 18 = .ok (.getfield 150, 3) := by decide +kernel
theorem dX10_toss_21 : decode cX10_toss 21 = .ok (.istore_n 3, 1) := by decide +kernel
theorem dX10_toss_22 : decode cX10_toss 22 = .ok (.aload_n 0, 1) := by decide +kernel
theorem dX10_toss_23 : decode cX10_toss 23 = .ok (.getfield 53, 3) := by decide +kernel
theorem dX10_toss_26 : decode cX10_toss 26 = .ok (.aload_n 0, 1) := by decide +kernel
theorem dX10_toss_27 : decode cX10_toss 27 = .ok (.getfield 74, 3) := by decide +kernel
theorem dX10_toss_30 : decode cX10_toss 30 = .ok (.iload_n 1, 1) := by decide +kernel
theorem dX10_toss_31 : decode cX10_toss 31 = .ok (.aaload, 1) := by decide +kernel
theorem dX10_toss_32 : decode cX10_toss 32 = .ok (.getfield 148, 3) := by decide +kernel
theorem dX10_toss_35 : decode cX10_toss 35 = .ok (.aaload, 1) := by decide +kernel
theorem dX10_toss_36 : decode cX10_toss 36 = .ok (.astore 4, 2) := by decide +kernel
theorem dX10_toss_38 : decode cX10_toss 38 = .ok (.iload_n 3, 1) := by decide +kernel
theorem dX10_toss_39 : decode cX10_toss 39 = .ok (.ifCond .ne 6, 3) := by decide +kernel
theorem dX10_toss_42 : decode cX10_toss 42 = .ok (.bipush (-15), 2) := by decide +kernel
theorem dX10_toss_44 : decode cX10_toss 44 = .ok (.ireturn, 1) := by decide +kernel
theorem dX10_toss_45 : decode cX10_toss 45 = .ok (.aload 4, 2) := by decide +kernel
theorem dX10_toss_47 : decode cX10_toss 47 = .ok (.invokevirtual 334, 3) := by decide +kernel
theorem dX10_toss_50 : decode cX10_toss 50 = .ok (.goto 27, 3) := by decide +kernel
theorem dX10_toss_53 : decode cX10_toss 53 = .ok (.astore 5, 2) := by decide +kernel
theorem dX10_toss_55 : decode cX10_toss 55 = .ok (.iload_n 3, 1) := by decide +kernel
theorem dX10_toss_56 : decode cX10_toss 56 = .ok (.ireturn, 1) := by decide +kernel
theorem dX10_toss_57 : decode cX10_toss 57 = .ok (.astore 5, 2) := by decide +kernel
theorem dX10_toss_59 : decode cX10_toss 59 = .ok (.bipush 100, 2) := by decide +kernel
theorem dX10_toss_61 : decode cX10_toss 61 = .ok (.iload_n 3, 1) := by decide +kernel
theorem dX10_toss_62 : decode cX10_toss 62 = .ok (.iadd, 1) := by decide +kernel
theorem dX10_toss_63 : decode cX10_toss 63 = .ok (.ireturn, 1) := by decide +kernel
theorem dX10_toss_64 : decode cX10_toss 64 = .ok (.astore 5, 2) := by decide +kernel
theorem dX10_toss_66 : decode cX10_toss 66 = .ok (.sipush 200, 3) := by decide +kernel
theorem dX10_toss_69 : decode cX10_toss 69 = .ok (.aload 4, 2) := by decide +kernel
theorem dX10_toss_71 : decode cX10_toss 71 = .ok (.iload_n 3, 1) := by decide +kernel
theorem dX10_toss_72 : decode cX10_toss 72 = .ok (.invokevirtual 331, 3) := by decide +kernel
theorem dX10_toss_75 : decode cX10_toss 75 = .ok (.iadd, 1) := by decide +kernel
theorem dX10_toss_76 : decode cX10_toss 76 = .ok (.ireturn, 1) := by decide +kernel
theorem dX10_toss_77 : decode cX10_toss 77 = .ok (.bipush (-15), 2) := by decide +kernel
theorem dX10_toss_79 : decode cX10_toss 79 = .ok (.ireturn, 1) := by decide +kernel
theorem zk_814 : (Jvm.Cond.methodLink "ChairOnTheRoad" (334 : Nat) ({ cls := "ChairOnTheRoad$Village", name := "fail", desc := "()V" } : Jvm.MethodName)) ∈ zg_tbl := zg_at 867 (by decide +kernel) (by decide +kernel)
theorem zk_815 : (Jvm.Cond.instanceMethod ({ cls := "ChairOnTheRoad$Village", name := "fail", desc := "()V" } : Jvm.MethodName)) ∈ zg_tbl := zg_at 868 (by decide +kernel) (by decide +kernel)
theorem zk_816 : (Jvm.Cond.selects "ChairOnTheRoad$Village" ({ cls := "ChairOnTheRoad$Village", name := "fail", desc := "()V" } : Jvm.MethodName) ({ cls := "ChairOnTheRoad$Village", name := "fail", desc := "()V" } : Jvm.MethodName)) ∈ zg_tbl := zg_at 869 (by decide +kernel) (by decide +kernel)
theorem zk_817 : (Jvm.Cond.sameMethod "ChairOnTheRoad$Village" "ChairOnTheRoad$Village" "fail" "()V") ∈ zg_tbl := zg_at 870 (by decide +kernel) (by decide +kernel)
theorem zk_818 : (Jvm.Cond.selects "ChairOnTheRoad$Army" ({ cls := "ChairOnTheRoad$Village", name := "fail", desc := "()V" } : Jvm.MethodName) ({ cls := "ChairOnTheRoad$Bishop", name := "fail", desc := "()V" } : Jvm.MethodName)) ∈ zg_tbl := zg_at 871 (by decide +kernel) (by decide +kernel)
theorem zk_819 : (Jvm.Cond.instanceMethod ({ cls := "ChairOnTheRoad$Bishop", name := "fail", desc := "()V" } : Jvm.MethodName)) ∈ zg_tbl := zg_at 872 (by decide +kernel) (by decide +kernel)
theorem zk_820 : (Jvm.Cond.code ({ cls := "ChairOnTheRoad$Bishop", name := "fail", desc := "()V" } : Jvm.MethodName) prog_4_method_7_code (1 : Nat) (Option.none : Option Jvm.ClassFile.FieldType)) ∈ zg_tbl := zg_at 873 (by decide +kernel) (by decide +kernel)
theorem zk_889 : (Jvm.Cond.selects "ChairOnTheRoad$Baker" ({ cls := "ChairOnTheRoad$Village", name := "fail", desc := "()V" } : Jvm.MethodName) ({ cls := "ChairOnTheRoad$Village", name := "fail", desc := "()V" } : Jvm.MethodName)) ∈ zg_tbl := zg_at 942 (by decide +kernel) (by decide +kernel)
theorem zk_890 : (Jvm.Cond.selects "ChairOnTheRoad$Bishop" ({ cls := "ChairOnTheRoad$Village", name := "fail", desc := "()V" } : Jvm.MethodName) ({ cls := "ChairOnTheRoad$Bishop", name := "fail", desc := "()V" } : Jvm.MethodName)) ∈ zg_tbl := zg_at 943 (by decide +kernel) (by decide +kernel)
theorem zk_891 : (Jvm.Cond.selects "ChairOnTheRoad$Doctor" ({ cls := "ChairOnTheRoad$Village", name := "fail", desc := "()V" } : Jvm.MethodName) ({ cls := "ChairOnTheRoad$Doctor", name := "fail", desc := "()V" } : Jvm.MethodName)) ∈ zg_tbl := zg_at 944 (by decide +kernel) (by decide +kernel)
theorem zk_892 : (Jvm.Cond.instanceMethod ({ cls := "ChairOnTheRoad$Doctor", name := "fail", desc := "()V" } : Jvm.MethodName)) ∈ zg_tbl := zg_at 945 (by decide +kernel) (by decide +kernel)
theorem zk_893 : (Jvm.Cond.code ({ cls := "ChairOnTheRoad$Doctor", name := "fail", desc := "()V" } : Jvm.MethodName) prog_5_method_8_code (1 : Nat) (Option.none : Option Jvm.ClassFile.FieldType)) ∈ zg_tbl := zg_at 946 (by decide +kernel) (by decide +kernel)
theorem zk_910 : (Jvm.Cond.selects "ChairOnTheRoad$Hearse" ({ cls := "ChairOnTheRoad$Village", name := "fail", desc := "()V" } : Jvm.MethodName) ({ cls := "ChairOnTheRoad$Doctor", name := "fail", desc := "()V" } : Jvm.MethodName)) ∈ zg_tbl := zg_at 963 (by decide +kernel) (by decide +kernel)
theorem zk_911 : (Jvm.Cond.selects "ChairOnTheRoad$Hermit" ({ cls := "ChairOnTheRoad$Village", name := "fail", desc := "()V" } : Jvm.MethodName) ({ cls := "ChairOnTheRoad$Doctor", name := "fail", desc := "()V" } : Jvm.MethodName)) ∈ zg_tbl := zg_at 964 (by decide +kernel) (by decide +kernel)
theorem zk_912 : (Jvm.Cond.selects "ChairOnTheRoad$Pedlar" ({ cls := "ChairOnTheRoad$Village", name := "fail", desc := "()V" } : Jvm.MethodName) ({ cls := "ChairOnTheRoad$Pedlar", name := "fail", desc := "()V" } : Jvm.MethodName)) ∈ zg_tbl := zg_at 965 (by decide +kernel) (by decide +kernel)
theorem zk_913 : (Jvm.Cond.instanceMethod ({ cls := "ChairOnTheRoad$Pedlar", name := "fail", desc := "()V" } : Jvm.MethodName)) ∈ zg_tbl := zg_at 966 (by decide +kernel) (by decide +kernel)
theorem zk_914 : (Jvm.Cond.code ({ cls := "ChairOnTheRoad$Pedlar", name := "fail", desc := "()V" } : Jvm.MethodName) prog_8_method_7_code (1 : Nat) (Option.none : Option Jvm.ClassFile.FieldType)) ∈ zg_tbl := zg_at 967 (by decide +kernel) (by decide +kernel)
theorem zk_915 : (Jvm.Cond.code ({ cls := "ChairOnTheRoad$Village", name := "fail", desc := "()V" } : Jvm.MethodName) prog_11_method_8_code (1 : Nat) (Option.none : Option Jvm.ClassFile.FieldType)) ∈ zg_tbl := zg_at 968 (by decide +kernel) (by decide +kernel)
theorem zk_807 : (Jvm.Cond.methodLink "ChairOnTheRoadLaw" (202 : Nat) ({ cls := "ChairOnTheRoad", name := "toss", desc := "(I)I" } : Jvm.MethodName)) ∈ zg_tbl := zg_at 860 (by decide +kernel) (by decide +kernel)
theorem zk_808 : (Jvm.Cond.instanceMethod ({ cls := "ChairOnTheRoad", name := "toss", desc := "(I)I" } : Jvm.MethodName)) ∈ zg_tbl := zg_at 861 (by decide +kernel) (by decide +kernel)
theorem zk_809 : (Jvm.Cond.selects "ChairOnTheRoad" ({ cls := "ChairOnTheRoad", name := "toss", desc := "(I)I" } : Jvm.MethodName) ({ cls := "ChairOnTheRoad", name := "toss", desc := "(I)I" } : Jvm.MethodName)) ∈ zg_tbl := zg_at 862 (by decide +kernel) (by decide +kernel)
theorem zk_810 : (Jvm.Cond.codeWith ({ cls := "ChairOnTheRoad", name := "toss", desc := "(I)I" } : Jvm.MethodName) prog_1_method_44_code (6 : Nat) (Option.some Jvm.ClassFile.FieldType.int) [((45 : Nat), (50 : Nat), (53 : Nat), (311 : Nat)), ((45 : Nat), (50 : Nat), (57 : Nat), (318 : Nat)), ((45 : Nat), (50 : Nat), (64 : Nat), (337 : Nat))]) ∈ zg_tbl := zg_at 863 (by decide +kernel) (by decide +kernel)
theorem zk_932 : (Jvm.Cond.methodLink "ChairOnTheRoadLaw" (184 : Nat) ({ cls := "ChairOnTheRoadLaw", name := "element", desc := "(LChairOnTheRoad;II[J)I" } : Jvm.MethodName)) ∈ zg_tbl := zg_at 985 (by decide +kernel) (by decide +kernel)
theorem zk_933 : (Jvm.Cond.static ({ cls := "ChairOnTheRoadLaw", name := "element", desc := "(LChairOnTheRoad;II[J)I" } : Jvm.MethodName)) ∈ zg_tbl := zg_at 986 (by decide +kernel) (by decide +kernel)
theorem zk_934 : (Jvm.Cond.codeWith ({ cls := "ChairOnTheRoadLaw", name := "element", desc := "(LChairOnTheRoad;II[J)I" } : Jvm.MethodName) method_3_code (5 : Nat) (Option.some Jvm.ClassFile.FieldType.int) [((0 : Nat), (9 : Nat), (12 : Nat), (13 : Nat)), ((0 : Nat), (9 : Nat), (16 : Nat), (15 : Nat))]) ∈ zg_tbl := zg_at 987 (by decide +kernel) (by decide +kernel)
theorem zk_937 : (Jvm.Cond.methodLink "ChairOnTheRoadLaw" (7 : Nat) ({ cls := "ChairOnTheRoad", name := "element", desc := "(II)J" } : Jvm.MethodName)) ∈ zg_tbl := zg_at 990 (by decide +kernel) (by decide +kernel)
theorem zk_938 : (Jvm.Cond.instanceMethod ({ cls := "ChairOnTheRoad", name := "element", desc := "(II)J" } : Jvm.MethodName)) ∈ zg_tbl := zg_at 991 (by decide +kernel) (by decide +kernel)
theorem zk_939 : (Jvm.Cond.selects "ChairOnTheRoad" ({ cls := "ChairOnTheRoad", name := "element", desc := "(II)J" } : Jvm.MethodName) ({ cls := "ChairOnTheRoad", name := "element", desc := "(II)J" } : Jvm.MethodName)) ∈ zg_tbl := zg_at 992 (by decide +kernel) (by decide +kernel)
theorem zk_940 : (Jvm.Cond.code ({ cls := "ChairOnTheRoad", name := "element", desc := "(II)J" } : Jvm.MethodName) prog_1_method_41_code (3 : Nat) (Option.some Jvm.ClassFile.FieldType.long)) ∈ zg_tbl := zg_at 993 (by decide +kernel) (by decide +kernel)
theorem zk_811 : (Jvm.Cond.classLink "ChairOnTheRoad" (311 : Nat) "java/lang/IllegalArgumentException") ∈ zg_tbl := zg_at 864 (by decide +kernel) (by decide +kernel)
theorem zk_812 : (Jvm.Cond.classLink "ChairOnTheRoad" (318 : Nat) "java/lang/IllegalStateException") ∈ zg_tbl := zg_at 865 (by decide +kernel) (by decide +kernel)
theorem zk_813 : (Jvm.Cond.classLink "ChairOnTheRoad" (337 : Nat) "java/lang/UnsupportedOperationException") ∈ zg_tbl := zg_at 866 (by decide +kernel) (by decide +kernel)
theorem zk_821 : (Jvm.Cond.classLink "ChairOnTheRoad$Bishop" (24 : Nat) "java/lang/UnsupportedOperationException") ∈ zg_tbl := zg_at 874 (by decide +kernel) (by decide +kernel)
theorem zk_894 : (Jvm.Cond.classLink "ChairOnTheRoad$Doctor" (7 : Nat) "java/lang/IllegalStateException") ∈ zg_tbl := zg_at 947 (by decide +kernel) (by decide +kernel)
theorem zk_916 : (Jvm.Cond.classLink "ChairOnTheRoad$Village" (7 : Nat) "java/lang/IllegalArgumentException") ∈ zg_tbl := zg_at 969 (by decide +kernel) (by decide +kernel)
theorem zk_935 : (Jvm.Cond.classLink "ChairOnTheRoadLaw" (13 : Nat) "java/lang/IllegalArgumentException") ∈ zg_tbl := zg_at 988 (by decide +kernel) (by decide +kernel)
theorem zk_936 : (Jvm.Cond.classLink "ChairOnTheRoadLaw" (15 : Nat) "java/lang/IllegalStateException") ∈ zg_tbl := zg_at 989 (by decide +kernel) (by decide +kernel)
theorem zk_17 : (Jvm.Cond.initialized "java/lang/Throwable") ∈ zg_tbl := zg_at 70 (by decide +kernel) (by decide +kernel)
theorem zk_18 : (Jvm.Cond.initialized "java/lang/Exception") ∈ zg_tbl := zg_at 71 (by decide +kernel) (by decide +kernel)
theorem zk_19 : (Jvm.Cond.initialized "java/lang/RuntimeException") ∈ zg_tbl := zg_at 72 (by decide +kernel) (by decide +kernel)
theorem zk_20 : (Jvm.Cond.initialized "java/lang/IllegalArgumentException") ∈ zg_tbl := zg_at 73 (by decide +kernel) (by decide +kernel)
theorem zk_21 : (Jvm.Cond.initialized "java/lang/IllegalStateException") ∈ zg_tbl := zg_at 74 (by decide +kernel) (by decide +kernel)
theorem zk_22 : (Jvm.Cond.initialized "java/lang/UnsupportedOperationException") ∈ zg_tbl := zg_at 75 (by decide +kernel) (by decide +kernel)

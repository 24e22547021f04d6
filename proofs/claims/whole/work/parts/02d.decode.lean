def RJ6 : String := "java/lang/Integer"
def RJ7 : String := "java/util/Arrays"
abbrev cX1_wayOf : ByteArray := prog_3_method_2_code
def yX1_wayOf : MethodName := ⟨RX1, "wayOf", "(IIII)I"⟩
theorem dX1_wayOf_0 : decode cX1_wayOf 0 = .ok (.iload_n 1, 1) := by decide +kernel
theorem dX1_wayOf_1 : decode cX1_wayOf 1 = .ok (.ifCond .le 9, 3) := by decide +kernel
theorem dX1_wayOf_4 : decode cX1_wayOf 4 = .ok (.iload_n 1, 1) := by decide +kernel
theorem dX1_wayOf_5 : decode cX1_wayOf 5 = .ok (.iconst 1, 1) := by decide +kernel
theorem dX1_wayOf_6 : decode cX1_wayOf 6 = .ok (.isub, 1) := by decide +kernel
theorem dX1_wayOf_7 : decode cX1_wayOf 7 = .ok (.goto 4, 3) := by decide +kernel
theorem dX1_wayOf_10 : decode cX1_wayOf 10 = .ok (.iconst 0, 1) := by decide +kernel
theorem dX1_wayOf_11 : decode cX1_wayOf 11 = .ok (.ireturn, 1) := by decide +kernel
abbrev cX2_wayOf : ByteArray := prog_4_method_2_code
def yX2_wayOf : MethodName := ⟨RX2, "wayOf", "(IIII)I"⟩
theorem dX2_wayOf_0 : decode cX2_wayOf 0 = .ok (.iconst 2, 1) := by decide +kernel
theorem dX2_wayOf_1 : decode cX2_wayOf 1 = .ok (.aload_n 0, 1) := by decide +kernel
theorem dX2_wayOf_2 : decode cX2_wayOf 2 = .ok (.iload_n 1, 1) := by decide +kernel
theorem dX2_wayOf_3 : decode cX2_wayOf 3 = .ok (.iload_n 2, 1) := by decide +kernel
theorem dX2_wayOf_4 : decode cX2_wayOf 4 = .ok (.iload_n 3, 1) := by decide +kernel
theorem dX2_wayOf_5 : decode cX2_wayOf 5 = .ok (.iload 4, 2) := by decide +kernel
theorem dX2_wayOf_7 : decode cX2_wayOf 7 = .ok (.invokespecial 7, 3) := by decide +kernel
theorem dX2_wayOf_10 : decode cX2_wayOf 10 = .ok (.imul, 1) := by decide +kernel
theorem dX2_wayOf_11 : decode cX2_wayOf 11 = .ok (.ireturn, 1) := by decide +kernel
abbrev cX0_wayOf : ByteArray := prog_2_method_2_code
def yX0_wayOf : MethodName := ⟨RX0, "wayOf", "(IIII)I"⟩
theorem dX0_wayOf_0 : decode cX0_wayOf 0 = .ok (.aload_n 0, 1) := by decide +kernel
theorem dX0_wayOf_1 : decode cX0_wayOf 1 = .ok (.iload_n 1, 1) := by decide +kernel
theorem dX0_wayOf_2 : decode cX0_wayOf 2 = .ok (.iload_n 2, 1) := by decide +kernel
theorem dX0_wayOf_3 : decode cX0_wayOf 3 = .ok (.iload_n 3, 1) := by decide +kernel
theorem dX0_wayOf_4 : decode cX0_wayOf 4 = .ok (.iload 4, 2) := by decide +kernel
theorem dX0_wayOf_6 : decode cX0_wayOf 6 = .ok (.invokespecial 7, 3) := by decide +kernel
theorem dX0_wayOf_9 : decode cX0_wayOf 9 = .ok (.iload 4, 2) := by decide +kernel
theorem dX0_wayOf_11 : decode cX0_wayOf 11 = .ok (.iconst 2, 1) := by decide +kernel
theorem dX0_wayOf_12 : decode cX0_wayOf 12 = .ok (.irem, 1) := by decide +kernel
theorem dX0_wayOf_13 : decode cX0_wayOf 13 = .ok (.iadd, 1) := by decide +kernel
theorem dX0_wayOf_14 : decode cX0_wayOf 14 = .ok (.ireturn, 1) := by decide +kernel
abbrev cX9_goesFar : ByteArray := prog_11_method_3_code
def yX9_goesFar : MethodName := ⟨RX9, "goesFar", "(I)I"⟩
theorem dX9_goesFar_0 : decode cX9_goesFar 0 = .ok (.bipush 6, 2) := by decide +kernel
theorem dX9_goesFar_2 : decode cX9_goesFar 2 = .ok (.iload_n 1, 1) := by decide +kernel
theorem dX9_goesFar_3 : decode cX9_goesFar 3 = .ok (.iconst 3, 1) := by decide +kernel
theorem dX9_goesFar_4 : decode cX9_goesFar 4 = .ok (.idiv, 1) := by decide +kernel
theorem dX9_goesFar_5 : decode cX9_goesFar 5 = .ok (.iadd, 1) := by decide +kernel
theorem dX9_goesFar_6 : decode cX9_goesFar 6 = .ok (.ireturn, 1) := by decide +kernel
abbrev cX1_goesFar : ByteArray := prog_3_method_3_code
def yX1_goesFar : MethodName := ⟨RX1, "goesFar", "(I)I"⟩
theorem dX1_goesFar_0 : decode cX1_goesFar 0 = .ok (.aload_n 0, 1) := by decide +kernel
theorem dX1_goesFar_1 : decode cX1_goesFar 1 = .ok (.iload_n 1, 1) := by decide +kernel
theorem dX1_goesFar_2 : decode cX1_goesFar 2 = .ok (.invokespecial 7, 3) := by decide +kernel
theorem dX1_goesFar_5 : decode cX1_goesFar 5 = .ok (.iconst 2, 1) := by decide +kernel
theorem dX1_goesFar_6 : decode cX1_goesFar 6 = .ok (.iadd, 1) := by decide +kernel
theorem dX1_goesFar_7 : decode cX1_goesFar 7 = .ok (.ireturn, 1) := by decide +kernel
abbrev cX2_goesFar : ByteArray := prog_4_method_3_code
def yX2_goesFar : MethodName := ⟨RX2, "goesFar", "(I)I"⟩
theorem dX2_goesFar_0 : decode cX2_goesFar 0 = .ok (.iconst 2, 1) := by decide +kernel
theorem dX2_goesFar_1 : decode cX2_goesFar 1 = .ok (.aload_n 0, 1) := by decide +kernel
theorem dX2_goesFar_2 : decode cX2_goesFar 2 = .ok (.iload_n 1, 1) := by decide +kernel
theorem dX2_goesFar_3 : decode cX2_goesFar 3 = .ok (.invokespecial 11, 3) := by decide +kernel
theorem dX2_goesFar_6 : decode cX2_goesFar 6 = .ok (.imul, 1) := by decide +kernel
theorem dX2_goesFar_7 : decode cX2_goesFar 7 = .ok (.ireturn, 1) := by decide +kernel
abbrev cX0_goesFar : ByteArray := prog_2_method_3_code
def yX0_goesFar : MethodName := ⟨RX0, "goesFar", "(I)I"⟩
theorem dX0_goesFar_0 : decode cX0_goesFar 0 = .ok (.aload_n 0, 1) := by decide +kernel
theorem dX0_goesFar_1 : decode cX0_goesFar 1 = .ok (.iload_n 1, 1) := by decide +kernel
theorem dX0_goesFar_2 : decode cX0_goesFar 2 = .ok (.invokespecial 11, 3) := by decide +kernel
theorem dX0_goesFar_5 : decode cX0_goesFar 5 = .ok (.iconst 1, 1) := by decide +kernel
theorem dX0_goesFar_6 : decode cX0_goesFar 6 = .ok (.iadd, 1) := by decide +kernel
theorem dX0_goesFar_7 : decode cX0_goesFar 7 = .ok (.ireturn, 1) := by decide +kernel
abbrev cX0_brings : ByteArray := prog_2_method_4_code
def yX0_brings : MethodName := ⟨RX0, "brings", "(I)I"⟩
theorem dX0_brings_0 : decode cX0_brings 0 = .ok (.bipush 9, 2) := by decide +kernel
theorem dX0_brings_2 : decode cX0_brings 2 = .ok (.ireturn, 1) := by decide +kernel
abbrev cX1_eats : ByteArray := prog_3_method_5_code
def yX1_eats : MethodName := ⟨RX1, "eats", "(I)I"⟩
theorem dX1_eats_0 : decode cX1_eats 0 = .ok (.iconst 1, 1) := by decide +kernel
theorem dX1_eats_1 : decode cX1_eats 1 = .ok (.ireturn, 1) := by decide +kernel
abbrev cX2_eats : ByteArray := prog_4_method_5_code
def yX2_eats : MethodName := ⟨RX2, "eats", "(I)I"⟩
theorem dX2_eats_0 : decode cX2_eats 0 = .ok (.aload_n 0, 1) := by decide +kernel
theorem dX2_eats_1 : decode cX2_eats 1 = .ok (.iload_n 1, 1) := by decide +kernel
theorem dX2_eats_2 : decode cX2_eats 2 = .ok (.invokespecial 18, 3) := by decide +kernel
theorem dX2_eats_5 : decode cX2_eats 5 = .ok (.iload_n 1, 1) := by decide +kernel
theorem dX2_eats_6 : decode cX2_eats 6 = .ok (.iconst 3, 1) := by decide +kernel
theorem dX2_eats_7 : decode cX2_eats 7 = .ok (.idiv, 1) := by decide +kernel
theorem dX2_eats_8 : decode cX2_eats 8 = .ok (.iadd, 1) := by decide +kernel
theorem dX2_eats_9 : decode cX2_eats 9 = .ok (.ireturn, 1) := by decide +kernel
abbrev cX0_eats : ByteArray := prog_2_method_5_code
def yX0_eats : MethodName := ⟨RX0, "eats", "(I)I"⟩
theorem dX0_eats_0 : decode cX0_eats 0 = .ok (.iconst 2, 1) := by decide +kernel
theorem dX0_eats_1 : decode cX0_eats 1 = .ok (.aload_n 0, 1) := by decide +kernel
theorem dX0_eats_2 : decode cX0_eats 2 = .ok (.iload_n 1, 1) := by decide +kernel
theorem dX0_eats_3 : decode cX0_eats 3 = .ok (.invokespecial 15, 3) := by decide +kernel
theorem dX0_eats_6 : decode cX0_eats 6 = .ok (.imul, 1) := by decide +kernel
theorem dX0_eats_7 : decode cX0_eats 7 = .ok (.ireturn, 1) := by decide +kernel
abbrev cX9_costs : ByteArray := prog_11_method_7_code
def yX9_costs : MethodName := ⟨RX9, "costs", "(I)I"⟩
theorem dX9_costs_0 : decode cX9_costs 0 = .ok (.iconst 4, 1) := by decide +kernel
theorem dX9_costs_1 : decode cX9_costs 1 = .ok (.ireturn, 1) := by decide +kernel
abbrev cX1_costs : ByteArray := prog_3_method_6_code
def yX1_costs : MethodName := ⟨RX1, "costs", "(I)I"⟩
theorem dX1_costs_0 : decode cX1_costs 0 = .ok (.aload_n 0, 1) := by decide +kernel
theorem dX1_costs_1 : decode cX1_costs 1 = .ok (.iload_n 1, 1) := by decide +kernel
theorem dX1_costs_2 : decode cX1_costs 2 = .ok (.invokespecial 11, 3) := by decide +kernel
theorem dX1_costs_5 : decode cX1_costs 5 = .ok (.iload_n 1, 1) := by decide +kernel
theorem dX1_costs_6 : decode cX1_costs 6 = .ok (.iadd, 1) := by decide +kernel
theorem dX1_costs_7 : decode cX1_costs 7 = .ok (.ireturn, 1) := by decide +kernel
abbrev cX2_costs : ByteArray := prog_4_method_6_code
def yX2_costs : MethodName := ⟨RX2, "costs", "(I)I"⟩
theorem dX2_costs_0 : decode cX2_costs 0 = .ok (.iconst 2, 1) := by decide +kernel
theorem dX2_costs_1 : decode cX2_costs 1 = .ok (.aload_n 0, 1) := by decide +kernel
theorem dX2_costs_2 : decode cX2_costs 2 = .ok (.iload_n 1, 1) := by decide +kernel
theorem dX2_costs_3 : decode cX2_costs 3 = .ok (.invokespecial 21, 3) := by decide +kernel
theorem dX2_costs_6 : decode cX2_costs 6 = .ok (.imul, 1) := by decide +kernel
theorem dX2_costs_7 : decode cX2_costs 7 = .ok (.ireturn, 1) := by decide +kernel
abbrev cX0_costs : ByteArray := prog_2_method_6_code
def yX0_costs : MethodName := ⟨RX0, "costs", "(I)I"⟩
theorem dX0_costs_0 : decode cX0_costs 0 = .ok (.aload_n 0, 1) := by decide +kernel
theorem dX0_costs_1 : decode cX0_costs 1 = .ok (.iload_n 1, 1) := by decide +kernel
theorem dX0_costs_2 : decode cX0_costs 2 = .ok (.invokespecial 18, 3) := by decide +kernel
theorem dX0_costs_5 : decode cX0_costs 5 = .ok (.iconst 3, 1) := by decide +kernel
theorem dX0_costs_6 : decode cX0_costs 6 = .ok (.iadd, 1) := by decide +kernel
theorem dX0_costs_7 : decode cX0_costs 7 = .ok (.ireturn, 1) := by decide +kernel
abbrev cX1_brings : ByteArray := prog_3_method_4_code
def yX1_brings : MethodName := ⟨RX1, "brings", "(I)I"⟩
theorem dX1_brings_0 : decode cX1_brings 0 = .ok (.iload_n 1, 1) := by decide +kernel
theorem dX1_brings_1 : decode cX1_brings 1 = .ok (.ireturn, 1) := by decide +kernel
abbrev cX2_brings : ByteArray := prog_4_method_4_code
def yX2_brings : MethodName := ⟨RX2, "brings", "(I)I"⟩
theorem dX2_brings_0 : decode cX2_brings 0 = .ok (.aload_n 0, 1) := by decide +kernel
theorem dX2_brings_1 : decode cX2_brings 1 = .ok (.iload_n 1, 1) := by decide +kernel
theorem dX2_brings_2 : decode cX2_brings 2 = .ok (.invokespecial 15, 3) := by decide +kernel
theorem dX2_brings_5 : decode cX2_brings 5 = .ok (.iconst 1, 1) := by decide +kernel
theorem dX2_brings_6 : decode cX2_brings 6 = .ok (.iadd, 1) := by decide +kernel
theorem dX2_brings_7 : decode cX2_brings 7 = .ok (.ireturn, 1) := by decide +kernel
abbrev cX3_wayOf : ByteArray := prog_5_method_2_code
def yX3_wayOf : MethodName := ⟨RX3, "wayOf", "(IIII)I"⟩
theorem dX3_wayOf_0 : decode cX3_wayOf 0 = .ok (.iload_n 2, 1) := by decide +kernel
theorem dX3_wayOf_1 : decode cX3_wayOf 1 = .ok (.ireturn, 1) := by decide +kernel
abbrev cX3_goesFar : ByteArray := prog_5_method_3_code
def yX3_goesFar : MethodName := ⟨RX3, "goesFar", "(I)I"⟩
theorem dX3_goesFar_0 : decode cX3_goesFar 0 = .ok (.iload_n 1, 1) := by decide +kernel
theorem dX3_goesFar_1 : decode cX3_goesFar 1 = .ok (.ireturn, 1) := by decide +kernel
abbrev cX3_brings : ByteArray := prog_5_method_4_code
def yX3_brings : MethodName := ⟨RX3, "brings", "(I)I"⟩
theorem dX3_brings_0 : decode cX3_brings 0 = .ok (.iconst 2, 1) := by decide +kernel
theorem dX3_brings_1 : decode cX3_brings 1 = .ok (.ireturn, 1) := by decide +kernel
abbrev cX3_eats : ByteArray := prog_5_method_5_code
def yX3_eats : MethodName := ⟨RX3, "eats", "(I)I"⟩
theorem dX3_eats_0 : decode cX3_eats 0 = .ok (.iconst 2, 1) := by decide +kernel
theorem dX3_eats_1 : decode cX3_eats 1 = .ok (.ireturn, 1) := by decide +kernel
abbrev cX3_nodsToHim : ByteArray := prog_5_method_6_code
def yX3_nodsToHim : MethodName := ⟨RX3, "nodsToHim", "()Z"⟩
theorem dX3_nodsToHim_0 : decode cX3_nodsToHim 0 = .ok (.iconst 0, 1) := by decide +kernel
theorem dX3_nodsToHim_1 : decode cX3_nodsToHim 1 = .ok (.ireturn, 1) := by decide +kernel
abbrev cX3_costs : ByteArray := prog_5_method_7_code
def yX3_costs : MethodName := ⟨RX3, "costs", "(I)I"⟩
theorem dX3_costs_0 : decode cX3_costs 0 = .ok (.bipush 9, 2) := by decide +kernel
theorem dX3_costs_2 : decode cX3_costs 2 = .ok (.ireturn, 1) := by decide +kernel
abbrev cX4_wayOf : ByteArray := prog_6_method_2_code
def yX4_wayOf : MethodName := ⟨RX4, "wayOf", "(IIII)I"⟩
theorem dX4_wayOf_0 : decode cX4_wayOf 0 = .ok (.iload_n 2, 1) := by decide +kernel
theorem dX4_wayOf_1 : decode cX4_wayOf 1 = .ok (.iload_n 3, 1) := by decide +kernel
theorem dX4_wayOf_2 : decode cX4_wayOf 2 = .ok (.iadd, 1) := by decide +kernel
theorem dX4_wayOf_3 : decode cX4_wayOf 3 = .ok (.ireturn, 1) := by decide +kernel
abbrev cX4_goesFar : ByteArray := prog_6_method_3_code
def yX4_goesFar : MethodName := ⟨RX4, "goesFar", "(I)I"⟩
theorem dX4_goesFar_0 : decode cX4_goesFar 0 = .ok (.aload_n 0, 1) := by decide +kernel
theorem dX4_goesFar_1 : decode cX4_goesFar 1 = .ok (.iload_n 1, 1) := by decide +kernel
theorem dX4_goesFar_2 : decode cX4_goesFar 2 = .ok (.invokespecial 7, 3) := by decide +kernel
theorem dX4_goesFar_5 : decode cX4_goesFar 5 = .ok (.iconst 2, 1) := by decide +kernel
theorem dX4_goesFar_6 : decode cX4_goesFar 6 = .ok (.idiv, 1) := by decide +kernel
theorem dX4_goesFar_7 : decode cX4_goesFar 7 = .ok (.ireturn, 1) := by decide +kernel
abbrev cX4_eats : ByteArray := prog_6_method_4_code
def yX4_eats : MethodName := ⟨RX4, "eats", "(I)I"⟩
theorem dX4_eats_0 : decode cX4_eats 0 = .ok (.iconst 0, 1) := by decide +kernel
theorem dX4_eats_1 : decode cX4_eats 1 = .ok (.ireturn, 1) := by decide +kernel
abbrev cX4_costs : ByteArray := prog_6_method_5_code
def yX4_costs : MethodName := ⟨RX4, "costs", "(I)I"⟩
theorem dX4_costs_0 : decode cX4_costs 0 = .ok (.aload_n 0, 1) := by decide +kernel
theorem dX4_costs_1 : decode cX4_costs 1 = .ok (.iload_n 1, 1) := by decide +kernel
theorem dX4_costs_2 : decode cX4_costs 2 = .ok (.invokespecial 11, 3) := by decide +kernel
theorem dX4_costs_5 : decode cX4_costs 5 = .ok (.iconst 2, 1) := by decide +kernel
theorem dX4_costs_6 : decode cX4_costs 6 = .ok (.idiv, 1) := by decide +kernel
theorem dX4_costs_7 : decode cX4_costs 7 = .ok (.ireturn, 1) := by decide +kernel
abbrev cX5_goesFar : ByteArray := prog_7_method_2_code
def yX5_goesFar : MethodName := ⟨RX5, "goesFar", "(I)I"⟩
theorem dX5_goesFar_0 : decode cX5_goesFar 0 = .ok (.iconst 0, 1) := by decide +kernel
theorem dX5_goesFar_1 : decode cX5_goesFar 1 = .ok (.ireturn, 1) := by decide +kernel
abbrev cX5_eats : ByteArray := prog_7_method_3_code
def yX5_eats : MethodName := ⟨RX5, "eats", "(I)I"⟩
theorem dX5_eats_0 : decode cX5_eats 0 = .ok (.aload_n 0, 1) := by decide +kernel
theorem dX5_eats_1 : decode cX5_eats 1 = .ok (.iload_n 1, 1) := by decide +kernel
theorem dX5_eats_2 : decode cX5_eats 2 = .ok (.invokespecial 7, 3) := by decide +kernel
theorem dX5_eats_5 : decode cX5_eats 5 = .ok (.iconst 1, 1) := by decide +kernel
theorem dX5_eats_6 : decode cX5_eats 6 = .ok (.isub, 1) := by decide +kernel
theorem dX5_eats_7 : decode cX5_eats 7 = .ok (.ireturn, 1) := by decide +kernel
abbrev cX5_costs : ByteArray := prog_7_method_4_code
def yX5_costs : MethodName := ⟨RX5, "costs", "(I)I"⟩
theorem dX5_costs_0 : decode cX5_costs 0 = .ok (.iconst 0, 1) := by decide +kernel
theorem dX5_costs_1 : decode cX5_costs 1 = .ok (.ireturn, 1) := by decide +kernel
abbrev cX6_wayOf : ByteArray := prog_8_method_2_code
def yX6_wayOf : MethodName := ⟨RX6, "wayOf", "(IIII)I"⟩
theorem dX6_wayOf_0 : decode cX6_wayOf 0 = .ok (.iload_n 1, 1) := by decide +kernel
theorem dX6_wayOf_1 : decode cX6_wayOf 1 = .ok (.iconst 2, 1) := by decide +kernel
theorem dX6_wayOf_2 : decode cX6_wayOf 2 = .ok (.idiv, 1) := by decide +kernel
theorem dX6_wayOf_3 : decode cX6_wayOf 3 = .ok (.ireturn, 1) := by decide +kernel
abbrev cX6_goesFar : ByteArray := prog_8_method_3_code
def yX6_goesFar : MethodName := ⟨RX6, "goesFar", "(I)I"⟩
theorem dX6_goesFar_0 : decode cX6_goesFar 0 = .ok (.iconst 4, 1) := by decide +kernel
theorem dX6_goesFar_1 : decode cX6_goesFar 1 = .ok (.ireturn, 1) := by decide +kernel
abbrev cX6_brings : ByteArray := prog_8_method_4_code
def yX6_brings : MethodName := ⟨RX6, "brings", "(I)I"⟩
theorem dX6_brings_0 : decode cX6_brings 0 = .ok (.iload_n 1, 1) := by decide +kernel
theorem dX6_brings_1 : decode cX6_brings 1 = .ok (.iconst 2, 1) := by decide +kernel
theorem dX6_brings_2 : decode cX6_brings 2 = .ok (.idiv, 1) := by decide +kernel
theorem dX6_brings_3 : decode cX6_brings 3 = .ok (.ireturn, 1) := by decide +kernel
abbrev cX6_eats : ByteArray := prog_8_method_5_code
def yX6_eats : MethodName := ⟨RX6, "eats", "(I)I"⟩
theorem dX6_eats_0 : decode cX6_eats 0 = .ok (.iconst 1, 1) := by decide +kernel
theorem dX6_eats_1 : decode cX6_eats 1 = .ok (.ireturn, 1) := by decide +kernel
abbrev cX6_costs : ByteArray := prog_8_method_6_code
def yX6_costs : MethodName := ⟨RX6, "costs", "(I)I"⟩
theorem dX6_costs_0 : decode cX6_costs 0 = .ok (.iconst 1, 1) := by decide +kernel
theorem dX6_costs_1 : decode cX6_costs 1 = .ok (.ireturn, 1) := by decide +kernel
abbrev cX7_become : ByteArray := prog_9_method_2_code
def yX7_become : MethodName := ⟨RX7, "become", "(LChairOnTheRoad$Province;)V"⟩
theorem dX7_become_0 : decode cX7_become 0 = .ok (.aload_n 1, 1) := by decide +kernel
theorem dX7_become_1 : decode cX7_become 1 = .ok (.getfield 9, 3) := by decide +kernel
theorem dX7_become_4 : decode cX7_become 4 = .ok (.iconst 0, 1) := by decide +kernel
theorem dX7_become_5 : decode cX7_become 5 = .ok (.aload_n 0, 1) := by decide +kernel
theorem dX7_become_6 : decode cX7_become 6 = .ok (.getfield 9, 3) := by decide +kernel
theorem dX7_become_9 : decode cX7_become 9 = .ok (.iconst 0, 1) := by decide +kernel
theorem dX7_become_10 : decode cX7_become 10 = .ok (.bipush 7, 2) := by decide +kernel
theorem dX7_become_12 : decode cX7_become 12 = .ok (.invokestatic 47, 3) := by decide +kernel
theorem dX7_become_15 : decode cX7_become 15 = .ok (.aload_n 1, 1) := by decide +kernel
theorem dX7_become_16 : decode cX7_become 16 = .ok (.getfield 15, 3) := by decide +kernel
theorem dX7_become_19 : decode cX7_become 19 = .ok (.iconst 0, 1) := by decide +kernel
theorem dX7_become_20 : decode cX7_become 20 = .ok (.aload_n 0, 1) := by decide +kernel
theorem dX7_become_21 : decode cX7_become 21 = .ok (.getfield 15, 3) := by decide +kernel
theorem dX7_become_24 : decode cX7_become 24 = .ok (.iconst 0, 1) := by decide +kernel
theorem dX7_become_25 : decode cX7_become 25 = .ok (.bipush 7, 2) := by decide +kernel
theorem dX7_become_27 : decode cX7_become 27 = .ok (.invokestatic 47, 3) := by decide +kernel
theorem dX7_become_30 : decode cX7_become 30 = .ok (.aload_n 1, 1) := by decide +kernel
theorem dX7_become_31 : decode cX7_become 31 = .ok (.getfield 18, 3) := by decide +kernel
theorem dX7_become_34 : decode cX7_become 34 = .ok (.iconst 0, 1) := by decide +kernel
theorem dX7_become_35 : decode cX7_become 35 = .ok (.aload_n 0, 1) := by decide +kernel
theorem dX7_become_36 : decode cX7_become 36 = .ok (.getfield 18, 3) := by decide +kernel
theorem dX7_become_39 : decode cX7_become 39 = .ok (.iconst 0, 1) := by decide +kernel
theorem dX7_become_40 : decode cX7_become 40 = .ok (.bipush 7, 2) := by decide +kernel
theorem dX7_become_42 : decode cX7_become 42 = .ok (.invokestatic 47, 3) := by decide +kernel
theorem dX7_become_45 : decode cX7_become 45 = .ok (.aload_n 1, 1) := by decide +kernel
theorem dX7_become_46 : decode cX7_become 46 = .ok (.getfield 21, 3) := by decide +kernel
theorem dX7_become_49 : decode cX7_become 49 = .ok (.iconst 0, 1) := by decide +kernel
theorem dX7_become_50 : decode cX7_become 50 = .ok (.aload_n 0, 1) := by decide +kernel
theorem dX7_become_51 : decode cX7_become 51 = .ok (.getfield 21, 3) := by decide +kernel
theorem dX7_become_54 : decode cX7_become 54 = .ok (.iconst 0, 1) := by decide +kernel
theorem dX7_become_55 : decode cX7_become 55 = .ok (.bipush 7, 2) := by decide +kernel
theorem dX7_become_57 : decode cX7_become 57 = .ok (.invokestatic 47, 3) := by decide +kernel
theorem dX7_become_60 : decode cX7_become 60 = .ok (.aload_n 1, 1) := by decide +kernel
theorem dX7_become_61 : decode cX7_become 61 = .ok (.getfield 24, 3) := by decide +kernel
theorem dX7_become_64 : decode cX7_become 64 = .ok (.iconst 0, 1) := by decide +kernel
theorem dX7_become_65 : decode cX7_become 65 = .ok (.aload_n 0, 1) := by decide +kernel
theorem dX7_become_66 : decode cX7_become 66 = .ok (.getfield 24, 3) := by decide +kernel
theorem dX7_become_69 : decode cX7_become 69 = .ok (.iconst 0, 1) := by decide +kernel
theorem dX7_become_70 : decode cX7_become 70 = .ok (.bipush 7, 2) := by decide +kernel
theorem dX7_become_72 : decode cX7_become 72 = .ok (.invokestatic 47, 3) := by decide +kernel
theorem dX7_become_75 : decode cX7_become 75 = .ok (.aload_n 1, 1) := by decide +kernel
theorem dX7_become_76 : decode cX7_become 76 = .ok (.getfield 27, 3) := by decide +kernel
theorem dX7_become_79 : decode cX7_become 79 = .ok (.iconst 0, 1) := by decide +kernel
theorem dX7_become_80 : decode cX7_become 80 = .ok (.aload_n 0, 1) := by decide +kernel
theorem dX7_become_81 : decode cX7_become 81 = .ok (.getfield 27, 3) := by decide +kernel
theorem dX7_become_84 : decode cX7_become 84 = .ok (.iconst 0, 1) := by decide +kernel
theorem dX7_become_85 : decode cX7_become 85 = .ok (.bipush 7, 2) := by decide +kernel
theorem dX7_become_87 : decode cX7_become 87 = .ok (.invokestatic 47, 3) := by decide +kernel
theorem dX7_become_90 : decode cX7_become 90 = .ok (.aload_n 1, 1) := by decide +kernel
theorem dX7_become_91 : decode cX7_become 91 = .ok (.getfield 30, 3) := by decide +kernel
theorem dX7_become_94 : decode cX7_become 94 = .ok (.iconst 0, 1) := by decide +kernel
theorem dX7_become_95 : decode cX7_become 95 = .ok (.aload_n 0, 1) := by decide +kernel
theorem dX7_become_96 : decode cX7_become 96 = .ok (.getfield 30, 3) := by decide +kernel
theorem dX7_become_99 : decode cX7_become 99 = .ok (.iconst 0, 1) := by decide +kernel
theorem dX7_become_100 : decode cX7_become 100 = .ok (.bipush 7, 2) := by decide +kernel
theorem dX7_become_102 : decode cX7_become 102 = .ok (.invokestatic 47, 3) := by decide +kernel
theorem dX7_become_105 : decode cX7_become 105 = .ok (.aload_n 1, 1) := by decide +kernel
theorem dX7_become_106 : decode cX7_become 106 = .ok (.getfield 33, 3) := by decide +kernel
theorem dX7_become_109 : decode cX7_become 109 = .ok (.iconst 0, 1) := by decide +kernel
theorem dX7_become_110 : decode cX7_become 110 = .ok (.aload_n 0, 1) := by decide +kernel
theorem dX7_become_111 : decode cX7_become 111 = .ok (.getfield 33, 3) := by decide +kernel
theorem dX7_become_114 : decode cX7_become 114 = .ok (.iconst 0, 1) := by decide +kernel
theorem dX7_become_115 : decode cX7_become 115 = .ok (.bipush 7, 2) := by decide +kernel
theorem dX7_become_117 : decode cX7_become 117 = .ok (.invokestatic 47, 3) := by decide +kernel
theorem dX7_become_120 : decode cX7_become 120 = .ok (.aload_n 0, 1) := by decide +kernel
theorem dX7_become_121 : decode cX7_become 121 = .ok (.aload_n 1, 1) := by decide +kernel
theorem dX7_become_122 : decode cX7_become 122 = .ok (.getfield 53, 3) := by decide +kernel
theorem dX7_become_125 : decode cX7_become 125 = .ok (.putfield 53, 3) := by decide +kernel
theorem dX7_become_128 : decode cX7_become 128 = .ok (.aload_n 0, 1) := by decide +kernel
theorem dX7_become_129 : decode cX7_become 129 = .ok (.aload_n 1, 1) := by decide +kernel
theorem dX7_become_130 : decode cX7_become 130 = .ok (.getfield 56, 3) := by decide +kernel
theorem dX7_become_133 : decode cX7_become 133 = .ok (.putfield 56, 3) := by decide +kernel
theorem dX7_become_136 : decode cX7_become 136 = .ok (.aload_n 0, 1) := by decide +kernel
theorem dX7_become_137 : decode cX7_become 137 = .ok (.aload_n 1, 1) := by decide +kernel
theorem dX7_become_138 : decode cX7_become 138 = .ok (.getfield 36, 3) := by decide +kernel
theorem dX7_become_141 : decode cX7_become 141 = .ok (.putfield 36, 3) := by decide +kernel
theorem dX7_become_144 : decode cX7_become 144 = .ok (.aload_n 0, 1) := by decide +kernel
theorem dX7_become_145 : decode cX7_become 145 = .ok (.aload_n 1, 1) := by decide +kernel
theorem dX7_become_146 : decode cX7_become 146 = .ok (.getfield 40, 3) := by decide +kernel
theorem dX7_become_149 : decode cX7_become 149 = .ok (.putfield 40, 3) := by decide +kernel
theorem dX7_become_152 : decode cX7_become 152 = .ok (.aload_n 0, 1) := by decide +kernel
theorem dX7_become_153 : decode cX7_become 153 = .ok (.aload_n 1, 1) := by decide +kernel
theorem dX7_become_154 : decode cX7_become 154 = .ok (.getfield 59, 3) := by decide +kernel
theorem dX7_become_157 : decode cX7_become 157 = .ok (.putfield 59, 3) := by decide +kernel
theorem dX7_become_160 : decode cX7_become 160 = .ok (.aload_n 0, 1) := by decide +kernel
theorem dX7_become_161 : decode cX7_become 161 = .ok (.aload_n 1, 1) := by decide +kernel
theorem dX7_become_162 : decode cX7_become 162 = .ok (.getfield 62, 3) := by decide +kernel
theorem dX7_become_165 : decode cX7_become 165 = .ok (.putfield 62, 3) := by decide +kernel
theorem dX7_become_168 : decode cX7_become 168 = .ok (.return_, 1) := by decide +kernel
abbrev cX7_isThere : ByteArray := prog_9_method_3_code
def yX7_isThere : MethodName := ⟨RX7, "isThere", "(I)Z"⟩
theorem dX7_isThere_0 : decode cX7_isThere 0 = .ok (.iload_n 1, 1) := by decide +kernel
theorem dX7_isThere_1 : decode cX7_isThere 1 = .ok (.ifCond .lt 15, 3) := by decide +kernel
theorem dX7_isThere_4 : decode cX7_isThere 4 = .ok (.iload_n 1, 1) := by decide +kernel
theorem dX7_isThere_5 : decode cX7_isThere 5 = .ok (.aload_n 0, 1) := by decide +kernel
theorem dX7_isThere_6 : decode cX7_isThere 6 = .ok (.getfield 53, 3) := by decide +kernel
theorem dX7_isThere_9 : decode cX7_isThere 9 = .ok (.if_icmp .ge 7, 3) := by decide +kernel
theorem dX7_isThere_12 : decode cX7_isThere 12 = .ok (.iconst 1, 1) := by decide +kernel
theorem dX7_isThere_13 : decode cX7_isThere 13 = .ok (.goto 4, 3) := by decide +kernel
theorem dX7_isThere_16 : decode cX7_isThere 16 = .ok (.iconst 0, 1) := by decide +kernel
theorem dX7_isThere_17 : decode cX7_isThere 17 = .ok (.ireturn, 1) := by decide +kernel
abbrev cX10_isKind : ByteArray := prog_1_method_46_code
def yX10_isKind : MethodName := ⟨RX10, "isKind", "(I)Z"⟩
theorem dX10_isKind_0 : decode cX10_isKind 0 = .ok (.iload_n 0, 1) := by decide +kernel
theorem dX10_isKind_1 : decode cX10_isKind 1 = .ok (.ifCond .lt 13, 3) := by decide +kernel
theorem dX10_isKind_4 : decode cX10_isKind 4 = .ok (.iload_n 0, 1) := by decide +kernel
theorem dX10_isKind_5 : decode cX10_isKind 5 = .ok (.bipush 8, 2) := by decide +kernel
theorem dX10_isKind_7 : decode cX10_isKind 7 = .ok (.if_icmp .ge 7, 3) := by decide +kernel
theorem dX10_isKind_10 : decode cX10_isKind 10 = .ok (.iconst 1, 1) := by decide +kernel
theorem dX10_isKind_11 : decode cX10_isKind 11 = .ok (.goto 4, 3) := by decide +kernel
theorem dX10_isKind_14 : decode cX10_isKind 14 = .ok (.iconst 0, 1) := by decide +kernel
theorem dX10_isKind_15 : decode cX10_isKind 15 = .ok (.ireturn, 1) := by decide +kernel
abbrev cX10_isFigure : ByteArray := prog_1_method_47_code
def yX10_isFigure : MethodName := ⟨RX10, "isFigure", "(I)Z"⟩
theorem dX10_isFigure_0 : decode cX10_isFigure 0 = .ok (.iload_n 0, 1) := by decide +kernel
theorem dX10_isFigure_1 : decode cX10_isFigure 1 = .ok (.ifCond .lt 13, 3) := by decide +kernel
theorem dX10_isFigure_4 : decode cX10_isFigure 4 = .ok (.iload_n 0, 1) := by decide +kernel
theorem dX10_isFigure_5 : decode cX10_isFigure 5 = .ok (.bipush 10, 2) := by decide +kernel
theorem dX10_isFigure_7 : decode cX10_isFigure 7 = .ok (.if_icmp .ge 7, 3) := by decide +kernel
theorem dX10_isFigure_10 : decode cX10_isFigure 10 = .ok (.iconst 1, 1) := by decide +kernel
theorem dX10_isFigure_11 : decode cX10_isFigure 11 = .ok (.goto 4, 3) := by decide +kernel
theorem dX10_isFigure_14 : decode cX10_isFigure 14 = .ok (.iconst 0, 1) := by decide +kernel
theorem dX10_isFigure_15 : decode cX10_isFigure 15 = .ok (.ireturn, 1) := by decide +kernel
abbrev cX10_isPlace : ByteArray := prog_1_method_45_code
def yX10_isPlace : MethodName := ⟨RX10, "isPlace", "(I)Z"⟩
theorem dX10_isPlace_0 : decode cX10_isPlace 0 = .ok (.iload_n 0, 1) := by decide +kernel
theorem dX10_isPlace_1 : decode cX10_isPlace 1 = .ok (.ifCond .lt 13, 3) := by decide +kernel
theorem dX10_isPlace_4 : decode cX10_isPlace 4 = .ok (.iload_n 0, 1) := by decide +kernel
theorem dX10_isPlace_5 : decode cX10_isPlace 5 = .ok (.bipush 12, 2) := by decide +kernel
theorem dX10_isPlace_7 : decode cX10_isPlace 7 = .ok (.if_icmp .ge 7, 3) := by decide +kernel
theorem dX10_isPlace_10 : decode cX10_isPlace 10 = .ok (.iconst 1, 1) := by decide +kernel
theorem dX10_isPlace_11 : decode cX10_isPlace 11 = .ok (.goto 4, 3) := by decide +kernel
theorem dX10_isPlace_14 : decode cX10_isPlace 14 = .ok (.iconst 0, 1) := by decide +kernel
theorem dX10_isPlace_15 : decode cX10_isPlace 15 = .ok (.ireturn, 1) := by decide +kernel
abbrev cX7_isNumber : ByteArray := prog_9_method_6_code
def yX7_isNumber : MethodName := ⟨RX7, "isNumber", "(I)Z"⟩
theorem dX7_isNumber_0 : decode cX7_isNumber 0 = .ok (.iload_n 0, 1) := by decide +kernel
theorem dX7_isNumber_1 : decode cX7_isNumber 1 = .ok (.ifCond .lt 13, 3) := by decide +kernel
theorem dX7_isNumber_4 : decode cX7_isNumber 4 = .ok (.iload_n 0, 1) := by decide +kernel
theorem dX7_isNumber_5 : decode cX7_isNumber 5 = .ok (.bipush 7, 2) := by decide +kernel
theorem dX7_isNumber_7 : decode cX7_isNumber 7 = .ok (.if_icmp .ge 7, 3) := by decide +kernel
theorem dX7_isNumber_10 : decode cX7_isNumber 10 = .ok (.iconst 1, 1) := by decide +kernel
theorem dX7_isNumber_11 : decode cX7_isNumber 11 = .ok (.goto 4, 3) := by decide +kernel
theorem dX7_isNumber_14 : decode cX7_isNumber 14 = .ok (.iconst 0, 1) := by decide +kernel
theorem dX7_isNumber_15 : decode cX7_isNumber 15 = .ok (.ireturn, 1) := by decide +kernel
abbrev cX9_brings : ByteArray := prog_11_method_4_code
def yX9_brings : MethodName := ⟨RX9, "brings", "(I)I"⟩
theorem dX9_brings_0 : decode cX9_brings 0 = .ok (.iconst 3, 1) := by decide +kernel
theorem dX9_brings_1 : decode cX9_brings 1 = .ok (.ireturn, 1) := by decide +kernel
abbrev cX9_eats : ByteArray := prog_11_method_5_code
def yX9_eats : MethodName := ⟨RX9, "eats", "(I)I"⟩
theorem dX9_eats_0 : decode cX9_eats 0 = .ok (.iconst 2, 1) := by decide +kernel
theorem dX9_eats_1 : decode cX9_eats 1 = .ok (.ireturn, 1) := by decide +kernel
abbrev cX7_dress : ByteArray := prog_9_method_5_code
def yX7_dress : MethodName := ⟨RX7, "dress", "(III)V"⟩
theorem dX7_dress_0 : decode cX7_dress 0 = .ok (.aload_n 0, 1) := by decide +kernel
theorem dX7_dress_1 : decode cX7_dress 1 = .ok (.getfield 9, 3) := by decide +kernel
theorem dX7_dress_4 : decode cX7_dress 4 = .ok (.iload_n 1, 1) := by decide +kernel
theorem dX7_dress_5 : decode cX7_dress 5 = .ok (.iload_n 2, 1) := by decide +kernel
theorem dX7_dress_6 : decode cX7_dress 6 = .ok (.iastore, 1) := by decide +kernel
theorem dX7_dress_7 : decode cX7_dress 7 = .ok (.aload_n 0, 1) := by decide +kernel
theorem dX7_dress_8 : decode cX7_dress 8 = .ok (.getfield 15, 3) := by decide +kernel
theorem dX7_dress_11 : decode cX7_dress 11 = .ok (.iload_n 1, 1) := by decide +kernel
theorem dX7_dress_12 : decode cX7_dress 12 = .ok (.iload_n 3, 1) := by decide +kernel
theorem dX7_dress_13 : decode cX7_dress 13 = .ok (.iastore, 1) := by decide +kernel
theorem dX7_dress_14 : decode cX7_dress 14 = .ok (.aload_n 0, 1) := by decide +kernel
theorem dX7_dress_15 : decode cX7_dress 15 = .ok (.getfield 27, 3) := by decide +kernel
theorem dX7_dress_18 : decode cX7_dress 18 = .ok (.iload_n 1, 1) := by decide +kernel
theorem dX7_dress_19 : decode cX7_dress 19 = .ok (.aload_n 0, 1) := by decide +kernel
theorem dX7_dress_20 : decode cX7_dress 20 = .ok (.getfield 43, 3) := by decide +kernel
theorem dX7_dress_23 : decode cX7_dress 23 = .ok (.iload_n 2, 1) := by decide +kernel
theorem dX7_dress_24 : decode cX7_dress 24 = .ok (.aaload, 1) := by decide +kernel
theorem dX7_dress_25 : decode cX7_dress 25 = .ok (.iload_n 3, 1) := by decide +kernel
theorem dX7_dress_26 : decode cX7_dress 26 = .ok (.invokevirtual 82, 3) := by decide +kernel
theorem dX7_dress_29 : decode cX7_dress 29 = .ok (.iastore, 1) := by decide +kernel
theorem dX7_dress_30 : decode cX7_dress 30 = .ok (.aload_n 0, 1) := by decide +kernel
theorem dX7_dress_31 : decode cX7_dress 31 = .ok (.getfield 30, 3) := by decide +kernel
theorem dX7_dress_34 : decode cX7_dress 34 = .ok (.iload_n 1, 1) := by decide +kernel
theorem dX7_dress_35 : decode cX7_dress 35 = .ok (.aload_n 0, 1) := by decide +kernel
theorem dX7_dress_36 : decode cX7_dress 36 = .ok (.getfield 43, 3) := by decide +kernel
theorem dX7_dress_39 : decode cX7_dress 39 = .ok (.iload_n 2, 1) := by decide +kernel
theorem dX7_dress_40 : decode cX7_dress 40 = .ok (.aaload, 1) := by decide +kernel
theorem dX7_dress_41 : decode cX7_dress 41 = .ok (.iload_n 3, 1) := by decide +kernel
theorem dX7_dress_42 : decode cX7_dress 42 = .ok (.invokevirtual 88, 3) := by decide +kernel
theorem dX7_dress_45 : decode cX7_dress 45 = .ok (.iastore, 1) := by decide +kernel
theorem dX7_dress_46 : decode cX7_dress 46 = .ok (.aload_n 0, 1) := by decide +kernel
theorem dX7_dress_47 : decode cX7_dress 47 = .ok (.getfield 33, 3) := by decide +kernel
theorem dX7_dress_50 : decode cX7_dress 50 = .ok (.iload_n 1, 1) := by decide +kernel
theorem dX7_dress_51 : decode cX7_dress 51 = .ok (.aload_n 0, 1) := by decide +kernel
theorem dX7_dress_52 : decode cX7_dress 52 = .ok (.getfield 43, 3) := by decide +kernel
theorem dX7_dress_55 : decode cX7_dress 55 = .ok (.iload_n 2, 1) := by decide +kernel
theorem dX7_dress_56 : decode cX7_dress 56 = .ok (.aaload, 1) := by decide +kernel
theorem dX7_dress_57 : decode cX7_dress 57 = .ok (.iload_n 3, 1) := by decide +kernel
theorem dX7_dress_58 : decode cX7_dress 58 = .ok (.invokevirtual 90, 3) := by decide +kernel
theorem dX7_dress_61 : decode cX7_dress 61 = .ok (.iastore, 1) := by decide +kernel
theorem dX7_dress_62 : decode cX7_dress 62 = .ok (.return_, 1) := by decide +kernel
abbrev cX7_add : ByteArray := prog_9_method_4_code
def yX7_add : MethodName := ⟨RX7, "add", "(IIII)I"⟩
theorem dX7_add_0 : decode cX7_add 0 = .ok (.aload_n 0, 1) := by decide +kernel
theorem dX7_add_1 : decode cX7_add 1 = .ok (.getfield 53, 3) := by decide +kernel
theorem dX7_add_4 : decode cX7_add 4 = .ok (.bipush 7, 2) := by decide +kernel
theorem dX7_add_6 : decode cX7_add 6 = .ok (.if_icmp .lt 6, 3) := by decide +kernel
theorem dX7_add_9 : decode cX7_add 9 = .ok (.bipush (-2), 2) := by decide +kernel
theorem dX7_add_11 : decode cX7_add 11 = .ok (.ireturn, 1) := by decide +kernel
theorem dX7_add_12 : decode cX7_add 12 = .ok (.iload_n 1, 1) := by decide +kernel
theorem dX7_add_13 : decode cX7_add 13 = .ok (.invokestatic 65, 3) := by decide +kernel
theorem dX7_add_16 : decode cX7_add 16 = .ok (.ifCond .eq 25, 3) := by decide +kernel
theorem dX7_add_19 : decode cX7_add 19 = .ok (.iload_n 2, 1) := by decide +kernel
theorem dX7_add_20 : decode cX7_add 20 = .ok (.invokestatic 69, 3) := by decide +kernel
theorem dX7_add_23 : decode cX7_add 23 = .ok (.ifCond .eq 18, 3) := by decide +kernel
theorem dX7_add_26 : decode cX7_add 26 = .ok (.iload_n 3, 1) := by decide +kernel
theorem dX7_add_27 : decode cX7_add 27 = .ok (.invokestatic 72, 3) := by decide +kernel
theorem dX7_add_30 : decode cX7_add 30 = .ok (.ifCond .eq 11, 3) := by decide +kernel
theorem dX7_add_33 : decode cX7_add 33 = .ok (.iload 4, 2) := by decide +kernel
theorem dX7_add_35 : decode cX7_add 35 = .ok (.invokestatic 75, 3) := by decide +kernel
theorem dX7_add_38 : decode cX7_add 38 = .ok (.ifCond .ne 5, 3) := by decide +kernel
theorem dX7_add_41 : decode cX7_add 41 = .ok (.iconst (-1), 1) := by decide +kernel
theorem dX7_add_42 : decode cX7_add 42 = .ok (.ireturn, 1) := by decide +kernel
theorem dX7_add_43 : decode cX7_add 43 = .ok (.aload_n 0, 1) := by decide +kernel
theorem dX7_add_44 : decode cX7_add 44 = .ok (.getfield 53, 3) := by decide +kernel
theorem dX7_add_47 : decode cX7_add 47 = .ok (.istore 5, 2) := by decide +kernel
theorem dX7_add_49 : decode cX7_add 49 = .ok (.aload_n 0, 1) := by decide +kernel
theorem dX7_add_50 : decode cX7_add 50 = .ok (.dup, 1) := by decide +kernel
theorem dX7_add_51 : decode cX7_add 51 = .ok (.getfield 53, 3) := by decide +kernel
theorem dX7_add_54 : decode cX7_add 54 = .ok (.iconst 1, 1) := by decide +kernel
theorem dX7_add_55 : decode cX7_add 55 = .ok (.iadd, 1) := by decide +kernel
theorem dX7_add_56 : decode cX7_add 56 = .ok (.putfield 53, 3) := by decide +kernel
theorem dX7_add_59 : decode cX7_add 59 = .ok (.aload_n 0, 1) := by decide +kernel
theorem dX7_add_60 : decode cX7_add 60 = .ok (.getfield 18, 3) := by decide +kernel
theorem dX7_add_63 : decode cX7_add 63 = .ok (.iload 5, 2) := by decide +kernel
theorem dX7_add_65 : decode cX7_add 65 = .ok (.iload_n 3, 1) := by decide +kernel
theorem dX7_add_66 : decode cX7_add 66 = .ok (.iastore, 1) := by decide +kernel
theorem dX7_add_67 : decode cX7_add 67 = .ok (.aload_n 0, 1) := by decide +kernel
theorem dX7_add_68 : decode cX7_add 68 = .ok (.getfield 21, 3) := by decide +kernel
theorem dX7_add_71 : decode cX7_add 71 = .ok (.iload 5, 2) := by decide +kernel
theorem dX7_add_73 : decode cX7_add 73 = .ok (.iload 4, 2) := by decide +kernel
theorem dX7_add_75 : decode cX7_add 75 = .ok (.iastore, 1) := by decide +kernel
theorem dX7_add_76 : decode cX7_add 76 = .ok (.aload_n 0, 1) := by decide +kernel
theorem dX7_add_77 : decode cX7_add 77 = .ok (.getfield 24, 3) := by decide +kernel
theorem dX7_add_80 : decode cX7_add 80 = .ok (.iload 5, 2) := by decide +kernel
theorem dX7_add_82 : decode cX7_add 82 = .ok (.bipush 10, 2) := by decide +kernel
theorem dX7_add_84 : decode cX7_add 84 = .ok (.iastore, 1) := by decide +kernel
theorem dX7_add_85 : decode cX7_add 85 = .ok (.aload_n 0, 1) := by decide +kernel
theorem dX7_add_86 : decode cX7_add 86 = .ok (.iload 5, 2) := by decide +kernel
theorem dX7_add_88 : decode cX7_add 88 = .ok (.iload_n 1, 1) := by decide +kernel
theorem dX7_add_89 : decode cX7_add 89 = .ok (.iload_n 2, 1) := by decide +kernel
theorem dX7_add_90 : decode cX7_add 90 = .ok (.invokevirtual 78, 3) := by decide +kernel
theorem dX7_add_93 : decode cX7_add 93 = .ok (.iload 5, 2) := by decide +kernel
theorem dX7_add_95 : decode cX7_add 95 = .ok (.ireturn, 1) := by decide +kernel
abbrev cX7_setFrom : ByteArray := prog_9_method_7_code
def yX7_setFrom : MethodName := ⟨RX7, "setFrom", "(II)I"⟩
theorem dX7_setFrom_0 : decode cX7_setFrom 0 = .ok (.aload_n 0, 1) := by decide +kernel
theorem dX7_setFrom_1 : decode cX7_setFrom 1 = .ok (.iload_n 1, 1) := by decide +kernel
theorem dX7_setFrom_2 : decode cX7_setFrom 2 = .ok (.invokevirtual 92, 3) := by decide +kernel
theorem dX7_setFrom_5 : decode cX7_setFrom 5 = .ok (.ifCond .eq 10, 3) := by decide +kernel
theorem dX7_setFrom_8 : decode cX7_setFrom 8 = .ok (.iload_n 2, 1) := by decide +kernel
theorem dX7_setFrom_9 : decode cX7_setFrom 9 = .ok (.invokestatic 75, 3) := by decide +kernel
theorem dX7_setFrom_12 : decode cX7_setFrom 12 = .ok (.ifCond .ne 5, 3) := by decide +kernel
theorem dX7_setFrom_15 : decode cX7_setFrom 15 = .ok (.iconst (-1), 1) := by decide +kernel
theorem dX7_setFrom_16 : decode cX7_setFrom 16 = .ok (.ireturn, 1) := by decide +kernel
theorem dX7_setFrom_17 : decode cX7_setFrom 17 = .ok (.aload_n 0, 1) := by decide +kernel
theorem dX7_setFrom_18 : decode cX7_setFrom 18 = .ok (.getfield 21, 3) := by decide +kernel
theorem dX7_setFrom_21 : decode cX7_setFrom 21 = .ok (.iload_n 1, 1) := by decide +kernel
theorem dX7_setFrom_22 : decode cX7_setFrom 22 = .ok (.iaload, 1) := by decide +kernel
theorem dX7_setFrom_23 : decode cX7_setFrom 23 = .ok (.istore_n 3, 1) := by decide +kernel
theorem dX7_setFrom_24 : decode cX7_setFrom 24 = .ok (.aload_n 0, 1) := by decide +kernel
theorem dX7_setFrom_25 : decode cX7_setFrom 25 = .ok (.getfield 21, 3) := by decide +kernel
theorem dX7_setFrom_28 : decode cX7_setFrom 28 = .ok (.iload_n 1, 1) := by decide +kernel
theorem dX7_setFrom_29 : decode cX7_setFrom 29 = .ok (.iload_n 2, 1) := by decide +kernel
theorem dX7_setFrom_30 : decode cX7_setFrom 30 = .ok (.iastore, 1) := by decide +kernel
theorem dX7_setFrom_31 : decode cX7_setFrom 31 = .ok (.iload_n 3, 1) := by decide +kernel
theorem dX7_setFrom_32 : decode cX7_setFrom 32 = .ok (.ireturn, 1) := by decide +kernel
abbrev cX7_setStock : ByteArray := prog_9_method_8_code
def yX7_setStock : MethodName := ⟨RX7, "setStock", "(II)I"⟩
theorem dX7_setStock_0 : decode cX7_setStock 0 = .ok (.aload_n 0, 1) := by decide +kernel
theorem dX7_setStock_1 : decode cX7_setStock 1 = .ok (.iload_n 1, 1) := by decide +kernel
theorem dX7_setStock_2 : decode cX7_setStock 2 = .ok (.invokevirtual 92, 3) := by decide +kernel
theorem dX7_setStock_5 : decode cX7_setStock 5 = .ok (.ifCond .eq 13, 3) := by decide +kernel
theorem dX7_setStock_8 : decode cX7_setStock 8 = .ok (.iload_n 2, 1) := by decide +kernel
theorem dX7_setStock_9 : decode cX7_setStock 9 = .ok (.ifCond .lt 9, 3) := by decide +kernel
theorem dX7_setStock_12 : decode cX7_setStock 12 = .ok (.iload_n 2, 1) := by decide +kernel
theorem dX7_setStock_13 : decode cX7_setStock 13 = .ok (.bipush 99, 2) := by decide +kernel
theorem dX7_setStock_15 : decode cX7_setStock 15 = .ok (.if_icmp .le 5, 3) := by decide +kernel
theorem dX7_setStock_18 : decode cX7_setStock 18 = .ok (.iconst (-1), 1) := by decide +kernel
theorem dX7_setStock_19 : decode cX7_setStock 19 = .ok (.ireturn, 1) := by decide +kernel
theorem dX7_setStock_20 : decode cX7_setStock 20 = .ok (.aload_n 0, 1) := by decide +kernel
theorem dX7_setStock_21 : decode cX7_setStock 21 = .ok (.getfield 24, 3) := by decide +kernel
theorem dX7_setStock_24 : decode cX7_setStock 24 = .ok (.iload_n 1, 1) := by decide +kernel
theorem dX7_setStock_25 : decode cX7_setStock 25 = .ok (.iaload, 1) := by decide +kernel
theorem dX7_setStock_26 : decode cX7_setStock 26 = .ok (.istore_n 3, 1) := by decide +kernel
theorem dX7_setStock_27 : decode cX7_setStock 27 = .ok (.aload_n 0, 1) := by decide +kernel
theorem dX7_setStock_28 : decode cX7_setStock 28 = .ok (.getfield 24, 3) := by decide +kernel
theorem dX7_setStock_31 : decode cX7_setStock 31 = .ok (.iload_n 1, 1) := by decide +kernel
theorem dX7_setStock_32 : decode cX7_setStock 32 = .ok (.iload_n 2, 1) := by decide +kernel
theorem dX7_setStock_33 : decode cX7_setStock 33 = .ok (.iastore, 1) := by decide +kernel
theorem dX7_setStock_34 : decode cX7_setStock 34 = .ok (.iload_n 3, 1) := by decide +kernel
theorem dX7_setStock_35 : decode cX7_setStock 35 = .ok (.ireturn, 1) := by decide +kernel
abbrev cX7_setChair : ByteArray := prog_9_method_9_code
def yX7_setChair : MethodName := ⟨RX7, "setChair", "(I)I"⟩
theorem dX7_setChair_0 : decode cX7_setChair 0 = .ok (.iload_n 1, 1) := by decide +kernel
theorem dX7_setChair_1 : decode cX7_setChair 1 = .ok (.invokestatic 72, 3) := by decide +kernel
theorem dX7_setChair_4 : decode cX7_setChair 4 = .ok (.ifCond .ne 5, 3) := by decide +kernel
theorem dX7_setChair_7 : decode cX7_setChair 7 = .ok (.iconst (-1), 1) := by decide +kernel
theorem dX7_setChair_8 : decode cX7_setChair 8 = .ok (.ireturn, 1) := by decide +kernel
theorem dX7_setChair_9 : decode cX7_setChair 9 = .ok (.aload_n 0, 1) := by decide +kernel
theorem dX7_setChair_10 : decode cX7_setChair 10 = .ok (.getfield 56, 3) := by decide +kernel
theorem dX7_setChair_13 : decode cX7_setChair 13 = .ok (.istore_n 2, 1) := by decide +kernel
theorem dX7_setChair_14 : decode cX7_setChair 14 = .ok (.aload_n 0, 1) := by decide +kernel
theorem dX7_setChair_15 : decode cX7_setChair 15 = .ok (.iload_n 1, 1) := by decide +kernel
theorem dX7_setChair_16 : decode cX7_setChair 16 = .ok (.putfield 56, 3) := by decide +kernel
theorem dX7_setChair_19 : decode cX7_setChair 19 = .ok (.iload_n 2, 1) := by decide +kernel
theorem dX7_setChair_20 : decode cX7_setChair 20 = .ok (.ireturn, 1) := by decide +kernel
abbrev cX7_setSun : ByteArray := prog_9_method_10_code
def yX7_setSun : MethodName := ⟨RX7, "setSun", "(II)I"⟩
theorem dX7_setSun_0 : decode cX7_setSun 0 = .ok (.iload_n 1, 1) := by decide +kernel
theorem dX7_setSun_1 : decode cX7_setSun 1 = .ok (.ifCond .lt 15, 3) := by decide +kernel
theorem dX7_setSun_4 : decode cX7_setSun 4 = .ok (.iload_n 1, 1) := by decide +kernel
theorem dX7_setSun_5 : decode cX7_setSun 5 = .ok (.iconst 5, 1) := by decide +kernel
theorem dX7_setSun_6 : decode cX7_setSun 6 = .ok (.if_icmp .gt 10, 3) := by decide +kernel
theorem dX7_setSun_9 : decode cX7_setSun 9 = .ok (.iload_n 2, 1) := by decide +kernel
theorem dX7_setSun_10 : decode cX7_setSun 10 = .ok (.invokestatic 72, 3) := by decide +kernel
theorem dX7_setSun_13 : decode cX7_setSun 13 = .ok (.ifCond .ne 5, 3) := by decide +kernel
theorem dX7_setSun_16 : decode cX7_setSun 16 = .ok (.iconst (-1), 1) := by decide +kernel
theorem dX7_setSun_17 : decode cX7_setSun 17 = .ok (.ireturn, 1) := by decide +kernel
theorem dX7_setSun_18 : decode cX7_setSun 18 = .ok (.bipush 100, 2) := by decide +kernel
theorem dX7_setSun_20 : decode cX7_setSun 20 = .ok (.aload_n 0, 1) := by decide +kernel
theorem dX7_setSun_21 : decode cX7_setSun 21 = .ok (.getfield 36, 3) := by decide +kernel
theorem dX7_setSun_24 : decode cX7_setSun 24 = .ok (.imul, 1) := by decide +kernel
theorem dX7_setSun_25 : decode cX7_setSun 25 = .ok (.aload_n 0, 1) := by decide +kernel
theorem dX7_setSun_26 : decode cX7_setSun 26 = .ok (.getfield 40, 3) := by decide +kernel
theorem dX7_setSun_29 : decode cX7_setSun 29 = .ok (.iadd, 1) := by decide +kernel
theorem dX7_setSun_30 : decode cX7_setSun 30 = .ok (.istore_n 3, 1) := by decide +kernel
theorem dX7_setSun_31 : decode cX7_setSun 31 = .ok (.aload_n 0, 1) := by decide +kernel
theorem dX7_setSun_32 : decode cX7_setSun 32 = .ok (.iload_n 1, 1) := by decide +kernel
theorem dX7_setSun_33 : decode cX7_setSun 33 = .ok (.putfield 36, 3) := by decide +kernel
theorem dX7_setSun_36 : decode cX7_setSun 36 = .ok (.aload_n 0, 1) := by decide +kernel
theorem dX7_setSun_37 : decode cX7_setSun 37 = .ok (.iload_n 2, 1) := by decide +kernel
theorem dX7_setSun_38 : decode cX7_setSun 38 = .ok (.putfield 40, 3) := by decide +kernel
theorem dX7_setSun_41 : decode cX7_setSun 41 = .ok (.iload_n 3, 1) := by decide +kernel
theorem dX7_setSun_42 : decode cX7_setSun 42 = .ok (.ireturn, 1) := by decide +kernel
abbrev cX7_refuseDays : ByteArray := prog_9_method_11_code
def yX7_refuseDays : MethodName := ⟨RX7, "refuseDays", "(I)I"⟩
theorem dX7_refuseDays_0 : decode cX7_refuseDays 0 = .ok (.iload_n 1, 1) := by decide +kernel
theorem dX7_refuseDays_1 : decode cX7_refuseDays 1 = .ok (.iconst 1, 1) := by decide +kernel
theorem dX7_refuseDays_2 : decode cX7_refuseDays 2 = .ok (.if_icmp .lt 9, 3) := by decide +kernel
theorem dX7_refuseDays_5 : decode cX7_refuseDays 5 = .ok (.iload_n 1, 1) := by decide +kernel
theorem dX7_refuseDays_6 : decode cX7_refuseDays 6 = .ok (.bipush 60, 2) := by decide +kernel
theorem dX7_refuseDays_8 : decode cX7_refuseDays 8 = .ok (.if_icmp .le 5, 3) := by decide +kernel
theorem dX7_refuseDays_11 : decode cX7_refuseDays 11 = .ok (.iconst (-1), 1) := by decide +kernel
theorem dX7_refuseDays_12 : decode cX7_refuseDays 12 = .ok (.ireturn, 1) := by decide +kernel
theorem dX7_refuseDays_13 : decode cX7_refuseDays 13 = .ok (.aload_n 0, 1) := by decide +kernel
theorem dX7_refuseDays_14 : decode cX7_refuseDays 14 = .ok (.getfield 62, 3) := by decide +kernel
theorem dX7_refuseDays_17 : decode cX7_refuseDays 17 = .ok (.iload_n 1, 1) := by decide +kernel
theorem dX7_refuseDays_18 : decode cX7_refuseDays 18 = .ok (.iadd, 1) := by decide +kernel
theorem dX7_refuseDays_19 : decode cX7_refuseDays 19 = .ok (.sipush 999, 3) := by decide +kernel
theorem dX7_refuseDays_22 : decode cX7_refuseDays 22 = .ok (.if_icmp .le 8, 3) := by decide +kernel
theorem dX7_refuseDays_25 : decode cX7_refuseDays 25 = .ok (.bipush (-3), 2) := by decide +kernel
theorem dX7_refuseDays_27 : decode cX7_refuseDays 27 = .ok (.goto 4, 3) := by decide +kernel
theorem dX7_refuseDays_30 : decode cX7_refuseDays 30 = .ok (.iconst 0, 1) := by decide +kernel
theorem dX7_refuseDays_31 : decode cX7_refuseDays 31 = .ok (.ireturn, 1) := by decide +kernel
abbrev cX7_hasSource : ByteArray := prog_9_method_12_code
def yX7_hasSource : MethodName := ⟨RX7, "hasSource", "(I)Z"⟩
theorem dX7_hasSource_0 : decode cX7_hasSource 0 = .ok (.aload_n 0, 1) := by decide +kernel
theorem dX7_hasSource_1 : decode cX7_hasSource 1 = .ok (.getfield 21, 3) := by decide +kernel
theorem dX7_hasSource_4 : decode cX7_hasSource 4 = .ok (.iload_n 1, 1) := by decide +kernel
theorem dX7_hasSource_5 : decode cX7_hasSource 5 = .ok (.iaload, 1) := by decide +kernel
theorem dX7_hasSource_6 : decode cX7_hasSource 6 = .ok (.iload_n 1, 1) := by decide +kernel
theorem dX7_hasSource_7 : decode cX7_hasSource 7 = .ok (.if_icmp .eq 20, 3) := by decide +kernel
theorem dX7_hasSource_10 : decode cX7_hasSource 10 = .ok (.aload_n 0, 1) := by decide +kernel
theorem dX7_hasSource_11 : decode cX7_hasSource 11 = .ok (.aload_n 0, 1) := by decide +kernel
theorem dX7_hasSource_12 : decode cX7_hasSource 12 = .ok (.getfield 21, 3) := by decide +kernel
theorem dX7_hasSource_15 : decode cX7_hasSource 15 = .ok (.iload_n 1, 1) := by decide +kernel
theorem dX7_hasSource_16 : decode cX7_hasSource 16 = .ok (.iaload, 1) := by decide +kernel
theorem dX7_hasSource_17 : decode cX7_hasSource 17 = .ok (.invokevirtual 92, 3) := by decide +kernel
theorem dX7_hasSource_20 : decode cX7_hasSource 20 = .ok (.ifCond .eq 7, 3) := by decide +kernel
theorem dX7_hasSource_23 : decode cX7_hasSource 23 = .ok (.iconst 1, 1) := by decide +kernel
theorem dX7_hasSource_24 : decode cX7_hasSource 24 = .ok (.goto 4, 3) := by decide +kernel
theorem dX7_hasSource_27 : decode cX7_hasSource 27 = .ok (.iconst 0, 1) := by decide +kernel
theorem dX7_hasSource_28 : decode cX7_hasSource 28 = .ok (.ireturn, 1) := by decide +kernel
abbrev cX10_far : ByteArray := prog_1_method_57_code
def yX10_far : MethodName := ⟨RX10, "far", "(II)I"⟩
theorem dX10_far_0 : decode cX10_far 0 = .ok (.iload_n 0, 1) := by decide +kernel
theorem dX10_far_1 : decode cX10_far 1 = .ok (.iload_n 1, 1) := by decide +kernel
theorem dX10_far_2 : decode cX10_far 2 = .ok (.isub, 1) := by decide +kernel
theorem dX10_far_3 : decode cX10_far 3 = .ok (.invokestatic 348, 3) := by decide +kernel
theorem dX10_far_6 : decode cX10_far 6 = .ok (.istore_n 2, 1) := by decide +kernel
theorem dX10_far_7 : decode cX10_far 7 = .ok (.iload_n 2, 1) := by decide +kernel
theorem dX10_far_8 : decode cX10_far 8 = .ok (.bipush 6, 2) := by decide +kernel
theorem dX10_far_10 : decode cX10_far 10 = .ok (.if_icmp .le 10, 3) := by decide +kernel
theorem dX10_far_13 : decode cX10_far 13 = .ok (.bipush 12, 2) := by decide +kernel
theorem dX10_far_15 : decode cX10_far 15 = .ok (.iload_n 2, 1) := by decide +kernel
theorem dX10_far_16 : decode cX10_far 16 = .ok (.isub, 1) := by decide +kernel
theorem dX10_far_17 : decode cX10_far 17 = .ok (.goto 4, 3) := by decide +kernel
theorem dX10_far_20 : decode cX10_far 20 = .ok (.iload_n 2, 1) := by decide +kernel
theorem dX10_far_21 : decode cX10_far 21 = .ok (.ireturn, 1) := by decide +kernel
abbrev cX9_wayOf : ByteArray := prog_11_method_2_code
def yX9_wayOf : MethodName := ⟨RX9, "wayOf", "(IIII)I"⟩
theorem dX9_wayOf_0 : decode cX9_wayOf 0 = .ok (.iload_n 1, 1) := by decide +kernel
theorem dX9_wayOf_1 : decode cX9_wayOf 1 = .ok (.ireturn, 1) := by decide +kernel
abbrev cX7_wayTo : ByteArray := prog_9_method_13_code
def yX7_wayTo : MethodName := ⟨RX7, "wayTo", "(II)I"⟩
theorem dX7_wayTo_0 : decode cX7_wayTo 0 = .ok (.aload_n 0, 1) := by decide +kernel
theorem dX7_wayTo_1 : decode cX7_wayTo 1 = .ok (.getfield 56, 3) := by decide +kernel
theorem dX7_wayTo_4 : decode cX7_wayTo 4 = .ok (.iload_n 2, 1) := by decide +kernel
theorem dX7_wayTo_5 : decode cX7_wayTo 5 = .ok (.invokestatic 95, 3) := by decide +kernel
theorem dX7_wayTo_8 : decode cX7_wayTo 8 = .ok (.istore_n 3, 1) := by decide +kernel
theorem dX7_wayTo_9 : decode cX7_wayTo 9 = .ok (.aload_n 0, 1) := by decide +kernel
theorem dX7_wayTo_10 : decode cX7_wayTo 10 = .ok (.getfield 18, 3) := by decide +kernel
theorem dX7_wayTo_13 : decode cX7_wayTo 13 = .ok (.iload_n 1, 1) := by decide +kernel
theorem dX7_wayTo_14 : decode cX7_wayTo 14 = .ok (.iaload, 1) := by decide +kernel
theorem dX7_wayTo_15 : decode cX7_wayTo 15 = .ok (.aload_n 0, 1) := by decide +kernel
theorem dX7_wayTo_16 : decode cX7_wayTo 16 = .ok (.getfield 56, 3) := by decide +kernel
theorem dX7_wayTo_19 : decode cX7_wayTo 19 = .ok (.invokestatic 95, 3) := by decide +kernel
theorem dX7_wayTo_22 : decode cX7_wayTo 22 = .ok (.iload_n 3, 1) := by decide +kernel
theorem dX7_wayTo_23 : decode cX7_wayTo 23 = .ok (.iadd, 1) := by decide +kernel
theorem dX7_wayTo_24 : decode cX7_wayTo 24 = .ok (.istore 4, 2) := by decide +kernel
theorem dX7_wayTo_26 : decode cX7_wayTo 26 = .ok (.aload_n 0, 1) := by decide +kernel
theorem dX7_wayTo_27 : decode cX7_wayTo 27 = .ok (.getfield 43, 3) := by decide +kernel
theorem dX7_wayTo_30 : decode cX7_wayTo 30 = .ok (.aload_n 0, 1) := by decide +kernel
theorem dX7_wayTo_31 : decode cX7_wayTo 31 = .ok (.getfield 9, 3) := by decide +kernel
theorem dX7_wayTo_34 : decode cX7_wayTo 34 = .ok (.iload_n 1, 1) := by decide +kernel
theorem dX7_wayTo_35 : decode cX7_wayTo 35 = .ok (.iaload, 1) := by decide +kernel
theorem dX7_wayTo_36 : decode cX7_wayTo 36 = .ok (.aaload, 1) := by decide +kernel
theorem dX7_wayTo_37 : decode cX7_wayTo 37 = .ok (.iload 4, 2) := by decide +kernel
theorem dX7_wayTo_39 : decode cX7_wayTo 39 = .ok (.aload_n 0, 1) := by decide +kernel
theorem dX7_wayTo_40 : decode cX7_wayTo 40 = .ok (.getfield 18, 3) := by decide +kernel
theorem dX7_wayTo_43 : decode cX7_wayTo 43 = .ok (.iload_n 1, 1) := by decide +kernel
theorem dX7_wayTo_44 : decode cX7_wayTo 44 = .ok (.iaload, 1) := by decide +kernel
theorem dX7_wayTo_45 : decode cX7_wayTo 45 = .ok (.iload_n 2, 1) := by decide +kernel
theorem dX7_wayTo_46 : decode cX7_wayTo 46 = .ok (.invokestatic 95, 3) := by decide +kernel
theorem dX7_wayTo_49 : decode cX7_wayTo 49 = .ok (.iload_n 3, 1) := by decide +kernel
theorem dX7_wayTo_50 : decode cX7_wayTo 50 = .ok (.aload_n 0, 1) := by decide +kernel
theorem dX7_wayTo_51 : decode cX7_wayTo 51 = .ok (.getfield 62, 3) := by decide +kernel
theorem dX7_wayTo_54 : decode cX7_wayTo 54 = .ok (.invokevirtual 99, 3) := by decide +kernel
theorem dX7_wayTo_57 : decode cX7_wayTo 57 = .ok (.ireturn, 1) := by decide +kernel
abbrev cX7_wayToSource : ByteArray := prog_9_method_14_code
def yX7_wayToSource : MethodName := ⟨RX7, "wayToSource", "(I)I"⟩
theorem dX7_wayToSource_0 : decode cX7_wayToSource 0 = .ok (.aload_n 0, 1) := by decide +kernel
theorem dX7_wayToSource_1 : decode cX7_wayToSource 1 = .ok (.iload_n 1, 1) := by decide +kernel
theorem dX7_wayToSource_2 : decode cX7_wayToSource 2 = .ok (.aload_n 0, 1) := by decide +kernel
theorem dX7_wayToSource_3 : decode cX7_wayToSource 3 = .ok (.getfield 18, 3) := by decide +kernel
theorem dX7_wayToSource_6 : decode cX7_wayToSource 6 = .ok (.aload_n 0, 1) := by decide +kernel
theorem dX7_wayToSource_7 : decode cX7_wayToSource 7 = .ok (.getfield 21, 3) := by decide +kernel
theorem dX7_wayToSource_10 : decode cX7_wayToSource 10 = .ok (.iload_n 1, 1) := by decide +kernel
theorem dX7_wayToSource_11 : decode cX7_wayToSource 11 = .ok (.iaload, 1) := by decide +kernel
theorem dX7_wayToSource_12 : decode cX7_wayToSource 12 = .ok (.iaload, 1) := by decide +kernel
theorem dX7_wayToSource_13 : decode cX7_wayToSource 13 = .ok (.invokevirtual 103, 3) := by decide +kernel
theorem dX7_wayToSource_16 : decode cX7_wayToSource 16 = .ok (.ireturn, 1) := by decide +kernel
abbrev cX7_isAble : ByteArray := prog_9_method_15_code
def yX7_isAble : MethodName := ⟨RX7, "isAble", "(I)Z"⟩
theorem dX7_isAble_0 : decode cX7_isAble 0 = .ok (.aload_n 0, 1) := by decide +kernel
theorem dX7_isAble_1 : decode cX7_isAble 1 = .ok (.iload_n 1, 1) := by decide +kernel
theorem dX7_isAble_2 : decode cX7_isAble 2 = .ok (.invokevirtual 106, 3) := by decide +kernel
theorem dX7_isAble_5 : decode cX7_isAble 5 = .ok (.ifCond .eq 32, 3) := by decide +kernel
theorem dX7_isAble_8 : decode cX7_isAble 8 = .ok (.aload_n 0, 1) := by decide +kernel
theorem dX7_isAble_9 : decode cX7_isAble 9 = .ok (.iload_n 1, 1) := by decide +kernel
theorem dX7_isAble_10 : decode cX7_isAble 10 = .ok (.aload_n 0, 1) := by decide +kernel
theorem dX7_isAble_11 : decode cX7_isAble 11 = .ok (.getfield 18, 3) := by decide +kernel
theorem dX7_isAble_14 : decode cX7_isAble 14 = .ok (.aload_n 0, 1) := by decide +kernel
theorem dX7_isAble_15 : decode cX7_isAble 15 = .ok (.getfield 21, 3) := by decide +kernel
theorem dX7_isAble_18 : decode cX7_isAble 18 = .ok (.iload_n 1, 1) := by decide +kernel
theorem dX7_isAble_19 : decode cX7_isAble 19 = .ok (.iaload, 1) := by decide +kernel
theorem dX7_isAble_20 : decode cX7_isAble 20 = .ok (.iaload, 1) := by decide +kernel
theorem dX7_isAble_21 : decode cX7_isAble 21 = .ok (.invokevirtual 103, 3) := by decide +kernel
theorem dX7_isAble_24 : decode cX7_isAble 24 = .ok (.aload_n 0, 1) := by decide +kernel
theorem dX7_isAble_25 : decode cX7_isAble 25 = .ok (.getfield 27, 3) := by decide +kernel
theorem dX7_isAble_28 : decode cX7_isAble 28 = .ok (.iload_n 1, 1) := by decide +kernel
theorem dX7_isAble_29 : decode cX7_isAble 29 = .ok (.iaload, 1) := by decide +kernel
theorem dX7_isAble_30 : decode cX7_isAble 30 = .ok (.if_icmp .gt 7, 3) := by decide +kernel
theorem dX7_isAble_33 : decode cX7_isAble 33 = .ok (.iconst 1, 1) := by decide +kernel
theorem dX7_isAble_34 : decode cX7_isAble 34 = .ok (.goto 4, 3) := by decide +kernel
theorem dX7_isAble_37 : decode cX7_isAble 37 = .ok (.iconst 0, 1) := by decide +kernel
theorem dX7_isAble_38 : decode cX7_isAble 38 = .ok (.ireturn, 1) := by decide +kernel
abbrev cX7_ableBits : ByteArray := prog_9_method_16_code
def yX7_ableBits : MethodName := ⟨RX7, "ableBits", "()I"⟩
theorem dX7_ableBits_0 : decode cX7_ableBits 0 = .ok (.iconst 0, 1) := by decide +kernel
theorem dX7_ableBits_1 : decode cX7_ableBits 1 = .ok (.istore_n 1, 1) := by decide +kernel
theorem dX7_ableBits_2 : decode cX7_ableBits 2 = .ok (.iconst 0, 1) := by decide +kernel
theorem dX7_ableBits_3 : decode cX7_ableBits 3 = .ok (.istore_n 2, 1) := by decide +kernel
theorem dX7_ableBits_4 : decode cX7_ableBits 4 = .ok (.iload_n 2, 1) := by decide +kernel
theorem dX7_ableBits_5 : decode cX7_ableBits 5 = .ok (.aload_n 0, 1) := by decide +kernel
theorem dX7_ableBits_6 : decode cX7_ableBits 6 = .ok (.getfield 53, 3) := by decide +kernel
theorem dX7_ableBits_9 : decode cX7_ableBits 9 = .ok (.if_icmp .ge 27, 3) := by decide +kernel
theorem dX7_ableBits_12 : decode cX7_ableBits 12 = .ok (.iload_n 1, 1) := by decide +kernel
theorem dX7_ableBits_13 : decode cX7_ableBits 13 = .ok (.aload_n 0, 1) := by decide +kernel
theorem dX7_ableBits_14 : decode cX7_ableBits 14 = .ok (.iload_n 2, 1) := by decide +kernel
theorem dX7_ableBits_15 : decode cX7_ableBits 15 = .ok (.invokevirtual 109, 3) := by decide +kernel
theorem dX7_ableBits_18 : decode cX7_ableBits 18 = .ok (.ifCond .eq 9, 3) := by decide +kernel
theorem dX7_ableBits_21 : decode cX7_ableBits 21 = .ok (.iconst 1, 1) := by decide +kernel
theorem dX7_ableBits_22 : decode cX7_ableBits 22 = .ok (.iload_n 2, 1) := by decide +kernel
theorem dX7_ableBits_23 : decode cX7_ableBits 23 = .ok (.ishl, 1) := by decide +kernel
theorem dX7_ableBits_24 : decode cX7_ableBits 24 = .ok (.goto 4, 3) := by decide +kernel
theorem dX7_ableBits_27 : decode cX7_ableBits 27 = .ok (.iconst 0, 1) := by decide +kernel
theorem dX7_ableBits_28 : decode cX7_ableBits 28 = .ok (.ior, 1) := by decide +kernel
theorem dX7_ableBits_29 : decode cX7_ableBits 29 = .ok (.istore_n 1, 1) := by decide +kernel
theorem dX7_ableBits_30 : decode cX7_ableBits 30 = .ok (.iinc 2 1, 3) := by decide +kernel
theorem dX7_ableBits_33 : decode cX7_ableBits 33 = .ok (.goto (-29), 3) := by decide +kernel
theorem dX7_ableBits_36 : decode cX7_ableBits 36 = .ok (.iload_n 1, 1) := by decide +kernel
theorem dX7_ableBits_37 : decode cX7_ableBits 37 = .ok (.ireturn, 1) := by decide +kernel
abbrev cX9_nodsToHim : ByteArray := prog_11_method_6_code
def yX9_nodsToHim : MethodName := ⟨RX9, "nodsToHim", "()Z"⟩
theorem dX9_nodsToHim_0 : decode cX9_nodsToHim 0 = .ok (.iconst 1, 1) := by decide +kernel
theorem dX9_nodsToHim_1 : decode cX9_nodsToHim 1 = .ok (.ireturn, 1) := by decide +kernel
abbrev cX7_allJammed : ByteArray := prog_9_method_17_code
def yX7_allJammed : MethodName := ⟨RX7, "allJammed", "()I"⟩
theorem dX7_allJammed_0 : decode cX7_allJammed 0 = .ok (.iconst 0, 1) := by decide +kernel
theorem dX7_allJammed_1 : decode cX7_allJammed 1 = .ok (.istore_n 1, 1) := by decide +kernel
theorem dX7_allJammed_2 : decode cX7_allJammed 2 = .ok (.iconst 0, 1) := by decide +kernel
theorem dX7_allJammed_3 : decode cX7_allJammed 3 = .ok (.istore_n 2, 1) := by decide +kernel
theorem dX7_allJammed_4 : decode cX7_allJammed 4 = .ok (.iload_n 2, 1) := by decide +kernel
theorem dX7_allJammed_5 : decode cX7_allJammed 5 = .ok (.aload_n 0, 1) := by decide +kernel
theorem dX7_allJammed_6 : decode cX7_allJammed 6 = .ok (.getfield 53, 3) := by decide +kernel
theorem dX7_allJammed_9 : decode cX7_allJammed 9 = .ok (.if_icmp .ge 42, 3) := by decide +kernel
theorem dX7_allJammed_12 : decode cX7_allJammed 12 = .ok (.iload_n 1, 1) := by decide +kernel
theorem dX7_allJammed_13 : decode cX7_allJammed 13 = .ok (.aload_n 0, 1) := by decide +kernel
theorem dX7_allJammed_14 : decode cX7_allJammed 14 = .ok (.iload_n 2, 1) := by decide +kernel
theorem dX7_allJammed_15 : decode cX7_allJammed 15 = .ok (.invokevirtual 109, 3) := by decide +kernel
theorem dX7_allJammed_18 : decode cX7_allJammed 18 = .ok (.ifCond .eq 24, 3) := by decide +kernel
theorem dX7_allJammed_21 : decode cX7_allJammed 21 = .ok (.aload_n 0, 1) := by decide +kernel
theorem dX7_allJammed_22 : decode cX7_allJammed 22 = .ok (.getfield 43, 3) := by decide +kernel
theorem dX7_allJammed_25 : decode cX7_allJammed 25 = .ok (.aload_n 0, 1) := by decide +kernel
theorem dX7_allJammed_26 : decode cX7_allJammed 26 = .ok (.getfield 9, 3) := by decide +kernel
theorem dX7_allJammed_29 : decode cX7_allJammed 29 = .ok (.iload_n 2, 1) := by decide +kernel
theorem dX7_allJammed_30 : decode cX7_allJammed 30 = .ok (.iaload, 1) := by decide +kernel
theorem dX7_allJammed_31 : decode cX7_allJammed 31 = .ok (.aaload, 1) := by decide +kernel
theorem dX7_allJammed_32 : decode cX7_allJammed 32 = .ok (.invokevirtual 112, 3) := by decide +kernel
theorem dX7_allJammed_35 : decode cX7_allJammed 35 = .ok (.ifCond .eq 7, 3) := by decide +kernel
theorem dX7_allJammed_38 : decode cX7_allJammed 38 = .ok (.iconst 1, 1) := by decide +kernel
theorem dX7_allJammed_39 : decode cX7_allJammed 39 = .ok (.goto 4, 3) := by decide +kernel
theorem dX7_allJammed_42 : decode cX7_allJammed 42 = .ok (.iconst 0, 1) := by decide +kernel
theorem dX7_allJammed_43 : decode cX7_allJammed 43 = .ok (.iadd, 1) := by decide +kernel
theorem dX7_allJammed_44 : decode cX7_allJammed 44 = .ok (.istore_n 1, 1) := by decide +kernel
theorem dX7_allJammed_45 : decode cX7_allJammed 45 = .ok (.iinc 2 1, 3) := by decide +kernel
theorem dX7_allJammed_48 : decode cX7_allJammed 48 = .ok (.goto (-44), 3) := by decide +kernel
theorem dX7_allJammed_51 : decode cX7_allJammed 51 = .ok (.iload_n 1, 1) := by decide +kernel
theorem dX7_allJammed_52 : decode cX7_allJammed 52 = .ok (.ireturn, 1) := by decide +kernel
abbrev cX7_moveChair : ByteArray := prog_9_method_19_code
def yX7_moveChair : MethodName := ⟨RX7, "moveChair", "()V"⟩
theorem dX7_moveChair_0 : decode cX7_moveChair 0 = .ok (.aload_n 0, 1) := by decide +kernel
theorem dX7_moveChair_1 : decode cX7_moveChair 1 = .ok (.dup, 1) := by decide +kernel
theorem dX7_moveChair_2 : decode cX7_moveChair 2 = .ok (.getfield 62, 3) := by decide +kernel
theorem dX7_moveChair_5 : decode cX7_moveChair 5 = .ok (.iconst 1, 1) := by decide +kernel
theorem dX7_moveChair_6 : decode cX7_moveChair 6 = .ok (.iadd, 1) := by decide +kernel
theorem dX7_moveChair_7 : decode cX7_moveChair 7 = .ok (.putfield 62, 3) := by decide +kernel
theorem dX7_moveChair_10 : decode cX7_moveChair 10 = .ok (.aload_n 0, 1) := by decide +kernel
theorem dX7_moveChair_11 : decode cX7_moveChair 11 = .ok (.aload_n 0, 1) := by decide +kernel
theorem dX7_moveChair_12 : decode cX7_moveChair 12 = .ok (.getfield 62, 3) := by decide +kernel
theorem dX7_moveChair_15 : decode cX7_moveChair 15 = .ok (.bipush 12, 2) := by decide +kernel
theorem dX7_moveChair_17 : decode cX7_moveChair 17 = .ok (.irem, 1) := by decide +kernel
theorem dX7_moveChair_18 : decode cX7_moveChair 18 = .ok (.ifCond .ne 10, 3) := by decide +kernel
theorem dX7_moveChair_21 : decode cX7_moveChair 21 = .ok (.aload_n 0, 1) := by decide +kernel
theorem dX7_moveChair_22 : decode cX7_moveChair 22 = .ok (.getfield 40, 3) := by decide +kernel
theorem dX7_moveChair_25 : decode cX7_moveChair 25 = .ok (.goto 15, 3) := by decide +kernel
theorem dX7_moveChair_28 : decode cX7_moveChair 28 = .ok (.aload_n 0, 1) := by decide +kernel
theorem dX7_moveChair_29 : decode cX7_moveChair 29 = .ok (.getfield 56, 3) := by decide +kernel
theorem dX7_moveChair_32 : decode cX7_moveChair 32 = .ok (.aload_n 0, 1) := by decide +kernel
theorem dX7_moveChair_33 : decode cX7_moveChair 33 = .ok (.getfield 36, 3) := by decide +kernel
theorem dX7_moveChair_36 : decode cX7_moveChair 36 = .ok (.iadd, 1) := by decide +kernel
theorem dX7_moveChair_37 : decode cX7_moveChair 37 = .ok (.bipush 12, 2) := by decide +kernel
theorem dX7_moveChair_39 : decode cX7_moveChair 39 = .ok (.irem, 1) := by decide +kernel
theorem dX7_moveChair_40 : decode cX7_moveChair 40 = .ok (.putfield 56, 3) := by decide +kernel
theorem dX7_moveChair_43 : decode cX7_moveChair 43 = .ok (.return_, 1) := by decide +kernel
abbrev cX7_carry : ByteArray := prog_9_method_20_code
def yX7_carry : MethodName := ⟨RX7, "carry", "(II)V"⟩
theorem dX7_carry_0 : decode cX7_carry 0 = .ok (.aload_n 0, 1) := by decide +kernel
theorem dX7_carry_1 : decode cX7_carry 1 = .ok (.getfield 30, 3) := by decide +kernel
theorem dX7_carry_4 : decode cX7_carry 4 = .ok (.iload_n 1, 1) := by decide +kernel
theorem dX7_carry_5 : decode cX7_carry 5 = .ok (.iaload, 1) := by decide +kernel
theorem dX7_carry_6 : decode cX7_carry 6 = .ok (.aload_n 0, 1) := by decide +kernel
theorem dX7_carry_7 : decode cX7_carry 7 = .ok (.getfield 24, 3) := by decide +kernel
theorem dX7_carry_10 : decode cX7_carry 10 = .ok (.iload_n 2, 1) := by decide +kernel
theorem dX7_carry_11 : decode cX7_carry 11 = .ok (.iaload, 1) := by decide +kernel
theorem dX7_carry_12 : decode cX7_carry 12 = .ok (.invokestatic 128, 3) := by decide +kernel
theorem dX7_carry_15 : decode cX7_carry 15 = .ok (.istore_n 3, 1) := by decide +kernel
theorem dX7_carry_16 : decode cX7_carry 16 = .ok (.aload_n 0, 1) := by decide +kernel
theorem dX7_carry_17 : decode cX7_carry 17 = .ok (.getfield 24, 3) := by decide +kernel
theorem dX7_carry_20 : decode cX7_carry 20 = .ok (.iload_n 2, 1) := by decide +kernel
theorem dX7_carry_21 : decode cX7_carry 21 = .ok (.dup2, 1) := by decide +kernel
theorem dX7_carry_22 : decode cX7_carry 22 = .ok (.iaload, 1) := by decide +kernel
theorem dX7_carry_23 : decode cX7_carry 23 = .ok (.iload_n 3, 1) := by decide +kernel
theorem dX7_carry_24 : decode cX7_carry 24 = .ok (.isub, 1) := by decide +kernel
theorem dX7_carry_25 : decode cX7_carry 25 = .ok (.iastore, 1) := by decide +kernel
theorem dX7_carry_26 : decode cX7_carry 26 = .ok (.aload_n 0, 1) := by decide +kernel
theorem dX7_carry_27 : decode cX7_carry 27 = .ok (.getfield 24, 3) := by decide +kernel
theorem dX7_carry_30 : decode cX7_carry 30 = .ok (.iload_n 1, 1) := by decide +kernel
theorem dX7_carry_31 : decode cX7_carry 31 = .ok (.bipush 99, 2) := by decide +kernel
theorem dX7_carry_33 : decode cX7_carry 33 = .ok (.aload_n 0, 1) := by decide +kernel
theorem dX7_carry_34 : decode cX7_carry 34 = .ok (.getfield 24, 3) := by decide +kernel
theorem dX7_carry_37 : decode cX7_carry 37 = .ok (.iload_n 1, 1) := by decide +kernel
theorem dX7_carry_38 : decode cX7_carry 38 = .ok (.iaload, 1) := by decide +kernel
theorem dX7_carry_39 : decode cX7_carry 39 = .ok (.iload_n 3, 1) := by decide +kernel
theorem dX7_carry_40 : decode cX7_carry 40 = .ok (.iadd, 1) := by decide +kernel
theorem dX7_carry_41 : decode cX7_carry 41 = .ok (.invokestatic 128, 3) := by decide +kernel
theorem dX7_carry_44 : decode cX7_carry 44 = .ok (.iastore, 1) := by decide +kernel
theorem dX7_carry_45 : decode cX7_carry 45 = .ok (.aload_n 0, 1) := by decide +kernel
theorem dX7_carry_46 : decode cX7_carry 46 = .ok (.getfield 43, 3) := by decide +kernel
theorem dX7_carry_49 : decode cX7_carry 49 = .ok (.aload_n 0, 1) := by decide +kernel
theorem dX7_carry_50 : decode cX7_carry 50 = .ok (.getfield 9, 3) := by decide +kernel
theorem dX7_carry_53 : decode cX7_carry 53 = .ok (.iload_n 1, 1) := by decide +kernel
theorem dX7_carry_54 : decode cX7_carry 54 = .ok (.iaload, 1) := by decide +kernel
theorem dX7_carry_55 : decode cX7_carry 55 = .ok (.aaload, 1) := by decide +kernel
theorem dX7_carry_56 : decode cX7_carry 56 = .ok (.invokevirtual 112, 3) := by decide +kernel
theorem dX7_carry_59 : decode cX7_carry 59 = .ok (.ifCond .eq 19, 3) := by decide +kernel
theorem dX7_carry_62 : decode cX7_carry 62 = .ok (.aload_n 0, 1) := by decide +kernel
theorem dX7_carry_63 : decode cX7_carry 63 = .ok (.sipush 9999, 3) := by decide +kernel
theorem dX7_carry_66 : decode cX7_carry 66 = .ok (.aload_n 0, 1) := by decide +kernel
theorem dX7_carry_67 : decode cX7_carry 67 = .ok (.getfield 59, 3) := by decide +kernel
theorem dX7_carry_70 : decode cX7_carry 70 = .ok (.iconst 1, 1) := by decide +kernel
theorem dX7_carry_71 : decode cX7_carry 71 = .ok (.iadd, 1) := by decide +kernel
theorem dX7_carry_72 : decode cX7_carry 72 = .ok (.invokestatic 128, 3) := by decide +kernel
theorem dX7_carry_75 : decode cX7_carry 75 = .ok (.putfield 59, 3) := by decide +kernel
theorem dX7_carry_78 : decode cX7_carry 78 = .ok (.return_, 1) := by decide +kernel
abbrev cX7_goDays : ByteArray := prog_9_method_18_code
def yX7_goDays : MethodName := ⟨RX7, "goDays", "(I)V"⟩
theorem dX7_goDays_0 : decode cX7_goDays 0 = .ok (.iconst 0, 1) := by decide +kernel
theorem dX7_goDays_1 : decode cX7_goDays 1 = .ok (.istore_n 2, 1) := by decide +kernel
theorem dX7_goDays_2 : decode cX7_goDays 2 = .ok (.iload_n 2, 1) := by decide +kernel
theorem dX7_goDays_3 : decode cX7_goDays 3 = .ok (.iload_n 1, 1) := by decide +kernel
theorem dX7_goDays_4 : decode cX7_goDays 4 = .ok (.if_icmp .ge 71, 3) := by decide +kernel
theorem dX7_goDays_7 : decode cX7_goDays 7 = .ok (.aload_n 0, 1) := by decide +kernel
theorem dX7_goDays_8 : decode cX7_goDays 8 = .ok (.invokevirtual 116, 3) := by decide +kernel
theorem dX7_goDays_11 : decode cX7_goDays 11 = .ok (.iconst 0, 1) := by decide +kernel
theorem dX7_goDays_12 : decode cX7_goDays 12 = .ok (.istore_n 3, 1) := by decide +kernel
theorem dX7_goDays_13 : decode cX7_goDays 13 = .ok (.iload_n 3, 1) := by decide +kernel
theorem dX7_goDays_14 : decode cX7_goDays 14 = .ok (.aload_n 0, 1) := by decide +kernel
theorem dX7_goDays_15 : decode cX7_goDays 15 = .ok (.getfield 53, 3) := by decide +kernel
theorem dX7_goDays_18 : decode cX7_goDays 18 = .ok (.if_icmp .ge 51, 3) := by decide +kernel
theorem dX7_goDays_21 : decode cX7_goDays 21 = .ok (.aload_n 0, 1) := by decide +kernel
theorem dX7_goDays_22 : decode cX7_goDays 22 = .ok (.iload_n 3, 1) := by decide +kernel
theorem dX7_goDays_23 : decode cX7_goDays 23 = .ok (.invokevirtual 109, 3) := by decide +kernel
theorem dX7_goDays_26 : decode cX7_goDays 26 = .ok (.ifCond .eq 14, 3) := by decide +kernel
theorem dX7_goDays_29 : decode cX7_goDays 29 = .ok (.aload_n 0, 1) := by decide +kernel
theorem dX7_goDays_30 : decode cX7_goDays 30 = .ok (.iload_n 3, 1) := by decide +kernel
theorem dX7_goDays_31 : decode cX7_goDays 31 = .ok (.aload_n 0, 1) := by decide +kernel
theorem dX7_goDays_32 : decode cX7_goDays 32 = .ok (.getfield 21, 3) := by decide +kernel
theorem dX7_goDays_35 : decode cX7_goDays 35 = .ok (.iload_n 3, 1) := by decide +kernel
theorem dX7_goDays_36 : decode cX7_goDays 36 = .ok (.iaload, 1) := by decide +kernel
theorem dX7_goDays_37 : decode cX7_goDays 37 = .ok (.invokevirtual 119, 3) := by decide +kernel
theorem dX7_goDays_40 : decode cX7_goDays 40 = .ok (.aload_n 0, 1) := by decide +kernel
theorem dX7_goDays_41 : decode cX7_goDays 41 = .ok (.getfield 24, 3) := by decide +kernel
theorem dX7_goDays_44 : decode cX7_goDays 44 = .ok (.iload_n 3, 1) := by decide +kernel
theorem dX7_goDays_45 : decode cX7_goDays 45 = .ok (.iconst 0, 1) := by decide +kernel
theorem dX7_goDays_46 : decode cX7_goDays 46 = .ok (.aload_n 0, 1) := by decide +kernel
theorem dX7_goDays_47 : decode cX7_goDays 47 = .ok (.getfield 24, 3) := by decide +kernel
theorem dX7_goDays_50 : decode cX7_goDays 50 = .ok (.iload_n 3, 1) := by decide +kernel
theorem dX7_goDays_51 : decode cX7_goDays 51 = .ok (.iaload, 1) := by decide +kernel
theorem dX7_goDays_52 : decode cX7_goDays 52 = .ok (.aload_n 0, 1) := by decide +kernel
theorem dX7_goDays_53 : decode cX7_goDays 53 = .ok (.getfield 33, 3) := by decide +kernel
theorem dX7_goDays_56 : decode cX7_goDays 56 = .ok (.iload_n 3, 1) := by decide +kernel
theorem dX7_goDays_57 : decode cX7_goDays 57 = .ok (.iaload, 1) := by decide +kernel
theorem dX7_goDays_58 : decode cX7_goDays 58 = .ok (.isub, 1) := by decide +kernel
theorem dX7_goDays_59 : decode cX7_goDays 59 = .ok (.invokestatic 123, 3) := by decide +kernel
theorem dX7_goDays_62 : decode cX7_goDays 62 = .ok (.iastore, 1) := by decide +kernel
theorem dX7_goDays_63 : decode cX7_goDays 63 = .ok (.iinc 3 1, 3) := by decide +kernel
theorem dX7_goDays_66 : decode cX7_goDays 66 = .ok (.goto (-53), 3) := by decide +kernel
theorem dX7_goDays_69 : decode cX7_goDays 69 = .ok (.iinc 2 1, 3) := by decide +kernel
theorem dX7_goDays_72 : decode cX7_goDays 72 = .ok (.goto (-70), 3) := by decide +kernel
theorem dX7_goDays_75 : decode cX7_goDays 75 = .ok (.return_, 1) := by decide +kernel
abbrev cX7_allStock : ByteArray := prog_9_method_21_code
def yX7_allStock : MethodName := ⟨RX7, "allStock", "()I"⟩
theorem dX7_allStock_0 : decode cX7_allStock 0 = .ok (.iconst 0, 1) := by decide +kernel
theorem dX7_allStock_1 : decode cX7_allStock 1 = .ok (.istore_n 1, 1) := by decide +kernel
theorem dX7_allStock_2 : decode cX7_allStock 2 = .ok (.iconst 0, 1) := by decide +kernel
theorem dX7_allStock_3 : decode cX7_allStock 3 = .ok (.istore_n 2, 1) := by decide +kernel
theorem dX7_allStock_4 : decode cX7_allStock 4 = .ok (.iload_n 2, 1) := by decide +kernel
theorem dX7_allStock_5 : decode cX7_allStock 5 = .ok (.aload_n 0, 1) := by decide +kernel
theorem dX7_allStock_6 : decode cX7_allStock 6 = .ok (.getfield 53, 3) := by decide +kernel
theorem dX7_allStock_9 : decode cX7_allStock 9 = .ok (.if_icmp .ge 18, 3) := by decide +kernel
theorem dX7_allStock_12 : decode cX7_allStock 12 = .ok (.iload_n 1, 1) := by decide +kernel
theorem dX7_allStock_13 : decode cX7_allStock 13 = .ok (.aload_n 0, 1) := by decide +kernel
theorem dX7_allStock_14 : decode cX7_allStock 14 = .ok (.getfield 24, 3) := by decide +kernel
theorem dX7_allStock_17 : decode cX7_allStock 17 = .ok (.iload_n 2, 1) := by decide +kernel
theorem dX7_allStock_18 : decode cX7_allStock 18 = .ok (.iaload, 1) := by decide +kernel
theorem dX7_allStock_19 : decode cX7_allStock 19 = .ok (.iadd, 1) := by decide +kernel
theorem dX7_allStock_20 : decode cX7_allStock 20 = .ok (.istore_n 1, 1) := by decide +kernel
theorem dX7_allStock_21 : decode cX7_allStock 21 = .ok (.iinc 2 1, 3) := by decide +kernel
theorem dX7_allStock_24 : decode cX7_allStock 24 = .ok (.goto (-20), 3) := by decide +kernel
theorem dX7_allStock_27 : decode cX7_allStock 27 = .ok (.iload_n 1, 1) := by decide +kernel
theorem dX7_allStock_28 : decode cX7_allStock 28 = .ok (.ireturn, 1) := by decide +kernel
abbrev cX7_allWays : ByteArray := prog_9_method_22_code
def yX7_allWays : MethodName := ⟨RX7, "allWays", "()I"⟩
theorem dX7_allWays_0 : decode cX7_allWays 0 = .ok (.iconst 0, 1) := by decide +kernel
theorem dX7_allWays_1 : decode cX7_allWays 1 = .ok (.istore_n 1, 1) := by decide +kernel
theorem dX7_allWays_2 : decode cX7_allWays 2 = .ok (.iconst 0, 1) := by decide +kernel
theorem dX7_allWays_3 : decode cX7_allWays 3 = .ok (.istore_n 2, 1) := by decide +kernel
theorem dX7_allWays_4 : decode cX7_allWays 4 = .ok (.iload_n 2, 1) := by decide +kernel
theorem dX7_allWays_5 : decode cX7_allWays 5 = .ok (.aload_n 0, 1) := by decide +kernel
theorem dX7_allWays_6 : decode cX7_allWays 6 = .ok (.getfield 53, 3) := by decide +kernel
theorem dX7_allWays_9 : decode cX7_allWays 9 = .ok (.if_icmp .ge 29, 3) := by decide +kernel
theorem dX7_allWays_12 : decode cX7_allWays 12 = .ok (.iload_n 1, 1) := by decide +kernel
theorem dX7_allWays_13 : decode cX7_allWays 13 = .ok (.aload_n 0, 1) := by decide +kernel
theorem dX7_allWays_14 : decode cX7_allWays 14 = .ok (.iload_n 2, 1) := by decide +kernel
theorem dX7_allWays_15 : decode cX7_allWays 15 = .ok (.invokevirtual 106, 3) := by decide +kernel
theorem dX7_allWays_18 : decode cX7_allWays 18 = .ok (.ifCond .eq 11, 3) := by decide +kernel
theorem dX7_allWays_21 : decode cX7_allWays 21 = .ok (.aload_n 0, 1) := by decide +kernel
theorem dX7_allWays_22 : decode cX7_allWays 22 = .ok (.iload_n 2, 1) := by decide +kernel
theorem dX7_allWays_23 : decode cX7_allWays 23 = .ok (.invokevirtual 131, 3) := by decide +kernel
theorem dX7_allWays_26 : decode cX7_allWays 26 = .ok (.goto 4, 3) := by decide +kernel
theorem dX7_allWays_29 : decode cX7_allWays 29 = .ok (.iconst 0, 1) := by decide +kernel
theorem dX7_allWays_30 : decode cX7_allWays 30 = .ok (.iadd, 1) := by decide +kernel
theorem dX7_allWays_31 : decode cX7_allWays 31 = .ok (.istore_n 1, 1) := by decide +kernel
theorem dX7_allWays_32 : decode cX7_allWays 32 = .ok (.iinc 2 1, 3) := by decide +kernel
theorem dX7_allWays_35 : decode cX7_allWays 35 = .ok (.goto (-31), 3) := by decide +kernel
theorem dX7_allWays_38 : decode cX7_allWays 38 = .ok (.iload_n 1, 1) := by decide +kernel
theorem dX7_allWays_39 : decode cX7_allWays 39 = .ok (.ireturn, 1) := by decide +kernel
abbrev cX7_allHungry : ByteArray := prog_9_method_23_code
def yX7_allHungry : MethodName := ⟨RX7, "allHungry", "()I"⟩
theorem dX7_allHungry_0 : decode cX7_allHungry 0 = .ok (.iconst 0, 1) := by decide +kernel
theorem dX7_allHungry_1 : decode cX7_allHungry 1 = .ok (.istore_n 1, 1) := by decide +kernel
theorem dX7_allHungry_2 : decode cX7_allHungry 2 = .ok (.iconst 0, 1) := by decide +kernel
theorem dX7_allHungry_3 : decode cX7_allHungry 3 = .ok (.istore_n 2, 1) := by decide +kernel
theorem dX7_allHungry_4 : decode cX7_allHungry 4 = .ok (.iload_n 2, 1) := by decide +kernel
theorem dX7_allHungry_5 : decode cX7_allHungry 5 = .ok (.aload_n 0, 1) := by decide +kernel
theorem dX7_allHungry_6 : decode cX7_allHungry 6 = .ok (.getfield 53, 3) := by decide +kernel
theorem dX7_allHungry_9 : decode cX7_allHungry 9 = .ok (.if_icmp .ge 26, 3) := by decide +kernel
theorem dX7_allHungry_12 : decode cX7_allHungry 12 = .ok (.iload_n 1, 1) := by decide +kernel
theorem dX7_allHungry_13 : decode cX7_allHungry 13 = .ok (.aload_n 0, 1) := by decide +kernel
theorem dX7_allHungry_14 : decode cX7_allHungry 14 = .ok (.getfield 24, 3) := by decide +kernel
theorem dX7_allHungry_17 : decode cX7_allHungry 17 = .ok (.iload_n 2, 1) := by decide +kernel
theorem dX7_allHungry_18 : decode cX7_allHungry 18 = .ok (.iaload, 1) := by decide +kernel
theorem dX7_allHungry_19 : decode cX7_allHungry 19 = .ok (.ifCond .ne 7, 3) := by decide +kernel
theorem dX7_allHungry_22 : decode cX7_allHungry 22 = .ok (.iconst 1, 1) := by decide +kernel
theorem dX7_allHungry_23 : decode cX7_allHungry 23 = .ok (.goto 4, 3) := by decide +kernel
theorem dX7_allHungry_26 : decode cX7_allHungry 26 = .ok (.iconst 0, 1) := by decide +kernel
theorem dX7_allHungry_27 : decode cX7_allHungry 27 = .ok (.iadd, 1) := by decide +kernel
theorem dX7_allHungry_28 : decode cX7_allHungry 28 = .ok (.istore_n 1, 1) := by decide +kernel
theorem dX7_allHungry_29 : decode cX7_allHungry 29 = .ok (.iinc 2 1, 3) := by decide +kernel
theorem dX7_allHungry_32 : decode cX7_allHungry 32 = .ok (.goto (-28), 3) := by decide +kernel
theorem dX7_allHungry_35 : decode cX7_allHungry 35 = .ok (.iload_n 1, 1) := by decide +kernel
theorem dX7_allHungry_36 : decode cX7_allHungry 36 = .ok (.ireturn, 1) := by decide +kernel
abbrev cX7_firstHungry : ByteArray := prog_9_method_24_code
def yX7_firstHungry : MethodName := ⟨RX7, "firstHungry", "()I"⟩
theorem dX7_firstHungry_0 : decode cX7_firstHungry 0 = .ok (.iconst 0, 1) := by decide +kernel
theorem dX7_firstHungry_1 : decode cX7_firstHungry 1 = .ok (.istore_n 1, 1) := by decide +kernel
theorem dX7_firstHungry_2 : decode cX7_firstHungry 2 = .ok (.iload_n 1, 1) := by decide +kernel
theorem dX7_firstHungry_3 : decode cX7_firstHungry 3 = .ok (.aload_n 0, 1) := by decide +kernel
theorem dX7_firstHungry_4 : decode cX7_firstHungry 4 = .ok (.getfield 53, 3) := by decide +kernel
theorem dX7_firstHungry_7 : decode cX7_firstHungry 7 = .ok (.if_icmp .ge 20, 3) := by decide +kernel
theorem dX7_firstHungry_10 : decode cX7_firstHungry 10 = .ok (.aload_n 0, 1) := by decide +kernel
theorem dX7_firstHungry_11 : decode cX7_firstHungry 11 = .ok (.getfield 24, 3) := by decide +kernel
theorem dX7_firstHungry_14 : decode cX7_firstHungry 14 = .ok (.iload_n 1, 1) := by decide +kernel
theorem dX7_firstHungry_15 : decode cX7_firstHungry 15 = .ok (.iaload, 1) := by decide +kernel
theorem dX7_firstHungry_16 : decode cX7_firstHungry 16 = .ok (.ifCond .ne 5, 3) := by decide +kernel
theorem dX7_firstHungry_19 : decode cX7_firstHungry 19 = .ok (.iload_n 1, 1) := by decide +kernel
theorem dX7_firstHungry_20 : decode cX7_firstHungry 20 = .ok (.ireturn, 1) := by decide +kernel
theorem dX7_firstHungry_21 : decode cX7_firstHungry 21 = .ok (.iinc 1 1, 3) := by decide +kernel
theorem dX7_firstHungry_24 : decode cX7_firstHungry 24 = .ok (.goto (-22), 3) := by decide +kernel
theorem dX7_firstHungry_27 : decode cX7_firstHungry 27 = .ok (.bipush (-4), 2) := by decide +kernel
theorem dX7_firstHungry_29 : decode cX7_firstHungry 29 = .ok (.ireturn, 1) := by decide +kernel
abbrev cX7_lengthOfChain : ByteArray := prog_9_method_25_code
def yX7_lengthOfChain : MethodName := ⟨RX7, "lengthOfChain", "(I)I"⟩
theorem dX7_lengthOfChain_0 : decode cX7_lengthOfChain 0 = .ok (.iconst 1, 1) := by decide +kernel
theorem dX7_lengthOfChain_1 : decode cX7_lengthOfChain 1 = .ok (.iload_n 1, 1) := by decide +kernel
theorem dX7_lengthOfChain_2 : decode cX7_lengthOfChain 2 = .ok (.ishl, 1) := by decide +kernel
theorem dX7_lengthOfChain_3 : decode cX7_lengthOfChain 3 = .ok (.istore_n 2, 1) := by decide +kernel
theorem dX7_lengthOfChain_4 : decode cX7_lengthOfChain 4 = .ok (.iconst 1, 1) := by decide +kernel
theorem dX7_lengthOfChain_5 : decode cX7_lengthOfChain 5 = .ok (.istore_n 3, 1) := by decide +kernel
theorem dX7_lengthOfChain_6 : decode cX7_lengthOfChain 6 = .ok (.iload_n 1, 1) := by decide +kernel
theorem dX7_lengthOfChain_7 : decode cX7_lengthOfChain 7 = .ok (.istore 4, 2) := by decide +kernel
theorem dX7_lengthOfChain_9 : decode cX7_lengthOfChain 9 = .ok (.iload_n 3, 1) := by decide +kernel
theorem dX7_lengthOfChain_10 : decode cX7_lengthOfChain 10 = .ok (.aload_n 0, 1) := by decide +kernel
theorem dX7_lengthOfChain_11 : decode cX7_lengthOfChain 11 = .ok (.getfield 53, 3) := by decide +kernel
theorem dX7_lengthOfChain_14 : decode cX7_lengthOfChain 14 = .ok (.if_icmp .ge 48, 3) := by decide +kernel
theorem dX7_lengthOfChain_17 : decode cX7_lengthOfChain 17 = .ok (.aload_n 0, 1) := by decide +kernel
theorem dX7_lengthOfChain_18 : decode cX7_lengthOfChain 18 = .ok (.iload 4, 2) := by decide +kernel
theorem dX7_lengthOfChain_20 : decode cX7_lengthOfChain 20 = .ok (.invokevirtual 106, 3) := by decide +kernel
theorem dX7_lengthOfChain_23 : decode cX7_lengthOfChain 23 = .ok (.ifCond .eq 39, 3) := by decide +kernel
theorem dX7_lengthOfChain_26 : decode cX7_lengthOfChain 26 = .ok (.iload_n 2, 1) := by decide +kernel
theorem dX7_lengthOfChain_27 : decode cX7_lengthOfChain 27 = .ok (.aload_n 0, 1) := by decide +kernel
theorem dX7_lengthOfChain_28 : decode cX7_lengthOfChain 28 = .ok (.getfield 21, 3) := by decide +kernel
theorem dX7_lengthOfChain_31 : decode cX7_lengthOfChain 31 = .ok (.iload 4, 2) := by decide +kernel
theorem dX7_lengthOfChain_33 : decode cX7_lengthOfChain 33 = .ok (.iaload, 1) := by decide +kernel
theorem dX7_lengthOfChain_34 : decode cX7_lengthOfChain 34 = .ok (.ishr, 1) := by decide +kernel
theorem dX7_lengthOfChain_35 : decode cX7_lengthOfChain 35 = .ok (.iconst 1, 1) := by decide +kernel
theorem dX7_lengthOfChain_36 : decode cX7_lengthOfChain 36 = .ok (.iand, 1) := by decide +kernel
theorem dX7_lengthOfChain_37 : decode cX7_lengthOfChain 37 = .ok (.ifCond .ne 25, 3) := by decide +kernel
theorem dX7_lengthOfChain_40 : decode cX7_lengthOfChain 40 = .ok (.aload_n 0, 1) := by decide +kernel
theorem dX7_lengthOfChain_41 : decode cX7_lengthOfChain 41 = .ok (.getfield 21, 3) := by decide +kernel
theorem dX7_lengthOfChain_44 : decode cX7_lengthOfChain 44 = .ok (.iload 4, 2) := by decide +kernel
theorem dX7_lengthOfChain_46 : decode cX7_lengthOfChain 46 = .ok (.iaload, 1) := by decide +kernel
theorem dX7_lengthOfChain_47 : decode cX7_lengthOfChain 47 = .ok (.istore 4, 2) := by decide +kernel
theorem dX7_lengthOfChain_49 : decode cX7_lengthOfChain 49 = .ok (.iload_n 2, 1) := by decide +kernel
theorem dX7_lengthOfChain_50 : decode cX7_lengthOfChain 50 = .ok (.iconst 1, 1) := by decide +kernel
theorem dX7_lengthOfChain_51 : decode cX7_lengthOfChain 51 = .ok (.iload 4, 2) := by decide +kernel
theorem dX7_lengthOfChain_53 : decode cX7_lengthOfChain 53 = .ok (.ishl, 1) := by decide +kernel
theorem dX7_lengthOfChain_54 : decode cX7_lengthOfChain 54 = .ok (.ior, 1) := by decide +kernel
theorem dX7_lengthOfChain_55 : decode cX7_lengthOfChain 55 = .ok (.istore_n 2, 1) := by decide +kernel
theorem dX7_lengthOfChain_56 : decode cX7_lengthOfChain 56 = .ok (.iinc 3 1, 3) := by decide +kernel
theorem dX7_lengthOfChain_59 : decode cX7_lengthOfChain 59 = .ok (.goto (-50), 3) := by decide +kernel
theorem dX7_lengthOfChain_62 : decode cX7_lengthOfChain 62 = .ok (.iload_n 3, 1) := by decide +kernel
theorem dX7_lengthOfChain_63 : decode cX7_lengthOfChain 63 = .ok (.ireturn, 1) := by decide +kernel
abbrev cX8_holdKind : ByteArray := prog_10_method_2_code
def yX8_holdKind : MethodName := ⟨RX8, "holdKind", "(II)V"⟩
theorem dX8_holdKind_0 : decode cX8_holdKind 0 = .ok (.aload_n 0, 1) := by decide +kernel
theorem dX8_holdKind_1 : decode cX8_holdKind 1 = .ok (.iconst 1, 1) := by decide +kernel
theorem dX8_holdKind_2 : decode cX8_holdKind 2 = .ok (.putfield 11, 3) := by decide +kernel
theorem dX8_holdKind_5 : decode cX8_holdKind 5 = .ok (.aload_n 0, 1) := by decide +kernel
theorem dX8_holdKind_6 : decode cX8_holdKind 6 = .ok (.iload_n 1, 1) := by decide +kernel
theorem dX8_holdKind_7 : decode cX8_holdKind 7 = .ok (.putfield 19, 3) := by decide +kernel
theorem dX8_holdKind_10 : decode cX8_holdKind 10 = .ok (.aload_n 0, 1) := by decide +kernel
theorem dX8_holdKind_11 : decode cX8_holdKind 11 = .ok (.iload_n 2, 1) := by decide +kernel
theorem dX8_holdKind_12 : decode cX8_holdKind 12 = .ok (.putfield 22, 3) := by decide +kernel
theorem dX8_holdKind_15 : decode cX8_holdKind 15 = .ok (.return_, 1) := by decide +kernel
abbrev cJ7_fill_53178 : ByteArray := prog_24_method_103_code
def yJ7_fill_53178 : MethodName := ⟨RJ7, "fill", "([II)V"⟩
theorem dJ7_fill_53178_0 : decode cJ7_fill_53178 0 = .ok (.iconst 0, 1) := by decide +kernel
theorem dJ7_fill_53178_1 : decode cJ7_fill_53178 1 = .ok (.istore_n 2, 1) := by decide +kernel
theorem dJ7_fill_53178_2 : decode cJ7_fill_53178 2 = .ok (.aload_n 0, 1) := by decide +kernel
theorem dJ7_fill_53178_3 : decode cJ7_fill_53178 3 = .ok (.arraylength, 1) := by decide +kernel
theorem dJ7_fill_53178_4 : decode cJ7_fill_53178 4 = .ok (.istore_n 3, 1) := by decide +kernel
theorem dJ7_fill_53178_5 : decode cJ7_fill_53178 5 = .ok (.iload_n 2, 1) := by decide +kernel
theorem dJ7_fill_53178_6 : decode cJ7_fill_53178 6 = .ok (.iload_n 3, 1) := by decide +kernel
theorem dJ7_fill_53178_7 : decode cJ7_fill_53178 7 = .ok (.if_icmp .ge 13, 3) := by decide +kernel
theorem dJ7_fill_53178_10 : decode cJ7_fill_53178 10 = .ok (.aload_n 0, 1) := by decide +kernel
theorem dJ7_fill_53178_11 : decode cJ7_fill_53178 11 = .ok (.iload_n 2, 1) := by decide +kernel
theorem dJ7_fill_53178_12 : decode cJ7_fill_53178 12 = .ok (.iload_n 1, 1) := by decide +kernel
theorem dJ7_fill_53178_13 : decode cJ7_fill_53178 13 = .ok (.iastore, 1) := by decide +kernel
theorem dJ7_fill_53178_14 : decode cJ7_fill_53178 14 = .ok (.iinc 2 1, 3) := by decide +kernel
theorem dJ7_fill_53178_17 : decode cJ7_fill_53178 17 = .ok (.goto (-12), 3) := by decide +kernel
theorem dJ7_fill_53178_20 : decode cJ7_fill_53178 20 = .ok (.return_, 1) := by decide +kernel
abbrev cX8_holdRow : ByteArray := prog_10_method_3_code
def yX8_holdRow : MethodName := ⟨RX8, "holdRow", "(II)V"⟩
theorem dX8_holdRow_0 : decode cX8_holdRow 0 = .ok (.aload_n 0, 1) := by decide +kernel
theorem dX8_holdRow_1 : decode cX8_holdRow 1 = .ok (.iconst 2, 1) := by decide +kernel
theorem dX8_holdRow_2 : decode cX8_holdRow 2 = .ok (.putfield 11, 3) := by decide +kernel
theorem dX8_holdRow_5 : decode cX8_holdRow 5 = .ok (.aload_n 0, 1) := by decide +kernel
theorem dX8_holdRow_6 : decode cX8_holdRow 6 = .ok (.iload_n 1, 1) := by decide +kernel
theorem dX8_holdRow_7 : decode cX8_holdRow 7 = .ok (.putfield 25, 3) := by decide +kernel
theorem dX8_holdRow_10 : decode cX8_holdRow 10 = .ok (.aload_n 0, 1) := by decide +kernel
theorem dX8_holdRow_11 : decode cX8_holdRow 11 = .ok (.iload_n 2, 1) := by decide +kernel
theorem dX8_holdRow_12 : decode cX8_holdRow 12 = .ok (.putfield 28, 3) := by decide +kernel
theorem dX8_holdRow_15 : decode cX8_holdRow 15 = .ok (.aload_n 0, 1) := by decide +kernel
theorem dX8_holdRow_16 : decode cX8_holdRow 16 = .ok (.getfield 15, 3) := by decide +kernel
theorem dX8_holdRow_19 : decode cX8_holdRow 19 = .ok (.iconst 0, 1) := by decide +kernel
theorem dX8_holdRow_20 : decode cX8_holdRow 20 = .ok (.invokestatic 31, 3) := by decide +kernel
theorem dX8_holdRow_23 : decode cX8_holdRow 23 = .ok (.return_, 1) := by decide +kernel
abbrev cX8_hasPlaces : ByteArray := prog_10_method_4_code
def yX8_hasPlaces : MethodName := ⟨RX8, "hasPlaces", "(II)Z"⟩
theorem dX8_hasPlaces_0 : decode cX8_hasPlaces 0 = .ok (.iload_n 1, 1) := by decide +kernel
theorem dX8_hasPlaces_1 : decode cX8_hasPlaces 1 = .ok (.ifCond .lt 29, 3) := by decide +kernel
theorem dX8_hasPlaces_4 : decode cX8_hasPlaces 4 = .ok (.iload_n 2, 1) := by decide +kernel
theorem dX8_hasPlaces_5 : decode cX8_hasPlaces 5 = .ok (.ifCond .lt 25, 3) := by decide +kernel
theorem dX8_hasPlaces_8 : decode cX8_hasPlaces 8 = .ok (.iload_n 1, 1) := by decide +kernel
theorem dX8_hasPlaces_9 : decode cX8_hasPlaces 9 = .ok (.aload_n 0, 1) := by decide +kernel
theorem dX8_hasPlaces_10 : decode cX8_hasPlaces 10 = .ok (.getfield 28, 3) := by decide +kernel
theorem dX8_hasPlaces_13 : decode cX8_hasPlaces 13 = .ok (.if_icmp .gt 17, 3) := by decide +kernel
theorem dX8_hasPlaces_16 : decode cX8_hasPlaces 16 = .ok (.iload_n 2, 1) := by decide +kernel
theorem dX8_hasPlaces_17 : decode cX8_hasPlaces 17 = .ok (.aload_n 0, 1) := by decide +kernel
theorem dX8_hasPlaces_18 : decode cX8_hasPlaces 18 = .ok (.getfield 28, 3) := by decide +kernel
theorem dX8_hasPlaces_21 : decode cX8_hasPlaces 21 = .ok (.iload_n 1, 1) := by decide +kernel
theorem dX8_hasPlaces_22 : decode cX8_hasPlaces 22 = .ok (.isub, 1) := by decide +kernel
theorem dX8_hasPlaces_23 : decode cX8_hasPlaces 23 = .ok (.if_icmp .gt 7, 3) := by decide +kernel
theorem dX8_hasPlaces_26 : decode cX8_hasPlaces 26 = .ok (.iconst 1, 1) := by decide +kernel
theorem dX8_hasPlaces_27 : decode cX8_hasPlaces 27 = .ok (.goto 4, 3) := by decide +kernel
theorem dX8_hasPlaces_30 : decode cX8_hasPlaces 30 = .ok (.iconst 0, 1) := by decide +kernel
theorem dX8_hasPlaces_31 : decode cX8_hasPlaces 31 = .ok (.ireturn, 1) := by decide +kernel
abbrev cX8_set : ByteArray := prog_10_method_5_code
def yX8_set : MethodName := ⟨RX8, "set", "(II)V"⟩
theorem dX8_set_0 : decode cX8_set 0 = .ok (.aload_n 0, 1) := by decide +kernel
theorem dX8_set_1 : decode cX8_set 1 = .ok (.getfield 25, 3) := by decide +kernel
theorem dX8_set_4 : decode cX8_set 4 = .ok (.lookupswitch 50 #[(0, 28), (1, 39)], 28) := by decide +kernel
theorem dX8_set_32 : decode cX8_set 32 = .ok (.aload_n 0, 1) := by decide +kernel
theorem dX8_set_33 : decode cX8_set 33 = .ok (.getfield 15, 3) := by decide +kernel
theorem dX8_set_36 : decode cX8_set 36 = .ok (.iload_n 1, 1) := by decide +kernel
theorem dX8_set_37 : decode cX8_set 37 = .ok (.iload_n 2, 1) := by decide +kernel
theorem dX8_set_38 : decode cX8_set 38 = .ok (.i2b, 1) := by decide +kernel
theorem dX8_set_39 : decode cX8_set 39 = .ok (.iastore, 1) := by decide +kernel
theorem dX8_set_40 : decode cX8_set 40 = .ok (.goto 21, 3) := by decide +kernel
theorem dX8_set_43 : decode cX8_set 43 = .ok (.aload_n 0, 1) := by decide +kernel
theorem dX8_set_44 : decode cX8_set 44 = .ok (.getfield 15, 3) := by decide +kernel
theorem dX8_set_47 : decode cX8_set 47 = .ok (.iload_n 1, 1) := by decide +kernel
theorem dX8_set_48 : decode cX8_set 48 = .ok (.iload_n 2, 1) := by decide +kernel
theorem dX8_set_49 : decode cX8_set 49 = .ok (.i2s, 1) := by decide +kernel
theorem dX8_set_50 : decode cX8_set 50 = .ok (.iastore, 1) := by decide +kernel
theorem dX8_set_51 : decode cX8_set 51 = .ok (.goto 10, 3) := by decide +kernel
theorem dX8_set_54 : decode cX8_set 54 = .ok (.aload_n 0, 1) := by decide +kernel
theorem dX8_set_55 : decode cX8_set 55 = .ok (.getfield 15, 3) := by decide +kernel
theorem dX8_set_58 : decode cX8_set 58 = .ok (.iload_n 1, 1) := by decide +kernel
theorem dX8_set_59 : decode cX8_set 59 = .ok (.iload_n 2, 1) := by decide +kernel
theorem dX8_set_60 : decode cX8_set 60 = .ok (.iastore, 1) := by decide +kernel
theorem dX8_set_61 : decode cX8_set 61 = .ok (.return_, 1) := by decide +kernel
abbrev cX8_isSkipped : ByteArray := prog_10_method_6_code
def yX8_isSkipped : MethodName := ⟨RX8, "isSkipped", "(I)Z"⟩
theorem dX8_isSkipped_0 : decode cX8_isSkipped 0 = .ok (.aload_n 0, 1) := by decide +kernel
theorem dX8_isSkipped_1 : decode cX8_isSkipped 1 = .ok (.getfield 25, 3) := by decide +kernel
theorem dX8_isSkipped_4 : decode cX8_isSkipped 4 = .ok (.lookupswitch 63 #[(0, 28), (1, 45)], 28) := by decide +kernel
theorem dX8_isSkipped_32 : decode cX8_isSkipped 32 = .ok (.aload_n 0, 1) := by decide +kernel
theorem dX8_isSkipped_33 : decode cX8_isSkipped 33 = .ok (.getfield 15, 3) := by decide +kernel
theorem dX8_isSkipped_36 : decode cX8_isSkipped 36 = .ok (.iload_n 1, 1) := by decide +kernel
theorem dX8_isSkipped_37 : decode cX8_isSkipped 37 = .ok (.iaload, 1) := by decide +kernel
theorem dX8_isSkipped_38 : decode cX8_isSkipped 38 = .ok (.bipush (-128), 2) := by decide +kernel
theorem dX8_isSkipped_40 : decode cX8_isSkipped 40 = .ok (.if_icmp .ne 7, 3) := by decide +kernel
theorem dX8_isSkipped_43 : decode cX8_isSkipped 43 = .ok (.iconst 1, 1) := by decide +kernel
theorem dX8_isSkipped_44 : decode cX8_isSkipped 44 = .ok (.goto 4, 3) := by decide +kernel
theorem dX8_isSkipped_47 : decode cX8_isSkipped 47 = .ok (.iconst 0, 1) := by decide +kernel
theorem dX8_isSkipped_48 : decode cX8_isSkipped 48 = .ok (.ireturn, 1) := by decide +kernel
theorem dX8_isSkipped_49 : decode cX8_isSkipped 49 = .ok (.aload_n 0, 1) := by decide +kernel
theorem dX8_isSkipped_50 : decode cX8_isSkipped 50 = .ok (.getfield 15, 3) := by decide +kernel
theorem dX8_isSkipped_53 : decode cX8_isSkipped 53 = .ok (.iload_n 1, 1) := by decide +kernel
theorem dX8_isSkipped_54 : decode cX8_isSkipped 54 = .ok (.iaload, 1) := by decide +kernel
theorem dX8_isSkipped_55 : decode cX8_isSkipped 55 = .ok (.sipush (-32768), 3) := by decide +kernel
theorem dX8_isSkipped_58 : decode cX8_isSkipped 58 = .ok (.if_icmp .ne 7, 3) := by decide +kernel
theorem dX8_isSkipped_61 : decode cX8_isSkipped 61 = .ok (.iconst 1, 1) := by decide +kernel
theorem dX8_isSkipped_62 : decode cX8_isSkipped 62 = .ok (.goto 4, 3) := by decide +kernel
theorem dX8_isSkipped_65 : decode cX8_isSkipped 65 = .ok (.iconst 0, 1) := by decide +kernel
theorem dX8_isSkipped_66 : decode cX8_isSkipped 66 = .ok (.ireturn, 1) := by decide +kernel
theorem dX8_isSkipped_67 : decode cX8_isSkipped 67 = .ok (.aload_n 0, 1) := by decide +kernel
theorem dX8_isSkipped_68 : decode cX8_isSkipped 68 = .ok (.getfield 15, 3) := by decide +kernel
theorem dX8_isSkipped_71 : decode cX8_isSkipped 71 = .ok (.iload_n 1, 1) := by decide +kernel
theorem dX8_isSkipped_72 : decode cX8_isSkipped 72 = .ok (.iaload, 1) := by decide +kernel
theorem dX8_isSkipped_73 : decode cX8_isSkipped 73 = .ok (.ldc 37, 2) := by decide +kernel
theorem dX8_isSkipped_75 : decode cX8_isSkipped 75 = .ok (.if_icmp .ne 7, 3) := by decide +kernel
theorem dX8_isSkipped_78 : decode cX8_isSkipped 78 = .ok (.iconst 1, 1) := by decide +kernel
theorem dX8_isSkipped_79 : decode cX8_isSkipped 79 = .ok (.goto 4, 3) := by decide +kernel
theorem dX8_isSkipped_82 : decode cX8_isSkipped 82 = .ok (.iconst 0, 1) := by decide +kernel
theorem dX8_isSkipped_83 : decode cX8_isSkipped 83 = .ok (.ireturn, 1) := by decide +kernel
abbrev cX8_digit : ByteArray := prog_10_method_7_code
def yX8_digit : MethodName := ⟨RX8, "digit", "(I)I"⟩
theorem dX8_digit_0 : decode cX8_digit 0 = .ok (.iload_n 1, 1) := by decide +kernel
theorem dX8_digit_1 : decode cX8_digit 1 = .ok (.aload_n 0, 1) := by decide +kernel
theorem dX8_digit_2 : decode cX8_digit 2 = .ok (.getfield 28, 3) := by decide +kernel
theorem dX8_digit_5 : decode cX8_digit 5 = .ok (.if_icmp .ge 15, 3) := by decide +kernel
theorem dX8_digit_8 : decode cX8_digit 8 = .ok (.aload_n 0, 1) := by decide +kernel
theorem dX8_digit_9 : decode cX8_digit 9 = .ok (.getfield 15, 3) := by decide +kernel
theorem dX8_digit_12 : decode cX8_digit 12 = .ok (.iload_n 1, 1) := by decide +kernel
theorem dX8_digit_13 : decode cX8_digit 13 = .ok (.iaload, 1) := by decide +kernel
theorem dX8_digit_14 : decode cX8_digit 14 = .ok (.bipush 48, 2) := by decide +kernel
theorem dX8_digit_16 : decode cX8_digit 16 = .ok (.isub, 1) := by decide +kernel
theorem dX8_digit_17 : decode cX8_digit 17 = .ok (.goto 4, 3) := by decide +kernel
theorem dX8_digit_20 : decode cX8_digit 20 = .ok (.iconst (-1), 1) := by decide +kernel
theorem dX8_digit_21 : decode cX8_digit 21 = .ok (.ireturn, 1) := by decide +kernel
abbrev cX8_twoDigits : ByteArray := prog_10_method_8_code
def yX8_twoDigits : MethodName := ⟨RX8, "twoDigits", "(I)I"⟩
theorem dX8_twoDigits_0 : decode cX8_twoDigits 0 = .ok (.bipush 10, 2) := by decide +kernel
theorem dX8_twoDigits_2 : decode cX8_twoDigits 2 = .ok (.aload_n 0, 1) := by decide +kernel
theorem dX8_twoDigits_3 : decode cX8_twoDigits 3 = .ok (.iload_n 1, 1) := by decide +kernel
theorem dX8_twoDigits_4 : decode cX8_twoDigits 4 = .ok (.invokevirtual 38, 3) := by decide +kernel
theorem dX8_twoDigits_7 : decode cX8_twoDigits 7 = .ok (.imul, 1) := by decide +kernel
theorem dX8_twoDigits_8 : decode cX8_twoDigits 8 = .ok (.aload_n 0, 1) := by decide +kernel
theorem dX8_twoDigits_9 : decode cX8_twoDigits 9 = .ok (.iload_n 1, 1) := by decide +kernel
theorem dX8_twoDigits_10 : decode cX8_twoDigits 10 = .ok (.iconst 1, 1) := by decide +kernel
theorem dX8_twoDigits_11 : decode cX8_twoDigits 11 = .ok (.iadd, 1) := by decide +kernel
theorem dX8_twoDigits_12 : decode cX8_twoDigits 12 = .ok (.invokevirtual 38, 3) := by decide +kernel
theorem dX8_twoDigits_15 : decode cX8_twoDigits 15 = .ok (.iadd, 1) := by decide +kernel
theorem dX8_twoDigits_16 : decode cX8_twoDigits 16 = .ok (.ireturn, 1) := by decide +kernel
abbrev cX10_isShelf : ByteArray := prog_1_method_48_code
def yX10_isShelf : MethodName := ⟨RX10, "isShelf", "(I)Z"⟩
theorem dX10_isShelf_0 : decode cX10_isShelf 0 = .ok (.iload_n 0, 1) := by decide +kernel
theorem dX10_isShelf_1 : decode cX10_isShelf 1 = .ok (.ifCond .lt 13, 3) := by decide +kernel
theorem dX10_isShelf_4 : decode cX10_isShelf 4 = .ok (.iload_n 0, 1) := by decide +kernel
theorem dX10_isShelf_5 : decode cX10_isShelf 5 = .ok (.bipush 8, 2) := by decide +kernel
theorem dX10_isShelf_7 : decode cX10_isShelf 7 = .ok (.if_icmp .ge 7, 3) := by decide +kernel
theorem dX10_isShelf_10 : decode cX10_isShelf 10 = .ok (.iconst 1, 1) := by decide +kernel
theorem dX10_isShelf_11 : decode cX10_isShelf 11 = .ok (.goto 4, 3) := by decide +kernel
theorem dX10_isShelf_14 : decode cX10_isShelf 14 = .ok (.iconst 0, 1) := by decide +kernel
theorem dX10_isShelf_15 : decode cX10_isShelf 15 = .ok (.ireturn, 1) := by decide +kernel
abbrev cX10_refuseAllBut : ByteArray := prog_1_method_53_code
def yX10_refuseAllBut : MethodName := ⟨RX10, "refuseAllBut", "(II)I"⟩
theorem dX10_refuseAllBut_0 : decode cX10_refuseAllBut 0 = .ok (.iload_n 1, 1) := by decide +kernel
theorem dX10_refuseAllBut_1 : decode cX10_refuseAllBut 1 = .ok (.invokestatic 139, 3) := by decide +kernel
theorem dX10_refuseAllBut_4 : decode cX10_refuseAllBut 4 = .ok (.ifCond .ne 5, 3) := by decide +kernel
theorem dX10_refuseAllBut_7 : decode cX10_refuseAllBut 7 = .ok (.iconst (-1), 1) := by decide +kernel
theorem dX10_refuseAllBut_8 : decode cX10_refuseAllBut 8 = .ok (.ireturn, 1) := by decide +kernel
theorem dX10_refuseAllBut_9 : decode cX10_refuseAllBut 9 = .ok (.aload_n 0, 1) := by decide +kernel
theorem dX10_refuseAllBut_10 : decode cX10_refuseAllBut 10 = .ok (.getfield 74, 3) := by decide +kernel
theorem dX10_refuseAllBut_13 : decode cX10_refuseAllBut 13 = .ok (.iload_n 1, 1) := by decide +kernel
theorem dX10_refuseAllBut_14 : decode cX10_refuseAllBut 14 = .ok (.aaload, 1) := by decide +kernel
theorem dX10_refuseAllBut_15 : decode cX10_refuseAllBut 15 = .ok (.getfield 288, 3) := by decide +kernel
theorem dX10_refuseAllBut_18 : decode cX10_refuseAllBut 18 = .ok (.ifCond .ne 6, 3) := by decide +kernel
theorem dX10_refuseAllBut_21 : decode cX10_refuseAllBut 21 = .ok (.bipush (-11), 2) := by decide +kernel
theorem dX10_refuseAllBut_23 : decode cX10_refuseAllBut 23 = .ok (.ireturn, 1) := by decide +kernel
theorem dX10_refuseAllBut_24 : decode cX10_refuseAllBut 24 = .ok (.aload_n 0, 1) := by decide +kernel
theorem dX10_refuseAllBut_25 : decode cX10_refuseAllBut 25 = .ok (.getfield 74, 3) := by decide +kernel
theorem dX10_refuseAllBut_28 : decode cX10_refuseAllBut 28 = .ok (.iload_n 1, 1) := by decide +kernel
theorem dX10_refuseAllBut_29 : decode cX10_refuseAllBut 29 = .ok (.aaload, 1) := by decide +kernel
theorem dX10_refuseAllBut_30 : decode cX10_refuseAllBut 30 = .ok (.getfield 288, 3) := by decide +kernel
theorem dX10_refuseAllBut_33 : decode cX10_refuseAllBut 33 = .ok (.iload_n 2, 1) := by decide +kernel
theorem dX10_refuseAllBut_34 : decode cX10_refuseAllBut 34 = .ok (.if_icmp .ne 7, 3) := by decide +kernel
theorem dX10_refuseAllBut_37 : decode cX10_refuseAllBut 37 = .ok (.iconst 0, 1) := by decide +kernel
theorem dX10_refuseAllBut_38 : decode cX10_refuseAllBut 38 = .ok (.goto 5, 3) := by decide +kernel
theorem dX10_refuseAllBut_41 : decode cX10_refuseAllBut 41 = .ok (.bipush (-12), 2) := by decide +kernel
theorem dX10_refuseAllBut_43 : decode cX10_refuseAllBut 43 = .ok (.ireturn, 1) := by decide +kernel
abbrev cX10_refuseRow : ByteArray := prog_1_method_51_code
def yX10_refuseRow : MethodName := ⟨RX10, "refuseRow", "(I)I"⟩
theorem dX10_refuseRow_0 : decode cX10_refuseRow 0 = .ok (.aload_n 0, 1) := by decide +kernel
theorem dX10_refuseRow_1 : decode cX10_refuseRow 1 = .ok (.iload_n 1, 1) := by decide +kernel
theorem dX10_refuseRow_2 : decode cX10_refuseRow 2 = .ok (.iconst 2, 1) := by decide +kernel
theorem dX10_refuseRow_3 : decode cX10_refuseRow 3 = .ok (.invokevirtual 339, 3) := by decide +kernel
theorem dX10_refuseRow_6 : decode cX10_refuseRow 6 = .ok (.ireturn, 1) := by decide +kernel
abbrev cX10_digitsBehind : ByteArray := prog_1_method_55_code
def yX10_digitsBehind : MethodName := ⟨RX10, "digitsBehind", "(I)I"⟩
theorem dX10_digitsBehind_0 : decode cX10_digitsBehind 0 = .ok (.iload_n 0, 1) := by decide +kernel
theorem dX10_digitsBehind_1 : decode cX10_digitsBehind 1 = .ok (.tableswitch 101 99 118 #[99, 99, 101, 99, 101, 101, 101, 101, 97, 101, 101, 101, 101, 101, 101, 101, 97, 101, 101, 95], 95) := by decide +kernel
theorem dX10_digitsBehind_96 : decode cX10_digitsBehind 96 = .ok (.iconst 5, 1) := by decide +kernel
theorem dX10_digitsBehind_97 : decode cX10_digitsBehind 97 = .ok (.ireturn, 1) := by decide +kernel
theorem dX10_digitsBehind_98 : decode cX10_digitsBehind 98 = .ok (.iconst 3, 1) := by decide +kernel
theorem dX10_digitsBehind_99 : decode cX10_digitsBehind 99 = .ok (.ireturn, 1) := by decide +kernel
theorem dX10_digitsBehind_100 : decode cX10_digitsBehind 100 = .ok (.iconst 2, 1) := by decide +kernel
theorem dX10_digitsBehind_101 : decode cX10_digitsBehind 101 = .ok (.ireturn, 1) := by decide +kernel
theorem dX10_digitsBehind_102 : decode cX10_digitsBehind 102 = .ok (.iconst (-1), 1) := by decide +kernel
theorem dX10_digitsBehind_103 : decode cX10_digitsBehind 103 = .ok (.ireturn, 1) := by decide +kernel
abbrev cX10_placeOfFault : ByteArray := prog_1_method_54_code
def yX10_placeOfFault : MethodName := ⟨RX10, "placeOfFault", "(LChairOnTheRoad$Shelf;)I"⟩
theorem dX10_placeOfFault_0 : decode cX10_placeOfFault 0 = .ok (.iconst 0, 1) := by decide +kernel
theorem dX10_placeOfFault_1 : decode cX10_placeOfFault 1 = .ok (.istore_n 1, 1) := by decide +kernel
theorem dX10_placeOfFault_2 : decode cX10_placeOfFault 2 = .ok (.iload_n 1, 1) := by decide +kernel
theorem dX10_placeOfFault_3 : decode cX10_placeOfFault 3 = .ok (.aload_n 0, 1) := by decide +kernel
theorem dX10_placeOfFault_4 : decode cX10_placeOfFault 4 = .ok (.getfield 95, 3) := by decide +kernel
theorem dX10_placeOfFault_7 : decode cX10_placeOfFault 7 = .ok (.if_icmp .ge 15, 3) := by decide +kernel
theorem dX10_placeOfFault_10 : decode cX10_placeOfFault 10 = .ok (.aload_n 0, 1) := by decide +kernel
theorem dX10_placeOfFault_11 : decode cX10_placeOfFault 11 = .ok (.getfield 102, 3) := by decide +kernel
theorem dX10_placeOfFault_14 : decode cX10_placeOfFault 14 = .ok (.iload_n 1, 1) := by decide +kernel
theorem dX10_placeOfFault_15 : decode cX10_placeOfFault 15 = .ok (.iaload, 1) := by decide +kernel
theorem dX10_placeOfFault_16 : decode cX10_placeOfFault 16 = .ok (.invokestatic 105, 3) := by decide +kernel
theorem dX10_placeOfFault_19 : decode cX10_placeOfFault 19 = .ok (.goto 4, 3) := by decide +kernel
theorem dX10_placeOfFault_22 : decode cX10_placeOfFault 22 = .ok (.iconst (-1), 1) := by decide +kernel
theorem dX10_placeOfFault_23 : decode cX10_placeOfFault 23 = .ok (.istore_n 2, 1) := by decide +kernel
theorem dX10_placeOfFault_24 : decode cX10_placeOfFault 24 = .ok (.iload_n 2, 1) := by decide +kernel
theorem dX10_placeOfFault_25 : decode cX10_placeOfFault 25 = .ok (.ifCond .ge 5, 3) := by decide +kernel
theorem dX10_placeOfFault_28 : decode cX10_placeOfFault 28 = .ok (.iload_n 1, 1) := by decide +kernel
theorem dX10_placeOfFault_29 : decode cX10_placeOfFault 29 = .ok (.ireturn, 1) := by decide +kernel
theorem dX10_placeOfFault_30 : decode cX10_placeOfFault 30 = .ok (.iinc 1 1, 3) := by decide +kernel
theorem dX10_placeOfFault_33 : decode cX10_placeOfFault 33 = .ok (.iload_n 1, 1) := by decide +kernel
theorem dX10_placeOfFault_34 : decode cX10_placeOfFault 34 = .ok (.iload_n 2, 1) := by decide +kernel
theorem dX10_placeOfFault_35 : decode cX10_placeOfFault 35 = .ok (.iadd, 1) := by decide +kernel
theorem dX10_placeOfFault_36 : decode cX10_placeOfFault 36 = .ok (.istore_n 3, 1) := by decide +kernel
theorem dX10_placeOfFault_37 : decode cX10_placeOfFault 37 = .ok (.iload_n 1, 1) := by decide +kernel
theorem dX10_placeOfFault_38 : decode cX10_placeOfFault 38 = .ok (.iload_n 3, 1) := by decide +kernel
theorem dX10_placeOfFault_39 : decode cX10_placeOfFault 39 = .ok (.if_icmp .ge 41, 3) := by decide +kernel
theorem dX10_placeOfFault_42 : decode cX10_placeOfFault 42 = .ok (.iload_n 1, 1) := by decide +kernel
theorem dX10_placeOfFault_43 : decode cX10_placeOfFault 43 = .ok (.aload_n 0, 1) := by decide +kernel
theorem dX10_placeOfFault_44 : decode cX10_placeOfFault 44 = .ok (.getfield 95, 3) := by decide +kernel
theorem dX10_placeOfFault_47 : decode cX10_placeOfFault 47 = .ok (.if_icmp .ge 25, 3) := by decide +kernel
theorem dX10_placeOfFault_50 : decode cX10_placeOfFault 50 = .ok (.aload_n 0, 1) := by decide +kernel
theorem dX10_placeOfFault_51 : decode cX10_placeOfFault 51 = .ok (.getfield 102, 3) := by decide +kernel
theorem dX10_placeOfFault_54 : decode cX10_placeOfFault 54 = .ok (.iload_n 1, 1) := by decide +kernel
theorem dX10_placeOfFault_55 : decode cX10_placeOfFault 55 = .ok (.iaload, 1) := by decide +kernel
theorem dX10_placeOfFault_56 : decode cX10_placeOfFault 56 = .ok (.bipush 48, 2) := by decide +kernel
theorem dX10_placeOfFault_58 : decode cX10_placeOfFault 58 = .ok (.if_icmp .lt 14, 3) := by decide +kernel
theorem dX10_placeOfFault_61 : decode cX10_placeOfFault 61 = .ok (.aload_n 0, 1) := by decide +kernel
theorem dX10_placeOfFault_62 : decode cX10_placeOfFault 62 = .ok (.getfield 102, 3) := by decide +kernel
theorem dX10_placeOfFault_65 : decode cX10_placeOfFault 65 = .ok (.iload_n 1, 1) := by decide +kernel
theorem dX10_placeOfFault_66 : decode cX10_placeOfFault 66 = .ok (.iaload, 1) := by decide +kernel
theorem dX10_placeOfFault_67 : decode cX10_placeOfFault 67 = .ok (.bipush 57, 2) := by decide +kernel
theorem dX10_placeOfFault_69 : decode cX10_placeOfFault 69 = .ok (.if_icmp .le 5, 3) := by decide +kernel
theorem dX10_placeOfFault_72 : decode cX10_placeOfFault 72 = .ok (.iload_n 1, 1) := by decide +kernel
theorem dX10_placeOfFault_73 : decode cX10_placeOfFault 73 = .ok (.ireturn, 1) := by decide +kernel
theorem dX10_placeOfFault_74 : decode cX10_placeOfFault 74 = .ok (.iinc 1 1, 3) := by decide +kernel
theorem dX10_placeOfFault_77 : decode cX10_placeOfFault 77 = .ok (.goto (-40), 3) := by decide +kernel
theorem dX10_placeOfFault_80 : decode cX10_placeOfFault 80 = .ok (.iload_n 1, 1) := by decide +kernel
theorem dX10_placeOfFault_81 : decode cX10_placeOfFault 81 = .ok (.aload_n 0, 1) := by decide +kernel
theorem dX10_placeOfFault_82 : decode cX10_placeOfFault 82 = .ok (.getfield 95, 3) := by decide +kernel
theorem dX10_placeOfFault_85 : decode cX10_placeOfFault 85 = .ok (.if_icmp .ge 14, 3) := by decide +kernel
theorem dX10_placeOfFault_88 : decode cX10_placeOfFault 88 = .ok (.aload_n 0, 1) := by decide +kernel
theorem dX10_placeOfFault_89 : decode cX10_placeOfFault 89 = .ok (.getfield 102, 3) := by decide +kernel
theorem dX10_placeOfFault_92 : decode cX10_placeOfFault 92 = .ok (.iload_n 1, 1) := by decide +kernel
theorem dX10_placeOfFault_93 : decode cX10_placeOfFault 93 = .ok (.iaload, 1) := by decide +kernel
theorem dX10_placeOfFault_94 : decode cX10_placeOfFault 94 = .ok (.bipush 59, 2) := by decide +kernel
theorem dX10_placeOfFault_96 : decode cX10_placeOfFault 96 = .ok (.if_icmp .eq 5, 3) := by decide +kernel
theorem dX10_placeOfFault_99 : decode cX10_placeOfFault 99 = .ok (.iload_n 1, 1) := by decide +kernel
theorem dX10_placeOfFault_100 : decode cX10_placeOfFault 100 = .ok (.ireturn, 1) := by decide +kernel
theorem dX10_placeOfFault_101 : decode cX10_placeOfFault 101 = .ok (.iinc 1 1, 3) := by decide +kernel
theorem dX10_placeOfFault_104 : decode cX10_placeOfFault 104 = .ok (.iload_n 1, 1) := by decide +kernel
theorem dX10_placeOfFault_105 : decode cX10_placeOfFault 105 = .ok (.aload_n 0, 1) := by decide +kernel
theorem dX10_placeOfFault_106 : decode cX10_placeOfFault 106 = .ok (.getfield 95, 3) := by decide +kernel
theorem dX10_placeOfFault_109 : decode cX10_placeOfFault 109 = .ok (.if_icmp .lt (-107), 3) := by decide +kernel
theorem dX10_placeOfFault_112 : decode cX10_placeOfFault 112 = .ok (.iconst (-1), 1) := by decide +kernel
theorem dX10_placeOfFault_113 : decode cX10_placeOfFault 113 = .ok (.ireturn, 1) := by decide +kernel
abbrev cX10_isTold : ByteArray := prog_1_method_56_code
def yX10_isTold : MethodName := ⟨RX10, "isTold", "(LChairOnTheRoad$Shelf;I)Z"⟩
theorem dX10_isTold_0 : decode cX10_isTold 0 = .ok (.aload_n 1, 1) := by decide +kernel
theorem dX10_isTold_1 : decode cX10_isTold 1 = .ok (.iload_n 2, 1) := by decide +kernel
theorem dX10_isTold_2 : decode cX10_isTold 2 = .ok (.iconst 1, 1) := by decide +kernel
theorem dX10_isTold_3 : decode cX10_isTold 3 = .ok (.iadd, 1) := by decide +kernel
theorem dX10_isTold_4 : decode cX10_isTold 4 = .ok (.invokevirtual 342, 3) := by decide +kernel
theorem dX10_isTold_7 : decode cX10_isTold 7 = .ok (.istore_n 3, 1) := by decide +kernel
theorem dX10_isTold_8 : decode cX10_isTold 8 = .ok (.aload_n 1, 1) := by decide +kernel
theorem dX10_isTold_9 : decode cX10_isTold 9 = .ok (.iload_n 2, 1) := by decide +kernel
theorem dX10_isTold_10 : decode cX10_isTold 10 = .ok (.iconst 2, 1) := by decide +kernel
theorem dX10_isTold_11 : decode cX10_isTold 11 = .ok (.iadd, 1) := by decide +kernel
theorem dX10_isTold_12 : decode cX10_isTold 12 = .ok (.invokevirtual 342, 3) := by decide +kernel
theorem dX10_isTold_15 : decode cX10_isTold 15 = .ok (.istore 4, 2) := by decide +kernel
theorem dX10_isTold_17 : decode cX10_isTold 17 = .ok (.aload_n 1, 1) := by decide +kernel
theorem dX10_isTold_18 : decode cX10_isTold 18 = .ok (.getfield 102, 3) := by decide +kernel
theorem dX10_isTold_21 : decode cX10_isTold 21 = .ok (.iload_n 2, 1) := by decide +kernel
theorem dX10_isTold_22 : decode cX10_isTold 22 = .ok (.iaload, 1) := by decide +kernel
theorem dX10_isTold_23 : decode cX10_isTold 23 = .ok (.lookupswitch 172 #[(99, 82), (102, 153), (107, 129), (115, 105), (118, 49)], 49) := by decide +kernel
theorem dX10_isTold_72 : decode cX10_isTold 72 = .ok (.aload_n 0, 1) := by decide +kernel
theorem dX10_isTold_73 : decode cX10_isTold 73 = .ok (.getfield 66, 3) := by decide +kernel
theorem dX10_isTold_76 : decode cX10_isTold 76 = .ok (.iload_n 3, 1) := by decide +kernel
theorem dX10_isTold_77 : decode cX10_isTold 77 = .ok (.iload 4, 2) := by decide +kernel
theorem dX10_isTold_79 : decode cX10_isTold 79 = .ok (.aload_n 1, 1) := by decide +kernel
theorem dX10_isTold_80 : decode cX10_isTold 80 = .ok (.iload_n 2, 1) := by decide +kernel
theorem dX10_isTold_81 : decode cX10_isTold 81 = .ok (.iconst 3, 1) := by decide +kernel
theorem dX10_isTold_82 : decode cX10_isTold 82 = .ok (.iadd, 1) := by decide +kernel
theorem dX10_isTold_83 : decode cX10_isTold 83 = .ok (.invokevirtual 345, 3) := by decide +kernel
theorem dX10_isTold_86 : decode cX10_isTold 86 = .ok (.aload_n 1, 1) := by decide +kernel
theorem dX10_isTold_87 : decode cX10_isTold 87 = .ok (.iload_n 2, 1) := by decide +kernel
theorem dX10_isTold_88 : decode cX10_isTold 88 = .ok (.iconst 5, 1) := by decide +kernel
theorem dX10_isTold_89 : decode cX10_isTold 89 = .ok (.iadd, 1) := by decide +kernel
theorem dX10_isTold_90 : decode cX10_isTold 90 = .ok (.invokevirtual 342, 3) := by decide +kernel
theorem dX10_isTold_93 : decode cX10_isTold 93 = .ok (.invokevirtual 155, 3) := by decide +kernel
theorem dX10_isTold_96 : decode cX10_isTold 96 = .ok (.ifCond .lt 7, 3) := by decide +kernel
theorem dX10_isTold_99 : decode cX10_isTold 99 = .ok (.iconst 1, 1) := by decide +kernel
theorem dX10_isTold_100 : decode cX10_isTold 100 = .ok (.goto 4, 3) := by decide +kernel
theorem dX10_isTold_103 : decode cX10_isTold 103 = .ok (.iconst 0, 1) := by decide +kernel
theorem dX10_isTold_104 : decode cX10_isTold 104 = .ok (.ireturn, 1) := by decide +kernel
theorem dX10_isTold_105 : decode cX10_isTold 105 = .ok (.aload_n 0, 1) := by decide +kernel
theorem dX10_isTold_106 : decode cX10_isTold 106 = .ok (.getfield 66, 3) := by decide +kernel
theorem dX10_isTold_109 : decode cX10_isTold 109 = .ok (.bipush 10, 2) := by decide +kernel
theorem dX10_isTold_111 : decode cX10_isTold 111 = .ok (.iload_n 3, 1) := by decide +kernel
theorem dX10_isTold_112 : decode cX10_isTold 112 = .ok (.imul, 1) := by decide +kernel
theorem dX10_isTold_113 : decode cX10_isTold 113 = .ok (.iload 4, 2) := by decide +kernel
theorem dX10_isTold_115 : decode cX10_isTold 115 = .ok (.iadd, 1) := by decide +kernel
theorem dX10_isTold_116 : decode cX10_isTold 116 = .ok (.invokevirtual 166, 3) := by decide +kernel
theorem dX10_isTold_119 : decode cX10_isTold 119 = .ok (.ifCond .lt 7, 3) := by decide +kernel
theorem dX10_isTold_122 : decode cX10_isTold 122 = .ok (.iconst 1, 1) := by decide +kernel
theorem dX10_isTold_123 : decode cX10_isTold 123 = .ok (.goto 4, 3) := by decide +kernel
theorem dX10_isTold_126 : decode cX10_isTold 126 = .ok (.iconst 0, 1) := by decide +kernel
theorem dX10_isTold_127 : decode cX10_isTold 127 = .ok (.ireturn, 1) := by decide +kernel
theorem dX10_isTold_128 : decode cX10_isTold 128 = .ok (.aload_n 0, 1) := by decide +kernel
theorem dX10_isTold_129 : decode cX10_isTold 129 = .ok (.getfield 66, 3) := by decide +kernel
theorem dX10_isTold_132 : decode cX10_isTold 132 = .ok (.iload_n 3, 1) := by decide +kernel
theorem dX10_isTold_133 : decode cX10_isTold 133 = .ok (.aload_n 1, 1) := by decide +kernel
theorem dX10_isTold_134 : decode cX10_isTold 134 = .ok (.iload_n 2, 1) := by decide +kernel
theorem dX10_isTold_135 : decode cX10_isTold 135 = .ok (.iconst 2, 1) := by decide +kernel
theorem dX10_isTold_136 : decode cX10_isTold 136 = .ok (.iadd, 1) := by decide +kernel
theorem dX10_isTold_137 : decode cX10_isTold 137 = .ok (.invokevirtual 345, 3) := by decide +kernel
theorem dX10_isTold_140 : decode cX10_isTold 140 = .ok (.invokevirtual 169, 3) := by decide +kernel
theorem dX10_isTold_143 : decode cX10_isTold 143 = .ok (.ifCond .lt 7, 3) := by decide +kernel
theorem dX10_isTold_146 : decode cX10_isTold 146 = .ok (.iconst 1, 1) := by decide +kernel
theorem dX10_isTold_147 : decode cX10_isTold 147 = .ok (.goto 4, 3) := by decide +kernel
theorem dX10_isTold_150 : decode cX10_isTold 150 = .ok (.iconst 0, 1) := by decide +kernel
theorem dX10_isTold_151 : decode cX10_isTold 151 = .ok (.ireturn, 1) := by decide +kernel
theorem dX10_isTold_152 : decode cX10_isTold 152 = .ok (.aload_n 0, 1) := by decide +kernel
theorem dX10_isTold_153 : decode cX10_isTold 153 = .ok (.getfield 66, 3) := by decide +kernel
theorem dX10_isTold_156 : decode cX10_isTold 156 = .ok (.iload_n 3, 1) := by decide +kernel
theorem dX10_isTold_157 : decode cX10_isTold 157 = .ok (.aload_n 1, 1) := by decide +kernel
theorem dX10_isTold_158 : decode cX10_isTold 158 = .ok (.iload_n 2, 1) := by decide +kernel
theorem dX10_isTold_159 : decode cX10_isTold 159 = .ok (.iconst 2, 1) := by decide +kernel
theorem dX10_isTold_160 : decode cX10_isTold 160 = .ok (.iadd, 1) := by decide +kernel
theorem dX10_isTold_161 : decode cX10_isTold 161 = .ok (.invokevirtual 345, 3) := by decide +kernel
theorem dX10_isTold_164 : decode cX10_isTold 164 = .ok (.invokevirtual 163, 3) := by decide +kernel
theorem dX10_isTold_167 : decode cX10_isTold 167 = .ok (.ifCond .lt 7, 3) := by decide +kernel
theorem dX10_isTold_170 : decode cX10_isTold 170 = .ok (.iconst 1, 1) := by decide +kernel
theorem dX10_isTold_171 : decode cX10_isTold 171 = .ok (.goto 4, 3) := by decide +kernel
theorem dX10_isTold_174 : decode cX10_isTold 174 = .ok (.iconst 0, 1) := by decide +kernel
theorem dX10_isTold_175 : decode cX10_isTold 175 = .ok (.ireturn, 1) := by decide +kernel
theorem dX10_isTold_176 : decode cX10_isTold 176 = .ok (.aload_n 0, 1) := by decide +kernel
theorem dX10_isTold_177 : decode cX10_isTold 177 = .ok (.getfield 66, 3) := by decide +kernel
theorem dX10_isTold_180 : decode cX10_isTold 180 = .ok (.iload_n 3, 1) := by decide +kernel
theorem dX10_isTold_181 : decode cX10_isTold 181 = .ok (.iload 4, 2) := by decide +kernel
theorem dX10_isTold_183 : decode cX10_isTold 183 = .ok (.invokevirtual 159, 3) := by decide +kernel
theorem dX10_isTold_186 : decode cX10_isTold 186 = .ok (.ifCond .lt 7, 3) := by decide +kernel
theorem dX10_isTold_189 : decode cX10_isTold 189 = .ok (.iconst 1, 1) := by decide +kernel
theorem dX10_isTold_190 : decode cX10_isTold 190 = .ok (.goto 4, 3) := by decide +kernel
theorem dX10_isTold_193 : decode cX10_isTold 193 = .ok (.iconst 0, 1) := by decide +kernel
theorem dX10_isTold_194 : decode cX10_isTold 194 = .ok (.ireturn, 1) := by decide +kernel
theorem dX10_isTold_195 : decode cX10_isTold 195 = .ok (.aload_n 0, 1) := by decide +kernel
theorem dX10_isTold_196 : decode cX10_isTold 196 = .ok (.getfield 66, 3) := by decide +kernel
theorem dX10_isTold_199 : decode cX10_isTold 199 = .ok (.bipush 10, 2) := by decide +kernel
theorem dX10_isTold_201 : decode cX10_isTold 201 = .ok (.iload_n 3, 1) := by decide +kernel
theorem dX10_isTold_202 : decode cX10_isTold 202 = .ok (.imul, 1) := by decide +kernel
theorem dX10_isTold_203 : decode cX10_isTold 203 = .ok (.iload 4, 2) := by decide +kernel
theorem dX10_isTold_205 : decode cX10_isTold 205 = .ok (.iadd, 1) := by decide +kernel
theorem dX10_isTold_206 : decode cX10_isTold 206 = .ok (.invokevirtual 172, 3) := by decide +kernel
theorem dX10_isTold_209 : decode cX10_isTold 209 = .ok (.ifCond .eq 5, 3) := by decide +kernel
theorem dX10_isTold_212 : decode cX10_isTold 212 = .ok (.iconst 0, 1) := by decide +kernel
theorem dX10_isTold_213 : decode cX10_isTold 213 = .ok (.ireturn, 1) := by decide +kernel
theorem dX10_isTold_214 : decode cX10_isTold 214 = .ok (.aload_n 0, 1) := by decide +kernel
theorem dX10_isTold_215 : decode cX10_isTold 215 = .ok (.getfield 66, 3) := by decide +kernel
theorem dX10_isTold_218 : decode cX10_isTold 218 = .ok (.bipush 10, 2) := by decide +kernel
theorem dX10_isTold_220 : decode cX10_isTold 220 = .ok (.iload_n 3, 1) := by decide +kernel
theorem dX10_isTold_221 : decode cX10_isTold 221 = .ok (.imul, 1) := by decide +kernel
theorem dX10_isTold_222 : decode cX10_isTold 222 = .ok (.iload 4, 2) := by decide +kernel
theorem dX10_isTold_224 : decode cX10_isTold 224 = .ok (.iadd, 1) := by decide +kernel
theorem dX10_isTold_225 : decode cX10_isTold 225 = .ok (.invokevirtual 175, 3) := by decide +kernel
theorem dX10_isTold_228 : decode cX10_isTold 228 = .ok (.iconst 1, 1) := by decide +kernel
theorem dX10_isTold_229 : decode cX10_isTold 229 = .ok (.ireturn, 1) := by decide +kernel
abbrev cX10_province : ByteArray := prog_1_method_2_code
def yX10_province : MethodName := ⟨RX10, "province", "(I)I"⟩
theorem dX10_province_0 : decode cX10_province 0 = .ok (.aload_n 0, 1) := by decide +kernel
theorem dX10_province_1 : decode cX10_province 1 = .ok (.iload_n 1, 1) := by decide +kernel
theorem dX10_province_2 : decode cX10_province 2 = .ok (.invokevirtual 79, 3) := by decide +kernel
theorem dX10_province_5 : decode cX10_province 5 = .ok (.istore_n 2, 1) := by decide +kernel
theorem dX10_province_6 : decode cX10_province 6 = .ok (.iload_n 2, 1) := by decide +kernel
theorem dX10_province_7 : decode cX10_province 7 = .ok (.ifCond .eq 5, 3) := by decide +kernel
theorem dX10_province_10 : decode cX10_province 10 = .ok (.iload_n 2, 1) := by decide +kernel
theorem dX10_province_11 : decode cX10_province 11 = .ok (.ireturn, 1) := by decide +kernel
theorem dX10_province_12 : decode cX10_province 12 = .ok (.aload_n 0, 1) := by decide +kernel
theorem dX10_province_13 : decode cX10_province 13 = .ok (.getfield 74, 3) := by decide +kernel
theorem dX10_province_16 : decode cX10_province 16 = .ok (.iload_n 1, 1) := by decide +kernel
theorem dX10_province_17 : decode cX10_province 17 = .ok (.aaload, 1) := by decide +kernel
theorem dX10_province_18 : decode cX10_province 18 = .ok (.astore_n 3, 1) := by decide +kernel
theorem dX10_province_19 : decode cX10_province 19 = .ok (.aload_n 3, 1) := by decide +kernel
theorem dX10_province_20 : decode cX10_province 20 = .ok (.getfield 83, 3) := by decide +kernel
theorem dX10_province_23 : decode cX10_province 23 = .ok (.ifCond .eq 6, 3) := by decide +kernel
theorem dX10_province_26 : decode cX10_province 26 = .ok (.bipush (-12), 2) := by decide +kernel
theorem dX10_province_28 : decode cX10_province 28 = .ok (.ireturn, 1) := by decide +kernel
theorem dX10_province_29 : decode cX10_province 29 = .ok (.aload_n 3, 1) := by decide +kernel
theorem dX10_province_30 : decode cX10_province 30 = .ok (.invokestatic 87, 3) := by decide +kernel
theorem dX10_province_33 : decode cX10_province 33 = .ok (.istore 4, 2) := by decide +kernel
theorem dX10_province_35 : decode cX10_province 35 = .ok (.iload 4, 2) := by decide +kernel
theorem dX10_province_37 : decode cX10_province 37 = .ok (.ifCond .lt 10, 3) := by decide +kernel
theorem dX10_province_40 : decode cX10_province 40 = .ok (.sipush (-1000), 3) := by decide +kernel
theorem dX10_province_43 : decode cX10_province 43 = .ok (.iload 4, 2) := by decide +kernel
theorem dX10_province_45 : decode cX10_province 45 = .ok (.isub, 1) := by decide +kernel
theorem dX10_province_46 : decode cX10_province 46 = .ok (.ireturn, 1) := by decide +kernel
theorem dX10_province_47 : decode cX10_province 47 = .ok (.aload_n 0, 1) := by decide +kernel
theorem dX10_province_48 : decode cX10_province 48 = .ok (.getfield 66, 3) := by decide +kernel
theorem dX10_province_51 : decode cX10_province 51 = .ok (.aload_n 0, 1) := by decide +kernel
theorem dX10_province_52 : decode cX10_province 52 = .ok (.getfield 62, 3) := by decide +kernel
theorem dX10_province_55 : decode cX10_province 55 = .ok (.invokevirtual 91, 3) := by decide +kernel
theorem dX10_province_58 : decode cX10_province 58 = .ok (.iconst 0, 1) := by decide +kernel
theorem dX10_province_59 : decode cX10_province 59 = .ok (.istore 5, 2) := by decide +kernel
theorem dX10_province_61 : decode cX10_province 61 = .ok (.iconst 0, 1) := by decide +kernel
theorem dX10_province_62 : decode cX10_province 62 = .ok (.istore 6, 2) := by decide +kernel
theorem dX10_province_64 : decode cX10_province 64 = .ok (.iload 6, 2) := by decide +kernel
theorem dX10_province_66 : decode cX10_province 66 = .ok (.aload_n 3, 1) := by decide +kernel
theorem dX10_province_67 : decode cX10_province 67 = .ok (.getfield 95, 3) := by decide +kernel
theorem dX10_province_70 : decode cX10_province 70 = .ok (.if_icmp .ge 43, 3) := by decide +kernel
theorem dX10_province_73 : decode cX10_province 73 = .ok (.aload_n 0, 1) := by decide +kernel
theorem dX10_province_74 : decode cX10_province 74 = .ok (.aload_n 3, 1) := by decide +kernel
theorem dX10_province_75 : decode cX10_province 75 = .ok (.iload 6, 2) := by decide +kernel
theorem dX10_province_77 : decode cX10_province 77 = .ok (.invokevirtual 98, 3) := by decide +kernel
theorem dX10_province_80 : decode cX10_province 80 = .ok (.ifCond .ne 10, 3) := by decide +kernel
theorem dX10_province_83 : decode cX10_province 83 = .ok (.sipush (-2000), 3) := by decide +kernel
theorem dX10_province_86 : decode cX10_province 86 = .ok (.iload 6, 2) := by decide +kernel
theorem dX10_province_88 : decode cX10_province 88 = .ok (.isub, 1) := by decide +kernel
theorem dX10_province_89 : decode cX10_province 89 = .ok (.ireturn, 1) := by decide +kernel
theorem dX10_province_90 : decode cX10_province 90 = .ok (.iinc 5 1, 3) := by decide +kernel
theorem dX10_province_93 : decode cX10_province 93 = .ok (.iload 6, 2) := by decide +kernel
theorem dX10_province_95 : decode cX10_province 95 = .ok (.iconst 2, 1) := by decide +kernel
theorem dX10_province_96 : decode cX10_province 96 = .ok (.aload_n 3, 1) := by decide +kernel
theorem dX10_province_97 : decode cX10_province 97 = .ok (.getfield 102, 3) := by decide +kernel
theorem dX10_province_100 : decode cX10_province 100 = .ok (.iload 6, 2) := by decide +kernel
theorem dX10_province_102 : decode cX10_province 102 = .ok (.iaload, 1) := by decide +kernel
theorem dX10_province_103 : decode cX10_province 103 = .ok (.invokestatic 105, 3) := by decide +kernel
theorem dX10_province_106 : decode cX10_province 106 = .ok (.iadd, 1) := by decide +kernel
theorem dX10_province_107 : decode cX10_province 107 = .ok (.iadd, 1) := by decide +kernel
theorem dX10_province_108 : decode cX10_province 108 = .ok (.istore 6, 2) := by decide +kernel
theorem dX10_province_110 : decode cX10_province 110 = .ok (.goto (-46), 3) := by decide +kernel
theorem dX10_province_113 : decode cX10_province 113 = .ok (.aload_n 0, 1) := by decide +kernel
theorem dX10_province_114 : decode cX10_province 114 = .ok (.getfield 62, 3) := by decide +kernel
theorem dX10_province_117 : decode cX10_province 117 = .ok (.aload_n 0, 1) := by decide +kernel
theorem dX10_province_118 : decode cX10_province 118 = .ok (.getfield 66, 3) := by decide +kernel
theorem dX10_province_121 : decode cX10_province 121 = .ok (.invokevirtual 91, 3) := by decide +kernel
theorem dX10_province_124 : decode cX10_province 124 = .ok (.iload 5, 2) := by decide +kernel
theorem dX10_province_126 : decode cX10_province 126 = .ok (.ireturn, 1) := by decide +kernel
abbrev cX10_village : ByteArray := prog_1_method_3_code
def yX10_village : MethodName := ⟨RX10, "village", "(II)I"⟩
theorem dX10_village_0 : decode cX10_village 0 = .ok (.aload_n 0, 1) := by decide +kernel
theorem dX10_village_1 : decode cX10_village 1 = .ok (.getfield 62, 3) := by decide +kernel
theorem dX10_village_4 : decode cX10_village 4 = .ok (.iload_n 1, 1) := by decide +kernel
theorem dX10_village_5 : decode cX10_village 5 = .ok (.invokevirtual 108, 3) := by decide +kernel
theorem dX10_village_8 : decode cX10_village 8 = .ok (.ifCond .ne 5, 3) := by decide +kernel
theorem dX10_village_11 : decode cX10_village 11 = .ok (.iconst (-1), 1) := by decide +kernel
theorem dX10_village_12 : decode cX10_village 12 = .ok (.ireturn, 1) := by decide +kernel
theorem dX10_village_13 : decode cX10_village 13 = .ok (.iload_n 2, 1) := by decide +kernel
theorem dX10_village_14 : decode cX10_village 14 = .ok (.tableswitch 148 0 7 #[46, 56, 66, 76, 86, 96, 121, 138], 46) := by decide +kernel
theorem dX10_village_60 : decode cX10_village 60 = .ok (.aload_n 0, 1) := by decide +kernel
theorem dX10_village_61 : decode cX10_village 61 = .ok (.getfield 62, 3) := by decide +kernel
theorem dX10_village_64 : decode cX10_village 64 = .ok (.getfield 112, 3) := by decide +kernel
theorem dX10_village_67 : decode cX10_village 67 = .ok (.iload_n 1, 1) := by decide +kernel
theorem dX10_village_68 : decode cX10_village 68 = .ok (.iaload, 1) := by decide +kernel
theorem dX10_village_69 : decode cX10_village 69 = .ok (.ireturn, 1) := by decide +kernel
theorem dX10_village_70 : decode cX10_village 70 = .ok (.aload_n 0, 1) := by decide +kernel
theorem dX10_village_71 : decode cX10_village 71 = .ok (.getfield 62, 3) := by decide +kernel
theorem dX10_village_74 : decode cX10_village 74 = .ok (.getfield 115, 3) := by decide +kernel
theorem dX10_village_77 : decode cX10_village 77 = .ok (.iload_n 1, 1) := by decide +kernel
theorem dX10_village_78 : decode cX10_village 78 = .ok (.iaload, 1) := by decide +kernel
theorem dX10_village_79 : decode cX10_village 79 = .ok (.ireturn, 1) := by decide +kernel
theorem dX10_village_80 : decode cX10_village 80 = .ok (.aload_n 0, 1) := by decide +kernel
theorem dX10_village_81 : decode cX10_village 81 = .ok (.getfield 62, 3) := by decide +kernel
theorem dX10_village_84 : decode cX10_village 84 = .ok (.getfield 118, 3) := by decide +kernel
theorem dX10_village_87 : decode cX10_village 87 = .ok (.iload_n 1, 1) := by decide +kernel
theorem dX10_village_88 : decode cX10_village 88 = .ok (.iaload, 1) := by decide +kernel
theorem dX10_village_89 : decode cX10_village 89 = .ok (.ireturn, 1) := by decide +kernel
theorem dX10_village_90 : decode cX10_village 90 = .ok (.aload_n 0, 1) := by decide +kernel
theorem dX10_village_91 : decode cX10_village 91 = .ok (.getfield 62, 3) := by decide +kernel
theorem dX10_village_94 : decode cX10_village 94 = .ok (.getfield 121, 3) := by decide +kernel
theorem dX10_village_97 : decode cX10_village 97 = .ok (.iload_n 1, 1) := by decide +kernel
theorem dX10_village_98 : decode cX10_village 98 = .ok (.iaload, 1) := by decide +kernel
theorem dX10_village_99 : decode cX10_village 99 = .ok (.ireturn, 1) := by decide +kernel
theorem dX10_village_100 : decode cX10_village 100 = .ok (.aload_n 0, 1) := by decide +kernel
theorem dX10_village_101 : decode cX10_village 101 = .ok (.getfield 62, 3) := by decide +kernel
theorem dX10_village_104 : decode cX10_village 104 = .ok (.getfield 124, 3) := by decide +kernel
theorem dX10_village_107 : decode cX10_village 107 = .ok (.iload_n 1, 1) := by decide +kernel
theorem dX10_village_108 : decode cX10_village 108 = .ok (.iaload, 1) := by decide +kernel
theorem dX10_village_109 : decode cX10_village 109 = .ok (.ireturn, 1) := by decide +kernel
theorem dX10_village_110 : decode cX10_village 110 = .ok (.aload_n 0, 1) := by decide +kernel
theorem dX10_village_111 : decode cX10_village 111 = .ok (.getfield 62, 3) := by decide +kernel
theorem dX10_village_114 : decode cX10_village 114 = .ok (.iload_n 1, 1) := by decide +kernel
theorem dX10_village_115 : decode cX10_village 115 = .ok (.invokevirtual 127, 3) := by decide +kernel
theorem dX10_village_118 : decode cX10_village 118 = .ok (.ifCond .eq 14, 3) := by decide +kernel
theorem dX10_village_121 : decode cX10_village 121 = .ok (.aload_n 0, 1) := by decide +kernel
theorem dX10_village_122 : decode cX10_village 122 = .ok (.getfield 62, 3) := by decide +kernel
theorem dX10_village_125 : decode cX10_village 125 = .ok (.iload_n 1, 1) := by decide +kernel
theorem dX10_village_126 : decode cX10_village 126 = .ok (.invokevirtual 130, 3) := by decide +kernel
theorem dX10_village_129 : decode cX10_village 129 = .ok (.goto 5, 3) := by decide +kernel
theorem dX10_village_132 : decode cX10_village 132 = .ok (.bipush (-4), 2) := by decide +kernel
theorem dX10_village_134 : decode cX10_village 134 = .ok (.ireturn, 1) := by decide +kernel
theorem dX10_village_135 : decode cX10_village 135 = .ok (.aload_n 0, 1) := by decide +kernel
theorem dX10_village_136 : decode cX10_village 136 = .ok (.getfield 62, 3) := by decide +kernel
theorem dX10_village_139 : decode cX10_village 139 = .ok (.iload_n 1, 1) := by decide +kernel
theorem dX10_village_140 : decode cX10_village 140 = .ok (.invokevirtual 133, 3) := by decide +kernel
theorem dX10_village_143 : decode cX10_village 143 = .ok (.ifCond .eq 7, 3) := by decide +kernel
theorem dX10_village_146 : decode cX10_village 146 = .ok (.iconst 1, 1) := by decide +kernel
theorem dX10_village_147 : decode cX10_village 147 = .ok (.goto 4, 3) := by decide +kernel
theorem dX10_village_150 : decode cX10_village 150 = .ok (.iconst 0, 1) := by decide +kernel
theorem dX10_village_151 : decode cX10_village 151 = .ok (.ireturn, 1) := by decide +kernel
theorem dX10_village_152 : decode cX10_village 152 = .ok (.aload_n 0, 1) := by decide +kernel
theorem dX10_village_153 : decode cX10_village 153 = .ok (.getfield 62, 3) := by decide +kernel
theorem dX10_village_156 : decode cX10_village 156 = .ok (.getfield 136, 3) := by decide +kernel
theorem dX10_village_159 : decode cX10_village 159 = .ok (.iload_n 1, 1) := by decide +kernel
theorem dX10_village_160 : decode cX10_village 160 = .ok (.iaload, 1) := by decide +kernel
theorem dX10_village_161 : decode cX10_village 161 = .ok (.ireturn, 1) := by decide +kernel
theorem dX10_village_162 : decode cX10_village 162 = .ok (.iconst (-1), 1) := by decide +kernel
theorem dX10_village_163 : decode cX10_village 163 = .ok (.ireturn, 1) := by decide +kernel
abbrev cX10_refuseKind : ByteArray := prog_1_method_52_code
def yX10_refuseKind : MethodName := ⟨RX10, "refuseKind", "(I)I"⟩
theorem dX10_refuseKind_0 : decode cX10_refuseKind 0 = .ok (.aload_n 0, 1) := by decide +kernel
theorem dX10_refuseKind_1 : decode cX10_refuseKind 1 = .ok (.iload_n 1, 1) := by decide +kernel
theorem dX10_refuseKind_2 : decode cX10_refuseKind 2 = .ok (.iconst 1, 1) := by decide +kernel
theorem dX10_refuseKind_3 : decode cX10_refuseKind 3 = .ok (.invokevirtual 339, 3) := by decide +kernel
theorem dX10_refuseKind_6 : decode cX10_refuseKind 6 = .ok (.ireturn, 1) := by decide +kernel
abbrev cX10_comes : ByteArray := prog_1_method_4_code
def yX10_comes : MethodName := ⟨RX10, "comes", "(II)I"⟩
theorem dX10_comes_0 : decode cX10_comes 0 = .ok (.iload_n 1, 1) := by decide +kernel
theorem dX10_comes_1 : decode cX10_comes 1 = .ok (.invokestatic 139, 3) := by decide +kernel
theorem dX10_comes_4 : decode cX10_comes 4 = .ok (.ifCond .eq 10, 3) := by decide +kernel
theorem dX10_comes_7 : decode cX10_comes 7 = .ok (.iload_n 2, 1) := by decide +kernel
theorem dX10_comes_8 : decode cX10_comes 8 = .ok (.invokestatic 142, 3) := by decide +kernel
theorem dX10_comes_11 : decode cX10_comes 11 = .ok (.ifCond .ne 5, 3) := by decide +kernel
theorem dX10_comes_14 : decode cX10_comes 14 = .ok (.iconst (-1), 1) := by decide +kernel
theorem dX10_comes_15 : decode cX10_comes 15 = .ok (.ireturn, 1) := by decide +kernel
theorem dX10_comes_16 : decode cX10_comes 16 = .ok (.aload_n 0, 1) := by decide +kernel
theorem dX10_comes_17 : decode cX10_comes 17 = .ok (.iload_n 1, 1) := by decide +kernel
theorem dX10_comes_18 : decode cX10_comes 18 = .ok (.invokevirtual 145, 3) := by decide +kernel
theorem dX10_comes_21 : decode cX10_comes 21 = .ok (.istore_n 3, 1) := by decide +kernel
theorem dX10_comes_22 : decode cX10_comes 22 = .ok (.iload_n 3, 1) := by decide +kernel
theorem dX10_comes_23 : decode cX10_comes 23 = .ok (.ifCond .eq 5, 3) := by decide +kernel
theorem dX10_comes_26 : decode cX10_comes 26 = .ok (.iload_n 3, 1) := by decide +kernel
theorem dX10_comes_27 : decode cX10_comes 27 = .ok (.ireturn, 1) := by decide +kernel
theorem dX10_comes_28 : decode cX10_comes 28 = .ok (.aload_n 0, 1) := by decide +kernel
theorem dX10_comes_29 : decode cX10_comes 29 = .ok (.getfield 62, 3) := by decide +kernel
theorem dX10_comes_32 : decode cX10_comes 32 = .ok (.aload_n 0, 1) := by decide +kernel
theorem dX10_comes_33 : decode cX10_comes 33 = .ok (.getfield 74, 3) := by decide +kernel
theorem dX10_comes_36 : decode cX10_comes 36 = .ok (.iload_n 1, 1) := by decide +kernel
theorem dX10_comes_37 : decode cX10_comes 37 = .ok (.aaload, 1) := by decide +kernel
theorem dX10_comes_38 : decode cX10_comes 38 = .ok (.getfield 148, 3) := by decide +kernel
theorem dX10_comes_41 : decode cX10_comes 41 = .ok (.aload_n 0, 1) := by decide +kernel
theorem dX10_comes_42 : decode cX10_comes 42 = .ok (.getfield 74, 3) := by decide +kernel
theorem dX10_comes_45 : decode cX10_comes 45 = .ok (.iload_n 1, 1) := by decide +kernel
theorem dX10_comes_46 : decode cX10_comes 46 = .ok (.aaload, 1) := by decide +kernel
theorem dX10_comes_47 : decode cX10_comes 47 = .ok (.getfield 150, 3) := by decide +kernel
theorem dX10_comes_50 : decode cX10_comes 50 = .ok (.iload_n 2, 1) := by decide +kernel
theorem dX10_comes_51 : decode cX10_comes 51 = .ok (.aload_n 0, 1) := by decide +kernel
theorem dX10_comes_52 : decode cX10_comes 52 = .ok (.getfield 62, 3) := by decide +kernel
theorem dX10_comes_55 : decode cX10_comes 55 = .ok (.getfield 152, 3) := by decide +kernel
theorem dX10_comes_58 : decode cX10_comes 58 = .ok (.invokevirtual 155, 3) := by decide +kernel
theorem dX10_comes_61 : decode cX10_comes 61 = .ok (.ireturn, 1) := by decide +kernel
abbrev cX10_moves : ByteArray := prog_1_method_5_code
def yX10_moves : MethodName := ⟨RX10, "moves", "(II)I"⟩
theorem dX10_moves_0 : decode cX10_moves 0 = .ok (.aload_n 0, 1) := by decide +kernel
theorem dX10_moves_1 : decode cX10_moves 1 = .ok (.getfield 62, 3) := by decide +kernel
theorem dX10_moves_4 : decode cX10_moves 4 = .ok (.iload_n 1, 1) := by decide +kernel
theorem dX10_moves_5 : decode cX10_moves 5 = .ok (.invokevirtual 108, 3) := by decide +kernel
theorem dX10_moves_8 : decode cX10_moves 8 = .ok (.ifCond .eq 10, 3) := by decide +kernel
theorem dX10_moves_11 : decode cX10_moves 11 = .ok (.iload_n 2, 1) := by decide +kernel
theorem dX10_moves_12 : decode cX10_moves 12 = .ok (.invokestatic 142, 3) := by decide +kernel
theorem dX10_moves_15 : decode cX10_moves 15 = .ok (.ifCond .ne 5, 3) := by decide +kernel
theorem dX10_moves_18 : decode cX10_moves 18 = .ok (.iconst (-1), 1) := by decide +kernel
theorem dX10_moves_19 : decode cX10_moves 19 = .ok (.ireturn, 1) := by decide +kernel
theorem dX10_moves_20 : decode cX10_moves 20 = .ok (.aload_n 0, 1) := by decide +kernel
theorem dX10_moves_21 : decode cX10_moves 21 = .ok (.getfield 62, 3) := by decide +kernel
theorem dX10_moves_24 : decode cX10_moves 24 = .ok (.getfield 118, 3) := by decide +kernel
theorem dX10_moves_27 : decode cX10_moves 27 = .ok (.iload_n 1, 1) := by decide +kernel
theorem dX10_moves_28 : decode cX10_moves 28 = .ok (.iaload, 1) := by decide +kernel
theorem dX10_moves_29 : decode cX10_moves 29 = .ok (.istore_n 3, 1) := by decide +kernel
theorem dX10_moves_30 : decode cX10_moves 30 = .ok (.aload_n 0, 1) := by decide +kernel
theorem dX10_moves_31 : decode cX10_moves 31 = .ok (.getfield 62, 3) := by decide +kernel
theorem dX10_moves_34 : decode cX10_moves 34 = .ok (.getfield 118, 3) := by decide +kernel
theorem dX10_moves_37 : decode cX10_moves 37 = .ok (.iload_n 1, 1) := by decide +kernel
theorem dX10_moves_38 : decode cX10_moves 38 = .ok (.iload_n 2, 1) := by decide +kernel
theorem dX10_moves_39 : decode cX10_moves 39 = .ok (.iastore, 1) := by decide +kernel
theorem dX10_moves_40 : decode cX10_moves 40 = .ok (.iload_n 3, 1) := by decide +kernel
theorem dX10_moves_41 : decode cX10_moves 41 = .ok (.ireturn, 1) := by decide +kernel
abbrev cX10_fetches : ByteArray := prog_1_method_6_code
def yX10_fetches : MethodName := ⟨RX10, "fetches", "(II)I"⟩
theorem dX10_fetches_0 : decode cX10_fetches 0 = .ok (.aload_n 0, 1) := by decide +kernel
theorem dX10_fetches_1 : decode cX10_fetches 1 = .ok (.getfield 62, 3) := by decide +kernel
theorem dX10_fetches_4 : decode cX10_fetches 4 = .ok (.iload_n 1, 1) := by decide +kernel
theorem dX10_fetches_5 : decode cX10_fetches 5 = .ok (.iload_n 2, 1) := by decide +kernel
theorem dX10_fetches_6 : decode cX10_fetches 6 = .ok (.invokevirtual 159, 3) := by decide +kernel
theorem dX10_fetches_9 : decode cX10_fetches 9 = .ok (.ireturn, 1) := by decide +kernel
abbrev cX10_stocks : ByteArray := prog_1_method_7_code
def yX10_stocks : MethodName := ⟨RX10, "stocks", "(II)I"⟩
theorem dX10_stocks_0 : decode cX10_stocks 0 = .ok (.aload_n 0, 1) := by decide +kernel
theorem dX10_stocks_1 : decode cX10_stocks 1 = .ok (.getfield 62, 3) := by decide +kernel
theorem dX10_stocks_4 : decode cX10_stocks 4 = .ok (.iload_n 1, 1) := by decide +kernel
theorem dX10_stocks_5 : decode cX10_stocks 5 = .ok (.iload_n 2, 1) := by decide +kernel
theorem dX10_stocks_6 : decode cX10_stocks 6 = .ok (.invokevirtual 163, 3) := by decide +kernel
theorem dX10_stocks_9 : decode cX10_stocks 9 = .ok (.ireturn, 1) := by decide +kernel
abbrev cX10_sits : ByteArray := prog_1_method_8_code
def yX10_sits : MethodName := ⟨RX10, "sits", "(I)I"⟩
theorem dX10_sits_0 : decode cX10_sits 0 = .ok (.aload_n 0, 1) := by decide +kernel
theorem dX10_sits_1 : decode cX10_sits 1 = .ok (.getfield 62, 3) := by decide +kernel
theorem dX10_sits_4 : decode cX10_sits 4 = .ok (.iload_n 1, 1) := by decide +kernel
theorem dX10_sits_5 : decode cX10_sits 5 = .ok (.invokevirtual 166, 3) := by decide +kernel
theorem dX10_sits_8 : decode cX10_sits 8 = .ok (.ireturn, 1) := by decide +kernel
abbrev cX10_sun : ByteArray := prog_1_method_9_code
def yX10_sun : MethodName := ⟨RX10, "sun", "(II)I"⟩
theorem dX10_sun_0 : decode cX10_sun 0 = .ok (.aload_n 0, 1) := by decide +kernel
theorem dX10_sun_1 : decode cX10_sun 1 = .ok (.getfield 62, 3) := by decide +kernel
theorem dX10_sun_4 : decode cX10_sun 4 = .ok (.iload_n 1, 1) := by decide +kernel
theorem dX10_sun_5 : decode cX10_sun 5 = .ok (.iload_n 2, 1) := by decide +kernel
theorem dX10_sun_6 : decode cX10_sun 6 = .ok (.invokevirtual 169, 3) := by decide +kernel
theorem dX10_sun_9 : decode cX10_sun 9 = .ok (.ireturn, 1) := by decide +kernel
abbrev cX10_days : ByteArray := prog_1_method_10_code
def yX10_days : MethodName := ⟨RX10, "days", "(I)I"⟩
theorem dX10_days_0 : decode cX10_days 0 = .ok (.aload_n 0, 1) := by decide +kernel
theorem dX10_days_1 : decode cX10_days 1 = .ok (.getfield 62, 3) := by decide +kernel
theorem dX10_days_4 : decode cX10_days 4 = .ok (.iload_n 1, 1) := by decide +kernel
theorem dX10_days_5 : decode cX10_days 5 = .ok (.invokevirtual 172, 3) := by decide +kernel
theorem dX10_days_8 : decode cX10_days 8 = .ok (.istore_n 2, 1) := by decide +kernel
theorem dX10_days_9 : decode cX10_days 9 = .ok (.iload_n 2, 1) := by decide +kernel
theorem dX10_days_10 : decode cX10_days 10 = .ok (.ifCond .eq 5, 3) := by decide +kernel
theorem dX10_days_13 : decode cX10_days 13 = .ok (.iload_n 2, 1) := by decide +kernel
theorem dX10_days_14 : decode cX10_days 14 = .ok (.ireturn, 1) := by decide +kernel
theorem dX10_days_15 : decode cX10_days 15 = .ok (.aload_n 0, 1) := by decide +kernel
theorem dX10_days_16 : decode cX10_days 16 = .ok (.getfield 62, 3) := by decide +kernel
theorem dX10_days_19 : decode cX10_days 19 = .ok (.iload_n 1, 1) := by decide +kernel
theorem dX10_days_20 : decode cX10_days 20 = .ok (.invokevirtual 175, 3) := by decide +kernel
theorem dX10_days_23 : decode cX10_days 23 = .ok (.aload_n 0, 1) := by decide +kernel
theorem dX10_days_24 : decode cX10_days 24 = .ok (.getfield 62, 3) := by decide +kernel
theorem dX10_days_27 : decode cX10_days 27 = .ok (.invokevirtual 179, 3) := by decide +kernel
theorem dX10_days_30 : decode cX10_days 30 = .ok (.ireturn, 1) := by decide +kernel
abbrev cX10_isDaysOn : ByteArray := prog_1_method_49_code
def yX10_isDaysOn : MethodName := ⟨RX10, "isDaysOn", "(I)Z"⟩
theorem dX10_isDaysOn_0 : decode cX10_isDaysOn 0 = .ok (.iload_n 0, 1) := by decide +kernel
theorem dX10_isDaysOn_1 : decode cX10_isDaysOn 1 = .ok (.ifCond .lt 13, 3) := by decide +kernel
theorem dX10_isDaysOn_4 : decode cX10_isDaysOn 4 = .ok (.iload_n 0, 1) := by decide +kernel
theorem dX10_isDaysOn_5 : decode cX10_isDaysOn 5 = .ok (.bipush 60, 2) := by decide +kernel
theorem dX10_isDaysOn_7 : decode cX10_isDaysOn 7 = .ok (.if_icmp .gt 7, 3) := by decide +kernel
theorem dX10_isDaysOn_10 : decode cX10_isDaysOn 10 = .ok (.iconst 1, 1) := by decide +kernel
theorem dX10_isDaysOn_11 : decode cX10_isDaysOn 11 = .ok (.goto 4, 3) := by decide +kernel
theorem dX10_isDaysOn_14 : decode cX10_isDaysOn 14 = .ok (.iconst 0, 1) := by decide +kernel
theorem dX10_isDaysOn_15 : decode cX10_isDaysOn 15 = .ok (.ireturn, 1) := by decide +kernel
abbrev cX10_then : ByteArray := prog_1_method_11_code
def yX10_then : MethodName := ⟨RX10, "then", "(II)I"⟩
theorem dX10_then_0 : decode cX10_then 0 = .ok (.iload_n 1, 1) := by decide +kernel
theorem dX10_then_1 : decode cX10_then 1 = .ok (.invokestatic 183, 3) := by decide +kernel
theorem dX10_then_4 : decode cX10_then 4 = .ok (.ifCond .eq 12, 3) := by decide +kernel
theorem dX10_then_7 : decode cX10_then 7 = .ok (.iload_n 2, 1) := by decide +kernel
theorem dX10_then_8 : decode cX10_then 8 = .ok (.ifCond .lt 8, 3) := by decide +kernel
theorem dX10_then_11 : decode cX10_then 11 = .ok (.iload_n 2, 1) := by decide +kernel
theorem dX10_then_12 : decode cX10_then 12 = .ok (.iconst 3, 1) := by decide +kernel
theorem dX10_then_13 : decode cX10_then 13 = .ok (.if_icmp .le 5, 3) := by decide +kernel
theorem dX10_then_16 : decode cX10_then 16 = .ok (.iconst (-1), 1) := by decide +kernel
theorem dX10_then_17 : decode cX10_then 17 = .ok (.ireturn, 1) := by decide +kernel
theorem dX10_then_18 : decode cX10_then 18 = .ok (.aload_n 0, 1) := by decide +kernel
theorem dX10_then_19 : decode cX10_then 19 = .ok (.getfield 66, 3) := by decide +kernel
theorem dX10_then_22 : decode cX10_then 22 = .ok (.aload_n 0, 1) := by decide +kernel
theorem dX10_then_23 : decode cX10_then 23 = .ok (.getfield 62, 3) := by decide +kernel
theorem dX10_then_26 : decode cX10_then 26 = .ok (.invokevirtual 91, 3) := by decide +kernel
theorem dX10_then_29 : decode cX10_then 29 = .ok (.aload_n 0, 1) := by decide +kernel
theorem dX10_then_30 : decode cX10_then 30 = .ok (.getfield 66, 3) := by decide +kernel
theorem dX10_then_33 : decode cX10_then 33 = .ok (.iload_n 1, 1) := by decide +kernel
theorem dX10_then_34 : decode cX10_then 34 = .ok (.invokevirtual 175, 3) := by decide +kernel
theorem dX10_then_37 : decode cX10_then 37 = .ok (.iload_n 2, 1) := by decide +kernel
theorem dX10_then_38 : decode cX10_then 38 = .ok (.tableswitch 50 0 2 #[26, 34, 42], 26) := by decide +kernel
theorem dX10_then_64 : decode cX10_then 64 = .ok (.aload_n 0, 1) := by decide +kernel
theorem dX10_then_65 : decode cX10_then 65 = .ok (.getfield 66, 3) := by decide +kernel
theorem dX10_then_68 : decode cX10_then 68 = .ok (.getfield 186, 3) := by decide +kernel
theorem dX10_then_71 : decode cX10_then 71 = .ok (.ireturn, 1) := by decide +kernel
theorem dX10_then_72 : decode cX10_then 72 = .ok (.aload_n 0, 1) := by decide +kernel
theorem dX10_then_73 : decode cX10_then 73 = .ok (.getfield 66, 3) := by decide +kernel
theorem dX10_then_76 : decode cX10_then 76 = .ok (.getfield 189, 3) := by decide +kernel
theorem dX10_then_79 : decode cX10_then 79 = .ok (.ireturn, 1) := by decide +kernel
theorem dX10_then_80 : decode cX10_then 80 = .ok (.aload_n 0, 1) := by decide +kernel
theorem dX10_then_81 : decode cX10_then 81 = .ok (.getfield 66, 3) := by decide +kernel
theorem dX10_then_84 : decode cX10_then 84 = .ok (.invokevirtual 192, 3) := by decide +kernel
theorem dX10_then_87 : decode cX10_then 87 = .ok (.ireturn, 1) := by decide +kernel
theorem dX10_then_88 : decode cX10_then 88 = .ok (.aload_n 0, 1) := by decide +kernel
theorem dX10_then_89 : decode cX10_then 89 = .ok (.getfield 66, 3) := by decide +kernel
theorem dX10_then_92 : decode cX10_then 92 = .ok (.invokevirtual 179, 3) := by decide +kernel
theorem dX10_then_95 : decode cX10_then 95 = .ok (.ireturn, 1) := by decide +kernel
abbrev cX10_stockThen : ByteArray := prog_1_method_12_code
def yX10_stockThen : MethodName := ⟨RX10, "stockThen", "(II)I"⟩
theorem dX10_stockThen_0 : decode cX10_stockThen 0 = .ok (.aload_n 0, 1) := by decide +kernel
theorem dX10_stockThen_1 : decode cX10_stockThen 1 = .ok (.getfield 62, 3) := by decide +kernel
theorem dX10_stockThen_4 : decode cX10_stockThen 4 = .ok (.iload_n 1, 1) := by decide +kernel
theorem dX10_stockThen_5 : decode cX10_stockThen 5 = .ok (.invokevirtual 108, 3) := by decide +kernel
theorem dX10_stockThen_8 : decode cX10_stockThen 8 = .ok (.ifCond .eq 10, 3) := by decide +kernel
theorem dX10_stockThen_11 : decode cX10_stockThen 11 = .ok (.iload_n 2, 1) := by decide +kernel
theorem dX10_stockThen_12 : decode cX10_stockThen 12 = .ok (.invokestatic 183, 3) := by decide +kernel
theorem dX10_stockThen_15 : decode cX10_stockThen 15 = .ok (.ifCond .ne 5, 3) := by decide +kernel
theorem dX10_stockThen_18 : decode cX10_stockThen 18 = .ok (.iconst (-1), 1) := by decide +kernel
theorem dX10_stockThen_19 : decode cX10_stockThen 19 = .ok (.ireturn, 1) := by decide +kernel
theorem dX10_stockThen_20 : decode cX10_stockThen 20 = .ok (.aload_n 0, 1) := by decide +kernel
theorem dX10_stockThen_21 : decode cX10_stockThen 21 = .ok (.getfield 66, 3) := by decide +kernel
theorem dX10_stockThen_24 : decode cX10_stockThen 24 = .ok (.aload_n 0, 1) := by decide +kernel
theorem dX10_stockThen_25 : decode cX10_stockThen 25 = .ok (.getfield 62, 3) := by decide +kernel
theorem dX10_stockThen_28 : decode cX10_stockThen 28 = .ok (.invokevirtual 91, 3) := by decide +kernel
theorem dX10_stockThen_31 : decode cX10_stockThen 31 = .ok (.aload_n 0, 1) := by decide +kernel
theorem dX10_stockThen_32 : decode cX10_stockThen 32 = .ok (.getfield 66, 3) := by decide +kernel
theorem dX10_stockThen_35 : decode cX10_stockThen 35 = .ok (.iload_n 2, 1) := by decide +kernel
theorem dX10_stockThen_36 : decode cX10_stockThen 36 = .ok (.invokevirtual 175, 3) := by decide +kernel
theorem dX10_stockThen_39 : decode cX10_stockThen 39 = .ok (.aload_n 0, 1) := by decide +kernel
theorem dX10_stockThen_40 : decode cX10_stockThen 40 = .ok (.getfield 66, 3) := by decide +kernel
theorem dX10_stockThen_43 : decode cX10_stockThen 43 = .ok (.getfield 124, 3) := by decide +kernel
theorem dX10_stockThen_46 : decode cX10_stockThen 46 = .ok (.iload_n 1, 1) := by decide +kernel
theorem dX10_stockThen_47 : decode cX10_stockThen 47 = .ok (.iaload, 1) := by decide +kernel
theorem dX10_stockThen_48 : decode cX10_stockThen 48 = .ok (.ireturn, 1) := by decide +kernel
abbrev cX10_firstCan : ByteArray := prog_1_method_13_code
def yX10_firstCan : MethodName := ⟨RX10, "firstCan", "(I)I"⟩
theorem dX10_firstCan_0 : decode cX10_firstCan 0 = .ok (.aload_n 0, 1) := by decide +kernel
theorem dX10_firstCan_1 : decode cX10_firstCan 1 = .ok (.getfield 62, 3) := by decide +kernel
theorem dX10_firstCan_4 : decode cX10_firstCan 4 = .ok (.iload_n 1, 1) := by decide +kernel
theorem dX10_firstCan_5 : decode cX10_firstCan 5 = .ok (.invokevirtual 108, 3) := by decide +kernel
theorem dX10_firstCan_8 : decode cX10_firstCan 8 = .ok (.ifCond .ne 5, 3) := by decide +kernel
theorem dX10_firstCan_11 : decode cX10_firstCan 11 = .ok (.iconst (-1), 1) := by decide +kernel
theorem dX10_firstCan_12 : decode cX10_firstCan 12 = .ok (.ireturn, 1) := by decide +kernel
theorem dX10_firstCan_13 : decode cX10_firstCan 13 = .ok (.aload_n 0, 1) := by decide +kernel
theorem dX10_firstCan_14 : decode cX10_firstCan 14 = .ok (.getfield 66, 3) := by decide +kernel
theorem dX10_firstCan_17 : decode cX10_firstCan 17 = .ok (.aload_n 0, 1) := by decide +kernel
theorem dX10_firstCan_18 : decode cX10_firstCan 18 = .ok (.getfield 62, 3) := by decide +kernel
theorem dX10_firstCan_21 : decode cX10_firstCan 21 = .ok (.invokevirtual 91, 3) := by decide +kernel
theorem dX10_firstCan_24 : decode cX10_firstCan 24 = .ok (.iconst 0, 1) := by decide +kernel
theorem dX10_firstCan_25 : decode cX10_firstCan 25 = .ok (.istore_n 2, 1) := by decide +kernel
theorem dX10_firstCan_26 : decode cX10_firstCan 26 = .ok (.iload_n 2, 1) := by decide +kernel
theorem dX10_firstCan_27 : decode cX10_firstCan 27 = .ok (.bipush 60, 2) := by decide +kernel
theorem dX10_firstCan_29 : decode cX10_firstCan 29 = .ok (.if_icmp .gt 29, 3) := by decide +kernel
theorem dX10_firstCan_32 : decode cX10_firstCan 32 = .ok (.aload_n 0, 1) := by decide +kernel
theorem dX10_firstCan_33 : decode cX10_firstCan 33 = .ok (.getfield 66, 3) := by decide +kernel
theorem dX10_firstCan_36 : decode cX10_firstCan 36 = .ok (.iload_n 1, 1) := by decide +kernel
theorem dX10_firstCan_37 : decode cX10_firstCan 37 = .ok (.invokevirtual 133, 3) := by decide +kernel
theorem dX10_firstCan_40 : decode cX10_firstCan 40 = .ok (.ifCond .eq 5, 3) := by decide +kernel
theorem dX10_firstCan_43 : decode cX10_firstCan 43 = .ok (.iload_n 2, 1) := by decide +kernel
theorem dX10_firstCan_44 : decode cX10_firstCan 44 = .ok (.ireturn, 1) := by decide +kernel
theorem dX10_firstCan_45 : decode cX10_firstCan 45 = .ok (.aload_n 0, 1) := by decide +kernel
theorem dX10_firstCan_46 : decode cX10_firstCan 46 = .ok (.getfield 66, 3) := by decide +kernel
theorem dX10_firstCan_49 : decode cX10_firstCan 49 = .ok (.invokevirtual 195, 3) := by decide +kernel
theorem dX10_firstCan_52 : decode cX10_firstCan 52 = .ok (.iinc 2 1, 3) := by decide +kernel
theorem dX10_firstCan_55 : decode cX10_firstCan 55 = .ok (.goto (-29), 3) := by decide +kernel
theorem dX10_firstCan_58 : decode cX10_firstCan 58 = .ok (.bipush (-4), 2) := by decide +kernel
theorem dX10_firstCan_60 : decode cX10_firstCan 60 = .ok (.ireturn, 1) := by decide +kernel
abbrev cX10_hungry : ByteArray := prog_1_method_14_code
def yX10_hungry : MethodName := ⟨RX10, "hungry", "(I)I"⟩
theorem dX10_hungry_0 : decode cX10_hungry 0 = .ok (.iload_n 1, 1) := by decide +kernel
theorem dX10_hungry_1 : decode cX10_hungry 1 = .ok (.iconst (-1), 1) := by decide +kernel
theorem dX10_hungry_2 : decode cX10_hungry 2 = .ok (.if_icmp .lt 14, 3) := by decide +kernel
theorem dX10_hungry_5 : decode cX10_hungry 5 = .ok (.iload_n 1, 1) := by decide +kernel
theorem dX10_hungry_6 : decode cX10_hungry 6 = .ok (.aload_n 0, 1) := by decide +kernel
theorem dX10_hungry_7 : decode cX10_hungry 7 = .ok (.getfield 62, 3) := by decide +kernel
theorem dX10_hungry_10 : decode cX10_hungry 10 = .ok (.getfield 152, 3) := by decide +kernel
theorem dX10_hungry_13 : decode cX10_hungry 13 = .ok (.if_icmp .lt 5, 3) := by decide +kernel
theorem dX10_hungry_16 : decode cX10_hungry 16 = .ok (.iconst (-1), 1) := by decide +kernel
theorem dX10_hungry_17 : decode cX10_hungry 17 = .ok (.ireturn, 1) := by decide +kernel
theorem dX10_hungry_18 : decode cX10_hungry 18 = .ok (.aload_n 0, 1) := by decide +kernel
theorem dX10_hungry_19 : decode cX10_hungry 19 = .ok (.getfield 66, 3) := by decide +kernel
theorem dX10_hungry_22 : decode cX10_hungry 22 = .ok (.aload_n 0, 1) := by decide +kernel
theorem dX10_hungry_23 : decode cX10_hungry 23 = .ok (.getfield 62, 3) := by decide +kernel
theorem dX10_hungry_26 : decode cX10_hungry 26 = .ok (.invokevirtual 91, 3) := by decide +kernel
theorem dX10_hungry_29 : decode cX10_hungry 29 = .ok (.iconst 0, 1) := by decide +kernel
theorem dX10_hungry_30 : decode cX10_hungry 30 = .ok (.istore_n 2, 1) := by decide +kernel
theorem dX10_hungry_31 : decode cX10_hungry 31 = .ok (.iload_n 2, 1) := by decide +kernel
theorem dX10_hungry_32 : decode cX10_hungry 32 = .ok (.bipush 60, 2) := by decide +kernel
theorem dX10_hungry_34 : decode cX10_hungry 34 = .ok (.if_icmp .gt 58, 3) := by decide +kernel
theorem dX10_hungry_37 : decode cX10_hungry 37 = .ok (.iload_n 1, 1) := by decide +kernel
theorem dX10_hungry_38 : decode cX10_hungry 38 = .ok (.ifCond .lt 8, 3) := by decide +kernel
theorem dX10_hungry_41 : decode cX10_hungry 41 = .ok (.bipush (-4), 2) := by decide +kernel
theorem dX10_hungry_43 : decode cX10_hungry 43 = .ok (.goto 10, 3) := by decide +kernel
theorem dX10_hungry_46 : decode cX10_hungry 46 = .ok (.aload_n 0, 1) := by decide +kernel
theorem dX10_hungry_47 : decode cX10_hungry 47 = .ok (.getfield 66, 3) := by decide +kernel
theorem dX10_hungry_50 : decode cX10_hungry 50 = .ok (.invokevirtual 198, 3) := by decide +kernel
theorem dX10_hungry_53 : decode cX10_hungry 53 = .ok (.istore_n 3, 1) := by decide +kernel
theorem dX10_hungry_54 : decode cX10_hungry 54 = .ok (.iload_n 3, 1) := by decide +kernel
theorem dX10_hungry_55 : decode cX10_hungry 55 = .ok (.ifCond .lt 5, 3) := by decide +kernel
theorem dX10_hungry_58 : decode cX10_hungry 58 = .ok (.iload_n 3, 1) := by decide +kernel
theorem dX10_hungry_59 : decode cX10_hungry 59 = .ok (.ireturn, 1) := by decide +kernel
theorem dX10_hungry_60 : decode cX10_hungry 60 = .ok (.iload_n 1, 1) := by decide +kernel
theorem dX10_hungry_61 : decode cX10_hungry 61 = .ok (.ifCond .lt 17, 3) := by decide +kernel
theorem dX10_hungry_64 : decode cX10_hungry 64 = .ok (.aload_n 0, 1) := by decide +kernel
theorem dX10_hungry_65 : decode cX10_hungry 65 = .ok (.getfield 66, 3) := by decide +kernel
theorem dX10_hungry_68 : decode cX10_hungry 68 = .ok (.getfield 124, 3) := by decide +kernel
theorem dX10_hungry_71 : decode cX10_hungry 71 = .ok (.iload_n 1, 1) := by decide +kernel
theorem dX10_hungry_72 : decode cX10_hungry 72 = .ok (.iaload, 1) := by decide +kernel
theorem dX10_hungry_73 : decode cX10_hungry 73 = .ok (.ifCond .ne 5, 3) := by decide +kernel
theorem dX10_hungry_76 : decode cX10_hungry 76 = .ok (.iload_n 2, 1) := by decide +kernel
theorem dX10_hungry_77 : decode cX10_hungry 77 = .ok (.ireturn, 1) := by decide +kernel
theorem dX10_hungry_78 : decode cX10_hungry 78 = .ok (.aload_n 0, 1) := by decide +kernel
theorem dX10_hungry_79 : decode cX10_hungry 79 = .ok (.getfield 66, 3) := by decide +kernel
theorem dX10_hungry_82 : decode cX10_hungry 82 = .ok (.iconst 1, 1) := by decide +kernel
theorem dX10_hungry_83 : decode cX10_hungry 83 = .ok (.invokevirtual 175, 3) := by decide +kernel
theorem dX10_hungry_86 : decode cX10_hungry 86 = .ok (.iinc 2 1, 3) := by decide +kernel
theorem dX10_hungry_89 : decode cX10_hungry 89 = .ok (.goto (-58), 3) := by decide +kernel
theorem dX10_hungry_92 : decode cX10_hungry 92 = .ok (.bipush (-4), 2) := by decide +kernel
theorem dX10_hungry_94 : decode cX10_hungry 94 = .ok (.ireturn, 1) := by decide +kernel
abbrev cX10_round : ByteArray := prog_1_method_15_code
def yX10_round : MethodName := ⟨RX10, "round", "()I"⟩
theorem dX10_round_0 : decode cX10_round 0 = .ok (.aload_n 0, 1) := by decide +kernel
theorem dX10_round_1 : decode cX10_round 1 = .ok (.getfield 66, 3) := by decide +kernel
theorem dX10_round_4 : decode cX10_round 4 = .ok (.aload_n 0, 1) := by decide +kernel
theorem dX10_round_5 : decode cX10_round 5 = .ok (.getfield 62, 3) := by decide +kernel
theorem dX10_round_8 : decode cX10_round 8 = .ok (.invokevirtual 91, 3) := by decide +kernel
theorem dX10_round_11 : decode cX10_round 11 = .ok (.iconst 1, 1) := by decide +kernel
theorem dX10_round_12 : decode cX10_round 12 = .ok (.istore_n 1, 1) := by decide +kernel
theorem dX10_round_13 : decode cX10_round 13 = .ok (.iload_n 1, 1) := by decide +kernel
theorem dX10_round_14 : decode cX10_round 14 = .ok (.bipush 60, 2) := by decide +kernel
theorem dX10_round_16 : decode cX10_round 16 = .ok (.if_icmp .gt 35, 3) := by decide +kernel
theorem dX10_round_19 : decode cX10_round 19 = .ok (.aload_n 0, 1) := by decide +kernel
theorem dX10_round_20 : decode cX10_round 20 = .ok (.getfield 66, 3) := by decide +kernel
theorem dX10_round_23 : decode cX10_round 23 = .ok (.invokevirtual 195, 3) := by decide +kernel
theorem dX10_round_26 : decode cX10_round 26 = .ok (.aload_n 0, 1) := by decide +kernel
theorem dX10_round_27 : decode cX10_round 27 = .ok (.getfield 66, 3) := by decide +kernel
theorem dX10_round_30 : decode cX10_round 30 = .ok (.getfield 186, 3) := by decide +kernel
theorem dX10_round_33 : decode cX10_round 33 = .ok (.aload_n 0, 1) := by decide +kernel
theorem dX10_round_34 : decode cX10_round 34 = .ok (.getfield 62, 3) := by decide +kernel
theorem dX10_round_37 : decode cX10_round 37 = .ok (.getfield 186, 3) := by decide +kernel
theorem dX10_round_40 : decode cX10_round 40 = .ok (.if_icmp .ne 5, 3) := by decide +kernel
theorem dX10_round_43 : decode cX10_round 43 = .ok (.iload_n 1, 1) := by decide +kernel
theorem dX10_round_44 : decode cX10_round 44 = .ok (.ireturn, 1) := by decide +kernel
theorem dX10_round_45 : decode cX10_round 45 = .ok (.iinc 1 1, 3) := by decide +kernel
theorem dX10_round_48 : decode cX10_round 48 = .ok (.goto (-35), 3) := by decide +kernel
theorem dX10_round_51 : decode cX10_round 51 = .ok (.bipush (-4), 2) := by decide +kernel
theorem dX10_round_53 : decode cX10_round 53 = .ok (.ireturn, 1) := by decide +kernel
abbrev cX10_way : ByteArray := prog_1_method_16_code
def yX10_way : MethodName := ⟨RX10, "way", "(II)I"⟩
theorem dX10_way_0 : decode cX10_way 0 = .ok (.aload_n 0, 1) := by decide +kernel
theorem dX10_way_1 : decode cX10_way 1 = .ok (.getfield 62, 3) := by decide +kernel
theorem dX10_way_4 : decode cX10_way 4 = .ok (.iload_n 1, 1) := by decide +kernel
theorem dX10_way_5 : decode cX10_way 5 = .ok (.invokevirtual 108, 3) := by decide +kernel
theorem dX10_way_8 : decode cX10_way 8 = .ok (.ifCond .eq 10, 3) := by decide +kernel
theorem dX10_way_11 : decode cX10_way 11 = .ok (.iload_n 2, 1) := by decide +kernel
theorem dX10_way_12 : decode cX10_way 12 = .ok (.invokestatic 142, 3) := by decide +kernel
theorem dX10_way_15 : decode cX10_way 15 = .ok (.ifCond .ne 5, 3) := by decide +kernel
theorem dX10_way_18 : decode cX10_way 18 = .ok (.iconst (-1), 1) := by decide +kernel
theorem dX10_way_19 : decode cX10_way 19 = .ok (.ireturn, 1) := by decide +kernel
theorem dX10_way_20 : decode cX10_way 20 = .ok (.aload_n 0, 1) := by decide +kernel
theorem dX10_way_21 : decode cX10_way 21 = .ok (.getfield 62, 3) := by decide +kernel
theorem dX10_way_24 : decode cX10_way 24 = .ok (.iload_n 1, 1) := by decide +kernel
theorem dX10_way_25 : decode cX10_way 25 = .ok (.iload_n 2, 1) := by decide +kernel
theorem dX10_way_26 : decode cX10_way 26 = .ok (.invokevirtual 201, 3) := by decide +kernel
theorem dX10_way_29 : decode cX10_way 29 = .ok (.ireturn, 1) := by decide +kernel
abbrev cX10_sit : ByteArray := prog_1_method_17_code
def yX10_sit : MethodName := ⟨RX10, "sit", "(I)I"⟩
theorem dX10_sit_0 : decode cX10_sit 0 = .ok (.iload_n 1, 1) := by decide +kernel
theorem dX10_sit_1 : decode cX10_sit 1 = .ok (.ifCond .eq 10, 3) := by decide +kernel
theorem dX10_sit_4 : decode cX10_sit 4 = .ok (.iload_n 1, 1) := by decide +kernel
theorem dX10_sit_5 : decode cX10_sit 5 = .ok (.iconst 1, 1) := by decide +kernel
theorem dX10_sit_6 : decode cX10_sit 6 = .ok (.if_icmp .eq 5, 3) := by decide +kernel
theorem dX10_sit_9 : decode cX10_sit 9 = .ok (.iconst (-1), 1) := by decide +kernel
theorem dX10_sit_10 : decode cX10_sit 10 = .ok (.ireturn, 1) := by decide +kernel
theorem dX10_sit_11 : decode cX10_sit 11 = .ok (.aload_n 0, 1) := by decide +kernel
theorem dX10_sit_12 : decode cX10_sit 12 = .ok (.getfield 66, 3) := by decide +kernel
theorem dX10_sit_15 : decode cX10_sit 15 = .ok (.aload_n 0, 1) := by decide +kernel
theorem dX10_sit_16 : decode cX10_sit 16 = .ok (.getfield 62, 3) := by decide +kernel
theorem dX10_sit_19 : decode cX10_sit 19 = .ok (.invokevirtual 91, 3) := by decide +kernel
theorem dX10_sit_22 : decode cX10_sit 22 = .ok (.iconst 0, 1) := by decide +kernel
theorem dX10_sit_23 : decode cX10_sit 23 = .ok (.istore_n 2, 1) := by decide +kernel
theorem dX10_sit_24 : decode cX10_sit 24 = .ok (.ldc 204, 2) := by decide +kernel
theorem dX10_sit_26 : decode cX10_sit 26 = .ok (.istore_n 3, 1) := by decide +kernel
theorem dX10_sit_27 : decode cX10_sit 27 = .ok (.iconst 0, 1) := by decide +kernel
theorem dX10_sit_28 : decode cX10_sit 28 = .ok (.istore 4, 2) := by decide +kernel
theorem dX10_sit_30 : decode cX10_sit 30 = .ok (.iload 4, 2) := by decide +kernel
theorem dX10_sit_32 : decode cX10_sit 32 = .ok (.bipush 12, 2) := by decide +kernel
theorem dX10_sit_34 : decode cX10_sit 34 = .ok (.if_icmp .ge 39, 3) := by decide +kernel
theorem dX10_sit_37 : decode cX10_sit 37 = .ok (.aload_n 0, 1) := by decide +kernel
theorem dX10_sit_38 : decode cX10_sit 38 = .ok (.getfield 66, 3) := by decide +kernel
theorem dX10_sit_41 : decode cX10_sit 41 = .ok (.iload 4, 2) := by decide +kernel
theorem dX10_sit_43 : decode cX10_sit 43 = .ok (.putfield 186, 3) := by decide +kernel
theorem dX10_sit_46 : decode cX10_sit 46 = .ok (.aload_n 0, 1) := by decide +kernel
theorem dX10_sit_47 : decode cX10_sit 47 = .ok (.getfield 66, 3) := by decide +kernel
theorem dX10_sit_50 : decode cX10_sit 50 = .ok (.invokevirtual 205, 3) := by decide +kernel
theorem dX10_sit_53 : decode cX10_sit 53 = .ok (.istore 5, 2) := by decide +kernel
theorem dX10_sit_55 : decode cX10_sit 55 = .ok (.iload 5, 2) := by decide +kernel
theorem dX10_sit_57 : decode cX10_sit 57 = .ok (.iload_n 3, 1) := by decide +kernel
theorem dX10_sit_58 : decode cX10_sit 58 = .ok (.if_icmp .ge 9, 3) := by decide +kernel
theorem dX10_sit_61 : decode cX10_sit 61 = .ok (.iload 5, 2) := by decide +kernel
theorem dX10_sit_63 : decode cX10_sit 63 = .ok (.istore_n 3, 1) := by decide +kernel
theorem dX10_sit_64 : decode cX10_sit 64 = .ok (.iload 4, 2) := by decide +kernel
theorem dX10_sit_66 : decode cX10_sit 66 = .ok (.istore_n 2, 1) := by decide +kernel
theorem dX10_sit_67 : decode cX10_sit 67 = .ok (.iinc 4 1, 3) := by decide +kernel
theorem dX10_sit_70 : decode cX10_sit 70 = .ok (.goto (-40), 3) := by decide +kernel
theorem dX10_sit_73 : decode cX10_sit 73 = .ok (.iload_n 1, 1) := by decide +kernel
theorem dX10_sit_74 : decode cX10_sit 74 = .ok (.ifCond .ne 7, 3) := by decide +kernel
theorem dX10_sit_77 : decode cX10_sit 77 = .ok (.iload_n 2, 1) := by decide +kernel
theorem dX10_sit_78 : decode cX10_sit 78 = .ok (.goto 4, 3) := by decide +kernel
theorem dX10_sit_81 : decode cX10_sit 81 = .ok (.iload_n 3, 1) := by decide +kernel
theorem dX10_sit_82 : decode cX10_sit 82 = .ok (.ireturn, 1) := by decide +kernel
abbrev cX10_sitFor : ByteArray := prog_1_method_18_code
def yX10_sitFor : MethodName := ⟨RX10, "sitFor", "(I)I"⟩
theorem dX10_sitFor_0 : decode cX10_sitFor 0 = .ok (.iload_n 1, 1) := by decide +kernel
theorem dX10_sitFor_1 : decode cX10_sitFor 1 = .ok (.invokestatic 183, 3) := by decide +kernel
theorem dX10_sitFor_4 : decode cX10_sitFor 4 = .ok (.ifCond .ne 5, 3) := by decide +kernel
theorem dX10_sitFor_7 : decode cX10_sitFor 7 = .ok (.iconst (-1), 1) := by decide +kernel
theorem dX10_sitFor_8 : decode cX10_sitFor 8 = .ok (.ireturn, 1) := by decide +kernel
theorem dX10_sitFor_9 : decode cX10_sitFor 9 = .ok (.iconst 0, 1) := by decide +kernel
theorem dX10_sitFor_10 : decode cX10_sitFor 10 = .ok (.istore_n 2, 1) := by decide +kernel
theorem dX10_sitFor_11 : decode cX10_sitFor 11 = .ok (.iconst (-1), 1) := by decide +kernel
theorem dX10_sitFor_12 : decode cX10_sitFor 12 = .ok (.istore_n 3, 1) := by decide +kernel
theorem dX10_sitFor_13 : decode cX10_sitFor 13 = .ok (.iconst 0, 1) := by decide +kernel
theorem dX10_sitFor_14 : decode cX10_sitFor 14 = .ok (.istore 4, 2) := by decide +kernel
theorem dX10_sitFor_16 : decode cX10_sitFor 16 = .ok (.iload 4, 2) := by decide +kernel
theorem dX10_sitFor_18 : decode cX10_sitFor 18 = .ok (.bipush 12, 2) := by decide +kernel
theorem dX10_sitFor_20 : decode cX10_sitFor 20 = .ok (.if_icmp .ge 58, 3) := by decide +kernel
theorem dX10_sitFor_23 : decode cX10_sitFor 23 = .ok (.aload_n 0, 1) := by decide +kernel
theorem dX10_sitFor_24 : decode cX10_sitFor 24 = .ok (.getfield 66, 3) := by decide +kernel
theorem dX10_sitFor_27 : decode cX10_sitFor 27 = .ok (.aload_n 0, 1) := by decide +kernel
theorem dX10_sitFor_28 : decode cX10_sitFor 28 = .ok (.getfield 62, 3) := by decide +kernel
theorem dX10_sitFor_31 : decode cX10_sitFor 31 = .ok (.invokevirtual 91, 3) := by decide +kernel
theorem dX10_sitFor_34 : decode cX10_sitFor 34 = .ok (.aload_n 0, 1) := by decide +kernel
theorem dX10_sitFor_35 : decode cX10_sitFor 35 = .ok (.getfield 66, 3) := by decide +kernel
theorem dX10_sitFor_38 : decode cX10_sitFor 38 = .ok (.iload 4, 2) := by decide +kernel
theorem dX10_sitFor_40 : decode cX10_sitFor 40 = .ok (.putfield 186, 3) := by decide +kernel
theorem dX10_sitFor_43 : decode cX10_sitFor 43 = .ok (.aload_n 0, 1) := by decide +kernel
theorem dX10_sitFor_44 : decode cX10_sitFor 44 = .ok (.getfield 66, 3) := by decide +kernel
theorem dX10_sitFor_47 : decode cX10_sitFor 47 = .ok (.iload_n 1, 1) := by decide +kernel
theorem dX10_sitFor_48 : decode cX10_sitFor 48 = .ok (.invokevirtual 175, 3) := by decide +kernel
theorem dX10_sitFor_51 : decode cX10_sitFor 51 = .ok (.aload_n 0, 1) := by decide +kernel
theorem dX10_sitFor_52 : decode cX10_sitFor 52 = .ok (.getfield 66, 3) := by decide +kernel
theorem dX10_sitFor_55 : decode cX10_sitFor 55 = .ok (.invokevirtual 179, 3) := by decide +kernel
theorem dX10_sitFor_58 : decode cX10_sitFor 58 = .ok (.istore 5, 2) := by decide +kernel
theorem dX10_sitFor_60 : decode cX10_sitFor 60 = .ok (.iload 5, 2) := by decide +kernel
theorem dX10_sitFor_62 : decode cX10_sitFor 62 = .ok (.iload_n 3, 1) := by decide +kernel
theorem dX10_sitFor_63 : decode cX10_sitFor 63 = .ok (.if_icmp .le 9, 3) := by decide +kernel
theorem dX10_sitFor_66 : decode cX10_sitFor 66 = .ok (.iload 5, 2) := by decide +kernel
theorem dX10_sitFor_68 : decode cX10_sitFor 68 = .ok (.istore_n 3, 1) := by decide +kernel
theorem dX10_sitFor_69 : decode cX10_sitFor 69 = .ok (.iload 4, 2) := by decide +kernel
theorem dX10_sitFor_71 : decode cX10_sitFor 71 = .ok (.istore_n 2, 1) := by decide +kernel
theorem dX10_sitFor_72 : decode cX10_sitFor 72 = .ok (.iinc 4 1, 3) := by decide +kernel
theorem dX10_sitFor_75 : decode cX10_sitFor 75 = .ok (.goto (-59), 3) := by decide +kernel
theorem dX10_sitFor_78 : decode cX10_sitFor 78 = .ok (.iload_n 2, 1) := by decide +kernel
theorem dX10_sitFor_79 : decode cX10_sitFor 79 = .ok (.ireturn, 1) := by decide +kernel
abbrev cX10_move : ByteArray := prog_1_method_19_code
def yX10_move : MethodName := ⟨RX10, "move", "(II)I"⟩
theorem dX10_move_0 : decode cX10_move 0 = .ok (.aload_n 0, 1) := by decide +kernel
theorem dX10_move_1 : decode cX10_move 1 = .ok (.getfield 62, 3) := by decide +kernel
theorem dX10_move_4 : decode cX10_move 4 = .ok (.iload_n 1, 1) := by decide +kernel
theorem dX10_move_5 : decode cX10_move 5 = .ok (.invokevirtual 108, 3) := by decide +kernel
theorem dX10_move_8 : decode cX10_move 8 = .ok (.ifCond .eq 10, 3) := by decide +kernel
theorem dX10_move_11 : decode cX10_move 11 = .ok (.iload_n 2, 1) := by decide +kernel
theorem dX10_move_12 : decode cX10_move 12 = .ok (.invokestatic 183, 3) := by decide +kernel
theorem dX10_move_15 : decode cX10_move 15 = .ok (.ifCond .ne 5, 3) := by decide +kernel
theorem dX10_move_18 : decode cX10_move 18 = .ok (.iconst (-1), 1) := by decide +kernel
theorem dX10_move_19 : decode cX10_move 19 = .ok (.ireturn, 1) := by decide +kernel
theorem dX10_move_20 : decode cX10_move 20 = .ok (.iconst 0, 1) := by decide +kernel
theorem dX10_move_21 : decode cX10_move 21 = .ok (.istore_n 3, 1) := by decide +kernel
theorem dX10_move_22 : decode cX10_move 22 = .ok (.iconst (-1), 1) := by decide +kernel
theorem dX10_move_23 : decode cX10_move 23 = .ok (.istore 4, 2) := by decide +kernel
theorem dX10_move_25 : decode cX10_move 25 = .ok (.iconst 0, 1) := by decide +kernel
theorem dX10_move_26 : decode cX10_move 26 = .ok (.istore 5, 2) := by decide +kernel
theorem dX10_move_28 : decode cX10_move 28 = .ok (.iload 5, 2) := by decide +kernel
theorem dX10_move_30 : decode cX10_move 30 = .ok (.bipush 12, 2) := by decide +kernel
theorem dX10_move_32 : decode cX10_move 32 = .ok (.if_icmp .ge 67, 3) := by decide +kernel
theorem dX10_move_35 : decode cX10_move 35 = .ok (.aload_n 0, 1) := by decide +kernel
theorem dX10_move_36 : decode cX10_move 36 = .ok (.getfield 66, 3) := by decide +kernel
theorem dX10_move_39 : decode cX10_move 39 = .ok (.aload_n 0, 1) := by decide +kernel
theorem dX10_move_40 : decode cX10_move 40 = .ok (.getfield 62, 3) := by decide +kernel
theorem dX10_move_43 : decode cX10_move 43 = .ok (.invokevirtual 91, 3) := by decide +kernel
theorem dX10_move_46 : decode cX10_move 46 = .ok (.aload_n 0, 1) := by decide +kernel
theorem dX10_move_47 : decode cX10_move 47 = .ok (.getfield 66, 3) := by decide +kernel
theorem dX10_move_50 : decode cX10_move 50 = .ok (.getfield 118, 3) := by decide +kernel
theorem dX10_move_53 : decode cX10_move 53 = .ok (.iload_n 1, 1) := by decide +kernel
theorem dX10_move_54 : decode cX10_move 54 = .ok (.iload 5, 2) := by decide +kernel
theorem dX10_move_56 : decode cX10_move 56 = .ok (.iastore, 1) := by decide +kernel
theorem dX10_move_57 : decode cX10_move 57 = .ok (.aload_n 0, 1) := by decide +kernel
theorem dX10_move_58 : decode cX10_move 58 = .ok (.getfield 66, 3) := by decide +kernel
theorem dX10_move_61 : decode cX10_move 61 = .ok (.iload_n 2, 1) := by decide +kernel
theorem dX10_move_62 : decode cX10_move 62 = .ok (.invokevirtual 175, 3) := by decide +kernel
theorem dX10_move_65 : decode cX10_move 65 = .ok (.aload_n 0, 1) := by decide +kernel
theorem dX10_move_66 : decode cX10_move 66 = .ok (.getfield 66, 3) := by decide +kernel
theorem dX10_move_69 : decode cX10_move 69 = .ok (.getfield 124, 3) := by decide +kernel
theorem dX10_move_72 : decode cX10_move 72 = .ok (.iload_n 1, 1) := by decide +kernel
theorem dX10_move_73 : decode cX10_move 73 = .ok (.iaload, 1) := by decide +kernel
theorem dX10_move_74 : decode cX10_move 74 = .ok (.iload 4, 2) := by decide +kernel
theorem dX10_move_76 : decode cX10_move 76 = .ok (.if_icmp .le 17, 3) := by decide +kernel
theorem dX10_move_79 : decode cX10_move 79 = .ok (.aload_n 0, 1) := by decide +kernel
theorem dX10_move_80 : decode cX10_move 80 = .ok (.getfield 66, 3) := by decide +kernel
theorem dX10_move_83 : decode cX10_move 83 = .ok (.getfield 124, 3) := by decide +kernel
theorem dX10_move_86 : decode cX10_move 86 = .ok (.iload_n 1, 1) := by decide +kernel
theorem dX10_move_87 : decode cX10_move 87 = .ok (.iaload, 1) := by decide +kernel
theorem dX10_move_88 : decode cX10_move 88 = .ok (.istore 4, 2) := by decide +kernel
theorem dX10_move_90 : decode cX10_move 90 = .ok (.iload 5, 2) := by decide +kernel
theorem dX10_move_92 : decode cX10_move 92 = .ok (.istore_n 3, 1) := by decide +kernel
theorem dX10_move_93 : decode cX10_move 93 = .ok (.iinc 5 1, 3) := by decide +kernel
theorem dX10_move_96 : decode cX10_move 96 = .ok (.goto (-68), 3) := by decide +kernel
theorem dX10_move_99 : decode cX10_move 99 = .ok (.iload_n 3, 1) := by decide +kernel
theorem dX10_move_100 : decode cX10_move 100 = .ok (.ireturn, 1) := by decide +kernel
abbrev cX10_fetch : ByteArray := prog_1_method_20_code
def yX10_fetch : MethodName := ⟨RX10, "fetch", "(II)I"⟩
theorem dX10_fetch_0 : decode cX10_fetch 0 = .ok (.aload_n 0, 1) := by decide +kernel
theorem dX10_fetch_1 : decode cX10_fetch 1 = .ok (.getfield 62, 3) := by decide +kernel
theorem dX10_fetch_4 : decode cX10_fetch 4 = .ok (.iload_n 1, 1) := by decide +kernel
theorem dX10_fetch_5 : decode cX10_fetch 5 = .ok (.invokevirtual 108, 3) := by decide +kernel
theorem dX10_fetch_8 : decode cX10_fetch 8 = .ok (.ifCond .eq 10, 3) := by decide +kernel
theorem dX10_fetch_11 : decode cX10_fetch 11 = .ok (.iload_n 2, 1) := by decide +kernel
theorem dX10_fetch_12 : decode cX10_fetch 12 = .ok (.invokestatic 183, 3) := by decide +kernel
theorem dX10_fetch_15 : decode cX10_fetch 15 = .ok (.ifCond .ne 5, 3) := by decide +kernel
theorem dX10_fetch_18 : decode cX10_fetch 18 = .ok (.iconst (-1), 1) := by decide +kernel
theorem dX10_fetch_19 : decode cX10_fetch 19 = .ok (.ireturn, 1) := by decide +kernel
theorem dX10_fetch_20 : decode cX10_fetch 20 = .ok (.aload_n 0, 1) := by decide +kernel
theorem dX10_fetch_21 : decode cX10_fetch 21 = .ok (.getfield 66, 3) := by decide +kernel
theorem dX10_fetch_24 : decode cX10_fetch 24 = .ok (.aload_n 0, 1) := by decide +kernel
theorem dX10_fetch_25 : decode cX10_fetch 25 = .ok (.getfield 62, 3) := by decide +kernel
theorem dX10_fetch_28 : decode cX10_fetch 28 = .ok (.invokevirtual 91, 3) := by decide +kernel
theorem dX10_fetch_31 : decode cX10_fetch 31 = .ok (.aload_n 0, 1) := by decide +kernel
theorem dX10_fetch_32 : decode cX10_fetch 32 = .ok (.getfield 66, 3) := by decide +kernel
theorem dX10_fetch_35 : decode cX10_fetch 35 = .ok (.iload_n 2, 1) := by decide +kernel
theorem dX10_fetch_36 : decode cX10_fetch 36 = .ok (.invokevirtual 175, 3) := by decide +kernel
theorem dX10_fetch_39 : decode cX10_fetch 39 = .ok (.aload_n 0, 1) := by decide +kernel
theorem dX10_fetch_40 : decode cX10_fetch 40 = .ok (.getfield 66, 3) := by decide +kernel
theorem dX10_fetch_43 : decode cX10_fetch 43 = .ok (.getfield 124, 3) := by decide +kernel
theorem dX10_fetch_46 : decode cX10_fetch 46 = .ok (.iload_n 1, 1) := by decide +kernel
theorem dX10_fetch_47 : decode cX10_fetch 47 = .ok (.iaload, 1) := by decide +kernel
theorem dX10_fetch_48 : decode cX10_fetch 48 = .ok (.istore_n 3, 1) := by decide +kernel
theorem dX10_fetch_49 : decode cX10_fetch 49 = .ok (.bipush (-4), 2) := by decide +kernel
theorem dX10_fetch_51 : decode cX10_fetch 51 = .ok (.istore 4, 2) := by decide +kernel
theorem dX10_fetch_53 : decode cX10_fetch 53 = .ok (.iconst 0, 1) := by decide +kernel
theorem dX10_fetch_54 : decode cX10_fetch 54 = .ok (.istore 5, 2) := by decide +kernel
theorem dX10_fetch_56 : decode cX10_fetch 56 = .ok (.iload 5, 2) := by decide +kernel
theorem dX10_fetch_58 : decode cX10_fetch 58 = .ok (.aload_n 0, 1) := by decide +kernel
theorem dX10_fetch_59 : decode cX10_fetch 59 = .ok (.getfield 62, 3) := by decide +kernel
theorem dX10_fetch_62 : decode cX10_fetch 62 = .ok (.getfield 152, 3) := by decide +kernel
theorem dX10_fetch_65 : decode cX10_fetch 65 = .ok (.if_icmp .ge 66, 3) := by decide +kernel
theorem dX10_fetch_68 : decode cX10_fetch 68 = .ok (.aload_n 0, 1) := by decide +kernel
theorem dX10_fetch_69 : decode cX10_fetch 69 = .ok (.getfield 66, 3) := by decide +kernel
theorem dX10_fetch_72 : decode cX10_fetch 72 = .ok (.aload_n 0, 1) := by decide +kernel
theorem dX10_fetch_73 : decode cX10_fetch 73 = .ok (.getfield 62, 3) := by decide +kernel
theorem dX10_fetch_76 : decode cX10_fetch 76 = .ok (.invokevirtual 91, 3) := by decide +kernel
theorem dX10_fetch_79 : decode cX10_fetch 79 = .ok (.aload_n 0, 1) := by decide +kernel
theorem dX10_fetch_80 : decode cX10_fetch 80 = .ok (.getfield 66, 3) := by decide +kernel
theorem dX10_fetch_83 : decode cX10_fetch 83 = .ok (.getfield 121, 3) := by decide +kernel
theorem dX10_fetch_86 : decode cX10_fetch 86 = .ok (.iload_n 1, 1) := by decide +kernel
theorem dX10_fetch_87 : decode cX10_fetch 87 = .ok (.iload 5, 2) := by decide +kernel
theorem dX10_fetch_89 : decode cX10_fetch 89 = .ok (.iastore, 1) := by decide +kernel
theorem dX10_fetch_90 : decode cX10_fetch 90 = .ok (.aload_n 0, 1) := by decide +kernel
theorem dX10_fetch_91 : decode cX10_fetch 91 = .ok (.getfield 66, 3) := by decide +kernel
theorem dX10_fetch_94 : decode cX10_fetch 94 = .ok (.iload_n 2, 1) := by decide +kernel
theorem dX10_fetch_95 : decode cX10_fetch 95 = .ok (.invokevirtual 175, 3) := by decide +kernel
theorem dX10_fetch_98 : decode cX10_fetch 98 = .ok (.aload_n 0, 1) := by decide +kernel
theorem dX10_fetch_99 : decode cX10_fetch 99 = .ok (.getfield 66, 3) := by decide +kernel
theorem dX10_fetch_102 : decode cX10_fetch 102 = .ok (.getfield 124, 3) := by decide +kernel
theorem dX10_fetch_105 : decode cX10_fetch 105 = .ok (.iload_n 1, 1) := by decide +kernel
theorem dX10_fetch_106 : decode cX10_fetch 106 = .ok (.iaload, 1) := by decide +kernel
theorem dX10_fetch_107 : decode cX10_fetch 107 = .ok (.iload_n 3, 1) := by decide +kernel
theorem dX10_fetch_108 : decode cX10_fetch 108 = .ok (.if_icmp .le 17, 3) := by decide +kernel
theorem dX10_fetch_111 : decode cX10_fetch 111 = .ok (.aload_n 0, 1) := by decide +kernel
theorem dX10_fetch_112 : decode cX10_fetch 112 = .ok (.getfield 66, 3) := by decide +kernel
theorem dX10_fetch_115 : decode cX10_fetch 115 = .ok (.getfield 124, 3) := by decide +kernel
theorem dX10_fetch_118 : decode cX10_fetch 118 = .ok (.iload_n 1, 1) := by decide +kernel
theorem dX10_fetch_119 : decode cX10_fetch 119 = .ok (.iaload, 1) := by decide +kernel
theorem dX10_fetch_120 : decode cX10_fetch 120 = .ok (.istore_n 3, 1) := by decide +kernel
theorem dX10_fetch_121 : decode cX10_fetch 121 = .ok (.iload 5, 2) := by decide +kernel
theorem dX10_fetch_123 : decode cX10_fetch 123 = .ok (.istore 4, 2) := by decide +kernel
theorem dX10_fetch_125 : decode cX10_fetch 125 = .ok (.iinc 5 1, 3) := by decide +kernel
theorem dX10_fetch_128 : decode cX10_fetch 128 = .ok (.goto (-72), 3) := by decide +kernel
theorem dX10_fetch_131 : decode cX10_fetch 131 = .ok (.iload 4, 2) := by decide +kernel
theorem dX10_fetch_133 : decode cX10_fetch 133 = .ok (.ireturn, 1) := by decide +kernel
abbrev cX10_stepBest : ByteArray := prog_1_method_21_code
def yX10_stepBest : MethodName := ⟨RX10, "stepBest", "(I)I"⟩
theorem dX10_stepBest_0 : decode cX10_stepBest 0 = .ok (.iload_n 1, 1) := by decide +kernel
theorem dX10_stepBest_1 : decode cX10_stepBest 1 = .ok (.invokestatic 183, 3) := by decide +kernel
theorem dX10_stepBest_4 : decode cX10_stepBest 4 = .ok (.ifCond .ne 5, 3) := by decide +kernel
theorem dX10_stepBest_7 : decode cX10_stepBest 7 = .ok (.iconst (-1), 1) := by decide +kernel
theorem dX10_stepBest_8 : decode cX10_stepBest 8 = .ok (.ireturn, 1) := by decide +kernel
theorem dX10_stepBest_9 : decode cX10_stepBest 9 = .ok (.iconst 0, 1) := by decide +kernel
theorem dX10_stepBest_10 : decode cX10_stepBest 10 = .ok (.istore_n 2, 1) := by decide +kernel
theorem dX10_stepBest_11 : decode cX10_stepBest 11 = .ok (.iconst (-1), 1) := by decide +kernel
theorem dX10_stepBest_12 : decode cX10_stepBest 12 = .ok (.istore_n 3, 1) := by decide +kernel
theorem dX10_stepBest_13 : decode cX10_stepBest 13 = .ok (.iconst 0, 1) := by decide +kernel
theorem dX10_stepBest_14 : decode cX10_stepBest 14 = .ok (.istore 4, 2) := by decide +kernel
theorem dX10_stepBest_16 : decode cX10_stepBest 16 = .ok (.iload 4, 2) := by decide +kernel
theorem dX10_stepBest_18 : decode cX10_stepBest 18 = .ok (.iconst 5, 1) := by decide +kernel
theorem dX10_stepBest_19 : decode cX10_stepBest 19 = .ok (.if_icmp .gt 58, 3) := by decide +kernel
theorem dX10_stepBest_22 : decode cX10_stepBest 22 = .ok (.aload_n 0, 1) := by decide +kernel
theorem dX10_stepBest_23 : decode cX10_stepBest 23 = .ok (.getfield 66, 3) := by decide +kernel
theorem dX10_stepBest_26 : decode cX10_stepBest 26 = .ok (.aload_n 0, 1) := by decide +kernel
theorem dX10_stepBest_27 : decode cX10_stepBest 27 = .ok (.getfield 62, 3) := by decide +kernel
theorem dX10_stepBest_30 : decode cX10_stepBest 30 = .ok (.invokevirtual 91, 3) := by decide +kernel
theorem dX10_stepBest_33 : decode cX10_stepBest 33 = .ok (.aload_n 0, 1) := by decide +kernel
theorem dX10_stepBest_34 : decode cX10_stepBest 34 = .ok (.getfield 66, 3) := by decide +kernel
theorem dX10_stepBest_37 : decode cX10_stepBest 37 = .ok (.iload 4, 2) := by decide +kernel
theorem dX10_stepBest_39 : decode cX10_stepBest 39 = .ok (.putfield 208, 3) := by decide +kernel
theorem dX10_stepBest_42 : decode cX10_stepBest 42 = .ok (.aload_n 0, 1) := by decide +kernel
theorem dX10_stepBest_43 : decode cX10_stepBest 43 = .ok (.getfield 66, 3) := by decide +kernel
theorem dX10_stepBest_46 : decode cX10_stepBest 46 = .ok (.iload_n 1, 1) := by decide +kernel
theorem dX10_stepBest_47 : decode cX10_stepBest 47 = .ok (.invokevirtual 175, 3) := by decide +kernel
theorem dX10_stepBest_50 : decode cX10_stepBest 50 = .ok (.aload_n 0, 1) := by decide +kernel
theorem dX10_stepBest_51 : decode cX10_stepBest 51 = .ok (.getfield 66, 3) := by decide +kernel
theorem dX10_stepBest_54 : decode cX10_stepBest 54 = .ok (.invokevirtual 179, 3) := by decide +kernel
theorem dX10_stepBest_57 : decode cX10_stepBest 57 = .ok (.istore 5, 2) := by decide +kernel
theorem dX10_stepBest_59 : decode cX10_stepBest 59 = .ok (.iload 5, 2) := by decide +kernel
theorem dX10_stepBest_61 : decode cX10_stepBest 61 = .ok (.iload_n 3, 1) := by decide +kernel
theorem dX10_stepBest_62 : decode cX10_stepBest 62 = .ok (.if_icmp .le 9, 3) := by decide +kernel
theorem dX10_stepBest_65 : decode cX10_stepBest 65 = .ok (.iload 5, 2) := by decide +kernel
theorem dX10_stepBest_67 : decode cX10_stepBest 67 = .ok (.istore_n 3, 1) := by decide +kernel
theorem dX10_stepBest_68 : decode cX10_stepBest 68 = .ok (.iload 4, 2) := by decide +kernel
theorem dX10_stepBest_70 : decode cX10_stepBest 70 = .ok (.istore_n 2, 1) := by decide +kernel
theorem dX10_stepBest_71 : decode cX10_stepBest 71 = .ok (.iinc 4 1, 3) := by decide +kernel
theorem dX10_stepBest_74 : decode cX10_stepBest 74 = .ok (.goto (-58), 3) := by decide +kernel
theorem dX10_stepBest_77 : decode cX10_stepBest 77 = .ok (.iload_n 2, 1) := by decide +kernel
theorem dX10_stepBest_78 : decode cX10_stepBest 78 = .ok (.ireturn, 1) := by decide +kernel
abbrev cX10_measureWaysBetween : ByteArray := prog_1_method_58_code
def yX10_measureWaysBetween : MethodName := ⟨RX10, "measureWaysBetween", "()V"⟩
theorem dX10_measureWaysBetween_0 : decode cX10_measureWaysBetween 0 = .ok (.iconst 0, 1) := by decide +kernel
theorem dX10_measureWaysBetween_1 : decode cX10_measureWaysBetween 1 = .ok (.istore_n 1, 1) := by decide +kernel
theorem dX10_measureWaysBetween_2 : decode cX10_measureWaysBetween 2 = .ok (.iload_n 1, 1) := by decide +kernel
theorem dX10_measureWaysBetween_3 : decode cX10_measureWaysBetween 3 = .ok (.aload_n 0, 1) := by decide +kernel
theorem dX10_measureWaysBetween_4 : decode cX10_measureWaysBetween 4 = .ok (.getfield 62, 3) := by decide +kernel
theorem dX10_measureWaysBetween_7 : decode cX10_measureWaysBetween 7 = .ok (.getfield 152, 3) := by decide +kernel
theorem dX10_measureWaysBetween_10 : decode cX10_measureWaysBetween 10 = .ok (.if_icmp .ge 56, 3) := by decide +kernel
theorem dX10_measureWaysBetween_13 : decode cX10_measureWaysBetween 13 = .ok (.iconst 0, 1) := by decide +kernel
theorem dX10_measureWaysBetween_14 : decode cX10_measureWaysBetween 14 = .ok (.istore_n 2, 1) := by decide +kernel
theorem dX10_measureWaysBetween_15 : decode cX10_measureWaysBetween 15 = .ok (.iload_n 2, 1) := by decide +kernel
theorem dX10_measureWaysBetween_16 : decode cX10_measureWaysBetween 16 = .ok (.aload_n 0, 1) := by decide +kernel
theorem dX10_measureWaysBetween_17 : decode cX10_measureWaysBetween 17 = .ok (.getfield 62, 3) := by decide +kernel
theorem dX10_measureWaysBetween_20 : decode cX10_measureWaysBetween 20 = .ok (.getfield 152, 3) := by decide +kernel
theorem dX10_measureWaysBetween_23 : decode cX10_measureWaysBetween 23 = .ok (.if_icmp .ge 37, 3) := by decide +kernel
theorem dX10_measureWaysBetween_26 : decode cX10_measureWaysBetween 26 = .ok (.aload_n 0, 1) := by decide +kernel
theorem dX10_measureWaysBetween_27 : decode cX10_measureWaysBetween 27 = .ok (.getfield 9, 3) := by decide +kernel
theorem dX10_measureWaysBetween_30 : decode cX10_measureWaysBetween 30 = .ok (.iload_n 1, 1) := by decide +kernel
theorem dX10_measureWaysBetween_31 : decode cX10_measureWaysBetween 31 = .ok (.bipush 7, 2) := by decide +kernel
theorem dX10_measureWaysBetween_33 : decode cX10_measureWaysBetween 33 = .ok (.imul, 1) := by decide +kernel
theorem dX10_measureWaysBetween_34 : decode cX10_measureWaysBetween 34 = .ok (.iload_n 2, 1) := by decide +kernel
theorem dX10_measureWaysBetween_35 : decode cX10_measureWaysBetween 35 = .ok (.iadd, 1) := by decide +kernel
theorem dX10_measureWaysBetween_36 : decode cX10_measureWaysBetween 36 = .ok (.aload_n 0, 1) := by decide +kernel
theorem dX10_measureWaysBetween_37 : decode cX10_measureWaysBetween 37 = .ok (.getfield 62, 3) := by decide +kernel
theorem dX10_measureWaysBetween_40 : decode cX10_measureWaysBetween 40 = .ok (.iload_n 1, 1) := by decide +kernel
theorem dX10_measureWaysBetween_41 : decode cX10_measureWaysBetween 41 = .ok (.aload_n 0, 1) := by decide +kernel
theorem dX10_measureWaysBetween_42 : decode cX10_measureWaysBetween 42 = .ok (.getfield 62, 3) := by decide +kernel
theorem dX10_measureWaysBetween_45 : decode cX10_measureWaysBetween 45 = .ok (.getfield 118, 3) := by decide +kernel
theorem dX10_measureWaysBetween_48 : decode cX10_measureWaysBetween 48 = .ok (.iload_n 2, 1) := by decide +kernel
theorem dX10_measureWaysBetween_49 : decode cX10_measureWaysBetween 49 = .ok (.iaload, 1) := by decide +kernel
theorem dX10_measureWaysBetween_50 : decode cX10_measureWaysBetween 50 = .ok (.invokevirtual 201, 3) := by decide +kernel
theorem dX10_measureWaysBetween_53 : decode cX10_measureWaysBetween 53 = .ok (.iastore, 1) := by decide +kernel
theorem dX10_measureWaysBetween_54 : decode cX10_measureWaysBetween 54 = .ok (.iinc 2 1, 3) := by decide +kernel
theorem dX10_measureWaysBetween_57 : decode cX10_measureWaysBetween 57 = .ok (.goto (-42), 3) := by decide +kernel
theorem dX10_measureWaysBetween_60 : decode cX10_measureWaysBetween 60 = .ok (.iinc 1 1, 3) := by decide +kernel
theorem dX10_measureWaysBetween_63 : decode cX10_measureWaysBetween 63 = .ok (.goto (-61), 3) := by decide +kernel
theorem dX10_measureWaysBetween_66 : decode cX10_measureWaysBetween 66 = .ok (.return_, 1) := by decide +kernel
abbrev cJ6_bitCount_0f7a4 : ByteArray := prog_17_method_49_code
def yJ6_bitCount_0f7a4 : MethodName := ⟨RJ6, "bitCount", "(I)I"⟩
theorem dJ6_bitCount_0f7a4_0 : decode cJ6_bitCount_0f7a4 0 = .ok (.iload_n 0, 1) := by decide +kernel
theorem dJ6_bitCount_0f7a4_1 : decode cJ6_bitCount_0f7a4 1 = .ok (.iload_n 0, 1) := by decide +kernel
theorem dJ6_bitCount_0f7a4_2 : decode cJ6_bitCount_0f7a4 2 = .ok (.iconst 1, 1) := by decide +kernel
theorem dJ6_bitCount_0f7a4_3 : decode cJ6_bitCount_0f7a4 3 = .ok (.iushr, 1) := by decide +kernel
theorem dJ6_bitCount_0f7a4_4 : decode cJ6_bitCount_0f7a4 4 = .ok (.ldc_w 265, 3) := by decide +kernel
theorem dJ6_bitCount_0f7a4_7 : decode cJ6_bitCount_0f7a4 7 = .ok (.iand, 1) := by decide +kernel
theorem dJ6_bitCount_0f7a4_8 : decode cJ6_bitCount_0f7a4 8 = .ok (.isub, 1) := by decide +kernel
theorem dJ6_bitCount_0f7a4_9 : decode cJ6_bitCount_0f7a4 9 = .ok (.istore_n 0, 1) := by decide +kernel
theorem dJ6_bitCount_0f7a4_10 : decode cJ6_bitCount_0f7a4 10 = .ok (.iload_n 0, 1) := by decide +kernel
theorem dJ6_bitCount_0f7a4_11 : decode cJ6_bitCount_0f7a4 11 = .ok (.ldc_w 266, 3) := by decide +kernel
theorem dJ6_bitCount_0f7a4_14 : decode cJ6_bitCount_0f7a4 14 = .ok (.iand, 1) := by decide +kernel
theorem dJ6_bitCount_0f7a4_15 : decode cJ6_bitCount_0f7a4 15 = .ok (.iload_n 0, 1) := by decide +kernel
theorem dJ6_bitCount_0f7a4_16 : decode cJ6_bitCount_0f7a4 16 = .ok (.iconst 2, 1) := by decide +kernel
theorem dJ6_bitCount_0f7a4_17 : decode cJ6_bitCount_0f7a4 17 = .ok (.iushr, 1) := by decide +kernel
theorem dJ6_bitCount_0f7a4_18 : decode cJ6_bitCount_0f7a4 18 = .ok (.ldc_w 266, 3) := by decide +kernel
theorem dJ6_bitCount_0f7a4_21 : decode cJ6_bitCount_0f7a4 21 = .ok (.iand, 1) := by decide +kernel
theorem dJ6_bitCount_0f7a4_22 : decode cJ6_bitCount_0f7a4 22 = .ok (.iadd, 1) := by decide +kernel
theorem dJ6_bitCount_0f7a4_23 : decode cJ6_bitCount_0f7a4 23 = .ok (.istore_n 0, 1) := by decide +kernel
theorem dJ6_bitCount_0f7a4_24 : decode cJ6_bitCount_0f7a4 24 = .ok (.iload_n 0, 1) := by decide +kernel
theorem dJ6_bitCount_0f7a4_25 : decode cJ6_bitCount_0f7a4 25 = .ok (.iload_n 0, 1) := by decide +kernel
theorem dJ6_bitCount_0f7a4_26 : decode cJ6_bitCount_0f7a4 26 = .ok (.iconst 4, 1) := by decide +kernel
theorem dJ6_bitCount_0f7a4_27 : decode cJ6_bitCount_0f7a4 27 = .ok (.iushr, 1) := by decide +kernel
theorem dJ6_bitCount_0f7a4_28 : decode cJ6_bitCount_0f7a4 28 = .ok (.iadd, 1) := by decide +kernel
theorem dJ6_bitCount_0f7a4_29 : decode cJ6_bitCount_0f7a4 29 = .ok (.ldc_w 267, 3) := by decide +kernel
theorem dJ6_bitCount_0f7a4_32 : decode cJ6_bitCount_0f7a4 32 = .ok (.iand, 1) := by decide +kernel
theorem dJ6_bitCount_0f7a4_33 : decode cJ6_bitCount_0f7a4 33 = .ok (.istore_n 0, 1) := by decide +kernel
theorem dJ6_bitCount_0f7a4_34 : decode cJ6_bitCount_0f7a4 34 = .ok (.iload_n 0, 1) := by decide +kernel
theorem dJ6_bitCount_0f7a4_35 : decode cJ6_bitCount_0f7a4 35 = .ok (.iload_n 0, 1) := by decide +kernel
theorem dJ6_bitCount_0f7a4_36 : decode cJ6_bitCount_0f7a4 36 = .ok (.bipush 8, 2) := by decide +kernel
theorem dJ6_bitCount_0f7a4_38 : decode cJ6_bitCount_0f7a4 38 = .ok (.iushr, 1) := by decide +kernel
theorem dJ6_bitCount_0f7a4_39 : decode cJ6_bitCount_0f7a4 39 = .ok (.iadd, 1) := by decide +kernel
theorem dJ6_bitCount_0f7a4_40 : decode cJ6_bitCount_0f7a4 40 = .ok (.istore_n 0, 1) := by decide +kernel
theorem dJ6_bitCount_0f7a4_41 : decode cJ6_bitCount_0f7a4 41 = .ok (.iload_n 0, 1) := by decide +kernel
theorem dJ6_bitCount_0f7a4_42 : decode cJ6_bitCount_0f7a4 42 = .ok (.iload_n 0, 1) := by decide +kernel
theorem dJ6_bitCount_0f7a4_43 : decode cJ6_bitCount_0f7a4 43 = .ok (.bipush 16, 2) := by decide +kernel
theorem dJ6_bitCount_0f7a4_45 : decode cJ6_bitCount_0f7a4 45 = .ok (.iushr, 1) := by decide +kernel
theorem dJ6_bitCount_0f7a4_46 : decode cJ6_bitCount_0f7a4 46 = .ok (.iadd, 1) := by decide +kernel
theorem dJ6_bitCount_0f7a4_47 : decode cJ6_bitCount_0f7a4 47 = .ok (.istore_n 0, 1) := by decide +kernel
theorem dJ6_bitCount_0f7a4_48 : decode cJ6_bitCount_0f7a4 48 = .ok (.iload_n 0, 1) := by decide +kernel
theorem dJ6_bitCount_0f7a4_49 : decode cJ6_bitCount_0f7a4 49 = .ok (.bipush 63, 2) := by decide +kernel
theorem dJ6_bitCount_0f7a4_51 : decode cJ6_bitCount_0f7a4 51 = .ok (.iand, 1) := by decide +kernel
theorem dJ6_bitCount_0f7a4_52 : decode cJ6_bitCount_0f7a4 52 = .ok (.ireturn, 1) := by decide +kernel
abbrev cX10_mayMatch : ByteArray := prog_1_method_62_code
def yX10_mayMatch : MethodName := ⟨RX10, "mayMatch", "(III)Z"⟩
theorem dX10_mayMatch_0 : decode cX10_mayMatch 0 = .ok (.iload_n 1, 1) := by decide +kernel
theorem dX10_mayMatch_1 : decode cX10_mayMatch 1 = .ok (.iload_n 0, 1) := by decide +kernel
theorem dX10_mayMatch_2 : decode cX10_mayMatch 2 = .ok (.if_icmp .eq 15, 3) := by decide +kernel
theorem dX10_mayMatch_5 : decode cX10_mayMatch 5 = .ok (.iload_n 2, 1) := by decide +kernel
theorem dX10_mayMatch_6 : decode cX10_mayMatch 6 = .ok (.iload_n 1, 1) := by decide +kernel
theorem dX10_mayMatch_7 : decode cX10_mayMatch 7 = .ok (.ishr, 1) := by decide +kernel
theorem dX10_mayMatch_8 : decode cX10_mayMatch 8 = .ok (.iconst 1, 1) := by decide +kernel
theorem dX10_mayMatch_9 : decode cX10_mayMatch 9 = .ok (.iand, 1) := by decide +kernel
theorem dX10_mayMatch_10 : decode cX10_mayMatch 10 = .ok (.ifCond .ne 7, 3) := by decide +kernel
theorem dX10_mayMatch_13 : decode cX10_mayMatch 13 = .ok (.iconst 1, 1) := by decide +kernel
theorem dX10_mayMatch_14 : decode cX10_mayMatch 14 = .ok (.goto 4, 3) := by decide +kernel
theorem dX10_mayMatch_17 : decode cX10_mayMatch 17 = .ok (.iconst 0, 1) := by decide +kernel
theorem dX10_mayMatch_18 : decode cX10_mayMatch 18 = .ok (.ireturn, 1) := by decide +kernel
abbrev cX10_waysThrough : ByteArray := prog_1_method_63_code
def yX10_waysThrough : MethodName := ⟨RX10, "waysThrough", "(III)I"⟩
theorem dX10_waysThrough_0 : decode cX10_waysThrough 0 = .ok (.aload_n 0, 1) := by decide +kernel
theorem dX10_waysThrough_1 : decode cX10_waysThrough 1 = .ok (.getfield 13, 3) := by decide +kernel
theorem dX10_waysThrough_4 : decode cX10_waysThrough 4 = .ok (.iload_n 3, 1) := by decide +kernel
theorem dX10_waysThrough_5 : decode cX10_waysThrough 5 = .ok (.iconst 1, 1) := by decide +kernel
theorem dX10_waysThrough_6 : decode cX10_waysThrough 6 = .ok (.iload_n 2, 1) := by decide +kernel
theorem dX10_waysThrough_7 : decode cX10_waysThrough 7 = .ok (.ishl, 1) := by decide +kernel
theorem dX10_waysThrough_8 : decode cX10_waysThrough 8 = .ok (.ior, 1) := by decide +kernel
theorem dX10_waysThrough_9 : decode cX10_waysThrough 9 = .ok (.iaload, 1) := by decide +kernel
theorem dX10_waysThrough_10 : decode cX10_waysThrough 10 = .ok (.istore 4, 2) := by decide +kernel
theorem dX10_waysThrough_12 : decode cX10_waysThrough 12 = .ok (.ldc 204, 2) := by decide +kernel
theorem dX10_waysThrough_14 : decode cX10_waysThrough 14 = .ok (.aload_n 0, 1) := by decide +kernel
theorem dX10_waysThrough_15 : decode cX10_waysThrough 15 = .ok (.getfield 9, 3) := by decide +kernel
theorem dX10_waysThrough_18 : decode cX10_waysThrough 18 = .ok (.iload_n 1, 1) := by decide +kernel
theorem dX10_waysThrough_19 : decode cX10_waysThrough 19 = .ok (.bipush 7, 2) := by decide +kernel
theorem dX10_waysThrough_21 : decode cX10_waysThrough 21 = .ok (.imul, 1) := by decide +kernel
theorem dX10_waysThrough_22 : decode cX10_waysThrough 22 = .ok (.iload_n 2, 1) := by decide +kernel
theorem dX10_waysThrough_23 : decode cX10_waysThrough 23 = .ok (.iadd, 1) := by decide +kernel
theorem dX10_waysThrough_24 : decode cX10_waysThrough 24 = .ok (.iaload, 1) := by decide +kernel
theorem dX10_waysThrough_25 : decode cX10_waysThrough 25 = .ok (.iload 4, 2) := by decide +kernel
theorem dX10_waysThrough_27 : decode cX10_waysThrough 27 = .ok (.iadd, 1) := by decide +kernel
theorem dX10_waysThrough_28 : decode cX10_waysThrough 28 = .ok (.invokestatic 223, 3) := by decide +kernel
theorem dX10_waysThrough_31 : decode cX10_waysThrough 31 = .ok (.ireturn, 1) := by decide +kernel
abbrev cX10_measureLeastRests : ByteArray := prog_1_method_59_code
def yX10_measureLeastRests : MethodName := ⟨RX10, "measureLeastRests", "()V"⟩
theorem dX10_measureLeastRests_0 : decode cX10_measureLeastRests 0 = .ok (.iconst 1, 1) := by decide +kernel
theorem dX10_measureLeastRests_1 : decode cX10_measureLeastRests 1 = .ok (.aload_n 0, 1) := by decide +kernel
theorem dX10_measureLeastRests_2 : decode cX10_measureLeastRests 2 = .ok (.getfield 62, 3) := by decide +kernel
theorem dX10_measureLeastRests_5 : decode cX10_measureLeastRests 5 = .ok (.getfield 152, 3) := by decide +kernel
theorem dX10_measureLeastRests_8 : decode cX10_measureLeastRests 8 = .ok (.ishl, 1) := by decide +kernel
theorem dX10_measureLeastRests_9 : decode cX10_measureLeastRests 9 = .ok (.iconst 1, 1) := by decide +kernel
theorem dX10_measureLeastRests_10 : decode cX10_measureLeastRests 10 = .ok (.isub, 1) := by decide +kernel
theorem dX10_measureLeastRests_11 : decode cX10_measureLeastRests 11 = .ok (.istore_n 1, 1) := by decide +kernel
theorem dX10_measureLeastRests_12 : decode cX10_measureLeastRests 12 = .ok (.aload_n 0, 1) := by decide +kernel
theorem dX10_measureLeastRests_13 : decode cX10_measureLeastRests 13 = .ok (.getfield 13, 3) := by decide +kernel
theorem dX10_measureLeastRests_16 : decode cX10_measureLeastRests 16 = .ok (.iload_n 1, 1) := by decide +kernel
theorem dX10_measureLeastRests_17 : decode cX10_measureLeastRests 17 = .ok (.iconst 0, 1) := by decide +kernel
theorem dX10_measureLeastRests_18 : decode cX10_measureLeastRests 18 = .ok (.iastore, 1) := by decide +kernel
theorem dX10_measureLeastRests_19 : decode cX10_measureLeastRests 19 = .ok (.iload_n 1, 1) := by decide +kernel
theorem dX10_measureLeastRests_20 : decode cX10_measureLeastRests 20 = .ok (.iconst 1, 1) := by decide +kernel
theorem dX10_measureLeastRests_21 : decode cX10_measureLeastRests 21 = .ok (.isub, 1) := by decide +kernel
theorem dX10_measureLeastRests_22 : decode cX10_measureLeastRests 22 = .ok (.istore_n 2, 1) := by decide +kernel
theorem dX10_measureLeastRests_23 : decode cX10_measureLeastRests 23 = .ok (.iload_n 2, 1) := by decide +kernel
theorem dX10_measureLeastRests_24 : decode cX10_measureLeastRests 24 = .ok (.ifCond .lt 72, 3) := by decide +kernel
theorem dX10_measureLeastRests_27 : decode cX10_measureLeastRests 27 = .ok (.iload_n 2, 1) := by decide +kernel
theorem dX10_measureLeastRests_28 : decode cX10_measureLeastRests 28 = .ok (.invokestatic 351, 3) := by decide +kernel
theorem dX10_measureLeastRests_31 : decode cX10_measureLeastRests 31 = .ok (.istore_n 3, 1) := by decide +kernel
theorem dX10_measureLeastRests_32 : decode cX10_measureLeastRests 32 = .ok (.ldc 204, 2) := by decide +kernel
theorem dX10_measureLeastRests_34 : decode cX10_measureLeastRests 34 = .ok (.istore 4, 2) := by decide +kernel
theorem dX10_measureLeastRests_36 : decode cX10_measureLeastRests 36 = .ok (.iconst 0, 1) := by decide +kernel
theorem dX10_measureLeastRests_37 : decode cX10_measureLeastRests 37 = .ok (.istore 5, 2) := by decide +kernel
theorem dX10_measureLeastRests_39 : decode cX10_measureLeastRests 39 = .ok (.iload 5, 2) := by decide +kernel
theorem dX10_measureLeastRests_41 : decode cX10_measureLeastRests 41 = .ok (.aload_n 0, 1) := by decide +kernel
theorem dX10_measureLeastRests_42 : decode cX10_measureLeastRests 42 = .ok (.getfield 62, 3) := by decide +kernel
theorem dX10_measureLeastRests_45 : decode cX10_measureLeastRests 45 = .ok (.getfield 152, 3) := by decide +kernel
theorem dX10_measureLeastRests_48 : decode cX10_measureLeastRests 48 = .ok (.if_icmp .ge 34, 3) := by decide +kernel
theorem dX10_measureLeastRests_51 : decode cX10_measureLeastRests 51 = .ok (.iload_n 3, 1) := by decide +kernel
theorem dX10_measureLeastRests_52 : decode cX10_measureLeastRests 52 = .ok (.iload 5, 2) := by decide +kernel
theorem dX10_measureLeastRests_54 : decode cX10_measureLeastRests 54 = .ok (.iload_n 2, 1) := by decide +kernel
theorem dX10_measureLeastRests_55 : decode cX10_measureLeastRests 55 = .ok (.invokestatic 356, 3) := by decide +kernel
theorem dX10_measureLeastRests_58 : decode cX10_measureLeastRests 58 = .ok (.ifCond .eq 18, 3) := by decide +kernel
theorem dX10_measureLeastRests_61 : decode cX10_measureLeastRests 61 = .ok (.iload 4, 2) := by decide +kernel
theorem dX10_measureLeastRests_63 : decode cX10_measureLeastRests 63 = .ok (.aload_n 0, 1) := by decide +kernel
theorem dX10_measureLeastRests_64 : decode cX10_measureLeastRests 64 = .ok (.iload_n 3, 1) := by decide +kernel
theorem dX10_measureLeastRests_65 : decode cX10_measureLeastRests 65 = .ok (.iload 5, 2) := by decide +kernel
theorem dX10_measureLeastRests_67 : decode cX10_measureLeastRests 67 = .ok (.iload_n 2, 1) := by decide +kernel
theorem dX10_measureLeastRests_68 : decode cX10_measureLeastRests 68 = .ok (.invokevirtual 360, 3) := by decide +kernel
theorem dX10_measureLeastRests_71 : decode cX10_measureLeastRests 71 = .ok (.invokestatic 223, 3) := by decide +kernel
theorem dX10_measureLeastRests_74 : decode cX10_measureLeastRests 74 = .ok (.istore 4, 2) := by decide +kernel
theorem dX10_measureLeastRests_76 : decode cX10_measureLeastRests 76 = .ok (.iinc 5 1, 3) := by decide +kernel
theorem dX10_measureLeastRests_79 : decode cX10_measureLeastRests 79 = .ok (.goto (-40), 3) := by decide +kernel
theorem dX10_measureLeastRests_82 : decode cX10_measureLeastRests 82 = .ok (.aload_n 0, 1) := by decide +kernel
theorem dX10_measureLeastRests_83 : decode cX10_measureLeastRests 83 = .ok (.getfield 13, 3) := by decide +kernel
theorem dX10_measureLeastRests_86 : decode cX10_measureLeastRests 86 = .ok (.iload_n 2, 1) := by decide +kernel
theorem dX10_measureLeastRests_87 : decode cX10_measureLeastRests 87 = .ok (.iload 4, 2) := by decide +kernel
theorem dX10_measureLeastRests_89 : decode cX10_measureLeastRests 89 = .ok (.iastore, 1) := by decide +kernel
theorem dX10_measureLeastRests_90 : decode cX10_measureLeastRests 90 = .ok (.iinc 2 (-1), 3) := by decide +kernel
theorem dX10_measureLeastRests_93 : decode cX10_measureLeastRests 93 = .ok (.goto (-70), 3) := by decide +kernel
theorem dX10_measureLeastRests_96 : decode cX10_measureLeastRests 96 = .ok (.return_, 1) := by decide +kernel
abbrev cX10_firstBestSource : ByteArray := prog_1_method_61_code
def yX10_firstBestSource : MethodName := ⟨RX10, "firstBestSource", "(II)I"⟩
theorem dX10_firstBestSource_0 : decode cX10_firstBestSource 0 = .ok (.iconst 0, 1) := by decide +kernel
theorem dX10_firstBestSource_1 : decode cX10_firstBestSource 1 = .ok (.istore_n 3, 1) := by decide +kernel
theorem dX10_firstBestSource_2 : decode cX10_firstBestSource 2 = .ok (.iload_n 3, 1) := by decide +kernel
theorem dX10_firstBestSource_3 : decode cX10_firstBestSource 3 = .ok (.aload_n 0, 1) := by decide +kernel
theorem dX10_firstBestSource_4 : decode cX10_firstBestSource 4 = .ok (.getfield 62, 3) := by decide +kernel
theorem dX10_firstBestSource_7 : decode cX10_firstBestSource 7 = .ok (.getfield 152, 3) := by decide +kernel
theorem dX10_firstBestSource_10 : decode cX10_firstBestSource 10 = .ok (.if_icmp .ge 36, 3) := by decide +kernel
theorem dX10_firstBestSource_13 : decode cX10_firstBestSource 13 = .ok (.iload_n 1, 1) := by decide +kernel
theorem dX10_firstBestSource_14 : decode cX10_firstBestSource 14 = .ok (.iload_n 3, 1) := by decide +kernel
theorem dX10_firstBestSource_15 : decode cX10_firstBestSource 15 = .ok (.iload_n 2, 1) := by decide +kernel
theorem dX10_firstBestSource_16 : decode cX10_firstBestSource 16 = .ok (.invokestatic 356, 3) := by decide +kernel
theorem dX10_firstBestSource_19 : decode cX10_firstBestSource 19 = .ok (.ifCond .eq 21, 3) := by decide +kernel
theorem dX10_firstBestSource_22 : decode cX10_firstBestSource 22 = .ok (.aload_n 0, 1) := by decide +kernel
theorem dX10_firstBestSource_23 : decode cX10_firstBestSource 23 = .ok (.iload_n 1, 1) := by decide +kernel
theorem dX10_firstBestSource_24 : decode cX10_firstBestSource 24 = .ok (.iload_n 3, 1) := by decide +kernel
theorem dX10_firstBestSource_25 : decode cX10_firstBestSource 25 = .ok (.iload_n 2, 1) := by decide +kernel
theorem dX10_firstBestSource_26 : decode cX10_firstBestSource 26 = .ok (.invokevirtual 360, 3) := by decide +kernel
theorem dX10_firstBestSource_29 : decode cX10_firstBestSource 29 = .ok (.aload_n 0, 1) := by decide +kernel
theorem dX10_firstBestSource_30 : decode cX10_firstBestSource 30 = .ok (.getfield 13, 3) := by decide +kernel
theorem dX10_firstBestSource_33 : decode cX10_firstBestSource 33 = .ok (.iload_n 2, 1) := by decide +kernel
theorem dX10_firstBestSource_34 : decode cX10_firstBestSource 34 = .ok (.iaload, 1) := by decide +kernel
theorem dX10_firstBestSource_35 : decode cX10_firstBestSource 35 = .ok (.if_icmp .ne 5, 3) := by decide +kernel
theorem dX10_firstBestSource_38 : decode cX10_firstBestSource 38 = .ok (.iload_n 3, 1) := by decide +kernel
theorem dX10_firstBestSource_39 : decode cX10_firstBestSource 39 = .ok (.ireturn, 1) := by decide +kernel
theorem dX10_firstBestSource_40 : decode cX10_firstBestSource 40 = .ok (.iinc 3 1, 3) := by decide +kernel
theorem dX10_firstBestSource_43 : decode cX10_firstBestSource 43 = .ok (.goto (-41), 3) := by decide +kernel
theorem dX10_firstBestSource_46 : decode cX10_firstBestSource 46 = .ok (.iconst 0, 1) := by decide +kernel
theorem dX10_firstBestSource_47 : decode cX10_firstBestSource 47 = .ok (.ireturn, 1) := by decide +kernel
abbrev cX10_matchedSource : ByteArray := prog_1_method_60_code
def yX10_matchedSource : MethodName := ⟨RX10, "matchedSource", "(I)I"⟩
theorem dX10_matchedSource_0 : decode cX10_matchedSource 0 = .ok (.iconst 0, 1) := by decide +kernel
theorem dX10_matchedSource_1 : decode cX10_matchedSource 1 = .ok (.istore_n 2, 1) := by decide +kernel
theorem dX10_matchedSource_2 : decode cX10_matchedSource 2 = .ok (.iconst 0, 1) := by decide +kernel
theorem dX10_matchedSource_3 : decode cX10_matchedSource 3 = .ok (.istore_n 3, 1) := by decide +kernel
theorem dX10_matchedSource_4 : decode cX10_matchedSource 4 = .ok (.iload_n 3, 1) := by decide +kernel
theorem dX10_matchedSource_5 : decode cX10_matchedSource 5 = .ok (.aload_n 0, 1) := by decide +kernel
theorem dX10_matchedSource_6 : decode cX10_matchedSource 6 = .ok (.getfield 62, 3) := by decide +kernel
theorem dX10_matchedSource_9 : decode cX10_matchedSource 9 = .ok (.getfield 152, 3) := by decide +kernel
theorem dX10_matchedSource_12 : decode cX10_matchedSource 12 = .ok (.if_icmp .ge 32, 3) := by decide +kernel
theorem dX10_matchedSource_15 : decode cX10_matchedSource 15 = .ok (.aload_n 0, 1) := by decide +kernel
theorem dX10_matchedSource_16 : decode cX10_matchedSource 16 = .ok (.iload_n 3, 1) := by decide +kernel
theorem dX10_matchedSource_17 : decode cX10_matchedSource 17 = .ok (.iload_n 2, 1) := by decide +kernel
theorem dX10_matchedSource_18 : decode cX10_matchedSource 18 = .ok (.invokevirtual 364, 3) := by decide +kernel
theorem dX10_matchedSource_21 : decode cX10_matchedSource 21 = .ok (.istore 4, 2) := by decide +kernel
theorem dX10_matchedSource_23 : decode cX10_matchedSource 23 = .ok (.iload_n 3, 1) := by decide +kernel
theorem dX10_matchedSource_24 : decode cX10_matchedSource 24 = .ok (.iload_n 1, 1) := by decide +kernel
theorem dX10_matchedSource_25 : decode cX10_matchedSource 25 = .ok (.if_icmp .ne 6, 3) := by decide +kernel
theorem dX10_matchedSource_28 : decode cX10_matchedSource 28 = .ok (.iload 4, 2) := by decide +kernel
theorem dX10_matchedSource_30 : decode cX10_matchedSource 30 = .ok (.ireturn, 1) := by decide +kernel
theorem dX10_matchedSource_31 : decode cX10_matchedSource 31 = .ok (.iload_n 2, 1) := by decide +kernel
theorem dX10_matchedSource_32 : decode cX10_matchedSource 32 = .ok (.iconst 1, 1) := by decide +kernel
theorem dX10_matchedSource_33 : decode cX10_matchedSource 33 = .ok (.iload 4, 2) := by decide +kernel
theorem dX10_matchedSource_35 : decode cX10_matchedSource 35 = .ok (.ishl, 1) := by decide +kernel
theorem dX10_matchedSource_36 : decode cX10_matchedSource 36 = .ok (.ior, 1) := by decide +kernel
theorem dX10_matchedSource_37 : decode cX10_matchedSource 37 = .ok (.istore_n 2, 1) := by decide +kernel
theorem dX10_matchedSource_38 : decode cX10_matchedSource 38 = .ok (.iinc 3 1, 3) := by decide +kernel
theorem dX10_matchedSource_41 : decode cX10_matchedSource 41 = .ok (.goto (-37), 3) := by decide +kernel
theorem dX10_matchedSource_44 : decode cX10_matchedSource 44 = .ok (.bipush (-4), 2) := by decide +kernel
theorem dX10_matchedSource_46 : decode cX10_matchedSource 46 = .ok (.ireturn, 1) := by decide +kernel
abbrev cX10_match : ByteArray := prog_1_method_22_code
def yX10_match : MethodName := ⟨RX10, "match", "(I)I"⟩
theorem dX10_match_0 : decode cX10_match 0 = .ok (.iload_n 1, 1) := by decide +kernel
theorem dX10_match_1 : decode cX10_match 1 = .ok (.iconst (-1), 1) := by decide +kernel
theorem dX10_match_2 : decode cX10_match 2 = .ok (.if_icmp .lt 14, 3) := by decide +kernel
theorem dX10_match_5 : decode cX10_match 5 = .ok (.iload_n 1, 1) := by decide +kernel
theorem dX10_match_6 : decode cX10_match 6 = .ok (.aload_n 0, 1) := by decide +kernel
theorem dX10_match_7 : decode cX10_match 7 = .ok (.getfield 62, 3) := by decide +kernel
theorem dX10_match_10 : decode cX10_match 10 = .ok (.getfield 152, 3) := by decide +kernel
theorem dX10_match_13 : decode cX10_match 13 = .ok (.if_icmp .lt 5, 3) := by decide +kernel
theorem dX10_match_16 : decode cX10_match 16 = .ok (.iconst (-1), 1) := by decide +kernel
theorem dX10_match_17 : decode cX10_match 17 = .ok (.ireturn, 1) := by decide +kernel
theorem dX10_match_18 : decode cX10_match 18 = .ok (.aload_n 0, 1) := by decide +kernel
theorem dX10_match_19 : decode cX10_match 19 = .ok (.getfield 62, 3) := by decide +kernel
theorem dX10_match_22 : decode cX10_match 22 = .ok (.getfield 152, 3) := by decide +kernel
theorem dX10_match_25 : decode cX10_match 25 = .ok (.iconst 2, 1) := by decide +kernel
theorem dX10_match_26 : decode cX10_match 26 = .ok (.if_icmp .ge 6, 3) := by decide +kernel
theorem dX10_match_29 : decode cX10_match 29 = .ok (.bipush (-4), 2) := by decide +kernel
theorem dX10_match_31 : decode cX10_match 31 = .ok (.ireturn, 1) := by decide +kernel
theorem dX10_match_32 : decode cX10_match 32 = .ok (.aload_n 0, 1) := by decide +kernel
theorem dX10_match_33 : decode cX10_match 33 = .ok (.invokevirtual 211, 3) := by decide +kernel
theorem dX10_match_36 : decode cX10_match 36 = .ok (.aload_n 0, 1) := by decide +kernel
theorem dX10_match_37 : decode cX10_match 37 = .ok (.invokevirtual 214, 3) := by decide +kernel
theorem dX10_match_40 : decode cX10_match 40 = .ok (.iload_n 1, 1) := by decide +kernel
theorem dX10_match_41 : decode cX10_match 41 = .ok (.iconst (-1), 1) := by decide +kernel
theorem dX10_match_42 : decode cX10_match 42 = .ok (.if_icmp .ne 12, 3) := by decide +kernel
theorem dX10_match_45 : decode cX10_match 45 = .ok (.aload_n 0, 1) := by decide +kernel
theorem dX10_match_46 : decode cX10_match 46 = .ok (.getfield 13, 3) := by decide +kernel
theorem dX10_match_49 : decode cX10_match 49 = .ok (.iconst 0, 1) := by decide +kernel
theorem dX10_match_50 : decode cX10_match 50 = .ok (.iaload, 1) := by decide +kernel
theorem dX10_match_51 : decode cX10_match 51 = .ok (.goto 8, 3) := by decide +kernel
theorem dX10_match_54 : decode cX10_match 54 = .ok (.aload_n 0, 1) := by decide +kernel
theorem dX10_match_55 : decode cX10_match 55 = .ok (.iload_n 1, 1) := by decide +kernel
theorem dX10_match_56 : decode cX10_match 56 = .ok (.invokevirtual 217, 3) := by decide +kernel
theorem dX10_match_59 : decode cX10_match 59 = .ok (.ireturn, 1) := by decide +kernel
abbrev cX10_feed : ByteArray := prog_1_method_23_code
def yX10_feed : MethodName := ⟨RX10, "feed", "(I)I"⟩
theorem dX10_feed_0 : decode cX10_feed 0 = .ok (.iload_n 1, 1) := by decide +kernel
theorem dX10_feed_1 : decode cX10_feed 1 = .ok (.invokestatic 183, 3) := by decide +kernel
theorem dX10_feed_4 : decode cX10_feed 4 = .ok (.ifCond .ne 5, 3) := by decide +kernel
theorem dX10_feed_7 : decode cX10_feed 7 = .ok (.iconst (-1), 1) := by decide +kernel
theorem dX10_feed_8 : decode cX10_feed 8 = .ok (.ireturn, 1) := by decide +kernel
theorem dX10_feed_9 : decode cX10_feed 9 = .ok (.aload_n 0, 1) := by decide +kernel
theorem dX10_feed_10 : decode cX10_feed 10 = .ok (.getfield 66, 3) := by decide +kernel
theorem dX10_feed_13 : decode cX10_feed 13 = .ok (.aload_n 0, 1) := by decide +kernel
theorem dX10_feed_14 : decode cX10_feed 14 = .ok (.getfield 62, 3) := by decide +kernel
theorem dX10_feed_17 : decode cX10_feed 17 = .ok (.invokevirtual 91, 3) := by decide +kernel
theorem dX10_feed_20 : decode cX10_feed 20 = .ok (.aload_n 0, 1) := by decide +kernel
theorem dX10_feed_21 : decode cX10_feed 21 = .ok (.getfield 66, 3) := by decide +kernel
theorem dX10_feed_24 : decode cX10_feed 24 = .ok (.iload_n 1, 1) := by decide +kernel
theorem dX10_feed_25 : decode cX10_feed 25 = .ok (.invokevirtual 175, 3) := by decide +kernel
theorem dX10_feed_28 : decode cX10_feed 28 = .ok (.aload_n 0, 1) := by decide +kernel
theorem dX10_feed_29 : decode cX10_feed 29 = .ok (.getfield 66, 3) := by decide +kernel
theorem dX10_feed_32 : decode cX10_feed 32 = .ok (.invokevirtual 220, 3) := by decide +kernel
theorem dX10_feed_35 : decode cX10_feed 35 = .ok (.istore_n 2, 1) := by decide +kernel
theorem dX10_feed_36 : decode cX10_feed 36 = .ok (.bipush (-4), 2) := by decide +kernel
theorem dX10_feed_38 : decode cX10_feed 38 = .ok (.istore_n 3, 1) := by decide +kernel
theorem dX10_feed_39 : decode cX10_feed 39 = .ok (.iconst 0, 1) := by decide +kernel
theorem dX10_feed_40 : decode cX10_feed 40 = .ok (.istore 4, 2) := by decide +kernel
theorem dX10_feed_42 : decode cX10_feed 42 = .ok (.iload 4, 2) := by decide +kernel
theorem dX10_feed_44 : decode cX10_feed 44 = .ok (.aload_n 0, 1) := by decide +kernel
theorem dX10_feed_45 : decode cX10_feed 45 = .ok (.getfield 62, 3) := by decide +kernel
theorem dX10_feed_48 : decode cX10_feed 48 = .ok (.getfield 152, 3) := by decide +kernel
theorem dX10_feed_51 : decode cX10_feed 51 = .ok (.if_icmp .ge 77, 3) := by decide +kernel
theorem dX10_feed_54 : decode cX10_feed 54 = .ok (.aload_n 0, 1) := by decide +kernel
theorem dX10_feed_55 : decode cX10_feed 55 = .ok (.getfield 66, 3) := by decide +kernel
theorem dX10_feed_58 : decode cX10_feed 58 = .ok (.aload_n 0, 1) := by decide +kernel
theorem dX10_feed_59 : decode cX10_feed 59 = .ok (.getfield 62, 3) := by decide +kernel
theorem dX10_feed_62 : decode cX10_feed 62 = .ok (.invokevirtual 91, 3) := by decide +kernel
theorem dX10_feed_65 : decode cX10_feed 65 = .ok (.aload_n 0, 1) := by decide +kernel
theorem dX10_feed_66 : decode cX10_feed 66 = .ok (.getfield 66, 3) := by decide +kernel
theorem dX10_feed_69 : decode cX10_feed 69 = .ok (.getfield 124, 3) := by decide +kernel
theorem dX10_feed_72 : decode cX10_feed 72 = .ok (.iload 4, 2) := by decide +kernel
theorem dX10_feed_74 : decode cX10_feed 74 = .ok (.bipush 99, 2) := by decide +kernel
theorem dX10_feed_76 : decode cX10_feed 76 = .ok (.aload_n 0, 1) := by decide +kernel
theorem dX10_feed_77 : decode cX10_feed 77 = .ok (.getfield 66, 3) := by decide +kernel
theorem dX10_feed_80 : decode cX10_feed 80 = .ok (.getfield 124, 3) := by decide +kernel
theorem dX10_feed_83 : decode cX10_feed 83 = .ok (.iload 4, 2) := by decide +kernel
theorem dX10_feed_85 : decode cX10_feed 85 = .ok (.iaload, 1) := by decide +kernel
theorem dX10_feed_86 : decode cX10_feed 86 = .ok (.bipush 20, 2) := by decide +kernel
theorem dX10_feed_88 : decode cX10_feed 88 = .ok (.iadd, 1) := by decide +kernel
theorem dX10_feed_89 : decode cX10_feed 89 = .ok (.invokestatic 223, 3) := by decide +kernel
theorem dX10_feed_92 : decode cX10_feed 92 = .ok (.iastore, 1) := by decide +kernel
theorem dX10_feed_93 : decode cX10_feed 93 = .ok (.aload_n 0, 1) := by decide +kernel
theorem dX10_feed_94 : decode cX10_feed 94 = .ok (.getfield 66, 3) := by decide +kernel
theorem dX10_feed_97 : decode cX10_feed 97 = .ok (.iload_n 1, 1) := by decide +kernel
theorem dX10_feed_98 : decode cX10_feed 98 = .ok (.invokevirtual 175, 3) := by decide +kernel
theorem dX10_feed_101 : decode cX10_feed 101 = .ok (.aload_n 0, 1) := by decide +kernel
theorem dX10_feed_102 : decode cX10_feed 102 = .ok (.getfield 66, 3) := by decide +kernel
theorem dX10_feed_105 : decode cX10_feed 105 = .ok (.invokevirtual 220, 3) := by decide +kernel
theorem dX10_feed_108 : decode cX10_feed 108 = .ok (.istore 5, 2) := by decide +kernel
theorem dX10_feed_110 : decode cX10_feed 110 = .ok (.iload 5, 2) := by decide +kernel
theorem dX10_feed_112 : decode cX10_feed 112 = .ok (.iload_n 2, 1) := by decide +kernel
theorem dX10_feed_113 : decode cX10_feed 113 = .ok (.if_icmp .ge 9, 3) := by decide +kernel
theorem dX10_feed_116 : decode cX10_feed 116 = .ok (.iload 5, 2) := by decide +kernel
theorem dX10_feed_118 : decode cX10_feed 118 = .ok (.istore_n 2, 1) := by decide +kernel
theorem dX10_feed_119 : decode cX10_feed 119 = .ok (.iload 4, 2) := by decide +kernel
theorem dX10_feed_121 : decode cX10_feed 121 = .ok (.istore_n 3, 1) := by decide +kernel
theorem dX10_feed_122 : decode cX10_feed 122 = .ok (.iinc 4 1, 3) := by decide +kernel
theorem dX10_feed_125 : decode cX10_feed 125 = .ok (.goto (-83), 3) := by decide +kernel
theorem dX10_feed_128 : decode cX10_feed 128 = .ok (.iload_n 3, 1) := by decide +kernel
theorem dX10_feed_129 : decode cX10_feed 129 = .ok (.ireturn, 1) := by decide +kernel
abbrev cX10_shade : ByteArray := prog_1_method_24_code
def yX10_shade : MethodName := ⟨RX10, "shade", "(I)I"⟩
theorem dX10_shade_0 : decode cX10_shade 0 = .ok (.iload_n 1, 1) := by decide +kernel
theorem dX10_shade_1 : decode cX10_shade 1 = .ok (.ifCond .lt 9, 3) := by decide +kernel
theorem dX10_shade_4 : decode cX10_shade 4 = .ok (.iload_n 1, 1) := by decide +kernel
theorem dX10_shade_5 : decode cX10_shade 5 = .ok (.bipush 6, 2) := by decide +kernel
theorem dX10_shade_7 : decode cX10_shade 7 = .ok (.if_icmp .le 5, 3) := by decide +kernel
theorem dX10_shade_10 : decode cX10_shade 10 = .ok (.iconst (-1), 1) := by decide +kernel
theorem dX10_shade_11 : decode cX10_shade 11 = .ok (.ireturn, 1) := by decide +kernel
theorem dX10_shade_12 : decode cX10_shade 12 = .ok (.iconst 0, 1) := by decide +kernel
theorem dX10_shade_13 : decode cX10_shade 13 = .ok (.istore_n 2, 1) := by decide +kernel
theorem dX10_shade_14 : decode cX10_shade 14 = .ok (.iconst 0, 1) := by decide +kernel
theorem dX10_shade_15 : decode cX10_shade 15 = .ok (.istore_n 3, 1) := by decide +kernel
theorem dX10_shade_16 : decode cX10_shade 16 = .ok (.iload_n 3, 1) := by decide +kernel
theorem dX10_shade_17 : decode cX10_shade 17 = .ok (.aload_n 0, 1) := by decide +kernel
theorem dX10_shade_18 : decode cX10_shade 18 = .ok (.getfield 62, 3) := by decide +kernel
theorem dX10_shade_21 : decode cX10_shade 21 = .ok (.getfield 152, 3) := by decide +kernel
theorem dX10_shade_24 : decode cX10_shade 24 = .ok (.if_icmp .ge 38, 3) := by decide +kernel
theorem dX10_shade_27 : decode cX10_shade 27 = .ok (.aload_n 0, 1) := by decide +kernel
theorem dX10_shade_28 : decode cX10_shade 28 = .ok (.getfield 62, 3) := by decide +kernel
theorem dX10_shade_31 : decode cX10_shade 31 = .ok (.getfield 118, 3) := by decide +kernel
theorem dX10_shade_34 : decode cX10_shade 34 = .ok (.iload_n 3, 1) := by decide +kernel
theorem dX10_shade_35 : decode cX10_shade 35 = .ok (.iaload, 1) := by decide +kernel
theorem dX10_shade_36 : decode cX10_shade 36 = .ok (.aload_n 0, 1) := by decide +kernel
theorem dX10_shade_37 : decode cX10_shade 37 = .ok (.getfield 62, 3) := by decide +kernel
theorem dX10_shade_40 : decode cX10_shade 40 = .ok (.getfield 186, 3) := by decide +kernel
theorem dX10_shade_43 : decode cX10_shade 43 = .ok (.invokestatic 228, 3) := by decide +kernel
theorem dX10_shade_46 : decode cX10_shade 46 = .ok (.iload_n 1, 1) := by decide +kernel
theorem dX10_shade_47 : decode cX10_shade 47 = .ok (.if_icmp .gt 9, 3) := by decide +kernel
theorem dX10_shade_50 : decode cX10_shade 50 = .ok (.iload_n 2, 1) := by decide +kernel
theorem dX10_shade_51 : decode cX10_shade 51 = .ok (.iconst 1, 1) := by decide +kernel
theorem dX10_shade_52 : decode cX10_shade 52 = .ok (.iload_n 3, 1) := by decide +kernel
theorem dX10_shade_53 : decode cX10_shade 53 = .ok (.ishl, 1) := by decide +kernel
theorem dX10_shade_54 : decode cX10_shade 54 = .ok (.ior, 1) := by decide +kernel
theorem dX10_shade_55 : decode cX10_shade 55 = .ok (.istore_n 2, 1) := by decide +kernel
theorem dX10_shade_56 : decode cX10_shade 56 = .ok (.iinc 3 1, 3) := by decide +kernel
theorem dX10_shade_59 : decode cX10_shade 59 = .ok (.goto (-43), 3) := by decide +kernel
theorem dX10_shade_62 : decode cX10_shade 62 = .ok (.iload_n 2, 1) := by decide +kernel
theorem dX10_shade_63 : decode cX10_shade 63 = .ok (.ireturn, 1) := by decide +kernel
abbrev cX10_frontier : ByteArray := prog_1_method_64_code
def yX10_frontier : MethodName := ⟨RX10, "frontier", "()I"⟩
theorem dX10_frontier_0 : decode cX10_frontier 0 = .ok (.iconst 0, 1) := by decide +kernel
theorem dX10_frontier_1 : decode cX10_frontier 1 = .ok (.istore_n 1, 1) := by decide +kernel
theorem dX10_frontier_2 : decode cX10_frontier 2 = .ok (.iconst 0, 1) := by decide +kernel
theorem dX10_frontier_3 : decode cX10_frontier 3 = .ok (.istore_n 2, 1) := by decide +kernel
theorem dX10_frontier_4 : decode cX10_frontier 4 = .ok (.iload_n 2, 1) := by decide +kernel
theorem dX10_frontier_5 : decode cX10_frontier 5 = .ok (.aload_n 0, 1) := by decide +kernel
theorem dX10_frontier_6 : decode cX10_frontier 6 = .ok (.getfield 62, 3) := by decide +kernel
theorem dX10_frontier_9 : decode cX10_frontier 9 = .ok (.getfield 152, 3) := by decide +kernel
theorem dX10_frontier_12 : decode cX10_frontier 12 = .ok (.if_icmp .ge 111, 3) := by decide +kernel
theorem dX10_frontier_15 : decode cX10_frontier 15 = .ok (.iload_n 2, 1) := by decide +kernel
theorem dX10_frontier_16 : decode cX10_frontier 16 = .ok (.iconst 1, 1) := by decide +kernel
theorem dX10_frontier_17 : decode cX10_frontier 17 = .ok (.iadd, 1) := by decide +kernel
theorem dX10_frontier_18 : decode cX10_frontier 18 = .ok (.istore_n 3, 1) := by decide +kernel
theorem dX10_frontier_19 : decode cX10_frontier 19 = .ok (.iload_n 3, 1) := by decide +kernel
theorem dX10_frontier_20 : decode cX10_frontier 20 = .ok (.aload_n 0, 1) := by decide +kernel
theorem dX10_frontier_21 : decode cX10_frontier 21 = .ok (.getfield 62, 3) := by decide +kernel
theorem dX10_frontier_24 : decode cX10_frontier 24 = .ok (.getfield 152, 3) := by decide +kernel
theorem dX10_frontier_27 : decode cX10_frontier 27 = .ok (.if_icmp .ge 90, 3) := by decide +kernel
theorem dX10_frontier_30 : decode cX10_frontier 30 = .ok (.aload_n 0, 1) := by decide +kernel
theorem dX10_frontier_31 : decode cX10_frontier 31 = .ok (.getfield 62, 3) := by decide +kernel
theorem dX10_frontier_34 : decode cX10_frontier 34 = .ok (.getfield 118, 3) := by decide +kernel
theorem dX10_frontier_37 : decode cX10_frontier 37 = .ok (.iload_n 2, 1) := by decide +kernel
theorem dX10_frontier_38 : decode cX10_frontier 38 = .ok (.iaload, 1) := by decide +kernel
theorem dX10_frontier_39 : decode cX10_frontier 39 = .ok (.aload_n 0, 1) := by decide +kernel
theorem dX10_frontier_40 : decode cX10_frontier 40 = .ok (.getfield 62, 3) := by decide +kernel
theorem dX10_frontier_43 : decode cX10_frontier 43 = .ok (.getfield 118, 3) := by decide +kernel
theorem dX10_frontier_46 : decode cX10_frontier 46 = .ok (.iload_n 3, 1) := by decide +kernel
theorem dX10_frontier_47 : decode cX10_frontier 47 = .ok (.iaload, 1) := by decide +kernel
theorem dX10_frontier_48 : decode cX10_frontier 48 = .ok (.invokestatic 228, 3) := by decide +kernel
theorem dX10_frontier_51 : decode cX10_frontier 51 = .ok (.istore 4, 2) := by decide +kernel
theorem dX10_frontier_53 : decode cX10_frontier 53 = .ok (.aload_n 0, 1) := by decide +kernel
theorem dX10_frontier_54 : decode cX10_frontier 54 = .ok (.getfield 62, 3) := by decide +kernel
theorem dX10_frontier_57 : decode cX10_frontier 57 = .ok (.getfield 118, 3) := by decide +kernel
theorem dX10_frontier_60 : decode cX10_frontier 60 = .ok (.iload_n 2, 1) := by decide +kernel
theorem dX10_frontier_61 : decode cX10_frontier 61 = .ok (.iaload, 1) := by decide +kernel
theorem dX10_frontier_62 : decode cX10_frontier 62 = .ok (.aload_n 0, 1) := by decide +kernel
theorem dX10_frontier_63 : decode cX10_frontier 63 = .ok (.getfield 62, 3) := by decide +kernel
theorem dX10_frontier_66 : decode cX10_frontier 66 = .ok (.getfield 186, 3) := by decide +kernel
theorem dX10_frontier_69 : decode cX10_frontier 69 = .ok (.invokestatic 228, 3) := by decide +kernel
theorem dX10_frontier_72 : decode cX10_frontier 72 = .ok (.aload_n 0, 1) := by decide +kernel
theorem dX10_frontier_73 : decode cX10_frontier 73 = .ok (.getfield 62, 3) := by decide +kernel
theorem dX10_frontier_76 : decode cX10_frontier 76 = .ok (.getfield 186, 3) := by decide +kernel
theorem dX10_frontier_79 : decode cX10_frontier 79 = .ok (.aload_n 0, 1) := by decide +kernel
theorem dX10_frontier_80 : decode cX10_frontier 80 = .ok (.getfield 62, 3) := by decide +kernel
theorem dX10_frontier_83 : decode cX10_frontier 83 = .ok (.getfield 118, 3) := by decide +kernel
theorem dX10_frontier_86 : decode cX10_frontier 86 = .ok (.iload_n 3, 1) := by decide +kernel
theorem dX10_frontier_87 : decode cX10_frontier 87 = .ok (.iaload, 1) := by decide +kernel
theorem dX10_frontier_88 : decode cX10_frontier 88 = .ok (.invokestatic 228, 3) := by decide +kernel
theorem dX10_frontier_91 : decode cX10_frontier 91 = .ok (.iadd, 1) := by decide +kernel
theorem dX10_frontier_92 : decode cX10_frontier 92 = .ok (.istore 5, 2) := by decide +kernel
theorem dX10_frontier_94 : decode cX10_frontier 94 = .ok (.iload 4, 2) := by decide +kernel
theorem dX10_frontier_96 : decode cX10_frontier 96 = .ok (.bipush 6, 2) := by decide +kernel
theorem dX10_frontier_98 : decode cX10_frontier 98 = .ok (.if_icmp .eq 13, 3) := by decide +kernel
theorem dX10_frontier_101 : decode cX10_frontier 101 = .ok (.iload 5, 2) := by decide +kernel
theorem dX10_frontier_103 : decode cX10_frontier 103 = .ok (.iload 4, 2) := by decide +kernel
theorem dX10_frontier_105 : decode cX10_frontier 105 = .ok (.if_icmp .ne 6, 3) := by decide +kernel
theorem dX10_frontier_108 : decode cX10_frontier 108 = .ok (.iinc 1 1, 3) := by decide +kernel
theorem dX10_frontier_111 : decode cX10_frontier 111 = .ok (.iinc 3 1, 3) := by decide +kernel
theorem dX10_frontier_114 : decode cX10_frontier 114 = .ok (.goto (-95), 3) := by decide +kernel
theorem dX10_frontier_117 : decode cX10_frontier 117 = .ok (.iinc 2 1, 3) := by decide +kernel
theorem dX10_frontier_120 : decode cX10_frontier 120 = .ok (.goto (-116), 3) := by decide +kernel
theorem dX10_frontier_123 : decode cX10_frontier 123 = .ok (.iload_n 1, 1) := by decide +kernel
theorem dX10_frontier_124 : decode cX10_frontier 124 = .ok (.ireturn, 1) := by decide +kernel
abbrev cX10_longestChain : ByteArray := prog_1_method_65_code
def yX10_longestChain : MethodName := ⟨RX10, "longestChain", "()I"⟩
theorem dX10_longestChain_0 : decode cX10_longestChain 0 = .ok (.iconst 0, 1) := by decide +kernel
theorem dX10_longestChain_1 : decode cX10_longestChain 1 = .ok (.istore_n 1, 1) := by decide +kernel
theorem dX10_longestChain_2 : decode cX10_longestChain 2 = .ok (.iconst 0, 1) := by decide +kernel
theorem dX10_longestChain_3 : decode cX10_longestChain 3 = .ok (.istore_n 2, 1) := by decide +kernel
theorem dX10_longestChain_4 : decode cX10_longestChain 4 = .ok (.iload_n 2, 1) := by decide +kernel
theorem dX10_longestChain_5 : decode cX10_longestChain 5 = .ok (.aload_n 0, 1) := by decide +kernel
theorem dX10_longestChain_6 : decode cX10_longestChain 6 = .ok (.getfield 62, 3) := by decide +kernel
theorem dX10_longestChain_9 : decode cX10_longestChain 9 = .ok (.getfield 152, 3) := by decide +kernel
theorem dX10_longestChain_12 : decode cX10_longestChain 12 = .ok (.if_icmp .ge 22, 3) := by decide +kernel
theorem dX10_longestChain_15 : decode cX10_longestChain 15 = .ok (.iload_n 1, 1) := by decide +kernel
theorem dX10_longestChain_16 : decode cX10_longestChain 16 = .ok (.aload_n 0, 1) := by decide +kernel
theorem dX10_longestChain_17 : decode cX10_longestChain 17 = .ok (.getfield 62, 3) := by decide +kernel
theorem dX10_longestChain_20 : decode cX10_longestChain 20 = .ok (.iload_n 2, 1) := by decide +kernel
theorem dX10_longestChain_21 : decode cX10_longestChain 21 = .ok (.invokevirtual 240, 3) := by decide +kernel
theorem dX10_longestChain_24 : decode cX10_longestChain 24 = .ok (.invokestatic 275, 3) := by decide +kernel
theorem dX10_longestChain_27 : decode cX10_longestChain 27 = .ok (.istore_n 1, 1) := by decide +kernel
theorem dX10_longestChain_28 : decode cX10_longestChain 28 = .ok (.iinc 2 1, 3) := by decide +kernel
theorem dX10_longestChain_31 : decode cX10_longestChain 31 = .ok (.goto (-27), 3) := by decide +kernel
theorem dX10_longestChain_34 : decode cX10_longestChain 34 = .ok (.iload_n 1, 1) := by decide +kernel
theorem dX10_longestChain_35 : decode cX10_longestChain 35 = .ok (.ireturn, 1) := by decide +kernel
abbrev cX10_jam : ByteArray := prog_1_method_25_code
def yX10_jam : MethodName := ⟨RX10, "jam", "(I)I"⟩
theorem dX10_jam_0 : decode cX10_jam 0 = .ok (.iload_n 1, 1) := by decide +kernel
theorem dX10_jam_1 : decode cX10_jam 1 = .ok (.tableswitch 45 0 2 #[27, 35, 40], 27) := by decide +kernel
theorem dX10_jam_28 : decode cX10_jam 28 = .ok (.aload_n 0, 1) := by decide +kernel
theorem dX10_jam_29 : decode cX10_jam 29 = .ok (.getfield 62, 3) := by decide +kernel
theorem dX10_jam_32 : decode cX10_jam 32 = .ok (.invokevirtual 231, 3) := by decide +kernel
theorem dX10_jam_35 : decode cX10_jam 35 = .ok (.ireturn, 1) := by decide +kernel
theorem dX10_jam_36 : decode cX10_jam 36 = .ok (.aload_n 0, 1) := by decide +kernel
theorem dX10_jam_37 : decode cX10_jam 37 = .ok (.invokevirtual 234, 3) := by decide +kernel
theorem dX10_jam_40 : decode cX10_jam 40 = .ok (.ireturn, 1) := by decide +kernel
theorem dX10_jam_41 : decode cX10_jam 41 = .ok (.aload_n 0, 1) := by decide +kernel
theorem dX10_jam_42 : decode cX10_jam 42 = .ok (.invokevirtual 237, 3) := by decide +kernel
theorem dX10_jam_45 : decode cX10_jam 45 = .ok (.ireturn, 1) := by decide +kernel
theorem dX10_jam_46 : decode cX10_jam 46 = .ok (.iconst (-1), 1) := by decide +kernel
theorem dX10_jam_47 : decode cX10_jam 47 = .ok (.ireturn, 1) := by decide +kernel
abbrev cX10_chain : ByteArray := prog_1_method_26_code
def yX10_chain : MethodName := ⟨RX10, "chain", "(I)I"⟩
theorem dX10_chain_0 : decode cX10_chain 0 = .ok (.aload_n 0, 1) := by decide +kernel
theorem dX10_chain_1 : decode cX10_chain 1 = .ok (.getfield 62, 3) := by decide +kernel
theorem dX10_chain_4 : decode cX10_chain 4 = .ok (.iload_n 1, 1) := by decide +kernel
theorem dX10_chain_5 : decode cX10_chain 5 = .ok (.invokevirtual 108, 3) := by decide +kernel
theorem dX10_chain_8 : decode cX10_chain 8 = .ok (.ifCond .eq 14, 3) := by decide +kernel
theorem dX10_chain_11 : decode cX10_chain 11 = .ok (.aload_n 0, 1) := by decide +kernel
theorem dX10_chain_12 : decode cX10_chain 12 = .ok (.getfield 62, 3) := by decide +kernel
theorem dX10_chain_15 : decode cX10_chain 15 = .ok (.iload_n 1, 1) := by decide +kernel
theorem dX10_chain_16 : decode cX10_chain 16 = .ok (.invokevirtual 240, 3) := by decide +kernel
theorem dX10_chain_19 : decode cX10_chain 19 = .ok (.goto 4, 3) := by decide +kernel
theorem dX10_chain_22 : decode cX10_chain 22 = .ok (.iconst (-1), 1) := by decide +kernel
theorem dX10_chain_23 : decode cX10_chain 23 = .ok (.ireturn, 1) := by decide +kernel
abbrev cX10_isSeenSo : ByteArray := prog_1_method_66_code
def yX10_isSeenSo : MethodName := ⟨RX10, "isSeenSo", "(LChairOnTheRoad$Shelf;II)Z"⟩
theorem dX10_isSeenSo_0 : decode cX10_isSeenSo 0 = .ok (.aload_n 0, 1) := by decide +kernel
theorem dX10_isSeenSo_1 : decode cX10_isSeenSo 1 = .ok (.getfield 66, 3) := by decide +kernel
theorem dX10_isSeenSo_4 : decode cX10_isSeenSo 4 = .ok (.aload_n 0, 1) := by decide +kernel
theorem dX10_isSeenSo_5 : decode cX10_isSeenSo 5 = .ok (.getfield 62, 3) := by decide +kernel
theorem dX10_isSeenSo_8 : decode cX10_isSeenSo 8 = .ok (.invokevirtual 91, 3) := by decide +kernel
theorem dX10_isSeenSo_11 : decode cX10_isSeenSo 11 = .ok (.aload_n 0, 1) := by decide +kernel
theorem dX10_isSeenSo_12 : decode cX10_isSeenSo 12 = .ok (.getfield 66, 3) := by decide +kernel
theorem dX10_isSeenSo_15 : decode cX10_isSeenSo 15 = .ok (.iload_n 2, 1) := by decide +kernel
theorem dX10_isSeenSo_16 : decode cX10_isSeenSo 16 = .ok (.putfield 208, 3) := by decide +kernel
theorem dX10_isSeenSo_19 : decode cX10_isSeenSo 19 = .ok (.aload_n 0, 1) := by decide +kernel
theorem dX10_isSeenSo_20 : decode cX10_isSeenSo 20 = .ok (.getfield 66, 3) := by decide +kernel
theorem dX10_isSeenSo_23 : decode cX10_isSeenSo 23 = .ok (.iload_n 3, 1) := by decide +kernel
theorem dX10_isSeenSo_24 : decode cX10_isSeenSo 24 = .ok (.putfield 285, 3) := by decide +kernel
theorem dX10_isSeenSo_27 : decode cX10_isSeenSo 27 = .ok (.iconst 0, 1) := by decide +kernel
theorem dX10_isSeenSo_28 : decode cX10_isSeenSo 28 = .ok (.istore 4, 2) := by decide +kernel
theorem dX10_isSeenSo_30 : decode cX10_isSeenSo 30 = .ok (.iload 4, 2) := by decide +kernel
theorem dX10_isSeenSo_32 : decode cX10_isSeenSo 32 = .ok (.aload_n 1, 1) := by decide +kernel
theorem dX10_isSeenSo_33 : decode cX10_isSeenSo 33 = .ok (.getfield 95, 3) := by decide +kernel
theorem dX10_isSeenSo_36 : decode cX10_isSeenSo 36 = .ok (.if_icmp .ge 44, 3) := by decide +kernel
theorem dX10_isSeenSo_39 : decode cX10_isSeenSo 39 = .ok (.aload_n 1, 1) := by decide +kernel
theorem dX10_isSeenSo_40 : decode cX10_isSeenSo 40 = .ok (.iload 4, 2) := by decide +kernel
theorem dX10_isSeenSo_42 : decode cX10_isSeenSo 42 = .ok (.invokevirtual 367, 3) := by decide +kernel
theorem dX10_isSeenSo_45 : decode cX10_isSeenSo 45 = .ok (.ifCond .ne 22, 3) := by decide +kernel
theorem dX10_isSeenSo_48 : decode cX10_isSeenSo 48 = .ok (.aload_n 1, 1) := by decide +kernel
theorem dX10_isSeenSo_49 : decode cX10_isSeenSo 49 = .ok (.getfield 102, 3) := by decide +kernel
theorem dX10_isSeenSo_52 : decode cX10_isSeenSo 52 = .ok (.iload 4, 2) := by decide +kernel
theorem dX10_isSeenSo_54 : decode cX10_isSeenSo 54 = .ok (.iaload, 1) := by decide +kernel
theorem dX10_isSeenSo_55 : decode cX10_isSeenSo 55 = .ok (.aload_n 0, 1) := by decide +kernel
theorem dX10_isSeenSo_56 : decode cX10_isSeenSo 56 = .ok (.getfield 66, 3) := by decide +kernel
theorem dX10_isSeenSo_59 : decode cX10_isSeenSo 59 = .ok (.getfield 186, 3) := by decide +kernel
theorem dX10_isSeenSo_62 : decode cX10_isSeenSo 62 = .ok (.if_icmp .eq 5, 3) := by decide +kernel
theorem dX10_isSeenSo_65 : decode cX10_isSeenSo 65 = .ok (.iconst 0, 1) := by decide +kernel
theorem dX10_isSeenSo_66 : decode cX10_isSeenSo 66 = .ok (.ireturn, 1) := by decide +kernel
theorem dX10_isSeenSo_67 : decode cX10_isSeenSo 67 = .ok (.aload_n 0, 1) := by decide +kernel
theorem dX10_isSeenSo_68 : decode cX10_isSeenSo 68 = .ok (.getfield 66, 3) := by decide +kernel
theorem dX10_isSeenSo_71 : decode cX10_isSeenSo 71 = .ok (.invokevirtual 195, 3) := by decide +kernel
theorem dX10_isSeenSo_74 : decode cX10_isSeenSo 74 = .ok (.iinc 4 1, 3) := by decide +kernel
theorem dX10_isSeenSo_77 : decode cX10_isSeenSo 77 = .ok (.goto (-47), 3) := by decide +kernel
theorem dX10_isSeenSo_80 : decode cX10_isSeenSo 80 = .ok (.iconst 1, 1) := by decide +kernel
theorem dX10_isSeenSo_81 : decode cX10_isSeenSo 81 = .ok (.ireturn, 1) := by decide +kernel
abbrev cX10_whereSat : ByteArray := prog_1_method_27_code
def yX10_whereSat : MethodName := ⟨RX10, "whereSat", "(II)I"⟩
theorem dX10_whereSat_0 : decode cX10_whereSat 0 = .ok (.iload_n 2, 1) := by decide +kernel
theorem dX10_whereSat_1 : decode cX10_whereSat 1 = .ok (.ifCond .lt 8, 3) := by decide +kernel
theorem dX10_whereSat_4 : decode cX10_whereSat 4 = .ok (.iload_n 2, 1) := by decide +kernel
theorem dX10_whereSat_5 : decode cX10_whereSat 5 = .ok (.iconst 2, 1) := by decide +kernel
theorem dX10_whereSat_6 : decode cX10_whereSat 6 = .ok (.if_icmp .le 5, 3) := by decide +kernel
theorem dX10_whereSat_9 : decode cX10_whereSat 9 = .ok (.iconst (-1), 1) := by decide +kernel
theorem dX10_whereSat_10 : decode cX10_whereSat 10 = .ok (.ireturn, 1) := by decide +kernel
theorem dX10_whereSat_11 : decode cX10_whereSat 11 = .ok (.aload_n 0, 1) := by decide +kernel
theorem dX10_whereSat_12 : decode cX10_whereSat 12 = .ok (.iload_n 1, 1) := by decide +kernel
theorem dX10_whereSat_13 : decode cX10_whereSat 13 = .ok (.invokevirtual 79, 3) := by decide +kernel
theorem dX10_whereSat_16 : decode cX10_whereSat 16 = .ok (.istore_n 3, 1) := by decide +kernel
theorem dX10_whereSat_17 : decode cX10_whereSat 17 = .ok (.iload_n 3, 1) := by decide +kernel
theorem dX10_whereSat_18 : decode cX10_whereSat 18 = .ok (.ifCond .eq 5, 3) := by decide +kernel
theorem dX10_whereSat_21 : decode cX10_whereSat 21 = .ok (.iload_n 3, 1) := by decide +kernel
theorem dX10_whereSat_22 : decode cX10_whereSat 22 = .ok (.ireturn, 1) := by decide +kernel
theorem dX10_whereSat_23 : decode cX10_whereSat 23 = .ok (.iconst 0, 1) := by decide +kernel
theorem dX10_whereSat_24 : decode cX10_whereSat 24 = .ok (.istore 4, 2) := by decide +kernel
theorem dX10_whereSat_26 : decode cX10_whereSat 26 = .ok (.bipush (-4), 2) := by decide +kernel
theorem dX10_whereSat_28 : decode cX10_whereSat 28 = .ok (.istore 5, 2) := by decide +kernel
theorem dX10_whereSat_30 : decode cX10_whereSat 30 = .ok (.bipush (-4), 2) := by decide +kernel
theorem dX10_whereSat_32 : decode cX10_whereSat 32 = .ok (.istore 6, 2) := by decide +kernel
theorem dX10_whereSat_34 : decode cX10_whereSat 34 = .ok (.iconst 0, 1) := by decide +kernel
theorem dX10_whereSat_35 : decode cX10_whereSat 35 = .ok (.istore 7, 2) := by decide +kernel
theorem dX10_whereSat_37 : decode cX10_whereSat 37 = .ok (.iload 7, 2) := by decide +kernel
theorem dX10_whereSat_39 : decode cX10_whereSat 39 = .ok (.bipush 72, 2) := by decide +kernel
theorem dX10_whereSat_41 : decode cX10_whereSat 41 = .ok (.if_icmp .ge 69, 3) := by decide +kernel
theorem dX10_whereSat_44 : decode cX10_whereSat 44 = .ok (.iload 7, 2) := by decide +kernel
theorem dX10_whereSat_46 : decode cX10_whereSat 46 = .ok (.bipush 12, 2) := by decide +kernel
theorem dX10_whereSat_48 : decode cX10_whereSat 48 = .ok (.idiv, 1) := by decide +kernel
theorem dX10_whereSat_49 : decode cX10_whereSat 49 = .ok (.istore 8, 2) := by decide +kernel
theorem dX10_whereSat_51 : decode cX10_whereSat 51 = .ok (.iload 7, 2) := by decide +kernel
theorem dX10_whereSat_53 : decode cX10_whereSat 53 = .ok (.bipush 12, 2) := by decide +kernel
theorem dX10_whereSat_55 : decode cX10_whereSat 55 = .ok (.irem, 1) := by decide +kernel
theorem dX10_whereSat_56 : decode cX10_whereSat 56 = .ok (.istore 9, 2) := by decide +kernel
theorem dX10_whereSat_58 : decode cX10_whereSat 58 = .ok (.aload_n 0, 1) := by decide +kernel
theorem dX10_whereSat_59 : decode cX10_whereSat 59 = .ok (.aload_n 0, 1) := by decide +kernel
theorem dX10_whereSat_60 : decode cX10_whereSat 60 = .ok (.getfield 74, 3) := by decide +kernel
theorem dX10_whereSat_63 : decode cX10_whereSat 63 = .ok (.iload_n 1, 1) := by decide +kernel
theorem dX10_whereSat_64 : decode cX10_whereSat 64 = .ok (.aaload, 1) := by decide +kernel
theorem dX10_whereSat_65 : decode cX10_whereSat 65 = .ok (.iload 8, 2) := by decide +kernel
theorem dX10_whereSat_67 : decode cX10_whereSat 67 = .ok (.iload 9, 2) := by decide +kernel
theorem dX10_whereSat_69 : decode cX10_whereSat 69 = .ok (.invokevirtual 243, 3) := by decide +kernel
theorem dX10_whereSat_72 : decode cX10_whereSat 72 = .ok (.ifCond .eq 32, 3) := by decide +kernel
theorem dX10_whereSat_75 : decode cX10_whereSat 75 = .ok (.iinc 4 1, 3) := by decide +kernel
theorem dX10_whereSat_78 : decode cX10_whereSat 78 = .ok (.bipush 100, 2) := by decide +kernel
theorem dX10_whereSat_80 : decode cX10_whereSat 80 = .ok (.iload 8, 2) := by decide +kernel
theorem dX10_whereSat_82 : decode cX10_whereSat 82 = .ok (.imul, 1) := by decide +kernel
theorem dX10_whereSat_83 : decode cX10_whereSat 83 = .ok (.iload 9, 2) := by decide +kernel
theorem dX10_whereSat_85 : decode cX10_whereSat 85 = .ok (.iadd, 1) := by decide +kernel
theorem dX10_whereSat_86 : decode cX10_whereSat 86 = .ok (.istore 6, 2) := by decide +kernel
theorem dX10_whereSat_88 : decode cX10_whereSat 88 = .ok (.iload 5, 2) := by decide +kernel
theorem dX10_whereSat_90 : decode cX10_whereSat 90 = .ok (.bipush (-4), 2) := by decide +kernel
theorem dX10_whereSat_92 : decode cX10_whereSat 92 = .ok (.if_icmp .ne 8, 3) := by decide +kernel
theorem dX10_whereSat_95 : decode cX10_whereSat 95 = .ok (.iload 6, 2) := by decide +kernel
theorem dX10_whereSat_97 : decode cX10_whereSat 97 = .ok (.goto 5, 3) := by decide +kernel
theorem dX10_whereSat_100 : decode cX10_whereSat 100 = .ok (.iload 5, 2) := by decide +kernel
theorem dX10_whereSat_102 : decode cX10_whereSat 102 = .ok (.istore 5, 2) := by decide +kernel
theorem dX10_whereSat_104 : decode cX10_whereSat 104 = .ok (.iinc 7 1, 3) := by decide +kernel
theorem dX10_whereSat_107 : decode cX10_whereSat 107 = .ok (.goto (-70), 3) := by decide +kernel
theorem dX10_whereSat_110 : decode cX10_whereSat 110 = .ok (.iload_n 2, 1) := by decide +kernel
theorem dX10_whereSat_111 : decode cX10_whereSat 111 = .ok (.ifCond .ne 8, 3) := by decide +kernel
theorem dX10_whereSat_114 : decode cX10_whereSat 114 = .ok (.iload 4, 2) := by decide +kernel
theorem dX10_whereSat_116 : decode cX10_whereSat 116 = .ok (.goto 15, 3) := by decide +kernel
theorem dX10_whereSat_119 : decode cX10_whereSat 119 = .ok (.iload_n 2, 1) := by decide +kernel
theorem dX10_whereSat_120 : decode cX10_whereSat 120 = .ok (.iconst 1, 1) := by decide +kernel
theorem dX10_whereSat_121 : decode cX10_whereSat 121 = .ok (.if_icmp .ne 8, 3) := by decide +kernel
theorem dX10_whereSat_124 : decode cX10_whereSat 124 = .ok (.iload 5, 2) := by decide +kernel
theorem dX10_whereSat_126 : decode cX10_whereSat 126 = .ok (.goto 5, 3) := by decide +kernel
theorem dX10_whereSat_129 : decode cX10_whereSat 129 = .ok (.iload 6, 2) := by decide +kernel
theorem dX10_whereSat_131 : decode cX10_whereSat 131 = .ok (.ireturn, 1) := by decide +kernel
abbrev cX10_firstUntrueStock : ByteArray := prog_1_method_67_code
def yX10_firstUntrueStock : MethodName := ⟨RX10, "firstUntrueStock", "(LChairOnTheRoad$Shelf;I)I"⟩
theorem dX10_firstUntrueStock_0 : decode cX10_firstUntrueStock 0 = .ok (.iconst 0, 1) := by decide +kernel
theorem dX10_firstUntrueStock_1 : decode cX10_firstUntrueStock 1 = .ok (.istore_n 3, 1) := by decide +kernel
theorem dX10_firstUntrueStock_2 : decode cX10_firstUntrueStock 2 = .ok (.iload_n 3, 1) := by decide +kernel
theorem dX10_firstUntrueStock_3 : decode cX10_firstUntrueStock 3 = .ok (.aload_n 1, 1) := by decide +kernel
theorem dX10_firstUntrueStock_4 : decode cX10_firstUntrueStock 4 = .ok (.getfield 95, 3) := by decide +kernel
theorem dX10_firstUntrueStock_7 : decode cX10_firstUntrueStock 7 = .ok (.if_icmp .ge 63, 3) := by decide +kernel
theorem dX10_firstUntrueStock_10 : decode cX10_firstUntrueStock 10 = .ok (.iload_n 2, 1) := by decide +kernel
theorem dX10_firstUntrueStock_11 : decode cX10_firstUntrueStock 11 = .ok (.ifCond .lt 15, 3) := by decide +kernel
theorem dX10_firstUntrueStock_14 : decode cX10_firstUntrueStock 14 = .ok (.aload_n 0, 1) := by decide +kernel
theorem dX10_firstUntrueStock_15 : decode cX10_firstUntrueStock 15 = .ok (.getfield 66, 3) := by decide +kernel
theorem dX10_firstUntrueStock_18 : decode cX10_firstUntrueStock 18 = .ok (.getfield 124, 3) := by decide +kernel
theorem dX10_firstUntrueStock_21 : decode cX10_firstUntrueStock 21 = .ok (.iload_n 2, 1) := by decide +kernel
theorem dX10_firstUntrueStock_22 : decode cX10_firstUntrueStock 22 = .ok (.iaload, 1) := by decide +kernel
theorem dX10_firstUntrueStock_23 : decode cX10_firstUntrueStock 23 = .ok (.goto 10, 3) := by decide +kernel
theorem dX10_firstUntrueStock_26 : decode cX10_firstUntrueStock 26 = .ok (.aload_n 0, 1) := by decide +kernel
theorem dX10_firstUntrueStock_27 : decode cX10_firstUntrueStock 27 = .ok (.getfield 66, 3) := by decide +kernel
theorem dX10_firstUntrueStock_30 : decode cX10_firstUntrueStock 30 = .ok (.invokevirtual 179, 3) := by decide +kernel
theorem dX10_firstUntrueStock_33 : decode cX10_firstUntrueStock 33 = .ok (.istore 4, 2) := by decide +kernel
theorem dX10_firstUntrueStock_35 : decode cX10_firstUntrueStock 35 = .ok (.aload_n 1, 1) := by decide +kernel
theorem dX10_firstUntrueStock_36 : decode cX10_firstUntrueStock 36 = .ok (.iload_n 3, 1) := by decide +kernel
theorem dX10_firstUntrueStock_37 : decode cX10_firstUntrueStock 37 = .ok (.invokevirtual 367, 3) := by decide +kernel
theorem dX10_firstUntrueStock_40 : decode cX10_firstUntrueStock 40 = .ok (.ifCond .ne 16, 3) := by decide +kernel
theorem dX10_firstUntrueStock_43 : decode cX10_firstUntrueStock 43 = .ok (.aload_n 1, 1) := by decide +kernel
theorem dX10_firstUntrueStock_44 : decode cX10_firstUntrueStock 44 = .ok (.getfield 102, 3) := by decide +kernel
theorem dX10_firstUntrueStock_47 : decode cX10_firstUntrueStock 47 = .ok (.iload_n 3, 1) := by decide +kernel
theorem dX10_firstUntrueStock_48 : decode cX10_firstUntrueStock 48 = .ok (.iaload, 1) := by decide +kernel
theorem dX10_firstUntrueStock_49 : decode cX10_firstUntrueStock 49 = .ok (.iload 4, 2) := by decide +kernel
theorem dX10_firstUntrueStock_51 : decode cX10_firstUntrueStock 51 = .ok (.if_icmp .eq 5, 3) := by decide +kernel
theorem dX10_firstUntrueStock_54 : decode cX10_firstUntrueStock 54 = .ok (.iload_n 3, 1) := by decide +kernel
theorem dX10_firstUntrueStock_55 : decode cX10_firstUntrueStock 55 = .ok (.ireturn, 1) := by decide +kernel
theorem dX10_firstUntrueStock_56 : decode cX10_firstUntrueStock 56 = .ok (.aload_n 0, 1) := by decide +kernel
theorem dX10_firstUntrueStock_57 : decode cX10_firstUntrueStock 57 = .ok (.getfield 66, 3) := by decide +kernel
theorem dX10_firstUntrueStock_60 : decode cX10_firstUntrueStock 60 = .ok (.iconst 1, 1) := by decide +kernel
theorem dX10_firstUntrueStock_61 : decode cX10_firstUntrueStock 61 = .ok (.invokevirtual 175, 3) := by decide +kernel
theorem dX10_firstUntrueStock_64 : decode cX10_firstUntrueStock 64 = .ok (.iinc 3 1, 3) := by decide +kernel
theorem dX10_firstUntrueStock_67 : decode cX10_firstUntrueStock 67 = .ok (.goto (-65), 3) := by decide +kernel
theorem dX10_firstUntrueStock_70 : decode cX10_firstUntrueStock 70 = .ok (.bipush (-4), 2) := by decide +kernel
theorem dX10_firstUntrueStock_72 : decode cX10_firstUntrueStock 72 = .ok (.ireturn, 1) := by decide +kernel
abbrev cX10_whatIs : ByteArray := prog_1_method_28_code
def yX10_whatIs : MethodName := ⟨RX10, "whatIs", "(III)I"⟩
theorem dX10_whatIs_0 : decode cX10_whatIs 0 = .ok (.aload_n 0, 1) := by decide +kernel
theorem dX10_whatIs_1 : decode cX10_whatIs 1 = .ok (.getfield 62, 3) := by decide +kernel
theorem dX10_whatIs_4 : decode cX10_whatIs 4 = .ok (.iload_n 2, 1) := by decide +kernel
theorem dX10_whatIs_5 : decode cX10_whatIs 5 = .ok (.invokevirtual 108, 3) := by decide +kernel
theorem dX10_whatIs_8 : decode cX10_whatIs 8 = .ok (.ifCond .eq 12, 3) := by decide +kernel
theorem dX10_whatIs_11 : decode cX10_whatIs 11 = .ok (.iload_n 3, 1) := by decide +kernel
theorem dX10_whatIs_12 : decode cX10_whatIs 12 = .ok (.ifCond .lt 8, 3) := by decide +kernel
theorem dX10_whatIs_15 : decode cX10_whatIs 15 = .ok (.iload_n 3, 1) := by decide +kernel
theorem dX10_whatIs_16 : decode cX10_whatIs 16 = .ok (.iconst 1, 1) := by decide +kernel
theorem dX10_whatIs_17 : decode cX10_whatIs 17 = .ok (.if_icmp .le 5, 3) := by decide +kernel
theorem dX10_whatIs_20 : decode cX10_whatIs 20 = .ok (.iconst (-1), 1) := by decide +kernel
theorem dX10_whatIs_21 : decode cX10_whatIs 21 = .ok (.ireturn, 1) := by decide +kernel
theorem dX10_whatIs_22 : decode cX10_whatIs 22 = .ok (.aload_n 0, 1) := by decide +kernel
theorem dX10_whatIs_23 : decode cX10_whatIs 23 = .ok (.iload_n 1, 1) := by decide +kernel
theorem dX10_whatIs_24 : decode cX10_whatIs 24 = .ok (.invokevirtual 79, 3) := by decide +kernel
theorem dX10_whatIs_27 : decode cX10_whatIs 27 = .ok (.istore 4, 2) := by decide +kernel
theorem dX10_whatIs_29 : decode cX10_whatIs 29 = .ok (.iload 4, 2) := by decide +kernel
theorem dX10_whatIs_31 : decode cX10_whatIs 31 = .ok (.ifCond .eq 6, 3) := by decide +kernel
theorem dX10_whatIs_34 : decode cX10_whatIs 34 = .ok (.iload 4, 2) := by decide +kernel
theorem dX10_whatIs_36 : decode cX10_whatIs 36 = .ok (.ireturn, 1) := by decide +kernel
theorem dX10_whatIs_37 : decode cX10_whatIs 37 = .ok (.iconst 0, 1) := by decide +kernel
theorem dX10_whatIs_38 : decode cX10_whatIs 38 = .ok (.istore 5, 2) := by decide +kernel
theorem dX10_whatIs_40 : decode cX10_whatIs 40 = .ok (.iconst 0, 1) := by decide +kernel
theorem dX10_whatIs_41 : decode cX10_whatIs 41 = .ok (.istore 6, 2) := by decide +kernel
theorem dX10_whatIs_43 : decode cX10_whatIs 43 = .ok (.iload 6, 2) := by decide +kernel
theorem dX10_whatIs_45 : decode cX10_whatIs 45 = .ok (.iload_n 3, 1) := by decide +kernel
theorem dX10_whatIs_46 : decode cX10_whatIs 46 = .ok (.ifCond .ne 8, 3) := by decide +kernel
theorem dX10_whatIs_49 : decode cX10_whatIs 49 = .ok (.bipush 8, 2) := by decide +kernel
theorem dX10_whatIs_51 : decode cX10_whatIs 51 = .ok (.goto 5, 3) := by decide +kernel
theorem dX10_whatIs_54 : decode cX10_whatIs 54 = .ok (.bipush 10, 2) := by decide +kernel
theorem dX10_whatIs_56 : decode cX10_whatIs 56 = .ok (.if_icmp .ge 90, 3) := by decide +kernel
theorem dX10_whatIs_59 : decode cX10_whatIs 59 = .ok (.aload_n 0, 1) := by decide +kernel
theorem dX10_whatIs_60 : decode cX10_whatIs 60 = .ok (.getfield 66, 3) := by decide +kernel
theorem dX10_whatIs_63 : decode cX10_whatIs 63 = .ok (.aload_n 0, 1) := by decide +kernel
theorem dX10_whatIs_64 : decode cX10_whatIs 64 = .ok (.getfield 62, 3) := by decide +kernel
theorem dX10_whatIs_67 : decode cX10_whatIs 67 = .ok (.invokevirtual 91, 3) := by decide +kernel
theorem dX10_whatIs_70 : decode cX10_whatIs 70 = .ok (.iload_n 3, 1) := by decide +kernel
theorem dX10_whatIs_71 : decode cX10_whatIs 71 = .ok (.ifCond .ne 25, 3) := by decide +kernel
theorem dX10_whatIs_74 : decode cX10_whatIs 74 = .ok (.aload_n 0, 1) := by decide +kernel
theorem dX10_whatIs_75 : decode cX10_whatIs 75 = .ok (.getfield 66, 3) := by decide +kernel
theorem dX10_whatIs_78 : decode cX10_whatIs 78 = .ok (.iload_n 2, 1) := by decide +kernel
theorem dX10_whatIs_79 : decode cX10_whatIs 79 = .ok (.iload 6, 2) := by decide +kernel
theorem dX10_whatIs_81 : decode cX10_whatIs 81 = .ok (.aload_n 0, 1) := by decide +kernel
theorem dX10_whatIs_82 : decode cX10_whatIs 82 = .ok (.getfield 62, 3) := by decide +kernel
theorem dX10_whatIs_85 : decode cX10_whatIs 85 = .ok (.getfield 115, 3) := by decide +kernel
theorem dX10_whatIs_88 : decode cX10_whatIs 88 = .ok (.iload_n 2, 1) := by decide +kernel
theorem dX10_whatIs_89 : decode cX10_whatIs 89 = .ok (.iaload, 1) := by decide +kernel
theorem dX10_whatIs_90 : decode cX10_whatIs 90 = .ok (.invokevirtual 247, 3) := by decide +kernel
theorem dX10_whatIs_93 : decode cX10_whatIs 93 = .ok (.goto 22, 3) := by decide +kernel
theorem dX10_whatIs_96 : decode cX10_whatIs 96 = .ok (.aload_n 0, 1) := by decide +kernel
theorem dX10_whatIs_97 : decode cX10_whatIs 97 = .ok (.getfield 66, 3) := by decide +kernel
theorem dX10_whatIs_100 : decode cX10_whatIs 100 = .ok (.iload_n 2, 1) := by decide +kernel
theorem dX10_whatIs_101 : decode cX10_whatIs 101 = .ok (.aload_n 0, 1) := by decide +kernel
theorem dX10_whatIs_102 : decode cX10_whatIs 102 = .ok (.getfield 62, 3) := by decide +kernel
theorem dX10_whatIs_105 : decode cX10_whatIs 105 = .ok (.getfield 112, 3) := by decide +kernel
theorem dX10_whatIs_108 : decode cX10_whatIs 108 = .ok (.iload_n 2, 1) := by decide +kernel
theorem dX10_whatIs_109 : decode cX10_whatIs 109 = .ok (.iaload, 1) := by decide +kernel
theorem dX10_whatIs_110 : decode cX10_whatIs 110 = .ok (.iload 6, 2) := by decide +kernel
theorem dX10_whatIs_112 : decode cX10_whatIs 112 = .ok (.invokevirtual 247, 3) := by decide +kernel
theorem dX10_whatIs_115 : decode cX10_whatIs 115 = .ok (.aload_n 0, 1) := by decide +kernel
theorem dX10_whatIs_116 : decode cX10_whatIs 116 = .ok (.aload_n 0, 1) := by decide +kernel
theorem dX10_whatIs_117 : decode cX10_whatIs 117 = .ok (.getfield 74, 3) := by decide +kernel
theorem dX10_whatIs_120 : decode cX10_whatIs 120 = .ok (.iload_n 1, 1) := by decide +kernel
theorem dX10_whatIs_121 : decode cX10_whatIs 121 = .ok (.aaload, 1) := by decide +kernel
theorem dX10_whatIs_122 : decode cX10_whatIs 122 = .ok (.iload_n 2, 1) := by decide +kernel
theorem dX10_whatIs_123 : decode cX10_whatIs 123 = .ok (.invokevirtual 251, 3) := by decide +kernel
theorem dX10_whatIs_126 : decode cX10_whatIs 126 = .ok (.bipush (-4), 2) := by decide +kernel
theorem dX10_whatIs_128 : decode cX10_whatIs 128 = .ok (.if_icmp .ne 12, 3) := by decide +kernel
theorem dX10_whatIs_131 : decode cX10_whatIs 131 = .ok (.iload 5, 2) := by decide +kernel
theorem dX10_whatIs_133 : decode cX10_whatIs 133 = .ok (.iconst 1, 1) := by decide +kernel
theorem dX10_whatIs_134 : decode cX10_whatIs 134 = .ok (.iload 6, 2) := by decide +kernel
theorem dX10_whatIs_136 : decode cX10_whatIs 136 = .ok (.ishl, 1) := by decide +kernel
theorem dX10_whatIs_137 : decode cX10_whatIs 137 = .ok (.ior, 1) := by decide +kernel
theorem dX10_whatIs_138 : decode cX10_whatIs 138 = .ok (.istore 5, 2) := by decide +kernel
theorem dX10_whatIs_140 : decode cX10_whatIs 140 = .ok (.iinc 6 1, 3) := by decide +kernel
theorem dX10_whatIs_143 : decode cX10_whatIs 143 = .ok (.goto (-100), 3) := by decide +kernel
theorem dX10_whatIs_146 : decode cX10_whatIs 146 = .ok (.iload 5, 2) := by decide +kernel
theorem dX10_whatIs_148 : decode cX10_whatIs 148 = .ok (.ireturn, 1) := by decide +kernel
abbrev cX10_payPair : ByteArray := prog_1_method_68_code
def yX10_payPair : MethodName := ⟨RX10, "payPair", "(IIII)V"⟩
theorem dX10_payPair_0 : decode cX10_payPair 0 = .ok (.iload 4, 2) := by decide +kernel
theorem dX10_payPair_2 : decode cX10_payPair 2 = .ok (.iconst 1, 1) := by decide +kernel
theorem dX10_payPair_3 : decode cX10_payPair 3 = .ok (.ishr, 1) := by decide +kernel
theorem dX10_payPair_4 : decode cX10_payPair 4 = .ok (.ifCond .ne 7, 3) := by decide +kernel
theorem dX10_payPair_7 : decode cX10_payPair 7 = .ok (.iconst 1, 1) := by decide +kernel
theorem dX10_payPair_8 : decode cX10_payPair 8 = .ok (.goto 4, 3) := by decide +kernel
theorem dX10_payPair_11 : decode cX10_payPair 11 = .ok (.iconst 0, 1) := by decide +kernel
theorem dX10_payPair_12 : decode cX10_payPair 12 = .ok (.istore 5, 2) := by decide +kernel
theorem dX10_payPair_14 : decode cX10_payPair 14 = .ok (.iload 4, 2) := by decide +kernel
theorem dX10_payPair_16 : decode cX10_payPair 16 = .ok (.iconst 1, 1) := by decide +kernel
theorem dX10_payPair_17 : decode cX10_payPair 17 = .ok (.iand, 1) := by decide +kernel
theorem dX10_payPair_18 : decode cX10_payPair 18 = .ok (.ifCond .ne 7, 3) := by decide +kernel
theorem dX10_payPair_21 : decode cX10_payPair 21 = .ok (.iconst 1, 1) := by decide +kernel
theorem dX10_payPair_22 : decode cX10_payPair 22 = .ok (.goto 4, 3) := by decide +kernel
theorem dX10_payPair_25 : decode cX10_payPair 25 = .ok (.iconst 0, 1) := by decide +kernel
theorem dX10_payPair_26 : decode cX10_payPair 26 = .ok (.istore 6, 2) := by decide +kernel
theorem dX10_payPair_28 : decode cX10_payPair 28 = .ok (.aload_n 0, 1) := by decide +kernel
theorem dX10_payPair_29 : decode cX10_payPair 29 = .ok (.getfield 66, 3) := by decide +kernel
theorem dX10_payPair_32 : decode cX10_payPair 32 = .ok (.aload_n 0, 1) := by decide +kernel
theorem dX10_payPair_33 : decode cX10_payPair 33 = .ok (.getfield 62, 3) := by decide +kernel
theorem dX10_payPair_36 : decode cX10_payPair 36 = .ok (.invokevirtual 91, 3) := by decide +kernel
theorem dX10_payPair_39 : decode cX10_payPair 39 = .ok (.iload 5, 2) := by decide +kernel
theorem dX10_payPair_41 : decode cX10_payPair 41 = .ok (.ifCond .eq 13, 3) := by decide +kernel
theorem dX10_payPair_44 : decode cX10_payPair 44 = .ok (.aload_n 0, 1) := by decide +kernel
theorem dX10_payPair_45 : decode cX10_payPair 45 = .ok (.getfield 66, 3) := by decide +kernel
theorem dX10_payPair_48 : decode cX10_payPair 48 = .ok (.getfield 121, 3) := by decide +kernel
theorem dX10_payPair_51 : decode cX10_payPair 51 = .ok (.iload_n 1, 1) := by decide +kernel
theorem dX10_payPair_52 : decode cX10_payPair 52 = .ok (.iload_n 1, 1) := by decide +kernel
theorem dX10_payPair_53 : decode cX10_payPair 53 = .ok (.iastore, 1) := by decide +kernel
theorem dX10_payPair_54 : decode cX10_payPair 54 = .ok (.iload 6, 2) := by decide +kernel
theorem dX10_payPair_56 : decode cX10_payPair 56 = .ok (.ifCond .eq 13, 3) := by decide +kernel
theorem dX10_payPair_59 : decode cX10_payPair 59 = .ok (.aload_n 0, 1) := by decide +kernel
theorem dX10_payPair_60 : decode cX10_payPair 60 = .ok (.getfield 66, 3) := by decide +kernel
theorem dX10_payPair_63 : decode cX10_payPair 63 = .ok (.getfield 121, 3) := by decide +kernel
theorem dX10_payPair_66 : decode cX10_payPair 66 = .ok (.iload_n 2, 1) := by decide +kernel
theorem dX10_payPair_67 : decode cX10_payPair 67 = .ok (.iload_n 2, 1) := by decide +kernel
theorem dX10_payPair_68 : decode cX10_payPair 68 = .ok (.iastore, 1) := by decide +kernel
theorem dX10_payPair_69 : decode cX10_payPair 69 = .ok (.aload_n 0, 1) := by decide +kernel
theorem dX10_payPair_70 : decode cX10_payPair 70 = .ok (.getfield 66, 3) := by decide +kernel
theorem dX10_payPair_73 : decode cX10_payPair 73 = .ok (.iload_n 3, 1) := by decide +kernel
theorem dX10_payPair_74 : decode cX10_payPair 74 = .ok (.invokevirtual 175, 3) := by decide +kernel
theorem dX10_payPair_77 : decode cX10_payPair 77 = .ok (.aload_n 0, 1) := by decide +kernel
theorem dX10_payPair_78 : decode cX10_payPair 78 = .ok (.getfield 16, 3) := by decide +kernel
theorem dX10_payPair_81 : decode cX10_payPair 81 = .ok (.iload 4, 2) := by decide +kernel
theorem dX10_payPair_83 : decode cX10_payPair 83 = .ok (.aload_n 0, 1) := by decide +kernel
theorem dX10_payPair_84 : decode cX10_payPair 84 = .ok (.getfield 66, 3) := by decide +kernel
theorem dX10_payPair_87 : decode cX10_payPair 87 = .ok (.getfield 124, 3) := by decide +kernel
theorem dX10_payPair_90 : decode cX10_payPair 90 = .ok (.iload_n 1, 1) := by decide +kernel
theorem dX10_payPair_91 : decode cX10_payPair 91 = .ok (.iaload, 1) := by decide +kernel
theorem dX10_payPair_92 : decode cX10_payPair 92 = .ok (.iload 5, 2) := by decide +kernel
theorem dX10_payPair_94 : decode cX10_payPair 94 = .ok (.ifCond .eq 7, 3) := by decide +kernel
theorem dX10_payPair_97 : decode cX10_payPair 97 = .ok (.iconst 5, 1) := by decide +kernel
theorem dX10_payPair_98 : decode cX10_payPair 98 = .ok (.goto 4, 3) := by decide +kernel
theorem dX10_payPair_101 : decode cX10_payPair 101 = .ok (.iconst 0, 1) := by decide +kernel
theorem dX10_payPair_102 : decode cX10_payPair 102 = .ok (.iadd, 1) := by decide +kernel
theorem dX10_payPair_103 : decode cX10_payPair 103 = .ok (.iastore, 1) := by decide +kernel
theorem dX10_payPair_104 : decode cX10_payPair 104 = .ok (.aload_n 0, 1) := by decide +kernel
theorem dX10_payPair_105 : decode cX10_payPair 105 = .ok (.getfield 19, 3) := by decide +kernel
theorem dX10_payPair_108 : decode cX10_payPair 108 = .ok (.iload 4, 2) := by decide +kernel
theorem dX10_payPair_110 : decode cX10_payPair 110 = .ok (.aload_n 0, 1) := by decide +kernel
theorem dX10_payPair_111 : decode cX10_payPair 111 = .ok (.getfield 66, 3) := by decide +kernel
theorem dX10_payPair_114 : decode cX10_payPair 114 = .ok (.getfield 124, 3) := by decide +kernel
theorem dX10_payPair_117 : decode cX10_payPair 117 = .ok (.iload_n 2, 1) := by decide +kernel
theorem dX10_payPair_118 : decode cX10_payPair 118 = .ok (.iaload, 1) := by decide +kernel
theorem dX10_payPair_119 : decode cX10_payPair 119 = .ok (.iload 6, 2) := by decide +kernel
theorem dX10_payPair_121 : decode cX10_payPair 121 = .ok (.ifCond .eq 7, 3) := by decide +kernel
theorem dX10_payPair_124 : decode cX10_payPair 124 = .ok (.iconst 5, 1) := by decide +kernel
theorem dX10_payPair_125 : decode cX10_payPair 125 = .ok (.goto 4, 3) := by decide +kernel
theorem dX10_payPair_128 : decode cX10_payPair 128 = .ok (.iconst 0, 1) := by decide +kernel
theorem dX10_payPair_129 : decode cX10_payPair 129 = .ok (.iadd, 1) := by decide +kernel
theorem dX10_payPair_130 : decode cX10_payPair 130 = .ok (.iastore, 1) := by decide +kernel
theorem dX10_payPair_131 : decode cX10_payPair 131 = .ok (.return_, 1) := by decide +kernel
abbrev cX10_two : ByteArray := prog_1_method_29_code
def yX10_two : MethodName := ⟨RX10, "two", "(III)I"⟩
theorem dX10_two_0 : decode cX10_two 0 = .ok (.aload_n 0, 1) := by decide +kernel
theorem dX10_two_1 : decode cX10_two 1 = .ok (.getfield 62, 3) := by decide +kernel
theorem dX10_two_4 : decode cX10_two 4 = .ok (.iload_n 1, 1) := by decide +kernel
theorem dX10_two_5 : decode cX10_two 5 = .ok (.invokevirtual 108, 3) := by decide +kernel
theorem dX10_two_8 : decode cX10_two 8 = .ok (.ifCond .eq 29, 3) := by decide +kernel
theorem dX10_two_11 : decode cX10_two 11 = .ok (.aload_n 0, 1) := by decide +kernel
theorem dX10_two_12 : decode cX10_two 12 = .ok (.getfield 62, 3) := by decide +kernel
theorem dX10_two_15 : decode cX10_two 15 = .ok (.iload_n 2, 1) := by decide +kernel
theorem dX10_two_16 : decode cX10_two 16 = .ok (.invokevirtual 108, 3) := by decide +kernel
theorem dX10_two_19 : decode cX10_two 19 = .ok (.ifCond .eq 18, 3) := by decide +kernel
theorem dX10_two_22 : decode cX10_two 22 = .ok (.iload_n 1, 1) := by decide +kernel
theorem dX10_two_23 : decode cX10_two 23 = .ok (.iload_n 2, 1) := by decide +kernel
theorem dX10_two_24 : decode cX10_two 24 = .ok (.if_icmp .eq 13, 3) := by decide +kernel
theorem dX10_two_27 : decode cX10_two 27 = .ok (.iload_n 3, 1) := by decide +kernel
theorem dX10_two_28 : decode cX10_two 28 = .ok (.ifCond .lt 9, 3) := by decide +kernel
theorem dX10_two_31 : decode cX10_two 31 = .ok (.iload_n 3, 1) := by decide +kernel
theorem dX10_two_32 : decode cX10_two 32 = .ok (.bipush 30, 2) := by decide +kernel
theorem dX10_two_34 : decode cX10_two 34 = .ok (.if_icmp .le 5, 3) := by decide +kernel
theorem dX10_two_37 : decode cX10_two 37 = .ok (.iconst (-1), 1) := by decide +kernel
theorem dX10_two_38 : decode cX10_two 38 = .ok (.ireturn, 1) := by decide +kernel
theorem dX10_two_39 : decode cX10_two 39 = .ok (.iconst 0, 1) := by decide +kernel
theorem dX10_two_40 : decode cX10_two 40 = .ok (.istore 4, 2) := by decide +kernel
theorem dX10_two_42 : decode cX10_two 42 = .ok (.iload 4, 2) := by decide +kernel
theorem dX10_two_44 : decode cX10_two 44 = .ok (.iconst 4, 1) := by decide +kernel
theorem dX10_two_45 : decode cX10_two 45 = .ok (.if_icmp .ge 18, 3) := by decide +kernel
theorem dX10_two_48 : decode cX10_two 48 = .ok (.aload_n 0, 1) := by decide +kernel
theorem dX10_two_49 : decode cX10_two 49 = .ok (.iload_n 1, 1) := by decide +kernel
theorem dX10_two_50 : decode cX10_two 50 = .ok (.iload_n 2, 1) := by decide +kernel
theorem dX10_two_51 : decode cX10_two 51 = .ok (.iload_n 3, 1) := by decide +kernel
theorem dX10_two_52 : decode cX10_two 52 = .ok (.iload 4, 2) := by decide +kernel
theorem dX10_two_54 : decode cX10_two 54 = .ok (.invokevirtual 255, 3) := by decide +kernel
theorem dX10_two_57 : decode cX10_two 57 = .ok (.iinc 4 1, 3) := by decide +kernel
theorem dX10_two_60 : decode cX10_two 60 = .ok (.goto (-18), 3) := by decide +kernel
theorem dX10_two_63 : decode cX10_two 63 = .ok (.iconst 0, 1) := by decide +kernel
theorem dX10_two_64 : decode cX10_two 64 = .ok (.istore 4, 2) := by decide +kernel
theorem dX10_two_66 : decode cX10_two 66 = .ok (.iload 4, 2) := by decide +kernel
theorem dX10_two_68 : decode cX10_two 68 = .ok (.iconst 4, 1) := by decide +kernel
theorem dX10_two_69 : decode cX10_two 69 = .ok (.if_icmp .ge 60, 3) := by decide +kernel
theorem dX10_two_72 : decode cX10_two 72 = .ok (.aload_n 0, 1) := by decide +kernel
theorem dX10_two_73 : decode cX10_two 73 = .ok (.getfield 16, 3) := by decide +kernel
theorem dX10_two_76 : decode cX10_two 76 = .ok (.iload 4, 2) := by decide +kernel
theorem dX10_two_78 : decode cX10_two 78 = .ok (.iaload, 1) := by decide +kernel
theorem dX10_two_79 : decode cX10_two 79 = .ok (.aload_n 0, 1) := by decide +kernel
theorem dX10_two_80 : decode cX10_two 80 = .ok (.getfield 16, 3) := by decide +kernel
theorem dX10_two_83 : decode cX10_two 83 = .ok (.iload 4, 2) := by decide +kernel
theorem dX10_two_85 : decode cX10_two 85 = .ok (.iconst 2, 1) := by decide +kernel
theorem dX10_two_86 : decode cX10_two 86 = .ok (.ixor, 1) := by decide +kernel
theorem dX10_two_87 : decode cX10_two 87 = .ok (.iaload, 1) := by decide +kernel
theorem dX10_two_88 : decode cX10_two 88 = .ok (.if_icmp .lt 35, 3) := by decide +kernel
theorem dX10_two_91 : decode cX10_two 91 = .ok (.aload_n 0, 1) := by decide +kernel
theorem dX10_two_92 : decode cX10_two 92 = .ok (.getfield 19, 3) := by decide +kernel
theorem dX10_two_95 : decode cX10_two 95 = .ok (.iload 4, 2) := by decide +kernel
theorem dX10_two_97 : decode cX10_two 97 = .ok (.iaload, 1) := by decide +kernel
theorem dX10_two_98 : decode cX10_two 98 = .ok (.aload_n 0, 1) := by decide +kernel
theorem dX10_two_99 : decode cX10_two 99 = .ok (.getfield 19, 3) := by decide +kernel
theorem dX10_two_102 : decode cX10_two 102 = .ok (.iload 4, 2) := by decide +kernel
theorem dX10_two_104 : decode cX10_two 104 = .ok (.iconst 1, 1) := by decide +kernel
theorem dX10_two_105 : decode cX10_two 105 = .ok (.ixor, 1) := by decide +kernel
theorem dX10_two_106 : decode cX10_two 106 = .ok (.iaload, 1) := by decide +kernel
theorem dX10_two_107 : decode cX10_two 107 = .ok (.if_icmp .lt 16, 3) := by decide +kernel
theorem dX10_two_110 : decode cX10_two 110 = .ok (.bipush 10, 2) := by decide +kernel
theorem dX10_two_112 : decode cX10_two 112 = .ok (.iload 4, 2) := by decide +kernel
theorem dX10_two_114 : decode cX10_two 114 = .ok (.iconst 1, 1) := by decide +kernel
theorem dX10_two_115 : decode cX10_two 115 = .ok (.ishr, 1) := by decide +kernel
theorem dX10_two_116 : decode cX10_two 116 = .ok (.imul, 1) := by decide +kernel
theorem dX10_two_117 : decode cX10_two 117 = .ok (.iload 4, 2) := by decide +kernel
theorem dX10_two_119 : decode cX10_two 119 = .ok (.iconst 1, 1) := by decide +kernel
theorem dX10_two_120 : decode cX10_two 120 = .ok (.iand, 1) := by decide +kernel
theorem dX10_two_121 : decode cX10_two 121 = .ok (.iadd, 1) := by decide +kernel
theorem dX10_two_122 : decode cX10_two 122 = .ok (.ireturn, 1) := by decide +kernel
theorem dX10_two_123 : decode cX10_two 123 = .ok (.iinc 4 1, 3) := by decide +kernel
theorem dX10_two_126 : decode cX10_two 126 = .ok (.goto (-60), 3) := by decide +kernel
theorem dX10_two_129 : decode cX10_two 129 = .ok (.bipush (-4), 2) := by decide +kernel
theorem dX10_two_131 : decode cX10_two 131 = .ok (.ireturn, 1) := by decide +kernel
abbrev cX10_isPart : ByteArray := prog_1_method_50_code
def yX10_isPart : MethodName := ⟨RX10, "isPart", "(I)Z"⟩
theorem dX10_isPart_0 : decode cX10_isPart 0 = .ok (.iload_n 0, 1) := by decide +kernel
theorem dX10_isPart_1 : decode cX10_isPart 1 = .ok (.ifCond .eq 8, 3) := by decide +kernel
theorem dX10_isPart_4 : decode cX10_isPart 4 = .ok (.iload_n 0, 1) := by decide +kernel
theorem dX10_isPart_5 : decode cX10_isPart 5 = .ok (.iconst 1, 1) := by decide +kernel
theorem dX10_isPart_6 : decode cX10_isPart 6 = .ok (.if_icmp .ne 7, 3) := by decide +kernel
theorem dX10_isPart_9 : decode cX10_isPart 9 = .ok (.iconst 1, 1) := by decide +kernel
theorem dX10_isPart_10 : decode cX10_isPart 10 = .ok (.goto 4, 3) := by decide +kernel
theorem dX10_isPart_13 : decode cX10_isPart 13 = .ok (.iconst 0, 1) := by decide +kernel
theorem dX10_isPart_14 : decode cX10_isPart 14 = .ok (.ireturn, 1) := by decide +kernel
abbrev cJ7_fill_d0a16 : ByteArray := prog_24_method_101_code
def yJ7_fill_d0a16 : MethodName := ⟨RJ7, "fill", "([JJ)V"⟩
theorem dJ7_fill_d0a16_0 : decode cJ7_fill_d0a16 0 = .ok (.iconst 0, 1) := by decide +kernel
theorem dJ7_fill_d0a16_1 : decode cJ7_fill_d0a16 1 = .ok (.istore_n 3, 1) := by decide +kernel
theorem dJ7_fill_d0a16_2 : decode cJ7_fill_d0a16 2 = .ok (.aload_n 0, 1) := by decide +kernel
theorem dJ7_fill_d0a16_3 : decode cJ7_fill_d0a16 3 = .ok (.arraylength, 1) := by decide +kernel
theorem dJ7_fill_d0a16_4 : decode cJ7_fill_d0a16 4 = .ok (.istore 4, 2) := by decide +kernel
theorem dJ7_fill_d0a16_6 : decode cJ7_fill_d0a16 6 = .ok (.iload_n 3, 1) := by decide +kernel
theorem dJ7_fill_d0a16_7 : decode cJ7_fill_d0a16 7 = .ok (.iload 4, 2) := by decide +kernel
theorem dJ7_fill_d0a16_9 : decode cJ7_fill_d0a16 9 = .ok (.if_icmp .ge 13, 3) := by decide +kernel
theorem dJ7_fill_d0a16_12 : decode cJ7_fill_d0a16 12 = .ok (.aload_n 0, 1) := by decide +kernel
theorem dJ7_fill_d0a16_13 : decode cJ7_fill_d0a16 13 = .ok (.iload_n 3, 1) := by decide +kernel
theorem dJ7_fill_d0a16_14 : decode cJ7_fill_d0a16 14 = .ok (.lload_n 1, 1) := by decide +kernel
theorem dJ7_fill_d0a16_15 : decode cJ7_fill_d0a16 15 = .ok (.lastore, 1) := by decide +kernel
theorem dJ7_fill_d0a16_16 : decode cJ7_fill_d0a16 16 = .ok (.iinc 3 1, 3) := by decide +kernel
theorem dJ7_fill_d0a16_19 : decode cJ7_fill_d0a16 19 = .ok (.goto (-13), 3) := by decide +kernel
theorem dJ7_fill_d0a16_22 : decode cJ7_fill_d0a16 22 = .ok (.return_, 1) := by decide +kernel
abbrev cX10_spreadOneDay : ByteArray := prog_1_method_70_code
def yX10_spreadOneDay : MethodName := ⟨RX10, "spreadOneDay", "(I)V"⟩
theorem dX10_spreadOneDay_0 : decode cX10_spreadOneDay 0 = .ok (.iconst 0, 1) := by decide +kernel
theorem dX10_spreadOneDay_1 : decode cX10_spreadOneDay 1 = .ok (.istore_n 2, 1) := by decide +kernel
theorem dX10_spreadOneDay_2 : decode cX10_spreadOneDay 2 = .ok (.iload_n 2, 1) := by decide +kernel
theorem dX10_spreadOneDay_3 : decode cX10_spreadOneDay 3 = .ok (.bipush 12, 2) := by decide +kernel
theorem dX10_spreadOneDay_5 : decode cX10_spreadOneDay 5 = .ok (.if_icmp .ge 49, 3) := by decide +kernel
theorem dX10_spreadOneDay_8 : decode cX10_spreadOneDay 8 = .ok (.iload_n 2, 1) := by decide +kernel
theorem dX10_spreadOneDay_9 : decode cX10_spreadOneDay 9 = .ok (.bipush 12, 2) := by decide +kernel
theorem dX10_spreadOneDay_11 : decode cX10_spreadOneDay 11 = .ok (.iadd, 1) := by decide +kernel
theorem dX10_spreadOneDay_12 : decode cX10_spreadOneDay 12 = .ok (.aload_n 0, 1) := by decide +kernel
theorem dX10_spreadOneDay_13 : decode cX10_spreadOneDay 13 = .ok (.getfield 62, 3) := by decide +kernel
theorem dX10_spreadOneDay_16 : decode cX10_spreadOneDay 16 = .ok (.getfield 208, 3) := by decide +kernel
theorem dX10_spreadOneDay_19 : decode cX10_spreadOneDay 19 = .ok (.isub, 1) := by decide +kernel
theorem dX10_spreadOneDay_20 : decode cX10_spreadOneDay 20 = .ok (.bipush 12, 2) := by decide +kernel
theorem dX10_spreadOneDay_22 : decode cX10_spreadOneDay 22 = .ok (.irem, 1) := by decide +kernel
theorem dX10_spreadOneDay_23 : decode cX10_spreadOneDay 23 = .ok (.istore_n 3, 1) := by decide +kernel
theorem dX10_spreadOneDay_24 : decode cX10_spreadOneDay 24 = .ok (.aload_n 0, 1) := by decide +kernel
theorem dX10_spreadOneDay_25 : decode cX10_spreadOneDay 25 = .ok (.getfield 26, 3) := by decide +kernel
theorem dX10_spreadOneDay_28 : decode cX10_spreadOneDay 28 = .ok (.iload_n 2, 1) := by decide +kernel
theorem dX10_spreadOneDay_29 : decode cX10_spreadOneDay 29 = .ok (.aload_n 0, 1) := by decide +kernel
theorem dX10_spreadOneDay_30 : decode cX10_spreadOneDay 30 = .ok (.getfield 22, 3) := by decide +kernel
theorem dX10_spreadOneDay_33 : decode cX10_spreadOneDay 33 = .ok (.iload_n 2, 1) := by decide +kernel
theorem dX10_spreadOneDay_34 : decode cX10_spreadOneDay 34 = .ok (.laload, 1) := by decide +kernel
theorem dX10_spreadOneDay_35 : decode cX10_spreadOneDay 35 = .ok (.iload_n 1, 1) := by decide +kernel
theorem dX10_spreadOneDay_36 : decode cX10_spreadOneDay 36 = .ok (.iconst 1, 1) := by decide +kernel
theorem dX10_spreadOneDay_37 : decode cX10_spreadOneDay 37 = .ok (.isub, 1) := by decide +kernel
theorem dX10_spreadOneDay_38 : decode cX10_spreadOneDay 38 = .ok (.i2l, 1) := by decide +kernel
theorem dX10_spreadOneDay_39 : decode cX10_spreadOneDay 39 = .ok (.aload_n 0, 1) := by decide +kernel
theorem dX10_spreadOneDay_40 : decode cX10_spreadOneDay 40 = .ok (.getfield 22, 3) := by decide +kernel
theorem dX10_spreadOneDay_43 : decode cX10_spreadOneDay 43 = .ok (.iload_n 3, 1) := by decide +kernel
theorem dX10_spreadOneDay_44 : decode cX10_spreadOneDay 44 = .ok (.laload, 1) := by decide +kernel
theorem dX10_spreadOneDay_45 : decode cX10_spreadOneDay 45 = .ok (.lmul, 1) := by decide +kernel
theorem dX10_spreadOneDay_46 : decode cX10_spreadOneDay 46 = .ok (.ladd, 1) := by decide +kernel
theorem dX10_spreadOneDay_47 : decode cX10_spreadOneDay 47 = .ok (.lastore, 1) := by decide +kernel
theorem dX10_spreadOneDay_48 : decode cX10_spreadOneDay 48 = .ok (.iinc 2 1, 3) := by decide +kernel
theorem dX10_spreadOneDay_51 : decode cX10_spreadOneDay 51 = .ok (.goto (-49), 3) := by decide +kernel
theorem dX10_spreadOneDay_54 : decode cX10_spreadOneDay 54 = .ok (.aload_n 0, 1) := by decide +kernel
theorem dX10_spreadOneDay_55 : decode cX10_spreadOneDay 55 = .ok (.getfield 26, 3) := by decide +kernel
theorem dX10_spreadOneDay_58 : decode cX10_spreadOneDay 58 = .ok (.iconst 0, 1) := by decide +kernel
theorem dX10_spreadOneDay_59 : decode cX10_spreadOneDay 59 = .ok (.aload_n 0, 1) := by decide +kernel
theorem dX10_spreadOneDay_60 : decode cX10_spreadOneDay 60 = .ok (.getfield 22, 3) := by decide +kernel
theorem dX10_spreadOneDay_63 : decode cX10_spreadOneDay 63 = .ok (.iconst 0, 1) := by decide +kernel
theorem dX10_spreadOneDay_64 : decode cX10_spreadOneDay 64 = .ok (.bipush 12, 2) := by decide +kernel
theorem dX10_spreadOneDay_66 : decode cX10_spreadOneDay 66 = .ok (.invokestatic 325, 3) := by decide +kernel
theorem dX10_spreadOneDay_69 : decode cX10_spreadOneDay 69 = .ok (.return_, 1) := by decide +kernel
abbrev cX10_spreadChances : ByteArray := prog_1_method_69_code
def yX10_spreadChances : MethodName := ⟨RX10, "spreadChances", "(II)J"⟩
theorem dX10_spreadChances_0 : decode cX10_spreadChances 0 = .ok (.aload_n 0, 1) := by decide +kernel
theorem dX10_spreadChances_1 : decode cX10_spreadChances 1 = .ok (.getfield 22, 3) := by decide +kernel
theorem dX10_spreadChances_4 : decode cX10_spreadChances 4 = .ok (.lconst 0, 1) := by decide +kernel
theorem dX10_spreadChances_5 : decode cX10_spreadChances 5 = .ok (.invokestatic 370, 3) := by decide +kernel
theorem dX10_spreadChances_8 : decode cX10_spreadChances 8 = .ok (.aload_n 0, 1) := by decide +kernel
theorem dX10_spreadChances_9 : decode cX10_spreadChances 9 = .ok (.getfield 22, 3) := by decide +kernel
theorem dX10_spreadChances_12 : decode cX10_spreadChances 12 = .ok (.aload_n 0, 1) := by decide +kernel
theorem dX10_spreadChances_13 : decode cX10_spreadChances 13 = .ok (.getfield 62, 3) := by decide +kernel
theorem dX10_spreadChances_16 : decode cX10_spreadChances 16 = .ok (.getfield 186, 3) := by decide +kernel
theorem dX10_spreadChances_19 : decode cX10_spreadChances 19 = .ok (.lconst 1, 1) := by decide +kernel
theorem dX10_spreadChances_20 : decode cX10_spreadChances 20 = .ok (.lastore, 1) := by decide +kernel
theorem dX10_spreadChances_21 : decode cX10_spreadChances 21 = .ok (.lconst 1, 1) := by decide +kernel
theorem dX10_spreadChances_22 : decode cX10_spreadChances 22 = .ok (.lstore_n 3, 1) := by decide +kernel
theorem dX10_spreadChances_23 : decode cX10_spreadChances 23 = .ok (.aload_n 0, 1) := by decide +kernel
theorem dX10_spreadChances_24 : decode cX10_spreadChances 24 = .ok (.getfield 62, 3) := by decide +kernel
theorem dX10_spreadChances_27 : decode cX10_spreadChances 27 = .ok (.getfield 268, 3) := by decide +kernel
theorem dX10_spreadChances_30 : decode cX10_spreadChances 30 = .ok (.iconst 1, 1) := by decide +kernel
theorem dX10_spreadChances_31 : decode cX10_spreadChances 31 = .ok (.iadd, 1) := by decide +kernel
theorem dX10_spreadChances_32 : decode cX10_spreadChances 32 = .ok (.istore 5, 2) := by decide +kernel
theorem dX10_spreadChances_34 : decode cX10_spreadChances 34 = .ok (.iload 5, 2) := by decide +kernel
theorem dX10_spreadChances_36 : decode cX10_spreadChances 36 = .ok (.aload_n 0, 1) := by decide +kernel
theorem dX10_spreadChances_37 : decode cX10_spreadChances 37 = .ok (.getfield 62, 3) := by decide +kernel
theorem dX10_spreadChances_40 : decode cX10_spreadChances 40 = .ok (.getfield 268, 3) := by decide +kernel
theorem dX10_spreadChances_43 : decode cX10_spreadChances 43 = .ok (.iload_n 1, 1) := by decide +kernel
theorem dX10_spreadChances_44 : decode cX10_spreadChances 44 = .ok (.iadd, 1) := by decide +kernel
theorem dX10_spreadChances_45 : decode cX10_spreadChances 45 = .ok (.if_icmp .gt 51, 3) := by decide +kernel
theorem dX10_spreadChances_48 : decode cX10_spreadChances 48 = .ok (.iload 5, 2) := by decide +kernel
theorem dX10_spreadChances_50 : decode cX10_spreadChances 50 = .ok (.bipush 12, 2) := by decide +kernel
theorem dX10_spreadChances_52 : decode cX10_spreadChances 52 = .ok (.irem, 1) := by decide +kernel
theorem dX10_spreadChances_53 : decode cX10_spreadChances 53 = .ok (.ifCond .ne 27, 3) := by decide +kernel
theorem dX10_spreadChances_56 : decode cX10_spreadChances 56 = .ok (.aload_n 0, 1) := by decide +kernel
theorem dX10_spreadChances_57 : decode cX10_spreadChances 57 = .ok (.getfield 22, 3) := by decide +kernel
theorem dX10_spreadChances_60 : decode cX10_spreadChances 60 = .ok (.lconst 0, 1) := by decide +kernel
theorem dX10_spreadChances_61 : decode cX10_spreadChances 61 = .ok (.invokestatic 370, 3) := by decide +kernel
theorem dX10_spreadChances_64 : decode cX10_spreadChances 64 = .ok (.aload_n 0, 1) := by decide +kernel
theorem dX10_spreadChances_65 : decode cX10_spreadChances 65 = .ok (.getfield 22, 3) := by decide +kernel
theorem dX10_spreadChances_68 : decode cX10_spreadChances 68 = .ok (.aload_n 0, 1) := by decide +kernel
theorem dX10_spreadChances_69 : decode cX10_spreadChances 69 = .ok (.getfield 62, 3) := by decide +kernel
theorem dX10_spreadChances_72 : decode cX10_spreadChances 72 = .ok (.getfield 285, 3) := by decide +kernel
theorem dX10_spreadChances_75 : decode cX10_spreadChances 75 = .ok (.lload_n 3, 1) := by decide +kernel
theorem dX10_spreadChances_76 : decode cX10_spreadChances 76 = .ok (.lastore, 1) := by decide +kernel
theorem dX10_spreadChances_77 : decode cX10_spreadChances 77 = .ok (.goto 13, 3) := by decide +kernel
theorem dX10_spreadChances_80 : decode cX10_spreadChances 80 = .ok (.aload_n 0, 1) := by decide +kernel
theorem dX10_spreadChances_81 : decode cX10_spreadChances 81 = .ok (.iload_n 2, 1) := by decide +kernel
theorem dX10_spreadChances_82 : decode cX10_spreadChances 82 = .ok (.invokevirtual 376, 3) := by decide +kernel
theorem dX10_spreadChances_85 : decode cX10_spreadChances 85 = .ok (.lload_n 3, 1) := by decide +kernel
theorem dX10_spreadChances_86 : decode cX10_spreadChances 86 = .ok (.iload_n 2, 1) := by decide +kernel
theorem dX10_spreadChances_87 : decode cX10_spreadChances 87 = .ok (.i2l, 1) := by decide +kernel
theorem dX10_spreadChances_88 : decode cX10_spreadChances 88 = .ok (.lmul, 1) := by decide +kernel
theorem dX10_spreadChances_89 : decode cX10_spreadChances 89 = .ok (.lstore_n 3, 1) := by decide +kernel
theorem dX10_spreadChances_90 : decode cX10_spreadChances 90 = .ok (.iinc 5 1, 3) := by decide +kernel
theorem dX10_spreadChances_93 : decode cX10_spreadChances 93 = .ok (.goto (-59), 3) := by decide +kernel
theorem dX10_spreadChances_96 : decode cX10_spreadChances 96 = .ok (.lload_n 3, 1) := by decide +kernel
theorem dX10_spreadChances_97 : decode cX10_spreadChances 97 = .ok (.lreturn, 1) := by decide +kernel
abbrev cX10_greatestDivisor : ByteArray := prog_1_method_72_code
def yX10_greatestDivisor : MethodName := ⟨RX10, "greatestDivisor", "(JJ)J"⟩
theorem dX10_greatestDivisor_0 : decode cX10_greatestDivisor 0 = .ok (.lload_n 0, 1) := by decide +kernel
theorem dX10_greatestDivisor_1 : decode cX10_greatestDivisor 1 = .ok (.lstore 4, 2) := by decide +kernel
theorem dX10_greatestDivisor_3 : decode cX10_greatestDivisor 3 = .ok (.lload_n 2, 1) := by decide +kernel
theorem dX10_greatestDivisor_4 : decode cX10_greatestDivisor 4 = .ok (.lstore 6, 2) := by decide +kernel
theorem dX10_greatestDivisor_6 : decode cX10_greatestDivisor 6 = .ok (.iconst 0, 1) := by decide +kernel
theorem dX10_greatestDivisor_7 : decode cX10_greatestDivisor 7 = .ok (.istore 8, 2) := by decide +kernel
theorem dX10_greatestDivisor_9 : decode cX10_greatestDivisor 9 = .ok (.iload 8, 2) := by decide +kernel
theorem dX10_greatestDivisor_11 : decode cX10_greatestDivisor 11 = .ok (.bipush 60, 2) := by decide +kernel
theorem dX10_greatestDivisor_13 : decode cX10_greatestDivisor 13 = .ok (.if_icmp .ge 31, 3) := by decide +kernel
theorem dX10_greatestDivisor_16 : decode cX10_greatestDivisor 16 = .ok (.lload 6, 2) := by decide +kernel
theorem dX10_greatestDivisor_18 : decode cX10_greatestDivisor 18 = .ok (.lconst 0, 1) := by decide +kernel
theorem dX10_greatestDivisor_19 : decode cX10_greatestDivisor 19 = .ok (.lcmp, 1) := by decide +kernel
theorem dX10_greatestDivisor_20 : decode cX10_greatestDivisor 20 = .ok (.ifCond .eq 24, 3) := by decide +kernel
theorem dX10_greatestDivisor_23 : decode cX10_greatestDivisor 23 = .ok (.lload 4, 2) := by decide +kernel
theorem dX10_greatestDivisor_25 : decode cX10_greatestDivisor 25 = .ok (.lload 6, 2) := by decide +kernel
theorem dX10_greatestDivisor_27 : decode cX10_greatestDivisor 27 = .ok (.lrem, 1) := by decide +kernel
theorem dX10_greatestDivisor_28 : decode cX10_greatestDivisor 28 = .ok (.lstore 9, 2) := by decide +kernel
theorem dX10_greatestDivisor_30 : decode cX10_greatestDivisor 30 = .ok (.lload 6, 2) := by decide +kernel
theorem dX10_greatestDivisor_32 : decode cX10_greatestDivisor 32 = .ok (.lstore 4, 2) := by decide +kernel
theorem dX10_greatestDivisor_34 : decode cX10_greatestDivisor 34 = .ok (.lload 9, 2) := by decide +kernel
theorem dX10_greatestDivisor_36 : decode cX10_greatestDivisor 36 = .ok (.lstore 6, 2) := by decide +kernel
theorem dX10_greatestDivisor_38 : decode cX10_greatestDivisor 38 = .ok (.iinc 8 1, 3) := by decide +kernel
theorem dX10_greatestDivisor_41 : decode cX10_greatestDivisor 41 = .ok (.goto (-32), 3) := by decide +kernel
theorem dX10_greatestDivisor_44 : decode cX10_greatestDivisor 44 = .ok (.lload 4, 2) := by decide +kernel
theorem dX10_greatestDivisor_46 : decode cX10_greatestDivisor 46 = .ok (.lreturn, 1) := by decide +kernel
abbrev cX10_partOf : ByteArray := prog_1_method_71_code
def yX10_partOf : MethodName := ⟨RX10, "partOf", "(JJI)J"⟩
theorem dX10_partOf_0 : decode cX10_partOf 0 = .ok (.lload_n 0, 1) := by decide +kernel
theorem dX10_partOf_1 : decode cX10_partOf 1 = .ok (.lload_n 2, 1) := by decide +kernel
theorem dX10_partOf_2 : decode cX10_partOf 2 = .ok (.invokestatic 379, 3) := by decide +kernel
theorem dX10_partOf_5 : decode cX10_partOf 5 = .ok (.lstore 5, 2) := by decide +kernel
theorem dX10_partOf_7 : decode cX10_partOf 7 = .ok (.lload 5, 2) := by decide +kernel
theorem dX10_partOf_9 : decode cX10_partOf 9 = .ok (.lconst 1, 1) := by decide +kernel
theorem dX10_partOf_10 : decode cX10_partOf 10 = .ok (.lcmp, 1) := by decide +kernel
theorem dX10_partOf_11 : decode cX10_partOf 11 = .ok (.ifCond .ge 7, 3) := by decide +kernel
theorem dX10_partOf_14 : decode cX10_partOf 14 = .ok (.ldc2_w 262, 3) := by decide +kernel
theorem dX10_partOf_17 : decode cX10_partOf 17 = .ok (.lreturn, 1) := by decide +kernel
theorem dX10_partOf_18 : decode cX10_partOf 18 = .ok (.iload 4, 2) := by decide +kernel
theorem dX10_partOf_20 : decode cX10_partOf 20 = .ok (.ifCond .ne 10, 3) := by decide +kernel
theorem dX10_partOf_23 : decode cX10_partOf 23 = .ok (.lload_n 0, 1) := by decide +kernel
theorem dX10_partOf_24 : decode cX10_partOf 24 = .ok (.lload 5, 2) := by decide +kernel
theorem dX10_partOf_26 : decode cX10_partOf 26 = .ok (.ldiv, 1) := by decide +kernel
theorem dX10_partOf_27 : decode cX10_partOf 27 = .ok (.goto 7, 3) := by decide +kernel
theorem dX10_partOf_30 : decode cX10_partOf 30 = .ok (.lload_n 2, 1) := by decide +kernel
theorem dX10_partOf_31 : decode cX10_partOf 31 = .ok (.lload 5, 2) := by decide +kernel
theorem dX10_partOf_33 : decode cX10_partOf 33 = .ok (.ldiv, 1) := by decide +kernel
theorem dX10_partOf_34 : decode cX10_partOf 34 = .ok (.lreturn, 1) := by decide +kernel
abbrev cX10_rain : ByteArray := prog_1_method_30_code
def yX10_rain : MethodName := ⟨RX10, "rain", "(IIII)J"⟩
theorem dX10_rain_0 : decode cX10_rain 0 = .ok (.aload_n 0, 1) := by decide +kernel
theorem dX10_rain_1 : decode cX10_rain 1 = .ok (.getfield 62, 3) := by decide +kernel
theorem dX10_rain_4 : decode cX10_rain 4 = .ok (.iload_n 1, 1) := by decide +kernel
theorem dX10_rain_5 : decode cX10_rain 5 = .ok (.invokevirtual 108, 3) := by decide +kernel
theorem dX10_rain_8 : decode cX10_rain 8 = .ok (.ifCond .eq 32, 3) := by decide +kernel
theorem dX10_rain_11 : decode cX10_rain 11 = .ok (.iload_n 2, 1) := by decide +kernel
theorem dX10_rain_12 : decode cX10_rain 12 = .ok (.ifCond .lt 28, 3) := by decide +kernel
theorem dX10_rain_15 : decode cX10_rain 15 = .ok (.iload_n 2, 1) := by decide +kernel
theorem dX10_rain_16 : decode cX10_rain 16 = .ok (.bipush 7, 2) := by decide +kernel
theorem dX10_rain_18 : decode cX10_rain 18 = .ok (.if_icmp .gt 22, 3) := by decide +kernel
theorem dX10_rain_21 : decode cX10_rain 21 = .ok (.iload_n 3, 1) := by decide +kernel
theorem dX10_rain_22 : decode cX10_rain 22 = .ok (.iconst 2, 1) := by decide +kernel
theorem dX10_rain_23 : decode cX10_rain 23 = .ok (.if_icmp .lt 17, 3) := by decide +kernel
theorem dX10_rain_26 : decode cX10_rain 26 = .ok (.iload_n 3, 1) := by decide +kernel
theorem dX10_rain_27 : decode cX10_rain 27 = .ok (.bipush 20, 2) := by decide +kernel
theorem dX10_rain_29 : decode cX10_rain 29 = .ok (.if_icmp .gt 11, 3) := by decide +kernel
theorem dX10_rain_32 : decode cX10_rain 32 = .ok (.iload 4, 2) := by decide +kernel
theorem dX10_rain_34 : decode cX10_rain 34 = .ok (.invokestatic 259, 3) := by decide +kernel
theorem dX10_rain_37 : decode cX10_rain 37 = .ok (.ifCond .ne 7, 3) := by decide +kernel
theorem dX10_rain_40 : decode cX10_rain 40 = .ok (.ldc2_w 262, 3) := by decide +kernel
theorem dX10_rain_43 : decode cX10_rain 43 = .ok (.lreturn, 1) := by decide +kernel
theorem dX10_rain_44 : decode cX10_rain 44 = .ok (.aload_n 0, 1) := by decide +kernel
theorem dX10_rain_45 : decode cX10_rain 45 = .ok (.iload_n 2, 1) := by decide +kernel
theorem dX10_rain_46 : decode cX10_rain 46 = .ok (.iload_n 3, 1) := by decide +kernel
theorem dX10_rain_47 : decode cX10_rain 47 = .ok (.invokevirtual 264, 3) := by decide +kernel
theorem dX10_rain_50 : decode cX10_rain 50 = .ok (.lstore 5, 2) := by decide +kernel
theorem dX10_rain_52 : decode cX10_rain 52 = .ok (.aload_n 0, 1) := by decide +kernel
theorem dX10_rain_53 : decode cX10_rain 53 = .ok (.getfield 66, 3) := by decide +kernel
theorem dX10_rain_56 : decode cX10_rain 56 = .ok (.aload_n 0, 1) := by decide +kernel
theorem dX10_rain_57 : decode cX10_rain 57 = .ok (.getfield 62, 3) := by decide +kernel
theorem dX10_rain_60 : decode cX10_rain 60 = .ok (.invokevirtual 91, 3) := by decide +kernel
theorem dX10_rain_63 : decode cX10_rain 63 = .ok (.aload_n 0, 1) := by decide +kernel
theorem dX10_rain_64 : decode cX10_rain 64 = .ok (.getfield 66, 3) := by decide +kernel
theorem dX10_rain_67 : decode cX10_rain 67 = .ok (.dup, 1) := by decide +kernel
theorem dX10_rain_68 : decode cX10_rain 68 = .ok (.getfield 268, 3) := by decide +kernel
theorem dX10_rain_71 : decode cX10_rain 71 = .ok (.iload_n 2, 1) := by decide +kernel
theorem dX10_rain_72 : decode cX10_rain 72 = .ok (.iadd, 1) := by decide +kernel
theorem dX10_rain_73 : decode cX10_rain 73 = .ok (.putfield 268, 3) := by decide +kernel
theorem dX10_rain_76 : decode cX10_rain 76 = .ok (.lconst 0, 1) := by decide +kernel
theorem dX10_rain_77 : decode cX10_rain 77 = .ok (.lstore 7, 2) := by decide +kernel
theorem dX10_rain_79 : decode cX10_rain 79 = .ok (.iconst 0, 1) := by decide +kernel
theorem dX10_rain_80 : decode cX10_rain 80 = .ok (.istore 9, 2) := by decide +kernel
theorem dX10_rain_82 : decode cX10_rain 82 = .ok (.iload 9, 2) := by decide +kernel
theorem dX10_rain_84 : decode cX10_rain 84 = .ok (.bipush 12, 2) := by decide +kernel
theorem dX10_rain_86 : decode cX10_rain 86 = .ok (.if_icmp .ge 41, 3) := by decide +kernel
theorem dX10_rain_89 : decode cX10_rain 89 = .ok (.aload_n 0, 1) := by decide +kernel
theorem dX10_rain_90 : decode cX10_rain 90 = .ok (.getfield 66, 3) := by decide +kernel
theorem dX10_rain_93 : decode cX10_rain 93 = .ok (.iload 9, 2) := by decide +kernel
theorem dX10_rain_95 : decode cX10_rain 95 = .ok (.putfield 186, 3) := by decide +kernel
theorem dX10_rain_98 : decode cX10_rain 98 = .ok (.aload_n 0, 1) := by decide +kernel
theorem dX10_rain_99 : decode cX10_rain 99 = .ok (.getfield 66, 3) := by decide +kernel
theorem dX10_rain_102 : decode cX10_rain 102 = .ok (.iload_n 1, 1) := by decide +kernel
theorem dX10_rain_103 : decode cX10_rain 103 = .ok (.invokevirtual 133, 3) := by decide +kernel
theorem dX10_rain_106 : decode cX10_rain 106 = .ok (.ifCond .eq 15, 3) := by decide +kernel
theorem dX10_rain_109 : decode cX10_rain 109 = .ok (.lload 7, 2) := by decide +kernel
theorem dX10_rain_111 : decode cX10_rain 111 = .ok (.aload_n 0, 1) := by decide +kernel
theorem dX10_rain_112 : decode cX10_rain 112 = .ok (.getfield 22, 3) := by decide +kernel
theorem dX10_rain_115 : decode cX10_rain 115 = .ok (.iload 9, 2) := by decide +kernel
theorem dX10_rain_117 : decode cX10_rain 117 = .ok (.laload, 1) := by decide +kernel
theorem dX10_rain_118 : decode cX10_rain 118 = .ok (.ladd, 1) := by decide +kernel
theorem dX10_rain_119 : decode cX10_rain 119 = .ok (.lstore 7, 2) := by decide +kernel
theorem dX10_rain_121 : decode cX10_rain 121 = .ok (.iinc 9 1, 3) := by decide +kernel
theorem dX10_rain_124 : decode cX10_rain 124 = .ok (.goto (-42), 3) := by decide +kernel
theorem dX10_rain_127 : decode cX10_rain 127 = .ok (.lload 7, 2) := by decide +kernel
theorem dX10_rain_129 : decode cX10_rain 129 = .ok (.lload 5, 2) := by decide +kernel
theorem dX10_rain_131 : decode cX10_rain 131 = .ok (.iload 4, 2) := by decide +kernel
theorem dX10_rain_133 : decode cX10_rain 133 = .ok (.invokestatic 271, 3) := by decide +kernel
theorem dX10_rain_136 : decode cX10_rain 136 = .ok (.lreturn, 1) := by decide +kernel
abbrev cX10_mean : ByteArray := prog_1_method_31_code
def yX10_mean : MethodName := ⟨RX10, "mean", "(I)J"⟩
theorem dX10_mean_0 : decode cX10_mean 0 = .ok (.iload_n 1, 1) := by decide +kernel
theorem dX10_mean_1 : decode cX10_mean 1 = .ok (.invokestatic 259, 3) := by decide +kernel
theorem dX10_mean_4 : decode cX10_mean 4 = .ok (.ifCond .ne 7, 3) := by decide +kernel
theorem dX10_mean_7 : decode cX10_mean 7 = .ok (.ldc2_w 262, 3) := by decide +kernel
theorem dX10_mean_10 : decode cX10_mean 10 = .ok (.lreturn, 1) := by decide +kernel
theorem dX10_mean_11 : decode cX10_mean 11 = .ok (.aload_n 0, 1) := by decide +kernel
theorem dX10_mean_12 : decode cX10_mean 12 = .ok (.getfield 62, 3) := by decide +kernel
theorem dX10_mean_15 : decode cX10_mean 15 = .ok (.invokevirtual 179, 3) := by decide +kernel
theorem dX10_mean_18 : decode cX10_mean 18 = .ok (.i2l, 1) := by decide +kernel
theorem dX10_mean_19 : decode cX10_mean 19 = .ok (.iconst 1, 1) := by decide +kernel
theorem dX10_mean_20 : decode cX10_mean 20 = .ok (.aload_n 0, 1) := by decide +kernel
theorem dX10_mean_21 : decode cX10_mean 21 = .ok (.getfield 62, 3) := by decide +kernel
theorem dX10_mean_24 : decode cX10_mean 24 = .ok (.getfield 152, 3) := by decide +kernel
theorem dX10_mean_27 : decode cX10_mean 27 = .ok (.invokestatic 275, 3) := by decide +kernel
theorem dX10_mean_30 : decode cX10_mean 30 = .ok (.i2l, 1) := by decide +kernel
theorem dX10_mean_31 : decode cX10_mean 31 = .ok (.iload_n 1, 1) := by decide +kernel
theorem dX10_mean_32 : decode cX10_mean 32 = .ok (.invokestatic 271, 3) := by decide +kernel
theorem dX10_mean_35 : decode cX10_mean 35 = .ok (.lreturn, 1) := by decide +kernel
abbrev cX10_forged : ByteArray := prog_1_method_32_code
def yX10_forged : MethodName := ⟨RX10, "forged", "(I)I"⟩
theorem dX10_forged_0 : decode cX10_forged 0 = .ok (.aload_n 0, 1) := by decide +kernel
theorem dX10_forged_1 : decode cX10_forged 1 = .ok (.iload_n 1, 1) := by decide +kernel
theorem dX10_forged_2 : decode cX10_forged 2 = .ok (.invokevirtual 79, 3) := by decide +kernel
theorem dX10_forged_5 : decode cX10_forged 5 = .ok (.istore_n 2, 1) := by decide +kernel
theorem dX10_forged_6 : decode cX10_forged 6 = .ok (.iload_n 2, 1) := by decide +kernel
theorem dX10_forged_7 : decode cX10_forged 7 = .ok (.ifCond .eq 5, 3) := by decide +kernel
theorem dX10_forged_10 : decode cX10_forged 10 = .ok (.iload_n 2, 1) := by decide +kernel
theorem dX10_forged_11 : decode cX10_forged 11 = .ok (.ireturn, 1) := by decide +kernel
theorem dX10_forged_12 : decode cX10_forged 12 = .ok (.aload_n 0, 1) := by decide +kernel
theorem dX10_forged_13 : decode cX10_forged 13 = .ok (.getfield 74, 3) := by decide +kernel
theorem dX10_forged_16 : decode cX10_forged 16 = .ok (.iload_n 1, 1) := by decide +kernel
theorem dX10_forged_17 : decode cX10_forged 17 = .ok (.aaload, 1) := by decide +kernel
theorem dX10_forged_18 : decode cX10_forged 18 = .ok (.astore_n 3, 1) := by decide +kernel
theorem dX10_forged_19 : decode cX10_forged 19 = .ok (.iconst 0, 1) := by decide +kernel
theorem dX10_forged_20 : decode cX10_forged 20 = .ok (.istore 4, 2) := by decide +kernel
theorem dX10_forged_22 : decode cX10_forged 22 = .ok (.iload 4, 2) := by decide +kernel
theorem dX10_forged_24 : decode cX10_forged 24 = .ok (.aload_n 3, 1) := by decide +kernel
theorem dX10_forged_25 : decode cX10_forged 25 = .ok (.getfield 95, 3) := by decide +kernel
theorem dX10_forged_28 : decode cX10_forged 28 = .ok (.if_icmp .ge 44, 3) := by decide +kernel
theorem dX10_forged_31 : decode cX10_forged 31 = .ok (.aload_n 0, 1) := by decide +kernel
theorem dX10_forged_32 : decode cX10_forged 32 = .ok (.getfield 62, 3) := by decide +kernel
theorem dX10_forged_35 : decode cX10_forged 35 = .ok (.iload 4, 2) := by decide +kernel
theorem dX10_forged_37 : decode cX10_forged 37 = .ok (.invokevirtual 108, 3) := by decide +kernel
theorem dX10_forged_40 : decode cX10_forged 40 = .ok (.ifCond .eq 23, 3) := by decide +kernel
theorem dX10_forged_43 : decode cX10_forged 43 = .ok (.aload_n 3, 1) := by decide +kernel
theorem dX10_forged_44 : decode cX10_forged 44 = .ok (.getfield 102, 3) := by decide +kernel
theorem dX10_forged_47 : decode cX10_forged 47 = .ok (.iload 4, 2) := by decide +kernel
theorem dX10_forged_49 : decode cX10_forged 49 = .ok (.iaload, 1) := by decide +kernel
theorem dX10_forged_50 : decode cX10_forged 50 = .ok (.aload_n 0, 1) := by decide +kernel
theorem dX10_forged_51 : decode cX10_forged 51 = .ok (.getfield 62, 3) := by decide +kernel
theorem dX10_forged_54 : decode cX10_forged 54 = .ok (.getfield 118, 3) := by decide +kernel
theorem dX10_forged_57 : decode cX10_forged 57 = .ok (.iload 4, 2) := by decide +kernel
theorem dX10_forged_59 : decode cX10_forged 59 = .ok (.iaload, 1) := by decide +kernel
theorem dX10_forged_60 : decode cX10_forged 60 = .ok (.if_icmp .eq 6, 3) := by decide +kernel
theorem dX10_forged_63 : decode cX10_forged 63 = .ok (.iload 4, 2) := by decide +kernel
theorem dX10_forged_65 : decode cX10_forged 65 = .ok (.ireturn, 1) := by decide +kernel
theorem dX10_forged_66 : decode cX10_forged 66 = .ok (.iinc 4 1, 3) := by decide +kernel
theorem dX10_forged_69 : decode cX10_forged 69 = .ok (.goto (-47), 3) := by decide +kernel
theorem dX10_forged_72 : decode cX10_forged 72 = .ok (.bipush (-4), 2) := by decide +kernel
theorem dX10_forged_74 : decode cX10_forged 74 = .ok (.ireturn, 1) := by decide +kernel
abbrev cX10_judge : ByteArray := prog_1_method_33_code
def yX10_judge : MethodName := ⟨RX10, "judge", "(I)I"⟩
theorem dX10_judge_0 : decode cX10_judge 0 = .ok (.aload_n 0, 1) := by decide +kernel
theorem dX10_judge_1 : decode cX10_judge 1 = .ok (.iload_n 1, 1) := by decide +kernel
theorem dX10_judge_2 : decode cX10_judge 2 = .ok (.invokevirtual 79, 3) := by decide +kernel
theorem dX10_judge_5 : decode cX10_judge 5 = .ok (.istore_n 2, 1) := by decide +kernel
theorem dX10_judge_6 : decode cX10_judge 6 = .ok (.iload_n 2, 1) := by decide +kernel
theorem dX10_judge_7 : decode cX10_judge 7 = .ok (.ifCond .eq 5, 3) := by decide +kernel
theorem dX10_judge_10 : decode cX10_judge 10 = .ok (.iload_n 2, 1) := by decide +kernel
theorem dX10_judge_11 : decode cX10_judge 11 = .ok (.ireturn, 1) := by decide +kernel
theorem dX10_judge_12 : decode cX10_judge 12 = .ok (.aload_n 0, 1) := by decide +kernel
theorem dX10_judge_13 : decode cX10_judge 13 = .ok (.getfield 66, 3) := by decide +kernel
theorem dX10_judge_16 : decode cX10_judge 16 = .ok (.aload_n 0, 1) := by decide +kernel
theorem dX10_judge_17 : decode cX10_judge 17 = .ok (.getfield 62, 3) := by decide +kernel
theorem dX10_judge_20 : decode cX10_judge 20 = .ok (.invokevirtual 91, 3) := by decide +kernel
theorem dX10_judge_23 : decode cX10_judge 23 = .ok (.aload_n 0, 1) := by decide +kernel
theorem dX10_judge_24 : decode cX10_judge 24 = .ok (.aload_n 0, 1) := by decide +kernel
theorem dX10_judge_25 : decode cX10_judge 25 = .ok (.getfield 74, 3) := by decide +kernel
theorem dX10_judge_28 : decode cX10_judge 28 = .ok (.iload_n 1, 1) := by decide +kernel
theorem dX10_judge_29 : decode cX10_judge 29 = .ok (.aaload, 1) := by decide +kernel
theorem dX10_judge_30 : decode cX10_judge 30 = .ok (.iconst (-1), 1) := by decide +kernel
theorem dX10_judge_31 : decode cX10_judge 31 = .ok (.invokevirtual 251, 3) := by decide +kernel
theorem dX10_judge_34 : decode cX10_judge 34 = .ok (.ireturn, 1) := by decide +kernel
abbrev cX10_years : ByteArray := prog_1_method_34_code
def yX10_years : MethodName := ⟨RX10, "years", "(III)I"⟩
theorem dX10_years_0 : decode cX10_years 0 = .ok (.iload_n 1, 1) := by decide +kernel
theorem dX10_years_1 : decode cX10_years 1 = .ok (.iconst 1, 1) := by decide +kernel
theorem dX10_years_2 : decode cX10_years 2 = .ok (.if_icmp .lt 18, 3) := by decide +kernel
theorem dX10_years_5 : decode cX10_years 5 = .ok (.iload_n 1, 1) := by decide +kernel
theorem dX10_years_6 : decode cX10_years 6 = .ok (.bipush 20, 2) := by decide +kernel
theorem dX10_years_8 : decode cX10_years 8 = .ok (.if_icmp .gt 12, 3) := by decide +kernel
theorem dX10_years_11 : decode cX10_years 11 = .ok (.iload_n 3, 1) := by decide +kernel
theorem dX10_years_12 : decode cX10_years 12 = .ok (.ifCond .lt 8, 3) := by decide +kernel
theorem dX10_years_15 : decode cX10_years 15 = .ok (.iload_n 3, 1) := by decide +kernel
theorem dX10_years_16 : decode cX10_years 16 = .ok (.iconst 1, 1) := by decide +kernel
theorem dX10_years_17 : decode cX10_years 17 = .ok (.if_icmp .le 5, 3) := by decide +kernel
theorem dX10_years_20 : decode cX10_years 20 = .ok (.iconst (-1), 1) := by decide +kernel
theorem dX10_years_21 : decode cX10_years 21 = .ok (.ireturn, 1) := by decide +kernel
theorem dX10_years_22 : decode cX10_years 22 = .ok (.iload_n 2, 1) := by decide +kernel
theorem dX10_years_23 : decode cX10_years 23 = .ok (.istore 4, 2) := by decide +kernel
theorem dX10_years_25 : decode cX10_years 25 = .ok (.iconst 0, 1) := by decide +kernel
theorem dX10_years_26 : decode cX10_years 26 = .ok (.istore 5, 2) := by decide +kernel
theorem dX10_years_28 : decode cX10_years 28 = .ok (.iconst 0, 1) := by decide +kernel
theorem dX10_years_29 : decode cX10_years 29 = .ok (.istore 6, 2) := by decide +kernel
theorem dX10_years_31 : decode cX10_years 31 = .ok (.iconst 0, 1) := by decide +kernel
theorem dX10_years_32 : decode cX10_years 32 = .ok (.istore 7, 2) := by decide +kernel
theorem dX10_years_34 : decode cX10_years 34 = .ok (.iload 7, 2) := by decide +kernel
theorem dX10_years_36 : decode cX10_years 36 = .ok (.iload_n 1, 1) := by decide +kernel
theorem dX10_years_37 : decode cX10_years 37 = .ok (.if_icmp .ge 117, 3) := by decide +kernel
theorem dX10_years_40 : decode cX10_years 40 = .ok (.aload_n 0, 1) := by decide +kernel
theorem dX10_years_41 : decode cX10_years 41 = .ok (.getfield 66, 3) := by decide +kernel
theorem dX10_years_44 : decode cX10_years 44 = .ok (.aload_n 0, 1) := by decide +kernel
theorem dX10_years_45 : decode cX10_years 45 = .ok (.getfield 62, 3) := by decide +kernel
theorem dX10_years_48 : decode cX10_years 48 = .ok (.invokevirtual 91, 3) := by decide +kernel
theorem dX10_years_51 : decode cX10_years 51 = .ok (.iconst 0, 1) := by decide +kernel
theorem dX10_years_52 : decode cX10_years 52 = .ok (.istore 8, 2) := by decide +kernel
theorem dX10_years_54 : decode cX10_years 54 = .ok (.iload 8, 2) := by decide +kernel
theorem dX10_years_56 : decode cX10_years 56 = .ok (.aload_n 0, 1) := by decide +kernel
theorem dX10_years_57 : decode cX10_years 57 = .ok (.getfield 66, 3) := by decide +kernel
theorem dX10_years_60 : decode cX10_years 60 = .ok (.getfield 152, 3) := by decide +kernel
theorem dX10_years_63 : decode cX10_years 63 = .ok (.if_icmp .ge 44, 3) := by decide +kernel
theorem dX10_years_66 : decode cX10_years 66 = .ok (.iload 4, 2) := by decide +kernel
theorem dX10_years_68 : decode cX10_years 68 = .ok (.ldc_w 278, 3) := by decide +kernel
theorem dX10_years_71 : decode cX10_years 71 = .ok (.imul, 1) := by decide +kernel
theorem dX10_years_72 : decode cX10_years 72 = .ok (.sipush 12345, 3) := by decide +kernel
theorem dX10_years_75 : decode cX10_years 75 = .ok (.iadd, 1) := by decide +kernel
theorem dX10_years_76 : decode cX10_years 76 = .ok (.istore 4, 2) := by decide +kernel
theorem dX10_years_78 : decode cX10_years 78 = .ok (.aload_n 0, 1) := by decide +kernel
theorem dX10_years_79 : decode cX10_years 79 = .ok (.getfield 66, 3) := by decide +kernel
theorem dX10_years_82 : decode cX10_years 82 = .ok (.getfield 118, 3) := by decide +kernel
theorem dX10_years_85 : decode cX10_years 85 = .ok (.iload 8, 2) := by decide +kernel
theorem dX10_years_87 : decode cX10_years 87 = .ok (.iload 4, 2) := by decide +kernel
theorem dX10_years_89 : decode cX10_years 89 = .ok (.ldc_w 279, 3) := by decide +kernel
theorem dX10_years_92 : decode cX10_years 92 = .ok (.iand, 1) := by decide +kernel
theorem dX10_years_93 : decode cX10_years 93 = .ok (.ldc_w 280, 3) := by decide +kernel
theorem dX10_years_96 : decode cX10_years 96 = .ok (.idiv, 1) := by decide +kernel
theorem dX10_years_97 : decode cX10_years 97 = .ok (.bipush 12, 2) := by decide +kernel
theorem dX10_years_99 : decode cX10_years 99 = .ok (.irem, 1) := by decide +kernel
theorem dX10_years_100 : decode cX10_years 100 = .ok (.iastore, 1) := by decide +kernel
theorem dX10_years_101 : decode cX10_years 101 = .ok (.iinc 8 1, 3) := by decide +kernel
theorem dX10_years_104 : decode cX10_years 104 = .ok (.goto (-50), 3) := by decide +kernel
theorem dX10_years_107 : decode cX10_years 107 = .ok (.aload_n 0, 1) := by decide +kernel
theorem dX10_years_108 : decode cX10_years 108 = .ok (.getfield 66, 3) := by decide +kernel
theorem dX10_years_111 : decode cX10_years 111 = .ok (.bipush 12, 2) := by decide +kernel
theorem dX10_years_113 : decode cX10_years 113 = .ok (.invokevirtual 175, 3) := by decide +kernel
theorem dX10_years_116 : decode cX10_years 116 = .ok (.iload 5, 2) := by decide +kernel
theorem dX10_years_118 : decode cX10_years 118 = .ok (.aload_n 0, 1) := by decide +kernel
theorem dX10_years_119 : decode cX10_years 119 = .ok (.getfield 66, 3) := by decide +kernel
theorem dX10_years_122 : decode cX10_years 122 = .ok (.invokevirtual 179, 3) := by decide +kernel
theorem dX10_years_125 : decode cX10_years 125 = .ok (.iadd, 1) := by decide +kernel
theorem dX10_years_126 : decode cX10_years 126 = .ok (.istore 5, 2) := by decide +kernel
theorem dX10_years_128 : decode cX10_years 128 = .ok (.iload 6, 2) := by decide +kernel
theorem dX10_years_130 : decode cX10_years 130 = .ok (.aload_n 0, 1) := by decide +kernel
theorem dX10_years_131 : decode cX10_years 131 = .ok (.getfield 66, 3) := by decide +kernel
theorem dX10_years_134 : decode cX10_years 134 = .ok (.getfield 189, 3) := by decide +kernel
theorem dX10_years_137 : decode cX10_years 137 = .ok (.aload_n 0, 1) := by decide +kernel
theorem dX10_years_138 : decode cX10_years 138 = .ok (.getfield 62, 3) := by decide +kernel
theorem dX10_years_141 : decode cX10_years 141 = .ok (.getfield 189, 3) := by decide +kernel
theorem dX10_years_144 : decode cX10_years 144 = .ok (.isub, 1) := by decide +kernel
theorem dX10_years_145 : decode cX10_years 145 = .ok (.iadd, 1) := by decide +kernel
theorem dX10_years_146 : decode cX10_years 146 = .ok (.istore 6, 2) := by decide +kernel
theorem dX10_years_148 : decode cX10_years 148 = .ok (.iinc 7 1, 3) := by decide +kernel
theorem dX10_years_151 : decode cX10_years 151 = .ok (.goto (-117), 3) := by decide +kernel
theorem dX10_years_154 : decode cX10_years 154 = .ok (.iload_n 3, 1) := by decide +kernel
theorem dX10_years_155 : decode cX10_years 155 = .ok (.ifCond .ne 8, 3) := by decide +kernel
theorem dX10_years_158 : decode cX10_years 158 = .ok (.iload 5, 2) := by decide +kernel
theorem dX10_years_160 : decode cX10_years 160 = .ok (.goto 5, 3) := by decide +kernel
theorem dX10_years_163 : decode cX10_years 163 = .ok (.iload 6, 2) := by decide +kernel
theorem dX10_years_165 : decode cX10_years 165 = .ok (.ireturn, 1) := by decide +kernel
abbrev cX10_image : ByteArray := prog_1_method_35_code
def yX10_image : MethodName := ⟨RX10, "image", "()I"⟩
theorem dX10_image_0 : decode cX10_image 0 = .ok (.aload_n 0, 1) := by decide +kernel
theorem dX10_image_1 : decode cX10_image 1 = .ok (.getfield 69, 3) := by decide +kernel
theorem dX10_image_4 : decode cX10_image 4 = .ok (.aload_n 0, 1) := by decide +kernel
theorem dX10_image_5 : decode cX10_image 5 = .ok (.getfield 62, 3) := by decide +kernel
theorem dX10_image_8 : decode cX10_image 8 = .ok (.invokevirtual 91, 3) := by decide +kernel
theorem dX10_image_11 : decode cX10_image 11 = .ok (.aload_n 0, 1) := by decide +kernel
theorem dX10_image_12 : decode cX10_image 12 = .ok (.iconst 1, 1) := by decide +kernel
theorem dX10_image_13 : decode cX10_image 13 = .ok (.putfield 281, 3) := by decide +kernel
theorem dX10_image_16 : decode cX10_image 16 = .ok (.aload_n 0, 1) := by decide +kernel
theorem dX10_image_17 : decode cX10_image 17 = .ok (.getfield 62, 3) := by decide +kernel
theorem dX10_image_20 : decode cX10_image 20 = .ok (.getfield 268, 3) := by decide +kernel
theorem dX10_image_23 : decode cX10_image 23 = .ok (.ireturn, 1) := by decide +kernel
abbrev cX10_restore : ByteArray := prog_1_method_36_code
def yX10_restore : MethodName := ⟨RX10, "restore", "()I"⟩
theorem dX10_restore_0 : decode cX10_restore 0 = .ok (.aload_n 0, 1) := by decide +kernel
theorem dX10_restore_1 : decode cX10_restore 1 = .ok (.getfield 281, 3) := by decide +kernel
theorem dX10_restore_4 : decode cX10_restore 4 = .ok (.ifCond .ne 6, 3) := by decide +kernel
theorem dX10_restore_7 : decode cX10_restore 7 = .ok (.bipush (-3), 2) := by decide +kernel
theorem dX10_restore_9 : decode cX10_restore 9 = .ok (.ireturn, 1) := by decide +kernel
theorem dX10_restore_10 : decode cX10_restore 10 = .ok (.aload_n 0, 1) := by decide +kernel
theorem dX10_restore_11 : decode cX10_restore 11 = .ok (.getfield 62, 3) := by decide +kernel
theorem dX10_restore_14 : decode cX10_restore 14 = .ok (.aload_n 0, 1) := by decide +kernel
theorem dX10_restore_15 : decode cX10_restore 15 = .ok (.getfield 69, 3) := by decide +kernel
theorem dX10_restore_18 : decode cX10_restore 18 = .ok (.invokevirtual 91, 3) := by decide +kernel
theorem dX10_restore_21 : decode cX10_restore 21 = .ok (.aload_n 0, 1) := by decide +kernel
theorem dX10_restore_22 : decode cX10_restore 22 = .ok (.getfield 62, 3) := by decide +kernel
theorem dX10_restore_25 : decode cX10_restore 25 = .ok (.getfield 268, 3) := by decide +kernel
theorem dX10_restore_28 : decode cX10_restore 28 = .ok (.ireturn, 1) := by decide +kernel
abbrev cX10_count : ByteArray := prog_1_method_37_code
def yX10_count : MethodName := ⟨RX10, "count", "(I)I"⟩
theorem dX10_count_0 : decode cX10_count 0 = .ok (.iload_n 1, 1) := by decide +kernel
theorem dX10_count_1 : decode cX10_count 1 = .ok (.tableswitch 99 0 6 #[43, 51, 59, 67, 75, 83, 91], 43) := by decide +kernel
theorem dX10_count_44 : decode cX10_count 44 = .ok (.aload_n 0, 1) := by decide +kernel
theorem dX10_count_45 : decode cX10_count 45 = .ok (.getfield 62, 3) := by decide +kernel
theorem dX10_count_48 : decode cX10_count 48 = .ok (.getfield 152, 3) := by decide +kernel
theorem dX10_count_51 : decode cX10_count 51 = .ok (.ireturn, 1) := by decide +kernel
theorem dX10_count_52 : decode cX10_count 52 = .ok (.aload_n 0, 1) := by decide +kernel
theorem dX10_count_53 : decode cX10_count 53 = .ok (.getfield 62, 3) := by decide +kernel
theorem dX10_count_56 : decode cX10_count 56 = .ok (.getfield 268, 3) := by decide +kernel
theorem dX10_count_59 : decode cX10_count 59 = .ok (.ireturn, 1) := by decide +kernel
theorem dX10_count_60 : decode cX10_count 60 = .ok (.aload_n 0, 1) := by decide +kernel
theorem dX10_count_61 : decode cX10_count 61 = .ok (.getfield 62, 3) := by decide +kernel
theorem dX10_count_64 : decode cX10_count 64 = .ok (.getfield 186, 3) := by decide +kernel
theorem dX10_count_67 : decode cX10_count 67 = .ok (.ireturn, 1) := by decide +kernel
theorem dX10_count_68 : decode cX10_count 68 = .ok (.aload_n 0, 1) := by decide +kernel
theorem dX10_count_69 : decode cX10_count 69 = .ok (.getfield 62, 3) := by decide +kernel
theorem dX10_count_72 : decode cX10_count 72 = .ok (.getfield 189, 3) := by decide +kernel
theorem dX10_count_75 : decode cX10_count 75 = .ok (.ireturn, 1) := by decide +kernel
theorem dX10_count_76 : decode cX10_count 76 = .ok (.aload_n 0, 1) := by decide +kernel
theorem dX10_count_77 : decode cX10_count 77 = .ok (.getfield 62, 3) := by decide +kernel
theorem dX10_count_80 : decode cX10_count 80 = .ok (.invokevirtual 179, 3) := by decide +kernel
theorem dX10_count_83 : decode cX10_count 83 = .ok (.ireturn, 1) := by decide +kernel
theorem dX10_count_84 : decode cX10_count 84 = .ok (.aload_n 0, 1) := by decide +kernel
theorem dX10_count_85 : decode cX10_count 85 = .ok (.getfield 62, 3) := by decide +kernel
theorem dX10_count_88 : decode cX10_count 88 = .ok (.getfield 208, 3) := by decide +kernel
theorem dX10_count_91 : decode cX10_count 91 = .ok (.ireturn, 1) := by decide +kernel
theorem dX10_count_92 : decode cX10_count 92 = .ok (.aload_n 0, 1) := by decide +kernel
theorem dX10_count_93 : decode cX10_count 93 = .ok (.getfield 62, 3) := by decide +kernel
theorem dX10_count_96 : decode cX10_count 96 = .ok (.getfield 285, 3) := by decide +kernel
theorem dX10_count_99 : decode cX10_count 99 = .ok (.ireturn, 1) := by decide +kernel
theorem dX10_count_100 : decode cX10_count 100 = .ok (.iconst (-1), 1) := by decide +kernel
theorem dX10_count_101 : decode cX10_count 101 = .ok (.ireturn, 1) := by decide +kernel
abbrev cX10_keep : ByteArray := prog_1_method_38_code
def yX10_keep : MethodName := ⟨RX10, "keep", "(IIII)I"⟩
theorem dX10_keep_0 : decode cX10_keep 0 = .ok (.iload_n 1, 1) := by decide +kernel
theorem dX10_keep_1 : decode cX10_keep 1 = .ok (.invokestatic 139, 3) := by decide +kernel
theorem dX10_keep_4 : decode cX10_keep 4 = .ok (.ifCond .eq 12, 3) := by decide +kernel
theorem dX10_keep_7 : decode cX10_keep 7 = .ok (.iload_n 2, 1) := by decide +kernel
theorem dX10_keep_8 : decode cX10_keep 8 = .ok (.ifCond .lt 8, 3) := by decide +kernel
theorem dX10_keep_11 : decode cX10_keep 11 = .ok (.iload_n 2, 1) := by decide +kernel
theorem dX10_keep_12 : decode cX10_keep 12 = .ok (.iconst 1, 1) := by decide +kernel
theorem dX10_keep_13 : decode cX10_keep 13 = .ok (.if_icmp .le 5, 3) := by decide +kernel
theorem dX10_keep_16 : decode cX10_keep 16 = .ok (.iconst (-1), 1) := by decide +kernel
theorem dX10_keep_17 : decode cX10_keep 17 = .ok (.ireturn, 1) := by decide +kernel
theorem dX10_keep_18 : decode cX10_keep 18 = .ok (.iload_n 2, 1) := by decide +kernel
theorem dX10_keep_19 : decode cX10_keep 19 = .ok (.ifCond .ne 15, 3) := by decide +kernel
theorem dX10_keep_22 : decode cX10_keep 22 = .ok (.aload_n 0, 1) := by decide +kernel
theorem dX10_keep_23 : decode cX10_keep 23 = .ok (.getfield 74, 3) := by decide +kernel
theorem dX10_keep_26 : decode cX10_keep 26 = .ok (.iload_n 1, 1) := by decide +kernel
theorem dX10_keep_27 : decode cX10_keep 27 = .ok (.aaload, 1) := by decide +kernel
theorem dX10_keep_28 : decode cX10_keep 28 = .ok (.iconst 0, 1) := by decide +kernel
theorem dX10_keep_29 : decode cX10_keep 29 = .ok (.putfield 288, 3) := by decide +kernel
theorem dX10_keep_32 : decode cX10_keep 32 = .ok (.iconst 0, 1) := by decide +kernel
theorem dX10_keep_33 : decode cX10_keep 33 = .ok (.ireturn, 1) := by decide +kernel
theorem dX10_keep_34 : decode cX10_keep 34 = .ok (.iload_n 3, 1) := by decide +kernel
theorem dX10_keep_35 : decode cX10_keep 35 = .ok (.invokestatic 291, 3) := by decide +kernel
theorem dX10_keep_38 : decode cX10_keep 38 = .ok (.ifCond .eq 11, 3) := by decide +kernel
theorem dX10_keep_41 : decode cX10_keep 41 = .ok (.iload 4, 2) := by decide +kernel
theorem dX10_keep_43 : decode cX10_keep 43 = .ok (.invokestatic 294, 3) := by decide +kernel
theorem dX10_keep_46 : decode cX10_keep 46 = .ok (.ifCond .ne 5, 3) := by decide +kernel
theorem dX10_keep_49 : decode cX10_keep 49 = .ok (.iconst (-1), 1) := by decide +kernel
theorem dX10_keep_50 : decode cX10_keep 50 = .ok (.ireturn, 1) := by decide +kernel
theorem dX10_keep_51 : decode cX10_keep 51 = .ok (.aload_n 0, 1) := by decide +kernel
theorem dX10_keep_52 : decode cX10_keep 52 = .ok (.getfield 74, 3) := by decide +kernel
theorem dX10_keep_55 : decode cX10_keep 55 = .ok (.iload_n 1, 1) := by decide +kernel
theorem dX10_keep_56 : decode cX10_keep 56 = .ok (.aaload, 1) := by decide +kernel
theorem dX10_keep_57 : decode cX10_keep 57 = .ok (.iload_n 3, 1) := by decide +kernel
theorem dX10_keep_58 : decode cX10_keep 58 = .ok (.iload 4, 2) := by decide +kernel
theorem dX10_keep_60 : decode cX10_keep 60 = .ok (.invokevirtual 297, 3) := by decide +kernel
theorem dX10_keep_63 : decode cX10_keep 63 = .ok (.iconst 0, 1) := by decide +kernel
theorem dX10_keep_64 : decode cX10_keep 64 = .ok (.ireturn, 1) := by decide +kernel
abbrev cX10_row : ByteArray := prog_1_method_39_code
def yX10_row : MethodName := ⟨RX10, "row", "(III)I"⟩
theorem dX10_row_0 : decode cX10_row 0 = .ok (.iload_n 1, 1) := by decide +kernel
theorem dX10_row_1 : decode cX10_row 1 = .ok (.invokestatic 139, 3) := by decide +kernel
theorem dX10_row_4 : decode cX10_row 4 = .ok (.ifCond .eq 18, 3) := by decide +kernel
theorem dX10_row_7 : decode cX10_row 7 = .ok (.iload_n 2, 1) := by decide +kernel
theorem dX10_row_8 : decode cX10_row 8 = .ok (.ifCond .lt 14, 3) := by decide +kernel
theorem dX10_row_11 : decode cX10_row 11 = .ok (.iload_n 2, 1) := by decide +kernel
theorem dX10_row_12 : decode cX10_row 12 = .ok (.iconst 3, 1) := by decide +kernel
theorem dX10_row_13 : decode cX10_row 13 = .ok (.if_icmp .ge 9, 3) := by decide +kernel
theorem dX10_row_16 : decode cX10_row 16 = .ok (.iload_n 3, 1) := by decide +kernel
theorem dX10_row_17 : decode cX10_row 17 = .ok (.bipush 100, 2) := by decide +kernel
theorem dX10_row_19 : decode cX10_row 19 = .ok (.if_icmp .le 5, 3) := by decide +kernel
theorem dX10_row_22 : decode cX10_row 22 = .ok (.iconst (-1), 1) := by decide +kernel
theorem dX10_row_23 : decode cX10_row 23 = .ok (.ireturn, 1) := by decide +kernel
theorem dX10_row_24 : decode cX10_row 24 = .ok (.iload_n 3, 1) := by decide +kernel
theorem dX10_row_25 : decode cX10_row 25 = .ok (.ifCond .ge 6, 3) := by decide +kernel
theorem dX10_row_28 : decode cX10_row 28 = .ok (.bipush (-14), 2) := by decide +kernel
theorem dX10_row_30 : decode cX10_row 30 = .ok (.ireturn, 1) := by decide +kernel
theorem dX10_row_31 : decode cX10_row 31 = .ok (.aload_n 0, 1) := by decide +kernel
theorem dX10_row_32 : decode cX10_row 32 = .ok (.getfield 74, 3) := by decide +kernel
theorem dX10_row_35 : decode cX10_row 35 = .ok (.iload_n 1, 1) := by decide +kernel
theorem dX10_row_36 : decode cX10_row 36 = .ok (.aaload, 1) := by decide +kernel
theorem dX10_row_37 : decode cX10_row 37 = .ok (.iload_n 2, 1) := by decide +kernel
theorem dX10_row_38 : decode cX10_row 38 = .ok (.iload_n 3, 1) := by decide +kernel
theorem dX10_row_39 : decode cX10_row 39 = .ok (.invokevirtual 301, 3) := by decide +kernel
theorem dX10_row_42 : decode cX10_row 42 = .ok (.iconst 0, 1) := by decide +kernel
theorem dX10_row_43 : decode cX10_row 43 = .ok (.ireturn, 1) := by decide +kernel
abbrev cX10_put : ByteArray := prog_1_method_40_code
def yX10_put : MethodName := ⟨RX10, "put", "(III)I"⟩
theorem dX10_put_0 : decode cX10_put 0 = .ok (.aload_n 0, 1) := by decide +kernel
theorem dX10_put_1 : decode cX10_put 1 = .ok (.iload_n 1, 1) := by decide +kernel
theorem dX10_put_2 : decode cX10_put 2 = .ok (.invokevirtual 79, 3) := by decide +kernel
theorem dX10_put_5 : decode cX10_put 5 = .ok (.istore 4, 2) := by decide +kernel
theorem dX10_put_7 : decode cX10_put 7 = .ok (.iload 4, 2) := by decide +kernel
theorem dX10_put_9 : decode cX10_put 9 = .ok (.ifCond .eq 6, 3) := by decide +kernel
theorem dX10_put_12 : decode cX10_put 12 = .ok (.iload 4, 2) := by decide +kernel
theorem dX10_put_14 : decode cX10_put 14 = .ok (.ireturn, 1) := by decide +kernel
theorem dX10_put_15 : decode cX10_put 15 = .ok (.aload_n 0, 1) := by decide +kernel
theorem dX10_put_16 : decode cX10_put 16 = .ok (.getfield 74, 3) := by decide +kernel
theorem dX10_put_19 : decode cX10_put 19 = .ok (.iload_n 1, 1) := by decide +kernel
theorem dX10_put_20 : decode cX10_put 20 = .ok (.aaload, 1) := by decide +kernel
theorem dX10_put_21 : decode cX10_put 21 = .ok (.iload_n 2, 1) := by decide +kernel
theorem dX10_put_22 : decode cX10_put 22 = .ok (.iconst 1, 1) := by decide +kernel
theorem dX10_put_23 : decode cX10_put 23 = .ok (.invokevirtual 304, 3) := by decide +kernel
theorem dX10_put_26 : decode cX10_put 26 = .ok (.ifCond .ne 6, 3) := by decide +kernel
theorem dX10_put_29 : decode cX10_put 29 = .ok (.bipush (-13), 2) := by decide +kernel
theorem dX10_put_31 : decode cX10_put 31 = .ok (.ireturn, 1) := by decide +kernel
theorem dX10_put_32 : decode cX10_put 32 = .ok (.aload_n 0, 1) := by decide +kernel
theorem dX10_put_33 : decode cX10_put 33 = .ok (.getfield 74, 3) := by decide +kernel
theorem dX10_put_36 : decode cX10_put 36 = .ok (.iload_n 1, 1) := by decide +kernel
theorem dX10_put_37 : decode cX10_put 37 = .ok (.aaload, 1) := by decide +kernel
theorem dX10_put_38 : decode cX10_put 38 = .ok (.iload_n 2, 1) := by decide +kernel
theorem dX10_put_39 : decode cX10_put 39 = .ok (.iload_n 3, 1) := by decide +kernel
theorem dX10_put_40 : decode cX10_put 40 = .ok (.invokevirtual 308, 3) := by decide +kernel
theorem dX10_put_43 : decode cX10_put 43 = .ok (.iconst 0, 1) := by decide +kernel
theorem dX10_put_44 : decode cX10_put 44 = .ok (.ireturn, 1) := by decide +kernel
abbrev cX10_copy : ByteArray := prog_1_method_42_code
def yX10_copy : MethodName := ⟨RX10, "copy", "(IIIII)I"⟩
theorem dX10_copy_0 : decode cX10_copy 0 = .ok (.iload_n 1, 1) := by decide +kernel
theorem dX10_copy_1 : decode cX10_copy 1 = .ok (.invokestatic 139, 3) := by decide +kernel
theorem dX10_copy_4 : decode cX10_copy 4 = .ok (.ifCond .eq 10, 3) := by decide +kernel
theorem dX10_copy_7 : decode cX10_copy 7 = .ok (.iload_n 3, 1) := by decide +kernel
theorem dX10_copy_8 : decode cX10_copy 8 = .ok (.invokestatic 139, 3) := by decide +kernel
theorem dX10_copy_11 : decode cX10_copy 11 = .ok (.ifCond .ne 5, 3) := by decide +kernel
theorem dX10_copy_14 : decode cX10_copy 14 = .ok (.iconst (-1), 1) := by decide +kernel
theorem dX10_copy_15 : decode cX10_copy 15 = .ok (.ireturn, 1) := by decide +kernel
theorem dX10_copy_16 : decode cX10_copy 16 = .ok (.aload_n 0, 1) := by decide +kernel
theorem dX10_copy_17 : decode cX10_copy 17 = .ok (.getfield 74, 3) := by decide +kernel
theorem dX10_copy_20 : decode cX10_copy 20 = .ok (.iload_n 1, 1) := by decide +kernel
theorem dX10_copy_21 : decode cX10_copy 21 = .ok (.aaload, 1) := by decide +kernel
theorem dX10_copy_22 : decode cX10_copy 22 = .ok (.getfield 288, 3) := by decide +kernel
theorem dX10_copy_25 : decode cX10_copy 25 = .ok (.ifCond .eq 15, 3) := by decide +kernel
theorem dX10_copy_28 : decode cX10_copy 28 = .ok (.aload_n 0, 1) := by decide +kernel
theorem dX10_copy_29 : decode cX10_copy 29 = .ok (.getfield 74, 3) := by decide +kernel
theorem dX10_copy_32 : decode cX10_copy 32 = .ok (.iload_n 3, 1) := by decide +kernel
theorem dX10_copy_33 : decode cX10_copy 33 = .ok (.aaload, 1) := by decide +kernel
theorem dX10_copy_34 : decode cX10_copy 34 = .ok (.getfield 288, 3) := by decide +kernel
theorem dX10_copy_37 : decode cX10_copy 37 = .ok (.ifCond .ne 6, 3) := by decide +kernel
theorem dX10_copy_40 : decode cX10_copy 40 = .ok (.bipush (-11), 2) := by decide +kernel
theorem dX10_copy_42 : decode cX10_copy 42 = .ok (.ireturn, 1) := by decide +kernel
theorem dX10_copy_43 : decode cX10_copy 43 = .ok (.aload_n 0, 1) := by decide +kernel
theorem dX10_copy_44 : decode cX10_copy 44 = .ok (.iload_n 1, 1) := by decide +kernel
theorem dX10_copy_45 : decode cX10_copy 45 = .ok (.invokevirtual 79, 3) := by decide +kernel
theorem dX10_copy_48 : decode cX10_copy 48 = .ok (.ifCond .ne 32, 3) := by decide +kernel
theorem dX10_copy_51 : decode cX10_copy 51 = .ok (.aload_n 0, 1) := by decide +kernel
theorem dX10_copy_52 : decode cX10_copy 52 = .ok (.iload_n 3, 1) := by decide +kernel
theorem dX10_copy_53 : decode cX10_copy 53 = .ok (.invokevirtual 79, 3) := by decide +kernel
theorem dX10_copy_56 : decode cX10_copy 56 = .ok (.ifCond .ne 24, 3) := by decide +kernel
theorem dX10_copy_59 : decode cX10_copy 59 = .ok (.aload_n 0, 1) := by decide +kernel
theorem dX10_copy_60 : decode cX10_copy 60 = .ok (.getfield 74, 3) := by decide +kernel
theorem dX10_copy_63 : decode cX10_copy 63 = .ok (.iload_n 1, 1) := by decide +kernel
theorem dX10_copy_64 : decode cX10_copy 64 = .ok (.aaload, 1) := by decide +kernel
theorem dX10_copy_65 : decode cX10_copy 65 = .ok (.getfield 83, 3) := by decide +kernel
theorem dX10_copy_68 : decode cX10_copy 68 = .ok (.aload_n 0, 1) := by decide +kernel
theorem dX10_copy_69 : decode cX10_copy 69 = .ok (.getfield 74, 3) := by decide +kernel
theorem dX10_copy_72 : decode cX10_copy 72 = .ok (.iload_n 3, 1) := by decide +kernel
theorem dX10_copy_73 : decode cX10_copy 73 = .ok (.aaload, 1) := by decide +kernel
theorem dX10_copy_74 : decode cX10_copy 74 = .ok (.getfield 83, 3) := by decide +kernel
theorem dX10_copy_77 : decode cX10_copy 77 = .ok (.if_icmp .eq 6, 3) := by decide +kernel
theorem dX10_copy_80 : decode cX10_copy 80 = .ok (.bipush (-12), 2) := by decide +kernel
theorem dX10_copy_82 : decode cX10_copy 82 = .ok (.ireturn, 1) := by decide +kernel
theorem dX10_copy_83 : decode cX10_copy 83 = .ok (.aload_n 0, 1) := by decide +kernel
theorem dX10_copy_84 : decode cX10_copy 84 = .ok (.getfield 74, 3) := by decide +kernel
theorem dX10_copy_87 : decode cX10_copy 87 = .ok (.iload_n 1, 1) := by decide +kernel
theorem dX10_copy_88 : decode cX10_copy 88 = .ok (.aaload, 1) := by decide +kernel
theorem dX10_copy_89 : decode cX10_copy 89 = .ok (.iload_n 2, 1) := by decide +kernel
theorem dX10_copy_90 : decode cX10_copy 90 = .ok (.iload 5, 2) := by decide +kernel
theorem dX10_copy_92 : decode cX10_copy 92 = .ok (.invokevirtual 304, 3) := by decide +kernel
theorem dX10_copy_95 : decode cX10_copy 95 = .ok (.ifCond .eq 19, 3) := by decide +kernel
theorem dX10_copy_98 : decode cX10_copy 98 = .ok (.aload_n 0, 1) := by decide +kernel
theorem dX10_copy_99 : decode cX10_copy 99 = .ok (.getfield 74, 3) := by decide +kernel
theorem dX10_copy_102 : decode cX10_copy 102 = .ok (.iload_n 3, 1) := by decide +kernel
theorem dX10_copy_103 : decode cX10_copy 103 = .ok (.aaload, 1) := by decide +kernel
theorem dX10_copy_104 : decode cX10_copy 104 = .ok (.iload 4, 2) := by decide +kernel
theorem dX10_copy_106 : decode cX10_copy 106 = .ok (.iload 5, 2) := by decide +kernel
theorem dX10_copy_108 : decode cX10_copy 108 = .ok (.invokevirtual 304, 3) := by decide +kernel
theorem dX10_copy_111 : decode cX10_copy 111 = .ok (.ifCond .ne 6, 3) := by decide +kernel
theorem dX10_copy_114 : decode cX10_copy 114 = .ok (.bipush (-13), 2) := by decide +kernel
theorem dX10_copy_116 : decode cX10_copy 116 = .ok (.ireturn, 1) := by decide +kernel
theorem dX10_copy_117 : decode cX10_copy 117 = .ok (.aload_n 0, 1) := by decide +kernel
theorem dX10_copy_118 : decode cX10_copy 118 = .ok (.getfield 74, 3) := by decide +kernel
theorem dX10_copy_121 : decode cX10_copy 121 = .ok (.iload_n 1, 1) := by decide +kernel
theorem dX10_copy_122 : decode cX10_copy 122 = .ok (.aaload, 1) := by decide +kernel
theorem dX10_copy_123 : decode cX10_copy 123 = .ok (.getfield 102, 3) := by decide +kernel
theorem dX10_copy_126 : decode cX10_copy 126 = .ok (.iload_n 2, 1) := by decide +kernel
theorem dX10_copy_127 : decode cX10_copy 127 = .ok (.aload_n 0, 1) := by decide +kernel
theorem dX10_copy_128 : decode cX10_copy 128 = .ok (.getfield 74, 3) := by decide +kernel
theorem dX10_copy_131 : decode cX10_copy 131 = .ok (.iload_n 3, 1) := by decide +kernel
theorem dX10_copy_132 : decode cX10_copy 132 = .ok (.aaload, 1) := by decide +kernel
theorem dX10_copy_133 : decode cX10_copy 133 = .ok (.getfield 102, 3) := by decide +kernel
theorem dX10_copy_136 : decode cX10_copy 136 = .ok (.iload 4, 2) := by decide +kernel
theorem dX10_copy_138 : decode cX10_copy 138 = .ok (.iload 5, 2) := by decide +kernel
theorem dX10_copy_140 : decode cX10_copy 140 = .ok (.invokestatic 325, 3) := by decide +kernel
theorem dX10_copy_143 : decode cX10_copy 143 = .ok (.iload 5, 2) := by decide +kernel
theorem dX10_copy_145 : decode cX10_copy 145 = .ok (.ireturn, 1) := by decide +kernel
abbrev cX10_cost : ByteArray := prog_1_method_43_code
def yX10_cost : MethodName := ⟨RX10, "cost", "(I)I"⟩
theorem dX10_cost_0 : decode cX10_cost 0 = .ok (.aload_n 0, 1) := by decide +kernel
theorem dX10_cost_1 : decode cX10_cost 1 = .ok (.iload_n 1, 1) := by decide +kernel
theorem dX10_cost_2 : decode cX10_cost 2 = .ok (.invokevirtual 145, 3) := by decide +kernel
theorem dX10_cost_5 : decode cX10_cost 5 = .ok (.istore_n 2, 1) := by decide +kernel
theorem dX10_cost_6 : decode cX10_cost 6 = .ok (.iload_n 2, 1) := by decide +kernel
theorem dX10_cost_7 : decode cX10_cost 7 = .ok (.ifCond .eq 5, 3) := by decide +kernel
theorem dX10_cost_10 : decode cX10_cost 10 = .ok (.iload_n 2, 1) := by decide +kernel
theorem dX10_cost_11 : decode cX10_cost 11 = .ok (.ireturn, 1) := by decide +kernel
theorem dX10_cost_12 : decode cX10_cost 12 = .ok (.aload_n 0, 1) := by decide +kernel
theorem dX10_cost_13 : decode cX10_cost 13 = .ok (.getfield 53, 3) := by decide +kernel
theorem dX10_cost_16 : decode cX10_cost 16 = .ok (.aload_n 0, 1) := by decide +kernel
theorem dX10_cost_17 : decode cX10_cost 17 = .ok (.getfield 74, 3) := by decide +kernel
theorem dX10_cost_20 : decode cX10_cost 20 = .ok (.iload_n 1, 1) := by decide +kernel
theorem dX10_cost_21 : decode cX10_cost 21 = .ok (.aaload, 1) := by decide +kernel
theorem dX10_cost_22 : decode cX10_cost 22 = .ok (.getfield 148, 3) := by decide +kernel
theorem dX10_cost_25 : decode cX10_cost 25 = .ok (.aaload, 1) := by decide +kernel
theorem dX10_cost_26 : decode cX10_cost 26 = .ok (.aload_n 0, 1) := by decide +kernel
theorem dX10_cost_27 : decode cX10_cost 27 = .ok (.getfield 74, 3) := by decide +kernel
theorem dX10_cost_30 : decode cX10_cost 30 = .ok (.iload_n 1, 1) := by decide +kernel
theorem dX10_cost_31 : decode cX10_cost 31 = .ok (.aaload, 1) := by decide +kernel
theorem dX10_cost_32 : decode cX10_cost 32 = .ok (.getfield 150, 3) := by decide +kernel
theorem dX10_cost_35 : decode cX10_cost 35 = .ok (.invokevirtual 331, 3) := by decide +kernel
theorem dX10_cost_38 : decode cX10_cost 38 = .ok (.ireturn, 1) := by decide +kernel
abbrev cX11_thrown : ByteArray := prog_13_method_2_code
def yX11_thrown : MethodName := ⟨RX11, "thrown", "()I"⟩
theorem dX11_thrown_0 : decode cX11_thrown 0 = .ok (.aload_n 0, 1) := by decide +kernel
theorem dX11_thrown_1 : decode cX11_thrown 1 = .ok (.getfield 68, 3) := by decide +kernel
theorem dX11_thrown_4 : decode cX11_thrown 4 = .ok (.ireturn, 1) := by decide +kernel
abbrev cX11_in : ByteArray := prog_13_method_3_code
def yX11_in : MethodName := ⟨RX11, "in", "(JJJ)Z"⟩
theorem dX11_in_0 : decode cX11_in 0 = .ok (.lload_n 0, 1) := by decide +kernel
theorem dX11_in_1 : decode cX11_in 1 = .ok (.lload_n 2, 1) := by decide +kernel
theorem dX11_in_2 : decode cX11_in 2 = .ok (.lcmp, 1) := by decide +kernel
theorem dX11_in_3 : decode cX11_in 3 = .ok (.ifCond .lt 14, 3) := by decide +kernel
theorem dX11_in_6 : decode cX11_in 6 = .ok (.lload_n 0, 1) := by decide +kernel
theorem dX11_in_7 : decode cX11_in 7 = .ok (.lload 4, 2) := by decide +kernel
theorem dX11_in_9 : decode cX11_in 9 = .ok (.lcmp, 1) := by decide +kernel
theorem dX11_in_10 : decode cX11_in 10 = .ok (.ifCond .gt 7, 3) := by decide +kernel
theorem dX11_in_13 : decode cX11_in 13 = .ok (.iconst 1, 1) := by decide +kernel
theorem dX11_in_14 : decode cX11_in 14 = .ok (.goto 4, 3) := by decide +kernel
theorem dX11_in_17 : decode cX11_in 17 = .ok (.iconst 0, 1) := by decide +kernel
theorem dX11_in_18 : decode cX11_in 18 = .ok (.ireturn, 1) := by decide +kernel
abbrev cX11_hasBit : ByteArray := prog_13_method_4_code
def yX11_hasBit : MethodName := ⟨RX11, "hasBit", "(II)Z"⟩
theorem dX11_hasBit_0 : decode cX11_hasBit 0 = .ok (.iload_n 0, 1) := by decide +kernel
theorem dX11_hasBit_1 : decode cX11_hasBit 1 = .ok (.iload_n 1, 1) := by decide +kernel
theorem dX11_hasBit_2 : decode cX11_hasBit 2 = .ok (.ishr, 1) := by decide +kernel
theorem dX11_hasBit_3 : decode cX11_hasBit 3 = .ok (.iconst 1, 1) := by decide +kernel
theorem dX11_hasBit_4 : decode cX11_hasBit 4 = .ok (.iand, 1) := by decide +kernel
theorem dX11_hasBit_5 : decode cX11_hasBit 5 = .ok (.iconst 1, 1) := by decide +kernel
theorem dX11_hasBit_6 : decode cX11_hasBit 6 = .ok (.if_icmp .ne 7, 3) := by decide +kernel
theorem dX11_hasBit_9 : decode cX11_hasBit 9 = .ok (.iconst 1, 1) := by decide +kernel
theorem dX11_hasBit_10 : decode cX11_hasBit 10 = .ok (.goto 4, 3) := by decide +kernel
theorem dX11_hasBit_13 : decode cX11_hasBit 13 = .ok (.iconst 0, 1) := by decide +kernel
theorem dX11_hasBit_14 : decode cX11_hasBit 14 = .ok (.ireturn, 1) := by decide +kernel
abbrev cX11_isPlace : ByteArray := prog_13_method_5_code
def yX11_isPlace : MethodName := ⟨RX11, "isPlace", "(I)Z"⟩
theorem dX11_isPlace_0 : decode cX11_isPlace 0 = .ok (.iload_n 0, 1) := by decide +kernel
theorem dX11_isPlace_1 : decode cX11_isPlace 1 = .ok (.i2l, 1) := by decide +kernel
theorem dX11_isPlace_2 : decode cX11_isPlace 2 = .ok (.lconst 0, 1) := by decide +kernel
theorem dX11_isPlace_3 : decode cX11_isPlace 3 = .ok (.ldc2_w 78, 3) := by decide +kernel
theorem dX11_isPlace_6 : decode cX11_isPlace 6 = .ok (.invokestatic 80, 3) := by decide +kernel
theorem dX11_isPlace_9 : decode cX11_isPlace 9 = .ok (.ireturn, 1) := by decide +kernel
abbrev cX11_isOne : ByteArray := prog_13_method_6_code
def yX11_isOne : MethodName := ⟨RX11, "isOne", "(I)Z"⟩
theorem dX11_isOne_0 : decode cX11_isOne 0 = .ok (.iload_n 1, 1) := by decide +kernel
theorem dX11_isOne_1 : decode cX11_isOne 1 = .ok (.i2l, 1) := by decide +kernel
theorem dX11_isOne_2 : decode cX11_isOne 2 = .ok (.lconst 0, 1) := by decide +kernel
theorem dX11_isOne_3 : decode cX11_isOne 3 = .ok (.aload_n 0, 1) := by decide +kernel
theorem dX11_isOne_4 : decode cX11_isOne 4 = .ok (.getfield 84, 3) := by decide +kernel
theorem dX11_isOne_7 : decode cX11_isOne 7 = .ok (.iconst 1, 1) := by decide +kernel
theorem dX11_isOne_8 : decode cX11_isOne 8 = .ok (.isub, 1) := by decide +kernel
theorem dX11_isOne_9 : decode cX11_isOne 9 = .ok (.i2l, 1) := by decide +kernel
theorem dX11_isOne_10 : decode cX11_isOne 10 = .ok (.invokestatic 80, 3) := by decide +kernel
theorem dX11_isOne_13 : decode cX11_isOne 13 = .ok (.ireturn, 1) := by decide +kernel
abbrev cX11_held : ByteArray := prog_13_method_7_code
def yX11_held : MethodName := ⟨RX11, "held", "(II)I"⟩
theorem dX11_held_0 : decode cX11_held 0 = .ok (.iload_n 0, 1) := by decide +kernel
theorem dX11_held_1 : decode cX11_held 1 = .ok (.ifCond .ge 7, 3) := by decide +kernel
theorem dX11_held_4 : decode cX11_held 4 = .ok (.iconst 0, 1) := by decide +kernel
theorem dX11_held_5 : decode cX11_held 5 = .ok (.goto 13, 3) := by decide +kernel
theorem dX11_held_8 : decode cX11_held 8 = .ok (.iload_n 0, 1) := by decide +kernel
theorem dX11_held_9 : decode cX11_held 9 = .ok (.iload_n 1, 1) := by decide +kernel
theorem dX11_held_10 : decode cX11_held 10 = .ok (.if_icmp .le 7, 3) := by decide +kernel
theorem dX11_held_13 : decode cX11_held 13 = .ok (.iload_n 1, 1) := by decide +kernel
theorem dX11_held_14 : decode cX11_held 14 = .ok (.goto 4, 3) := by decide +kernel
theorem dX11_held_17 : decode cX11_held 17 = .ok (.iload_n 0, 1) := by decide +kernel
theorem dX11_held_18 : decode cX11_held 18 = .ok (.ireturn, 1) := by decide +kernel
abbrev cX11_farOf : ByteArray := prog_13_method_8_code
def yX11_farOf : MethodName := ⟨RX11, "farOf", "(II)I"⟩
theorem dX11_farOf_0 : decode cX11_farOf 0 = .ok (.iload_n 0, 1) := by decide +kernel
theorem dX11_farOf_1 : decode cX11_farOf 1 = .ok (.iload_n 1, 1) := by decide +kernel
theorem dX11_farOf_2 : decode cX11_farOf 2 = .ok (.if_icmp .ge 9, 3) := by decide +kernel
theorem dX11_farOf_5 : decode cX11_farOf 5 = .ok (.iload_n 1, 1) := by decide +kernel
theorem dX11_farOf_6 : decode cX11_farOf 6 = .ok (.iload_n 0, 1) := by decide +kernel
theorem dX11_farOf_7 : decode cX11_farOf 7 = .ok (.isub, 1) := by decide +kernel
theorem dX11_farOf_8 : decode cX11_farOf 8 = .ok (.goto 6, 3) := by decide +kernel
theorem dX11_farOf_11 : decode cX11_farOf 11 = .ok (.iload_n 0, 1) := by decide +kernel
theorem dX11_farOf_12 : decode cX11_farOf 12 = .ok (.iload_n 1, 1) := by decide +kernel
theorem dX11_farOf_13 : decode cX11_farOf 13 = .ok (.isub, 1) := by decide +kernel
theorem dX11_farOf_14 : decode cX11_farOf 14 = .ok (.istore_n 2, 1) := by decide +kernel
theorem dX11_farOf_15 : decode cX11_farOf 15 = .ok (.iload_n 2, 1) := by decide +kernel
theorem dX11_farOf_16 : decode cX11_farOf 16 = .ok (.bipush 6, 2) := by decide +kernel
theorem dX11_farOf_18 : decode cX11_farOf 18 = .ok (.if_icmp .le 10, 3) := by decide +kernel
theorem dX11_farOf_21 : decode cX11_farOf 21 = .ok (.bipush 12, 2) := by decide +kernel
theorem dX11_farOf_23 : decode cX11_farOf 23 = .ok (.iload_n 2, 1) := by decide +kernel
theorem dX11_farOf_24 : decode cX11_farOf 24 = .ok (.isub, 1) := by decide +kernel
theorem dX11_farOf_25 : decode cX11_farOf 25 = .ok (.goto 4, 3) := by decide +kernel
theorem dX11_farOf_28 : decode cX11_farOf 28 = .ok (.iload_n 2, 1) := by decide +kernel
theorem dX11_farOf_29 : decode cX11_farOf 29 = .ok (.ireturn, 1) := by decide +kernel
abbrev cX11_wayOf : ByteArray := prog_13_method_9_code
def yX11_wayOf : MethodName := ⟨RX11, "wayOf", "(II)I"⟩
theorem dX11_wayOf_0 : decode cX11_wayOf 0 = .ok (.aload_n 0, 1) := by decide +kernel
theorem dX11_wayOf_1 : decode cX11_wayOf 1 = .ok (.getfield 16, 3) := by decide +kernel
theorem dX11_wayOf_4 : decode cX11_wayOf 4 = .ok (.iload_n 1, 1) := by decide +kernel
theorem dX11_wayOf_5 : decode cX11_wayOf 5 = .ok (.iaload, 1) := by decide +kernel
theorem dX11_wayOf_6 : decode cX11_wayOf 6 = .ok (.iload_n 2, 1) := by decide +kernel
theorem dX11_wayOf_7 : decode cX11_wayOf 7 = .ok (.invokestatic 87, 3) := by decide +kernel
theorem dX11_wayOf_10 : decode cX11_wayOf 10 = .ok (.istore_n 3, 1) := by decide +kernel
theorem dX11_wayOf_11 : decode cX11_wayOf 11 = .ok (.aload_n 0, 1) := by decide +kernel
theorem dX11_wayOf_12 : decode cX11_wayOf 12 = .ok (.getfield 16, 3) := by decide +kernel
theorem dX11_wayOf_15 : decode cX11_wayOf 15 = .ok (.iload_n 1, 1) := by decide +kernel
theorem dX11_wayOf_16 : decode cX11_wayOf 16 = .ok (.iaload, 1) := by decide +kernel
theorem dX11_wayOf_17 : decode cX11_wayOf 17 = .ok (.aload_n 0, 1) := by decide +kernel
theorem dX11_wayOf_18 : decode cX11_wayOf 18 = .ok (.getfield 91, 3) := by decide +kernel
theorem dX11_wayOf_21 : decode cX11_wayOf 21 = .ok (.invokestatic 87, 3) := by decide +kernel
theorem dX11_wayOf_24 : decode cX11_wayOf 24 = .ok (.aload_n 0, 1) := by decide +kernel
theorem dX11_wayOf_25 : decode cX11_wayOf 25 = .ok (.getfield 91, 3) := by decide +kernel
theorem dX11_wayOf_28 : decode cX11_wayOf 28 = .ok (.iload_n 2, 1) := by decide +kernel
theorem dX11_wayOf_29 : decode cX11_wayOf 29 = .ok (.invokestatic 87, 3) := by decide +kernel
theorem dX11_wayOf_32 : decode cX11_wayOf 32 = .ok (.iadd, 1) := by decide +kernel
theorem dX11_wayOf_33 : decode cX11_wayOf 33 = .ok (.istore 4, 2) := by decide +kernel
theorem dX11_wayOf_35 : decode cX11_wayOf 35 = .ok (.iload 4, 2) := by decide +kernel
theorem dX11_wayOf_37 : decode cX11_wayOf 37 = .ok (.iconst 1, 1) := by decide +kernel
theorem dX11_wayOf_38 : decode cX11_wayOf 38 = .ok (.isub, 1) := by decide +kernel
theorem dX11_wayOf_39 : decode cX11_wayOf 39 = .ok (.bipush 99, 2) := by decide +kernel
theorem dX11_wayOf_41 : decode cX11_wayOf 41 = .ok (.invokestatic 94, 3) := by decide +kernel
theorem dX11_wayOf_44 : decode cX11_wayOf 44 = .ok (.istore 5, 2) := by decide +kernel
theorem dX11_wayOf_46 : decode cX11_wayOf 46 = .ok (.aload_n 0, 1) := by decide +kernel
theorem dX11_wayOf_47 : decode cX11_wayOf 47 = .ok (.getfield 7, 3) := by decide +kernel
theorem dX11_wayOf_50 : decode cX11_wayOf 50 = .ok (.iload_n 1, 1) := by decide +kernel
theorem dX11_wayOf_51 : decode cX11_wayOf 51 = .ok (.iaload, 1) := by decide +kernel
theorem dX11_wayOf_52 : decode cX11_wayOf 52 = .ok (.tableswitch 83 0 6 #[44, 47, 83, 50, 61, 66, 71], 44) := by decide +kernel
theorem dX11_wayOf_96 : decode cX11_wayOf 96 = .ok (.iload 4, 2) := by decide +kernel
theorem dX11_wayOf_98 : decode cX11_wayOf 98 = .ok (.ireturn, 1) := by decide +kernel
theorem dX11_wayOf_99 : decode cX11_wayOf 99 = .ok (.iload 5, 2) := by decide +kernel
theorem dX11_wayOf_101 : decode cX11_wayOf 101 = .ok (.ireturn, 1) := by decide +kernel
theorem dX11_wayOf_102 : decode cX11_wayOf 102 = .ok (.iload_n 3, 1) := by decide +kernel
theorem dX11_wayOf_103 : decode cX11_wayOf 103 = .ok (.aload_n 0, 1) := by decide +kernel
theorem dX11_wayOf_104 : decode cX11_wayOf 104 = .ok (.getfield 91, 3) := by decide +kernel
theorem dX11_wayOf_107 : decode cX11_wayOf 107 = .ok (.iload_n 2, 1) := by decide +kernel
theorem dX11_wayOf_108 : decode cX11_wayOf 108 = .ok (.invokestatic 87, 3) := by decide +kernel
theorem dX11_wayOf_111 : decode cX11_wayOf 111 = .ok (.iadd, 1) := by decide +kernel
theorem dX11_wayOf_112 : decode cX11_wayOf 112 = .ok (.ireturn, 1) := by decide +kernel
theorem dX11_wayOf_113 : decode cX11_wayOf 113 = .ok (.iconst 2, 1) := by decide +kernel
theorem dX11_wayOf_114 : decode cX11_wayOf 114 = .ok (.iload 5, 2) := by decide +kernel
theorem dX11_wayOf_116 : decode cX11_wayOf 116 = .ok (.imul, 1) := by decide +kernel
theorem dX11_wayOf_117 : decode cX11_wayOf 117 = .ok (.ireturn, 1) := by decide +kernel
theorem dX11_wayOf_118 : decode cX11_wayOf 118 = .ok (.iload 4, 2) := by decide +kernel
theorem dX11_wayOf_120 : decode cX11_wayOf 120 = .ok (.iconst 2, 1) := by decide +kernel
theorem dX11_wayOf_121 : decode cX11_wayOf 121 = .ok (.idiv, 1) := by decide +kernel
theorem dX11_wayOf_122 : decode cX11_wayOf 122 = .ok (.ireturn, 1) := by decide +kernel
theorem dX11_wayOf_123 : decode cX11_wayOf 123 = .ok (.iconst 2, 1) := by decide +kernel
theorem dX11_wayOf_124 : decode cX11_wayOf 124 = .ok (.iload 5, 2) := by decide +kernel
theorem dX11_wayOf_126 : decode cX11_wayOf 126 = .ok (.imul, 1) := by decide +kernel
theorem dX11_wayOf_127 : decode cX11_wayOf 127 = .ok (.aload_n 0, 1) := by decide +kernel
theorem dX11_wayOf_128 : decode cX11_wayOf 128 = .ok (.getfield 97, 3) := by decide +kernel
theorem dX11_wayOf_131 : decode cX11_wayOf 131 = .ok (.iconst 2, 1) := by decide +kernel
theorem dX11_wayOf_132 : decode cX11_wayOf 132 = .ok (.irem, 1) := by decide +kernel
theorem dX11_wayOf_133 : decode cX11_wayOf 133 = .ok (.iadd, 1) := by decide +kernel
theorem dX11_wayOf_134 : decode cX11_wayOf 134 = .ok (.ireturn, 1) := by decide +kernel
theorem dX11_wayOf_135 : decode cX11_wayOf 135 = .ok (.iload_n 3, 1) := by decide +kernel
theorem dX11_wayOf_136 : decode cX11_wayOf 136 = .ok (.ireturn, 1) := by decide +kernel
abbrev cX11_goesOf : ByteArray := prog_13_method_10_code
def yX11_goesOf : MethodName := ⟨RX11, "goesOf", "(I)I"⟩
theorem dX11_goesOf_0 : decode cX11_goesOf 0 = .ok (.aload_n 0, 1) := by decide +kernel
theorem dX11_goesOf_1 : decode cX11_goesOf 1 = .ok (.getfield 13, 3) := by decide +kernel
theorem dX11_goesOf_4 : decode cX11_goesOf 4 = .ok (.iload_n 1, 1) := by decide +kernel
theorem dX11_goesOf_5 : decode cX11_goesOf 5 = .ok (.iaload, 1) := by decide +kernel
theorem dX11_goesOf_6 : decode cX11_goesOf 6 = .ok (.istore_n 2, 1) := by decide +kernel
theorem dX11_goesOf_7 : decode cX11_goesOf 7 = .ok (.aload_n 0, 1) := by decide +kernel
theorem dX11_goesOf_8 : decode cX11_goesOf 8 = .ok (.getfield 7, 3) := by decide +kernel
theorem dX11_goesOf_11 : decode cX11_goesOf 11 = .ok (.iload_n 1, 1) := by decide +kernel
theorem dX11_goesOf_12 : decode cX11_goesOf 12 = .ok (.iaload, 1) := by decide +kernel
theorem dX11_goesOf_13 : decode cX11_goesOf 13 = .ok (.tableswitch 85 0 6 #[43, 50, 57, 59, 63, 72, 74], 43) := by decide +kernel
theorem dX11_goesOf_56 : decode cX11_goesOf 56 = .ok (.bipush 6, 2) := by decide +kernel
theorem dX11_goesOf_58 : decode cX11_goesOf 58 = .ok (.iload_n 2, 1) := by decide +kernel
theorem dX11_goesOf_59 : decode cX11_goesOf 59 = .ok (.iconst 3, 1) := by decide +kernel
theorem dX11_goesOf_60 : decode cX11_goesOf 60 = .ok (.idiv, 1) := by decide +kernel
theorem dX11_goesOf_61 : decode cX11_goesOf 61 = .ok (.iadd, 1) := by decide +kernel
theorem dX11_goesOf_62 : decode cX11_goesOf 62 = .ok (.ireturn, 1) := by decide +kernel
theorem dX11_goesOf_63 : decode cX11_goesOf 63 = .ok (.bipush 8, 2) := by decide +kernel
theorem dX11_goesOf_65 : decode cX11_goesOf 65 = .ok (.iload_n 2, 1) := by decide +kernel
theorem dX11_goesOf_66 : decode cX11_goesOf 66 = .ok (.iconst 3, 1) := by decide +kernel
theorem dX11_goesOf_67 : decode cX11_goesOf 67 = .ok (.idiv, 1) := by decide +kernel
theorem dX11_goesOf_68 : decode cX11_goesOf 68 = .ok (.iadd, 1) := by decide +kernel
theorem dX11_goesOf_69 : decode cX11_goesOf 69 = .ok (.ireturn, 1) := by decide +kernel
theorem dX11_goesOf_70 : decode cX11_goesOf 70 = .ok (.iload_n 2, 1) := by decide +kernel
theorem dX11_goesOf_71 : decode cX11_goesOf 71 = .ok (.ireturn, 1) := by decide +kernel
theorem dX11_goesOf_72 : decode cX11_goesOf 72 = .ok (.iload_n 2, 1) := by decide +kernel
theorem dX11_goesOf_73 : decode cX11_goesOf 73 = .ok (.iconst 2, 1) := by decide +kernel
theorem dX11_goesOf_74 : decode cX11_goesOf 74 = .ok (.idiv, 1) := by decide +kernel
theorem dX11_goesOf_75 : decode cX11_goesOf 75 = .ok (.ireturn, 1) := by decide +kernel
theorem dX11_goesOf_76 : decode cX11_goesOf 76 = .ok (.iconst 2, 1) := by decide +kernel
theorem dX11_goesOf_77 : decode cX11_goesOf 77 = .ok (.bipush 8, 2) := by decide +kernel
theorem dX11_goesOf_79 : decode cX11_goesOf 79 = .ok (.iload_n 2, 1) := by decide +kernel
theorem dX11_goesOf_80 : decode cX11_goesOf 80 = .ok (.iconst 3, 1) := by decide +kernel
theorem dX11_goesOf_81 : decode cX11_goesOf 81 = .ok (.idiv, 1) := by decide +kernel
theorem dX11_goesOf_82 : decode cX11_goesOf 82 = .ok (.iadd, 1) := by decide +kernel
theorem dX11_goesOf_83 : decode cX11_goesOf 83 = .ok (.imul, 1) := by decide +kernel
theorem dX11_goesOf_84 : decode cX11_goesOf 84 = .ok (.ireturn, 1) := by decide +kernel
theorem dX11_goesOf_85 : decode cX11_goesOf 85 = .ok (.iconst 4, 1) := by decide +kernel
theorem dX11_goesOf_86 : decode cX11_goesOf 86 = .ok (.ireturn, 1) := by decide +kernel
theorem dX11_goesOf_87 : decode cX11_goesOf 87 = .ok (.iconst 2, 1) := by decide +kernel
theorem dX11_goesOf_88 : decode cX11_goesOf 88 = .ok (.bipush 8, 2) := by decide +kernel
theorem dX11_goesOf_90 : decode cX11_goesOf 90 = .ok (.iload_n 2, 1) := by decide +kernel
theorem dX11_goesOf_91 : decode cX11_goesOf 91 = .ok (.iconst 3, 1) := by decide +kernel
theorem dX11_goesOf_92 : decode cX11_goesOf 92 = .ok (.idiv, 1) := by decide +kernel
theorem dX11_goesOf_93 : decode cX11_goesOf 93 = .ok (.iadd, 1) := by decide +kernel
theorem dX11_goesOf_94 : decode cX11_goesOf 94 = .ok (.imul, 1) := by decide +kernel
theorem dX11_goesOf_95 : decode cX11_goesOf 95 = .ok (.iconst 1, 1) := by decide +kernel
theorem dX11_goesOf_96 : decode cX11_goesOf 96 = .ok (.iadd, 1) := by decide +kernel
theorem dX11_goesOf_97 : decode cX11_goesOf 97 = .ok (.ireturn, 1) := by decide +kernel
theorem dX11_goesOf_98 : decode cX11_goesOf 98 = .ok (.iconst 0, 1) := by decide +kernel
theorem dX11_goesOf_99 : decode cX11_goesOf 99 = .ok (.ireturn, 1) := by decide +kernel
abbrev cX11_bringsOf : ByteArray := prog_13_method_11_code
def yX11_bringsOf : MethodName := ⟨RX11, "bringsOf", "(I)I"⟩
theorem dX11_bringsOf_0 : decode cX11_bringsOf 0 = .ok (.aload_n 0, 1) := by decide +kernel
theorem dX11_bringsOf_1 : decode cX11_bringsOf 1 = .ok (.getfield 13, 3) := by decide +kernel
theorem dX11_bringsOf_4 : decode cX11_bringsOf 4 = .ok (.iload_n 1, 1) := by decide +kernel
theorem dX11_bringsOf_5 : decode cX11_bringsOf 5 = .ok (.iaload, 1) := by decide +kernel
theorem dX11_bringsOf_6 : decode cX11_bringsOf 6 = .ok (.istore_n 2, 1) := by decide +kernel
theorem dX11_bringsOf_7 : decode cX11_bringsOf 7 = .ok (.aload_n 0, 1) := by decide +kernel
theorem dX11_bringsOf_8 : decode cX11_bringsOf 8 = .ok (.getfield 7, 3) := by decide +kernel
theorem dX11_bringsOf_11 : decode cX11_bringsOf 11 = .ok (.iload_n 1, 1) := by decide +kernel
theorem dX11_bringsOf_12 : decode cX11_bringsOf 12 = .ok (.iaload, 1) := by decide +kernel
theorem dX11_bringsOf_13 : decode cX11_bringsOf 13 = .ok (.tableswitch 58 0 6 #[43, 45, 58, 58, 47, 51, 55], 43) := by decide +kernel
theorem dX11_bringsOf_56 : decode cX11_bringsOf 56 = .ok (.iconst 3, 1) := by decide +kernel
theorem dX11_bringsOf_57 : decode cX11_bringsOf 57 = .ok (.ireturn, 1) := by decide +kernel
theorem dX11_bringsOf_58 : decode cX11_bringsOf 58 = .ok (.iload_n 2, 1) := by decide +kernel
theorem dX11_bringsOf_59 : decode cX11_bringsOf 59 = .ok (.ireturn, 1) := by decide +kernel
theorem dX11_bringsOf_60 : decode cX11_bringsOf 60 = .ok (.iload_n 2, 1) := by decide +kernel
theorem dX11_bringsOf_61 : decode cX11_bringsOf 61 = .ok (.iconst 1, 1) := by decide +kernel
theorem dX11_bringsOf_62 : decode cX11_bringsOf 62 = .ok (.iadd, 1) := by decide +kernel
theorem dX11_bringsOf_63 : decode cX11_bringsOf 63 = .ok (.ireturn, 1) := by decide +kernel
theorem dX11_bringsOf_64 : decode cX11_bringsOf 64 = .ok (.iload_n 2, 1) := by decide +kernel
theorem dX11_bringsOf_65 : decode cX11_bringsOf 65 = .ok (.iconst 2, 1) := by decide +kernel
theorem dX11_bringsOf_66 : decode cX11_bringsOf 66 = .ok (.idiv, 1) := by decide +kernel
theorem dX11_bringsOf_67 : decode cX11_bringsOf 67 = .ok (.ireturn, 1) := by decide +kernel
theorem dX11_bringsOf_68 : decode cX11_bringsOf 68 = .ok (.bipush 9, 2) := by decide +kernel
theorem dX11_bringsOf_70 : decode cX11_bringsOf 70 = .ok (.ireturn, 1) := by decide +kernel
theorem dX11_bringsOf_71 : decode cX11_bringsOf 71 = .ok (.iconst 2, 1) := by decide +kernel
theorem dX11_bringsOf_72 : decode cX11_bringsOf 72 = .ok (.ireturn, 1) := by decide +kernel
abbrev cX11_eatsOf : ByteArray := prog_13_method_12_code
def yX11_eatsOf : MethodName := ⟨RX11, "eatsOf", "(I)I"⟩
theorem dX11_eatsOf_0 : decode cX11_eatsOf 0 = .ok (.iconst 1, 1) := by decide +kernel
theorem dX11_eatsOf_1 : decode cX11_eatsOf 1 = .ok (.aload_n 0, 1) := by decide +kernel
theorem dX11_eatsOf_2 : decode cX11_eatsOf 2 = .ok (.getfield 13, 3) := by decide +kernel
theorem dX11_eatsOf_5 : decode cX11_eatsOf 5 = .ok (.iload_n 1, 1) := by decide +kernel
theorem dX11_eatsOf_6 : decode cX11_eatsOf 6 = .ok (.iaload, 1) := by decide +kernel
theorem dX11_eatsOf_7 : decode cX11_eatsOf 7 = .ok (.iconst 3, 1) := by decide +kernel
theorem dX11_eatsOf_8 : decode cX11_eatsOf 8 = .ok (.idiv, 1) := by decide +kernel
theorem dX11_eatsOf_9 : decode cX11_eatsOf 9 = .ok (.iadd, 1) := by decide +kernel
theorem dX11_eatsOf_10 : decode cX11_eatsOf 10 = .ok (.istore_n 2, 1) := by decide +kernel
theorem dX11_eatsOf_11 : decode cX11_eatsOf 11 = .ok (.aload_n 0, 1) := by decide +kernel
theorem dX11_eatsOf_12 : decode cX11_eatsOf 12 = .ok (.getfield 7, 3) := by decide +kernel
theorem dX11_eatsOf_15 : decode cX11_eatsOf 15 = .ok (.iload_n 1, 1) := by decide +kernel
theorem dX11_eatsOf_16 : decode cX11_eatsOf 16 = .ok (.iaload, 1) := by decide +kernel
theorem dX11_eatsOf_17 : decode cX11_eatsOf 17 = .ok (.tableswitch 53 0 6 #[43, 53, 43, 45, 47, 53, 49], 43) := by decide +kernel
theorem dX11_eatsOf_60 : decode cX11_eatsOf 60 = .ok (.iconst 2, 1) := by decide +kernel
theorem dX11_eatsOf_61 : decode cX11_eatsOf 61 = .ok (.ireturn, 1) := by decide +kernel
theorem dX11_eatsOf_62 : decode cX11_eatsOf 62 = .ok (.iconst 0, 1) := by decide +kernel
theorem dX11_eatsOf_63 : decode cX11_eatsOf 63 = .ok (.ireturn, 1) := by decide +kernel
theorem dX11_eatsOf_64 : decode cX11_eatsOf 64 = .ok (.iload_n 2, 1) := by decide +kernel
theorem dX11_eatsOf_65 : decode cX11_eatsOf 65 = .ok (.ireturn, 1) := by decide +kernel
theorem dX11_eatsOf_66 : decode cX11_eatsOf 66 = .ok (.iconst 2, 1) := by decide +kernel
theorem dX11_eatsOf_67 : decode cX11_eatsOf 67 = .ok (.iload_n 2, 1) := by decide +kernel
theorem dX11_eatsOf_68 : decode cX11_eatsOf 68 = .ok (.imul, 1) := by decide +kernel
theorem dX11_eatsOf_69 : decode cX11_eatsOf 69 = .ok (.ireturn, 1) := by decide +kernel
theorem dX11_eatsOf_70 : decode cX11_eatsOf 70 = .ok (.iconst 1, 1) := by decide +kernel
theorem dX11_eatsOf_71 : decode cX11_eatsOf 71 = .ok (.ireturn, 1) := by decide +kernel
abbrev cX11_isNodding : ByteArray := prog_13_method_13_code
def yX11_isNodding : MethodName := ⟨RX11, "isNodding", "(I)Z"⟩
theorem dX11_isNodding_0 : decode cX11_isNodding 0 = .ok (.aload_n 0, 1) := by decide +kernel
theorem dX11_isNodding_1 : decode cX11_isNodding 1 = .ok (.getfield 7, 3) := by decide +kernel
theorem dX11_isNodding_4 : decode cX11_isNodding 4 = .ok (.iload_n 1, 1) := by decide +kernel
theorem dX11_isNodding_5 : decode cX11_isNodding 5 = .ok (.iaload, 1) := by decide +kernel
theorem dX11_isNodding_6 : decode cX11_isNodding 6 = .ok (.iconst 2, 1) := by decide +kernel
theorem dX11_isNodding_7 : decode cX11_isNodding 7 = .ok (.if_icmp .eq 28, 3) := by decide +kernel
theorem dX11_isNodding_10 : decode cX11_isNodding 10 = .ok (.aload_n 0, 1) := by decide +kernel
theorem dX11_isNodding_11 : decode cX11_isNodding 11 = .ok (.getfield 7, 3) := by decide +kernel
theorem dX11_isNodding_14 : decode cX11_isNodding 14 = .ok (.iload_n 1, 1) := by decide +kernel
theorem dX11_isNodding_15 : decode cX11_isNodding 15 = .ok (.iaload, 1) := by decide +kernel
theorem dX11_isNodding_16 : decode cX11_isNodding 16 = .ok (.iconst 3, 1) := by decide +kernel
theorem dX11_isNodding_17 : decode cX11_isNodding 17 = .ok (.if_icmp .eq 18, 3) := by decide +kernel
theorem dX11_isNodding_20 : decode cX11_isNodding 20 = .ok (.aload_n 0, 1) := by decide +kernel
theorem dX11_isNodding_21 : decode cX11_isNodding 21 = .ok (.getfield 7, 3) := by decide +kernel
theorem dX11_isNodding_24 : decode cX11_isNodding 24 = .ok (.iload_n 1, 1) := by decide +kernel
theorem dX11_isNodding_25 : decode cX11_isNodding 25 = .ok (.iaload, 1) := by decide +kernel
theorem dX11_isNodding_26 : decode cX11_isNodding 26 = .ok (.bipush 7, 2) := by decide +kernel
theorem dX11_isNodding_28 : decode cX11_isNodding 28 = .ok (.if_icmp .eq 7, 3) := by decide +kernel
theorem dX11_isNodding_31 : decode cX11_isNodding 31 = .ok (.iconst 1, 1) := by decide +kernel
theorem dX11_isNodding_32 : decode cX11_isNodding 32 = .ok (.goto 4, 3) := by decide +kernel
theorem dX11_isNodding_35 : decode cX11_isNodding 35 = .ok (.iconst 0, 1) := by decide +kernel
theorem dX11_isNodding_36 : decode cX11_isNodding 36 = .ok (.ireturn, 1) := by decide +kernel
abbrev cX11_isFetching : ByteArray := prog_13_method_14_code
def yX11_isFetching : MethodName := ⟨RX11, "isFetching", "(I)Z"⟩
theorem dX11_isFetching_0 : decode cX11_isFetching 0 = .ok (.aload_n 0, 1) := by decide +kernel
theorem dX11_isFetching_1 : decode cX11_isFetching 1 = .ok (.getfield 19, 3) := by decide +kernel
theorem dX11_isFetching_4 : decode cX11_isFetching 4 = .ok (.iload_n 1, 1) := by decide +kernel
theorem dX11_isFetching_5 : decode cX11_isFetching 5 = .ok (.iaload, 1) := by decide +kernel
theorem dX11_isFetching_6 : decode cX11_isFetching 6 = .ok (.iload_n 1, 1) := by decide +kernel
theorem dX11_isFetching_7 : decode cX11_isFetching 7 = .ok (.if_icmp .eq 20, 3) := by decide +kernel
theorem dX11_isFetching_10 : decode cX11_isFetching 10 = .ok (.aload_n 0, 1) := by decide +kernel
theorem dX11_isFetching_11 : decode cX11_isFetching 11 = .ok (.getfield 19, 3) := by decide +kernel
theorem dX11_isFetching_14 : decode cX11_isFetching 14 = .ok (.iload_n 1, 1) := by decide +kernel
theorem dX11_isFetching_15 : decode cX11_isFetching 15 = .ok (.iaload, 1) := by decide +kernel
theorem dX11_isFetching_16 : decode cX11_isFetching 16 = .ok (.aload_n 0, 1) := by decide +kernel
theorem dX11_isFetching_17 : decode cX11_isFetching 17 = .ok (.getfield 84, 3) := by decide +kernel
theorem dX11_isFetching_20 : decode cX11_isFetching 20 = .ok (.if_icmp .ge 7, 3) := by decide +kernel
theorem dX11_isFetching_23 : decode cX11_isFetching 23 = .ok (.iconst 1, 1) := by decide +kernel
theorem dX11_isFetching_24 : decode cX11_isFetching 24 = .ok (.goto 4, 3) := by decide +kernel
theorem dX11_isFetching_27 : decode cX11_isFetching 27 = .ok (.iconst 0, 1) := by decide +kernel
theorem dX11_isFetching_28 : decode cX11_isFetching 28 = .ok (.ireturn, 1) := by decide +kernel
abbrev cX11_isAble : ByteArray := prog_13_method_15_code
def yX11_isAble : MethodName := ⟨RX11, "isAble", "(I)Z"⟩
theorem dX11_isAble_0 : decode cX11_isAble 0 = .ok (.aload_n 0, 1) := by decide +kernel
theorem dX11_isAble_1 : decode cX11_isAble 1 = .ok (.iload_n 1, 1) := by decide +kernel
theorem dX11_isAble_2 : decode cX11_isAble 2 = .ok (.invokevirtual 100, 3) := by decide +kernel
theorem dX11_isAble_5 : decode cX11_isAble 5 = .ok (.ifCond .eq 31, 3) := by decide +kernel
theorem dX11_isAble_8 : decode cX11_isAble 8 = .ok (.aload_n 0, 1) := by decide +kernel
theorem dX11_isAble_9 : decode cX11_isAble 9 = .ok (.iload_n 1, 1) := by decide +kernel
theorem dX11_isAble_10 : decode cX11_isAble 10 = .ok (.aload_n 0, 1) := by decide +kernel
theorem dX11_isAble_11 : decode cX11_isAble 11 = .ok (.getfield 16, 3) := by decide +kernel
theorem dX11_isAble_14 : decode cX11_isAble 14 = .ok (.aload_n 0, 1) := by decide +kernel
theorem dX11_isAble_15 : decode cX11_isAble 15 = .ok (.getfield 19, 3) := by decide +kernel
theorem dX11_isAble_18 : decode cX11_isAble 18 = .ok (.iload_n 1, 1) := by decide +kernel
theorem dX11_isAble_19 : decode cX11_isAble 19 = .ok (.iaload, 1) := by decide +kernel
theorem dX11_isAble_20 : decode cX11_isAble 20 = .ok (.iaload, 1) := by decide +kernel
theorem dX11_isAble_21 : decode cX11_isAble 21 = .ok (.invokevirtual 104, 3) := by decide +kernel
theorem dX11_isAble_24 : decode cX11_isAble 24 = .ok (.aload_n 0, 1) := by decide +kernel
theorem dX11_isAble_25 : decode cX11_isAble 25 = .ok (.iload_n 1, 1) := by decide +kernel
theorem dX11_isAble_26 : decode cX11_isAble 26 = .ok (.invokevirtual 107, 3) := by decide +kernel
theorem dX11_isAble_29 : decode cX11_isAble 29 = .ok (.if_icmp .gt 7, 3) := by decide +kernel
theorem dX11_isAble_32 : decode cX11_isAble 32 = .ok (.iconst 1, 1) := by decide +kernel
theorem dX11_isAble_33 : decode cX11_isAble 33 = .ok (.goto 4, 3) := by decide +kernel
theorem dX11_isAble_36 : decode cX11_isAble 36 = .ok (.iconst 0, 1) := by decide +kernel
theorem dX11_isAble_37 : decode cX11_isAble 37 = .ok (.ireturn, 1) := by decide +kernel
abbrev cX11_dayBy : ByteArray := prog_13_method_16_code
def yX11_dayBy : MethodName := ⟨RX11, "dayBy", "(Z)V"⟩
theorem dX11_dayBy_0 : decode cX11_dayBy 0 = .ok (.aload_n 0, 1) := by decide +kernel
theorem dX11_dayBy_1 : decode cX11_dayBy 1 = .ok (.dup, 1) := by decide +kernel
theorem dX11_dayBy_2 : decode cX11_dayBy 2 = .ok (.getfield 97, 3) := by decide +kernel
theorem dX11_dayBy_5 : decode cX11_dayBy 5 = .ok (.iconst 1, 1) := by decide +kernel
theorem dX11_dayBy_6 : decode cX11_dayBy 6 = .ok (.iadd, 1) := by decide +kernel
theorem dX11_dayBy_7 : decode cX11_dayBy 7 = .ok (.putfield 97, 3) := by decide +kernel
theorem dX11_dayBy_10 : decode cX11_dayBy 10 = .ok (.aload_n 0, 1) := by decide +kernel
theorem dX11_dayBy_11 : decode cX11_dayBy 11 = .ok (.aload_n 0, 1) := by decide +kernel
theorem dX11_dayBy_12 : decode cX11_dayBy 12 = .ok (.getfield 97, 3) := by decide +kernel
theorem dX11_dayBy_15 : decode cX11_dayBy 15 = .ok (.bipush 12, 2) := by decide +kernel
theorem dX11_dayBy_17 : decode cX11_dayBy 17 = .ok (.irem, 1) := by decide +kernel
theorem dX11_dayBy_18 : decode cX11_dayBy 18 = .ok (.ifCond .ne 10, 3) := by decide +kernel
theorem dX11_dayBy_21 : decode cX11_dayBy 21 = .ok (.aload_n 0, 1) := by decide +kernel
theorem dX11_dayBy_22 : decode cX11_dayBy 22 = .ok (.getfield 75, 3) := by decide +kernel
theorem dX11_dayBy_25 : decode cX11_dayBy 25 = .ok (.goto 26, 3) := by decide +kernel
theorem dX11_dayBy_28 : decode cX11_dayBy 28 = .ok (.iload_n 1, 1) := by decide +kernel
theorem dX11_dayBy_29 : decode cX11_dayBy 29 = .ok (.ifCond .eq 10, 3) := by decide +kernel
theorem dX11_dayBy_32 : decode cX11_dayBy 32 = .ok (.aload_n 0, 1) := by decide +kernel
theorem dX11_dayBy_33 : decode cX11_dayBy 33 = .ok (.getfield 91, 3) := by decide +kernel
theorem dX11_dayBy_36 : decode cX11_dayBy 36 = .ok (.goto 15, 3) := by decide +kernel
theorem dX11_dayBy_39 : decode cX11_dayBy 39 = .ok (.aload_n 0, 1) := by decide +kernel
theorem dX11_dayBy_40 : decode cX11_dayBy 40 = .ok (.getfield 91, 3) := by decide +kernel
theorem dX11_dayBy_43 : decode cX11_dayBy 43 = .ok (.aload_n 0, 1) := by decide +kernel
theorem dX11_dayBy_44 : decode cX11_dayBy 44 = .ok (.getfield 72, 3) := by decide +kernel
theorem dX11_dayBy_47 : decode cX11_dayBy 47 = .ok (.iadd, 1) := by decide +kernel
theorem dX11_dayBy_48 : decode cX11_dayBy 48 = .ok (.bipush 12, 2) := by decide +kernel
theorem dX11_dayBy_50 : decode cX11_dayBy 50 = .ok (.irem, 1) := by decide +kernel
theorem dX11_dayBy_51 : decode cX11_dayBy 51 = .ok (.putfield 91, 3) := by decide +kernel
theorem dX11_dayBy_54 : decode cX11_dayBy 54 = .ok (.iconst 0, 1) := by decide +kernel
theorem dX11_dayBy_55 : decode cX11_dayBy 55 = .ok (.istore_n 2, 1) := by decide +kernel
theorem dX11_dayBy_56 : decode cX11_dayBy 56 = .ok (.iload_n 2, 1) := by decide +kernel
theorem dX11_dayBy_57 : decode cX11_dayBy 57 = .ok (.aload_n 0, 1) := by decide +kernel
theorem dX11_dayBy_58 : decode cX11_dayBy 58 = .ok (.getfield 84, 3) := by decide +kernel
theorem dX11_dayBy_61 : decode cX11_dayBy 61 = .ok (.if_icmp .ge 136, 3) := by decide +kernel
theorem dX11_dayBy_64 : decode cX11_dayBy 64 = .ok (.aload_n 0, 1) := by decide +kernel
theorem dX11_dayBy_65 : decode cX11_dayBy 65 = .ok (.iload_n 2, 1) := by decide +kernel
theorem dX11_dayBy_66 : decode cX11_dayBy 66 = .ok (.invokevirtual 111, 3) := by decide +kernel
theorem dX11_dayBy_69 : decode cX11_dayBy 69 = .ok (.ifCond .eq 99, 3) := by decide +kernel
theorem dX11_dayBy_72 : decode cX11_dayBy 72 = .ok (.aload_n 0, 1) := by decide +kernel
theorem dX11_dayBy_73 : decode cX11_dayBy 73 = .ok (.getfield 19, 3) := by decide +kernel
theorem dX11_dayBy_76 : decode cX11_dayBy 76 = .ok (.iload_n 2, 1) := by decide +kernel
theorem dX11_dayBy_77 : decode cX11_dayBy 77 = .ok (.iaload, 1) := by decide +kernel
theorem dX11_dayBy_78 : decode cX11_dayBy 78 = .ok (.istore_n 3, 1) := by decide +kernel
theorem dX11_dayBy_79 : decode cX11_dayBy 79 = .ok (.aload_n 0, 1) := by decide +kernel
theorem dX11_dayBy_80 : decode cX11_dayBy 80 = .ok (.iload_n 2, 1) := by decide +kernel
theorem dX11_dayBy_81 : decode cX11_dayBy 81 = .ok (.invokevirtual 114, 3) := by decide +kernel
theorem dX11_dayBy_84 : decode cX11_dayBy 84 = .ok (.aload_n 0, 1) := by decide +kernel
theorem dX11_dayBy_85 : decode cX11_dayBy 85 = .ok (.getfield 22, 3) := by decide +kernel
theorem dX11_dayBy_88 : decode cX11_dayBy 88 = .ok (.iload_n 3, 1) := by decide +kernel
theorem dX11_dayBy_89 : decode cX11_dayBy 89 = .ok (.iaload, 1) := by decide +kernel
theorem dX11_dayBy_90 : decode cX11_dayBy 90 = .ok (.if_icmp .ge 11, 3) := by decide +kernel
theorem dX11_dayBy_93 : decode cX11_dayBy 93 = .ok (.aload_n 0, 1) := by decide +kernel
theorem dX11_dayBy_94 : decode cX11_dayBy 94 = .ok (.iload_n 2, 1) := by decide +kernel
theorem dX11_dayBy_95 : decode cX11_dayBy 95 = .ok (.invokevirtual 114, 3) := by decide +kernel
theorem dX11_dayBy_98 : decode cX11_dayBy 98 = .ok (.goto 9, 3) := by decide +kernel
theorem dX11_dayBy_101 : decode cX11_dayBy 101 = .ok (.aload_n 0, 1) := by decide +kernel
theorem dX11_dayBy_102 : decode cX11_dayBy 102 = .ok (.getfield 22, 3) := by decide +kernel
theorem dX11_dayBy_105 : decode cX11_dayBy 105 = .ok (.iload_n 3, 1) := by decide +kernel
theorem dX11_dayBy_106 : decode cX11_dayBy 106 = .ok (.iaload, 1) := by decide +kernel
theorem dX11_dayBy_107 : decode cX11_dayBy 107 = .ok (.istore 4, 2) := by decide +kernel
theorem dX11_dayBy_109 : decode cX11_dayBy 109 = .ok (.aload_n 0, 1) := by decide +kernel
theorem dX11_dayBy_110 : decode cX11_dayBy 110 = .ok (.getfield 22, 3) := by decide +kernel
theorem dX11_dayBy_113 : decode cX11_dayBy 113 = .ok (.iload_n 3, 1) := by decide +kernel
theorem dX11_dayBy_114 : decode cX11_dayBy 114 = .ok (.dup2, 1) := by decide +kernel
theorem dX11_dayBy_115 : decode cX11_dayBy 115 = .ok (.iaload, 1) := by decide +kernel
theorem dX11_dayBy_116 : decode cX11_dayBy 116 = .ok (.iload 4, 2) := by decide +kernel
theorem dX11_dayBy_118 : decode cX11_dayBy 118 = .ok (.isub, 1) := by decide +kernel
theorem dX11_dayBy_119 : decode cX11_dayBy 119 = .ok (.iastore, 1) := by decide +kernel
theorem dX11_dayBy_120 : decode cX11_dayBy 120 = .ok (.aload_n 0, 1) := by decide +kernel
theorem dX11_dayBy_121 : decode cX11_dayBy 121 = .ok (.getfield 22, 3) := by decide +kernel
theorem dX11_dayBy_124 : decode cX11_dayBy 124 = .ok (.iload_n 2, 1) := by decide +kernel
theorem dX11_dayBy_125 : decode cX11_dayBy 125 = .ok (.aload_n 0, 1) := by decide +kernel
theorem dX11_dayBy_126 : decode cX11_dayBy 126 = .ok (.getfield 22, 3) := by decide +kernel
theorem dX11_dayBy_129 : decode cX11_dayBy 129 = .ok (.iload_n 2, 1) := by decide +kernel
theorem dX11_dayBy_130 : decode cX11_dayBy 130 = .ok (.iaload, 1) := by decide +kernel
theorem dX11_dayBy_131 : decode cX11_dayBy 131 = .ok (.iload 4, 2) := by decide +kernel
theorem dX11_dayBy_133 : decode cX11_dayBy 133 = .ok (.iadd, 1) := by decide +kernel
theorem dX11_dayBy_134 : decode cX11_dayBy 134 = .ok (.bipush 99, 2) := by decide +kernel
theorem dX11_dayBy_136 : decode cX11_dayBy 136 = .ok (.invokestatic 94, 3) := by decide +kernel
theorem dX11_dayBy_139 : decode cX11_dayBy 139 = .ok (.iastore, 1) := by decide +kernel
theorem dX11_dayBy_140 : decode cX11_dayBy 140 = .ok (.aload_n 0, 1) := by decide +kernel
theorem dX11_dayBy_141 : decode cX11_dayBy 141 = .ok (.aload_n 0, 1) := by decide +kernel
theorem dX11_dayBy_142 : decode cX11_dayBy 142 = .ok (.getfield 117, 3) := by decide +kernel
theorem dX11_dayBy_145 : decode cX11_dayBy 145 = .ok (.aload_n 0, 1) := by decide +kernel
theorem dX11_dayBy_146 : decode cX11_dayBy 146 = .ok (.iload_n 2, 1) := by decide +kernel
theorem dX11_dayBy_147 : decode cX11_dayBy 147 = .ok (.invokevirtual 120, 3) := by decide +kernel
theorem dX11_dayBy_150 : decode cX11_dayBy 150 = .ok (.ifCond .eq 7, 3) := by decide +kernel
theorem dX11_dayBy_153 : decode cX11_dayBy 153 = .ok (.iconst 1, 1) := by decide +kernel
theorem dX11_dayBy_154 : decode cX11_dayBy 154 = .ok (.goto 4, 3) := by decide +kernel
theorem dX11_dayBy_157 : decode cX11_dayBy 157 = .ok (.iconst 0, 1) := by decide +kernel
theorem dX11_dayBy_158 : decode cX11_dayBy 158 = .ok (.iadd, 1) := by decide +kernel
theorem dX11_dayBy_159 : decode cX11_dayBy 159 = .ok (.sipush 9999, 3) := by decide +kernel
theorem dX11_dayBy_162 : decode cX11_dayBy 162 = .ok (.invokestatic 94, 3) := by decide +kernel
theorem dX11_dayBy_165 : decode cX11_dayBy 165 = .ok (.putfield 117, 3) := by decide +kernel
theorem dX11_dayBy_168 : decode cX11_dayBy 168 = .ok (.aload_n 0, 1) := by decide +kernel
theorem dX11_dayBy_169 : decode cX11_dayBy 169 = .ok (.getfield 22, 3) := by decide +kernel
theorem dX11_dayBy_172 : decode cX11_dayBy 172 = .ok (.iload_n 2, 1) := by decide +kernel
theorem dX11_dayBy_173 : decode cX11_dayBy 173 = .ok (.aload_n 0, 1) := by decide +kernel
theorem dX11_dayBy_174 : decode cX11_dayBy 174 = .ok (.getfield 22, 3) := by decide +kernel
theorem dX11_dayBy_177 : decode cX11_dayBy 177 = .ok (.iload_n 2, 1) := by decide +kernel
theorem dX11_dayBy_178 : decode cX11_dayBy 178 = .ok (.iaload, 1) := by decide +kernel
theorem dX11_dayBy_179 : decode cX11_dayBy 179 = .ok (.aload_n 0, 1) := by decide +kernel
theorem dX11_dayBy_180 : decode cX11_dayBy 180 = .ok (.iload_n 2, 1) := by decide +kernel
theorem dX11_dayBy_181 : decode cX11_dayBy 181 = .ok (.invokevirtual 123, 3) := by decide +kernel
theorem dX11_dayBy_184 : decode cX11_dayBy 184 = .ok (.isub, 1) := by decide +kernel
theorem dX11_dayBy_185 : decode cX11_dayBy 185 = .ok (.bipush 99, 2) := by decide +kernel
theorem dX11_dayBy_187 : decode cX11_dayBy 187 = .ok (.invokestatic 94, 3) := by decide +kernel
theorem dX11_dayBy_190 : decode cX11_dayBy 190 = .ok (.iastore, 1) := by decide +kernel
theorem dX11_dayBy_191 : decode cX11_dayBy 191 = .ok (.iinc 2 1, 3) := by decide +kernel
theorem dX11_dayBy_194 : decode cX11_dayBy 194 = .ok (.goto (-138), 3) := by decide +kernel
theorem dX11_dayBy_197 : decode cX11_dayBy 197 = .ok (.return_, 1) := by decide +kernel
abbrev cX11_goDays : ByteArray := prog_13_method_17_code
def yX11_goDays : MethodName := ⟨RX11, "goDays", "(I)V"⟩
theorem dX11_goDays_0 : decode cX11_goDays 0 = .ok (.iconst 0, 1) := by decide +kernel
theorem dX11_goDays_1 : decode cX11_goDays 1 = .ok (.istore_n 2, 1) := by decide +kernel
theorem dX11_goDays_2 : decode cX11_goDays 2 = .ok (.iload_n 2, 1) := by decide +kernel
theorem dX11_goDays_3 : decode cX11_goDays 3 = .ok (.iload_n 1, 1) := by decide +kernel
theorem dX11_goDays_4 : decode cX11_goDays 4 = .ok (.if_icmp .ge 14, 3) := by decide +kernel
theorem dX11_goDays_7 : decode cX11_goDays 7 = .ok (.aload_n 0, 1) := by decide +kernel
theorem dX11_goDays_8 : decode cX11_goDays 8 = .ok (.iconst 0, 1) := by decide +kernel
theorem dX11_goDays_9 : decode cX11_goDays 9 = .ok (.invokevirtual 126, 3) := by decide +kernel
theorem dX11_goDays_12 : decode cX11_goDays 12 = .ok (.iinc 2 1, 3) := by decide +kernel
theorem dX11_goDays_15 : decode cX11_goDays 15 = .ok (.goto (-13), 3) := by decide +kernel
theorem dX11_goDays_18 : decode cX11_goDays 18 = .ok (.return_, 1) := by decide +kernel
abbrev cX11_allStock : ByteArray := prog_13_method_18_code
def yX11_allStock : MethodName := ⟨RX11, "allStock", "()I"⟩
theorem dX11_allStock_0 : decode cX11_allStock 0 = .ok (.iconst 0, 1) := by decide +kernel
theorem dX11_allStock_1 : decode cX11_allStock 1 = .ok (.istore_n 1, 1) := by decide +kernel
theorem dX11_allStock_2 : decode cX11_allStock 2 = .ok (.iconst 0, 1) := by decide +kernel
theorem dX11_allStock_3 : decode cX11_allStock 3 = .ok (.istore_n 2, 1) := by decide +kernel
theorem dX11_allStock_4 : decode cX11_allStock 4 = .ok (.iload_n 2, 1) := by decide +kernel
theorem dX11_allStock_5 : decode cX11_allStock 5 = .ok (.aload_n 0, 1) := by decide +kernel
theorem dX11_allStock_6 : decode cX11_allStock 6 = .ok (.getfield 84, 3) := by decide +kernel
theorem dX11_allStock_9 : decode cX11_allStock 9 = .ok (.if_icmp .ge 18, 3) := by decide +kernel
theorem dX11_allStock_12 : decode cX11_allStock 12 = .ok (.iload_n 1, 1) := by decide +kernel
theorem dX11_allStock_13 : decode cX11_allStock 13 = .ok (.aload_n 0, 1) := by decide +kernel
theorem dX11_allStock_14 : decode cX11_allStock 14 = .ok (.getfield 22, 3) := by decide +kernel
theorem dX11_allStock_17 : decode cX11_allStock 17 = .ok (.iload_n 2, 1) := by decide +kernel
theorem dX11_allStock_18 : decode cX11_allStock 18 = .ok (.iaload, 1) := by decide +kernel
theorem dX11_allStock_19 : decode cX11_allStock 19 = .ok (.iadd, 1) := by decide +kernel
theorem dX11_allStock_20 : decode cX11_allStock 20 = .ok (.istore_n 1, 1) := by decide +kernel
theorem dX11_allStock_21 : decode cX11_allStock 21 = .ok (.iinc 2 1, 3) := by decide +kernel
theorem dX11_allStock_24 : decode cX11_allStock 24 = .ok (.goto (-20), 3) := by decide +kernel
theorem dX11_allStock_27 : decode cX11_allStock 27 = .ok (.iload_n 1, 1) := by decide +kernel
theorem dX11_allStock_28 : decode cX11_allStock 28 = .ok (.ireturn, 1) := by decide +kernel
abbrev cX11_ableBits : ByteArray := prog_13_method_19_code
def yX11_ableBits : MethodName := ⟨RX11, "ableBits", "()I"⟩
theorem dX11_ableBits_0 : decode cX11_ableBits 0 = .ok (.iconst 0, 1) := by decide +kernel
theorem dX11_ableBits_1 : decode cX11_ableBits 1 = .ok (.istore_n 1, 1) := by decide +kernel
theorem dX11_ableBits_2 : decode cX11_ableBits 2 = .ok (.iconst 0, 1) := by decide +kernel
theorem dX11_ableBits_3 : decode cX11_ableBits 3 = .ok (.istore_n 2, 1) := by decide +kernel
theorem dX11_ableBits_4 : decode cX11_ableBits 4 = .ok (.iload_n 2, 1) := by decide +kernel
theorem dX11_ableBits_5 : decode cX11_ableBits 5 = .ok (.aload_n 0, 1) := by decide +kernel
theorem dX11_ableBits_6 : decode cX11_ableBits 6 = .ok (.getfield 84, 3) := by decide +kernel
theorem dX11_ableBits_9 : decode cX11_ableBits 9 = .ok (.if_icmp .ge 27, 3) := by decide +kernel
theorem dX11_ableBits_12 : decode cX11_ableBits 12 = .ok (.iload_n 1, 1) := by decide +kernel
theorem dX11_ableBits_13 : decode cX11_ableBits 13 = .ok (.aload_n 0, 1) := by decide +kernel
theorem dX11_ableBits_14 : decode cX11_ableBits 14 = .ok (.iload_n 2, 1) := by decide +kernel
theorem dX11_ableBits_15 : decode cX11_ableBits 15 = .ok (.invokevirtual 111, 3) := by decide +kernel
theorem dX11_ableBits_18 : decode cX11_ableBits 18 = .ok (.ifCond .eq 9, 3) := by decide +kernel
theorem dX11_ableBits_21 : decode cX11_ableBits 21 = .ok (.iconst 1, 1) := by decide +kernel
theorem dX11_ableBits_22 : decode cX11_ableBits 22 = .ok (.iload_n 2, 1) := by decide +kernel
theorem dX11_ableBits_23 : decode cX11_ableBits 23 = .ok (.ishl, 1) := by decide +kernel
theorem dX11_ableBits_24 : decode cX11_ableBits 24 = .ok (.goto 4, 3) := by decide +kernel
theorem dX11_ableBits_27 : decode cX11_ableBits 27 = .ok (.iconst 0, 1) := by decide +kernel
theorem dX11_ableBits_28 : decode cX11_ableBits 28 = .ok (.ior, 1) := by decide +kernel
theorem dX11_ableBits_29 : decode cX11_ableBits 29 = .ok (.istore_n 1, 1) := by decide +kernel
theorem dX11_ableBits_30 : decode cX11_ableBits 30 = .ok (.iinc 2 1, 3) := by decide +kernel
theorem dX11_ableBits_33 : decode cX11_ableBits 33 = .ok (.goto (-29), 3) := by decide +kernel
theorem dX11_ableBits_36 : decode cX11_ableBits 36 = .ok (.iload_n 1, 1) := by decide +kernel
theorem dX11_ableBits_37 : decode cX11_ableBits 37 = .ok (.ireturn, 1) := by decide +kernel
abbrev cX11_here : ByteArray := prog_13_method_20_code
def yX11_here : MethodName := ⟨RX11, "here", "()I"⟩
theorem dX11_here_0 : decode cX11_here 0 = .ok (.aload_n 0, 1) := by decide +kernel
theorem dX11_here_1 : decode cX11_here 1 = .ok (.getfield 130, 3) := by decide +kernel
theorem dX11_here_4 : decode cX11_here 4 = .ok (.aload_n 0, 1) := by decide +kernel
theorem dX11_here_5 : decode cX11_here 5 = .ok (.getfield 37, 3) := by decide +kernel
theorem dX11_here_8 : decode cX11_here 8 = .ok (.aload_n 0, 1) := by decide +kernel
theorem dX11_here_9 : decode cX11_here 9 = .ok (.getfield 133, 3) := by decide +kernel
theorem dX11_here_12 : decode cX11_here 12 = .ok (.iaload, 1) := by decide +kernel
theorem dX11_here_13 : decode cX11_here 13 = .ok (.if_icmp .ge 24, 3) := by decide +kernel
theorem dX11_here_16 : decode cX11_here 16 = .ok (.aload_n 0, 1) := by decide +kernel
theorem dX11_here_17 : decode cX11_here 17 = .ok (.getfield 40, 3) := by decide +kernel
theorem dX11_here_20 : decode cX11_here 20 = .ok (.bipush 100, 2) := by decide +kernel
theorem dX11_here_22 : decode cX11_here 22 = .ok (.aload_n 0, 1) := by decide +kernel
theorem dX11_here_23 : decode cX11_here 23 = .ok (.getfield 133, 3) := by decide +kernel
theorem dX11_here_26 : decode cX11_here 26 = .ok (.imul, 1) := by decide +kernel
theorem dX11_here_27 : decode cX11_here 27 = .ok (.aload_n 0, 1) := by decide +kernel
theorem dX11_here_28 : decode cX11_here 28 = .ok (.getfield 130, 3) := by decide +kernel
theorem dX11_here_31 : decode cX11_here 31 = .ok (.iadd, 1) := by decide +kernel
theorem dX11_here_32 : decode cX11_here 32 = .ok (.laload, 1) := by decide +kernel
theorem dX11_here_33 : decode cX11_here 33 = .ok (.l2i, 1) := by decide +kernel
theorem dX11_here_34 : decode cX11_here 34 = .ok (.goto 6, 3) := by decide +kernel
theorem dX11_here_37 : decode cX11_here 37 = .ok (.sipush (-999), 3) := by decide +kernel
theorem dX11_here_40 : decode cX11_here 40 = .ok (.ireturn, 1) := by decide +kernel
abbrev cX11_readDigits : ByteArray := prog_13_method_21_code
def yX11_readDigits : MethodName := ⟨RX11, "readDigits", "(I)I"⟩
theorem dX11_readDigits_0 : decode cX11_readDigits 0 = .ok (.iconst 0, 1) := by decide +kernel
theorem dX11_readDigits_1 : decode cX11_readDigits 1 = .ok (.istore_n 2, 1) := by decide +kernel
theorem dX11_readDigits_2 : decode cX11_readDigits 2 = .ok (.iconst 0, 1) := by decide +kernel
theorem dX11_readDigits_3 : decode cX11_readDigits 3 = .ok (.istore_n 3, 1) := by decide +kernel
theorem dX11_readDigits_4 : decode cX11_readDigits 4 = .ok (.iload_n 3, 1) := by decide +kernel
theorem dX11_readDigits_5 : decode cX11_readDigits 5 = .ok (.iload_n 1, 1) := by decide +kernel
theorem dX11_readDigits_6 : decode cX11_readDigits 6 = .ok (.if_icmp .ge 87, 3) := by decide +kernel
theorem dX11_readDigits_9 : decode cX11_readDigits 9 = .ok (.aload_n 0, 1) := by decide +kernel
theorem dX11_readDigits_10 : decode cX11_readDigits 10 = .ok (.aload_n 0, 1) := by decide +kernel
theorem dX11_readDigits_11 : decode cX11_readDigits 11 = .ok (.getfield 136, 3) := by decide +kernel
theorem dX11_readDigits_14 : decode cX11_readDigits 14 = .ok (.ifCond .ne 20, 3) := by decide +kernel
theorem dX11_readDigits_17 : decode cX11_readDigits 17 = .ok (.aload_n 0, 1) := by decide +kernel
theorem dX11_readDigits_18 : decode cX11_readDigits 18 = .ok (.invokevirtual 140, 3) := by decide +kernel
theorem dX11_readDigits_21 : decode cX11_readDigits 21 = .ok (.i2l, 1) := by decide +kernel
theorem dX11_readDigits_22 : decode cX11_readDigits 22 = .ok (.ldc2_w 144, 3) := by decide +kernel
theorem dX11_readDigits_25 : decode cX11_readDigits 25 = .ok (.ldc2_w 146, 3) := by decide +kernel
theorem dX11_readDigits_28 : decode cX11_readDigits 28 = .ok (.invokestatic 80, 3) := by decide +kernel
theorem dX11_readDigits_31 : decode cX11_readDigits 31 = .ok (.ifCond .ne 7, 3) := by decide +kernel
theorem dX11_readDigits_34 : decode cX11_readDigits 34 = .ok (.iconst 1, 1) := by decide +kernel
theorem dX11_readDigits_35 : decode cX11_readDigits 35 = .ok (.goto 4, 3) := by decide +kernel
theorem dX11_readDigits_38 : decode cX11_readDigits 38 = .ok (.iconst 0, 1) := by decide +kernel
theorem dX11_readDigits_39 : decode cX11_readDigits 39 = .ok (.putfield 136, 3) := by decide +kernel
theorem dX11_readDigits_42 : decode cX11_readDigits 42 = .ok (.aload_n 0, 1) := by decide +kernel
theorem dX11_readDigits_43 : decode cX11_readDigits 43 = .ok (.getfield 136, 3) := by decide +kernel
theorem dX11_readDigits_46 : decode cX11_readDigits 46 = .ok (.ifCond .eq 7, 3) := by decide +kernel
theorem dX11_readDigits_49 : decode cX11_readDigits 49 = .ok (.iconst 0, 1) := by decide +kernel
theorem dX11_readDigits_50 : decode cX11_readDigits 50 = .ok (.goto 15, 3) := by decide +kernel
theorem dX11_readDigits_53 : decode cX11_readDigits 53 = .ok (.bipush 10, 2) := by decide +kernel
theorem dX11_readDigits_55 : decode cX11_readDigits 55 = .ok (.iload_n 2, 1) := by decide +kernel
theorem dX11_readDigits_56 : decode cX11_readDigits 56 = .ok (.imul, 1) := by decide +kernel
theorem dX11_readDigits_57 : decode cX11_readDigits 57 = .ok (.aload_n 0, 1) := by decide +kernel
theorem dX11_readDigits_58 : decode cX11_readDigits 58 = .ok (.invokevirtual 140, 3) := by decide +kernel
theorem dX11_readDigits_61 : decode cX11_readDigits 61 = .ok (.iadd, 1) := by decide +kernel
theorem dX11_readDigits_62 : decode cX11_readDigits 62 = .ok (.bipush 48, 2) := by decide +kernel
theorem dX11_readDigits_64 : decode cX11_readDigits 64 = .ok (.isub, 1) := by decide +kernel
theorem dX11_readDigits_65 : decode cX11_readDigits 65 = .ok (.istore_n 2, 1) := by decide +kernel
theorem dX11_readDigits_66 : decode cX11_readDigits 66 = .ok (.aload_n 0, 1) := by decide +kernel
theorem dX11_readDigits_67 : decode cX11_readDigits 67 = .ok (.dup, 1) := by decide +kernel
theorem dX11_readDigits_68 : decode cX11_readDigits 68 = .ok (.getfield 130, 3) := by decide +kernel
theorem dX11_readDigits_71 : decode cX11_readDigits 71 = .ok (.aload_n 0, 1) := by decide +kernel
theorem dX11_readDigits_72 : decode cX11_readDigits 72 = .ok (.getfield 136, 3) := by decide +kernel
theorem dX11_readDigits_75 : decode cX11_readDigits 75 = .ok (.ifCond .eq 7, 3) := by decide +kernel
theorem dX11_readDigits_78 : decode cX11_readDigits 78 = .ok (.iconst 0, 1) := by decide +kernel
theorem dX11_readDigits_79 : decode cX11_readDigits 79 = .ok (.goto 4, 3) := by decide +kernel
theorem dX11_readDigits_82 : decode cX11_readDigits 82 = .ok (.iconst 1, 1) := by decide +kernel
theorem dX11_readDigits_83 : decode cX11_readDigits 83 = .ok (.iadd, 1) := by decide +kernel
theorem dX11_readDigits_84 : decode cX11_readDigits 84 = .ok (.putfield 130, 3) := by decide +kernel
theorem dX11_readDigits_87 : decode cX11_readDigits 87 = .ok (.iinc 3 1, 3) := by decide +kernel
theorem dX11_readDigits_90 : decode cX11_readDigits 90 = .ok (.goto (-86), 3) := by decide +kernel
theorem dX11_readDigits_93 : decode cX11_readDigits 93 = .ok (.iload_n 2, 1) := by decide +kernel
theorem dX11_readDigits_94 : decode cX11_readDigits 94 = .ok (.ireturn, 1) := by decide +kernel
abbrev cX11_isLetter : ByteArray := prog_13_method_22_code
def yX11_isLetter : MethodName := ⟨RX11, "isLetter", "(I)Z"⟩
theorem dX11_isLetter_0 : decode cX11_isLetter 0 = .ok (.iload_n 0, 1) := by decide +kernel
theorem dX11_isLetter_1 : decode cX11_isLetter 1 = .ok (.bipush 118, 2) := by decide +kernel
theorem dX11_isLetter_3 : decode cX11_isLetter 3 = .ok (.if_icmp .eq 33, 3) := by decide +kernel
theorem dX11_isLetter_6 : decode cX11_isLetter 6 = .ok (.iload_n 0, 1) := by decide +kernel
theorem dX11_isLetter_7 : decode cX11_isLetter 7 = .ok (.bipush 99, 2) := by decide +kernel
theorem dX11_isLetter_9 : decode cX11_isLetter 9 = .ok (.if_icmp .eq 27, 3) := by decide +kernel
theorem dX11_isLetter_12 : decode cX11_isLetter 12 = .ok (.iload_n 0, 1) := by decide +kernel
theorem dX11_isLetter_13 : decode cX11_isLetter 13 = .ok (.bipush 115, 2) := by decide +kernel
theorem dX11_isLetter_15 : decode cX11_isLetter 15 = .ok (.if_icmp .eq 21, 3) := by decide +kernel
theorem dX11_isLetter_18 : decode cX11_isLetter 18 = .ok (.iload_n 0, 1) := by decide +kernel
theorem dX11_isLetter_19 : decode cX11_isLetter 19 = .ok (.bipush 107, 2) := by decide +kernel
theorem dX11_isLetter_21 : decode cX11_isLetter 21 = .ok (.if_icmp .eq 15, 3) := by decide +kernel
theorem dX11_isLetter_24 : decode cX11_isLetter 24 = .ok (.iload_n 0, 1) := by decide +kernel
theorem dX11_isLetter_25 : decode cX11_isLetter 25 = .ok (.bipush 102, 2) := by decide +kernel
theorem dX11_isLetter_27 : decode cX11_isLetter 27 = .ok (.if_icmp .eq 9, 3) := by decide +kernel
theorem dX11_isLetter_30 : decode cX11_isLetter 30 = .ok (.iload_n 0, 1) := by decide +kernel
theorem dX11_isLetter_31 : decode cX11_isLetter 31 = .ok (.bipush 100, 2) := by decide +kernel
theorem dX11_isLetter_33 : decode cX11_isLetter 33 = .ok (.if_icmp .ne 7, 3) := by decide +kernel
theorem dX11_isLetter_36 : decode cX11_isLetter 36 = .ok (.iconst 1, 1) := by decide +kernel
theorem dX11_isLetter_37 : decode cX11_isLetter 37 = .ok (.goto 4, 3) := by decide +kernel
theorem dX11_isLetter_40 : decode cX11_isLetter 40 = .ok (.iconst 0, 1) := by decide +kernel
theorem dX11_isLetter_41 : decode cX11_isLetter 41 = .ok (.ireturn, 1) := by decide +kernel
abbrev cX11_readNumbers : ByteArray := prog_13_method_23_code
def yX11_readNumbers : MethodName := ⟨RX11, "readNumbers", "(II)V"⟩
theorem dX11_readNumbers_0 : decode cX11_readNumbers 0 = .ok (.aload_n 0, 1) := by decide +kernel
theorem dX11_readNumbers_1 : decode cX11_readNumbers 1 = .ok (.getfield 50, 3) := by decide +kernel
theorem dX11_readNumbers_4 : decode cX11_readNumbers 4 = .ok (.iload_n 2, 1) := by decide +kernel
theorem dX11_readNumbers_5 : decode cX11_readNumbers 5 = .ok (.aload_n 0, 1) := by decide +kernel
theorem dX11_readNumbers_6 : decode cX11_readNumbers 6 = .ok (.iload_n 1, 1) := by decide +kernel
theorem dX11_readNumbers_7 : decode cX11_readNumbers 7 = .ok (.bipush 99, 2) := by decide +kernel
theorem dX11_readNumbers_9 : decode cX11_readNumbers 9 = .ok (.if_icmp .eq 9, 3) := by decide +kernel
theorem dX11_readNumbers_12 : decode cX11_readNumbers 12 = .ok (.iload_n 1, 1) := by decide +kernel
theorem dX11_readNumbers_13 : decode cX11_readNumbers 13 = .ok (.bipush 100, 2) := by decide +kernel
theorem dX11_readNumbers_15 : decode cX11_readNumbers 15 = .ok (.if_icmp .ne 7, 3) := by decide +kernel
theorem dX11_readNumbers_18 : decode cX11_readNumbers 18 = .ok (.iconst 2, 1) := by decide +kernel
theorem dX11_readNumbers_19 : decode cX11_readNumbers 19 = .ok (.goto 4, 3) := by decide +kernel
theorem dX11_readNumbers_22 : decode cX11_readNumbers 22 = .ok (.iconst 1, 1) := by decide +kernel
theorem dX11_readNumbers_23 : decode cX11_readNumbers 23 = .ok (.invokevirtual 148, 3) := by decide +kernel
theorem dX11_readNumbers_26 : decode cX11_readNumbers 26 = .ok (.iastore, 1) := by decide +kernel
theorem dX11_readNumbers_27 : decode cX11_readNumbers 27 = .ok (.iload_n 1, 1) := by decide +kernel
theorem dX11_readNumbers_28 : decode cX11_readNumbers 28 = .ok (.bipush 118, 2) := by decide +kernel
theorem dX11_readNumbers_30 : decode cX11_readNumbers 30 = .ok (.if_icmp .ne 45, 3) := by decide +kernel
theorem dX11_readNumbers_33 : decode cX11_readNumbers 33 = .ok (.aload_n 0, 1) := by decide +kernel
theorem dX11_readNumbers_34 : decode cX11_readNumbers 34 = .ok (.getfield 50, 3) := by decide +kernel
theorem dX11_readNumbers_37 : decode cX11_readNumbers 37 = .ok (.iload_n 2, 1) := by decide +kernel
theorem dX11_readNumbers_38 : decode cX11_readNumbers 38 = .ok (.iconst 1, 1) := by decide +kernel
theorem dX11_readNumbers_39 : decode cX11_readNumbers 39 = .ok (.iadd, 1) := by decide +kernel
theorem dX11_readNumbers_40 : decode cX11_readNumbers 40 = .ok (.aload_n 0, 1) := by decide +kernel
theorem dX11_readNumbers_41 : decode cX11_readNumbers 41 = .ok (.iconst 1, 1) := by decide +kernel
theorem dX11_readNumbers_42 : decode cX11_readNumbers 42 = .ok (.invokevirtual 148, 3) := by decide +kernel
theorem dX11_readNumbers_45 : decode cX11_readNumbers 45 = .ok (.iastore, 1) := by decide +kernel
theorem dX11_readNumbers_46 : decode cX11_readNumbers 46 = .ok (.aload_n 0, 1) := by decide +kernel
theorem dX11_readNumbers_47 : decode cX11_readNumbers 47 = .ok (.getfield 50, 3) := by decide +kernel
theorem dX11_readNumbers_50 : decode cX11_readNumbers 50 = .ok (.iload_n 2, 1) := by decide +kernel
theorem dX11_readNumbers_51 : decode cX11_readNumbers 51 = .ok (.iconst 2, 1) := by decide +kernel
theorem dX11_readNumbers_52 : decode cX11_readNumbers 52 = .ok (.iadd, 1) := by decide +kernel
theorem dX11_readNumbers_53 : decode cX11_readNumbers 53 = .ok (.aload_n 0, 1) := by decide +kernel
theorem dX11_readNumbers_54 : decode cX11_readNumbers 54 = .ok (.iconst 2, 1) := by decide +kernel
theorem dX11_readNumbers_55 : decode cX11_readNumbers 55 = .ok (.invokevirtual 148, 3) := by decide +kernel
theorem dX11_readNumbers_58 : decode cX11_readNumbers 58 = .ok (.iastore, 1) := by decide +kernel
theorem dX11_readNumbers_59 : decode cX11_readNumbers 59 = .ok (.aload_n 0, 1) := by decide +kernel
theorem dX11_readNumbers_60 : decode cX11_readNumbers 60 = .ok (.getfield 50, 3) := by decide +kernel
theorem dX11_readNumbers_63 : decode cX11_readNumbers 63 = .ok (.iload_n 2, 1) := by decide +kernel
theorem dX11_readNumbers_64 : decode cX11_readNumbers 64 = .ok (.iconst 3, 1) := by decide +kernel
theorem dX11_readNumbers_65 : decode cX11_readNumbers 65 = .ok (.iadd, 1) := by decide +kernel
theorem dX11_readNumbers_66 : decode cX11_readNumbers 66 = .ok (.aload_n 0, 1) := by decide +kernel
theorem dX11_readNumbers_67 : decode cX11_readNumbers 67 = .ok (.iconst 1, 1) := by decide +kernel
theorem dX11_readNumbers_68 : decode cX11_readNumbers 68 = .ok (.invokevirtual 148, 3) := by decide +kernel
theorem dX11_readNumbers_71 : decode cX11_readNumbers 71 = .ok (.iastore, 1) := by decide +kernel
theorem dX11_readNumbers_72 : decode cX11_readNumbers 72 = .ok (.goto 50, 3) := by decide +kernel
theorem dX11_readNumbers_75 : decode cX11_readNumbers 75 = .ok (.iload_n 1, 1) := by decide +kernel
theorem dX11_readNumbers_76 : decode cX11_readNumbers 76 = .ok (.bipush 115, 2) := by decide +kernel
theorem dX11_readNumbers_78 : decode cX11_readNumbers 78 = .ok (.if_icmp .eq 9, 3) := by decide +kernel
theorem dX11_readNumbers_81 : decode cX11_readNumbers 81 = .ok (.iload_n 1, 1) := by decide +kernel
theorem dX11_readNumbers_82 : decode cX11_readNumbers 82 = .ok (.bipush 107, 2) := by decide +kernel
theorem dX11_readNumbers_84 : decode cX11_readNumbers 84 = .ok (.if_icmp .ne 19, 3) := by decide +kernel
theorem dX11_readNumbers_87 : decode cX11_readNumbers 87 = .ok (.aload_n 0, 1) := by decide +kernel
theorem dX11_readNumbers_88 : decode cX11_readNumbers 88 = .ok (.getfield 50, 3) := by decide +kernel
theorem dX11_readNumbers_91 : decode cX11_readNumbers 91 = .ok (.iload_n 2, 1) := by decide +kernel
theorem dX11_readNumbers_92 : decode cX11_readNumbers 92 = .ok (.iconst 1, 1) := by decide +kernel
theorem dX11_readNumbers_93 : decode cX11_readNumbers 93 = .ok (.iadd, 1) := by decide +kernel
theorem dX11_readNumbers_94 : decode cX11_readNumbers 94 = .ok (.aload_n 0, 1) := by decide +kernel
theorem dX11_readNumbers_95 : decode cX11_readNumbers 95 = .ok (.iconst 2, 1) := by decide +kernel
theorem dX11_readNumbers_96 : decode cX11_readNumbers 96 = .ok (.invokevirtual 148, 3) := by decide +kernel
theorem dX11_readNumbers_99 : decode cX11_readNumbers 99 = .ok (.iastore, 1) := by decide +kernel
theorem dX11_readNumbers_100 : decode cX11_readNumbers 100 = .ok (.goto 22, 3) := by decide +kernel
theorem dX11_readNumbers_103 : decode cX11_readNumbers 103 = .ok (.iload_n 1, 1) := by decide +kernel
theorem dX11_readNumbers_104 : decode cX11_readNumbers 104 = .ok (.bipush 102, 2) := by decide +kernel
theorem dX11_readNumbers_106 : decode cX11_readNumbers 106 = .ok (.if_icmp .ne 16, 3) := by decide +kernel
theorem dX11_readNumbers_109 : decode cX11_readNumbers 109 = .ok (.aload_n 0, 1) := by decide +kernel
theorem dX11_readNumbers_110 : decode cX11_readNumbers 110 = .ok (.getfield 50, 3) := by decide +kernel
theorem dX11_readNumbers_113 : decode cX11_readNumbers 113 = .ok (.iload_n 2, 1) := by decide +kernel
theorem dX11_readNumbers_114 : decode cX11_readNumbers 114 = .ok (.iconst 1, 1) := by decide +kernel
theorem dX11_readNumbers_115 : decode cX11_readNumbers 115 = .ok (.iadd, 1) := by decide +kernel
theorem dX11_readNumbers_116 : decode cX11_readNumbers 116 = .ok (.aload_n 0, 1) := by decide +kernel
theorem dX11_readNumbers_117 : decode cX11_readNumbers 117 = .ok (.iconst 1, 1) := by decide +kernel
theorem dX11_readNumbers_118 : decode cX11_readNumbers 118 = .ok (.invokevirtual 148, 3) := by decide +kernel
theorem dX11_readNumbers_121 : decode cX11_readNumbers 121 = .ok (.iastore, 1) := by decide +kernel
theorem dX11_readNumbers_122 : decode cX11_readNumbers 122 = .ok (.return_, 1) := by decide +kernel
abbrev cX11_readStatement : ByteArray := prog_13_method_24_code
def yX11_readStatement : MethodName := ⟨RX11, "readStatement", "()V"⟩
theorem dX11_readStatement_0 : decode cX11_readStatement 0 = .ok (.aload_n 0, 1) := by decide +kernel
theorem dX11_readStatement_1 : decode cX11_readStatement 1 = .ok (.getfield 151, 3) := by decide +kernel
theorem dX11_readStatement_4 : decode cX11_readStatement 4 = .ok (.istore_n 1, 1) := by decide +kernel
theorem dX11_readStatement_5 : decode cX11_readStatement 5 = .ok (.aload_n 0, 1) := by decide +kernel
theorem dX11_readStatement_6 : decode cX11_readStatement 6 = .ok (.invokevirtual 140, 3) := by decide +kernel
theorem dX11_readStatement_9 : decode cX11_readStatement 9 = .ok (.istore_n 2, 1) := by decide +kernel
theorem dX11_readStatement_10 : decode cX11_readStatement 10 = .ok (.aload_n 0, 1) := by decide +kernel
theorem dX11_readStatement_11 : decode cX11_readStatement 11 = .ok (.getfield 44, 3) := by decide +kernel
theorem dX11_readStatement_14 : decode cX11_readStatement 14 = .ok (.iload_n 1, 1) := by decide +kernel
theorem dX11_readStatement_15 : decode cX11_readStatement 15 = .ok (.aload_n 0, 1) := by decide +kernel
theorem dX11_readStatement_16 : decode cX11_readStatement 16 = .ok (.getfield 130, 3) := by decide +kernel
theorem dX11_readStatement_19 : decode cX11_readStatement 19 = .ok (.iastore, 1) := by decide +kernel
theorem dX11_readStatement_20 : decode cX11_readStatement 20 = .ok (.aload_n 0, 1) := by decide +kernel
theorem dX11_readStatement_21 : decode cX11_readStatement 21 = .ok (.getfield 47, 3) := by decide +kernel
theorem dX11_readStatement_24 : decode cX11_readStatement 24 = .ok (.iload_n 1, 1) := by decide +kernel
theorem dX11_readStatement_25 : decode cX11_readStatement 25 = .ok (.iload_n 2, 1) := by decide +kernel
theorem dX11_readStatement_26 : decode cX11_readStatement 26 = .ok (.iastore, 1) := by decide +kernel
theorem dX11_readStatement_27 : decode cX11_readStatement 27 = .ok (.aload_n 0, 1) := by decide +kernel
theorem dX11_readStatement_28 : decode cX11_readStatement 28 = .ok (.aload_n 0, 1) := by decide +kernel
theorem dX11_readStatement_29 : decode cX11_readStatement 29 = .ok (.getfield 136, 3) := by decide +kernel
theorem dX11_readStatement_32 : decode cX11_readStatement 32 = .ok (.ifCond .ne 10, 3) := by decide +kernel
theorem dX11_readStatement_35 : decode cX11_readStatement 35 = .ok (.iload_n 2, 1) := by decide +kernel
theorem dX11_readStatement_36 : decode cX11_readStatement 36 = .ok (.invokestatic 154, 3) := by decide +kernel
theorem dX11_readStatement_39 : decode cX11_readStatement 39 = .ok (.ifCond .ne 7, 3) := by decide +kernel
theorem dX11_readStatement_42 : decode cX11_readStatement 42 = .ok (.iconst 1, 1) := by decide +kernel
theorem dX11_readStatement_43 : decode cX11_readStatement 43 = .ok (.goto 4, 3) := by decide +kernel
theorem dX11_readStatement_46 : decode cX11_readStatement 46 = .ok (.iconst 0, 1) := by decide +kernel
theorem dX11_readStatement_47 : decode cX11_readStatement 47 = .ok (.putfield 136, 3) := by decide +kernel
theorem dX11_readStatement_50 : decode cX11_readStatement 50 = .ok (.aload_n 0, 1) := by decide +kernel
theorem dX11_readStatement_51 : decode cX11_readStatement 51 = .ok (.dup, 1) := by decide +kernel
theorem dX11_readStatement_52 : decode cX11_readStatement 52 = .ok (.getfield 130, 3) := by decide +kernel
theorem dX11_readStatement_55 : decode cX11_readStatement 55 = .ok (.aload_n 0, 1) := by decide +kernel
theorem dX11_readStatement_56 : decode cX11_readStatement 56 = .ok (.getfield 136, 3) := by decide +kernel
theorem dX11_readStatement_59 : decode cX11_readStatement 59 = .ok (.ifCond .eq 7, 3) := by decide +kernel
theorem dX11_readStatement_62 : decode cX11_readStatement 62 = .ok (.iconst 0, 1) := by decide +kernel
theorem dX11_readStatement_63 : decode cX11_readStatement 63 = .ok (.goto 4, 3) := by decide +kernel
theorem dX11_readStatement_66 : decode cX11_readStatement 66 = .ok (.iconst 1, 1) := by decide +kernel
theorem dX11_readStatement_67 : decode cX11_readStatement 67 = .ok (.iadd, 1) := by decide +kernel
theorem dX11_readStatement_68 : decode cX11_readStatement 68 = .ok (.putfield 130, 3) := by decide +kernel
theorem dX11_readStatement_71 : decode cX11_readStatement 71 = .ok (.aload_n 0, 1) := by decide +kernel
theorem dX11_readStatement_72 : decode cX11_readStatement 72 = .ok (.getfield 136, 3) := by decide +kernel
theorem dX11_readStatement_75 : decode cX11_readStatement 75 = .ok (.ifCond .ne 11, 3) := by decide +kernel
theorem dX11_readStatement_78 : decode cX11_readStatement 78 = .ok (.aload_n 0, 1) := by decide +kernel
theorem dX11_readStatement_79 : decode cX11_readStatement 79 = .ok (.iload_n 2, 1) := by decide +kernel
theorem dX11_readStatement_80 : decode cX11_readStatement 80 = .ok (.iconst 4, 1) := by decide +kernel
theorem dX11_readStatement_81 : decode cX11_readStatement 81 = .ok (.iload_n 1, 1) := by decide +kernel
theorem dX11_readStatement_82 : decode cX11_readStatement 82 = .ok (.imul, 1) := by decide +kernel
theorem dX11_readStatement_83 : decode cX11_readStatement 83 = .ok (.invokevirtual 157, 3) := by decide +kernel
theorem dX11_readStatement_86 : decode cX11_readStatement 86 = .ok (.aload_n 0, 1) := by decide +kernel
theorem dX11_readStatement_87 : decode cX11_readStatement 87 = .ok (.aload_n 0, 1) := by decide +kernel
theorem dX11_readStatement_88 : decode cX11_readStatement 88 = .ok (.getfield 136, 3) := by decide +kernel
theorem dX11_readStatement_91 : decode cX11_readStatement 91 = .ok (.ifCond .ne 12, 3) := by decide +kernel
theorem dX11_readStatement_94 : decode cX11_readStatement 94 = .ok (.aload_n 0, 1) := by decide +kernel
theorem dX11_readStatement_95 : decode cX11_readStatement 95 = .ok (.invokevirtual 140, 3) := by decide +kernel
theorem dX11_readStatement_98 : decode cX11_readStatement 98 = .ok (.bipush 59, 2) := by decide +kernel
theorem dX11_readStatement_100 : decode cX11_readStatement 100 = .ok (.if_icmp .eq 7, 3) := by decide +kernel
theorem dX11_readStatement_103 : decode cX11_readStatement 103 = .ok (.iconst 1, 1) := by decide +kernel
theorem dX11_readStatement_104 : decode cX11_readStatement 104 = .ok (.goto 4, 3) := by decide +kernel
theorem dX11_readStatement_107 : decode cX11_readStatement 107 = .ok (.iconst 0, 1) := by decide +kernel
theorem dX11_readStatement_108 : decode cX11_readStatement 108 = .ok (.putfield 136, 3) := by decide +kernel
theorem dX11_readStatement_111 : decode cX11_readStatement 111 = .ok (.aload_n 0, 1) := by decide +kernel
theorem dX11_readStatement_112 : decode cX11_readStatement 112 = .ok (.dup, 1) := by decide +kernel
theorem dX11_readStatement_113 : decode cX11_readStatement 113 = .ok (.getfield 130, 3) := by decide +kernel
theorem dX11_readStatement_116 : decode cX11_readStatement 116 = .ok (.aload_n 0, 1) := by decide +kernel
theorem dX11_readStatement_117 : decode cX11_readStatement 117 = .ok (.getfield 136, 3) := by decide +kernel
theorem dX11_readStatement_120 : decode cX11_readStatement 120 = .ok (.ifCond .eq 7, 3) := by decide +kernel
theorem dX11_readStatement_123 : decode cX11_readStatement 123 = .ok (.iconst 0, 1) := by decide +kernel
theorem dX11_readStatement_124 : decode cX11_readStatement 124 = .ok (.goto 4, 3) := by decide +kernel
theorem dX11_readStatement_127 : decode cX11_readStatement 127 = .ok (.iconst 1, 1) := by decide +kernel
theorem dX11_readStatement_128 : decode cX11_readStatement 128 = .ok (.iadd, 1) := by decide +kernel
theorem dX11_readStatement_129 : decode cX11_readStatement 129 = .ok (.putfield 130, 3) := by decide +kernel
theorem dX11_readStatement_132 : decode cX11_readStatement 132 = .ok (.aload_n 0, 1) := by decide +kernel
theorem dX11_readStatement_133 : decode cX11_readStatement 133 = .ok (.dup, 1) := by decide +kernel
theorem dX11_readStatement_134 : decode cX11_readStatement 134 = .ok (.getfield 151, 3) := by decide +kernel
theorem dX11_readStatement_137 : decode cX11_readStatement 137 = .ok (.iconst 1, 1) := by decide +kernel
theorem dX11_readStatement_138 : decode cX11_readStatement 138 = .ok (.iadd, 1) := by decide +kernel
theorem dX11_readStatement_139 : decode cX11_readStatement 139 = .ok (.putfield 151, 3) := by decide +kernel
theorem dX11_readStatement_142 : decode cX11_readStatement 142 = .ok (.return_, 1) := by decide +kernel
abbrev cX11_oneComes : ByteArray := prog_13_method_25_code
def yX11_oneComes : MethodName := ⟨RX11, "oneComes", "(IIII)Z"⟩
theorem dX11_oneComes_0 : decode cX11_oneComes 0 = .ok (.iload_n 1, 1) := by decide +kernel
theorem dX11_oneComes_1 : decode cX11_oneComes 1 = .ok (.bipush 8, 2) := by decide +kernel
theorem dX11_oneComes_3 : decode cX11_oneComes 3 = .ok (.if_icmp .ge 30, 3) := by decide +kernel
theorem dX11_oneComes_6 : decode cX11_oneComes 6 = .ok (.iload_n 3, 1) := by decide +kernel
theorem dX11_oneComes_7 : decode cX11_oneComes 7 = .ok (.invokestatic 161, 3) := by decide +kernel
theorem dX11_oneComes_10 : decode cX11_oneComes 10 = .ok (.ifCond .eq 23, 3) := by decide +kernel
theorem dX11_oneComes_13 : decode cX11_oneComes 13 = .ok (.iload 4, 2) := by decide +kernel
theorem dX11_oneComes_15 : decode cX11_oneComes 15 = .ok (.bipush 7, 2) := by decide +kernel
theorem dX11_oneComes_17 : decode cX11_oneComes 17 = .ok (.if_icmp .ge 16, 3) := by decide +kernel
theorem dX11_oneComes_20 : decode cX11_oneComes 20 = .ok (.aload_n 0, 1) := by decide +kernel
theorem dX11_oneComes_21 : decode cX11_oneComes 21 = .ok (.getfield 84, 3) := by decide +kernel
theorem dX11_oneComes_24 : decode cX11_oneComes 24 = .ok (.bipush 7, 2) := by decide +kernel
theorem dX11_oneComes_26 : decode cX11_oneComes 26 = .ok (.if_icmp .ge 7, 3) := by decide +kernel
theorem dX11_oneComes_29 : decode cX11_oneComes 29 = .ok (.iconst 1, 1) := by decide +kernel
theorem dX11_oneComes_30 : decode cX11_oneComes 30 = .ok (.goto 4, 3) := by decide +kernel
theorem dX11_oneComes_33 : decode cX11_oneComes 33 = .ok (.iconst 0, 1) := by decide +kernel
theorem dX11_oneComes_34 : decode cX11_oneComes 34 = .ok (.istore 5, 2) := by decide +kernel
theorem dX11_oneComes_36 : decode cX11_oneComes 36 = .ok (.iload 5, 2) := by decide +kernel
theorem dX11_oneComes_38 : decode cX11_oneComes 38 = .ok (.ifCond .eq 65, 3) := by decide +kernel
theorem dX11_oneComes_41 : decode cX11_oneComes 41 = .ok (.aload_n 0, 1) := by decide +kernel
theorem dX11_oneComes_42 : decode cX11_oneComes 42 = .ok (.getfield 7, 3) := by decide +kernel
theorem dX11_oneComes_45 : decode cX11_oneComes 45 = .ok (.aload_n 0, 1) := by decide +kernel
theorem dX11_oneComes_46 : decode cX11_oneComes 46 = .ok (.getfield 84, 3) := by decide +kernel
theorem dX11_oneComes_49 : decode cX11_oneComes 49 = .ok (.iload_n 1, 1) := by decide +kernel
theorem dX11_oneComes_50 : decode cX11_oneComes 50 = .ok (.iastore, 1) := by decide +kernel
theorem dX11_oneComes_51 : decode cX11_oneComes 51 = .ok (.aload_n 0, 1) := by decide +kernel
theorem dX11_oneComes_52 : decode cX11_oneComes 52 = .ok (.getfield 13, 3) := by decide +kernel
theorem dX11_oneComes_55 : decode cX11_oneComes 55 = .ok (.aload_n 0, 1) := by decide +kernel
theorem dX11_oneComes_56 : decode cX11_oneComes 56 = .ok (.getfield 84, 3) := by decide +kernel
theorem dX11_oneComes_59 : decode cX11_oneComes 59 = .ok (.iload_n 2, 1) := by decide +kernel
theorem dX11_oneComes_60 : decode cX11_oneComes 60 = .ok (.iastore, 1) := by decide +kernel
theorem dX11_oneComes_61 : decode cX11_oneComes 61 = .ok (.aload_n 0, 1) := by decide +kernel
theorem dX11_oneComes_62 : decode cX11_oneComes 62 = .ok (.getfield 16, 3) := by decide +kernel
theorem dX11_oneComes_65 : decode cX11_oneComes 65 = .ok (.aload_n 0, 1) := by decide +kernel
theorem dX11_oneComes_66 : decode cX11_oneComes 66 = .ok (.getfield 84, 3) := by decide +kernel
theorem dX11_oneComes_69 : decode cX11_oneComes 69 = .ok (.iload_n 3, 1) := by decide +kernel
theorem dX11_oneComes_70 : decode cX11_oneComes 70 = .ok (.iastore, 1) := by decide +kernel
theorem dX11_oneComes_71 : decode cX11_oneComes 71 = .ok (.aload_n 0, 1) := by decide +kernel
theorem dX11_oneComes_72 : decode cX11_oneComes 72 = .ok (.getfield 19, 3) := by decide +kernel
theorem dX11_oneComes_75 : decode cX11_oneComes 75 = .ok (.aload_n 0, 1) := by decide +kernel
theorem dX11_oneComes_76 : decode cX11_oneComes 76 = .ok (.getfield 84, 3) := by decide +kernel
theorem dX11_oneComes_79 : decode cX11_oneComes 79 = .ok (.iload 4, 2) := by decide +kernel
theorem dX11_oneComes_81 : decode cX11_oneComes 81 = .ok (.iastore, 1) := by decide +kernel
theorem dX11_oneComes_82 : decode cX11_oneComes 82 = .ok (.aload_n 0, 1) := by decide +kernel
theorem dX11_oneComes_83 : decode cX11_oneComes 83 = .ok (.getfield 22, 3) := by decide +kernel
theorem dX11_oneComes_86 : decode cX11_oneComes 86 = .ok (.aload_n 0, 1) := by decide +kernel
theorem dX11_oneComes_87 : decode cX11_oneComes 87 = .ok (.getfield 84, 3) := by decide +kernel
theorem dX11_oneComes_90 : decode cX11_oneComes 90 = .ok (.bipush 10, 2) := by decide +kernel
theorem dX11_oneComes_92 : decode cX11_oneComes 92 = .ok (.iastore, 1) := by decide +kernel
theorem dX11_oneComes_93 : decode cX11_oneComes 93 = .ok (.aload_n 0, 1) := by decide +kernel
theorem dX11_oneComes_94 : decode cX11_oneComes 94 = .ok (.dup, 1) := by decide +kernel
theorem dX11_oneComes_95 : decode cX11_oneComes 95 = .ok (.getfield 84, 3) := by decide +kernel
theorem dX11_oneComes_98 : decode cX11_oneComes 98 = .ok (.iconst 1, 1) := by decide +kernel
theorem dX11_oneComes_99 : decode cX11_oneComes 99 = .ok (.iadd, 1) := by decide +kernel
theorem dX11_oneComes_100 : decode cX11_oneComes 100 = .ok (.putfield 84, 3) := by decide +kernel
theorem dX11_oneComes_103 : decode cX11_oneComes 103 = .ok (.iload 5, 2) := by decide +kernel
theorem dX11_oneComes_105 : decode cX11_oneComes 105 = .ok (.ireturn, 1) := by decide +kernel
abbrev cX11_daysCome : ByteArray := prog_13_method_26_code
def yX11_daysCome : MethodName := ⟨RX11, "daysCome", "(I)Z"⟩
theorem dX11_daysCome_0 : decode cX11_daysCome 0 = .ok (.iload_n 1, 1) := by decide +kernel
theorem dX11_daysCome_1 : decode cX11_daysCome 1 = .ok (.i2l, 1) := by decide +kernel
theorem dX11_daysCome_2 : decode cX11_daysCome 2 = .ok (.lconst 1, 1) := by decide +kernel
theorem dX11_daysCome_3 : decode cX11_daysCome 3 = .ok (.ldc2_w 164, 3) := by decide +kernel
theorem dX11_daysCome_6 : decode cX11_daysCome 6 = .ok (.invokestatic 80, 3) := by decide +kernel
theorem dX11_daysCome_9 : decode cX11_daysCome 9 = .ok (.ifCond .eq 19, 3) := by decide +kernel
theorem dX11_daysCome_12 : decode cX11_daysCome 12 = .ok (.aload_n 0, 1) := by decide +kernel
theorem dX11_daysCome_13 : decode cX11_daysCome 13 = .ok (.getfield 97, 3) := by decide +kernel
theorem dX11_daysCome_16 : decode cX11_daysCome 16 = .ok (.iload_n 1, 1) := by decide +kernel
theorem dX11_daysCome_17 : decode cX11_daysCome 17 = .ok (.iadd, 1) := by decide +kernel
theorem dX11_daysCome_18 : decode cX11_daysCome 18 = .ok (.sipush 999, 3) := by decide +kernel
theorem dX11_daysCome_21 : decode cX11_daysCome 21 = .ok (.if_icmp .gt 7, 3) := by decide +kernel
theorem dX11_daysCome_24 : decode cX11_daysCome 24 = .ok (.iconst 1, 1) := by decide +kernel
theorem dX11_daysCome_25 : decode cX11_daysCome 25 = .ok (.goto 4, 3) := by decide +kernel
theorem dX11_daysCome_28 : decode cX11_daysCome 28 = .ok (.iconst 0, 1) := by decide +kernel
theorem dX11_daysCome_29 : decode cX11_daysCome 29 = .ok (.istore_n 2, 1) := by decide +kernel
theorem dX11_daysCome_30 : decode cX11_daysCome 30 = .ok (.iload_n 2, 1) := by decide +kernel
theorem dX11_daysCome_31 : decode cX11_daysCome 31 = .ok (.ifCond .eq 8, 3) := by decide +kernel
theorem dX11_daysCome_34 : decode cX11_daysCome 34 = .ok (.aload_n 0, 1) := by decide +kernel
theorem dX11_daysCome_35 : decode cX11_daysCome 35 = .ok (.iload_n 1, 1) := by decide +kernel
theorem dX11_daysCome_36 : decode cX11_daysCome 36 = .ok (.invokevirtual 166, 3) := by decide +kernel
theorem dX11_daysCome_39 : decode cX11_daysCome 39 = .ok (.iload_n 2, 1) := by decide +kernel
theorem dX11_daysCome_40 : decode cX11_daysCome 40 = .ok (.ireturn, 1) := by decide +kernel
abbrev cX11_comesTold : ByteArray := prog_13_method_27_code
def yX11_comesTold : MethodName := ⟨RX11, "comesTold", "(I)Z"⟩
theorem dX11_comesTold_0 : decode cX11_comesTold 0 = .ok (.aload_n 0, 1) := by decide +kernel
theorem dX11_comesTold_1 : decode cX11_comesTold 1 = .ok (.getfield 50, 3) := by decide +kernel
theorem dX11_comesTold_4 : decode cX11_comesTold 4 = .ok (.iconst 4, 1) := by decide +kernel
theorem dX11_comesTold_5 : decode cX11_comesTold 5 = .ok (.iload_n 1, 1) := by decide +kernel
theorem dX11_comesTold_6 : decode cX11_comesTold 6 = .ok (.imul, 1) := by decide +kernel
theorem dX11_comesTold_7 : decode cX11_comesTold 7 = .ok (.iaload, 1) := by decide +kernel
theorem dX11_comesTold_8 : decode cX11_comesTold 8 = .ok (.istore_n 2, 1) := by decide +kernel
theorem dX11_comesTold_9 : decode cX11_comesTold 9 = .ok (.aload_n 0, 1) := by decide +kernel
theorem dX11_comesTold_10 : decode cX11_comesTold 10 = .ok (.getfield 50, 3) := by decide +kernel
theorem dX11_comesTold_13 : decode cX11_comesTold 13 = .ok (.iconst 4, 1) := by decide +kernel
theorem dX11_comesTold_14 : decode cX11_comesTold 14 = .ok (.iload_n 1, 1) := by decide +kernel
theorem dX11_comesTold_15 : decode cX11_comesTold 15 = .ok (.imul, 1) := by decide +kernel
theorem dX11_comesTold_16 : decode cX11_comesTold 16 = .ok (.iconst 1, 1) := by decide +kernel
theorem dX11_comesTold_17 : decode cX11_comesTold 17 = .ok (.iadd, 1) := by decide +kernel
theorem dX11_comesTold_18 : decode cX11_comesTold 18 = .ok (.iaload, 1) := by decide +kernel
theorem dX11_comesTold_19 : decode cX11_comesTold 19 = .ok (.istore_n 3, 1) := by decide +kernel
theorem dX11_comesTold_20 : decode cX11_comesTold 20 = .ok (.iconst 1, 1) := by decide +kernel
theorem dX11_comesTold_21 : decode cX11_comesTold 21 = .ok (.istore 4, 2) := by decide +kernel
theorem dX11_comesTold_23 : decode cX11_comesTold 23 = .ok (.aload_n 0, 1) := by decide +kernel
theorem dX11_comesTold_24 : decode cX11_comesTold 24 = .ok (.getfield 47, 3) := by decide +kernel
theorem dX11_comesTold_27 : decode cX11_comesTold 27 = .ok (.iload_n 1, 1) := by decide +kernel
theorem dX11_comesTold_28 : decode cX11_comesTold 28 = .ok (.iaload, 1) := by decide +kernel
theorem dX11_comesTold_29 : decode cX11_comesTold 29 = .ok (.lookupswitch 218 #[(99, 78), (102, 182), (107, 160), (115, 104), (118, 51)], 51) := by decide +kernel
theorem dX11_comesTold_80 : decode cX11_comesTold 80 = .ok (.aload_n 0, 1) := by decide +kernel
theorem dX11_comesTold_81 : decode cX11_comesTold 81 = .ok (.iload_n 2, 1) := by decide +kernel
theorem dX11_comesTold_82 : decode cX11_comesTold 82 = .ok (.iload_n 3, 1) := by decide +kernel
theorem dX11_comesTold_83 : decode cX11_comesTold 83 = .ok (.aload_n 0, 1) := by decide +kernel
theorem dX11_comesTold_84 : decode cX11_comesTold 84 = .ok (.getfield 50, 3) := by decide +kernel
theorem dX11_comesTold_87 : decode cX11_comesTold 87 = .ok (.iconst 4, 1) := by decide +kernel
theorem dX11_comesTold_88 : decode cX11_comesTold 88 = .ok (.iload_n 1, 1) := by decide +kernel
theorem dX11_comesTold_89 : decode cX11_comesTold 89 = .ok (.imul, 1) := by decide +kernel
theorem dX11_comesTold_90 : decode cX11_comesTold 90 = .ok (.iconst 2, 1) := by decide +kernel
theorem dX11_comesTold_91 : decode cX11_comesTold 91 = .ok (.iadd, 1) := by decide +kernel
theorem dX11_comesTold_92 : decode cX11_comesTold 92 = .ok (.iaload, 1) := by decide +kernel
theorem dX11_comesTold_93 : decode cX11_comesTold 93 = .ok (.aload_n 0, 1) := by decide +kernel
theorem dX11_comesTold_94 : decode cX11_comesTold 94 = .ok (.getfield 50, 3) := by decide +kernel
theorem dX11_comesTold_97 : decode cX11_comesTold 97 = .ok (.iconst 4, 1) := by decide +kernel
theorem dX11_comesTold_98 : decode cX11_comesTold 98 = .ok (.iload_n 1, 1) := by decide +kernel
theorem dX11_comesTold_99 : decode cX11_comesTold 99 = .ok (.imul, 1) := by decide +kernel
theorem dX11_comesTold_100 : decode cX11_comesTold 100 = .ok (.iconst 3, 1) := by decide +kernel
theorem dX11_comesTold_101 : decode cX11_comesTold 101 = .ok (.iadd, 1) := by decide +kernel
theorem dX11_comesTold_102 : decode cX11_comesTold 102 = .ok (.iaload, 1) := by decide +kernel
theorem dX11_comesTold_103 : decode cX11_comesTold 103 = .ok (.invokevirtual 170, 3) := by decide +kernel
theorem dX11_comesTold_106 : decode cX11_comesTold 106 = .ok (.ireturn, 1) := by decide +kernel
theorem dX11_comesTold_107 : decode cX11_comesTold 107 = .ok (.iload_n 2, 1) := by decide +kernel
theorem dX11_comesTold_108 : decode cX11_comesTold 108 = .ok (.invokestatic 161, 3) := by decide +kernel
theorem dX11_comesTold_111 : decode cX11_comesTold 111 = .ok (.istore 4, 2) := by decide +kernel
theorem dX11_comesTold_113 : decode cX11_comesTold 113 = .ok (.aload_n 0, 1) := by decide +kernel
theorem dX11_comesTold_114 : decode cX11_comesTold 114 = .ok (.iload 4, 2) := by decide +kernel
theorem dX11_comesTold_116 : decode cX11_comesTold 116 = .ok (.ifCond .eq 7, 3) := by decide +kernel
theorem dX11_comesTold_119 : decode cX11_comesTold 119 = .ok (.iload_n 2, 1) := by decide +kernel
theorem dX11_comesTold_120 : decode cX11_comesTold 120 = .ok (.goto 7, 3) := by decide +kernel
theorem dX11_comesTold_123 : decode cX11_comesTold 123 = .ok (.aload_n 0, 1) := by decide +kernel
theorem dX11_comesTold_124 : decode cX11_comesTold 124 = .ok (.getfield 91, 3) := by decide +kernel
theorem dX11_comesTold_127 : decode cX11_comesTold 127 = .ok (.putfield 91, 3) := by decide +kernel
theorem dX11_comesTold_130 : decode cX11_comesTold 130 = .ok (.iload 4, 2) := by decide +kernel
theorem dX11_comesTold_132 : decode cX11_comesTold 132 = .ok (.ireturn, 1) := by decide +kernel
theorem dX11_comesTold_133 : decode cX11_comesTold 133 = .ok (.iload_n 2, 1) := by decide +kernel
theorem dX11_comesTold_134 : decode cX11_comesTold 134 = .ok (.iconst 5, 1) := by decide +kernel
theorem dX11_comesTold_135 : decode cX11_comesTold 135 = .ok (.if_icmp .gt 14, 3) := by decide +kernel
theorem dX11_comesTold_138 : decode cX11_comesTold 138 = .ok (.iload_n 3, 1) := by decide +kernel
theorem dX11_comesTold_139 : decode cX11_comesTold 139 = .ok (.invokestatic 161, 3) := by decide +kernel
theorem dX11_comesTold_142 : decode cX11_comesTold 142 = .ok (.ifCond .eq 7, 3) := by decide +kernel
theorem dX11_comesTold_145 : decode cX11_comesTold 145 = .ok (.iconst 1, 1) := by decide +kernel
theorem dX11_comesTold_146 : decode cX11_comesTold 146 = .ok (.goto 4, 3) := by decide +kernel
theorem dX11_comesTold_149 : decode cX11_comesTold 149 = .ok (.iconst 0, 1) := by decide +kernel
theorem dX11_comesTold_150 : decode cX11_comesTold 150 = .ok (.istore 4, 2) := by decide +kernel
theorem dX11_comesTold_152 : decode cX11_comesTold 152 = .ok (.aload_n 0, 1) := by decide +kernel
theorem dX11_comesTold_153 : decode cX11_comesTold 153 = .ok (.iload 4, 2) := by decide +kernel
theorem dX11_comesTold_155 : decode cX11_comesTold 155 = .ok (.ifCond .eq 7, 3) := by decide +kernel
theorem dX11_comesTold_158 : decode cX11_comesTold 158 = .ok (.iload_n 2, 1) := by decide +kernel
theorem dX11_comesTold_159 : decode cX11_comesTold 159 = .ok (.goto 7, 3) := by decide +kernel
theorem dX11_comesTold_162 : decode cX11_comesTold 162 = .ok (.aload_n 0, 1) := by decide +kernel
theorem dX11_comesTold_163 : decode cX11_comesTold 163 = .ok (.getfield 72, 3) := by decide +kernel
theorem dX11_comesTold_166 : decode cX11_comesTold 166 = .ok (.putfield 72, 3) := by decide +kernel
theorem dX11_comesTold_169 : decode cX11_comesTold 169 = .ok (.aload_n 0, 1) := by decide +kernel
theorem dX11_comesTold_170 : decode cX11_comesTold 170 = .ok (.iload 4, 2) := by decide +kernel
theorem dX11_comesTold_172 : decode cX11_comesTold 172 = .ok (.ifCond .eq 7, 3) := by decide +kernel
theorem dX11_comesTold_175 : decode cX11_comesTold 175 = .ok (.iload_n 3, 1) := by decide +kernel
theorem dX11_comesTold_176 : decode cX11_comesTold 176 = .ok (.goto 7, 3) := by decide +kernel
theorem dX11_comesTold_179 : decode cX11_comesTold 179 = .ok (.aload_n 0, 1) := by decide +kernel
theorem dX11_comesTold_180 : decode cX11_comesTold 180 = .ok (.getfield 75, 3) := by decide +kernel
theorem dX11_comesTold_183 : decode cX11_comesTold 183 = .ok (.putfield 75, 3) := by decide +kernel
theorem dX11_comesTold_186 : decode cX11_comesTold 186 = .ok (.iload 4, 2) := by decide +kernel
theorem dX11_comesTold_188 : decode cX11_comesTold 188 = .ok (.ireturn, 1) := by decide +kernel
theorem dX11_comesTold_189 : decode cX11_comesTold 189 = .ok (.aload_n 0, 1) := by decide +kernel
theorem dX11_comesTold_190 : decode cX11_comesTold 190 = .ok (.iload_n 2, 1) := by decide +kernel
theorem dX11_comesTold_191 : decode cX11_comesTold 191 = .ok (.invokevirtual 174, 3) := by decide +kernel
theorem dX11_comesTold_194 : decode cX11_comesTold 194 = .ok (.istore 4, 2) := by decide +kernel
theorem dX11_comesTold_196 : decode cX11_comesTold 196 = .ok (.iload 4, 2) := by decide +kernel
theorem dX11_comesTold_198 : decode cX11_comesTold 198 = .ok (.ifCond .eq 10, 3) := by decide +kernel
theorem dX11_comesTold_201 : decode cX11_comesTold 201 = .ok (.aload_n 0, 1) := by decide +kernel
theorem dX11_comesTold_202 : decode cX11_comesTold 202 = .ok (.getfield 22, 3) := by decide +kernel
theorem dX11_comesTold_205 : decode cX11_comesTold 205 = .ok (.iload_n 2, 1) := by decide +kernel
theorem dX11_comesTold_206 : decode cX11_comesTold 206 = .ok (.iload_n 3, 1) := by decide +kernel
theorem dX11_comesTold_207 : decode cX11_comesTold 207 = .ok (.iastore, 1) := by decide +kernel
theorem dX11_comesTold_208 : decode cX11_comesTold 208 = .ok (.iload 4, 2) := by decide +kernel
theorem dX11_comesTold_210 : decode cX11_comesTold 210 = .ok (.ireturn, 1) := by decide +kernel
theorem dX11_comesTold_211 : decode cX11_comesTold 211 = .ok (.aload_n 0, 1) := by decide +kernel
theorem dX11_comesTold_212 : decode cX11_comesTold 212 = .ok (.iload_n 2, 1) := by decide +kernel
theorem dX11_comesTold_213 : decode cX11_comesTold 213 = .ok (.invokevirtual 174, 3) := by decide +kernel
theorem dX11_comesTold_216 : decode cX11_comesTold 216 = .ok (.ifCond .eq 13, 3) := by decide +kernel
theorem dX11_comesTold_219 : decode cX11_comesTold 219 = .ok (.iload_n 3, 1) := by decide +kernel
theorem dX11_comesTold_220 : decode cX11_comesTold 220 = .ok (.bipush 7, 2) := by decide +kernel
theorem dX11_comesTold_222 : decode cX11_comesTold 222 = .ok (.if_icmp .ge 7, 3) := by decide +kernel
theorem dX11_comesTold_225 : decode cX11_comesTold 225 = .ok (.iconst 1, 1) := by decide +kernel
theorem dX11_comesTold_226 : decode cX11_comesTold 226 = .ok (.goto 4, 3) := by decide +kernel
theorem dX11_comesTold_229 : decode cX11_comesTold 229 = .ok (.iconst 0, 1) := by decide +kernel
theorem dX11_comesTold_230 : decode cX11_comesTold 230 = .ok (.istore 4, 2) := by decide +kernel
theorem dX11_comesTold_232 : decode cX11_comesTold 232 = .ok (.iload 4, 2) := by decide +kernel
theorem dX11_comesTold_234 : decode cX11_comesTold 234 = .ok (.ifCond .eq 10, 3) := by decide +kernel
theorem dX11_comesTold_237 : decode cX11_comesTold 237 = .ok (.aload_n 0, 1) := by decide +kernel
theorem dX11_comesTold_238 : decode cX11_comesTold 238 = .ok (.getfield 19, 3) := by decide +kernel
theorem dX11_comesTold_241 : decode cX11_comesTold 241 = .ok (.iload_n 2, 1) := by decide +kernel
theorem dX11_comesTold_242 : decode cX11_comesTold 242 = .ok (.iload_n 3, 1) := by decide +kernel
theorem dX11_comesTold_243 : decode cX11_comesTold 243 = .ok (.iastore, 1) := by decide +kernel
theorem dX11_comesTold_244 : decode cX11_comesTold 244 = .ok (.iload 4, 2) := by decide +kernel
theorem dX11_comesTold_246 : decode cX11_comesTold 246 = .ok (.ireturn, 1) := by decide +kernel
theorem dX11_comesTold_247 : decode cX11_comesTold 247 = .ok (.aload_n 0, 1) := by decide +kernel
theorem dX11_comesTold_248 : decode cX11_comesTold 248 = .ok (.iload_n 2, 1) := by decide +kernel
theorem dX11_comesTold_249 : decode cX11_comesTold 249 = .ok (.invokevirtual 177, 3) := by decide +kernel
theorem dX11_comesTold_252 : decode cX11_comesTold 252 = .ok (.ireturn, 1) := by decide +kernel
abbrev cX11_wrongRow : ByteArray := prog_13_method_83_code
def yX11_wrongRow : MethodName := ⟨RX11, "wrongRow", "(I)I"⟩
theorem dX11_wrongRow_0 : decode cX11_wrongRow 0 = .ok (.iload_n 1, 1) := by decide +kernel
theorem dX11_wrongRow_1 : decode cX11_wrongRow 1 = .ok (.i2l, 1) := by decide +kernel
theorem dX11_wrongRow_2 : decode cX11_wrongRow 2 = .ok (.lconst 0, 1) := by decide +kernel
theorem dX11_wrongRow_3 : decode cX11_wrongRow 3 = .ok (.ldc2_w 214, 3) := by decide +kernel
theorem dX11_wrongRow_6 : decode cX11_wrongRow 6 = .ok (.invokestatic 80, 3) := by decide +kernel
theorem dX11_wrongRow_9 : decode cX11_wrongRow 9 = .ok (.ifCond .ne 7, 3) := by decide +kernel
theorem dX11_wrongRow_12 : decode cX11_wrongRow 12 = .ok (.iconst (-1), 1) := by decide +kernel
theorem dX11_wrongRow_13 : decode cX11_wrongRow 13 = .ok (.goto 33, 3) := by decide +kernel
theorem dX11_wrongRow_16 : decode cX11_wrongRow 16 = .ok (.aload_n 0, 1) := by decide +kernel
theorem dX11_wrongRow_17 : decode cX11_wrongRow 17 = .ok (.getfield 25, 3) := by decide +kernel
theorem dX11_wrongRow_20 : decode cX11_wrongRow 20 = .ok (.iload_n 1, 1) := by decide +kernel
theorem dX11_wrongRow_21 : decode cX11_wrongRow 21 = .ok (.iaload, 1) := by decide +kernel
theorem dX11_wrongRow_22 : decode cX11_wrongRow 22 = .ok (.ifCond .ne 8, 3) := by decide +kernel
theorem dX11_wrongRow_25 : decode cX11_wrongRow 25 = .ok (.bipush (-11), 2) := by decide +kernel
theorem dX11_wrongRow_27 : decode cX11_wrongRow 27 = .ok (.goto 19, 3) := by decide +kernel
theorem dX11_wrongRow_30 : decode cX11_wrongRow 30 = .ok (.aload_n 0, 1) := by decide +kernel
theorem dX11_wrongRow_31 : decode cX11_wrongRow 31 = .ok (.getfield 25, 3) := by decide +kernel
theorem dX11_wrongRow_34 : decode cX11_wrongRow 34 = .ok (.iload_n 1, 1) := by decide +kernel
theorem dX11_wrongRow_35 : decode cX11_wrongRow 35 = .ok (.iaload, 1) := by decide +kernel
theorem dX11_wrongRow_36 : decode cX11_wrongRow 36 = .ok (.iconst 2, 1) := by decide +kernel
theorem dX11_wrongRow_37 : decode cX11_wrongRow 37 = .ok (.if_icmp .eq 8, 3) := by decide +kernel
theorem dX11_wrongRow_40 : decode cX11_wrongRow 40 = .ok (.bipush (-12), 2) := by decide +kernel
theorem dX11_wrongRow_42 : decode cX11_wrongRow 42 = .ok (.goto 4, 3) := by decide +kernel
theorem dX11_wrongRow_45 : decode cX11_wrongRow 45 = .ok (.iconst 0, 1) := by decide +kernel
theorem dX11_wrongRow_46 : decode cX11_wrongRow 46 = .ok (.ireturn, 1) := by decide +kernel
abbrev cX11_carry : ByteArray := prog_13_method_29_code
def yX11_carry : MethodName := ⟨RX11, "carry", "(I)I"⟩
theorem dX11_carry_0 : decode cX11_carry 0 = .ok (.aload_n 0, 1) := by decide +kernel
theorem dX11_carry_1 : decode cX11_carry 1 = .ok (.getfield 195, 3) := by decide +kernel
theorem dX11_carry_4 : decode cX11_carry 4 = .ok (.ifCond .eq 13, 3) := by decide +kernel
theorem dX11_carry_7 : decode cX11_carry 7 = .ok (.aload_n 0, 1) := by decide +kernel
theorem dX11_carry_8 : decode cX11_carry 8 = .ok (.getfield 198, 3) := by decide +kernel
theorem dX11_carry_11 : decode cX11_carry 11 = .ok (.aload_n 0, 1) := by decide +kernel
theorem dX11_carry_12 : decode cX11_carry 12 = .ok (.getfield 201, 3) := by decide +kernel
theorem dX11_carry_15 : decode cX11_carry 15 = .ok (.iload_n 1, 1) := by decide +kernel
theorem dX11_carry_16 : decode cX11_carry 16 = .ok (.iastore, 1) := by decide +kernel
theorem dX11_carry_17 : decode cX11_carry 17 = .ok (.aload_n 0, 1) := by decide +kernel
theorem dX11_carry_18 : decode cX11_carry 18 = .ok (.dup, 1) := by decide +kernel
theorem dX11_carry_19 : decode cX11_carry 19 = .ok (.getfield 201, 3) := by decide +kernel
theorem dX11_carry_22 : decode cX11_carry 22 = .ok (.iconst 1, 1) := by decide +kernel
theorem dX11_carry_23 : decode cX11_carry 23 = .ok (.iadd, 1) := by decide +kernel
theorem dX11_carry_24 : decode cX11_carry 24 = .ok (.putfield 201, 3) := by decide +kernel
theorem dX11_carry_27 : decode cX11_carry 27 = .ok (.aload_n 0, 1) := by decide +kernel
theorem dX11_carry_28 : decode cX11_carry 28 = .ok (.getfield 198, 3) := by decide +kernel
theorem dX11_carry_31 : decode cX11_carry 31 = .ok (.aload_n 0, 1) := by decide +kernel
theorem dX11_carry_32 : decode cX11_carry 32 = .ok (.getfield 201, 3) := by decide +kernel
theorem dX11_carry_35 : decode cX11_carry 35 = .ok (.iconst 1, 1) := by decide +kernel
theorem dX11_carry_36 : decode cX11_carry 36 = .ok (.isub, 1) := by decide +kernel
theorem dX11_carry_37 : decode cX11_carry 37 = .ok (.iaload, 1) := by decide +kernel
theorem dX11_carry_38 : decode cX11_carry 38 = .ok (.ireturn, 1) := by decide +kernel
abbrev cX11_carryAll : ByteArray := prog_13_method_30_code
def yX11_carryAll : MethodName := ⟨RX11, "carryAll", "([IZ)V"⟩
theorem dX11_carryAll_0 : decode cX11_carryAll 0 = .ok (.aload_n 0, 1) := by decide +kernel
theorem dX11_carryAll_1 : decode cX11_carryAll 1 = .ok (.aload_n 1, 1) := by decide +kernel
theorem dX11_carryAll_2 : decode cX11_carryAll 2 = .ok (.putfield 198, 3) := by decide +kernel
theorem dX11_carryAll_5 : decode cX11_carryAll 5 = .ok (.aload_n 0, 1) := by decide +kernel
theorem dX11_carryAll_6 : decode cX11_carryAll 6 = .ok (.iload_n 2, 1) := by decide +kernel
theorem dX11_carryAll_7 : decode cX11_carryAll 7 = .ok (.putfield 195, 3) := by decide +kernel
theorem dX11_carryAll_10 : decode cX11_carryAll 10 = .ok (.aload_n 0, 1) := by decide +kernel
theorem dX11_carryAll_11 : decode cX11_carryAll 11 = .ok (.iconst 0, 1) := by decide +kernel
theorem dX11_carryAll_12 : decode cX11_carryAll 12 = .ok (.putfield 201, 3) := by decide +kernel
theorem dX11_carryAll_15 : decode cX11_carryAll 15 = .ok (.aload_n 0, 1) := by decide +kernel
theorem dX11_carryAll_16 : decode cX11_carryAll 16 = .ok (.aload_n 0, 1) := by decide +kernel
theorem dX11_carryAll_17 : decode cX11_carryAll 17 = .ok (.aload_n 0, 1) := by decide +kernel
theorem dX11_carryAll_18 : decode cX11_carryAll 18 = .ok (.getfield 84, 3) := by decide +kernel
theorem dX11_carryAll_21 : decode cX11_carryAll 21 = .ok (.invokevirtual 204, 3) := by decide +kernel
theorem dX11_carryAll_24 : decode cX11_carryAll 24 = .ok (.putfield 84, 3) := by decide +kernel
theorem dX11_carryAll_27 : decode cX11_carryAll 27 = .ok (.aload_n 0, 1) := by decide +kernel
theorem dX11_carryAll_28 : decode cX11_carryAll 28 = .ok (.aload_n 0, 1) := by decide +kernel
theorem dX11_carryAll_29 : decode cX11_carryAll 29 = .ok (.aload_n 0, 1) := by decide +kernel
theorem dX11_carryAll_30 : decode cX11_carryAll 30 = .ok (.getfield 91, 3) := by decide +kernel
theorem dX11_carryAll_33 : decode cX11_carryAll 33 = .ok (.invokevirtual 204, 3) := by decide +kernel
theorem dX11_carryAll_36 : decode cX11_carryAll 36 = .ok (.putfield 91, 3) := by decide +kernel
theorem dX11_carryAll_39 : decode cX11_carryAll 39 = .ok (.aload_n 0, 1) := by decide +kernel
theorem dX11_carryAll_40 : decode cX11_carryAll 40 = .ok (.aload_n 0, 1) := by decide +kernel
theorem dX11_carryAll_41 : decode cX11_carryAll 41 = .ok (.aload_n 0, 1) := by decide +kernel
theorem dX11_carryAll_42 : decode cX11_carryAll 42 = .ok (.getfield 72, 3) := by decide +kernel
theorem dX11_carryAll_45 : decode cX11_carryAll 45 = .ok (.invokevirtual 204, 3) := by decide +kernel
theorem dX11_carryAll_48 : decode cX11_carryAll 48 = .ok (.putfield 72, 3) := by decide +kernel
theorem dX11_carryAll_51 : decode cX11_carryAll 51 = .ok (.aload_n 0, 1) := by decide +kernel
theorem dX11_carryAll_52 : decode cX11_carryAll 52 = .ok (.aload_n 0, 1) := by decide +kernel
theorem dX11_carryAll_53 : decode cX11_carryAll 53 = .ok (.aload_n 0, 1) := by decide +kernel
theorem dX11_carryAll_54 : decode cX11_carryAll 54 = .ok (.getfield 75, 3) := by decide +kernel
theorem dX11_carryAll_57 : decode cX11_carryAll 57 = .ok (.invokevirtual 204, 3) := by decide +kernel
theorem dX11_carryAll_60 : decode cX11_carryAll 60 = .ok (.putfield 75, 3) := by decide +kernel
theorem dX11_carryAll_63 : decode cX11_carryAll 63 = .ok (.aload_n 0, 1) := by decide +kernel
theorem dX11_carryAll_64 : decode cX11_carryAll 64 = .ok (.aload_n 0, 1) := by decide +kernel
theorem dX11_carryAll_65 : decode cX11_carryAll 65 = .ok (.aload_n 0, 1) := by decide +kernel
theorem dX11_carryAll_66 : decode cX11_carryAll 66 = .ok (.getfield 117, 3) := by decide +kernel
theorem dX11_carryAll_69 : decode cX11_carryAll 69 = .ok (.invokevirtual 204, 3) := by decide +kernel
theorem dX11_carryAll_72 : decode cX11_carryAll 72 = .ok (.putfield 117, 3) := by decide +kernel
theorem dX11_carryAll_75 : decode cX11_carryAll 75 = .ok (.aload_n 0, 1) := by decide +kernel
theorem dX11_carryAll_76 : decode cX11_carryAll 76 = .ok (.aload_n 0, 1) := by decide +kernel
theorem dX11_carryAll_77 : decode cX11_carryAll 77 = .ok (.aload_n 0, 1) := by decide +kernel
theorem dX11_carryAll_78 : decode cX11_carryAll 78 = .ok (.getfield 97, 3) := by decide +kernel
theorem dX11_carryAll_81 : decode cX11_carryAll 81 = .ok (.invokevirtual 204, 3) := by decide +kernel
theorem dX11_carryAll_84 : decode cX11_carryAll 84 = .ok (.putfield 97, 3) := by decide +kernel
theorem dX11_carryAll_87 : decode cX11_carryAll 87 = .ok (.iconst 0, 1) := by decide +kernel
theorem dX11_carryAll_88 : decode cX11_carryAll 88 = .ok (.istore_n 3, 1) := by decide +kernel
theorem dX11_carryAll_89 : decode cX11_carryAll 89 = .ok (.iload_n 3, 1) := by decide +kernel
theorem dX11_carryAll_90 : decode cX11_carryAll 90 = .ok (.bipush 7, 2) := by decide +kernel
theorem dX11_carryAll_92 : decode cX11_carryAll 92 = .ok (.if_icmp .ge 89, 3) := by decide +kernel
theorem dX11_carryAll_95 : decode cX11_carryAll 95 = .ok (.aload_n 0, 1) := by decide +kernel
theorem dX11_carryAll_96 : decode cX11_carryAll 96 = .ok (.getfield 7, 3) := by decide +kernel
theorem dX11_carryAll_99 : decode cX11_carryAll 99 = .ok (.iload_n 3, 1) := by decide +kernel
theorem dX11_carryAll_100 : decode cX11_carryAll 100 = .ok (.aload_n 0, 1) := by decide +kernel
theorem dX11_carryAll_101 : decode cX11_carryAll 101 = .ok (.aload_n 0, 1) := by decide +kernel
theorem dX11_carryAll_102 : decode cX11_carryAll 102 = .ok (.getfield 7, 3) := by decide +kernel
theorem dX11_carryAll_105 : decode cX11_carryAll 105 = .ok (.iload_n 3, 1) := by decide +kernel
theorem dX11_carryAll_106 : decode cX11_carryAll 106 = .ok (.iaload, 1) := by decide +kernel
theorem dX11_carryAll_107 : decode cX11_carryAll 107 = .ok (.invokevirtual 204, 3) := by decide +kernel
theorem dX11_carryAll_110 : decode cX11_carryAll 110 = .ok (.iastore, 1) := by decide +kernel
theorem dX11_carryAll_111 : decode cX11_carryAll 111 = .ok (.aload_n 0, 1) := by decide +kernel
theorem dX11_carryAll_112 : decode cX11_carryAll 112 = .ok (.getfield 13, 3) := by decide +kernel
theorem dX11_carryAll_115 : decode cX11_carryAll 115 = .ok (.iload_n 3, 1) := by decide +kernel
theorem dX11_carryAll_116 : decode cX11_carryAll 116 = .ok (.aload_n 0, 1) := by decide +kernel
theorem dX11_carryAll_117 : decode cX11_carryAll 117 = .ok (.aload_n 0, 1) := by decide +kernel
theorem dX11_carryAll_118 : decode cX11_carryAll 118 = .ok (.getfield 13, 3) := by decide +kernel
theorem dX11_carryAll_121 : decode cX11_carryAll 121 = .ok (.iload_n 3, 1) := by decide +kernel
theorem dX11_carryAll_122 : decode cX11_carryAll 122 = .ok (.iaload, 1) := by decide +kernel
theorem dX11_carryAll_123 : decode cX11_carryAll 123 = .ok (.invokevirtual 204, 3) := by decide +kernel
theorem dX11_carryAll_126 : decode cX11_carryAll 126 = .ok (.iastore, 1) := by decide +kernel
theorem dX11_carryAll_127 : decode cX11_carryAll 127 = .ok (.aload_n 0, 1) := by decide +kernel
theorem dX11_carryAll_128 : decode cX11_carryAll 128 = .ok (.getfield 16, 3) := by decide +kernel
theorem dX11_carryAll_131 : decode cX11_carryAll 131 = .ok (.iload_n 3, 1) := by decide +kernel
theorem dX11_carryAll_132 : decode cX11_carryAll 132 = .ok (.aload_n 0, 1) := by decide +kernel
theorem dX11_carryAll_133 : decode cX11_carryAll 133 = .ok (.aload_n 0, 1) := by decide +kernel
theorem dX11_carryAll_134 : decode cX11_carryAll 134 = .ok (.getfield 16, 3) := by decide +kernel
theorem dX11_carryAll_137 : decode cX11_carryAll 137 = .ok (.iload_n 3, 1) := by decide +kernel
theorem dX11_carryAll_138 : decode cX11_carryAll 138 = .ok (.iaload, 1) := by decide +kernel
theorem dX11_carryAll_139 : decode cX11_carryAll 139 = .ok (.invokevirtual 204, 3) := by decide +kernel
theorem dX11_carryAll_142 : decode cX11_carryAll 142 = .ok (.iastore, 1) := by decide +kernel
theorem dX11_carryAll_143 : decode cX11_carryAll 143 = .ok (.aload_n 0, 1) := by decide +kernel
theorem dX11_carryAll_144 : decode cX11_carryAll 144 = .ok (.getfield 19, 3) := by decide +kernel
theorem dX11_carryAll_147 : decode cX11_carryAll 147 = .ok (.iload_n 3, 1) := by decide +kernel
theorem dX11_carryAll_148 : decode cX11_carryAll 148 = .ok (.aload_n 0, 1) := by decide +kernel
theorem dX11_carryAll_149 : decode cX11_carryAll 149 = .ok (.aload_n 0, 1) := by decide +kernel
theorem dX11_carryAll_150 : decode cX11_carryAll 150 = .ok (.getfield 19, 3) := by decide +kernel
theorem dX11_carryAll_153 : decode cX11_carryAll 153 = .ok (.iload_n 3, 1) := by decide +kernel
theorem dX11_carryAll_154 : decode cX11_carryAll 154 = .ok (.iaload, 1) := by decide +kernel
theorem dX11_carryAll_155 : decode cX11_carryAll 155 = .ok (.invokevirtual 204, 3) := by decide +kernel
theorem dX11_carryAll_158 : decode cX11_carryAll 158 = .ok (.iastore, 1) := by decide +kernel
theorem dX11_carryAll_159 : decode cX11_carryAll 159 = .ok (.aload_n 0, 1) := by decide +kernel
theorem dX11_carryAll_160 : decode cX11_carryAll 160 = .ok (.getfield 22, 3) := by decide +kernel
theorem dX11_carryAll_163 : decode cX11_carryAll 163 = .ok (.iload_n 3, 1) := by decide +kernel
theorem dX11_carryAll_164 : decode cX11_carryAll 164 = .ok (.aload_n 0, 1) := by decide +kernel
theorem dX11_carryAll_165 : decode cX11_carryAll 165 = .ok (.aload_n 0, 1) := by decide +kernel
theorem dX11_carryAll_166 : decode cX11_carryAll 166 = .ok (.getfield 22, 3) := by decide +kernel
theorem dX11_carryAll_169 : decode cX11_carryAll 169 = .ok (.iload_n 3, 1) := by decide +kernel
theorem dX11_carryAll_170 : decode cX11_carryAll 170 = .ok (.iaload, 1) := by decide +kernel
theorem dX11_carryAll_171 : decode cX11_carryAll 171 = .ok (.invokevirtual 204, 3) := by decide +kernel
theorem dX11_carryAll_174 : decode cX11_carryAll 174 = .ok (.iastore, 1) := by decide +kernel
theorem dX11_carryAll_175 : decode cX11_carryAll 175 = .ok (.iinc 3 1, 3) := by decide +kernel
theorem dX11_carryAll_178 : decode cX11_carryAll 178 = .ok (.goto (-89), 3) := by decide +kernel
theorem dX11_carryAll_181 : decode cX11_carryAll 181 = .ok (.return_, 1) := by decide +kernel
abbrev cX11_think : ByteArray := prog_13_method_31_code
def yX11_think : MethodName := ⟨RX11, "think", "()V"⟩
theorem dX11_think_0 : decode cX11_think 0 = .ok (.aload_n 0, 1) := by decide +kernel
theorem dX11_think_1 : decode cX11_think 1 = .ok (.aload_n 0, 1) := by decide +kernel
theorem dX11_think_2 : decode cX11_think 2 = .ok (.getfield 53, 3) := by decide +kernel
theorem dX11_think_5 : decode cX11_think 5 = .ok (.iconst 1, 1) := by decide +kernel
theorem dX11_think_6 : decode cX11_think 6 = .ok (.invokevirtual 207, 3) := by decide +kernel
theorem dX11_think_9 : decode cX11_think 9 = .ok (.return_, 1) := by decide +kernel
abbrev cX11_again : ByteArray := prog_13_method_32_code
def yX11_again : MethodName := ⟨RX11, "again", "()V"⟩
theorem dX11_again_0 : decode cX11_again 0 = .ok (.aload_n 0, 1) := by decide +kernel
theorem dX11_again_1 : decode cX11_again 1 = .ok (.aload_n 0, 1) := by decide +kernel
theorem dX11_again_2 : decode cX11_again 2 = .ok (.getfield 53, 3) := by decide +kernel
theorem dX11_again_5 : decode cX11_again 5 = .ok (.iconst 0, 1) := by decide +kernel
theorem dX11_again_6 : decode cX11_again 6 = .ok (.invokevirtual 207, 3) := by decide +kernel
theorem dX11_again_9 : decode cX11_again 9 = .ok (.return_, 1) := by decide +kernel
abbrev cX11_province : ByteArray := prog_13_method_28_code
def yX11_province : MethodName := ⟨RX11, "province", "(I)I"⟩
theorem dX11_province_0 : decode cX11_province 0 = .ok (.aload_n 0, 1) := by decide +kernel
theorem dX11_province_1 : decode cX11_province 1 = .ok (.iconst 0, 1) := by decide +kernel
theorem dX11_province_2 : decode cX11_province 2 = .ok (.putfield 68, 3) := by decide +kernel
theorem dX11_province_5 : decode cX11_province 5 = .ok (.aload_n 0, 1) := by decide +kernel
theorem dX11_province_6 : decode cX11_province 6 = .ok (.iload_n 1, 1) := by decide +kernel
theorem dX11_province_7 : decode cX11_province 7 = .ok (.invokevirtual 180, 3) := by decide +kernel
theorem dX11_province_10 : decode cX11_province 10 = .ok (.istore_n 2, 1) := by decide +kernel
theorem dX11_province_11 : decode cX11_province 11 = .ok (.iload_n 2, 1) := by decide +kernel
theorem dX11_province_12 : decode cX11_province 12 = .ok (.ifCond .ne 17, 3) := by decide +kernel
theorem dX11_province_15 : decode cX11_province 15 = .ok (.aload_n 0, 1) := by decide +kernel
theorem dX11_province_16 : decode cX11_province 16 = .ok (.getfield 34, 3) := by decide +kernel
theorem dX11_province_19 : decode cX11_province 19 = .ok (.iload_n 1, 1) := by decide +kernel
theorem dX11_province_20 : decode cX11_province 20 = .ok (.iaload, 1) := by decide +kernel
theorem dX11_province_21 : decode cX11_province 21 = .ok (.ifCond .eq 8, 3) := by decide +kernel
theorem dX11_province_24 : decode cX11_province 24 = .ok (.bipush (-12), 2) := by decide +kernel
theorem dX11_province_26 : decode cX11_province 26 = .ok (.goto 4, 3) := by decide +kernel
theorem dX11_province_29 : decode cX11_province 29 = .ok (.iload_n 2, 1) := by decide +kernel
theorem dX11_province_30 : decode cX11_province 30 = .ok (.istore_n 2, 1) := by decide +kernel
theorem dX11_province_31 : decode cX11_province 31 = .ok (.iload_n 2, 1) := by decide +kernel
theorem dX11_province_32 : decode cX11_province 32 = .ok (.ifCond .ge 5, 3) := by decide +kernel
theorem dX11_province_35 : decode cX11_province 35 = .ok (.iload_n 2, 1) := by decide +kernel
theorem dX11_province_36 : decode cX11_province 36 = .ok (.ireturn, 1) := by decide +kernel
theorem dX11_province_37 : decode cX11_province 37 = .ok (.aload_n 0, 1) := by decide +kernel
theorem dX11_province_38 : decode cX11_province 38 = .ok (.iload_n 1, 1) := by decide +kernel
theorem dX11_province_39 : decode cX11_province 39 = .ok (.putfield 133, 3) := by decide +kernel
theorem dX11_province_42 : decode cX11_province 42 = .ok (.aload_n 0, 1) := by decide +kernel
theorem dX11_province_43 : decode cX11_province 43 = .ok (.iconst 0, 1) := by decide +kernel
theorem dX11_province_44 : decode cX11_province 44 = .ok (.putfield 130, 3) := by decide +kernel
theorem dX11_province_47 : decode cX11_province 47 = .ok (.aload_n 0, 1) := by decide +kernel
theorem dX11_province_48 : decode cX11_province 48 = .ok (.iconst 0, 1) := by decide +kernel
theorem dX11_province_49 : decode cX11_province 49 = .ok (.putfield 136, 3) := by decide +kernel
theorem dX11_province_52 : decode cX11_province 52 = .ok (.aload_n 0, 1) := by decide +kernel
theorem dX11_province_53 : decode cX11_province 53 = .ok (.iconst 0, 1) := by decide +kernel
theorem dX11_province_54 : decode cX11_province 54 = .ok (.putfield 151, 3) := by decide +kernel
theorem dX11_province_57 : decode cX11_province 57 = .ok (.aload_n 0, 1) := by decide +kernel
theorem dX11_province_58 : decode cX11_province 58 = .ok (.getfield 136, 3) := by decide +kernel
theorem dX11_province_61 : decode cX11_province 61 = .ok (.ifCond .ne 30, 3) := by decide +kernel
theorem dX11_province_64 : decode cX11_province 64 = .ok (.aload_n 0, 1) := by decide +kernel
theorem dX11_province_65 : decode cX11_province 65 = .ok (.getfield 151, 3) := by decide +kernel
theorem dX11_province_68 : decode cX11_province 68 = .ok (.ifCond .eq 16, 3) := by decide +kernel
theorem dX11_province_71 : decode cX11_province 71 = .ok (.aload_n 0, 1) := by decide +kernel
theorem dX11_province_72 : decode cX11_province 72 = .ok (.getfield 130, 3) := by decide +kernel
theorem dX11_province_75 : decode cX11_province 75 = .ok (.aload_n 0, 1) := by decide +kernel
theorem dX11_province_76 : decode cX11_province 76 = .ok (.getfield 37, 3) := by decide +kernel
theorem dX11_province_79 : decode cX11_province 79 = .ok (.iload_n 1, 1) := by decide +kernel
theorem dX11_province_80 : decode cX11_province 80 = .ok (.iaload, 1) := by decide +kernel
theorem dX11_province_81 : decode cX11_province 81 = .ok (.if_icmp .ge 10, 3) := by decide +kernel
theorem dX11_province_84 : decode cX11_province 84 = .ok (.aload_n 0, 1) := by decide +kernel
theorem dX11_province_85 : decode cX11_province 85 = .ok (.invokevirtual 183, 3) := by decide +kernel
theorem dX11_province_88 : decode cX11_province 88 = .ok (.goto (-31), 3) := by decide +kernel
theorem dX11_province_91 : decode cX11_province 91 = .ok (.aload_n 0, 1) := by decide +kernel
theorem dX11_province_92 : decode cX11_province 92 = .ok (.getfield 136, 3) := by decide +kernel
theorem dX11_province_95 : decode cX11_province 95 = .ok (.ifCond .eq 12, 3) := by decide +kernel
theorem dX11_province_98 : decode cX11_province 98 = .ok (.sipush (-1000), 3) := by decide +kernel
theorem dX11_province_101 : decode cX11_province 101 = .ok (.aload_n 0, 1) := by decide +kernel
theorem dX11_province_102 : decode cX11_province 102 = .ok (.getfield 130, 3) := by decide +kernel
theorem dX11_province_105 : decode cX11_province 105 = .ok (.isub, 1) := by decide +kernel
theorem dX11_province_106 : decode cX11_province 106 = .ok (.ireturn, 1) := by decide +kernel
theorem dX11_province_107 : decode cX11_province 107 = .ok (.aload_n 0, 1) := by decide +kernel
theorem dX11_province_108 : decode cX11_province 108 = .ok (.invokevirtual 186, 3) := by decide +kernel
theorem dX11_province_111 : decode cX11_province 111 = .ok (.iconst 0, 1) := by decide +kernel
theorem dX11_province_112 : decode cX11_province 112 = .ok (.istore_n 3, 1) := by decide +kernel
theorem dX11_province_113 : decode cX11_province 113 = .ok (.iload_n 3, 1) := by decide +kernel
theorem dX11_province_114 : decode cX11_province 114 = .ok (.aload_n 0, 1) := by decide +kernel
theorem dX11_province_115 : decode cX11_province 115 = .ok (.getfield 151, 3) := by decide +kernel
theorem dX11_province_118 : decode cX11_province 118 = .ok (.if_icmp .ge 32, 3) := by decide +kernel
theorem dX11_province_121 : decode cX11_province 121 = .ok (.aload_n 0, 1) := by decide +kernel
theorem dX11_province_122 : decode cX11_province 122 = .ok (.iload_n 3, 1) := by decide +kernel
theorem dX11_province_123 : decode cX11_province 123 = .ok (.invokevirtual 189, 3) := by decide +kernel
theorem dX11_province_126 : decode cX11_province 126 = .ok (.ifCond .ne 18, 3) := by decide +kernel
theorem dX11_province_129 : decode cX11_province 129 = .ok (.aload_n 0, 1) := by decide +kernel
theorem dX11_province_130 : decode cX11_province 130 = .ok (.invokevirtual 192, 3) := by decide +kernel
theorem dX11_province_133 : decode cX11_province 133 = .ok (.sipush (-2000), 3) := by decide +kernel
theorem dX11_province_136 : decode cX11_province 136 = .ok (.aload_n 0, 1) := by decide +kernel
theorem dX11_province_137 : decode cX11_province 137 = .ok (.getfield 44, 3) := by decide +kernel
theorem dX11_province_140 : decode cX11_province 140 = .ok (.iload_n 3, 1) := by decide +kernel
theorem dX11_province_141 : decode cX11_province 141 = .ok (.iaload, 1) := by decide +kernel
theorem dX11_province_142 : decode cX11_province 142 = .ok (.isub, 1) := by decide +kernel
theorem dX11_province_143 : decode cX11_province 143 = .ok (.ireturn, 1) := by decide +kernel
theorem dX11_province_144 : decode cX11_province 144 = .ok (.iinc 3 1, 3) := by decide +kernel
theorem dX11_province_147 : decode cX11_province 147 = .ok (.goto (-34), 3) := by decide +kernel
theorem dX11_province_150 : decode cX11_province 150 = .ok (.aload_n 0, 1) := by decide +kernel
theorem dX11_province_151 : decode cX11_province 151 = .ok (.getfield 151, 3) := by decide +kernel
theorem dX11_province_154 : decode cX11_province 154 = .ok (.ireturn, 1) := by decide +kernel
abbrev cX11_image : ByteArray := prog_13_method_33_code
def yX11_image : MethodName := ⟨RX11, "image", "()I"⟩
theorem dX11_image_0 : decode cX11_image 0 = .ok (.aload_n 0, 1) := by decide +kernel
theorem dX11_image_1 : decode cX11_image 1 = .ok (.iconst 0, 1) := by decide +kernel
theorem dX11_image_2 : decode cX11_image 2 = .ok (.putfield 68, 3) := by decide +kernel
theorem dX11_image_5 : decode cX11_image 5 = .ok (.aload_n 0, 1) := by decide +kernel
theorem dX11_image_6 : decode cX11_image 6 = .ok (.iconst 1, 1) := by decide +kernel
theorem dX11_image_7 : decode cX11_image 7 = .ok (.putfield 211, 3) := by decide +kernel
theorem dX11_image_10 : decode cX11_image 10 = .ok (.aload_n 0, 1) := by decide +kernel
theorem dX11_image_11 : decode cX11_image 11 = .ok (.aload_n 0, 1) := by decide +kernel
theorem dX11_image_12 : decode cX11_image 12 = .ok (.getfield 56, 3) := by decide +kernel
theorem dX11_image_15 : decode cX11_image 15 = .ok (.iconst 1, 1) := by decide +kernel
theorem dX11_image_16 : decode cX11_image 16 = .ok (.invokevirtual 207, 3) := by decide +kernel
theorem dX11_image_19 : decode cX11_image 19 = .ok (.aload_n 0, 1) := by decide +kernel
theorem dX11_image_20 : decode cX11_image 20 = .ok (.getfield 97, 3) := by decide +kernel
theorem dX11_image_23 : decode cX11_image 23 = .ok (.ireturn, 1) := by decide +kernel
abbrev cX11_restore : ByteArray := prog_13_method_34_code
def yX11_restore : MethodName := ⟨RX11, "restore", "()I"⟩
theorem dX11_restore_0 : decode cX11_restore 0 = .ok (.aload_n 0, 1) := by decide +kernel
theorem dX11_restore_1 : decode cX11_restore 1 = .ok (.iconst 0, 1) := by decide +kernel
theorem dX11_restore_2 : decode cX11_restore 2 = .ok (.putfield 68, 3) := by decide +kernel
theorem dX11_restore_5 : decode cX11_restore 5 = .ok (.aload_n 0, 1) := by decide +kernel
theorem dX11_restore_6 : decode cX11_restore 6 = .ok (.getfield 211, 3) := by decide +kernel
theorem dX11_restore_9 : decode cX11_restore 9 = .ok (.ifCond .ne 6, 3) := by decide +kernel
theorem dX11_restore_12 : decode cX11_restore 12 = .ok (.bipush (-3), 2) := by decide +kernel
theorem dX11_restore_14 : decode cX11_restore 14 = .ok (.ireturn, 1) := by decide +kernel
theorem dX11_restore_15 : decode cX11_restore 15 = .ok (.aload_n 0, 1) := by decide +kernel
theorem dX11_restore_16 : decode cX11_restore 16 = .ok (.aload_n 0, 1) := by decide +kernel
theorem dX11_restore_17 : decode cX11_restore 17 = .ok (.getfield 56, 3) := by decide +kernel
theorem dX11_restore_20 : decode cX11_restore 20 = .ok (.iconst 0, 1) := by decide +kernel
theorem dX11_restore_21 : decode cX11_restore 21 = .ok (.invokevirtual 207, 3) := by decide +kernel
theorem dX11_restore_24 : decode cX11_restore 24 = .ok (.aload_n 0, 1) := by decide +kernel
theorem dX11_restore_25 : decode cX11_restore 25 = .ok (.getfield 97, 3) := by decide +kernel
theorem dX11_restore_28 : decode cX11_restore 28 = .ok (.ireturn, 1) := by decide +kernel
abbrev cX11_village : ByteArray := prog_13_method_35_code
def yX11_village : MethodName := ⟨RX11, "village", "(II)I"⟩
theorem dX11_village_0 : decode cX11_village 0 = .ok (.aload_n 0, 1) := by decide +kernel
theorem dX11_village_1 : decode cX11_village 1 = .ok (.iconst 0, 1) := by decide +kernel
theorem dX11_village_2 : decode cX11_village 2 = .ok (.putfield 68, 3) := by decide +kernel
theorem dX11_village_5 : decode cX11_village 5 = .ok (.aload_n 0, 1) := by decide +kernel
theorem dX11_village_6 : decode cX11_village 6 = .ok (.iload_n 1, 1) := by decide +kernel
theorem dX11_village_7 : decode cX11_village 7 = .ok (.invokevirtual 174, 3) := by decide +kernel
theorem dX11_village_10 : decode cX11_village 10 = .ok (.ifCond .eq 15, 3) := by decide +kernel
theorem dX11_village_13 : decode cX11_village 13 = .ok (.iload_n 2, 1) := by decide +kernel
theorem dX11_village_14 : decode cX11_village 14 = .ok (.i2l, 1) := by decide +kernel
theorem dX11_village_15 : decode cX11_village 15 = .ok (.lconst 0, 1) := by decide +kernel
theorem dX11_village_16 : decode cX11_village 16 = .ok (.ldc2_w 214, 3) := by decide +kernel
theorem dX11_village_19 : decode cX11_village 19 = .ok (.invokestatic 80, 3) := by decide +kernel
theorem dX11_village_22 : decode cX11_village 22 = .ok (.ifCond .ne 5, 3) := by decide +kernel
theorem dX11_village_25 : decode cX11_village 25 = .ok (.iconst (-1), 1) := by decide +kernel
theorem dX11_village_26 : decode cX11_village 26 = .ok (.ireturn, 1) := by decide +kernel
theorem dX11_village_27 : decode cX11_village 27 = .ok (.iload_n 2, 1) := by decide +kernel
theorem dX11_village_28 : decode cX11_village 28 = .ok (.tableswitch 123 0 6 #[44, 51, 58, 65, 72, 79, 109], 44) := by decide +kernel
theorem dX11_village_72 : decode cX11_village 72 = .ok (.aload_n 0, 1) := by decide +kernel
theorem dX11_village_73 : decode cX11_village 73 = .ok (.getfield 7, 3) := by decide +kernel
theorem dX11_village_76 : decode cX11_village 76 = .ok (.iload_n 1, 1) := by decide +kernel
theorem dX11_village_77 : decode cX11_village 77 = .ok (.iaload, 1) := by decide +kernel
theorem dX11_village_78 : decode cX11_village 78 = .ok (.ireturn, 1) := by decide +kernel
theorem dX11_village_79 : decode cX11_village 79 = .ok (.aload_n 0, 1) := by decide +kernel
theorem dX11_village_80 : decode cX11_village 80 = .ok (.getfield 13, 3) := by decide +kernel
theorem dX11_village_83 : decode cX11_village 83 = .ok (.iload_n 1, 1) := by decide +kernel
theorem dX11_village_84 : decode cX11_village 84 = .ok (.iaload, 1) := by decide +kernel
theorem dX11_village_85 : decode cX11_village 85 = .ok (.ireturn, 1) := by decide +kernel
theorem dX11_village_86 : decode cX11_village 86 = .ok (.aload_n 0, 1) := by decide +kernel
theorem dX11_village_87 : decode cX11_village 87 = .ok (.getfield 16, 3) := by decide +kernel
theorem dX11_village_90 : decode cX11_village 90 = .ok (.iload_n 1, 1) := by decide +kernel
theorem dX11_village_91 : decode cX11_village 91 = .ok (.iaload, 1) := by decide +kernel
theorem dX11_village_92 : decode cX11_village 92 = .ok (.ireturn, 1) := by decide +kernel
theorem dX11_village_93 : decode cX11_village 93 = .ok (.aload_n 0, 1) := by decide +kernel
theorem dX11_village_94 : decode cX11_village 94 = .ok (.getfield 19, 3) := by decide +kernel
theorem dX11_village_97 : decode cX11_village 97 = .ok (.iload_n 1, 1) := by decide +kernel
theorem dX11_village_98 : decode cX11_village 98 = .ok (.iaload, 1) := by decide +kernel
theorem dX11_village_99 : decode cX11_village 99 = .ok (.ireturn, 1) := by decide +kernel
theorem dX11_village_100 : decode cX11_village 100 = .ok (.aload_n 0, 1) := by decide +kernel
theorem dX11_village_101 : decode cX11_village 101 = .ok (.getfield 22, 3) := by decide +kernel
theorem dX11_village_104 : decode cX11_village 104 = .ok (.iload_n 1, 1) := by decide +kernel
theorem dX11_village_105 : decode cX11_village 105 = .ok (.iaload, 1) := by decide +kernel
theorem dX11_village_106 : decode cX11_village 106 = .ok (.ireturn, 1) := by decide +kernel
theorem dX11_village_107 : decode cX11_village 107 = .ok (.aload_n 0, 1) := by decide +kernel
theorem dX11_village_108 : decode cX11_village 108 = .ok (.iload_n 1, 1) := by decide +kernel
theorem dX11_village_109 : decode cX11_village 109 = .ok (.invokevirtual 100, 3) := by decide +kernel
theorem dX11_village_112 : decode cX11_village 112 = .ok (.ifCond .eq 22, 3) := by decide +kernel
theorem dX11_village_115 : decode cX11_village 115 = .ok (.aload_n 0, 1) := by decide +kernel
theorem dX11_village_116 : decode cX11_village 116 = .ok (.iload_n 1, 1) := by decide +kernel
theorem dX11_village_117 : decode cX11_village 117 = .ok (.aload_n 0, 1) := by decide +kernel
theorem dX11_village_118 : decode cX11_village 118 = .ok (.getfield 16, 3) := by decide +kernel
theorem dX11_village_121 : decode cX11_village 121 = .ok (.aload_n 0, 1) := by decide +kernel
theorem dX11_village_122 : decode cX11_village 122 = .ok (.getfield 19, 3) := by decide +kernel
theorem dX11_village_125 : decode cX11_village 125 = .ok (.iload_n 1, 1) := by decide +kernel
theorem dX11_village_126 : decode cX11_village 126 = .ok (.iaload, 1) := by decide +kernel
theorem dX11_village_127 : decode cX11_village 127 = .ok (.iaload, 1) := by decide +kernel
theorem dX11_village_128 : decode cX11_village 128 = .ok (.invokevirtual 104, 3) := by decide +kernel
theorem dX11_village_131 : decode cX11_village 131 = .ok (.goto 5, 3) := by decide +kernel
theorem dX11_village_134 : decode cX11_village 134 = .ok (.bipush (-4), 2) := by decide +kernel
theorem dX11_village_136 : decode cX11_village 136 = .ok (.ireturn, 1) := by decide +kernel
theorem dX11_village_137 : decode cX11_village 137 = .ok (.aload_n 0, 1) := by decide +kernel
theorem dX11_village_138 : decode cX11_village 138 = .ok (.iload_n 1, 1) := by decide +kernel
theorem dX11_village_139 : decode cX11_village 139 = .ok (.invokevirtual 111, 3) := by decide +kernel
theorem dX11_village_142 : decode cX11_village 142 = .ok (.ifCond .eq 7, 3) := by decide +kernel
theorem dX11_village_145 : decode cX11_village 145 = .ok (.iconst 1, 1) := by decide +kernel
theorem dX11_village_146 : decode cX11_village 146 = .ok (.goto 4, 3) := by decide +kernel
theorem dX11_village_149 : decode cX11_village 149 = .ok (.iconst 0, 1) := by decide +kernel
theorem dX11_village_150 : decode cX11_village 150 = .ok (.ireturn, 1) := by decide +kernel
theorem dX11_village_151 : decode cX11_village 151 = .ok (.aload_n 0, 1) := by decide +kernel
theorem dX11_village_152 : decode cX11_village 152 = .ok (.iload_n 1, 1) := by decide +kernel
theorem dX11_village_153 : decode cX11_village 153 = .ok (.invokevirtual 107, 3) := by decide +kernel
theorem dX11_village_156 : decode cX11_village 156 = .ok (.ireturn, 1) := by decide +kernel
abbrev cX11_wrongKept : ByteArray := prog_13_method_81_code
def yX11_wrongKept : MethodName := ⟨RX11, "wrongKept", "(I)I"⟩
theorem dX11_wrongKept_0 : decode cX11_wrongKept 0 = .ok (.iload_n 1, 1) := by decide +kernel
theorem dX11_wrongKept_1 : decode cX11_wrongKept 1 = .ok (.i2l, 1) := by decide +kernel
theorem dX11_wrongKept_2 : decode cX11_wrongKept 2 = .ok (.lconst 0, 1) := by decide +kernel
theorem dX11_wrongKept_3 : decode cX11_wrongKept 3 = .ok (.ldc2_w 214, 3) := by decide +kernel
theorem dX11_wrongKept_6 : decode cX11_wrongKept 6 = .ok (.invokestatic 80, 3) := by decide +kernel
theorem dX11_wrongKept_9 : decode cX11_wrongKept 9 = .ok (.ifCond .ne 7, 3) := by decide +kernel
theorem dX11_wrongKept_12 : decode cX11_wrongKept 12 = .ok (.iconst (-1), 1) := by decide +kernel
theorem dX11_wrongKept_13 : decode cX11_wrongKept 13 = .ok (.goto 33, 3) := by decide +kernel
theorem dX11_wrongKept_16 : decode cX11_wrongKept 16 = .ok (.aload_n 0, 1) := by decide +kernel
theorem dX11_wrongKept_17 : decode cX11_wrongKept 17 = .ok (.getfield 25, 3) := by decide +kernel
theorem dX11_wrongKept_20 : decode cX11_wrongKept 20 = .ok (.iload_n 1, 1) := by decide +kernel
theorem dX11_wrongKept_21 : decode cX11_wrongKept 21 = .ok (.iaload, 1) := by decide +kernel
theorem dX11_wrongKept_22 : decode cX11_wrongKept 22 = .ok (.ifCond .ne 8, 3) := by decide +kernel
theorem dX11_wrongKept_25 : decode cX11_wrongKept 25 = .ok (.bipush (-11), 2) := by decide +kernel
theorem dX11_wrongKept_27 : decode cX11_wrongKept 27 = .ok (.goto 19, 3) := by decide +kernel
theorem dX11_wrongKept_30 : decode cX11_wrongKept 30 = .ok (.aload_n 0, 1) := by decide +kernel
theorem dX11_wrongKept_31 : decode cX11_wrongKept 31 = .ok (.getfield 25, 3) := by decide +kernel
theorem dX11_wrongKept_34 : decode cX11_wrongKept 34 = .ok (.iload_n 1, 1) := by decide +kernel
theorem dX11_wrongKept_35 : decode cX11_wrongKept 35 = .ok (.iaload, 1) := by decide +kernel
theorem dX11_wrongKept_36 : decode cX11_wrongKept 36 = .ok (.iconst 2, 1) := by decide +kernel
theorem dX11_wrongKept_37 : decode cX11_wrongKept 37 = .ok (.if_icmp .ne 8, 3) := by decide +kernel
theorem dX11_wrongKept_40 : decode cX11_wrongKept 40 = .ok (.bipush (-12), 2) := by decide +kernel
theorem dX11_wrongKept_42 : decode cX11_wrongKept 42 = .ok (.goto 4, 3) := by decide +kernel
theorem dX11_wrongKept_45 : decode cX11_wrongKept 45 = .ok (.iconst 0, 1) := by decide +kernel
theorem dX11_wrongKept_46 : decode cX11_wrongKept 46 = .ok (.ireturn, 1) := by decide +kernel
abbrev cX11_comes : ByteArray := prog_13_method_36_code
def yX11_comes : MethodName := ⟨RX11, "comes", "(II)I"⟩
theorem dX11_comes_0 : decode cX11_comes 0 = .ok (.aload_n 0, 1) := by decide +kernel
theorem dX11_comes_1 : decode cX11_comes 1 = .ok (.iconst 0, 1) := by decide +kernel
theorem dX11_comes_2 : decode cX11_comes 2 = .ok (.putfield 68, 3) := by decide +kernel
theorem dX11_comes_5 : decode cX11_comes 5 = .ok (.iload_n 1, 1) := by decide +kernel
theorem dX11_comes_6 : decode cX11_comes 6 = .ok (.i2l, 1) := by decide +kernel
theorem dX11_comes_7 : decode cX11_comes 7 = .ok (.lconst 0, 1) := by decide +kernel
theorem dX11_comes_8 : decode cX11_comes 8 = .ok (.ldc2_w 214, 3) := by decide +kernel
theorem dX11_comes_11 : decode cX11_comes 11 = .ok (.invokestatic 80, 3) := by decide +kernel
theorem dX11_comes_14 : decode cX11_comes 14 = .ok (.ifCond .eq 10, 3) := by decide +kernel
theorem dX11_comes_17 : decode cX11_comes 17 = .ok (.iload_n 2, 1) := by decide +kernel
theorem dX11_comes_18 : decode cX11_comes 18 = .ok (.invokestatic 161, 3) := by decide +kernel
theorem dX11_comes_21 : decode cX11_comes 21 = .ok (.ifCond .ne 5, 3) := by decide +kernel
theorem dX11_comes_24 : decode cX11_comes 24 = .ok (.iconst (-1), 1) := by decide +kernel
theorem dX11_comes_25 : decode cX11_comes 25 = .ok (.ireturn, 1) := by decide +kernel
theorem dX11_comes_26 : decode cX11_comes 26 = .ok (.aload_n 0, 1) := by decide +kernel
theorem dX11_comes_27 : decode cX11_comes 27 = .ok (.iload_n 1, 1) := by decide +kernel
theorem dX11_comes_28 : decode cX11_comes 28 = .ok (.invokevirtual 216, 3) := by decide +kernel
theorem dX11_comes_31 : decode cX11_comes 31 = .ok (.ifCond .lt 12, 3) := by decide +kernel
theorem dX11_comes_34 : decode cX11_comes 34 = .ok (.aload_n 0, 1) := by decide +kernel
theorem dX11_comes_35 : decode cX11_comes 35 = .ok (.getfield 84, 3) := by decide +kernel
theorem dX11_comes_38 : decode cX11_comes 38 = .ok (.bipush 7, 2) := by decide +kernel
theorem dX11_comes_40 : decode cX11_comes 40 = .ok (.if_icmp .ne 22, 3) := by decide +kernel
theorem dX11_comes_43 : decode cX11_comes 43 = .ok (.aload_n 0, 1) := by decide +kernel
theorem dX11_comes_44 : decode cX11_comes 44 = .ok (.iload_n 1, 1) := by decide +kernel
theorem dX11_comes_45 : decode cX11_comes 45 = .ok (.invokevirtual 216, 3) := by decide +kernel
theorem dX11_comes_48 : decode cX11_comes 48 = .ok (.ifCond .ge 11, 3) := by decide +kernel
theorem dX11_comes_51 : decode cX11_comes 51 = .ok (.aload_n 0, 1) := by decide +kernel
theorem dX11_comes_52 : decode cX11_comes 52 = .ok (.iload_n 1, 1) := by decide +kernel
theorem dX11_comes_53 : decode cX11_comes 53 = .ok (.invokevirtual 216, 3) := by decide +kernel
theorem dX11_comes_56 : decode cX11_comes 56 = .ok (.goto 5, 3) := by decide +kernel
theorem dX11_comes_59 : decode cX11_comes 59 = .ok (.bipush (-2), 2) := by decide +kernel
theorem dX11_comes_61 : decode cX11_comes 61 = .ok (.ireturn, 1) := by decide +kernel
theorem dX11_comes_62 : decode cX11_comes 62 = .ok (.aload_n 0, 1) := by decide +kernel
theorem dX11_comes_63 : decode cX11_comes 63 = .ok (.aload_n 0, 1) := by decide +kernel
theorem dX11_comes_64 : decode cX11_comes 64 = .ok (.getfield 28, 3) := by decide +kernel
theorem dX11_comes_67 : decode cX11_comes 67 = .ok (.iload_n 1, 1) := by decide +kernel
theorem dX11_comes_68 : decode cX11_comes 68 = .ok (.iaload, 1) := by decide +kernel
theorem dX11_comes_69 : decode cX11_comes 69 = .ok (.aload_n 0, 1) := by decide +kernel
theorem dX11_comes_70 : decode cX11_comes 70 = .ok (.getfield 31, 3) := by decide +kernel
theorem dX11_comes_73 : decode cX11_comes 73 = .ok (.iload_n 1, 1) := by decide +kernel
theorem dX11_comes_74 : decode cX11_comes 74 = .ok (.iaload, 1) := by decide +kernel
theorem dX11_comes_75 : decode cX11_comes 75 = .ok (.iload_n 2, 1) := by decide +kernel
theorem dX11_comes_76 : decode cX11_comes 76 = .ok (.aload_n 0, 1) := by decide +kernel
theorem dX11_comes_77 : decode cX11_comes 77 = .ok (.getfield 84, 3) := by decide +kernel
theorem dX11_comes_80 : decode cX11_comes 80 = .ok (.invokevirtual 170, 3) := by decide +kernel
theorem dX11_comes_83 : decode cX11_comes 83 = .ok (.pop, 1) := by decide +kernel
theorem dX11_comes_84 : decode cX11_comes 84 = .ok (.aload_n 0, 1) := by decide +kernel
theorem dX11_comes_85 : decode cX11_comes 85 = .ok (.getfield 84, 3) := by decide +kernel
theorem dX11_comes_88 : decode cX11_comes 88 = .ok (.iconst 1, 1) := by decide +kernel
theorem dX11_comes_89 : decode cX11_comes 89 = .ok (.isub, 1) := by decide +kernel
theorem dX11_comes_90 : decode cX11_comes 90 = .ok (.ireturn, 1) := by decide +kernel
abbrev cX11_moves : ByteArray := prog_13_method_37_code
def yX11_moves : MethodName := ⟨RX11, "moves", "(II)I"⟩
theorem dX11_moves_0 : decode cX11_moves 0 = .ok (.aload_n 0, 1) := by decide +kernel
theorem dX11_moves_1 : decode cX11_moves 1 = .ok (.iconst 0, 1) := by decide +kernel
theorem dX11_moves_2 : decode cX11_moves 2 = .ok (.putfield 68, 3) := by decide +kernel
theorem dX11_moves_5 : decode cX11_moves 5 = .ok (.aload_n 0, 1) := by decide +kernel
theorem dX11_moves_6 : decode cX11_moves 6 = .ok (.iload_n 1, 1) := by decide +kernel
theorem dX11_moves_7 : decode cX11_moves 7 = .ok (.invokevirtual 174, 3) := by decide +kernel
theorem dX11_moves_10 : decode cX11_moves 10 = .ok (.ifCond .eq 10, 3) := by decide +kernel
theorem dX11_moves_13 : decode cX11_moves 13 = .ok (.iload_n 2, 1) := by decide +kernel
theorem dX11_moves_14 : decode cX11_moves 14 = .ok (.invokestatic 161, 3) := by decide +kernel
theorem dX11_moves_17 : decode cX11_moves 17 = .ok (.ifCond .ne 5, 3) := by decide +kernel
theorem dX11_moves_20 : decode cX11_moves 20 = .ok (.iconst (-1), 1) := by decide +kernel
theorem dX11_moves_21 : decode cX11_moves 21 = .ok (.ireturn, 1) := by decide +kernel
theorem dX11_moves_22 : decode cX11_moves 22 = .ok (.aload_n 0, 1) := by decide +kernel
theorem dX11_moves_23 : decode cX11_moves 23 = .ok (.getfield 16, 3) := by decide +kernel
theorem dX11_moves_26 : decode cX11_moves 26 = .ok (.iload_n 1, 1) := by decide +kernel
theorem dX11_moves_27 : decode cX11_moves 27 = .ok (.iaload, 1) := by decide +kernel
theorem dX11_moves_28 : decode cX11_moves 28 = .ok (.istore_n 3, 1) := by decide +kernel
theorem dX11_moves_29 : decode cX11_moves 29 = .ok (.aload_n 0, 1) := by decide +kernel
theorem dX11_moves_30 : decode cX11_moves 30 = .ok (.getfield 16, 3) := by decide +kernel
theorem dX11_moves_33 : decode cX11_moves 33 = .ok (.iload_n 1, 1) := by decide +kernel
theorem dX11_moves_34 : decode cX11_moves 34 = .ok (.iload_n 2, 1) := by decide +kernel
theorem dX11_moves_35 : decode cX11_moves 35 = .ok (.iastore, 1) := by decide +kernel
theorem dX11_moves_36 : decode cX11_moves 36 = .ok (.iload_n 3, 1) := by decide +kernel
theorem dX11_moves_37 : decode cX11_moves 37 = .ok (.ireturn, 1) := by decide +kernel
abbrev cX11_fetches : ByteArray := prog_13_method_38_code
def yX11_fetches : MethodName := ⟨RX11, "fetches", "(II)I"⟩
theorem dX11_fetches_0 : decode cX11_fetches 0 = .ok (.aload_n 0, 1) := by decide +kernel
theorem dX11_fetches_1 : decode cX11_fetches 1 = .ok (.iconst 0, 1) := by decide +kernel
theorem dX11_fetches_2 : decode cX11_fetches 2 = .ok (.putfield 68, 3) := by decide +kernel
theorem dX11_fetches_5 : decode cX11_fetches 5 = .ok (.aload_n 0, 1) := by decide +kernel
theorem dX11_fetches_6 : decode cX11_fetches 6 = .ok (.iload_n 1, 1) := by decide +kernel
theorem dX11_fetches_7 : decode cX11_fetches 7 = .ok (.invokevirtual 174, 3) := by decide +kernel
theorem dX11_fetches_10 : decode cX11_fetches 10 = .ok (.ifCond .eq 15, 3) := by decide +kernel
theorem dX11_fetches_13 : decode cX11_fetches 13 = .ok (.iload_n 2, 1) := by decide +kernel
theorem dX11_fetches_14 : decode cX11_fetches 14 = .ok (.i2l, 1) := by decide +kernel
theorem dX11_fetches_15 : decode cX11_fetches 15 = .ok (.lconst 0, 1) := by decide +kernel
theorem dX11_fetches_16 : decode cX11_fetches 16 = .ok (.ldc2_w 219, 3) := by decide +kernel
theorem dX11_fetches_19 : decode cX11_fetches 19 = .ok (.invokestatic 80, 3) := by decide +kernel
theorem dX11_fetches_22 : decode cX11_fetches 22 = .ok (.ifCond .ne 5, 3) := by decide +kernel
theorem dX11_fetches_25 : decode cX11_fetches 25 = .ok (.iconst (-1), 1) := by decide +kernel
theorem dX11_fetches_26 : decode cX11_fetches 26 = .ok (.ireturn, 1) := by decide +kernel
theorem dX11_fetches_27 : decode cX11_fetches 27 = .ok (.aload_n 0, 1) := by decide +kernel
theorem dX11_fetches_28 : decode cX11_fetches 28 = .ok (.getfield 19, 3) := by decide +kernel
theorem dX11_fetches_31 : decode cX11_fetches 31 = .ok (.iload_n 1, 1) := by decide +kernel
theorem dX11_fetches_32 : decode cX11_fetches 32 = .ok (.iaload, 1) := by decide +kernel
theorem dX11_fetches_33 : decode cX11_fetches 33 = .ok (.istore_n 3, 1) := by decide +kernel
theorem dX11_fetches_34 : decode cX11_fetches 34 = .ok (.aload_n 0, 1) := by decide +kernel
theorem dX11_fetches_35 : decode cX11_fetches 35 = .ok (.getfield 19, 3) := by decide +kernel
theorem dX11_fetches_38 : decode cX11_fetches 38 = .ok (.iload_n 1, 1) := by decide +kernel
theorem dX11_fetches_39 : decode cX11_fetches 39 = .ok (.iload_n 2, 1) := by decide +kernel
theorem dX11_fetches_40 : decode cX11_fetches 40 = .ok (.iastore, 1) := by decide +kernel
theorem dX11_fetches_41 : decode cX11_fetches 41 = .ok (.iload_n 3, 1) := by decide +kernel
theorem dX11_fetches_42 : decode cX11_fetches 42 = .ok (.ireturn, 1) := by decide +kernel
abbrev cX11_stocks : ByteArray := prog_13_method_39_code
def yX11_stocks : MethodName := ⟨RX11, "stocks", "(II)I"⟩
theorem dX11_stocks_0 : decode cX11_stocks 0 = .ok (.aload_n 0, 1) := by decide +kernel
theorem dX11_stocks_1 : decode cX11_stocks 1 = .ok (.iconst 0, 1) := by decide +kernel
theorem dX11_stocks_2 : decode cX11_stocks 2 = .ok (.putfield 68, 3) := by decide +kernel
theorem dX11_stocks_5 : decode cX11_stocks 5 = .ok (.aload_n 0, 1) := by decide +kernel
theorem dX11_stocks_6 : decode cX11_stocks 6 = .ok (.iload_n 1, 1) := by decide +kernel
theorem dX11_stocks_7 : decode cX11_stocks 7 = .ok (.invokevirtual 174, 3) := by decide +kernel
theorem dX11_stocks_10 : decode cX11_stocks 10 = .ok (.ifCond .eq 15, 3) := by decide +kernel
theorem dX11_stocks_13 : decode cX11_stocks 13 = .ok (.iload_n 2, 1) := by decide +kernel
theorem dX11_stocks_14 : decode cX11_stocks 14 = .ok (.i2l, 1) := by decide +kernel
theorem dX11_stocks_15 : decode cX11_stocks 15 = .ok (.lconst 0, 1) := by decide +kernel
theorem dX11_stocks_16 : decode cX11_stocks 16 = .ok (.ldc2_w 221, 3) := by decide +kernel
theorem dX11_stocks_19 : decode cX11_stocks 19 = .ok (.invokestatic 80, 3) := by decide +kernel
theorem dX11_stocks_22 : decode cX11_stocks 22 = .ok (.ifCond .ne 5, 3) := by decide +kernel
theorem dX11_stocks_25 : decode cX11_stocks 25 = .ok (.iconst (-1), 1) := by decide +kernel
theorem dX11_stocks_26 : decode cX11_stocks 26 = .ok (.ireturn, 1) := by decide +kernel
theorem dX11_stocks_27 : decode cX11_stocks 27 = .ok (.aload_n 0, 1) := by decide +kernel
theorem dX11_stocks_28 : decode cX11_stocks 28 = .ok (.getfield 22, 3) := by decide +kernel
theorem dX11_stocks_31 : decode cX11_stocks 31 = .ok (.iload_n 1, 1) := by decide +kernel
theorem dX11_stocks_32 : decode cX11_stocks 32 = .ok (.iaload, 1) := by decide +kernel
theorem dX11_stocks_33 : decode cX11_stocks 33 = .ok (.istore_n 3, 1) := by decide +kernel
theorem dX11_stocks_34 : decode cX11_stocks 34 = .ok (.aload_n 0, 1) := by decide +kernel
theorem dX11_stocks_35 : decode cX11_stocks 35 = .ok (.getfield 22, 3) := by decide +kernel
theorem dX11_stocks_38 : decode cX11_stocks 38 = .ok (.iload_n 1, 1) := by decide +kernel
theorem dX11_stocks_39 : decode cX11_stocks 39 = .ok (.iload_n 2, 1) := by decide +kernel
theorem dX11_stocks_40 : decode cX11_stocks 40 = .ok (.iastore, 1) := by decide +kernel
theorem dX11_stocks_41 : decode cX11_stocks 41 = .ok (.iload_n 3, 1) := by decide +kernel
theorem dX11_stocks_42 : decode cX11_stocks 42 = .ok (.ireturn, 1) := by decide +kernel
abbrev cX11_sits : ByteArray := prog_13_method_40_code
def yX11_sits : MethodName := ⟨RX11, "sits", "(I)I"⟩
theorem dX11_sits_0 : decode cX11_sits 0 = .ok (.aload_n 0, 1) := by decide +kernel
theorem dX11_sits_1 : decode cX11_sits 1 = .ok (.iconst 0, 1) := by decide +kernel
theorem dX11_sits_2 : decode cX11_sits 2 = .ok (.putfield 68, 3) := by decide +kernel
theorem dX11_sits_5 : decode cX11_sits 5 = .ok (.iload_n 1, 1) := by decide +kernel
theorem dX11_sits_6 : decode cX11_sits 6 = .ok (.invokestatic 161, 3) := by decide +kernel
theorem dX11_sits_9 : decode cX11_sits 9 = .ok (.ifCond .ne 5, 3) := by decide +kernel
theorem dX11_sits_12 : decode cX11_sits 12 = .ok (.iconst (-1), 1) := by decide +kernel
theorem dX11_sits_13 : decode cX11_sits 13 = .ok (.ireturn, 1) := by decide +kernel
theorem dX11_sits_14 : decode cX11_sits 14 = .ok (.aload_n 0, 1) := by decide +kernel
theorem dX11_sits_15 : decode cX11_sits 15 = .ok (.getfield 91, 3) := by decide +kernel
theorem dX11_sits_18 : decode cX11_sits 18 = .ok (.istore_n 2, 1) := by decide +kernel
theorem dX11_sits_19 : decode cX11_sits 19 = .ok (.aload_n 0, 1) := by decide +kernel
theorem dX11_sits_20 : decode cX11_sits 20 = .ok (.iload_n 1, 1) := by decide +kernel
theorem dX11_sits_21 : decode cX11_sits 21 = .ok (.putfield 91, 3) := by decide +kernel
theorem dX11_sits_24 : decode cX11_sits 24 = .ok (.iload_n 2, 1) := by decide +kernel
theorem dX11_sits_25 : decode cX11_sits 25 = .ok (.ireturn, 1) := by decide +kernel
abbrev cX11_sun : ByteArray := prog_13_method_41_code
def yX11_sun : MethodName := ⟨RX11, "sun", "(II)I"⟩
theorem dX11_sun_0 : decode cX11_sun 0 = .ok (.aload_n 0, 1) := by decide +kernel
theorem dX11_sun_1 : decode cX11_sun 1 = .ok (.iconst 0, 1) := by decide +kernel
theorem dX11_sun_2 : decode cX11_sun 2 = .ok (.putfield 68, 3) := by decide +kernel
theorem dX11_sun_5 : decode cX11_sun 5 = .ok (.iload_n 1, 1) := by decide +kernel
theorem dX11_sun_6 : decode cX11_sun 6 = .ok (.i2l, 1) := by decide +kernel
theorem dX11_sun_7 : decode cX11_sun 7 = .ok (.lconst 0, 1) := by decide +kernel
theorem dX11_sun_8 : decode cX11_sun 8 = .ok (.ldc2_w 223, 3) := by decide +kernel
theorem dX11_sun_11 : decode cX11_sun 11 = .ok (.invokestatic 80, 3) := by decide +kernel
theorem dX11_sun_14 : decode cX11_sun 14 = .ok (.ifCond .eq 10, 3) := by decide +kernel
theorem dX11_sun_17 : decode cX11_sun 17 = .ok (.iload_n 2, 1) := by decide +kernel
theorem dX11_sun_18 : decode cX11_sun 18 = .ok (.invokestatic 161, 3) := by decide +kernel
theorem dX11_sun_21 : decode cX11_sun 21 = .ok (.ifCond .ne 5, 3) := by decide +kernel
theorem dX11_sun_24 : decode cX11_sun 24 = .ok (.iconst (-1), 1) := by decide +kernel
theorem dX11_sun_25 : decode cX11_sun 25 = .ok (.ireturn, 1) := by decide +kernel
theorem dX11_sun_26 : decode cX11_sun 26 = .ok (.bipush 100, 2) := by decide +kernel
theorem dX11_sun_28 : decode cX11_sun 28 = .ok (.aload_n 0, 1) := by decide +kernel
theorem dX11_sun_29 : decode cX11_sun 29 = .ok (.getfield 72, 3) := by decide +kernel
theorem dX11_sun_32 : decode cX11_sun 32 = .ok (.imul, 1) := by decide +kernel
theorem dX11_sun_33 : decode cX11_sun 33 = .ok (.aload_n 0, 1) := by decide +kernel
theorem dX11_sun_34 : decode cX11_sun 34 = .ok (.getfield 75, 3) := by decide +kernel
theorem dX11_sun_37 : decode cX11_sun 37 = .ok (.iadd, 1) := by decide +kernel
theorem dX11_sun_38 : decode cX11_sun 38 = .ok (.istore_n 3, 1) := by decide +kernel
theorem dX11_sun_39 : decode cX11_sun 39 = .ok (.aload_n 0, 1) := by decide +kernel
theorem dX11_sun_40 : decode cX11_sun 40 = .ok (.iload_n 1, 1) := by decide +kernel
theorem dX11_sun_41 : decode cX11_sun 41 = .ok (.putfield 72, 3) := by decide +kernel
theorem dX11_sun_44 : decode cX11_sun 44 = .ok (.aload_n 0, 1) := by decide +kernel
theorem dX11_sun_45 : decode cX11_sun 45 = .ok (.iload_n 2, 1) := by decide +kernel
theorem dX11_sun_46 : decode cX11_sun 46 = .ok (.putfield 75, 3) := by decide +kernel
theorem dX11_sun_49 : decode cX11_sun 49 = .ok (.iload_n 3, 1) := by decide +kernel
theorem dX11_sun_50 : decode cX11_sun 50 = .ok (.ireturn, 1) := by decide +kernel
abbrev cX11_days : ByteArray := prog_13_method_42_code
def yX11_days : MethodName := ⟨RX11, "days", "(I)I"⟩
theorem dX11_days_0 : decode cX11_days 0 = .ok (.aload_n 0, 1) := by decide +kernel
theorem dX11_days_1 : decode cX11_days 1 = .ok (.iconst 0, 1) := by decide +kernel
theorem dX11_days_2 : decode cX11_days 2 = .ok (.putfield 68, 3) := by decide +kernel
theorem dX11_days_5 : decode cX11_days 5 = .ok (.iload_n 1, 1) := by decide +kernel
theorem dX11_days_6 : decode cX11_days 6 = .ok (.i2l, 1) := by decide +kernel
theorem dX11_days_7 : decode cX11_days 7 = .ok (.lconst 1, 1) := by decide +kernel
theorem dX11_days_8 : decode cX11_days 8 = .ok (.ldc2_w 164, 3) := by decide +kernel
theorem dX11_days_11 : decode cX11_days 11 = .ok (.invokestatic 80, 3) := by decide +kernel
theorem dX11_days_14 : decode cX11_days 14 = .ok (.ifCond .ne 5, 3) := by decide +kernel
theorem dX11_days_17 : decode cX11_days 17 = .ok (.iconst (-1), 1) := by decide +kernel
theorem dX11_days_18 : decode cX11_days 18 = .ok (.ireturn, 1) := by decide +kernel
theorem dX11_days_19 : decode cX11_days 19 = .ok (.aload_n 0, 1) := by decide +kernel
theorem dX11_days_20 : decode cX11_days 20 = .ok (.getfield 97, 3) := by decide +kernel
theorem dX11_days_23 : decode cX11_days 23 = .ok (.iload_n 1, 1) := by decide +kernel
theorem dX11_days_24 : decode cX11_days 24 = .ok (.iadd, 1) := by decide +kernel
theorem dX11_days_25 : decode cX11_days 25 = .ok (.sipush 999, 3) := by decide +kernel
theorem dX11_days_28 : decode cX11_days 28 = .ok (.if_icmp .le 6, 3) := by decide +kernel
theorem dX11_days_31 : decode cX11_days 31 = .ok (.bipush (-3), 2) := by decide +kernel
theorem dX11_days_33 : decode cX11_days 33 = .ok (.ireturn, 1) := by decide +kernel
theorem dX11_days_34 : decode cX11_days 34 = .ok (.aload_n 0, 1) := by decide +kernel
theorem dX11_days_35 : decode cX11_days 35 = .ok (.iload_n 1, 1) := by decide +kernel
theorem dX11_days_36 : decode cX11_days 36 = .ok (.invokevirtual 166, 3) := by decide +kernel
theorem dX11_days_39 : decode cX11_days 39 = .ok (.aload_n 0, 1) := by decide +kernel
theorem dX11_days_40 : decode cX11_days 40 = .ok (.invokevirtual 225, 3) := by decide +kernel
theorem dX11_days_43 : decode cX11_days 43 = .ok (.ireturn, 1) := by decide +kernel
abbrev cX11_then : ByteArray := prog_13_method_43_code
def yX11_then : MethodName := ⟨RX11, "then", "(II)I"⟩
theorem dX11_then_0 : decode cX11_then 0 = .ok (.aload_n 0, 1) := by decide +kernel
theorem dX11_then_1 : decode cX11_then 1 = .ok (.iconst 0, 1) := by decide +kernel
theorem dX11_then_2 : decode cX11_then 2 = .ok (.putfield 68, 3) := by decide +kernel
theorem dX11_then_5 : decode cX11_then 5 = .ok (.iload_n 1, 1) := by decide +kernel
theorem dX11_then_6 : decode cX11_then 6 = .ok (.i2l, 1) := by decide +kernel
theorem dX11_then_7 : decode cX11_then 7 = .ok (.lconst 0, 1) := by decide +kernel
theorem dX11_then_8 : decode cX11_then 8 = .ok (.ldc2_w 164, 3) := by decide +kernel
theorem dX11_then_11 : decode cX11_then 11 = .ok (.invokestatic 80, 3) := by decide +kernel
theorem dX11_then_14 : decode cX11_then 14 = .ok (.ifCond .eq 15, 3) := by decide +kernel
theorem dX11_then_17 : decode cX11_then 17 = .ok (.iload_n 2, 1) := by decide +kernel
theorem dX11_then_18 : decode cX11_then 18 = .ok (.i2l, 1) := by decide +kernel
theorem dX11_then_19 : decode cX11_then 19 = .ok (.lconst 0, 1) := by decide +kernel
theorem dX11_then_20 : decode cX11_then 20 = .ok (.ldc2_w 228, 3) := by decide +kernel
theorem dX11_then_23 : decode cX11_then 23 = .ok (.invokestatic 80, 3) := by decide +kernel
theorem dX11_then_26 : decode cX11_then 26 = .ok (.ifCond .ne 5, 3) := by decide +kernel
theorem dX11_then_29 : decode cX11_then 29 = .ok (.iconst (-1), 1) := by decide +kernel
theorem dX11_then_30 : decode cX11_then 30 = .ok (.ireturn, 1) := by decide +kernel
theorem dX11_then_31 : decode cX11_then 31 = .ok (.aload_n 0, 1) := by decide +kernel
theorem dX11_then_32 : decode cX11_then 32 = .ok (.invokevirtual 186, 3) := by decide +kernel
theorem dX11_then_35 : decode cX11_then 35 = .ok (.aload_n 0, 1) := by decide +kernel
theorem dX11_then_36 : decode cX11_then 36 = .ok (.iload_n 1, 1) := by decide +kernel
theorem dX11_then_37 : decode cX11_then 37 = .ok (.invokevirtual 166, 3) := by decide +kernel
theorem dX11_then_40 : decode cX11_then 40 = .ok (.iload_n 2, 1) := by decide +kernel
theorem dX11_then_41 : decode cX11_then 41 = .ok (.ifCond .ne 10, 3) := by decide +kernel
theorem dX11_then_44 : decode cX11_then 44 = .ok (.aload_n 0, 1) := by decide +kernel
theorem dX11_then_45 : decode cX11_then 45 = .ok (.getfield 91, 3) := by decide +kernel
theorem dX11_then_48 : decode cX11_then 48 = .ok (.goto 31, 3) := by decide +kernel
theorem dX11_then_51 : decode cX11_then 51 = .ok (.iload_n 2, 1) := by decide +kernel
theorem dX11_then_52 : decode cX11_then 52 = .ok (.iconst 1, 1) := by decide +kernel
theorem dX11_then_53 : decode cX11_then 53 = .ok (.if_icmp .ne 10, 3) := by decide +kernel
theorem dX11_then_56 : decode cX11_then 56 = .ok (.aload_n 0, 1) := by decide +kernel
theorem dX11_then_57 : decode cX11_then 57 = .ok (.getfield 117, 3) := by decide +kernel
theorem dX11_then_60 : decode cX11_then 60 = .ok (.goto 19, 3) := by decide +kernel
theorem dX11_then_63 : decode cX11_then 63 = .ok (.iload_n 2, 1) := by decide +kernel
theorem dX11_then_64 : decode cX11_then 64 = .ok (.iconst 2, 1) := by decide +kernel
theorem dX11_then_65 : decode cX11_then 65 = .ok (.if_icmp .ne 10, 3) := by decide +kernel
theorem dX11_then_68 : decode cX11_then 68 = .ok (.aload_n 0, 1) := by decide +kernel
theorem dX11_then_69 : decode cX11_then 69 = .ok (.invokevirtual 230, 3) := by decide +kernel
theorem dX11_then_72 : decode cX11_then 72 = .ok (.goto 7, 3) := by decide +kernel
theorem dX11_then_75 : decode cX11_then 75 = .ok (.aload_n 0, 1) := by decide +kernel
theorem dX11_then_76 : decode cX11_then 76 = .ok (.invokevirtual 225, 3) := by decide +kernel
theorem dX11_then_79 : decode cX11_then 79 = .ok (.istore_n 3, 1) := by decide +kernel
theorem dX11_then_80 : decode cX11_then 80 = .ok (.aload_n 0, 1) := by decide +kernel
theorem dX11_then_81 : decode cX11_then 81 = .ok (.invokevirtual 192, 3) := by decide +kernel
theorem dX11_then_84 : decode cX11_then 84 = .ok (.iload_n 3, 1) := by decide +kernel
theorem dX11_then_85 : decode cX11_then 85 = .ok (.ireturn, 1) := by decide +kernel
abbrev cX11_stockThen : ByteArray := prog_13_method_44_code
def yX11_stockThen : MethodName := ⟨RX11, "stockThen", "(II)I"⟩
theorem dX11_stockThen_0 : decode cX11_stockThen 0 = .ok (.aload_n 0, 1) := by decide +kernel
theorem dX11_stockThen_1 : decode cX11_stockThen 1 = .ok (.iconst 0, 1) := by decide +kernel
theorem dX11_stockThen_2 : decode cX11_stockThen 2 = .ok (.putfield 68, 3) := by decide +kernel
theorem dX11_stockThen_5 : decode cX11_stockThen 5 = .ok (.aload_n 0, 1) := by decide +kernel
theorem dX11_stockThen_6 : decode cX11_stockThen 6 = .ok (.iload_n 1, 1) := by decide +kernel
theorem dX11_stockThen_7 : decode cX11_stockThen 7 = .ok (.invokevirtual 174, 3) := by decide +kernel
theorem dX11_stockThen_10 : decode cX11_stockThen 10 = .ok (.ifCond .eq 15, 3) := by decide +kernel
theorem dX11_stockThen_13 : decode cX11_stockThen 13 = .ok (.iload_n 2, 1) := by decide +kernel
theorem dX11_stockThen_14 : decode cX11_stockThen 14 = .ok (.i2l, 1) := by decide +kernel
theorem dX11_stockThen_15 : decode cX11_stockThen 15 = .ok (.lconst 0, 1) := by decide +kernel
theorem dX11_stockThen_16 : decode cX11_stockThen 16 = .ok (.ldc2_w 164, 3) := by decide +kernel
theorem dX11_stockThen_19 : decode cX11_stockThen 19 = .ok (.invokestatic 80, 3) := by decide +kernel
theorem dX11_stockThen_22 : decode cX11_stockThen 22 = .ok (.ifCond .ne 5, 3) := by decide +kernel
theorem dX11_stockThen_25 : decode cX11_stockThen 25 = .ok (.iconst (-1), 1) := by decide +kernel
theorem dX11_stockThen_26 : decode cX11_stockThen 26 = .ok (.ireturn, 1) := by decide +kernel
theorem dX11_stockThen_27 : decode cX11_stockThen 27 = .ok (.aload_n 0, 1) := by decide +kernel
theorem dX11_stockThen_28 : decode cX11_stockThen 28 = .ok (.invokevirtual 186, 3) := by decide +kernel
theorem dX11_stockThen_31 : decode cX11_stockThen 31 = .ok (.aload_n 0, 1) := by decide +kernel
theorem dX11_stockThen_32 : decode cX11_stockThen 32 = .ok (.iload_n 2, 1) := by decide +kernel
theorem dX11_stockThen_33 : decode cX11_stockThen 33 = .ok (.invokevirtual 166, 3) := by decide +kernel
theorem dX11_stockThen_36 : decode cX11_stockThen 36 = .ok (.aload_n 0, 1) := by decide +kernel
theorem dX11_stockThen_37 : decode cX11_stockThen 37 = .ok (.getfield 22, 3) := by decide +kernel
theorem dX11_stockThen_40 : decode cX11_stockThen 40 = .ok (.iload_n 1, 1) := by decide +kernel
theorem dX11_stockThen_41 : decode cX11_stockThen 41 = .ok (.iaload, 1) := by decide +kernel
theorem dX11_stockThen_42 : decode cX11_stockThen 42 = .ok (.istore_n 3, 1) := by decide +kernel
theorem dX11_stockThen_43 : decode cX11_stockThen 43 = .ok (.aload_n 0, 1) := by decide +kernel
theorem dX11_stockThen_44 : decode cX11_stockThen 44 = .ok (.invokevirtual 192, 3) := by decide +kernel
theorem dX11_stockThen_47 : decode cX11_stockThen 47 = .ok (.iload_n 3, 1) := by decide +kernel
theorem dX11_stockThen_48 : decode cX11_stockThen 48 = .ok (.ireturn, 1) := by decide +kernel
abbrev cX11_firstCan : ByteArray := prog_13_method_45_code
def yX11_firstCan : MethodName := ⟨RX11, "firstCan", "(I)I"⟩
theorem dX11_firstCan_0 : decode cX11_firstCan 0 = .ok (.aload_n 0, 1) := by decide +kernel
theorem dX11_firstCan_1 : decode cX11_firstCan 1 = .ok (.iconst 0, 1) := by decide +kernel
theorem dX11_firstCan_2 : decode cX11_firstCan 2 = .ok (.putfield 68, 3) := by decide +kernel
theorem dX11_firstCan_5 : decode cX11_firstCan 5 = .ok (.aload_n 0, 1) := by decide +kernel
theorem dX11_firstCan_6 : decode cX11_firstCan 6 = .ok (.iload_n 1, 1) := by decide +kernel
theorem dX11_firstCan_7 : decode cX11_firstCan 7 = .ok (.invokevirtual 174, 3) := by decide +kernel
theorem dX11_firstCan_10 : decode cX11_firstCan 10 = .ok (.ifCond .ne 5, 3) := by decide +kernel
theorem dX11_firstCan_13 : decode cX11_firstCan 13 = .ok (.iconst (-1), 1) := by decide +kernel
theorem dX11_firstCan_14 : decode cX11_firstCan 14 = .ok (.ireturn, 1) := by decide +kernel
theorem dX11_firstCan_15 : decode cX11_firstCan 15 = .ok (.bipush (-4), 2) := by decide +kernel
theorem dX11_firstCan_17 : decode cX11_firstCan 17 = .ok (.istore_n 2, 1) := by decide +kernel
theorem dX11_firstCan_18 : decode cX11_firstCan 18 = .ok (.aload_n 0, 1) := by decide +kernel
theorem dX11_firstCan_19 : decode cX11_firstCan 19 = .ok (.invokevirtual 186, 3) := by decide +kernel
theorem dX11_firstCan_22 : decode cX11_firstCan 22 = .ok (.iconst 0, 1) := by decide +kernel
theorem dX11_firstCan_23 : decode cX11_firstCan 23 = .ok (.istore_n 3, 1) := by decide +kernel
theorem dX11_firstCan_24 : decode cX11_firstCan 24 = .ok (.iload_n 3, 1) := by decide +kernel
theorem dX11_firstCan_25 : decode cX11_firstCan 25 = .ok (.bipush 60, 2) := by decide +kernel
theorem dX11_firstCan_27 : decode cX11_firstCan 27 = .ok (.if_icmp .gt 33, 3) := by decide +kernel
theorem dX11_firstCan_30 : decode cX11_firstCan 30 = .ok (.iload_n 2, 1) := by decide +kernel
theorem dX11_firstCan_31 : decode cX11_firstCan 31 = .ok (.ifCond .ge 29, 3) := by decide +kernel
theorem dX11_firstCan_34 : decode cX11_firstCan 34 = .ok (.aload_n 0, 1) := by decide +kernel
theorem dX11_firstCan_35 : decode cX11_firstCan 35 = .ok (.iload_n 1, 1) := by decide +kernel
theorem dX11_firstCan_36 : decode cX11_firstCan 36 = .ok (.invokevirtual 111, 3) := by decide +kernel
theorem dX11_firstCan_39 : decode cX11_firstCan 39 = .ok (.ifCond .eq 7, 3) := by decide +kernel
theorem dX11_firstCan_42 : decode cX11_firstCan 42 = .ok (.iload_n 3, 1) := by decide +kernel
theorem dX11_firstCan_43 : decode cX11_firstCan 43 = .ok (.goto 5, 3) := by decide +kernel
theorem dX11_firstCan_46 : decode cX11_firstCan 46 = .ok (.bipush (-4), 2) := by decide +kernel
theorem dX11_firstCan_48 : decode cX11_firstCan 48 = .ok (.istore_n 2, 1) := by decide +kernel
theorem dX11_firstCan_49 : decode cX11_firstCan 49 = .ok (.aload_n 0, 1) := by decide +kernel
theorem dX11_firstCan_50 : decode cX11_firstCan 50 = .ok (.iconst 0, 1) := by decide +kernel
theorem dX11_firstCan_51 : decode cX11_firstCan 51 = .ok (.invokevirtual 126, 3) := by decide +kernel
theorem dX11_firstCan_54 : decode cX11_firstCan 54 = .ok (.iinc 3 1, 3) := by decide +kernel
theorem dX11_firstCan_57 : decode cX11_firstCan 57 = .ok (.goto (-33), 3) := by decide +kernel
theorem dX11_firstCan_60 : decode cX11_firstCan 60 = .ok (.aload_n 0, 1) := by decide +kernel
theorem dX11_firstCan_61 : decode cX11_firstCan 61 = .ok (.invokevirtual 192, 3) := by decide +kernel
theorem dX11_firstCan_64 : decode cX11_firstCan 64 = .ok (.iload_n 2, 1) := by decide +kernel
theorem dX11_firstCan_65 : decode cX11_firstCan 65 = .ok (.ireturn, 1) := by decide +kernel
abbrev cX11_hungryIn : ByteArray := prog_13_method_46_code
def yX11_hungryIn : MethodName := ⟨RX11, "hungryIn", "(I)I"⟩
theorem dX11_hungryIn_0 : decode cX11_hungryIn 0 = .ok (.bipush (-4), 2) := by decide +kernel
theorem dX11_hungryIn_2 : decode cX11_hungryIn 2 = .ok (.istore_n 2, 1) := by decide +kernel
theorem dX11_hungryIn_3 : decode cX11_hungryIn 3 = .ok (.aload_n 0, 1) := by decide +kernel
theorem dX11_hungryIn_4 : decode cX11_hungryIn 4 = .ok (.invokevirtual 186, 3) := by decide +kernel
theorem dX11_hungryIn_7 : decode cX11_hungryIn 7 = .ok (.iconst 0, 1) := by decide +kernel
theorem dX11_hungryIn_8 : decode cX11_hungryIn 8 = .ok (.istore_n 3, 1) := by decide +kernel
theorem dX11_hungryIn_9 : decode cX11_hungryIn 9 = .ok (.iload_n 3, 1) := by decide +kernel
theorem dX11_hungryIn_10 : decode cX11_hungryIn 10 = .ok (.bipush 60, 2) := by decide +kernel
theorem dX11_hungryIn_12 : decode cX11_hungryIn 12 = .ok (.if_icmp .gt 34, 3) := by decide +kernel
theorem dX11_hungryIn_15 : decode cX11_hungryIn 15 = .ok (.iload_n 2, 1) := by decide +kernel
theorem dX11_hungryIn_16 : decode cX11_hungryIn 16 = .ok (.ifCond .ge 30, 3) := by decide +kernel
theorem dX11_hungryIn_19 : decode cX11_hungryIn 19 = .ok (.aload_n 0, 1) := by decide +kernel
theorem dX11_hungryIn_20 : decode cX11_hungryIn 20 = .ok (.getfield 22, 3) := by decide +kernel
theorem dX11_hungryIn_23 : decode cX11_hungryIn 23 = .ok (.iload_n 1, 1) := by decide +kernel
theorem dX11_hungryIn_24 : decode cX11_hungryIn 24 = .ok (.iaload, 1) := by decide +kernel
theorem dX11_hungryIn_25 : decode cX11_hungryIn 25 = .ok (.ifCond .ne 7, 3) := by decide +kernel
theorem dX11_hungryIn_28 : decode cX11_hungryIn 28 = .ok (.iload_n 3, 1) := by decide +kernel
theorem dX11_hungryIn_29 : decode cX11_hungryIn 29 = .ok (.goto 5, 3) := by decide +kernel
theorem dX11_hungryIn_32 : decode cX11_hungryIn 32 = .ok (.bipush (-4), 2) := by decide +kernel
theorem dX11_hungryIn_34 : decode cX11_hungryIn 34 = .ok (.istore_n 2, 1) := by decide +kernel
theorem dX11_hungryIn_35 : decode cX11_hungryIn 35 = .ok (.aload_n 0, 1) := by decide +kernel
theorem dX11_hungryIn_36 : decode cX11_hungryIn 36 = .ok (.iconst 0, 1) := by decide +kernel
theorem dX11_hungryIn_37 : decode cX11_hungryIn 37 = .ok (.invokevirtual 126, 3) := by decide +kernel
theorem dX11_hungryIn_40 : decode cX11_hungryIn 40 = .ok (.iinc 3 1, 3) := by decide +kernel
theorem dX11_hungryIn_43 : decode cX11_hungryIn 43 = .ok (.goto (-34), 3) := by decide +kernel
theorem dX11_hungryIn_46 : decode cX11_hungryIn 46 = .ok (.aload_n 0, 1) := by decide +kernel
theorem dX11_hungryIn_47 : decode cX11_hungryIn 47 = .ok (.invokevirtual 192, 3) := by decide +kernel
theorem dX11_hungryIn_50 : decode cX11_hungryIn 50 = .ok (.iload_n 2, 1) := by decide +kernel
theorem dX11_hungryIn_51 : decode cX11_hungryIn 51 = .ok (.ireturn, 1) := by decide +kernel
abbrev cX11_hungry : ByteArray := prog_13_method_47_code
def yX11_hungry : MethodName := ⟨RX11, "hungry", "(I)I"⟩
theorem dX11_hungry_0 : decode cX11_hungry 0 = .ok (.aload_n 0, 1) := by decide +kernel
theorem dX11_hungry_1 : decode cX11_hungry 1 = .ok (.iconst 0, 1) := by decide +kernel
theorem dX11_hungry_2 : decode cX11_hungry 2 = .ok (.putfield 68, 3) := by decide +kernel
theorem dX11_hungry_5 : decode cX11_hungry 5 = .ok (.iload_n 1, 1) := by decide +kernel
theorem dX11_hungry_6 : decode cX11_hungry 6 = .ok (.i2l, 1) := by decide +kernel
theorem dX11_hungry_7 : decode cX11_hungry 7 = .ok (.ldc2_w 233, 3) := by decide +kernel
theorem dX11_hungry_10 : decode cX11_hungry 10 = .ok (.aload_n 0, 1) := by decide +kernel
theorem dX11_hungry_11 : decode cX11_hungry 11 = .ok (.getfield 84, 3) := by decide +kernel
theorem dX11_hungry_14 : decode cX11_hungry 14 = .ok (.iconst 1, 1) := by decide +kernel
theorem dX11_hungry_15 : decode cX11_hungry 15 = .ok (.isub, 1) := by decide +kernel
theorem dX11_hungry_16 : decode cX11_hungry 16 = .ok (.i2l, 1) := by decide +kernel
theorem dX11_hungry_17 : decode cX11_hungry 17 = .ok (.invokestatic 80, 3) := by decide +kernel
theorem dX11_hungry_20 : decode cX11_hungry 20 = .ok (.ifCond .ne 5, 3) := by decide +kernel
theorem dX11_hungry_23 : decode cX11_hungry 23 = .ok (.iconst (-1), 1) := by decide +kernel
theorem dX11_hungry_24 : decode cX11_hungry 24 = .ok (.ireturn, 1) := by decide +kernel
theorem dX11_hungry_25 : decode cX11_hungry 25 = .ok (.iload_n 1, 1) := by decide +kernel
theorem dX11_hungry_26 : decode cX11_hungry 26 = .ok (.ifCond .lt 9, 3) := by decide +kernel
theorem dX11_hungry_29 : decode cX11_hungry 29 = .ok (.aload_n 0, 1) := by decide +kernel
theorem dX11_hungry_30 : decode cX11_hungry 30 = .ok (.iload_n 1, 1) := by decide +kernel
theorem dX11_hungry_31 : decode cX11_hungry 31 = .ok (.invokevirtual 235, 3) := by decide +kernel
theorem dX11_hungry_34 : decode cX11_hungry 34 = .ok (.ireturn, 1) := by decide +kernel
theorem dX11_hungry_35 : decode cX11_hungry 35 = .ok (.bipush (-4), 2) := by decide +kernel
theorem dX11_hungry_37 : decode cX11_hungry 37 = .ok (.istore_n 2, 1) := by decide +kernel
theorem dX11_hungry_38 : decode cX11_hungry 38 = .ok (.bipush 61, 2) := by decide +kernel
theorem dX11_hungry_40 : decode cX11_hungry 40 = .ok (.istore_n 3, 1) := by decide +kernel
theorem dX11_hungry_41 : decode cX11_hungry 41 = .ok (.iconst 0, 1) := by decide +kernel
theorem dX11_hungry_42 : decode cX11_hungry 42 = .ok (.istore 4, 2) := by decide +kernel
theorem dX11_hungry_44 : decode cX11_hungry 44 = .ok (.iload 4, 2) := by decide +kernel
theorem dX11_hungry_46 : decode cX11_hungry 46 = .ok (.aload_n 0, 1) := by decide +kernel
theorem dX11_hungry_47 : decode cX11_hungry 47 = .ok (.getfield 84, 3) := by decide +kernel
theorem dX11_hungry_50 : decode cX11_hungry 50 = .ok (.if_icmp .ge 53, 3) := by decide +kernel
theorem dX11_hungry_53 : decode cX11_hungry 53 = .ok (.aload_n 0, 1) := by decide +kernel
theorem dX11_hungry_54 : decode cX11_hungry 54 = .ok (.iload 4, 2) := by decide +kernel
theorem dX11_hungry_56 : decode cX11_hungry 56 = .ok (.invokevirtual 235, 3) := by decide +kernel
theorem dX11_hungry_59 : decode cX11_hungry 59 = .ok (.istore 5, 2) := by decide +kernel
theorem dX11_hungry_61 : decode cX11_hungry 61 = .ok (.iload 5, 2) := by decide +kernel
theorem dX11_hungry_63 : decode cX11_hungry 63 = .ok (.ifCond .lt 14, 3) := by decide +kernel
theorem dX11_hungry_66 : decode cX11_hungry 66 = .ok (.iload 5, 2) := by decide +kernel
theorem dX11_hungry_68 : decode cX11_hungry 68 = .ok (.iload_n 3, 1) := by decide +kernel
theorem dX11_hungry_69 : decode cX11_hungry 69 = .ok (.if_icmp .ge 8, 3) := by decide +kernel
theorem dX11_hungry_72 : decode cX11_hungry 72 = .ok (.iload 4, 2) := by decide +kernel
theorem dX11_hungry_74 : decode cX11_hungry 74 = .ok (.goto 4, 3) := by decide +kernel
theorem dX11_hungry_77 : decode cX11_hungry 77 = .ok (.iload_n 2, 1) := by decide +kernel
theorem dX11_hungry_78 : decode cX11_hungry 78 = .ok (.istore_n 2, 1) := by decide +kernel
theorem dX11_hungry_79 : decode cX11_hungry 79 = .ok (.iload 5, 2) := by decide +kernel
theorem dX11_hungry_81 : decode cX11_hungry 81 = .ok (.ifCond .lt 14, 3) := by decide +kernel
theorem dX11_hungry_84 : decode cX11_hungry 84 = .ok (.iload 5, 2) := by decide +kernel
theorem dX11_hungry_86 : decode cX11_hungry 86 = .ok (.iload_n 3, 1) := by decide +kernel
theorem dX11_hungry_87 : decode cX11_hungry 87 = .ok (.if_icmp .ge 8, 3) := by decide +kernel
theorem dX11_hungry_90 : decode cX11_hungry 90 = .ok (.iload 5, 2) := by decide +kernel
theorem dX11_hungry_92 : decode cX11_hungry 92 = .ok (.goto 4, 3) := by decide +kernel
theorem dX11_hungry_95 : decode cX11_hungry 95 = .ok (.iload_n 3, 1) := by decide +kernel
theorem dX11_hungry_96 : decode cX11_hungry 96 = .ok (.istore_n 3, 1) := by decide +kernel
theorem dX11_hungry_97 : decode cX11_hungry 97 = .ok (.iinc 4 1, 3) := by decide +kernel
theorem dX11_hungry_100 : decode cX11_hungry 100 = .ok (.goto (-56), 3) := by decide +kernel
theorem dX11_hungry_103 : decode cX11_hungry 103 = .ok (.iload_n 2, 1) := by decide +kernel
theorem dX11_hungry_104 : decode cX11_hungry 104 = .ok (.ireturn, 1) := by decide +kernel
abbrev cX11_round : ByteArray := prog_13_method_48_code
def yX11_round : MethodName := ⟨RX11, "round", "()I"⟩
theorem dX11_round_0 : decode cX11_round 0 = .ok (.aload_n 0, 1) := by decide +kernel
theorem dX11_round_1 : decode cX11_round 1 = .ok (.iconst 0, 1) := by decide +kernel
theorem dX11_round_2 : decode cX11_round 2 = .ok (.putfield 68, 3) := by decide +kernel
theorem dX11_round_5 : decode cX11_round 5 = .ok (.aload_n 0, 1) := by decide +kernel
theorem dX11_round_6 : decode cX11_round 6 = .ok (.getfield 91, 3) := by decide +kernel
theorem dX11_round_9 : decode cX11_round 9 = .ok (.istore_n 1, 1) := by decide +kernel
theorem dX11_round_10 : decode cX11_round 10 = .ok (.bipush (-4), 2) := by decide +kernel
theorem dX11_round_12 : decode cX11_round 12 = .ok (.istore_n 2, 1) := by decide +kernel
theorem dX11_round_13 : decode cX11_round 13 = .ok (.aload_n 0, 1) := by decide +kernel
theorem dX11_round_14 : decode cX11_round 14 = .ok (.invokevirtual 186, 3) := by decide +kernel
theorem dX11_round_17 : decode cX11_round 17 = .ok (.iconst 1, 1) := by decide +kernel
theorem dX11_round_18 : decode cX11_round 18 = .ok (.istore_n 3, 1) := by decide +kernel
theorem dX11_round_19 : decode cX11_round 19 = .ok (.iload_n 3, 1) := by decide +kernel
theorem dX11_round_20 : decode cX11_round 20 = .ok (.bipush 60, 2) := by decide +kernel
theorem dX11_round_22 : decode cX11_round 22 = .ok (.if_icmp .gt 33, 3) := by decide +kernel
theorem dX11_round_25 : decode cX11_round 25 = .ok (.iload_n 2, 1) := by decide +kernel
theorem dX11_round_26 : decode cX11_round 26 = .ok (.ifCond .ge 29, 3) := by decide +kernel
theorem dX11_round_29 : decode cX11_round 29 = .ok (.aload_n 0, 1) := by decide +kernel
theorem dX11_round_30 : decode cX11_round 30 = .ok (.iconst 0, 1) := by decide +kernel
theorem dX11_round_31 : decode cX11_round 31 = .ok (.invokevirtual 126, 3) := by decide +kernel
theorem dX11_round_34 : decode cX11_round 34 = .ok (.aload_n 0, 1) := by decide +kernel
theorem dX11_round_35 : decode cX11_round 35 = .ok (.getfield 91, 3) := by decide +kernel
theorem dX11_round_38 : decode cX11_round 38 = .ok (.iload_n 1, 1) := by decide +kernel
theorem dX11_round_39 : decode cX11_round 39 = .ok (.if_icmp .ne 7, 3) := by decide +kernel
theorem dX11_round_42 : decode cX11_round 42 = .ok (.iload_n 3, 1) := by decide +kernel
theorem dX11_round_43 : decode cX11_round 43 = .ok (.goto 5, 3) := by decide +kernel
theorem dX11_round_46 : decode cX11_round 46 = .ok (.bipush (-4), 2) := by decide +kernel
theorem dX11_round_48 : decode cX11_round 48 = .ok (.istore_n 2, 1) := by decide +kernel
theorem dX11_round_49 : decode cX11_round 49 = .ok (.iinc 3 1, 3) := by decide +kernel
theorem dX11_round_52 : decode cX11_round 52 = .ok (.goto (-33), 3) := by decide +kernel
theorem dX11_round_55 : decode cX11_round 55 = .ok (.aload_n 0, 1) := by decide +kernel
theorem dX11_round_56 : decode cX11_round 56 = .ok (.invokevirtual 192, 3) := by decide +kernel
theorem dX11_round_59 : decode cX11_round 59 = .ok (.iload_n 2, 1) := by decide +kernel
theorem dX11_round_60 : decode cX11_round 60 = .ok (.ireturn, 1) := by decide +kernel
abbrev cX11_way : ByteArray := prog_13_method_49_code
def yX11_way : MethodName := ⟨RX11, "way", "(II)I"⟩
theorem dX11_way_0 : decode cX11_way 0 = .ok (.aload_n 0, 1) := by decide +kernel
theorem dX11_way_1 : decode cX11_way 1 = .ok (.iconst 0, 1) := by decide +kernel
theorem dX11_way_2 : decode cX11_way 2 = .ok (.putfield 68, 3) := by decide +kernel
theorem dX11_way_5 : decode cX11_way 5 = .ok (.aload_n 0, 1) := by decide +kernel
theorem dX11_way_6 : decode cX11_way 6 = .ok (.iload_n 1, 1) := by decide +kernel
theorem dX11_way_7 : decode cX11_way 7 = .ok (.invokevirtual 174, 3) := by decide +kernel
theorem dX11_way_10 : decode cX11_way 10 = .ok (.ifCond .eq 19, 3) := by decide +kernel
theorem dX11_way_13 : decode cX11_way 13 = .ok (.iload_n 2, 1) := by decide +kernel
theorem dX11_way_14 : decode cX11_way 14 = .ok (.invokestatic 161, 3) := by decide +kernel
theorem dX11_way_17 : decode cX11_way 17 = .ok (.ifCond .eq 12, 3) := by decide +kernel
theorem dX11_way_20 : decode cX11_way 20 = .ok (.aload_n 0, 1) := by decide +kernel
theorem dX11_way_21 : decode cX11_way 21 = .ok (.iload_n 1, 1) := by decide +kernel
theorem dX11_way_22 : decode cX11_way 22 = .ok (.iload_n 2, 1) := by decide +kernel
theorem dX11_way_23 : decode cX11_way 23 = .ok (.invokevirtual 104, 3) := by decide +kernel
theorem dX11_way_26 : decode cX11_way 26 = .ok (.goto 4, 3) := by decide +kernel
theorem dX11_way_29 : decode cX11_way 29 = .ok (.iconst (-1), 1) := by decide +kernel
theorem dX11_way_30 : decode cX11_way 30 = .ok (.ireturn, 1) := by decide +kernel
abbrev cX11_allWays : ByteArray := prog_13_method_50_code
def yX11_allWays : MethodName := ⟨RX11, "allWays", "()I"⟩
theorem dX11_allWays_0 : decode cX11_allWays 0 = .ok (.iconst 0, 1) := by decide +kernel
theorem dX11_allWays_1 : decode cX11_allWays 1 = .ok (.istore_n 1, 1) := by decide +kernel
theorem dX11_allWays_2 : decode cX11_allWays 2 = .ok (.iconst 0, 1) := by decide +kernel
theorem dX11_allWays_3 : decode cX11_allWays 3 = .ok (.istore_n 2, 1) := by decide +kernel
theorem dX11_allWays_4 : decode cX11_allWays 4 = .ok (.iload_n 2, 1) := by decide +kernel
theorem dX11_allWays_5 : decode cX11_allWays 5 = .ok (.aload_n 0, 1) := by decide +kernel
theorem dX11_allWays_6 : decode cX11_allWays 6 = .ok (.getfield 84, 3) := by decide +kernel
theorem dX11_allWays_9 : decode cX11_allWays 9 = .ok (.if_icmp .ge 40, 3) := by decide +kernel
theorem dX11_allWays_12 : decode cX11_allWays 12 = .ok (.iload_n 1, 1) := by decide +kernel
theorem dX11_allWays_13 : decode cX11_allWays 13 = .ok (.aload_n 0, 1) := by decide +kernel
theorem dX11_allWays_14 : decode cX11_allWays 14 = .ok (.iload_n 2, 1) := by decide +kernel
theorem dX11_allWays_15 : decode cX11_allWays 15 = .ok (.invokevirtual 100, 3) := by decide +kernel
theorem dX11_allWays_18 : decode cX11_allWays 18 = .ok (.ifCond .eq 22, 3) := by decide +kernel
theorem dX11_allWays_21 : decode cX11_allWays 21 = .ok (.aload_n 0, 1) := by decide +kernel
theorem dX11_allWays_22 : decode cX11_allWays 22 = .ok (.iload_n 2, 1) := by decide +kernel
theorem dX11_allWays_23 : decode cX11_allWays 23 = .ok (.aload_n 0, 1) := by decide +kernel
theorem dX11_allWays_24 : decode cX11_allWays 24 = .ok (.getfield 16, 3) := by decide +kernel
theorem dX11_allWays_27 : decode cX11_allWays 27 = .ok (.aload_n 0, 1) := by decide +kernel
theorem dX11_allWays_28 : decode cX11_allWays 28 = .ok (.getfield 19, 3) := by decide +kernel
theorem dX11_allWays_31 : decode cX11_allWays 31 = .ok (.iload_n 2, 1) := by decide +kernel
theorem dX11_allWays_32 : decode cX11_allWays 32 = .ok (.iaload, 1) := by decide +kernel
theorem dX11_allWays_33 : decode cX11_allWays 33 = .ok (.iaload, 1) := by decide +kernel
theorem dX11_allWays_34 : decode cX11_allWays 34 = .ok (.invokevirtual 104, 3) := by decide +kernel
theorem dX11_allWays_37 : decode cX11_allWays 37 = .ok (.goto 4, 3) := by decide +kernel
theorem dX11_allWays_40 : decode cX11_allWays 40 = .ok (.iconst 0, 1) := by decide +kernel
theorem dX11_allWays_41 : decode cX11_allWays 41 = .ok (.iadd, 1) := by decide +kernel
theorem dX11_allWays_42 : decode cX11_allWays 42 = .ok (.istore_n 1, 1) := by decide +kernel
theorem dX11_allWays_43 : decode cX11_allWays 43 = .ok (.iinc 2 1, 3) := by decide +kernel
theorem dX11_allWays_46 : decode cX11_allWays 46 = .ok (.goto (-42), 3) := by decide +kernel
theorem dX11_allWays_49 : decode cX11_allWays 49 = .ok (.iload_n 1, 1) := by decide +kernel
theorem dX11_allWays_50 : decode cX11_allWays 50 = .ok (.ireturn, 1) := by decide +kernel
abbrev cX11_sit : ByteArray := prog_13_method_51_code
def yX11_sit : MethodName := ⟨RX11, "sit", "(I)I"⟩
theorem dX11_sit_0 : decode cX11_sit 0 = .ok (.aload_n 0, 1) := by decide +kernel
theorem dX11_sit_1 : decode cX11_sit 1 = .ok (.iconst 0, 1) := by decide +kernel
theorem dX11_sit_2 : decode cX11_sit 2 = .ok (.putfield 68, 3) := by decide +kernel
theorem dX11_sit_5 : decode cX11_sit 5 = .ok (.iload_n 1, 1) := by decide +kernel
theorem dX11_sit_6 : decode cX11_sit 6 = .ok (.i2l, 1) := by decide +kernel
theorem dX11_sit_7 : decode cX11_sit 7 = .ok (.lconst 0, 1) := by decide +kernel
theorem dX11_sit_8 : decode cX11_sit 8 = .ok (.lconst 1, 1) := by decide +kernel
theorem dX11_sit_9 : decode cX11_sit 9 = .ok (.invokestatic 80, 3) := by decide +kernel
theorem dX11_sit_12 : decode cX11_sit 12 = .ok (.ifCond .ne 5, 3) := by decide +kernel
theorem dX11_sit_15 : decode cX11_sit 15 = .ok (.iconst (-1), 1) := by decide +kernel
theorem dX11_sit_16 : decode cX11_sit 16 = .ok (.ireturn, 1) := by decide +kernel
theorem dX11_sit_17 : decode cX11_sit 17 = .ok (.iconst (-1), 1) := by decide +kernel
theorem dX11_sit_18 : decode cX11_sit 18 = .ok (.istore_n 2, 1) := by decide +kernel
theorem dX11_sit_19 : decode cX11_sit 19 = .ok (.iconst 0, 1) := by decide +kernel
theorem dX11_sit_20 : decode cX11_sit 20 = .ok (.istore_n 3, 1) := by decide +kernel
theorem dX11_sit_21 : decode cX11_sit 21 = .ok (.aload_n 0, 1) := by decide +kernel
theorem dX11_sit_22 : decode cX11_sit 22 = .ok (.invokevirtual 186, 3) := by decide +kernel
theorem dX11_sit_25 : decode cX11_sit 25 = .ok (.iconst 0, 1) := by decide +kernel
theorem dX11_sit_26 : decode cX11_sit 26 = .ok (.istore 4, 2) := by decide +kernel
theorem dX11_sit_28 : decode cX11_sit 28 = .ok (.iload 4, 2) := by decide +kernel
theorem dX11_sit_30 : decode cX11_sit 30 = .ok (.bipush 12, 2) := by decide +kernel
theorem dX11_sit_32 : decode cX11_sit 32 = .ok (.if_icmp .ge 62, 3) := by decide +kernel
theorem dX11_sit_35 : decode cX11_sit 35 = .ok (.aload_n 0, 1) := by decide +kernel
theorem dX11_sit_36 : decode cX11_sit 36 = .ok (.iload 4, 2) := by decide +kernel
theorem dX11_sit_38 : decode cX11_sit 38 = .ok (.putfield 91, 3) := by decide +kernel
theorem dX11_sit_41 : decode cX11_sit 41 = .ok (.aload_n 0, 1) := by decide +kernel
theorem dX11_sit_42 : decode cX11_sit 42 = .ok (.invokevirtual 238, 3) := by decide +kernel
theorem dX11_sit_45 : decode cX11_sit 45 = .ok (.istore 5, 2) := by decide +kernel
theorem dX11_sit_47 : decode cX11_sit 47 = .ok (.iload_n 2, 1) := by decide +kernel
theorem dX11_sit_48 : decode cX11_sit 48 = .ok (.ifCond .lt 9, 3) := by decide +kernel
theorem dX11_sit_51 : decode cX11_sit 51 = .ok (.iload 5, 2) := by decide +kernel
theorem dX11_sit_53 : decode cX11_sit 53 = .ok (.iload_n 3, 1) := by decide +kernel
theorem dX11_sit_54 : decode cX11_sit 54 = .ok (.if_icmp .ge 7, 3) := by decide +kernel
theorem dX11_sit_57 : decode cX11_sit 57 = .ok (.iconst 1, 1) := by decide +kernel
theorem dX11_sit_58 : decode cX11_sit 58 = .ok (.goto 4, 3) := by decide +kernel
theorem dX11_sit_61 : decode cX11_sit 61 = .ok (.iconst 0, 1) := by decide +kernel
theorem dX11_sit_62 : decode cX11_sit 62 = .ok (.istore 6, 2) := by decide +kernel
theorem dX11_sit_64 : decode cX11_sit 64 = .ok (.iload 6, 2) := by decide +kernel
theorem dX11_sit_66 : decode cX11_sit 66 = .ok (.ifCond .eq 8, 3) := by decide +kernel
theorem dX11_sit_69 : decode cX11_sit 69 = .ok (.iload 4, 2) := by decide +kernel
theorem dX11_sit_71 : decode cX11_sit 71 = .ok (.goto 4, 3) := by decide +kernel
theorem dX11_sit_74 : decode cX11_sit 74 = .ok (.iload_n 2, 1) := by decide +kernel
theorem dX11_sit_75 : decode cX11_sit 75 = .ok (.istore_n 2, 1) := by decide +kernel
theorem dX11_sit_76 : decode cX11_sit 76 = .ok (.iload 6, 2) := by decide +kernel
theorem dX11_sit_78 : decode cX11_sit 78 = .ok (.ifCond .eq 8, 3) := by decide +kernel
theorem dX11_sit_81 : decode cX11_sit 81 = .ok (.iload 5, 2) := by decide +kernel
theorem dX11_sit_83 : decode cX11_sit 83 = .ok (.goto 4, 3) := by decide +kernel
theorem dX11_sit_86 : decode cX11_sit 86 = .ok (.iload_n 3, 1) := by decide +kernel
theorem dX11_sit_87 : decode cX11_sit 87 = .ok (.istore_n 3, 1) := by decide +kernel
theorem dX11_sit_88 : decode cX11_sit 88 = .ok (.iinc 4 1, 3) := by decide +kernel
theorem dX11_sit_91 : decode cX11_sit 91 = .ok (.goto (-63), 3) := by decide +kernel
theorem dX11_sit_94 : decode cX11_sit 94 = .ok (.aload_n 0, 1) := by decide +kernel
theorem dX11_sit_95 : decode cX11_sit 95 = .ok (.invokevirtual 192, 3) := by decide +kernel
theorem dX11_sit_98 : decode cX11_sit 98 = .ok (.iload_n 1, 1) := by decide +kernel
theorem dX11_sit_99 : decode cX11_sit 99 = .ok (.ifCond .ne 7, 3) := by decide +kernel
theorem dX11_sit_102 : decode cX11_sit 102 = .ok (.iload_n 2, 1) := by decide +kernel
theorem dX11_sit_103 : decode cX11_sit 103 = .ok (.goto 4, 3) := by decide +kernel
theorem dX11_sit_106 : decode cX11_sit 106 = .ok (.iload_n 3, 1) := by decide +kernel
theorem dX11_sit_107 : decode cX11_sit 107 = .ok (.ireturn, 1) := by decide +kernel
abbrev cX11_sitFor : ByteArray := prog_13_method_52_code
def yX11_sitFor : MethodName := ⟨RX11, "sitFor", "(I)I"⟩
theorem dX11_sitFor_0 : decode cX11_sitFor 0 = .ok (.aload_n 0, 1) := by decide +kernel
theorem dX11_sitFor_1 : decode cX11_sitFor 1 = .ok (.iconst 0, 1) := by decide +kernel
theorem dX11_sitFor_2 : decode cX11_sitFor 2 = .ok (.putfield 68, 3) := by decide +kernel
theorem dX11_sitFor_5 : decode cX11_sitFor 5 = .ok (.iload_n 1, 1) := by decide +kernel
theorem dX11_sitFor_6 : decode cX11_sitFor 6 = .ok (.i2l, 1) := by decide +kernel
theorem dX11_sitFor_7 : decode cX11_sitFor 7 = .ok (.lconst 0, 1) := by decide +kernel
theorem dX11_sitFor_8 : decode cX11_sitFor 8 = .ok (.ldc2_w 164, 3) := by decide +kernel
theorem dX11_sitFor_11 : decode cX11_sitFor 11 = .ok (.invokestatic 80, 3) := by decide +kernel
theorem dX11_sitFor_14 : decode cX11_sitFor 14 = .ok (.ifCond .ne 5, 3) := by decide +kernel
theorem dX11_sitFor_17 : decode cX11_sitFor 17 = .ok (.iconst (-1), 1) := by decide +kernel
theorem dX11_sitFor_18 : decode cX11_sitFor 18 = .ok (.ireturn, 1) := by decide +kernel
theorem dX11_sitFor_19 : decode cX11_sitFor 19 = .ok (.iconst 0, 1) := by decide +kernel
theorem dX11_sitFor_20 : decode cX11_sitFor 20 = .ok (.istore_n 2, 1) := by decide +kernel
theorem dX11_sitFor_21 : decode cX11_sitFor 21 = .ok (.iconst (-1), 1) := by decide +kernel
theorem dX11_sitFor_22 : decode cX11_sitFor 22 = .ok (.istore_n 3, 1) := by decide +kernel
theorem dX11_sitFor_23 : decode cX11_sitFor 23 = .ok (.aload_n 0, 1) := by decide +kernel
theorem dX11_sitFor_24 : decode cX11_sitFor 24 = .ok (.invokevirtual 186, 3) := by decide +kernel
theorem dX11_sitFor_27 : decode cX11_sitFor 27 = .ok (.iconst 0, 1) := by decide +kernel
theorem dX11_sitFor_28 : decode cX11_sitFor 28 = .ok (.istore 4, 2) := by decide +kernel
theorem dX11_sitFor_30 : decode cX11_sitFor 30 = .ok (.iload 4, 2) := by decide +kernel
theorem dX11_sitFor_32 : decode cX11_sitFor 32 = .ok (.bipush 12, 2) := by decide +kernel
theorem dX11_sitFor_34 : decode cX11_sitFor 34 = .ok (.if_icmp .ge 56, 3) := by decide +kernel
theorem dX11_sitFor_37 : decode cX11_sitFor 37 = .ok (.aload_n 0, 1) := by decide +kernel
theorem dX11_sitFor_38 : decode cX11_sitFor 38 = .ok (.iload 4, 2) := by decide +kernel
theorem dX11_sitFor_40 : decode cX11_sitFor 40 = .ok (.putfield 91, 3) := by decide +kernel
theorem dX11_sitFor_43 : decode cX11_sitFor 43 = .ok (.aload_n 0, 1) := by decide +kernel
theorem dX11_sitFor_44 : decode cX11_sitFor 44 = .ok (.iload_n 1, 1) := by decide +kernel
theorem dX11_sitFor_45 : decode cX11_sitFor 45 = .ok (.invokevirtual 166, 3) := by decide +kernel
theorem dX11_sitFor_48 : decode cX11_sitFor 48 = .ok (.aload_n 0, 1) := by decide +kernel
theorem dX11_sitFor_49 : decode cX11_sitFor 49 = .ok (.invokevirtual 225, 3) := by decide +kernel
theorem dX11_sitFor_52 : decode cX11_sitFor 52 = .ok (.istore 5, 2) := by decide +kernel
theorem dX11_sitFor_54 : decode cX11_sitFor 54 = .ok (.aload_n 0, 1) := by decide +kernel
theorem dX11_sitFor_55 : decode cX11_sitFor 55 = .ok (.invokevirtual 192, 3) := by decide +kernel
theorem dX11_sitFor_58 : decode cX11_sitFor 58 = .ok (.iload 5, 2) := by decide +kernel
theorem dX11_sitFor_60 : decode cX11_sitFor 60 = .ok (.iload_n 3, 1) := by decide +kernel
theorem dX11_sitFor_61 : decode cX11_sitFor 61 = .ok (.if_icmp .le 8, 3) := by decide +kernel
theorem dX11_sitFor_64 : decode cX11_sitFor 64 = .ok (.iload 4, 2) := by decide +kernel
theorem dX11_sitFor_66 : decode cX11_sitFor 66 = .ok (.goto 4, 3) := by decide +kernel
theorem dX11_sitFor_69 : decode cX11_sitFor 69 = .ok (.iload_n 2, 1) := by decide +kernel
theorem dX11_sitFor_70 : decode cX11_sitFor 70 = .ok (.istore_n 2, 1) := by decide +kernel
theorem dX11_sitFor_71 : decode cX11_sitFor 71 = .ok (.iload 5, 2) := by decide +kernel
theorem dX11_sitFor_73 : decode cX11_sitFor 73 = .ok (.iload_n 3, 1) := by decide +kernel
theorem dX11_sitFor_74 : decode cX11_sitFor 74 = .ok (.if_icmp .le 8, 3) := by decide +kernel
theorem dX11_sitFor_77 : decode cX11_sitFor 77 = .ok (.iload 5, 2) := by decide +kernel
theorem dX11_sitFor_79 : decode cX11_sitFor 79 = .ok (.goto 4, 3) := by decide +kernel
theorem dX11_sitFor_82 : decode cX11_sitFor 82 = .ok (.iload_n 3, 1) := by decide +kernel
theorem dX11_sitFor_83 : decode cX11_sitFor 83 = .ok (.istore_n 3, 1) := by decide +kernel
theorem dX11_sitFor_84 : decode cX11_sitFor 84 = .ok (.iinc 4 1, 3) := by decide +kernel
theorem dX11_sitFor_87 : decode cX11_sitFor 87 = .ok (.goto (-57), 3) := by decide +kernel
theorem dX11_sitFor_90 : decode cX11_sitFor 90 = .ok (.iload_n 2, 1) := by decide +kernel
theorem dX11_sitFor_91 : decode cX11_sitFor 91 = .ok (.ireturn, 1) := by decide +kernel
abbrev cX11_move : ByteArray := prog_13_method_53_code
def yX11_move : MethodName := ⟨RX11, "move", "(II)I"⟩
theorem dX11_move_0 : decode cX11_move 0 = .ok (.aload_n 0, 1) := by decide +kernel
theorem dX11_move_1 : decode cX11_move 1 = .ok (.iconst 0, 1) := by decide +kernel
theorem dX11_move_2 : decode cX11_move 2 = .ok (.putfield 68, 3) := by decide +kernel
theorem dX11_move_5 : decode cX11_move 5 = .ok (.aload_n 0, 1) := by decide +kernel
theorem dX11_move_6 : decode cX11_move 6 = .ok (.iload_n 1, 1) := by decide +kernel
theorem dX11_move_7 : decode cX11_move 7 = .ok (.invokevirtual 174, 3) := by decide +kernel
theorem dX11_move_10 : decode cX11_move 10 = .ok (.ifCond .eq 15, 3) := by decide +kernel
theorem dX11_move_13 : decode cX11_move 13 = .ok (.iload_n 2, 1) := by decide +kernel
theorem dX11_move_14 : decode cX11_move 14 = .ok (.i2l, 1) := by decide +kernel
theorem dX11_move_15 : decode cX11_move 15 = .ok (.lconst 0, 1) := by decide +kernel
theorem dX11_move_16 : decode cX11_move 16 = .ok (.ldc2_w 164, 3) := by decide +kernel
theorem dX11_move_19 : decode cX11_move 19 = .ok (.invokestatic 80, 3) := by decide +kernel
theorem dX11_move_22 : decode cX11_move 22 = .ok (.ifCond .ne 5, 3) := by decide +kernel
theorem dX11_move_25 : decode cX11_move 25 = .ok (.iconst (-1), 1) := by decide +kernel
theorem dX11_move_26 : decode cX11_move 26 = .ok (.ireturn, 1) := by decide +kernel
theorem dX11_move_27 : decode cX11_move 27 = .ok (.iconst 0, 1) := by decide +kernel
theorem dX11_move_28 : decode cX11_move 28 = .ok (.istore_n 3, 1) := by decide +kernel
theorem dX11_move_29 : decode cX11_move 29 = .ok (.iconst (-1), 1) := by decide +kernel
theorem dX11_move_30 : decode cX11_move 30 = .ok (.istore 4, 2) := by decide +kernel
theorem dX11_move_32 : decode cX11_move 32 = .ok (.aload_n 0, 1) := by decide +kernel
theorem dX11_move_33 : decode cX11_move 33 = .ok (.invokevirtual 186, 3) := by decide +kernel
theorem dX11_move_36 : decode cX11_move 36 = .ok (.iconst 0, 1) := by decide +kernel
theorem dX11_move_37 : decode cX11_move 37 = .ok (.istore 5, 2) := by decide +kernel
theorem dX11_move_39 : decode cX11_move 39 = .ok (.iload 5, 2) := by decide +kernel
theorem dX11_move_41 : decode cX11_move 41 = .ok (.bipush 12, 2) := by decide +kernel
theorem dX11_move_43 : decode cX11_move 43 = .ok (.if_icmp .ge 64, 3) := by decide +kernel
theorem dX11_move_46 : decode cX11_move 46 = .ok (.aload_n 0, 1) := by decide +kernel
theorem dX11_move_47 : decode cX11_move 47 = .ok (.getfield 16, 3) := by decide +kernel
theorem dX11_move_50 : decode cX11_move 50 = .ok (.iload_n 1, 1) := by decide +kernel
theorem dX11_move_51 : decode cX11_move 51 = .ok (.iload 5, 2) := by decide +kernel
theorem dX11_move_53 : decode cX11_move 53 = .ok (.iastore, 1) := by decide +kernel
theorem dX11_move_54 : decode cX11_move 54 = .ok (.aload_n 0, 1) := by decide +kernel
theorem dX11_move_55 : decode cX11_move 55 = .ok (.iload_n 2, 1) := by decide +kernel
theorem dX11_move_56 : decode cX11_move 56 = .ok (.invokevirtual 166, 3) := by decide +kernel
theorem dX11_move_59 : decode cX11_move 59 = .ok (.aload_n 0, 1) := by decide +kernel
theorem dX11_move_60 : decode cX11_move 60 = .ok (.getfield 22, 3) := by decide +kernel
theorem dX11_move_63 : decode cX11_move 63 = .ok (.iload_n 1, 1) := by decide +kernel
theorem dX11_move_64 : decode cX11_move 64 = .ok (.iaload, 1) := by decide +kernel
theorem dX11_move_65 : decode cX11_move 65 = .ok (.istore 6, 2) := by decide +kernel
theorem dX11_move_67 : decode cX11_move 67 = .ok (.aload_n 0, 1) := by decide +kernel
theorem dX11_move_68 : decode cX11_move 68 = .ok (.invokevirtual 192, 3) := by decide +kernel
theorem dX11_move_71 : decode cX11_move 71 = .ok (.iload 6, 2) := by decide +kernel
theorem dX11_move_73 : decode cX11_move 73 = .ok (.iload 4, 2) := by decide +kernel
theorem dX11_move_75 : decode cX11_move 75 = .ok (.if_icmp .le 8, 3) := by decide +kernel
theorem dX11_move_78 : decode cX11_move 78 = .ok (.iload 5, 2) := by decide +kernel
theorem dX11_move_80 : decode cX11_move 80 = .ok (.goto 4, 3) := by decide +kernel
theorem dX11_move_83 : decode cX11_move 83 = .ok (.iload_n 3, 1) := by decide +kernel
theorem dX11_move_84 : decode cX11_move 84 = .ok (.istore_n 3, 1) := by decide +kernel
theorem dX11_move_85 : decode cX11_move 85 = .ok (.iload 6, 2) := by decide +kernel
theorem dX11_move_87 : decode cX11_move 87 = .ok (.iload 4, 2) := by decide +kernel
theorem dX11_move_89 : decode cX11_move 89 = .ok (.if_icmp .le 8, 3) := by decide +kernel
theorem dX11_move_92 : decode cX11_move 92 = .ok (.iload 6, 2) := by decide +kernel
theorem dX11_move_94 : decode cX11_move 94 = .ok (.goto 5, 3) := by decide +kernel
theorem dX11_move_97 : decode cX11_move 97 = .ok (.iload 4, 2) := by decide +kernel
theorem dX11_move_99 : decode cX11_move 99 = .ok (.istore 4, 2) := by decide +kernel
theorem dX11_move_101 : decode cX11_move 101 = .ok (.iinc 5 1, 3) := by decide +kernel
theorem dX11_move_104 : decode cX11_move 104 = .ok (.goto (-65), 3) := by decide +kernel
theorem dX11_move_107 : decode cX11_move 107 = .ok (.iload_n 3, 1) := by decide +kernel
theorem dX11_move_108 : decode cX11_move 108 = .ok (.ireturn, 1) := by decide +kernel
abbrev cX11_fetch : ByteArray := prog_13_method_54_code
def yX11_fetch : MethodName := ⟨RX11, "fetch", "(II)I"⟩
theorem dX11_fetch_0 : decode cX11_fetch 0 = .ok (.aload_n 0, 1) := by decide +kernel
theorem dX11_fetch_1 : decode cX11_fetch 1 = .ok (.iconst 0, 1) := by decide +kernel
theorem dX11_fetch_2 : decode cX11_fetch 2 = .ok (.putfield 68, 3) := by decide +kernel
theorem dX11_fetch_5 : decode cX11_fetch 5 = .ok (.aload_n 0, 1) := by decide +kernel
theorem dX11_fetch_6 : decode cX11_fetch 6 = .ok (.iload_n 1, 1) := by decide +kernel
theorem dX11_fetch_7 : decode cX11_fetch 7 = .ok (.invokevirtual 174, 3) := by decide +kernel
theorem dX11_fetch_10 : decode cX11_fetch 10 = .ok (.ifCond .eq 15, 3) := by decide +kernel
theorem dX11_fetch_13 : decode cX11_fetch 13 = .ok (.iload_n 2, 1) := by decide +kernel
theorem dX11_fetch_14 : decode cX11_fetch 14 = .ok (.i2l, 1) := by decide +kernel
theorem dX11_fetch_15 : decode cX11_fetch 15 = .ok (.lconst 0, 1) := by decide +kernel
theorem dX11_fetch_16 : decode cX11_fetch 16 = .ok (.ldc2_w 164, 3) := by decide +kernel
theorem dX11_fetch_19 : decode cX11_fetch 19 = .ok (.invokestatic 80, 3) := by decide +kernel
theorem dX11_fetch_22 : decode cX11_fetch 22 = .ok (.ifCond .ne 5, 3) := by decide +kernel
theorem dX11_fetch_25 : decode cX11_fetch 25 = .ok (.iconst (-1), 1) := by decide +kernel
theorem dX11_fetch_26 : decode cX11_fetch 26 = .ok (.ireturn, 1) := by decide +kernel
theorem dX11_fetch_27 : decode cX11_fetch 27 = .ok (.bipush (-4), 2) := by decide +kernel
theorem dX11_fetch_29 : decode cX11_fetch 29 = .ok (.istore_n 3, 1) := by decide +kernel
theorem dX11_fetch_30 : decode cX11_fetch 30 = .ok (.aload_n 0, 1) := by decide +kernel
theorem dX11_fetch_31 : decode cX11_fetch 31 = .ok (.invokevirtual 186, 3) := by decide +kernel
theorem dX11_fetch_34 : decode cX11_fetch 34 = .ok (.aload_n 0, 1) := by decide +kernel
theorem dX11_fetch_35 : decode cX11_fetch 35 = .ok (.iload_n 2, 1) := by decide +kernel
theorem dX11_fetch_36 : decode cX11_fetch 36 = .ok (.invokevirtual 166, 3) := by decide +kernel
theorem dX11_fetch_39 : decode cX11_fetch 39 = .ok (.aload_n 0, 1) := by decide +kernel
theorem dX11_fetch_40 : decode cX11_fetch 40 = .ok (.getfield 22, 3) := by decide +kernel
theorem dX11_fetch_43 : decode cX11_fetch 43 = .ok (.iload_n 1, 1) := by decide +kernel
theorem dX11_fetch_44 : decode cX11_fetch 44 = .ok (.iaload, 1) := by decide +kernel
theorem dX11_fetch_45 : decode cX11_fetch 45 = .ok (.istore 4, 2) := by decide +kernel
theorem dX11_fetch_47 : decode cX11_fetch 47 = .ok (.aload_n 0, 1) := by decide +kernel
theorem dX11_fetch_48 : decode cX11_fetch 48 = .ok (.invokevirtual 192, 3) := by decide +kernel
theorem dX11_fetch_51 : decode cX11_fetch 51 = .ok (.iconst 0, 1) := by decide +kernel
theorem dX11_fetch_52 : decode cX11_fetch 52 = .ok (.istore 5, 2) := by decide +kernel
theorem dX11_fetch_54 : decode cX11_fetch 54 = .ok (.iload 5, 2) := by decide +kernel
theorem dX11_fetch_56 : decode cX11_fetch 56 = .ok (.aload_n 0, 1) := by decide +kernel
theorem dX11_fetch_57 : decode cX11_fetch 57 = .ok (.getfield 84, 3) := by decide +kernel
theorem dX11_fetch_60 : decode cX11_fetch 60 = .ok (.if_icmp .ge 64, 3) := by decide +kernel
theorem dX11_fetch_63 : decode cX11_fetch 63 = .ok (.aload_n 0, 1) := by decide +kernel
theorem dX11_fetch_64 : decode cX11_fetch 64 = .ok (.getfield 19, 3) := by decide +kernel
theorem dX11_fetch_67 : decode cX11_fetch 67 = .ok (.iload_n 1, 1) := by decide +kernel
theorem dX11_fetch_68 : decode cX11_fetch 68 = .ok (.iload 5, 2) := by decide +kernel
theorem dX11_fetch_70 : decode cX11_fetch 70 = .ok (.iastore, 1) := by decide +kernel
theorem dX11_fetch_71 : decode cX11_fetch 71 = .ok (.aload_n 0, 1) := by decide +kernel
theorem dX11_fetch_72 : decode cX11_fetch 72 = .ok (.iload_n 2, 1) := by decide +kernel
theorem dX11_fetch_73 : decode cX11_fetch 73 = .ok (.invokevirtual 166, 3) := by decide +kernel
theorem dX11_fetch_76 : decode cX11_fetch 76 = .ok (.aload_n 0, 1) := by decide +kernel
theorem dX11_fetch_77 : decode cX11_fetch 77 = .ok (.getfield 22, 3) := by decide +kernel
theorem dX11_fetch_80 : decode cX11_fetch 80 = .ok (.iload_n 1, 1) := by decide +kernel
theorem dX11_fetch_81 : decode cX11_fetch 81 = .ok (.iaload, 1) := by decide +kernel
theorem dX11_fetch_82 : decode cX11_fetch 82 = .ok (.istore 6, 2) := by decide +kernel
theorem dX11_fetch_84 : decode cX11_fetch 84 = .ok (.aload_n 0, 1) := by decide +kernel
theorem dX11_fetch_85 : decode cX11_fetch 85 = .ok (.invokevirtual 192, 3) := by decide +kernel
theorem dX11_fetch_88 : decode cX11_fetch 88 = .ok (.iload 6, 2) := by decide +kernel
theorem dX11_fetch_90 : decode cX11_fetch 90 = .ok (.iload 4, 2) := by decide +kernel
theorem dX11_fetch_92 : decode cX11_fetch 92 = .ok (.if_icmp .le 8, 3) := by decide +kernel
theorem dX11_fetch_95 : decode cX11_fetch 95 = .ok (.iload 5, 2) := by decide +kernel
theorem dX11_fetch_97 : decode cX11_fetch 97 = .ok (.goto 4, 3) := by decide +kernel
theorem dX11_fetch_100 : decode cX11_fetch 100 = .ok (.iload_n 3, 1) := by decide +kernel
theorem dX11_fetch_101 : decode cX11_fetch 101 = .ok (.istore_n 3, 1) := by decide +kernel
theorem dX11_fetch_102 : decode cX11_fetch 102 = .ok (.iload 6, 2) := by decide +kernel
theorem dX11_fetch_104 : decode cX11_fetch 104 = .ok (.iload 4, 2) := by decide +kernel
theorem dX11_fetch_106 : decode cX11_fetch 106 = .ok (.if_icmp .le 8, 3) := by decide +kernel
theorem dX11_fetch_109 : decode cX11_fetch 109 = .ok (.iload 6, 2) := by decide +kernel
theorem dX11_fetch_111 : decode cX11_fetch 111 = .ok (.goto 5, 3) := by decide +kernel
theorem dX11_fetch_114 : decode cX11_fetch 114 = .ok (.iload 4, 2) := by decide +kernel
theorem dX11_fetch_116 : decode cX11_fetch 116 = .ok (.istore 4, 2) := by decide +kernel
theorem dX11_fetch_118 : decode cX11_fetch 118 = .ok (.iinc 5 1, 3) := by decide +kernel
theorem dX11_fetch_121 : decode cX11_fetch 121 = .ok (.goto (-67), 3) := by decide +kernel
theorem dX11_fetch_124 : decode cX11_fetch 124 = .ok (.iload_n 3, 1) := by decide +kernel
theorem dX11_fetch_125 : decode cX11_fetch 125 = .ok (.ireturn, 1) := by decide +kernel
abbrev cX11_stepBest : ByteArray := prog_13_method_55_code
def yX11_stepBest : MethodName := ⟨RX11, "stepBest", "(I)I"⟩
theorem dX11_stepBest_0 : decode cX11_stepBest 0 = .ok (.aload_n 0, 1) := by decide +kernel
theorem dX11_stepBest_1 : decode cX11_stepBest 1 = .ok (.iconst 0, 1) := by decide +kernel
theorem dX11_stepBest_2 : decode cX11_stepBest 2 = .ok (.putfield 68, 3) := by decide +kernel
theorem dX11_stepBest_5 : decode cX11_stepBest 5 = .ok (.iload_n 1, 1) := by decide +kernel
theorem dX11_stepBest_6 : decode cX11_stepBest 6 = .ok (.i2l, 1) := by decide +kernel
theorem dX11_stepBest_7 : decode cX11_stepBest 7 = .ok (.lconst 0, 1) := by decide +kernel
theorem dX11_stepBest_8 : decode cX11_stepBest 8 = .ok (.ldc2_w 164, 3) := by decide +kernel
theorem dX11_stepBest_11 : decode cX11_stepBest 11 = .ok (.invokestatic 80, 3) := by decide +kernel
theorem dX11_stepBest_14 : decode cX11_stepBest 14 = .ok (.ifCond .ne 5, 3) := by decide +kernel
theorem dX11_stepBest_17 : decode cX11_stepBest 17 = .ok (.iconst (-1), 1) := by decide +kernel
theorem dX11_stepBest_18 : decode cX11_stepBest 18 = .ok (.ireturn, 1) := by decide +kernel
theorem dX11_stepBest_19 : decode cX11_stepBest 19 = .ok (.iconst 0, 1) := by decide +kernel
theorem dX11_stepBest_20 : decode cX11_stepBest 20 = .ok (.istore_n 2, 1) := by decide +kernel
theorem dX11_stepBest_21 : decode cX11_stepBest 21 = .ok (.iconst (-1), 1) := by decide +kernel
theorem dX11_stepBest_22 : decode cX11_stepBest 22 = .ok (.istore_n 3, 1) := by decide +kernel
theorem dX11_stepBest_23 : decode cX11_stepBest 23 = .ok (.aload_n 0, 1) := by decide +kernel
theorem dX11_stepBest_24 : decode cX11_stepBest 24 = .ok (.invokevirtual 186, 3) := by decide +kernel
theorem dX11_stepBest_27 : decode cX11_stepBest 27 = .ok (.iconst 0, 1) := by decide +kernel
theorem dX11_stepBest_28 : decode cX11_stepBest 28 = .ok (.istore 4, 2) := by decide +kernel
theorem dX11_stepBest_30 : decode cX11_stepBest 30 = .ok (.iload 4, 2) := by decide +kernel
theorem dX11_stepBest_32 : decode cX11_stepBest 32 = .ok (.bipush 6, 2) := by decide +kernel
theorem dX11_stepBest_34 : decode cX11_stepBest 34 = .ok (.if_icmp .ge 56, 3) := by decide +kernel
theorem dX11_stepBest_37 : decode cX11_stepBest 37 = .ok (.aload_n 0, 1) := by decide +kernel
theorem dX11_stepBest_38 : decode cX11_stepBest 38 = .ok (.iload 4, 2) := by decide +kernel
theorem dX11_stepBest_40 : decode cX11_stepBest 40 = .ok (.putfield 72, 3) := by decide +kernel
theorem dX11_stepBest_43 : decode cX11_stepBest 43 = .ok (.aload_n 0, 1) := by decide +kernel
theorem dX11_stepBest_44 : decode cX11_stepBest 44 = .ok (.iload_n 1, 1) := by decide +kernel
theorem dX11_stepBest_45 : decode cX11_stepBest 45 = .ok (.invokevirtual 166, 3) := by decide +kernel
theorem dX11_stepBest_48 : decode cX11_stepBest 48 = .ok (.aload_n 0, 1) := by decide +kernel
theorem dX11_stepBest_49 : decode cX11_stepBest 49 = .ok (.invokevirtual 225, 3) := by decide +kernel
theorem dX11_stepBest_52 : decode cX11_stepBest 52 = .ok (.istore 5, 2) := by decide +kernel
theorem dX11_stepBest_54 : decode cX11_stepBest 54 = .ok (.aload_n 0, 1) := by decide +kernel
theorem dX11_stepBest_55 : decode cX11_stepBest 55 = .ok (.invokevirtual 192, 3) := by decide +kernel
theorem dX11_stepBest_58 : decode cX11_stepBest 58 = .ok (.iload 5, 2) := by decide +kernel
theorem dX11_stepBest_60 : decode cX11_stepBest 60 = .ok (.iload_n 3, 1) := by decide +kernel
theorem dX11_stepBest_61 : decode cX11_stepBest 61 = .ok (.if_icmp .le 8, 3) := by decide +kernel
theorem dX11_stepBest_64 : decode cX11_stepBest 64 = .ok (.iload 4, 2) := by decide +kernel
theorem dX11_stepBest_66 : decode cX11_stepBest 66 = .ok (.goto 4, 3) := by decide +kernel
theorem dX11_stepBest_69 : decode cX11_stepBest 69 = .ok (.iload_n 2, 1) := by decide +kernel
theorem dX11_stepBest_70 : decode cX11_stepBest 70 = .ok (.istore_n 2, 1) := by decide +kernel
theorem dX11_stepBest_71 : decode cX11_stepBest 71 = .ok (.iload 5, 2) := by decide +kernel
theorem dX11_stepBest_73 : decode cX11_stepBest 73 = .ok (.iload_n 3, 1) := by decide +kernel
theorem dX11_stepBest_74 : decode cX11_stepBest 74 = .ok (.if_icmp .le 8, 3) := by decide +kernel
theorem dX11_stepBest_77 : decode cX11_stepBest 77 = .ok (.iload 5, 2) := by decide +kernel
theorem dX11_stepBest_79 : decode cX11_stepBest 79 = .ok (.goto 4, 3) := by decide +kernel
theorem dX11_stepBest_82 : decode cX11_stepBest 82 = .ok (.iload_n 3, 1) := by decide +kernel
theorem dX11_stepBest_83 : decode cX11_stepBest 83 = .ok (.istore_n 3, 1) := by decide +kernel
theorem dX11_stepBest_84 : decode cX11_stepBest 84 = .ok (.iinc 4 1, 3) := by decide +kernel
theorem dX11_stepBest_87 : decode cX11_stepBest 87 = .ok (.goto (-57), 3) := by decide +kernel
theorem dX11_stepBest_90 : decode cX11_stepBest 90 = .ok (.iload_n 2, 1) := by decide +kernel
theorem dX11_stepBest_91 : decode cX11_stepBest 91 = .ok (.ireturn, 1) := by decide +kernel
abbrev cX11_layMatch : ByteArray := prog_13_method_56_code
def yX11_layMatch : MethodName := ⟨RX11, "layMatch", "()V"⟩
theorem dX11_layMatch_0 : decode cX11_layMatch 0 = .ok (.aload_n 0, 1) := by decide +kernel
theorem dX11_layMatch_1 : decode cX11_layMatch 1 = .ok (.getfield 84, 3) := by decide +kernel
theorem dX11_layMatch_4 : decode cX11_layMatch 4 = .ok (.istore_n 1, 1) := by decide +kernel
theorem dX11_layMatch_5 : decode cX11_layMatch 5 = .ok (.iload_n 1, 1) := by decide +kernel
theorem dX11_layMatch_6 : decode cX11_layMatch 6 = .ok (.ifCond .lt 140, 3) := by decide +kernel
theorem dX11_layMatch_9 : decode cX11_layMatch 9 = .ok (.iconst 0, 1) := by decide +kernel
theorem dX11_layMatch_10 : decode cX11_layMatch 10 = .ok (.istore_n 2, 1) := by decide +kernel
theorem dX11_layMatch_11 : decode cX11_layMatch 11 = .ok (.iload_n 2, 1) := by decide +kernel
theorem dX11_layMatch_12 : decode cX11_layMatch 12 = .ok (.sipush 128, 3) := by decide +kernel
theorem dX11_layMatch_15 : decode cX11_layMatch 15 = .ok (.if_icmp .ge 125, 3) := by decide +kernel
theorem dX11_layMatch_18 : decode cX11_layMatch 18 = .ok (.iload_n 1, 1) := by decide +kernel
theorem dX11_layMatch_19 : decode cX11_layMatch 19 = .ok (.aload_n 0, 1) := by decide +kernel
theorem dX11_layMatch_20 : decode cX11_layMatch 20 = .ok (.getfield 84, 3) := by decide +kernel
theorem dX11_layMatch_23 : decode cX11_layMatch 23 = .ok (.if_icmp .ne 7, 3) := by decide +kernel
theorem dX11_layMatch_26 : decode cX11_layMatch 26 = .ok (.iconst 0, 1) := by decide +kernel
theorem dX11_layMatch_27 : decode cX11_layMatch 27 = .ok (.goto 5, 3) := by decide +kernel
theorem dX11_layMatch_30 : decode cX11_layMatch 30 = .ok (.ldc 241, 2) := by decide +kernel
theorem dX11_layMatch_32 : decode cX11_layMatch 32 = .ok (.istore_n 3, 1) := by decide +kernel
theorem dX11_layMatch_33 : decode cX11_layMatch 33 = .ok (.iconst 0, 1) := by decide +kernel
theorem dX11_layMatch_34 : decode cX11_layMatch 34 = .ok (.istore 4, 2) := by decide +kernel
theorem dX11_layMatch_36 : decode cX11_layMatch 36 = .ok (.iload 4, 2) := by decide +kernel
theorem dX11_layMatch_38 : decode cX11_layMatch 38 = .ok (.aload_n 0, 1) := by decide +kernel
theorem dX11_layMatch_39 : decode cX11_layMatch 39 = .ok (.getfield 84, 3) := by decide +kernel
theorem dX11_layMatch_42 : decode cX11_layMatch 42 = .ok (.if_icmp .ge 79, 3) := by decide +kernel
theorem dX11_layMatch_45 : decode cX11_layMatch 45 = .ok (.iload_n 1, 1) := by decide +kernel
theorem dX11_layMatch_46 : decode cX11_layMatch 46 = .ok (.aload_n 0, 1) := by decide +kernel
theorem dX11_layMatch_47 : decode cX11_layMatch 47 = .ok (.getfield 84, 3) := by decide +kernel
theorem dX11_layMatch_50 : decode cX11_layMatch 50 = .ok (.if_icmp .ge 71, 3) := by decide +kernel
theorem dX11_layMatch_53 : decode cX11_layMatch 53 = .ok (.iload 4, 2) := by decide +kernel
theorem dX11_layMatch_55 : decode cX11_layMatch 55 = .ok (.iload_n 1, 1) := by decide +kernel
theorem dX11_layMatch_56 : decode cX11_layMatch 56 = .ok (.if_icmp .eq 59, 3) := by decide +kernel
theorem dX11_layMatch_59 : decode cX11_layMatch 59 = .ok (.iload_n 2, 1) := by decide +kernel
theorem dX11_layMatch_60 : decode cX11_layMatch 60 = .ok (.iload 4, 2) := by decide +kernel
theorem dX11_layMatch_62 : decode cX11_layMatch 62 = .ok (.invokestatic 242, 3) := by decide +kernel
theorem dX11_layMatch_65 : decode cX11_layMatch 65 = .ok (.ifCond .ne 50, 3) := by decide +kernel
theorem dX11_layMatch_68 : decode cX11_layMatch 68 = .ok (.aload_n 0, 1) := by decide +kernel
theorem dX11_layMatch_69 : decode cX11_layMatch 69 = .ok (.iload_n 1, 1) := by decide +kernel
theorem dX11_layMatch_70 : decode cX11_layMatch 70 = .ok (.aload_n 0, 1) := by decide +kernel
theorem dX11_layMatch_71 : decode cX11_layMatch 71 = .ok (.getfield 16, 3) := by decide +kernel
theorem dX11_layMatch_74 : decode cX11_layMatch 74 = .ok (.iload 4, 2) := by decide +kernel
theorem dX11_layMatch_76 : decode cX11_layMatch 76 = .ok (.iaload, 1) := by decide +kernel
theorem dX11_layMatch_77 : decode cX11_layMatch 77 = .ok (.invokevirtual 104, 3) := by decide +kernel
theorem dX11_layMatch_80 : decode cX11_layMatch 80 = .ok (.aload_n 0, 1) := by decide +kernel
theorem dX11_layMatch_81 : decode cX11_layMatch 81 = .ok (.getfield 59, 3) := by decide +kernel
theorem dX11_layMatch_84 : decode cX11_layMatch 84 = .ok (.sipush 128, 3) := by decide +kernel
theorem dX11_layMatch_87 : decode cX11_layMatch 87 = .ok (.iload_n 1, 1) := by decide +kernel
theorem dX11_layMatch_88 : decode cX11_layMatch 88 = .ok (.iconst 1, 1) := by decide +kernel
theorem dX11_layMatch_89 : decode cX11_layMatch 89 = .ok (.iadd, 1) := by decide +kernel
theorem dX11_layMatch_90 : decode cX11_layMatch 90 = .ok (.imul, 1) := by decide +kernel
theorem dX11_layMatch_91 : decode cX11_layMatch 91 = .ok (.iload_n 2, 1) := by decide +kernel
theorem dX11_layMatch_92 : decode cX11_layMatch 92 = .ok (.iconst 1, 1) := by decide +kernel
theorem dX11_layMatch_93 : decode cX11_layMatch 93 = .ok (.iload 4, 2) := by decide +kernel
theorem dX11_layMatch_95 : decode cX11_layMatch 95 = .ok (.ishl, 1) := by decide +kernel
theorem dX11_layMatch_96 : decode cX11_layMatch 96 = .ok (.ior, 1) := by decide +kernel
theorem dX11_layMatch_97 : decode cX11_layMatch 97 = .ok (.iadd, 1) := by decide +kernel
theorem dX11_layMatch_98 : decode cX11_layMatch 98 = .ok (.iaload, 1) := by decide +kernel
theorem dX11_layMatch_99 : decode cX11_layMatch 99 = .ok (.iadd, 1) := by decide +kernel
theorem dX11_layMatch_100 : decode cX11_layMatch 100 = .ok (.istore 5, 2) := by decide +kernel
theorem dX11_layMatch_102 : decode cX11_layMatch 102 = .ok (.iload 5, 2) := by decide +kernel
theorem dX11_layMatch_104 : decode cX11_layMatch 104 = .ok (.iload_n 3, 1) := by decide +kernel
theorem dX11_layMatch_105 : decode cX11_layMatch 105 = .ok (.if_icmp .ge 8, 3) := by decide +kernel
theorem dX11_layMatch_108 : decode cX11_layMatch 108 = .ok (.iload 5, 2) := by decide +kernel
theorem dX11_layMatch_110 : decode cX11_layMatch 110 = .ok (.goto 4, 3) := by decide +kernel
theorem dX11_layMatch_113 : decode cX11_layMatch 113 = .ok (.iload_n 3, 1) := by decide +kernel
theorem dX11_layMatch_114 : decode cX11_layMatch 114 = .ok (.istore_n 3, 1) := by decide +kernel
theorem dX11_layMatch_115 : decode cX11_layMatch 115 = .ok (.iinc 4 1, 3) := by decide +kernel
theorem dX11_layMatch_118 : decode cX11_layMatch 118 = .ok (.goto (-82), 3) := by decide +kernel
theorem dX11_layMatch_121 : decode cX11_layMatch 121 = .ok (.aload_n 0, 1) := by decide +kernel
theorem dX11_layMatch_122 : decode cX11_layMatch 122 = .ok (.getfield 59, 3) := by decide +kernel
theorem dX11_layMatch_125 : decode cX11_layMatch 125 = .ok (.sipush 128, 3) := by decide +kernel
theorem dX11_layMatch_128 : decode cX11_layMatch 128 = .ok (.iload_n 1, 1) := by decide +kernel
theorem dX11_layMatch_129 : decode cX11_layMatch 129 = .ok (.imul, 1) := by decide +kernel
theorem dX11_layMatch_130 : decode cX11_layMatch 130 = .ok (.iload_n 2, 1) := by decide +kernel
theorem dX11_layMatch_131 : decode cX11_layMatch 131 = .ok (.iadd, 1) := by decide +kernel
theorem dX11_layMatch_132 : decode cX11_layMatch 132 = .ok (.iload_n 3, 1) := by decide +kernel
theorem dX11_layMatch_133 : decode cX11_layMatch 133 = .ok (.iastore, 1) := by decide +kernel
theorem dX11_layMatch_134 : decode cX11_layMatch 134 = .ok (.iinc 2 1, 3) := by decide +kernel
theorem dX11_layMatch_137 : decode cX11_layMatch 137 = .ok (.goto (-126), 3) := by decide +kernel
theorem dX11_layMatch_140 : decode cX11_layMatch 140 = .ok (.iinc 1 (-1), 3) := by decide +kernel
theorem dX11_layMatch_143 : decode cX11_layMatch 143 = .ok (.goto (-138), 3) := by decide +kernel
theorem dX11_layMatch_146 : decode cX11_layMatch 146 = .ok (.return_, 1) := by decide +kernel
abbrev cX11_matchOf : ByteArray := prog_13_method_57_code
def yX11_matchOf : MethodName := ⟨RX11, "matchOf", "(II)I"⟩
theorem dX11_matchOf_0 : decode cX11_matchOf 0 = .ok (.iconst 0, 1) := by decide +kernel
theorem dX11_matchOf_1 : decode cX11_matchOf 1 = .ok (.istore_n 3, 1) := by decide +kernel
theorem dX11_matchOf_2 : decode cX11_matchOf 2 = .ok (.iload_n 3, 1) := by decide +kernel
theorem dX11_matchOf_3 : decode cX11_matchOf 3 = .ok (.iload_n 1, 1) := by decide +kernel
theorem dX11_matchOf_4 : decode cX11_matchOf 4 = .ok (.if_icmp .eq 56, 3) := by decide +kernel
theorem dX11_matchOf_7 : decode cX11_matchOf 7 = .ok (.iload_n 2, 1) := by decide +kernel
theorem dX11_matchOf_8 : decode cX11_matchOf 8 = .ok (.iload_n 3, 1) := by decide +kernel
theorem dX11_matchOf_9 : decode cX11_matchOf 9 = .ok (.invokestatic 242, 3) := by decide +kernel
theorem dX11_matchOf_12 : decode cX11_matchOf 12 = .ok (.ifCond .ne 48, 3) := by decide +kernel
theorem dX11_matchOf_15 : decode cX11_matchOf 15 = .ok (.aload_n 0, 1) := by decide +kernel
theorem dX11_matchOf_16 : decode cX11_matchOf 16 = .ok (.iload_n 1, 1) := by decide +kernel
theorem dX11_matchOf_17 : decode cX11_matchOf 17 = .ok (.aload_n 0, 1) := by decide +kernel
theorem dX11_matchOf_18 : decode cX11_matchOf 18 = .ok (.getfield 16, 3) := by decide +kernel
theorem dX11_matchOf_21 : decode cX11_matchOf 21 = .ok (.iload_n 3, 1) := by decide +kernel
theorem dX11_matchOf_22 : decode cX11_matchOf 22 = .ok (.iaload, 1) := by decide +kernel
theorem dX11_matchOf_23 : decode cX11_matchOf 23 = .ok (.invokevirtual 104, 3) := by decide +kernel
theorem dX11_matchOf_26 : decode cX11_matchOf 26 = .ok (.aload_n 0, 1) := by decide +kernel
theorem dX11_matchOf_27 : decode cX11_matchOf 27 = .ok (.getfield 59, 3) := by decide +kernel
theorem dX11_matchOf_30 : decode cX11_matchOf 30 = .ok (.sipush 128, 3) := by decide +kernel
theorem dX11_matchOf_33 : decode cX11_matchOf 33 = .ok (.iload_n 1, 1) := by decide +kernel
theorem dX11_matchOf_34 : decode cX11_matchOf 34 = .ok (.iconst 1, 1) := by decide +kernel
theorem dX11_matchOf_35 : decode cX11_matchOf 35 = .ok (.iadd, 1) := by decide +kernel
theorem dX11_matchOf_36 : decode cX11_matchOf 36 = .ok (.imul, 1) := by decide +kernel
theorem dX11_matchOf_37 : decode cX11_matchOf 37 = .ok (.iload_n 2, 1) := by decide +kernel
theorem dX11_matchOf_38 : decode cX11_matchOf 38 = .ok (.iconst 1, 1) := by decide +kernel
theorem dX11_matchOf_39 : decode cX11_matchOf 39 = .ok (.iload_n 3, 1) := by decide +kernel
theorem dX11_matchOf_40 : decode cX11_matchOf 40 = .ok (.ishl, 1) := by decide +kernel
theorem dX11_matchOf_41 : decode cX11_matchOf 41 = .ok (.ior, 1) := by decide +kernel
theorem dX11_matchOf_42 : decode cX11_matchOf 42 = .ok (.iadd, 1) := by decide +kernel
theorem dX11_matchOf_43 : decode cX11_matchOf 43 = .ok (.iaload, 1) := by decide +kernel
theorem dX11_matchOf_44 : decode cX11_matchOf 44 = .ok (.iadd, 1) := by decide +kernel
theorem dX11_matchOf_45 : decode cX11_matchOf 45 = .ok (.aload_n 0, 1) := by decide +kernel
theorem dX11_matchOf_46 : decode cX11_matchOf 46 = .ok (.getfield 59, 3) := by decide +kernel
theorem dX11_matchOf_49 : decode cX11_matchOf 49 = .ok (.sipush 128, 3) := by decide +kernel
theorem dX11_matchOf_52 : decode cX11_matchOf 52 = .ok (.iload_n 1, 1) := by decide +kernel
theorem dX11_matchOf_53 : decode cX11_matchOf 53 = .ok (.imul, 1) := by decide +kernel
theorem dX11_matchOf_54 : decode cX11_matchOf 54 = .ok (.iload_n 2, 1) := by decide +kernel
theorem dX11_matchOf_55 : decode cX11_matchOf 55 = .ok (.iadd, 1) := by decide +kernel
theorem dX11_matchOf_56 : decode cX11_matchOf 56 = .ok (.iaload, 1) := by decide +kernel
theorem dX11_matchOf_57 : decode cX11_matchOf 57 = .ok (.if_icmp .eq 9, 3) := by decide +kernel
theorem dX11_matchOf_60 : decode cX11_matchOf 60 = .ok (.iinc 3 1, 3) := by decide +kernel
theorem dX11_matchOf_63 : decode cX11_matchOf 63 = .ok (.goto (-61), 3) := by decide +kernel
theorem dX11_matchOf_66 : decode cX11_matchOf 66 = .ok (.iload_n 3, 1) := by decide +kernel
theorem dX11_matchOf_67 : decode cX11_matchOf 67 = .ok (.ireturn, 1) := by decide +kernel
abbrev cX11_match : ByteArray := prog_13_method_58_code
def yX11_match : MethodName := ⟨RX11, "match", "(I)I"⟩
theorem dX11_match_0 : decode cX11_match 0 = .ok (.aload_n 0, 1) := by decide +kernel
theorem dX11_match_1 : decode cX11_match 1 = .ok (.iconst 0, 1) := by decide +kernel
theorem dX11_match_2 : decode cX11_match 2 = .ok (.putfield 68, 3) := by decide +kernel
theorem dX11_match_5 : decode cX11_match 5 = .ok (.iload_n 1, 1) := by decide +kernel
theorem dX11_match_6 : decode cX11_match 6 = .ok (.i2l, 1) := by decide +kernel
theorem dX11_match_7 : decode cX11_match 7 = .ok (.ldc2_w 233, 3) := by decide +kernel
theorem dX11_match_10 : decode cX11_match 10 = .ok (.aload_n 0, 1) := by decide +kernel
theorem dX11_match_11 : decode cX11_match 11 = .ok (.getfield 84, 3) := by decide +kernel
theorem dX11_match_14 : decode cX11_match 14 = .ok (.iconst 1, 1) := by decide +kernel
theorem dX11_match_15 : decode cX11_match 15 = .ok (.isub, 1) := by decide +kernel
theorem dX11_match_16 : decode cX11_match 16 = .ok (.i2l, 1) := by decide +kernel
theorem dX11_match_17 : decode cX11_match 17 = .ok (.invokestatic 80, 3) := by decide +kernel
theorem dX11_match_20 : decode cX11_match 20 = .ok (.ifCond .ne 5, 3) := by decide +kernel
theorem dX11_match_23 : decode cX11_match 23 = .ok (.iconst (-1), 1) := by decide +kernel
theorem dX11_match_24 : decode cX11_match 24 = .ok (.ireturn, 1) := by decide +kernel
theorem dX11_match_25 : decode cX11_match 25 = .ok (.aload_n 0, 1) := by decide +kernel
theorem dX11_match_26 : decode cX11_match 26 = .ok (.getfield 84, 3) := by decide +kernel
theorem dX11_match_29 : decode cX11_match 29 = .ok (.iconst 2, 1) := by decide +kernel
theorem dX11_match_30 : decode cX11_match 30 = .ok (.if_icmp .ge 6, 3) := by decide +kernel
theorem dX11_match_33 : decode cX11_match 33 = .ok (.bipush (-4), 2) := by decide +kernel
theorem dX11_match_35 : decode cX11_match 35 = .ok (.ireturn, 1) := by decide +kernel
theorem dX11_match_36 : decode cX11_match 36 = .ok (.aload_n 0, 1) := by decide +kernel
theorem dX11_match_37 : decode cX11_match 37 = .ok (.invokevirtual 246, 3) := by decide +kernel
theorem dX11_match_40 : decode cX11_match 40 = .ok (.iconst 0, 1) := by decide +kernel
theorem dX11_match_41 : decode cX11_match 41 = .ok (.istore_n 2, 1) := by decide +kernel
theorem dX11_match_42 : decode cX11_match 42 = .ok (.aload_n 0, 1) := by decide +kernel
theorem dX11_match_43 : decode cX11_match 43 = .ok (.getfield 59, 3) := by decide +kernel
theorem dX11_match_46 : decode cX11_match 46 = .ok (.iconst 0, 1) := by decide +kernel
theorem dX11_match_47 : decode cX11_match 47 = .ok (.iaload, 1) := by decide +kernel
theorem dX11_match_48 : decode cX11_match 48 = .ok (.istore_n 3, 1) := by decide +kernel
theorem dX11_match_49 : decode cX11_match 49 = .ok (.iconst 0, 1) := by decide +kernel
theorem dX11_match_50 : decode cX11_match 50 = .ok (.istore 4, 2) := by decide +kernel
theorem dX11_match_52 : decode cX11_match 52 = .ok (.iload 4, 2) := by decide +kernel
theorem dX11_match_54 : decode cX11_match 54 = .ok (.iload_n 1, 1) := by decide +kernel
theorem dX11_match_55 : decode cX11_match 55 = .ok (.if_icmp .gt 23, 3) := by decide +kernel
theorem dX11_match_58 : decode cX11_match 58 = .ok (.aload_n 0, 1) := by decide +kernel
theorem dX11_match_59 : decode cX11_match 59 = .ok (.iload 4, 2) := by decide +kernel
theorem dX11_match_61 : decode cX11_match 61 = .ok (.iload_n 2, 1) := by decide +kernel
theorem dX11_match_62 : decode cX11_match 62 = .ok (.invokevirtual 249, 3) := by decide +kernel
theorem dX11_match_65 : decode cX11_match 65 = .ok (.istore_n 3, 1) := by decide +kernel
theorem dX11_match_66 : decode cX11_match 66 = .ok (.iload_n 2, 1) := by decide +kernel
theorem dX11_match_67 : decode cX11_match 67 = .ok (.iconst 1, 1) := by decide +kernel
theorem dX11_match_68 : decode cX11_match 68 = .ok (.iload_n 3, 1) := by decide +kernel
theorem dX11_match_69 : decode cX11_match 69 = .ok (.ishl, 1) := by decide +kernel
theorem dX11_match_70 : decode cX11_match 70 = .ok (.ior, 1) := by decide +kernel
theorem dX11_match_71 : decode cX11_match 71 = .ok (.istore_n 2, 1) := by decide +kernel
theorem dX11_match_72 : decode cX11_match 72 = .ok (.iinc 4 1, 3) := by decide +kernel
theorem dX11_match_75 : decode cX11_match 75 = .ok (.goto (-23), 3) := by decide +kernel
theorem dX11_match_78 : decode cX11_match 78 = .ok (.iload_n 3, 1) := by decide +kernel
theorem dX11_match_79 : decode cX11_match 79 = .ok (.ireturn, 1) := by decide +kernel
abbrev cX11_hungryMany : ByteArray := prog_13_method_59_code
def yX11_hungryMany : MethodName := ⟨RX11, "hungryMany", "()I"⟩
theorem dX11_hungryMany_0 : decode cX11_hungryMany 0 = .ok (.iconst 0, 1) := by decide +kernel
theorem dX11_hungryMany_1 : decode cX11_hungryMany 1 = .ok (.istore_n 1, 1) := by decide +kernel
theorem dX11_hungryMany_2 : decode cX11_hungryMany 2 = .ok (.iconst 0, 1) := by decide +kernel
theorem dX11_hungryMany_3 : decode cX11_hungryMany 3 = .ok (.istore_n 2, 1) := by decide +kernel
theorem dX11_hungryMany_4 : decode cX11_hungryMany 4 = .ok (.iload_n 2, 1) := by decide +kernel
theorem dX11_hungryMany_5 : decode cX11_hungryMany 5 = .ok (.aload_n 0, 1) := by decide +kernel
theorem dX11_hungryMany_6 : decode cX11_hungryMany 6 = .ok (.getfield 84, 3) := by decide +kernel
theorem dX11_hungryMany_9 : decode cX11_hungryMany 9 = .ok (.if_icmp .ge 26, 3) := by decide +kernel
theorem dX11_hungryMany_12 : decode cX11_hungryMany 12 = .ok (.iload_n 1, 1) := by decide +kernel
theorem dX11_hungryMany_13 : decode cX11_hungryMany 13 = .ok (.aload_n 0, 1) := by decide +kernel
theorem dX11_hungryMany_14 : decode cX11_hungryMany 14 = .ok (.getfield 22, 3) := by decide +kernel
theorem dX11_hungryMany_17 : decode cX11_hungryMany 17 = .ok (.iload_n 2, 1) := by decide +kernel
theorem dX11_hungryMany_18 : decode cX11_hungryMany 18 = .ok (.iaload, 1) := by decide +kernel
theorem dX11_hungryMany_19 : decode cX11_hungryMany 19 = .ok (.ifCond .ne 7, 3) := by decide +kernel
theorem dX11_hungryMany_22 : decode cX11_hungryMany 22 = .ok (.iconst 1, 1) := by decide +kernel
theorem dX11_hungryMany_23 : decode cX11_hungryMany 23 = .ok (.goto 4, 3) := by decide +kernel
theorem dX11_hungryMany_26 : decode cX11_hungryMany 26 = .ok (.iconst 0, 1) := by decide +kernel
theorem dX11_hungryMany_27 : decode cX11_hungryMany 27 = .ok (.iadd, 1) := by decide +kernel
theorem dX11_hungryMany_28 : decode cX11_hungryMany 28 = .ok (.istore_n 1, 1) := by decide +kernel
theorem dX11_hungryMany_29 : decode cX11_hungryMany 29 = .ok (.iinc 2 1, 3) := by decide +kernel
theorem dX11_hungryMany_32 : decode cX11_hungryMany 32 = .ok (.goto (-28), 3) := by decide +kernel
theorem dX11_hungryMany_35 : decode cX11_hungryMany 35 = .ok (.iload_n 1, 1) := by decide +kernel
theorem dX11_hungryMany_36 : decode cX11_hungryMany 36 = .ok (.ireturn, 1) := by decide +kernel
abbrev cX11_feed : ByteArray := prog_13_method_60_code
def yX11_feed : MethodName := ⟨RX11, "feed", "(I)I"⟩
theorem dX11_feed_0 : decode cX11_feed 0 = .ok (.aload_n 0, 1) := by decide +kernel
theorem dX11_feed_1 : decode cX11_feed 1 = .ok (.iconst 0, 1) := by decide +kernel
theorem dX11_feed_2 : decode cX11_feed 2 = .ok (.putfield 68, 3) := by decide +kernel
theorem dX11_feed_5 : decode cX11_feed 5 = .ok (.iload_n 1, 1) := by decide +kernel
theorem dX11_feed_6 : decode cX11_feed 6 = .ok (.i2l, 1) := by decide +kernel
theorem dX11_feed_7 : decode cX11_feed 7 = .ok (.lconst 0, 1) := by decide +kernel
theorem dX11_feed_8 : decode cX11_feed 8 = .ok (.ldc2_w 164, 3) := by decide +kernel
theorem dX11_feed_11 : decode cX11_feed 11 = .ok (.invokestatic 80, 3) := by decide +kernel
theorem dX11_feed_14 : decode cX11_feed 14 = .ok (.ifCond .ne 5, 3) := by decide +kernel
theorem dX11_feed_17 : decode cX11_feed 17 = .ok (.iconst (-1), 1) := by decide +kernel
theorem dX11_feed_18 : decode cX11_feed 18 = .ok (.ireturn, 1) := by decide +kernel
theorem dX11_feed_19 : decode cX11_feed 19 = .ok (.bipush (-4), 2) := by decide +kernel
theorem dX11_feed_21 : decode cX11_feed 21 = .ok (.istore_n 2, 1) := by decide +kernel
theorem dX11_feed_22 : decode cX11_feed 22 = .ok (.aload_n 0, 1) := by decide +kernel
theorem dX11_feed_23 : decode cX11_feed 23 = .ok (.invokevirtual 186, 3) := by decide +kernel
theorem dX11_feed_26 : decode cX11_feed 26 = .ok (.aload_n 0, 1) := by decide +kernel
theorem dX11_feed_27 : decode cX11_feed 27 = .ok (.iload_n 1, 1) := by decide +kernel
theorem dX11_feed_28 : decode cX11_feed 28 = .ok (.invokevirtual 166, 3) := by decide +kernel
theorem dX11_feed_31 : decode cX11_feed 31 = .ok (.aload_n 0, 1) := by decide +kernel
theorem dX11_feed_32 : decode cX11_feed 32 = .ok (.invokevirtual 252, 3) := by decide +kernel
theorem dX11_feed_35 : decode cX11_feed 35 = .ok (.istore_n 3, 1) := by decide +kernel
theorem dX11_feed_36 : decode cX11_feed 36 = .ok (.aload_n 0, 1) := by decide +kernel
theorem dX11_feed_37 : decode cX11_feed 37 = .ok (.invokevirtual 192, 3) := by decide +kernel
theorem dX11_feed_40 : decode cX11_feed 40 = .ok (.iconst 0, 1) := by decide +kernel
theorem dX11_feed_41 : decode cX11_feed 41 = .ok (.istore 4, 2) := by decide +kernel
theorem dX11_feed_43 : decode cX11_feed 43 = .ok (.iload 4, 2) := by decide +kernel
theorem dX11_feed_45 : decode cX11_feed 45 = .ok (.aload_n 0, 1) := by decide +kernel
theorem dX11_feed_46 : decode cX11_feed 46 = .ok (.getfield 84, 3) := by decide +kernel
theorem dX11_feed_49 : decode cX11_feed 49 = .ok (.if_icmp .ge 72, 3) := by decide +kernel
theorem dX11_feed_52 : decode cX11_feed 52 = .ok (.aload_n 0, 1) := by decide +kernel
theorem dX11_feed_53 : decode cX11_feed 53 = .ok (.getfield 22, 3) := by decide +kernel
theorem dX11_feed_56 : decode cX11_feed 56 = .ok (.iload 4, 2) := by decide +kernel
theorem dX11_feed_58 : decode cX11_feed 58 = .ok (.aload_n 0, 1) := by decide +kernel
theorem dX11_feed_59 : decode cX11_feed 59 = .ok (.getfield 22, 3) := by decide +kernel
theorem dX11_feed_62 : decode cX11_feed 62 = .ok (.iload 4, 2) := by decide +kernel
theorem dX11_feed_64 : decode cX11_feed 64 = .ok (.iaload, 1) := by decide +kernel
theorem dX11_feed_65 : decode cX11_feed 65 = .ok (.bipush 20, 2) := by decide +kernel
theorem dX11_feed_67 : decode cX11_feed 67 = .ok (.iadd, 1) := by decide +kernel
theorem dX11_feed_68 : decode cX11_feed 68 = .ok (.bipush 99, 2) := by decide +kernel
theorem dX11_feed_70 : decode cX11_feed 70 = .ok (.invokestatic 94, 3) := by decide +kernel
theorem dX11_feed_73 : decode cX11_feed 73 = .ok (.iastore, 1) := by decide +kernel
theorem dX11_feed_74 : decode cX11_feed 74 = .ok (.aload_n 0, 1) := by decide +kernel
theorem dX11_feed_75 : decode cX11_feed 75 = .ok (.iload_n 1, 1) := by decide +kernel
theorem dX11_feed_76 : decode cX11_feed 76 = .ok (.invokevirtual 166, 3) := by decide +kernel
theorem dX11_feed_79 : decode cX11_feed 79 = .ok (.aload_n 0, 1) := by decide +kernel
theorem dX11_feed_80 : decode cX11_feed 80 = .ok (.invokevirtual 252, 3) := by decide +kernel
theorem dX11_feed_83 : decode cX11_feed 83 = .ok (.istore 5, 2) := by decide +kernel
theorem dX11_feed_85 : decode cX11_feed 85 = .ok (.aload_n 0, 1) := by decide +kernel
theorem dX11_feed_86 : decode cX11_feed 86 = .ok (.invokevirtual 192, 3) := by decide +kernel
theorem dX11_feed_89 : decode cX11_feed 89 = .ok (.iload 5, 2) := by decide +kernel
theorem dX11_feed_91 : decode cX11_feed 91 = .ok (.iload_n 3, 1) := by decide +kernel
theorem dX11_feed_92 : decode cX11_feed 92 = .ok (.if_icmp .ge 8, 3) := by decide +kernel
theorem dX11_feed_95 : decode cX11_feed 95 = .ok (.iload 4, 2) := by decide +kernel
theorem dX11_feed_97 : decode cX11_feed 97 = .ok (.goto 4, 3) := by decide +kernel
theorem dX11_feed_100 : decode cX11_feed 100 = .ok (.iload_n 2, 1) := by decide +kernel
theorem dX11_feed_101 : decode cX11_feed 101 = .ok (.istore_n 2, 1) := by decide +kernel
theorem dX11_feed_102 : decode cX11_feed 102 = .ok (.iload 5, 2) := by decide +kernel
theorem dX11_feed_104 : decode cX11_feed 104 = .ok (.iload_n 3, 1) := by decide +kernel
theorem dX11_feed_105 : decode cX11_feed 105 = .ok (.if_icmp .ge 8, 3) := by decide +kernel
theorem dX11_feed_108 : decode cX11_feed 108 = .ok (.iload 5, 2) := by decide +kernel
theorem dX11_feed_110 : decode cX11_feed 110 = .ok (.goto 4, 3) := by decide +kernel
theorem dX11_feed_113 : decode cX11_feed 113 = .ok (.iload_n 3, 1) := by decide +kernel
theorem dX11_feed_114 : decode cX11_feed 114 = .ok (.istore_n 3, 1) := by decide +kernel
theorem dX11_feed_115 : decode cX11_feed 115 = .ok (.iinc 4 1, 3) := by decide +kernel
theorem dX11_feed_118 : decode cX11_feed 118 = .ok (.goto (-75), 3) := by decide +kernel
theorem dX11_feed_121 : decode cX11_feed 121 = .ok (.iload_n 2, 1) := by decide +kernel
theorem dX11_feed_122 : decode cX11_feed 122 = .ok (.ireturn, 1) := by decide +kernel
abbrev cX11_shade : ByteArray := prog_13_method_61_code
def yX11_shade : MethodName := ⟨RX11, "shade", "(I)I"⟩
theorem dX11_shade_0 : decode cX11_shade 0 = .ok (.aload_n 0, 1) := by decide +kernel
theorem dX11_shade_1 : decode cX11_shade 1 = .ok (.iconst 0, 1) := by decide +kernel
theorem dX11_shade_2 : decode cX11_shade 2 = .ok (.putfield 68, 3) := by decide +kernel
theorem dX11_shade_5 : decode cX11_shade 5 = .ok (.iload_n 1, 1) := by decide +kernel
theorem dX11_shade_6 : decode cX11_shade 6 = .ok (.i2l, 1) := by decide +kernel
theorem dX11_shade_7 : decode cX11_shade 7 = .ok (.lconst 0, 1) := by decide +kernel
theorem dX11_shade_8 : decode cX11_shade 8 = .ok (.ldc2_w 219, 3) := by decide +kernel
theorem dX11_shade_11 : decode cX11_shade 11 = .ok (.invokestatic 80, 3) := by decide +kernel
theorem dX11_shade_14 : decode cX11_shade 14 = .ok (.ifCond .ne 5, 3) := by decide +kernel
theorem dX11_shade_17 : decode cX11_shade 17 = .ok (.iconst (-1), 1) := by decide +kernel
theorem dX11_shade_18 : decode cX11_shade 18 = .ok (.ireturn, 1) := by decide +kernel
theorem dX11_shade_19 : decode cX11_shade 19 = .ok (.iconst 0, 1) := by decide +kernel
theorem dX11_shade_20 : decode cX11_shade 20 = .ok (.istore_n 2, 1) := by decide +kernel
theorem dX11_shade_21 : decode cX11_shade 21 = .ok (.iconst 0, 1) := by decide +kernel
theorem dX11_shade_22 : decode cX11_shade 22 = .ok (.istore_n 3, 1) := by decide +kernel
theorem dX11_shade_23 : decode cX11_shade 23 = .ok (.iload_n 3, 1) := by decide +kernel
theorem dX11_shade_24 : decode cX11_shade 24 = .ok (.aload_n 0, 1) := by decide +kernel
theorem dX11_shade_25 : decode cX11_shade 25 = .ok (.getfield 84, 3) := by decide +kernel
theorem dX11_shade_28 : decode cX11_shade 28 = .ok (.if_icmp .ge 36, 3) := by decide +kernel
theorem dX11_shade_31 : decode cX11_shade 31 = .ok (.iload_n 2, 1) := by decide +kernel
theorem dX11_shade_32 : decode cX11_shade 32 = .ok (.aload_n 0, 1) := by decide +kernel
theorem dX11_shade_33 : decode cX11_shade 33 = .ok (.getfield 16, 3) := by decide +kernel
theorem dX11_shade_36 : decode cX11_shade 36 = .ok (.iload_n 3, 1) := by decide +kernel
theorem dX11_shade_37 : decode cX11_shade 37 = .ok (.iaload, 1) := by decide +kernel
theorem dX11_shade_38 : decode cX11_shade 38 = .ok (.aload_n 0, 1) := by decide +kernel
theorem dX11_shade_39 : decode cX11_shade 39 = .ok (.getfield 91, 3) := by decide +kernel
theorem dX11_shade_42 : decode cX11_shade 42 = .ok (.invokestatic 87, 3) := by decide +kernel
theorem dX11_shade_45 : decode cX11_shade 45 = .ok (.iload_n 1, 1) := by decide +kernel
theorem dX11_shade_46 : decode cX11_shade 46 = .ok (.if_icmp .gt 9, 3) := by decide +kernel
theorem dX11_shade_49 : decode cX11_shade 49 = .ok (.iconst 1, 1) := by decide +kernel
theorem dX11_shade_50 : decode cX11_shade 50 = .ok (.iload_n 3, 1) := by decide +kernel
theorem dX11_shade_51 : decode cX11_shade 51 = .ok (.ishl, 1) := by decide +kernel
theorem dX11_shade_52 : decode cX11_shade 52 = .ok (.goto 4, 3) := by decide +kernel
theorem dX11_shade_55 : decode cX11_shade 55 = .ok (.iconst 0, 1) := by decide +kernel
theorem dX11_shade_56 : decode cX11_shade 56 = .ok (.ior, 1) := by decide +kernel
theorem dX11_shade_57 : decode cX11_shade 57 = .ok (.istore_n 2, 1) := by decide +kernel
theorem dX11_shade_58 : decode cX11_shade 58 = .ok (.iinc 3 1, 3) := by decide +kernel
theorem dX11_shade_61 : decode cX11_shade 61 = .ok (.goto (-38), 3) := by decide +kernel
theorem dX11_shade_64 : decode cX11_shade 64 = .ok (.iload_n 2, 1) := by decide +kernel
theorem dX11_shade_65 : decode cX11_shade 65 = .ok (.ireturn, 1) := by decide +kernel
abbrev cX11_frontierTwos : ByteArray := prog_13_method_62_code
def yX11_frontierTwos : MethodName := ⟨RX11, "frontierTwos", "()I"⟩
theorem dX11_frontierTwos_0 : decode cX11_frontierTwos 0 = .ok (.iconst 0, 1) := by decide +kernel
theorem dX11_frontierTwos_1 : decode cX11_frontierTwos 1 = .ok (.istore_n 1, 1) := by decide +kernel
theorem dX11_frontierTwos_2 : decode cX11_frontierTwos 2 = .ok (.iconst 0, 1) := by decide +kernel
theorem dX11_frontierTwos_3 : decode cX11_frontierTwos 3 = .ok (.istore_n 2, 1) := by decide +kernel
theorem dX11_frontierTwos_4 : decode cX11_frontierTwos 4 = .ok (.iload_n 2, 1) := by decide +kernel
theorem dX11_frontierTwos_5 : decode cX11_frontierTwos 5 = .ok (.aload_n 0, 1) := by decide +kernel
theorem dX11_frontierTwos_6 : decode cX11_frontierTwos 6 = .ok (.getfield 84, 3) := by decide +kernel
theorem dX11_frontierTwos_9 : decode cX11_frontierTwos 9 = .ok (.if_icmp .ge 91, 3) := by decide +kernel
theorem dX11_frontierTwos_12 : decode cX11_frontierTwos 12 = .ok (.iload_n 2, 1) := by decide +kernel
theorem dX11_frontierTwos_13 : decode cX11_frontierTwos 13 = .ok (.iconst 1, 1) := by decide +kernel
theorem dX11_frontierTwos_14 : decode cX11_frontierTwos 14 = .ok (.iadd, 1) := by decide +kernel
theorem dX11_frontierTwos_15 : decode cX11_frontierTwos 15 = .ok (.istore_n 3, 1) := by decide +kernel
theorem dX11_frontierTwos_16 : decode cX11_frontierTwos 16 = .ok (.iload_n 3, 1) := by decide +kernel
theorem dX11_frontierTwos_17 : decode cX11_frontierTwos 17 = .ok (.aload_n 0, 1) := by decide +kernel
theorem dX11_frontierTwos_18 : decode cX11_frontierTwos 18 = .ok (.getfield 84, 3) := by decide +kernel
theorem dX11_frontierTwos_21 : decode cX11_frontierTwos 21 = .ok (.if_icmp .ge 73, 3) := by decide +kernel
theorem dX11_frontierTwos_24 : decode cX11_frontierTwos 24 = .ok (.aload_n 0, 1) := by decide +kernel
theorem dX11_frontierTwos_25 : decode cX11_frontierTwos 25 = .ok (.getfield 16, 3) := by decide +kernel
theorem dX11_frontierTwos_28 : decode cX11_frontierTwos 28 = .ok (.iload_n 2, 1) := by decide +kernel
theorem dX11_frontierTwos_29 : decode cX11_frontierTwos 29 = .ok (.iaload, 1) := by decide +kernel
theorem dX11_frontierTwos_30 : decode cX11_frontierTwos 30 = .ok (.aload_n 0, 1) := by decide +kernel
theorem dX11_frontierTwos_31 : decode cX11_frontierTwos 31 = .ok (.getfield 16, 3) := by decide +kernel
theorem dX11_frontierTwos_34 : decode cX11_frontierTwos 34 = .ok (.iload_n 3, 1) := by decide +kernel
theorem dX11_frontierTwos_35 : decode cX11_frontierTwos 35 = .ok (.iaload, 1) := by decide +kernel
theorem dX11_frontierTwos_36 : decode cX11_frontierTwos 36 = .ok (.invokestatic 87, 3) := by decide +kernel
theorem dX11_frontierTwos_39 : decode cX11_frontierTwos 39 = .ok (.istore 4, 2) := by decide +kernel
theorem dX11_frontierTwos_41 : decode cX11_frontierTwos 41 = .ok (.iload_n 1, 1) := by decide +kernel
theorem dX11_frontierTwos_42 : decode cX11_frontierTwos 42 = .ok (.iload 4, 2) := by decide +kernel
theorem dX11_frontierTwos_44 : decode cX11_frontierTwos 44 = .ok (.bipush 6, 2) := by decide +kernel
theorem dX11_frontierTwos_46 : decode cX11_frontierTwos 46 = .ok (.if_icmp .eq 39, 3) := by decide +kernel
theorem dX11_frontierTwos_49 : decode cX11_frontierTwos 49 = .ok (.aload_n 0, 1) := by decide +kernel
theorem dX11_frontierTwos_50 : decode cX11_frontierTwos 50 = .ok (.getfield 16, 3) := by decide +kernel
theorem dX11_frontierTwos_53 : decode cX11_frontierTwos 53 = .ok (.iload_n 2, 1) := by decide +kernel
theorem dX11_frontierTwos_54 : decode cX11_frontierTwos 54 = .ok (.iaload, 1) := by decide +kernel
theorem dX11_frontierTwos_55 : decode cX11_frontierTwos 55 = .ok (.aload_n 0, 1) := by decide +kernel
theorem dX11_frontierTwos_56 : decode cX11_frontierTwos 56 = .ok (.getfield 91, 3) := by decide +kernel
theorem dX11_frontierTwos_59 : decode cX11_frontierTwos 59 = .ok (.invokestatic 87, 3) := by decide +kernel
theorem dX11_frontierTwos_62 : decode cX11_frontierTwos 62 = .ok (.aload_n 0, 1) := by decide +kernel
theorem dX11_frontierTwos_63 : decode cX11_frontierTwos 63 = .ok (.getfield 91, 3) := by decide +kernel
theorem dX11_frontierTwos_66 : decode cX11_frontierTwos 66 = .ok (.aload_n 0, 1) := by decide +kernel
theorem dX11_frontierTwos_67 : decode cX11_frontierTwos 67 = .ok (.getfield 16, 3) := by decide +kernel
theorem dX11_frontierTwos_70 : decode cX11_frontierTwos 70 = .ok (.iload_n 3, 1) := by decide +kernel
theorem dX11_frontierTwos_71 : decode cX11_frontierTwos 71 = .ok (.iaload, 1) := by decide +kernel
theorem dX11_frontierTwos_72 : decode cX11_frontierTwos 72 = .ok (.invokestatic 87, 3) := by decide +kernel
theorem dX11_frontierTwos_75 : decode cX11_frontierTwos 75 = .ok (.iadd, 1) := by decide +kernel
theorem dX11_frontierTwos_76 : decode cX11_frontierTwos 76 = .ok (.iload 4, 2) := by decide +kernel
theorem dX11_frontierTwos_78 : decode cX11_frontierTwos 78 = .ok (.if_icmp .ne 7, 3) := by decide +kernel
theorem dX11_frontierTwos_81 : decode cX11_frontierTwos 81 = .ok (.iconst 1, 1) := by decide +kernel
theorem dX11_frontierTwos_82 : decode cX11_frontierTwos 82 = .ok (.goto 4, 3) := by decide +kernel
theorem dX11_frontierTwos_85 : decode cX11_frontierTwos 85 = .ok (.iconst 0, 1) := by decide +kernel
theorem dX11_frontierTwos_86 : decode cX11_frontierTwos 86 = .ok (.iadd, 1) := by decide +kernel
theorem dX11_frontierTwos_87 : decode cX11_frontierTwos 87 = .ok (.istore_n 1, 1) := by decide +kernel
theorem dX11_frontierTwos_88 : decode cX11_frontierTwos 88 = .ok (.iinc 3 1, 3) := by decide +kernel
theorem dX11_frontierTwos_91 : decode cX11_frontierTwos 91 = .ok (.goto (-75), 3) := by decide +kernel
theorem dX11_frontierTwos_94 : decode cX11_frontierTwos 94 = .ok (.iinc 2 1, 3) := by decide +kernel
theorem dX11_frontierTwos_97 : decode cX11_frontierTwos 97 = .ok (.goto (-93), 3) := by decide +kernel
theorem dX11_frontierTwos_100 : decode cX11_frontierTwos 100 = .ok (.iload_n 1, 1) := by decide +kernel
theorem dX11_frontierTwos_101 : decode cX11_frontierTwos 101 = .ok (.ireturn, 1) := by decide +kernel
abbrev cX11_chainOf : ByteArray := prog_13_method_63_code
def yX11_chainOf : MethodName := ⟨RX11, "chainOf", "(I)I"⟩
theorem dX11_chainOf_0 : decode cX11_chainOf 0 = .ok (.iconst 0, 1) := by decide +kernel
theorem dX11_chainOf_1 : decode cX11_chainOf 1 = .ok (.istore_n 2, 1) := by decide +kernel
theorem dX11_chainOf_2 : decode cX11_chainOf 2 = .ok (.iconst 0, 1) := by decide +kernel
theorem dX11_chainOf_3 : decode cX11_chainOf 3 = .ok (.istore_n 3, 1) := by decide +kernel
theorem dX11_chainOf_4 : decode cX11_chainOf 4 = .ok (.iload_n 1, 1) := by decide +kernel
theorem dX11_chainOf_5 : decode cX11_chainOf 5 = .ok (.istore 4, 2) := by decide +kernel
theorem dX11_chainOf_7 : decode cX11_chainOf 7 = .ok (.iload 4, 2) := by decide +kernel
theorem dX11_chainOf_9 : decode cX11_chainOf 9 = .ok (.aload_n 0, 1) := by decide +kernel
theorem dX11_chainOf_10 : decode cX11_chainOf 10 = .ok (.getfield 84, 3) := by decide +kernel
theorem dX11_chainOf_13 : decode cX11_chainOf 13 = .ok (.if_icmp .ge 34, 3) := by decide +kernel
theorem dX11_chainOf_16 : decode cX11_chainOf 16 = .ok (.iload_n 2, 1) := by decide +kernel
theorem dX11_chainOf_17 : decode cX11_chainOf 17 = .ok (.iload 4, 2) := by decide +kernel
theorem dX11_chainOf_19 : decode cX11_chainOf 19 = .ok (.invokestatic 242, 3) := by decide +kernel
theorem dX11_chainOf_22 : decode cX11_chainOf 22 = .ok (.ifCond .ne 25, 3) := by decide +kernel
theorem dX11_chainOf_25 : decode cX11_chainOf 25 = .ok (.iload_n 2, 1) := by decide +kernel
theorem dX11_chainOf_26 : decode cX11_chainOf 26 = .ok (.iconst 1, 1) := by decide +kernel
theorem dX11_chainOf_27 : decode cX11_chainOf 27 = .ok (.iload 4, 2) := by decide +kernel
theorem dX11_chainOf_29 : decode cX11_chainOf 29 = .ok (.ishl, 1) := by decide +kernel
theorem dX11_chainOf_30 : decode cX11_chainOf 30 = .ok (.ior, 1) := by decide +kernel
theorem dX11_chainOf_31 : decode cX11_chainOf 31 = .ok (.istore_n 2, 1) := by decide +kernel
theorem dX11_chainOf_32 : decode cX11_chainOf 32 = .ok (.iinc 3 1, 3) := by decide +kernel
theorem dX11_chainOf_35 : decode cX11_chainOf 35 = .ok (.aload_n 0, 1) := by decide +kernel
theorem dX11_chainOf_36 : decode cX11_chainOf 36 = .ok (.getfield 19, 3) := by decide +kernel
theorem dX11_chainOf_39 : decode cX11_chainOf 39 = .ok (.iload 4, 2) := by decide +kernel
theorem dX11_chainOf_41 : decode cX11_chainOf 41 = .ok (.iaload, 1) := by decide +kernel
theorem dX11_chainOf_42 : decode cX11_chainOf 42 = .ok (.istore 4, 2) := by decide +kernel
theorem dX11_chainOf_44 : decode cX11_chainOf 44 = .ok (.goto (-37), 3) := by decide +kernel
theorem dX11_chainOf_47 : decode cX11_chainOf 47 = .ok (.iload_n 3, 1) := by decide +kernel
theorem dX11_chainOf_48 : decode cX11_chainOf 48 = .ok (.ireturn, 1) := by decide +kernel
abbrev cX11_jam : ByteArray := prog_13_method_64_code
def yX11_jam : MethodName := ⟨RX11, "jam", "(I)I"⟩
theorem dX11_jam_0 : decode cX11_jam 0 = .ok (.aload_n 0, 1) := by decide +kernel
theorem dX11_jam_1 : decode cX11_jam 1 = .ok (.iconst 0, 1) := by decide +kernel
theorem dX11_jam_2 : decode cX11_jam 2 = .ok (.putfield 68, 3) := by decide +kernel
theorem dX11_jam_5 : decode cX11_jam 5 = .ok (.iconst 0, 1) := by decide +kernel
theorem dX11_jam_6 : decode cX11_jam 6 = .ok (.istore_n 2, 1) := by decide +kernel
theorem dX11_jam_7 : decode cX11_jam 7 = .ok (.iconst 0, 1) := by decide +kernel
theorem dX11_jam_8 : decode cX11_jam 8 = .ok (.istore_n 3, 1) := by decide +kernel
theorem dX11_jam_9 : decode cX11_jam 9 = .ok (.iconst 0, 1) := by decide +kernel
theorem dX11_jam_10 : decode cX11_jam 10 = .ok (.istore 4, 2) := by decide +kernel
theorem dX11_jam_12 : decode cX11_jam 12 = .ok (.iload 4, 2) := by decide +kernel
theorem dX11_jam_14 : decode cX11_jam 14 = .ok (.aload_n 0, 1) := by decide +kernel
theorem dX11_jam_15 : decode cX11_jam 15 = .ok (.getfield 84, 3) := by decide +kernel
theorem dX11_jam_18 : decode cX11_jam 18 = .ok (.if_icmp .ge 56, 3) := by decide +kernel
theorem dX11_jam_21 : decode cX11_jam 21 = .ok (.iload_n 2, 1) := by decide +kernel
theorem dX11_jam_22 : decode cX11_jam 22 = .ok (.aload_n 0, 1) := by decide +kernel
theorem dX11_jam_23 : decode cX11_jam 23 = .ok (.iload 4, 2) := by decide +kernel
theorem dX11_jam_25 : decode cX11_jam 25 = .ok (.invokevirtual 111, 3) := by decide +kernel
theorem dX11_jam_28 : decode cX11_jam 28 = .ok (.ifCond .eq 16, 3) := by decide +kernel
theorem dX11_jam_31 : decode cX11_jam 31 = .ok (.aload_n 0, 1) := by decide +kernel
theorem dX11_jam_32 : decode cX11_jam 32 = .ok (.iload 4, 2) := by decide +kernel
theorem dX11_jam_34 : decode cX11_jam 34 = .ok (.invokevirtual 120, 3) := by decide +kernel
theorem dX11_jam_37 : decode cX11_jam 37 = .ok (.ifCond .eq 7, 3) := by decide +kernel
theorem dX11_jam_40 : decode cX11_jam 40 = .ok (.iconst 1, 1) := by decide +kernel
theorem dX11_jam_41 : decode cX11_jam 41 = .ok (.goto 4, 3) := by decide +kernel
theorem dX11_jam_44 : decode cX11_jam 44 = .ok (.iconst 0, 1) := by decide +kernel
theorem dX11_jam_45 : decode cX11_jam 45 = .ok (.iadd, 1) := by decide +kernel
theorem dX11_jam_46 : decode cX11_jam 46 = .ok (.istore_n 2, 1) := by decide +kernel
theorem dX11_jam_47 : decode cX11_jam 47 = .ok (.aload_n 0, 1) := by decide +kernel
theorem dX11_jam_48 : decode cX11_jam 48 = .ok (.iload 4, 2) := by decide +kernel
theorem dX11_jam_50 : decode cX11_jam 50 = .ok (.invokevirtual 255, 3) := by decide +kernel
theorem dX11_jam_53 : decode cX11_jam 53 = .ok (.iload_n 3, 1) := by decide +kernel
theorem dX11_jam_54 : decode cX11_jam 54 = .ok (.if_icmp .le 12, 3) := by decide +kernel
theorem dX11_jam_57 : decode cX11_jam 57 = .ok (.aload_n 0, 1) := by decide +kernel
theorem dX11_jam_58 : decode cX11_jam 58 = .ok (.iload 4, 2) := by decide +kernel
theorem dX11_jam_60 : decode cX11_jam 60 = .ok (.invokevirtual 255, 3) := by decide +kernel
theorem dX11_jam_63 : decode cX11_jam 63 = .ok (.goto 4, 3) := by decide +kernel
theorem dX11_jam_66 : decode cX11_jam 66 = .ok (.iload_n 3, 1) := by decide +kernel
theorem dX11_jam_67 : decode cX11_jam 67 = .ok (.istore_n 3, 1) := by decide +kernel
theorem dX11_jam_68 : decode cX11_jam 68 = .ok (.iinc 4 1, 3) := by decide +kernel
theorem dX11_jam_71 : decode cX11_jam 71 = .ok (.goto (-59), 3) := by decide +kernel
theorem dX11_jam_74 : decode cX11_jam 74 = .ok (.iload_n 1, 1) := by decide +kernel
theorem dX11_jam_75 : decode cX11_jam 75 = .ok (.ifCond .ne 7, 3) := by decide +kernel
theorem dX11_jam_78 : decode cX11_jam 78 = .ok (.iload_n 2, 1) := by decide +kernel
theorem dX11_jam_79 : decode cX11_jam 79 = .ok (.goto 25, 3) := by decide +kernel
theorem dX11_jam_82 : decode cX11_jam 82 = .ok (.iload_n 1, 1) := by decide +kernel
theorem dX11_jam_83 : decode cX11_jam 83 = .ok (.iconst 1, 1) := by decide +kernel
theorem dX11_jam_84 : decode cX11_jam 84 = .ok (.if_icmp .ne 10, 3) := by decide +kernel
theorem dX11_jam_87 : decode cX11_jam 87 = .ok (.aload_n 0, 1) := by decide +kernel
theorem dX11_jam_88 : decode cX11_jam 88 = .ok (.invokevirtual 258, 3) := by decide +kernel
theorem dX11_jam_91 : decode cX11_jam 91 = .ok (.goto 13, 3) := by decide +kernel
theorem dX11_jam_94 : decode cX11_jam 94 = .ok (.iload_n 1, 1) := by decide +kernel
theorem dX11_jam_95 : decode cX11_jam 95 = .ok (.iconst 2, 1) := by decide +kernel
theorem dX11_jam_96 : decode cX11_jam 96 = .ok (.if_icmp .ne 7, 3) := by decide +kernel
theorem dX11_jam_99 : decode cX11_jam 99 = .ok (.iload_n 3, 1) := by decide +kernel
theorem dX11_jam_100 : decode cX11_jam 100 = .ok (.goto 4, 3) := by decide +kernel
theorem dX11_jam_103 : decode cX11_jam 103 = .ok (.iconst (-1), 1) := by decide +kernel
theorem dX11_jam_104 : decode cX11_jam 104 = .ok (.ireturn, 1) := by decide +kernel
abbrev cX11_chain : ByteArray := prog_13_method_65_code
def yX11_chain : MethodName := ⟨RX11, "chain", "(I)I"⟩
theorem dX11_chain_0 : decode cX11_chain 0 = .ok (.aload_n 0, 1) := by decide +kernel
theorem dX11_chain_1 : decode cX11_chain 1 = .ok (.iconst 0, 1) := by decide +kernel
theorem dX11_chain_2 : decode cX11_chain 2 = .ok (.putfield 68, 3) := by decide +kernel
theorem dX11_chain_5 : decode cX11_chain 5 = .ok (.aload_n 0, 1) := by decide +kernel
theorem dX11_chain_6 : decode cX11_chain 6 = .ok (.iload_n 1, 1) := by decide +kernel
theorem dX11_chain_7 : decode cX11_chain 7 = .ok (.invokevirtual 174, 3) := by decide +kernel
theorem dX11_chain_10 : decode cX11_chain 10 = .ok (.ifCond .eq 11, 3) := by decide +kernel
theorem dX11_chain_13 : decode cX11_chain 13 = .ok (.aload_n 0, 1) := by decide +kernel
theorem dX11_chain_14 : decode cX11_chain 14 = .ok (.iload_n 1, 1) := by decide +kernel
theorem dX11_chain_15 : decode cX11_chain 15 = .ok (.invokevirtual 255, 3) := by decide +kernel
theorem dX11_chain_18 : decode cX11_chain 18 = .ok (.goto 4, 3) := by decide +kernel
theorem dX11_chain_21 : decode cX11_chain 21 = .ok (.iconst (-1), 1) := by decide +kernel
theorem dX11_chain_22 : decode cX11_chain 22 = .ok (.ireturn, 1) := by decide +kernel
abbrev cX11_leastOf : ByteArray := prog_13_method_66_code
def yX11_leastOf : MethodName := ⟨RX11, "leastOf", "(I)J"⟩
theorem dX11_leastOf_0 : decode cX11_leastOf 0 = .ok (.iload_n 0, 1) := by decide +kernel
theorem dX11_leastOf_1 : decode cX11_leastOf 1 = .ok (.ifCond .ne 9, 3) := by decide +kernel
theorem dX11_leastOf_4 : decode cX11_leastOf 4 = .ok (.ldc2_w 261, 3) := by decide +kernel
theorem dX11_leastOf_7 : decode cX11_leastOf 7 = .ok (.goto 17, 3) := by decide +kernel
theorem dX11_leastOf_10 : decode cX11_leastOf 10 = .ok (.iload_n 0, 1) := by decide +kernel
theorem dX11_leastOf_11 : decode cX11_leastOf 11 = .ok (.iconst 1, 1) := by decide +kernel
theorem dX11_leastOf_12 : decode cX11_leastOf 12 = .ok (.if_icmp .ne 9, 3) := by decide +kernel
theorem dX11_leastOf_15 : decode cX11_leastOf 15 = .ok (.ldc2_w 263, 3) := by decide +kernel
theorem dX11_leastOf_18 : decode cX11_leastOf 18 = .ok (.goto 6, 3) := by decide +kernel
theorem dX11_leastOf_21 : decode cX11_leastOf 21 = .ok (.ldc2_w 265, 3) := by decide +kernel
theorem dX11_leastOf_24 : decode cX11_leastOf 24 = .ok (.lreturn, 1) := by decide +kernel
abbrev cX11_isSkipped : ByteArray := prog_13_method_67_code
def yX11_isSkipped : MethodName := ⟨RX11, "isSkipped", "(II)Z"⟩
theorem dX11_isSkipped_0 : decode cX11_isSkipped 0 = .ok (.aload_n 0, 1) := by decide +kernel
theorem dX11_isSkipped_1 : decode cX11_isSkipped 1 = .ok (.getfield 40, 3) := by decide +kernel
theorem dX11_isSkipped_4 : decode cX11_isSkipped 4 = .ok (.bipush 100, 2) := by decide +kernel
theorem dX11_isSkipped_6 : decode cX11_isSkipped 6 = .ok (.iload_n 1, 1) := by decide +kernel
theorem dX11_isSkipped_7 : decode cX11_isSkipped 7 = .ok (.imul, 1) := by decide +kernel
theorem dX11_isSkipped_8 : decode cX11_isSkipped 8 = .ok (.iload_n 2, 1) := by decide +kernel
theorem dX11_isSkipped_9 : decode cX11_isSkipped 9 = .ok (.iadd, 1) := by decide +kernel
theorem dX11_isSkipped_10 : decode cX11_isSkipped 10 = .ok (.laload, 1) := by decide +kernel
theorem dX11_isSkipped_11 : decode cX11_isSkipped 11 = .ok (.aload_n 0, 1) := by decide +kernel
theorem dX11_isSkipped_12 : decode cX11_isSkipped 12 = .ok (.getfield 34, 3) := by decide +kernel
theorem dX11_isSkipped_15 : decode cX11_isSkipped 15 = .ok (.iload_n 1, 1) := by decide +kernel
theorem dX11_isSkipped_16 : decode cX11_isSkipped 16 = .ok (.iaload, 1) := by decide +kernel
theorem dX11_isSkipped_17 : decode cX11_isSkipped 17 = .ok (.invokestatic 267, 3) := by decide +kernel
theorem dX11_isSkipped_20 : decode cX11_isSkipped 20 = .ok (.lcmp, 1) := by decide +kernel
theorem dX11_isSkipped_21 : decode cX11_isSkipped 21 = .ok (.ifCond .ne 7, 3) := by decide +kernel
theorem dX11_isSkipped_24 : decode cX11_isSkipped 24 = .ok (.iconst 1, 1) := by decide +kernel
theorem dX11_isSkipped_25 : decode cX11_isSkipped 25 = .ok (.goto 4, 3) := by decide +kernel
theorem dX11_isSkipped_28 : decode cX11_isSkipped 28 = .ok (.iconst 0, 1) := by decide +kernel
theorem dX11_isSkipped_29 : decode cX11_isSkipped 29 = .ok (.ireturn, 1) := by decide +kernel
abbrev cX11_isRow : ByteArray := prog_13_method_68_code
def yX11_isRow : MethodName := ⟨RX11, "isRow", "(II)Z"⟩
theorem dX11_isRow_0 : decode cX11_isRow 0 = .ok (.iconst 1, 1) := by decide +kernel
theorem dX11_isRow_1 : decode cX11_isRow 1 = .ok (.istore_n 3, 1) := by decide +kernel
theorem dX11_isRow_2 : decode cX11_isRow 2 = .ok (.iconst 0, 1) := by decide +kernel
theorem dX11_isRow_3 : decode cX11_isRow 3 = .ok (.istore 4, 2) := by decide +kernel
theorem dX11_isRow_5 : decode cX11_isRow 5 = .ok (.iload 4, 2) := by decide +kernel
theorem dX11_isRow_7 : decode cX11_isRow 7 = .ok (.aload_n 0, 1) := by decide +kernel
theorem dX11_isRow_8 : decode cX11_isRow 8 = .ok (.getfield 37, 3) := by decide +kernel
theorem dX11_isRow_11 : decode cX11_isRow 11 = .ok (.iload_n 1, 1) := by decide +kernel
theorem dX11_isRow_12 : decode cX11_isRow 12 = .ok (.iaload, 1) := by decide +kernel
theorem dX11_isRow_13 : decode cX11_isRow 13 = .ok (.if_icmp .ge 85, 3) := by decide +kernel
theorem dX11_isRow_16 : decode cX11_isRow 16 = .ok (.iload_n 3, 1) := by decide +kernel
theorem dX11_isRow_17 : decode cX11_isRow 17 = .ok (.ifCond .eq 81, 3) := by decide +kernel
theorem dX11_isRow_20 : decode cX11_isRow 20 = .ok (.iload_n 2, 1) := by decide +kernel
theorem dX11_isRow_21 : decode cX11_isRow 21 = .ok (.ifCond .ge 10, 3) := by decide +kernel
theorem dX11_isRow_24 : decode cX11_isRow 24 = .ok (.aload_n 0, 1) := by decide +kernel
theorem dX11_isRow_25 : decode cX11_isRow 25 = .ok (.getfield 91, 3) := by decide +kernel
theorem dX11_isRow_28 : decode cX11_isRow 28 = .ok (.goto 22, 3) := by decide +kernel
theorem dX11_isRow_31 : decode cX11_isRow 31 = .ok (.iload_n 2, 1) := by decide +kernel
theorem dX11_isRow_32 : decode cX11_isRow 32 = .ok (.bipush 7, 2) := by decide +kernel
theorem dX11_isRow_34 : decode cX11_isRow 34 = .ok (.if_icmp .ne 10, 3) := by decide +kernel
theorem dX11_isRow_37 : decode cX11_isRow 37 = .ok (.aload_n 0, 1) := by decide +kernel
theorem dX11_isRow_38 : decode cX11_isRow 38 = .ok (.invokevirtual 225, 3) := by decide +kernel
theorem dX11_isRow_41 : decode cX11_isRow 41 = .ok (.goto 9, 3) := by decide +kernel
theorem dX11_isRow_44 : decode cX11_isRow 44 = .ok (.aload_n 0, 1) := by decide +kernel
theorem dX11_isRow_45 : decode cX11_isRow 45 = .ok (.getfield 22, 3) := by decide +kernel
theorem dX11_isRow_48 : decode cX11_isRow 48 = .ok (.iload_n 2, 1) := by decide +kernel
theorem dX11_isRow_49 : decode cX11_isRow 49 = .ok (.iaload, 1) := by decide +kernel
theorem dX11_isRow_50 : decode cX11_isRow 50 = .ok (.istore 5, 2) := by decide +kernel
theorem dX11_isRow_52 : decode cX11_isRow 52 = .ok (.aload_n 0, 1) := by decide +kernel
theorem dX11_isRow_53 : decode cX11_isRow 53 = .ok (.iload_n 1, 1) := by decide +kernel
theorem dX11_isRow_54 : decode cX11_isRow 54 = .ok (.iload 4, 2) := by decide +kernel
theorem dX11_isRow_56 : decode cX11_isRow 56 = .ok (.invokevirtual 271, 3) := by decide +kernel
theorem dX11_isRow_59 : decode cX11_isRow 59 = .ok (.ifCond .ne 22, 3) := by decide +kernel
theorem dX11_isRow_62 : decode cX11_isRow 62 = .ok (.aload_n 0, 1) := by decide +kernel
theorem dX11_isRow_63 : decode cX11_isRow 63 = .ok (.getfield 40, 3) := by decide +kernel
theorem dX11_isRow_66 : decode cX11_isRow 66 = .ok (.bipush 100, 2) := by decide +kernel
theorem dX11_isRow_68 : decode cX11_isRow 68 = .ok (.iload_n 1, 1) := by decide +kernel
theorem dX11_isRow_69 : decode cX11_isRow 69 = .ok (.imul, 1) := by decide +kernel
theorem dX11_isRow_70 : decode cX11_isRow 70 = .ok (.iload 4, 2) := by decide +kernel
theorem dX11_isRow_72 : decode cX11_isRow 72 = .ok (.iadd, 1) := by decide +kernel
theorem dX11_isRow_73 : decode cX11_isRow 73 = .ok (.laload, 1) := by decide +kernel
theorem dX11_isRow_74 : decode cX11_isRow 74 = .ok (.iload 5, 2) := by decide +kernel
theorem dX11_isRow_76 : decode cX11_isRow 76 = .ok (.i2l, 1) := by decide +kernel
theorem dX11_isRow_77 : decode cX11_isRow 77 = .ok (.lcmp, 1) := by decide +kernel
theorem dX11_isRow_78 : decode cX11_isRow 78 = .ok (.ifCond .ne 7, 3) := by decide +kernel
theorem dX11_isRow_81 : decode cX11_isRow 81 = .ok (.iconst 1, 1) := by decide +kernel
theorem dX11_isRow_82 : decode cX11_isRow 82 = .ok (.goto 4, 3) := by decide +kernel
theorem dX11_isRow_85 : decode cX11_isRow 85 = .ok (.iconst 0, 1) := by decide +kernel
theorem dX11_isRow_86 : decode cX11_isRow 86 = .ok (.istore_n 3, 1) := by decide +kernel
theorem dX11_isRow_87 : decode cX11_isRow 87 = .ok (.aload_n 0, 1) := by decide +kernel
theorem dX11_isRow_88 : decode cX11_isRow 88 = .ok (.iconst 0, 1) := by decide +kernel
theorem dX11_isRow_89 : decode cX11_isRow 89 = .ok (.invokevirtual 126, 3) := by decide +kernel
theorem dX11_isRow_92 : decode cX11_isRow 92 = .ok (.iinc 4 1, 3) := by decide +kernel
theorem dX11_isRow_95 : decode cX11_isRow 95 = .ok (.goto (-90), 3) := by decide +kernel
theorem dX11_isRow_98 : decode cX11_isRow 98 = .ok (.aload_n 0, 1) := by decide +kernel
theorem dX11_isRow_99 : decode cX11_isRow 99 = .ok (.invokevirtual 192, 3) := by decide +kernel
theorem dX11_isRow_102 : decode cX11_isRow 102 = .ok (.iload_n 3, 1) := by decide +kernel
theorem dX11_isRow_103 : decode cX11_isRow 103 = .ok (.ireturn, 1) := by decide +kernel
abbrev cX11_whereSat : ByteArray := prog_13_method_69_code
def yX11_whereSat : MethodName := ⟨RX11, "whereSat", "(II)I"⟩
theorem dX11_whereSat_0 : decode cX11_whereSat 0 = .ok (.aload_n 0, 1) := by decide +kernel
theorem dX11_whereSat_1 : decode cX11_whereSat 1 = .ok (.iconst 0, 1) := by decide +kernel
theorem dX11_whereSat_2 : decode cX11_whereSat 2 = .ok (.putfield 68, 3) := by decide +kernel
theorem dX11_whereSat_5 : decode cX11_whereSat 5 = .ok (.iload_n 2, 1) := by decide +kernel
theorem dX11_whereSat_6 : decode cX11_whereSat 6 = .ok (.i2l, 1) := by decide +kernel
theorem dX11_whereSat_7 : decode cX11_whereSat 7 = .ok (.lconst 0, 1) := by decide +kernel
theorem dX11_whereSat_8 : decode cX11_whereSat 8 = .ok (.ldc2_w 274, 3) := by decide +kernel
theorem dX11_whereSat_11 : decode cX11_whereSat 11 = .ok (.invokestatic 80, 3) := by decide +kernel
theorem dX11_whereSat_14 : decode cX11_whereSat 14 = .ok (.ifCond .eq 11, 3) := by decide +kernel
theorem dX11_whereSat_17 : decode cX11_whereSat 17 = .ok (.aload_n 0, 1) := by decide +kernel
theorem dX11_whereSat_18 : decode cX11_whereSat 18 = .ok (.iload_n 1, 1) := by decide +kernel
theorem dX11_whereSat_19 : decode cX11_whereSat 19 = .ok (.invokevirtual 180, 3) := by decide +kernel
theorem dX11_whereSat_22 : decode cX11_whereSat 22 = .ok (.goto 4, 3) := by decide +kernel
theorem dX11_whereSat_25 : decode cX11_whereSat 25 = .ok (.iconst (-1), 1) := by decide +kernel
theorem dX11_whereSat_26 : decode cX11_whereSat 26 = .ok (.istore_n 3, 1) := by decide +kernel
theorem dX11_whereSat_27 : decode cX11_whereSat 27 = .ok (.iload_n 3, 1) := by decide +kernel
theorem dX11_whereSat_28 : decode cX11_whereSat 28 = .ok (.ifCond .ge 5, 3) := by decide +kernel
theorem dX11_whereSat_31 : decode cX11_whereSat 31 = .ok (.iload_n 3, 1) := by decide +kernel
theorem dX11_whereSat_32 : decode cX11_whereSat 32 = .ok (.ireturn, 1) := by decide +kernel
theorem dX11_whereSat_33 : decode cX11_whereSat 33 = .ok (.iconst 0, 1) := by decide +kernel
theorem dX11_whereSat_34 : decode cX11_whereSat 34 = .ok (.istore 4, 2) := by decide +kernel
theorem dX11_whereSat_36 : decode cX11_whereSat 36 = .ok (.bipush (-4), 2) := by decide +kernel
theorem dX11_whereSat_38 : decode cX11_whereSat 38 = .ok (.istore 5, 2) := by decide +kernel
theorem dX11_whereSat_40 : decode cX11_whereSat 40 = .ok (.bipush (-4), 2) := by decide +kernel
theorem dX11_whereSat_42 : decode cX11_whereSat 42 = .ok (.istore 6, 2) := by decide +kernel
theorem dX11_whereSat_44 : decode cX11_whereSat 44 = .ok (.aload_n 0, 1) := by decide +kernel
theorem dX11_whereSat_45 : decode cX11_whereSat 45 = .ok (.invokevirtual 186, 3) := by decide +kernel
theorem dX11_whereSat_48 : decode cX11_whereSat 48 = .ok (.iconst 0, 1) := by decide +kernel
theorem dX11_whereSat_49 : decode cX11_whereSat 49 = .ok (.istore 7, 2) := by decide +kernel
theorem dX11_whereSat_51 : decode cX11_whereSat 51 = .ok (.iload 7, 2) := by decide +kernel
theorem dX11_whereSat_53 : decode cX11_whereSat 53 = .ok (.bipush 6, 2) := by decide +kernel
theorem dX11_whereSat_55 : decode cX11_whereSat 55 = .ok (.if_icmp .ge 79, 3) := by decide +kernel
theorem dX11_whereSat_58 : decode cX11_whereSat 58 = .ok (.iconst 0, 1) := by decide +kernel
theorem dX11_whereSat_59 : decode cX11_whereSat 59 = .ok (.istore 8, 2) := by decide +kernel
theorem dX11_whereSat_61 : decode cX11_whereSat 61 = .ok (.iload 8, 2) := by decide +kernel
theorem dX11_whereSat_63 : decode cX11_whereSat 63 = .ok (.bipush 12, 2) := by decide +kernel
theorem dX11_whereSat_65 : decode cX11_whereSat 65 = .ok (.if_icmp .ge 63, 3) := by decide +kernel
theorem dX11_whereSat_68 : decode cX11_whereSat 68 = .ok (.aload_n 0, 1) := by decide +kernel
theorem dX11_whereSat_69 : decode cX11_whereSat 69 = .ok (.iload 7, 2) := by decide +kernel
theorem dX11_whereSat_71 : decode cX11_whereSat 71 = .ok (.putfield 72, 3) := by decide +kernel
theorem dX11_whereSat_74 : decode cX11_whereSat 74 = .ok (.aload_n 0, 1) := by decide +kernel
theorem dX11_whereSat_75 : decode cX11_whereSat 75 = .ok (.iload 8, 2) := by decide +kernel
theorem dX11_whereSat_77 : decode cX11_whereSat 77 = .ok (.putfield 75, 3) := by decide +kernel
theorem dX11_whereSat_80 : decode cX11_whereSat 80 = .ok (.aload_n 0, 1) := by decide +kernel
theorem dX11_whereSat_81 : decode cX11_whereSat 81 = .ok (.iload_n 1, 1) := by decide +kernel
theorem dX11_whereSat_82 : decode cX11_whereSat 82 = .ok (.iconst (-1), 1) := by decide +kernel
theorem dX11_whereSat_83 : decode cX11_whereSat 83 = .ok (.invokevirtual 276, 3) := by decide +kernel
theorem dX11_whereSat_86 : decode cX11_whereSat 86 = .ok (.ifCond .eq 36, 3) := by decide +kernel
theorem dX11_whereSat_89 : decode cX11_whereSat 89 = .ok (.iinc 4 1, 3) := by decide +kernel
theorem dX11_whereSat_92 : decode cX11_whereSat 92 = .ok (.iload 5, 2) := by decide +kernel
theorem dX11_whereSat_94 : decode cX11_whereSat 94 = .ok (.ifCond .ge 14, 3) := by decide +kernel
theorem dX11_whereSat_97 : decode cX11_whereSat 97 = .ok (.bipush 100, 2) := by decide +kernel
theorem dX11_whereSat_99 : decode cX11_whereSat 99 = .ok (.iload 7, 2) := by decide +kernel
theorem dX11_whereSat_101 : decode cX11_whereSat 101 = .ok (.imul, 1) := by decide +kernel
theorem dX11_whereSat_102 : decode cX11_whereSat 102 = .ok (.iload 8, 2) := by decide +kernel
theorem dX11_whereSat_104 : decode cX11_whereSat 104 = .ok (.iadd, 1) := by decide +kernel
theorem dX11_whereSat_105 : decode cX11_whereSat 105 = .ok (.goto 5, 3) := by decide +kernel
theorem dX11_whereSat_108 : decode cX11_whereSat 108 = .ok (.iload 5, 2) := by decide +kernel
theorem dX11_whereSat_110 : decode cX11_whereSat 110 = .ok (.istore 5, 2) := by decide +kernel
theorem dX11_whereSat_112 : decode cX11_whereSat 112 = .ok (.bipush 100, 2) := by decide +kernel
theorem dX11_whereSat_114 : decode cX11_whereSat 114 = .ok (.iload 7, 2) := by decide +kernel
theorem dX11_whereSat_116 : decode cX11_whereSat 116 = .ok (.imul, 1) := by decide +kernel
theorem dX11_whereSat_117 : decode cX11_whereSat 117 = .ok (.iload 8, 2) := by decide +kernel
theorem dX11_whereSat_119 : decode cX11_whereSat 119 = .ok (.iadd, 1) := by decide +kernel
theorem dX11_whereSat_120 : decode cX11_whereSat 120 = .ok (.istore 6, 2) := by decide +kernel
theorem dX11_whereSat_122 : decode cX11_whereSat 122 = .ok (.iinc 8 1, 3) := by decide +kernel
theorem dX11_whereSat_125 : decode cX11_whereSat 125 = .ok (.goto (-64), 3) := by decide +kernel
theorem dX11_whereSat_128 : decode cX11_whereSat 128 = .ok (.iinc 7 1, 3) := by decide +kernel
theorem dX11_whereSat_131 : decode cX11_whereSat 131 = .ok (.goto (-80), 3) := by decide +kernel
theorem dX11_whereSat_134 : decode cX11_whereSat 134 = .ok (.iload_n 2, 1) := by decide +kernel
theorem dX11_whereSat_135 : decode cX11_whereSat 135 = .ok (.ifCond .ne 8, 3) := by decide +kernel
theorem dX11_whereSat_138 : decode cX11_whereSat 138 = .ok (.iload 4, 2) := by decide +kernel
theorem dX11_whereSat_140 : decode cX11_whereSat 140 = .ok (.goto 15, 3) := by decide +kernel
theorem dX11_whereSat_143 : decode cX11_whereSat 143 = .ok (.iload_n 2, 1) := by decide +kernel
theorem dX11_whereSat_144 : decode cX11_whereSat 144 = .ok (.iconst 1, 1) := by decide +kernel
theorem dX11_whereSat_145 : decode cX11_whereSat 145 = .ok (.if_icmp .ne 8, 3) := by decide +kernel
theorem dX11_whereSat_148 : decode cX11_whereSat 148 = .ok (.iload 5, 2) := by decide +kernel
theorem dX11_whereSat_150 : decode cX11_whereSat 150 = .ok (.goto 5, 3) := by decide +kernel
theorem dX11_whereSat_153 : decode cX11_whereSat 153 = .ok (.iload 6, 2) := by decide +kernel
theorem dX11_whereSat_155 : decode cX11_whereSat 155 = .ok (.ireturn, 1) := by decide +kernel
abbrev cX11_whatIs : ByteArray := prog_13_method_70_code
def yX11_whatIs : MethodName := ⟨RX11, "whatIs", "(III)I"⟩
theorem dX11_whatIs_0 : decode cX11_whatIs 0 = .ok (.aload_n 0, 1) := by decide +kernel
theorem dX11_whatIs_1 : decode cX11_whatIs 1 = .ok (.iconst 0, 1) := by decide +kernel
theorem dX11_whatIs_2 : decode cX11_whatIs 2 = .ok (.putfield 68, 3) := by decide +kernel
theorem dX11_whatIs_5 : decode cX11_whatIs 5 = .ok (.aload_n 0, 1) := by decide +kernel
theorem dX11_whatIs_6 : decode cX11_whatIs 6 = .ok (.iload_n 2, 1) := by decide +kernel
theorem dX11_whatIs_7 : decode cX11_whatIs 7 = .ok (.invokevirtual 174, 3) := by decide +kernel
theorem dX11_whatIs_10 : decode cX11_whatIs 10 = .ok (.ifCond .eq 21, 3) := by decide +kernel
theorem dX11_whatIs_13 : decode cX11_whatIs 13 = .ok (.iload_n 3, 1) := by decide +kernel
theorem dX11_whatIs_14 : decode cX11_whatIs 14 = .ok (.i2l, 1) := by decide +kernel
theorem dX11_whatIs_15 : decode cX11_whatIs 15 = .ok (.lconst 0, 1) := by decide +kernel
theorem dX11_whatIs_16 : decode cX11_whatIs 16 = .ok (.lconst 1, 1) := by decide +kernel
theorem dX11_whatIs_17 : decode cX11_whatIs 17 = .ok (.invokestatic 80, 3) := by decide +kernel
theorem dX11_whatIs_20 : decode cX11_whatIs 20 = .ok (.ifCond .eq 11, 3) := by decide +kernel
theorem dX11_whatIs_23 : decode cX11_whatIs 23 = .ok (.aload_n 0, 1) := by decide +kernel
theorem dX11_whatIs_24 : decode cX11_whatIs 24 = .ok (.iload_n 1, 1) := by decide +kernel
theorem dX11_whatIs_25 : decode cX11_whatIs 25 = .ok (.invokevirtual 180, 3) := by decide +kernel
theorem dX11_whatIs_28 : decode cX11_whatIs 28 = .ok (.goto 4, 3) := by decide +kernel
theorem dX11_whatIs_31 : decode cX11_whatIs 31 = .ok (.iconst (-1), 1) := by decide +kernel
theorem dX11_whatIs_32 : decode cX11_whatIs 32 = .ok (.istore 4, 2) := by decide +kernel
theorem dX11_whatIs_34 : decode cX11_whatIs 34 = .ok (.iload 4, 2) := by decide +kernel
theorem dX11_whatIs_36 : decode cX11_whatIs 36 = .ok (.ifCond .ge 6, 3) := by decide +kernel
theorem dX11_whatIs_39 : decode cX11_whatIs 39 = .ok (.iload 4, 2) := by decide +kernel
theorem dX11_whatIs_41 : decode cX11_whatIs 41 = .ok (.ireturn, 1) := by decide +kernel
theorem dX11_whatIs_42 : decode cX11_whatIs 42 = .ok (.iconst 0, 1) := by decide +kernel
theorem dX11_whatIs_43 : decode cX11_whatIs 43 = .ok (.istore 5, 2) := by decide +kernel
theorem dX11_whatIs_45 : decode cX11_whatIs 45 = .ok (.aload_n 0, 1) := by decide +kernel
theorem dX11_whatIs_46 : decode cX11_whatIs 46 = .ok (.invokevirtual 186, 3) := by decide +kernel
theorem dX11_whatIs_49 : decode cX11_whatIs 49 = .ok (.iconst 0, 1) := by decide +kernel
theorem dX11_whatIs_50 : decode cX11_whatIs 50 = .ok (.istore 6, 2) := by decide +kernel
theorem dX11_whatIs_52 : decode cX11_whatIs 52 = .ok (.iload 6, 2) := by decide +kernel
theorem dX11_whatIs_54 : decode cX11_whatIs 54 = .ok (.iload_n 3, 1) := by decide +kernel
theorem dX11_whatIs_55 : decode cX11_whatIs 55 = .ok (.ifCond .ne 8, 3) := by decide +kernel
theorem dX11_whatIs_58 : decode cX11_whatIs 58 = .ok (.bipush 8, 2) := by decide +kernel
theorem dX11_whatIs_60 : decode cX11_whatIs 60 = .ok (.goto 5, 3) := by decide +kernel
theorem dX11_whatIs_63 : decode cX11_whatIs 63 = .ok (.bipush 10, 2) := by decide +kernel
theorem dX11_whatIs_65 : decode cX11_whatIs 65 = .ok (.if_icmp .ge 74, 3) := by decide +kernel
theorem dX11_whatIs_68 : decode cX11_whatIs 68 = .ok (.aload_n 0, 1) := by decide +kernel
theorem dX11_whatIs_69 : decode cX11_whatIs 69 = .ok (.getfield 7, 3) := by decide +kernel
theorem dX11_whatIs_72 : decode cX11_whatIs 72 = .ok (.iload_n 2, 1) := by decide +kernel
theorem dX11_whatIs_73 : decode cX11_whatIs 73 = .ok (.iload_n 3, 1) := by decide +kernel
theorem dX11_whatIs_74 : decode cX11_whatIs 74 = .ok (.ifCond .ne 8, 3) := by decide +kernel
theorem dX11_whatIs_77 : decode cX11_whatIs 77 = .ok (.iload 6, 2) := by decide +kernel
theorem dX11_whatIs_79 : decode cX11_whatIs 79 = .ok (.goto 9, 3) := by decide +kernel
theorem dX11_whatIs_82 : decode cX11_whatIs 82 = .ok (.aload_n 0, 1) := by decide +kernel
theorem dX11_whatIs_83 : decode cX11_whatIs 83 = .ok (.getfield 7, 3) := by decide +kernel
theorem dX11_whatIs_86 : decode cX11_whatIs 86 = .ok (.iload_n 2, 1) := by decide +kernel
theorem dX11_whatIs_87 : decode cX11_whatIs 87 = .ok (.iaload, 1) := by decide +kernel
theorem dX11_whatIs_88 : decode cX11_whatIs 88 = .ok (.iastore, 1) := by decide +kernel
theorem dX11_whatIs_89 : decode cX11_whatIs 89 = .ok (.aload_n 0, 1) := by decide +kernel
theorem dX11_whatIs_90 : decode cX11_whatIs 90 = .ok (.getfield 13, 3) := by decide +kernel
theorem dX11_whatIs_93 : decode cX11_whatIs 93 = .ok (.iload_n 2, 1) := by decide +kernel
theorem dX11_whatIs_94 : decode cX11_whatIs 94 = .ok (.iload_n 3, 1) := by decide +kernel
theorem dX11_whatIs_95 : decode cX11_whatIs 95 = .ok (.iconst 1, 1) := by decide +kernel
theorem dX11_whatIs_96 : decode cX11_whatIs 96 = .ok (.if_icmp .ne 8, 3) := by decide +kernel
theorem dX11_whatIs_99 : decode cX11_whatIs 99 = .ok (.iload 6, 2) := by decide +kernel
theorem dX11_whatIs_101 : decode cX11_whatIs 101 = .ok (.goto 9, 3) := by decide +kernel
theorem dX11_whatIs_104 : decode cX11_whatIs 104 = .ok (.aload_n 0, 1) := by decide +kernel
theorem dX11_whatIs_105 : decode cX11_whatIs 105 = .ok (.getfield 13, 3) := by decide +kernel
theorem dX11_whatIs_108 : decode cX11_whatIs 108 = .ok (.iload_n 2, 1) := by decide +kernel
theorem dX11_whatIs_109 : decode cX11_whatIs 109 = .ok (.iaload, 1) := by decide +kernel
theorem dX11_whatIs_110 : decode cX11_whatIs 110 = .ok (.iastore, 1) := by decide +kernel
theorem dX11_whatIs_111 : decode cX11_whatIs 111 = .ok (.iload 5, 2) := by decide +kernel
theorem dX11_whatIs_113 : decode cX11_whatIs 113 = .ok (.aload_n 0, 1) := by decide +kernel
theorem dX11_whatIs_114 : decode cX11_whatIs 114 = .ok (.iload_n 1, 1) := by decide +kernel
theorem dX11_whatIs_115 : decode cX11_whatIs 115 = .ok (.iload_n 2, 1) := by decide +kernel
theorem dX11_whatIs_116 : decode cX11_whatIs 116 = .ok (.invokevirtual 276, 3) := by decide +kernel
theorem dX11_whatIs_119 : decode cX11_whatIs 119 = .ok (.ifCond .eq 10, 3) := by decide +kernel
theorem dX11_whatIs_122 : decode cX11_whatIs 122 = .ok (.iconst 1, 1) := by decide +kernel
theorem dX11_whatIs_123 : decode cX11_whatIs 123 = .ok (.iload 6, 2) := by decide +kernel
theorem dX11_whatIs_125 : decode cX11_whatIs 125 = .ok (.ishl, 1) := by decide +kernel
theorem dX11_whatIs_126 : decode cX11_whatIs 126 = .ok (.goto 4, 3) := by decide +kernel
theorem dX11_whatIs_129 : decode cX11_whatIs 129 = .ok (.iconst 0, 1) := by decide +kernel
theorem dX11_whatIs_130 : decode cX11_whatIs 130 = .ok (.ior, 1) := by decide +kernel
theorem dX11_whatIs_131 : decode cX11_whatIs 131 = .ok (.istore 5, 2) := by decide +kernel
theorem dX11_whatIs_133 : decode cX11_whatIs 133 = .ok (.iinc 6 1, 3) := by decide +kernel
theorem dX11_whatIs_136 : decode cX11_whatIs 136 = .ok (.goto (-84), 3) := by decide +kernel
theorem dX11_whatIs_139 : decode cX11_whatIs 139 = .ok (.iload 5, 2) := by decide +kernel
theorem dX11_whatIs_141 : decode cX11_whatIs 141 = .ok (.ireturn, 1) := by decide +kernel
abbrev cX11_two : ByteArray := prog_13_method_71_code
def yX11_two : MethodName := ⟨RX11, "two", "(III)I"⟩
theorem dX11_two_0 : decode cX11_two 0 = .ok (.aload_n 0, 1) := by decide +kernel
theorem dX11_two_1 : decode cX11_two 1 = .ok (.iconst 0, 1) := by decide +kernel
theorem dX11_two_2 : decode cX11_two 2 = .ok (.putfield 68, 3) := by decide +kernel
theorem dX11_two_5 : decode cX11_two 5 = .ok (.aload_n 0, 1) := by decide +kernel
theorem dX11_two_6 : decode cX11_two 6 = .ok (.iload_n 1, 1) := by decide +kernel
theorem dX11_two_7 : decode cX11_two 7 = .ok (.invokevirtual 174, 3) := by decide +kernel
theorem dX11_two_10 : decode cX11_two 10 = .ok (.ifCond .eq 28, 3) := by decide +kernel
theorem dX11_two_13 : decode cX11_two 13 = .ok (.aload_n 0, 1) := by decide +kernel
theorem dX11_two_14 : decode cX11_two 14 = .ok (.iload_n 2, 1) := by decide +kernel
theorem dX11_two_15 : decode cX11_two 15 = .ok (.invokevirtual 174, 3) := by decide +kernel
theorem dX11_two_18 : decode cX11_two 18 = .ok (.ifCond .eq 20, 3) := by decide +kernel
theorem dX11_two_21 : decode cX11_two 21 = .ok (.iload_n 1, 1) := by decide +kernel
theorem dX11_two_22 : decode cX11_two 22 = .ok (.iload_n 2, 1) := by decide +kernel
theorem dX11_two_23 : decode cX11_two 23 = .ok (.if_icmp .eq 15, 3) := by decide +kernel
theorem dX11_two_26 : decode cX11_two 26 = .ok (.iload_n 3, 1) := by decide +kernel
theorem dX11_two_27 : decode cX11_two 27 = .ok (.i2l, 1) := by decide +kernel
theorem dX11_two_28 : decode cX11_two 28 = .ok (.lconst 0, 1) := by decide +kernel
theorem dX11_two_29 : decode cX11_two 29 = .ok (.ldc2_w 279, 3) := by decide +kernel
theorem dX11_two_32 : decode cX11_two 32 = .ok (.invokestatic 80, 3) := by decide +kernel
theorem dX11_two_35 : decode cX11_two 35 = .ok (.ifCond .ne 5, 3) := by decide +kernel
theorem dX11_two_38 : decode cX11_two 38 = .ok (.iconst (-1), 1) := by decide +kernel
theorem dX11_two_39 : decode cX11_two 39 = .ok (.ireturn, 1) := by decide +kernel
theorem dX11_two_40 : decode cX11_two 40 = .ok (.aload_n 0, 1) := by decide +kernel
theorem dX11_two_41 : decode cX11_two 41 = .ok (.invokevirtual 186, 3) := by decide +kernel
theorem dX11_two_44 : decode cX11_two 44 = .ok (.iconst 0, 1) := by decide +kernel
theorem dX11_two_45 : decode cX11_two 45 = .ok (.istore 4, 2) := by decide +kernel
theorem dX11_two_47 : decode cX11_two 47 = .ok (.iload 4, 2) := by decide +kernel
theorem dX11_two_49 : decode cX11_two 49 = .ok (.iconst 4, 1) := by decide +kernel
theorem dX11_two_50 : decode cX11_two 50 = .ok (.if_icmp .ge 116, 3) := by decide +kernel
theorem dX11_two_53 : decode cX11_two 53 = .ok (.aload_n 0, 1) := by decide +kernel
theorem dX11_two_54 : decode cX11_two 54 = .ok (.getfield 19, 3) := by decide +kernel
theorem dX11_two_57 : decode cX11_two 57 = .ok (.iload_n 1, 1) := by decide +kernel
theorem dX11_two_58 : decode cX11_two 58 = .ok (.iload 4, 2) := by decide +kernel
theorem dX11_two_60 : decode cX11_two 60 = .ok (.iconst 2, 1) := by decide +kernel
theorem dX11_two_61 : decode cX11_two 61 = .ok (.idiv, 1) := by decide +kernel
theorem dX11_two_62 : decode cX11_two 62 = .ok (.iconst 1, 1) := by decide +kernel
theorem dX11_two_63 : decode cX11_two 63 = .ok (.if_icmp .ne 12, 3) := by decide +kernel
theorem dX11_two_66 : decode cX11_two 66 = .ok (.aload_n 0, 1) := by decide +kernel
theorem dX11_two_67 : decode cX11_two 67 = .ok (.getfield 19, 3) := by decide +kernel
theorem dX11_two_70 : decode cX11_two 70 = .ok (.iload_n 1, 1) := by decide +kernel
theorem dX11_two_71 : decode cX11_two 71 = .ok (.iaload, 1) := by decide +kernel
theorem dX11_two_72 : decode cX11_two 72 = .ok (.goto 4, 3) := by decide +kernel
theorem dX11_two_75 : decode cX11_two 75 = .ok (.iload_n 1, 1) := by decide +kernel
theorem dX11_two_76 : decode cX11_two 76 = .ok (.iastore, 1) := by decide +kernel
theorem dX11_two_77 : decode cX11_two 77 = .ok (.aload_n 0, 1) := by decide +kernel
theorem dX11_two_78 : decode cX11_two 78 = .ok (.getfield 19, 3) := by decide +kernel
theorem dX11_two_81 : decode cX11_two 81 = .ok (.iload_n 2, 1) := by decide +kernel
theorem dX11_two_82 : decode cX11_two 82 = .ok (.iload 4, 2) := by decide +kernel
theorem dX11_two_84 : decode cX11_two 84 = .ok (.iconst 2, 1) := by decide +kernel
theorem dX11_two_85 : decode cX11_two 85 = .ok (.irem, 1) := by decide +kernel
theorem dX11_two_86 : decode cX11_two 86 = .ok (.iconst 1, 1) := by decide +kernel
theorem dX11_two_87 : decode cX11_two 87 = .ok (.if_icmp .ne 12, 3) := by decide +kernel
theorem dX11_two_90 : decode cX11_two 90 = .ok (.aload_n 0, 1) := by decide +kernel
theorem dX11_two_91 : decode cX11_two 91 = .ok (.getfield 19, 3) := by decide +kernel
theorem dX11_two_94 : decode cX11_two 94 = .ok (.iload_n 2, 1) := by decide +kernel
theorem dX11_two_95 : decode cX11_two 95 = .ok (.iaload, 1) := by decide +kernel
theorem dX11_two_96 : decode cX11_two 96 = .ok (.goto 4, 3) := by decide +kernel
theorem dX11_two_99 : decode cX11_two 99 = .ok (.iload_n 2, 1) := by decide +kernel
theorem dX11_two_100 : decode cX11_two 100 = .ok (.iastore, 1) := by decide +kernel
theorem dX11_two_101 : decode cX11_two 101 = .ok (.aload_n 0, 1) := by decide +kernel
theorem dX11_two_102 : decode cX11_two 102 = .ok (.iload_n 3, 1) := by decide +kernel
theorem dX11_two_103 : decode cX11_two 103 = .ok (.invokevirtual 166, 3) := by decide +kernel
theorem dX11_two_106 : decode cX11_two 106 = .ok (.aload_n 0, 1) := by decide +kernel
theorem dX11_two_107 : decode cX11_two 107 = .ok (.getfield 62, 3) := by decide +kernel
theorem dX11_two_110 : decode cX11_two 110 = .ok (.iconst 2, 1) := by decide +kernel
theorem dX11_two_111 : decode cX11_two 111 = .ok (.iload 4, 2) := by decide +kernel
theorem dX11_two_113 : decode cX11_two 113 = .ok (.imul, 1) := by decide +kernel
theorem dX11_two_114 : decode cX11_two 114 = .ok (.aload_n 0, 1) := by decide +kernel
theorem dX11_two_115 : decode cX11_two 115 = .ok (.getfield 22, 3) := by decide +kernel
theorem dX11_two_118 : decode cX11_two 118 = .ok (.iload_n 1, 1) := by decide +kernel
theorem dX11_two_119 : decode cX11_two 119 = .ok (.iaload, 1) := by decide +kernel
theorem dX11_two_120 : decode cX11_two 120 = .ok (.iconst 5, 1) := by decide +kernel
theorem dX11_two_121 : decode cX11_two 121 = .ok (.iconst 1, 1) := by decide +kernel
theorem dX11_two_122 : decode cX11_two 122 = .ok (.iload 4, 2) := by decide +kernel
theorem dX11_two_124 : decode cX11_two 124 = .ok (.iconst 2, 1) := by decide +kernel
theorem dX11_two_125 : decode cX11_two 125 = .ok (.idiv, 1) := by decide +kernel
theorem dX11_two_126 : decode cX11_two 126 = .ok (.isub, 1) := by decide +kernel
theorem dX11_two_127 : decode cX11_two 127 = .ok (.imul, 1) := by decide +kernel
theorem dX11_two_128 : decode cX11_two 128 = .ok (.iadd, 1) := by decide +kernel
theorem dX11_two_129 : decode cX11_two 129 = .ok (.iastore, 1) := by decide +kernel
theorem dX11_two_130 : decode cX11_two 130 = .ok (.aload_n 0, 1) := by decide +kernel
theorem dX11_two_131 : decode cX11_two 131 = .ok (.getfield 62, 3) := by decide +kernel
theorem dX11_two_134 : decode cX11_two 134 = .ok (.iconst 2, 1) := by decide +kernel
theorem dX11_two_135 : decode cX11_two 135 = .ok (.iload 4, 2) := by decide +kernel
theorem dX11_two_137 : decode cX11_two 137 = .ok (.imul, 1) := by decide +kernel
theorem dX11_two_138 : decode cX11_two 138 = .ok (.iconst 1, 1) := by decide +kernel
theorem dX11_two_139 : decode cX11_two 139 = .ok (.iadd, 1) := by decide +kernel
theorem dX11_two_140 : decode cX11_two 140 = .ok (.aload_n 0, 1) := by decide +kernel
theorem dX11_two_141 : decode cX11_two 141 = .ok (.getfield 22, 3) := by decide +kernel
theorem dX11_two_144 : decode cX11_two 144 = .ok (.iload_n 2, 1) := by decide +kernel
theorem dX11_two_145 : decode cX11_two 145 = .ok (.iaload, 1) := by decide +kernel
theorem dX11_two_146 : decode cX11_two 146 = .ok (.iconst 5, 1) := by decide +kernel
theorem dX11_two_147 : decode cX11_two 147 = .ok (.iconst 1, 1) := by decide +kernel
theorem dX11_two_148 : decode cX11_two 148 = .ok (.iload 4, 2) := by decide +kernel
theorem dX11_two_150 : decode cX11_two 150 = .ok (.iconst 2, 1) := by decide +kernel
theorem dX11_two_151 : decode cX11_two 151 = .ok (.irem, 1) := by decide +kernel
theorem dX11_two_152 : decode cX11_two 152 = .ok (.isub, 1) := by decide +kernel
theorem dX11_two_153 : decode cX11_two 153 = .ok (.imul, 1) := by decide +kernel
theorem dX11_two_154 : decode cX11_two 154 = .ok (.iadd, 1) := by decide +kernel
theorem dX11_two_155 : decode cX11_two 155 = .ok (.iastore, 1) := by decide +kernel
theorem dX11_two_156 : decode cX11_two 156 = .ok (.aload_n 0, 1) := by decide +kernel
theorem dX11_two_157 : decode cX11_two 157 = .ok (.invokevirtual 192, 3) := by decide +kernel
theorem dX11_two_160 : decode cX11_two 160 = .ok (.iinc 4 1, 3) := by decide +kernel
theorem dX11_two_163 : decode cX11_two 163 = .ok (.goto (-116), 3) := by decide +kernel
theorem dX11_two_166 : decode cX11_two 166 = .ok (.iconst 0, 1) := by decide +kernel
theorem dX11_two_167 : decode cX11_two 167 = .ok (.istore 4, 2) := by decide +kernel
theorem dX11_two_169 : decode cX11_two 169 = .ok (.iload 4, 2) := by decide +kernel
theorem dX11_two_171 : decode cX11_two 171 = .ok (.iconst 4, 1) := by decide +kernel
theorem dX11_two_172 : decode cX11_two 172 = .ok (.if_icmp .ge 98, 3) := by decide +kernel
theorem dX11_two_175 : decode cX11_two 175 = .ok (.iconst 2, 1) := by decide +kernel
theorem dX11_two_176 : decode cX11_two 176 = .ok (.iconst 1, 1) := by decide +kernel
theorem dX11_two_177 : decode cX11_two 177 = .ok (.iload 4, 2) := by decide +kernel
theorem dX11_two_179 : decode cX11_two 179 = .ok (.iconst 2, 1) := by decide +kernel
theorem dX11_two_180 : decode cX11_two 180 = .ok (.idiv, 1) := by decide +kernel
theorem dX11_two_181 : decode cX11_two 181 = .ok (.isub, 1) := by decide +kernel
theorem dX11_two_182 : decode cX11_two 182 = .ok (.imul, 1) := by decide +kernel
theorem dX11_two_183 : decode cX11_two 183 = .ok (.iload 4, 2) := by decide +kernel
theorem dX11_two_185 : decode cX11_two 185 = .ok (.iconst 2, 1) := by decide +kernel
theorem dX11_two_186 : decode cX11_two 186 = .ok (.irem, 1) := by decide +kernel
theorem dX11_two_187 : decode cX11_two 187 = .ok (.iadd, 1) := by decide +kernel
theorem dX11_two_188 : decode cX11_two 188 = .ok (.istore 5, 2) := by decide +kernel
theorem dX11_two_190 : decode cX11_two 190 = .ok (.iconst 2, 1) := by decide +kernel
theorem dX11_two_191 : decode cX11_two 191 = .ok (.iload 4, 2) := by decide +kernel
theorem dX11_two_193 : decode cX11_two 193 = .ok (.iconst 2, 1) := by decide +kernel
theorem dX11_two_194 : decode cX11_two 194 = .ok (.idiv, 1) := by decide +kernel
theorem dX11_two_195 : decode cX11_two 195 = .ok (.imul, 1) := by decide +kernel
theorem dX11_two_196 : decode cX11_two 196 = .ok (.iconst 1, 1) := by decide +kernel
theorem dX11_two_197 : decode cX11_two 197 = .ok (.iadd, 1) := by decide +kernel
theorem dX11_two_198 : decode cX11_two 198 = .ok (.iload 4, 2) := by decide +kernel
theorem dX11_two_200 : decode cX11_two 200 = .ok (.iconst 2, 1) := by decide +kernel
theorem dX11_two_201 : decode cX11_two 201 = .ok (.irem, 1) := by decide +kernel
theorem dX11_two_202 : decode cX11_two 202 = .ok (.isub, 1) := by decide +kernel
theorem dX11_two_203 : decode cX11_two 203 = .ok (.istore 6, 2) := by decide +kernel
theorem dX11_two_205 : decode cX11_two 205 = .ok (.aload_n 0, 1) := by decide +kernel
theorem dX11_two_206 : decode cX11_two 206 = .ok (.getfield 62, 3) := by decide +kernel
theorem dX11_two_209 : decode cX11_two 209 = .ok (.iconst 2, 1) := by decide +kernel
theorem dX11_two_210 : decode cX11_two 210 = .ok (.iload 4, 2) := by decide +kernel
theorem dX11_two_212 : decode cX11_two 212 = .ok (.imul, 1) := by decide +kernel
theorem dX11_two_213 : decode cX11_two 213 = .ok (.iaload, 1) := by decide +kernel
theorem dX11_two_214 : decode cX11_two 214 = .ok (.aload_n 0, 1) := by decide +kernel
theorem dX11_two_215 : decode cX11_two 215 = .ok (.getfield 62, 3) := by decide +kernel
theorem dX11_two_218 : decode cX11_two 218 = .ok (.iconst 2, 1) := by decide +kernel
theorem dX11_two_219 : decode cX11_two 219 = .ok (.iload 5, 2) := by decide +kernel
theorem dX11_two_221 : decode cX11_two 221 = .ok (.imul, 1) := by decide +kernel
theorem dX11_two_222 : decode cX11_two 222 = .ok (.iaload, 1) := by decide +kernel
theorem dX11_two_223 : decode cX11_two 223 = .ok (.if_icmp .lt 41, 3) := by decide +kernel
theorem dX11_two_226 : decode cX11_two 226 = .ok (.aload_n 0, 1) := by decide +kernel
theorem dX11_two_227 : decode cX11_two 227 = .ok (.getfield 62, 3) := by decide +kernel
theorem dX11_two_230 : decode cX11_two 230 = .ok (.iconst 2, 1) := by decide +kernel
theorem dX11_two_231 : decode cX11_two 231 = .ok (.iload 4, 2) := by decide +kernel
theorem dX11_two_233 : decode cX11_two 233 = .ok (.imul, 1) := by decide +kernel
theorem dX11_two_234 : decode cX11_two 234 = .ok (.iconst 1, 1) := by decide +kernel
theorem dX11_two_235 : decode cX11_two 235 = .ok (.iadd, 1) := by decide +kernel
theorem dX11_two_236 : decode cX11_two 236 = .ok (.iaload, 1) := by decide +kernel
theorem dX11_two_237 : decode cX11_two 237 = .ok (.aload_n 0, 1) := by decide +kernel
theorem dX11_two_238 : decode cX11_two 238 = .ok (.getfield 62, 3) := by decide +kernel
theorem dX11_two_241 : decode cX11_two 241 = .ok (.iconst 2, 1) := by decide +kernel
theorem dX11_two_242 : decode cX11_two 242 = .ok (.iload 6, 2) := by decide +kernel
theorem dX11_two_244 : decode cX11_two 244 = .ok (.imul, 1) := by decide +kernel
theorem dX11_two_245 : decode cX11_two 245 = .ok (.iconst 1, 1) := by decide +kernel
theorem dX11_two_246 : decode cX11_two 246 = .ok (.iadd, 1) := by decide +kernel
theorem dX11_two_247 : decode cX11_two 247 = .ok (.iaload, 1) := by decide +kernel
theorem dX11_two_248 : decode cX11_two 248 = .ok (.if_icmp .lt 16, 3) := by decide +kernel
theorem dX11_two_251 : decode cX11_two 251 = .ok (.bipush 10, 2) := by decide +kernel
theorem dX11_two_253 : decode cX11_two 253 = .ok (.iload 4, 2) := by decide +kernel
theorem dX11_two_255 : decode cX11_two 255 = .ok (.iconst 2, 1) := by decide +kernel
theorem dX11_two_256 : decode cX11_two 256 = .ok (.idiv, 1) := by decide +kernel
theorem dX11_two_257 : decode cX11_two 257 = .ok (.imul, 1) := by decide +kernel
theorem dX11_two_258 : decode cX11_two 258 = .ok (.iload 4, 2) := by decide +kernel
theorem dX11_two_260 : decode cX11_two 260 = .ok (.iconst 2, 1) := by decide +kernel
theorem dX11_two_261 : decode cX11_two 261 = .ok (.irem, 1) := by decide +kernel
theorem dX11_two_262 : decode cX11_two 262 = .ok (.iadd, 1) := by decide +kernel
theorem dX11_two_263 : decode cX11_two 263 = .ok (.ireturn, 1) := by decide +kernel
theorem dX11_two_264 : decode cX11_two 264 = .ok (.iinc 4 1, 3) := by decide +kernel
theorem dX11_two_267 : decode cX11_two 267 = .ok (.goto (-98), 3) := by decide +kernel
theorem dX11_two_270 : decode cX11_two 270 = .ok (.bipush (-4), 2) := by decide +kernel
theorem dX11_two_272 : decode cX11_two 272 = .ok (.ireturn, 1) := by decide +kernel
abbrev cX11_divisor : ByteArray := prog_13_method_72_code
def yX11_divisor : MethodName := ⟨RX11, "divisor", "(JJ)J"⟩
theorem dX11_divisor_0 : decode cX11_divisor 0 = .ok (.lload_n 0, 1) := by decide +kernel
theorem dX11_divisor_1 : decode cX11_divisor 1 = .ok (.lstore 4, 2) := by decide +kernel
theorem dX11_divisor_3 : decode cX11_divisor 3 = .ok (.lload_n 2, 1) := by decide +kernel
theorem dX11_divisor_4 : decode cX11_divisor 4 = .ok (.lstore 6, 2) := by decide +kernel
theorem dX11_divisor_6 : decode cX11_divisor 6 = .ok (.lload 6, 2) := by decide +kernel
theorem dX11_divisor_8 : decode cX11_divisor 8 = .ok (.lconst 0, 1) := by decide +kernel
theorem dX11_divisor_9 : decode cX11_divisor 9 = .ok (.lcmp, 1) := by decide +kernel
theorem dX11_divisor_10 : decode cX11_divisor 10 = .ok (.ifCond .eq 21, 3) := by decide +kernel
theorem dX11_divisor_13 : decode cX11_divisor 13 = .ok (.lload 4, 2) := by decide +kernel
theorem dX11_divisor_15 : decode cX11_divisor 15 = .ok (.lload 6, 2) := by decide +kernel
theorem dX11_divisor_17 : decode cX11_divisor 17 = .ok (.lrem, 1) := by decide +kernel
theorem dX11_divisor_18 : decode cX11_divisor 18 = .ok (.lstore 8, 2) := by decide +kernel
theorem dX11_divisor_20 : decode cX11_divisor 20 = .ok (.lload 6, 2) := by decide +kernel
theorem dX11_divisor_22 : decode cX11_divisor 22 = .ok (.lstore 4, 2) := by decide +kernel
theorem dX11_divisor_24 : decode cX11_divisor 24 = .ok (.lload 8, 2) := by decide +kernel
theorem dX11_divisor_26 : decode cX11_divisor 26 = .ok (.lstore 6, 2) := by decide +kernel
theorem dX11_divisor_28 : decode cX11_divisor 28 = .ok (.goto (-22), 3) := by decide +kernel
theorem dX11_divisor_31 : decode cX11_divisor 31 = .ok (.lload 4, 2) := by decide +kernel
theorem dX11_divisor_33 : decode cX11_divisor 33 = .ok (.lreturn, 1) := by decide +kernel
abbrev cX11_partOf : ByteArray := prog_13_method_73_code
def yX11_partOf : MethodName := ⟨RX11, "partOf", "(JJI)J"⟩
theorem dX11_partOf_0 : decode cX11_partOf 0 = .ok (.lload_n 0, 1) := by decide +kernel
theorem dX11_partOf_1 : decode cX11_partOf 1 = .ok (.lconst 0, 1) := by decide +kernel
theorem dX11_partOf_2 : decode cX11_partOf 2 = .ok (.lcmp, 1) := by decide +kernel
theorem dX11_partOf_3 : decode cX11_partOf 3 = .ok (.ifCond .ne 7, 3) := by decide +kernel
theorem dX11_partOf_6 : decode cX11_partOf 6 = .ok (.iload 4, 2) := by decide +kernel
theorem dX11_partOf_8 : decode cX11_partOf 8 = .ok (.i2l, 1) := by decide +kernel
theorem dX11_partOf_9 : decode cX11_partOf 9 = .ok (.lreturn, 1) := by decide +kernel
theorem dX11_partOf_10 : decode cX11_partOf 10 = .ok (.lload_n 0, 1) := by decide +kernel
theorem dX11_partOf_11 : decode cX11_partOf 11 = .ok (.lload_n 2, 1) := by decide +kernel
theorem dX11_partOf_12 : decode cX11_partOf 12 = .ok (.invokestatic 281, 3) := by decide +kernel
theorem dX11_partOf_15 : decode cX11_partOf 15 = .ok (.lstore 5, 2) := by decide +kernel
theorem dX11_partOf_17 : decode cX11_partOf 17 = .ok (.iload 4, 2) := by decide +kernel
theorem dX11_partOf_19 : decode cX11_partOf 19 = .ok (.ifCond .ne 10, 3) := by decide +kernel
theorem dX11_partOf_22 : decode cX11_partOf 22 = .ok (.lload_n 0, 1) := by decide +kernel
theorem dX11_partOf_23 : decode cX11_partOf 23 = .ok (.lload 5, 2) := by decide +kernel
theorem dX11_partOf_25 : decode cX11_partOf 25 = .ok (.ldiv, 1) := by decide +kernel
theorem dX11_partOf_26 : decode cX11_partOf 26 = .ok (.goto 7, 3) := by decide +kernel
theorem dX11_partOf_29 : decode cX11_partOf 29 = .ok (.lload_n 2, 1) := by decide +kernel
theorem dX11_partOf_30 : decode cX11_partOf 30 = .ok (.lload 5, 2) := by decide +kernel
theorem dX11_partOf_32 : decode cX11_partOf 32 = .ok (.ldiv, 1) := by decide +kernel
theorem dX11_partOf_33 : decode cX11_partOf 33 = .ok (.lreturn, 1) := by decide +kernel
abbrev cX11_rain : ByteArray := prog_13_method_74_code
def yX11_rain : MethodName := ⟨RX11, "rain", "(IIII)J"⟩
theorem dX11_rain_0 : decode cX11_rain 0 = .ok (.aload_n 0, 1) := by decide +kernel
theorem dX11_rain_1 : decode cX11_rain 1 = .ok (.iconst 0, 1) := by decide +kernel
theorem dX11_rain_2 : decode cX11_rain 2 = .ok (.putfield 68, 3) := by decide +kernel
theorem dX11_rain_5 : decode cX11_rain 5 = .ok (.aload_n 0, 1) := by decide +kernel
theorem dX11_rain_6 : decode cX11_rain 6 = .ok (.iload_n 1, 1) := by decide +kernel
theorem dX11_rain_7 : decode cX11_rain 7 = .ok (.invokevirtual 174, 3) := by decide +kernel
theorem dX11_rain_10 : decode cX11_rain 10 = .ok (.ifCond .eq 40, 3) := by decide +kernel
theorem dX11_rain_13 : decode cX11_rain 13 = .ok (.iload_n 2, 1) := by decide +kernel
theorem dX11_rain_14 : decode cX11_rain 14 = .ok (.i2l, 1) := by decide +kernel
theorem dX11_rain_15 : decode cX11_rain 15 = .ok (.lconst 0, 1) := by decide +kernel
theorem dX11_rain_16 : decode cX11_rain 16 = .ok (.ldc2_w 214, 3) := by decide +kernel
theorem dX11_rain_19 : decode cX11_rain 19 = .ok (.invokestatic 80, 3) := by decide +kernel
theorem dX11_rain_22 : decode cX11_rain 22 = .ok (.ifCond .eq 28, 3) := by decide +kernel
theorem dX11_rain_25 : decode cX11_rain 25 = .ok (.iload_n 3, 1) := by decide +kernel
theorem dX11_rain_26 : decode cX11_rain 26 = .ok (.i2l, 1) := by decide +kernel
theorem dX11_rain_27 : decode cX11_rain 27 = .ok (.ldc2_w 274, 3) := by decide +kernel
theorem dX11_rain_30 : decode cX11_rain 30 = .ok (.ldc2_w 285, 3) := by decide +kernel
theorem dX11_rain_33 : decode cX11_rain 33 = .ok (.invokestatic 80, 3) := by decide +kernel
theorem dX11_rain_36 : decode cX11_rain 36 = .ok (.ifCond .eq 14, 3) := by decide +kernel
theorem dX11_rain_39 : decode cX11_rain 39 = .ok (.iload 4, 2) := by decide +kernel
theorem dX11_rain_41 : decode cX11_rain 41 = .ok (.i2l, 1) := by decide +kernel
theorem dX11_rain_42 : decode cX11_rain 42 = .ok (.lconst 0, 1) := by decide +kernel
theorem dX11_rain_43 : decode cX11_rain 43 = .ok (.lconst 1, 1) := by decide +kernel
theorem dX11_rain_44 : decode cX11_rain 44 = .ok (.invokestatic 80, 3) := by decide +kernel
theorem dX11_rain_47 : decode cX11_rain 47 = .ok (.ifCond .ne 7, 3) := by decide +kernel
theorem dX11_rain_50 : decode cX11_rain 50 = .ok (.ldc2_w 287, 3) := by decide +kernel
theorem dX11_rain_53 : decode cX11_rain 53 = .ok (.lreturn, 1) := by decide +kernel
theorem dX11_rain_54 : decode cX11_rain 54 = .ok (.lconst 0, 1) := by decide +kernel
theorem dX11_rain_55 : decode cX11_rain 55 = .ok (.lstore 5, 2) := by decide +kernel
theorem dX11_rain_57 : decode cX11_rain 57 = .ok (.lconst 1, 1) := by decide +kernel
theorem dX11_rain_58 : decode cX11_rain 58 = .ok (.lstore 7, 2) := by decide +kernel
theorem dX11_rain_60 : decode cX11_rain 60 = .ok (.iconst 0, 1) := by decide +kernel
theorem dX11_rain_61 : decode cX11_rain 61 = .ok (.istore 9, 2) := by decide +kernel
theorem dX11_rain_63 : decode cX11_rain 63 = .ok (.iload 9, 2) := by decide +kernel
theorem dX11_rain_65 : decode cX11_rain 65 = .ok (.iload_n 2, 1) := by decide +kernel
theorem dX11_rain_66 : decode cX11_rain 66 = .ok (.if_icmp .ge 16, 3) := by decide +kernel
theorem dX11_rain_69 : decode cX11_rain 69 = .ok (.lload 7, 2) := by decide +kernel
theorem dX11_rain_71 : decode cX11_rain 71 = .ok (.iload_n 3, 1) := by decide +kernel
theorem dX11_rain_72 : decode cX11_rain 72 = .ok (.i2l, 1) := by decide +kernel
theorem dX11_rain_73 : decode cX11_rain 73 = .ok (.lmul, 1) := by decide +kernel
theorem dX11_rain_74 : decode cX11_rain 74 = .ok (.lstore 7, 2) := by decide +kernel
theorem dX11_rain_76 : decode cX11_rain 76 = .ok (.iinc 9 1, 3) := by decide +kernel
theorem dX11_rain_79 : decode cX11_rain 79 = .ok (.goto (-16), 3) := by decide +kernel
theorem dX11_rain_82 : decode cX11_rain 82 = .ok (.aload_n 0, 1) := by decide +kernel
theorem dX11_rain_83 : decode cX11_rain 83 = .ok (.invokevirtual 186, 3) := by decide +kernel
theorem dX11_rain_86 : decode cX11_rain 86 = .ok (.iconst 0, 1) := by decide +kernel
theorem dX11_rain_87 : decode cX11_rain 87 = .ok (.istore 9, 2) := by decide +kernel
theorem dX11_rain_89 : decode cX11_rain 89 = .ok (.iload 9, 2) := by decide +kernel
theorem dX11_rain_91 : decode cX11_rain 91 = .ok (.iconst 1, 1) := by decide +kernel
theorem dX11_rain_92 : decode cX11_rain 92 = .ok (.iload_n 2, 1) := by decide +kernel
theorem dX11_rain_93 : decode cX11_rain 93 = .ok (.ishl, 1) := by decide +kernel
theorem dX11_rain_94 : decode cX11_rain 94 = .ok (.if_icmp .ge 84, 3) := by decide +kernel
theorem dX11_rain_97 : decode cX11_rain 97 = .ok (.lconst 1, 1) := by decide +kernel
theorem dX11_rain_98 : decode cX11_rain 98 = .ok (.lstore 10, 2) := by decide +kernel
theorem dX11_rain_100 : decode cX11_rain 100 = .ok (.iconst 0, 1) := by decide +kernel
theorem dX11_rain_101 : decode cX11_rain 101 = .ok (.istore 12, 2) := by decide +kernel
theorem dX11_rain_103 : decode cX11_rain 103 = .ok (.iload 12, 2) := by decide +kernel
theorem dX11_rain_105 : decode cX11_rain 105 = .ok (.iload_n 2, 1) := by decide +kernel
theorem dX11_rain_106 : decode cX11_rain 106 = .ok (.if_icmp .ge 43, 3) := by decide +kernel
theorem dX11_rain_109 : decode cX11_rain 109 = .ok (.lload 10, 2) := by decide +kernel
theorem dX11_rain_111 : decode cX11_rain 111 = .ok (.iload 9, 2) := by decide +kernel
theorem dX11_rain_113 : decode cX11_rain 113 = .ok (.iload 12, 2) := by decide +kernel
theorem dX11_rain_115 : decode cX11_rain 115 = .ok (.invokestatic 242, 3) := by decide +kernel
theorem dX11_rain_118 : decode cX11_rain 118 = .ok (.ifCond .eq 7, 3) := by decide +kernel
theorem dX11_rain_121 : decode cX11_rain 121 = .ok (.lconst 1, 1) := by decide +kernel
theorem dX11_rain_122 : decode cX11_rain 122 = .ok (.goto 7, 3) := by decide +kernel
theorem dX11_rain_125 : decode cX11_rain 125 = .ok (.iload_n 3, 1) := by decide +kernel
theorem dX11_rain_126 : decode cX11_rain 126 = .ok (.iconst 1, 1) := by decide +kernel
theorem dX11_rain_127 : decode cX11_rain 127 = .ok (.isub, 1) := by decide +kernel
theorem dX11_rain_128 : decode cX11_rain 128 = .ok (.i2l, 1) := by decide +kernel
theorem dX11_rain_129 : decode cX11_rain 129 = .ok (.lmul, 1) := by decide +kernel
theorem dX11_rain_130 : decode cX11_rain 130 = .ok (.lstore 10, 2) := by decide +kernel
theorem dX11_rain_132 : decode cX11_rain 132 = .ok (.aload_n 0, 1) := by decide +kernel
theorem dX11_rain_133 : decode cX11_rain 133 = .ok (.iload 9, 2) := by decide +kernel
theorem dX11_rain_135 : decode cX11_rain 135 = .ok (.iload 12, 2) := by decide +kernel
theorem dX11_rain_137 : decode cX11_rain 137 = .ok (.invokestatic 242, 3) := by decide +kernel
theorem dX11_rain_140 : decode cX11_rain 140 = .ok (.invokevirtual 126, 3) := by decide +kernel
theorem dX11_rain_143 : decode cX11_rain 143 = .ok (.iinc 12 1, 3) := by decide +kernel
theorem dX11_rain_146 : decode cX11_rain 146 = .ok (.goto (-43), 3) := by decide +kernel
theorem dX11_rain_149 : decode cX11_rain 149 = .ok (.lload 5, 2) := by decide +kernel
theorem dX11_rain_151 : decode cX11_rain 151 = .ok (.aload_n 0, 1) := by decide +kernel
theorem dX11_rain_152 : decode cX11_rain 152 = .ok (.iload_n 1, 1) := by decide +kernel
theorem dX11_rain_153 : decode cX11_rain 153 = .ok (.invokevirtual 111, 3) := by decide +kernel
theorem dX11_rain_156 : decode cX11_rain 156 = .ok (.ifCond .eq 8, 3) := by decide +kernel
theorem dX11_rain_159 : decode cX11_rain 159 = .ok (.lload 10, 2) := by decide +kernel
theorem dX11_rain_161 : decode cX11_rain 161 = .ok (.goto 4, 3) := by decide +kernel
theorem dX11_rain_164 : decode cX11_rain 164 = .ok (.lconst 0, 1) := by decide +kernel
theorem dX11_rain_165 : decode cX11_rain 165 = .ok (.ladd, 1) := by decide +kernel
theorem dX11_rain_166 : decode cX11_rain 166 = .ok (.lstore 5, 2) := by decide +kernel
theorem dX11_rain_168 : decode cX11_rain 168 = .ok (.aload_n 0, 1) := by decide +kernel
theorem dX11_rain_169 : decode cX11_rain 169 = .ok (.invokevirtual 192, 3) := by decide +kernel
theorem dX11_rain_172 : decode cX11_rain 172 = .ok (.iinc 9 1, 3) := by decide +kernel
theorem dX11_rain_175 : decode cX11_rain 175 = .ok (.goto (-86), 3) := by decide +kernel
theorem dX11_rain_178 : decode cX11_rain 178 = .ok (.lload 5, 2) := by decide +kernel
theorem dX11_rain_180 : decode cX11_rain 180 = .ok (.lload 7, 2) := by decide +kernel
theorem dX11_rain_182 : decode cX11_rain 182 = .ok (.iload 4, 2) := by decide +kernel
theorem dX11_rain_184 : decode cX11_rain 184 = .ok (.invokestatic 289, 3) := by decide +kernel
theorem dX11_rain_187 : decode cX11_rain 187 = .ok (.lreturn, 1) := by decide +kernel
abbrev cX11_mean : ByteArray := prog_13_method_75_code
def yX11_mean : MethodName := ⟨RX11, "mean", "(I)J"⟩
theorem dX11_mean_0 : decode cX11_mean 0 = .ok (.aload_n 0, 1) := by decide +kernel
theorem dX11_mean_1 : decode cX11_mean 1 = .ok (.iconst 0, 1) := by decide +kernel
theorem dX11_mean_2 : decode cX11_mean 2 = .ok (.putfield 68, 3) := by decide +kernel
theorem dX11_mean_5 : decode cX11_mean 5 = .ok (.iload_n 1, 1) := by decide +kernel
theorem dX11_mean_6 : decode cX11_mean 6 = .ok (.i2l, 1) := by decide +kernel
theorem dX11_mean_7 : decode cX11_mean 7 = .ok (.lconst 0, 1) := by decide +kernel
theorem dX11_mean_8 : decode cX11_mean 8 = .ok (.lconst 1, 1) := by decide +kernel
theorem dX11_mean_9 : decode cX11_mean 9 = .ok (.invokestatic 80, 3) := by decide +kernel
theorem dX11_mean_12 : decode cX11_mean 12 = .ok (.ifCond .eq 20, 3) := by decide +kernel
theorem dX11_mean_15 : decode cX11_mean 15 = .ok (.aload_n 0, 1) := by decide +kernel
theorem dX11_mean_16 : decode cX11_mean 16 = .ok (.invokevirtual 225, 3) := by decide +kernel
theorem dX11_mean_19 : decode cX11_mean 19 = .ok (.i2l, 1) := by decide +kernel
theorem dX11_mean_20 : decode cX11_mean 20 = .ok (.aload_n 0, 1) := by decide +kernel
theorem dX11_mean_21 : decode cX11_mean 21 = .ok (.getfield 84, 3) := by decide +kernel
theorem dX11_mean_24 : decode cX11_mean 24 = .ok (.i2l, 1) := by decide +kernel
theorem dX11_mean_25 : decode cX11_mean 25 = .ok (.iload_n 1, 1) := by decide +kernel
theorem dX11_mean_26 : decode cX11_mean 26 = .ok (.invokestatic 289, 3) := by decide +kernel
theorem dX11_mean_29 : decode cX11_mean 29 = .ok (.goto 6, 3) := by decide +kernel
theorem dX11_mean_32 : decode cX11_mean 32 = .ok (.ldc2_w 287, 3) := by decide +kernel
theorem dX11_mean_35 : decode cX11_mean 35 = .ok (.lreturn, 1) := by decide +kernel
abbrev cX11_forged : ByteArray := prog_13_method_76_code
def yX11_forged : MethodName := ⟨RX11, "forged", "(I)I"⟩
theorem dX11_forged_0 : decode cX11_forged 0 = .ok (.aload_n 0, 1) := by decide +kernel
theorem dX11_forged_1 : decode cX11_forged 1 = .ok (.iconst 0, 1) := by decide +kernel
theorem dX11_forged_2 : decode cX11_forged 2 = .ok (.putfield 68, 3) := by decide +kernel
theorem dX11_forged_5 : decode cX11_forged 5 = .ok (.aload_n 0, 1) := by decide +kernel
theorem dX11_forged_6 : decode cX11_forged 6 = .ok (.iload_n 1, 1) := by decide +kernel
theorem dX11_forged_7 : decode cX11_forged 7 = .ok (.invokevirtual 180, 3) := by decide +kernel
theorem dX11_forged_10 : decode cX11_forged 10 = .ok (.istore_n 2, 1) := by decide +kernel
theorem dX11_forged_11 : decode cX11_forged 11 = .ok (.iload_n 2, 1) := by decide +kernel
theorem dX11_forged_12 : decode cX11_forged 12 = .ok (.ifCond .ge 5, 3) := by decide +kernel
theorem dX11_forged_15 : decode cX11_forged 15 = .ok (.iload_n 2, 1) := by decide +kernel
theorem dX11_forged_16 : decode cX11_forged 16 = .ok (.ireturn, 1) := by decide +kernel
theorem dX11_forged_17 : decode cX11_forged 17 = .ok (.iconst 0, 1) := by decide +kernel
theorem dX11_forged_18 : decode cX11_forged 18 = .ok (.istore_n 3, 1) := by decide +kernel
theorem dX11_forged_19 : decode cX11_forged 19 = .ok (.iload_n 3, 1) := by decide +kernel
theorem dX11_forged_20 : decode cX11_forged 20 = .ok (.aload_n 0, 1) := by decide +kernel
theorem dX11_forged_21 : decode cX11_forged 21 = .ok (.getfield 37, 3) := by decide +kernel
theorem dX11_forged_24 : decode cX11_forged 24 = .ok (.iload_n 1, 1) := by decide +kernel
theorem dX11_forged_25 : decode cX11_forged 25 = .ok (.iaload, 1) := by decide +kernel
theorem dX11_forged_26 : decode cX11_forged 26 = .ok (.if_icmp .ge 41, 3) := by decide +kernel
theorem dX11_forged_29 : decode cX11_forged 29 = .ok (.iload_n 3, 1) := by decide +kernel
theorem dX11_forged_30 : decode cX11_forged 30 = .ok (.aload_n 0, 1) := by decide +kernel
theorem dX11_forged_31 : decode cX11_forged 31 = .ok (.getfield 84, 3) := by decide +kernel
theorem dX11_forged_34 : decode cX11_forged 34 = .ok (.if_icmp .ge 25, 3) := by decide +kernel
theorem dX11_forged_37 : decode cX11_forged 37 = .ok (.aload_n 0, 1) := by decide +kernel
theorem dX11_forged_38 : decode cX11_forged 38 = .ok (.getfield 40, 3) := by decide +kernel
theorem dX11_forged_41 : decode cX11_forged 41 = .ok (.bipush 100, 2) := by decide +kernel
theorem dX11_forged_43 : decode cX11_forged 43 = .ok (.iload_n 1, 1) := by decide +kernel
theorem dX11_forged_44 : decode cX11_forged 44 = .ok (.imul, 1) := by decide +kernel
theorem dX11_forged_45 : decode cX11_forged 45 = .ok (.iload_n 3, 1) := by decide +kernel
theorem dX11_forged_46 : decode cX11_forged 46 = .ok (.iadd, 1) := by decide +kernel
theorem dX11_forged_47 : decode cX11_forged 47 = .ok (.laload, 1) := by decide +kernel
theorem dX11_forged_48 : decode cX11_forged 48 = .ok (.aload_n 0, 1) := by decide +kernel
theorem dX11_forged_49 : decode cX11_forged 49 = .ok (.getfield 16, 3) := by decide +kernel
theorem dX11_forged_52 : decode cX11_forged 52 = .ok (.iload_n 3, 1) := by decide +kernel
theorem dX11_forged_53 : decode cX11_forged 53 = .ok (.iaload, 1) := by decide +kernel
theorem dX11_forged_54 : decode cX11_forged 54 = .ok (.i2l, 1) := by decide +kernel
theorem dX11_forged_55 : decode cX11_forged 55 = .ok (.lcmp, 1) := by decide +kernel
theorem dX11_forged_56 : decode cX11_forged 56 = .ok (.ifCond .eq 5, 3) := by decide +kernel
theorem dX11_forged_59 : decode cX11_forged 59 = .ok (.iload_n 3, 1) := by decide +kernel
theorem dX11_forged_60 : decode cX11_forged 60 = .ok (.ireturn, 1) := by decide +kernel
theorem dX11_forged_61 : decode cX11_forged 61 = .ok (.iinc 3 1, 3) := by decide +kernel
theorem dX11_forged_64 : decode cX11_forged 64 = .ok (.goto (-45), 3) := by decide +kernel
theorem dX11_forged_67 : decode cX11_forged 67 = .ok (.bipush (-4), 2) := by decide +kernel
theorem dX11_forged_69 : decode cX11_forged 69 = .ok (.ireturn, 1) := by decide +kernel
abbrev cX11_judge : ByteArray := prog_13_method_77_code
def yX11_judge : MethodName := ⟨RX11, "judge", "(I)I"⟩
theorem dX11_judge_0 : decode cX11_judge 0 = .ok (.aload_n 0, 1) := by decide +kernel
theorem dX11_judge_1 : decode cX11_judge 1 = .ok (.iconst 0, 1) := by decide +kernel
theorem dX11_judge_2 : decode cX11_judge 2 = .ok (.putfield 68, 3) := by decide +kernel
theorem dX11_judge_5 : decode cX11_judge 5 = .ok (.aload_n 0, 1) := by decide +kernel
theorem dX11_judge_6 : decode cX11_judge 6 = .ok (.iload_n 1, 1) := by decide +kernel
theorem dX11_judge_7 : decode cX11_judge 7 = .ok (.invokevirtual 180, 3) := by decide +kernel
theorem dX11_judge_10 : decode cX11_judge 10 = .ok (.istore_n 2, 1) := by decide +kernel
theorem dX11_judge_11 : decode cX11_judge 11 = .ok (.iload_n 2, 1) := by decide +kernel
theorem dX11_judge_12 : decode cX11_judge 12 = .ok (.ifCond .ge 5, 3) := by decide +kernel
theorem dX11_judge_15 : decode cX11_judge 15 = .ok (.iload_n 2, 1) := by decide +kernel
theorem dX11_judge_16 : decode cX11_judge 16 = .ok (.ireturn, 1) := by decide +kernel
theorem dX11_judge_17 : decode cX11_judge 17 = .ok (.bipush (-4), 2) := by decide +kernel
theorem dX11_judge_19 : decode cX11_judge 19 = .ok (.istore_n 3, 1) := by decide +kernel
theorem dX11_judge_20 : decode cX11_judge 20 = .ok (.aload_n 0, 1) := by decide +kernel
theorem dX11_judge_21 : decode cX11_judge 21 = .ok (.invokevirtual 186, 3) := by decide +kernel
theorem dX11_judge_24 : decode cX11_judge 24 = .ok (.iconst 0, 1) := by decide +kernel
theorem dX11_judge_25 : decode cX11_judge 25 = .ok (.istore 4, 2) := by decide +kernel
theorem dX11_judge_27 : decode cX11_judge 27 = .ok (.iload 4, 2) := by decide +kernel
theorem dX11_judge_29 : decode cX11_judge 29 = .ok (.aload_n 0, 1) := by decide +kernel
theorem dX11_judge_30 : decode cX11_judge 30 = .ok (.getfield 37, 3) := by decide +kernel
theorem dX11_judge_33 : decode cX11_judge 33 = .ok (.iload_n 1, 1) := by decide +kernel
theorem dX11_judge_34 : decode cX11_judge 34 = .ok (.iaload, 1) := by decide +kernel
theorem dX11_judge_35 : decode cX11_judge 35 = .ok (.if_icmp .ge 57, 3) := by decide +kernel
theorem dX11_judge_38 : decode cX11_judge 38 = .ok (.iload_n 3, 1) := by decide +kernel
theorem dX11_judge_39 : decode cX11_judge 39 = .ok (.ifCond .ge 53, 3) := by decide +kernel
theorem dX11_judge_42 : decode cX11_judge 42 = .ok (.aload_n 0, 1) := by decide +kernel
theorem dX11_judge_43 : decode cX11_judge 43 = .ok (.iload_n 1, 1) := by decide +kernel
theorem dX11_judge_44 : decode cX11_judge 44 = .ok (.iload 4, 2) := by decide +kernel
theorem dX11_judge_46 : decode cX11_judge 46 = .ok (.invokevirtual 271, 3) := by decide +kernel
theorem dX11_judge_49 : decode cX11_judge 49 = .ok (.ifCond .ne 29, 3) := by decide +kernel
theorem dX11_judge_52 : decode cX11_judge 52 = .ok (.aload_n 0, 1) := by decide +kernel
theorem dX11_judge_53 : decode cX11_judge 53 = .ok (.getfield 40, 3) := by decide +kernel
theorem dX11_judge_56 : decode cX11_judge 56 = .ok (.bipush 100, 2) := by decide +kernel
theorem dX11_judge_58 : decode cX11_judge 58 = .ok (.iload_n 1, 1) := by decide +kernel
theorem dX11_judge_59 : decode cX11_judge 59 = .ok (.imul, 1) := by decide +kernel
theorem dX11_judge_60 : decode cX11_judge 60 = .ok (.iload 4, 2) := by decide +kernel
theorem dX11_judge_62 : decode cX11_judge 62 = .ok (.iadd, 1) := by decide +kernel
theorem dX11_judge_63 : decode cX11_judge 63 = .ok (.laload, 1) := by decide +kernel
theorem dX11_judge_64 : decode cX11_judge 64 = .ok (.aload_n 0, 1) := by decide +kernel
theorem dX11_judge_65 : decode cX11_judge 65 = .ok (.invokevirtual 225, 3) := by decide +kernel
theorem dX11_judge_68 : decode cX11_judge 68 = .ok (.i2l, 1) := by decide +kernel
theorem dX11_judge_69 : decode cX11_judge 69 = .ok (.lcmp, 1) := by decide +kernel
theorem dX11_judge_70 : decode cX11_judge 70 = .ok (.ifCond .eq 8, 3) := by decide +kernel
theorem dX11_judge_73 : decode cX11_judge 73 = .ok (.iload 4, 2) := by decide +kernel
theorem dX11_judge_75 : decode cX11_judge 75 = .ok (.goto 5, 3) := by decide +kernel
theorem dX11_judge_78 : decode cX11_judge 78 = .ok (.bipush (-4), 2) := by decide +kernel
theorem dX11_judge_80 : decode cX11_judge 80 = .ok (.istore_n 3, 1) := by decide +kernel
theorem dX11_judge_81 : decode cX11_judge 81 = .ok (.aload_n 0, 1) := by decide +kernel
theorem dX11_judge_82 : decode cX11_judge 82 = .ok (.iconst 0, 1) := by decide +kernel
theorem dX11_judge_83 : decode cX11_judge 83 = .ok (.invokevirtual 126, 3) := by decide +kernel
theorem dX11_judge_86 : decode cX11_judge 86 = .ok (.iinc 4 1, 3) := by decide +kernel
theorem dX11_judge_89 : decode cX11_judge 89 = .ok (.goto (-62), 3) := by decide +kernel
theorem dX11_judge_92 : decode cX11_judge 92 = .ok (.aload_n 0, 1) := by decide +kernel
theorem dX11_judge_93 : decode cX11_judge 93 = .ok (.invokevirtual 192, 3) := by decide +kernel
theorem dX11_judge_96 : decode cX11_judge 96 = .ok (.iload_n 3, 1) := by decide +kernel
theorem dX11_judge_97 : decode cX11_judge 97 = .ok (.ireturn, 1) := by decide +kernel
abbrev cX11_drawBelow : ByteArray := prog_13_method_78_code
def yX11_drawBelow : MethodName := ⟨RX11, "drawBelow", "(I)I"⟩
theorem dX11_drawBelow_0 : decode cX11_drawBelow 0 = .ok (.aload_n 0, 1) := by decide +kernel
theorem dX11_drawBelow_1 : decode cX11_drawBelow 1 = .ok (.aload_n 0, 1) := by decide +kernel
theorem dX11_drawBelow_2 : decode cX11_drawBelow 2 = .ok (.getfield 293, 3) := by decide +kernel
theorem dX11_drawBelow_5 : decode cX11_drawBelow 5 = .ok (.ldc_w 296, 3) := by decide +kernel
theorem dX11_drawBelow_8 : decode cX11_drawBelow 8 = .ok (.imul, 1) := by decide +kernel
theorem dX11_drawBelow_9 : decode cX11_drawBelow 9 = .ok (.sipush 12345, 3) := by decide +kernel
theorem dX11_drawBelow_12 : decode cX11_drawBelow 12 = .ok (.iadd, 1) := by decide +kernel
theorem dX11_drawBelow_13 : decode cX11_drawBelow 13 = .ok (.putfield 293, 3) := by decide +kernel
theorem dX11_drawBelow_16 : decode cX11_drawBelow 16 = .ok (.aload_n 0, 1) := by decide +kernel
theorem dX11_drawBelow_17 : decode cX11_drawBelow 17 = .ok (.getfield 293, 3) := by decide +kernel
theorem dX11_drawBelow_20 : decode cX11_drawBelow 20 = .ok (.ldc_w 297, 3) := by decide +kernel
theorem dX11_drawBelow_23 : decode cX11_drawBelow 23 = .ok (.iand, 1) := by decide +kernel
theorem dX11_drawBelow_24 : decode cX11_drawBelow 24 = .ok (.ldc_w 298, 3) := by decide +kernel
theorem dX11_drawBelow_27 : decode cX11_drawBelow 27 = .ok (.idiv, 1) := by decide +kernel
theorem dX11_drawBelow_28 : decode cX11_drawBelow 28 = .ok (.iload_n 1, 1) := by decide +kernel
theorem dX11_drawBelow_29 : decode cX11_drawBelow 29 = .ok (.irem, 1) := by decide +kernel
theorem dX11_drawBelow_30 : decode cX11_drawBelow 30 = .ok (.ireturn, 1) := by decide +kernel
abbrev cX11_years : ByteArray := prog_13_method_79_code
def yX11_years : MethodName := ⟨RX11, "years", "(III)I"⟩
theorem dX11_years_0 : decode cX11_years 0 = .ok (.aload_n 0, 1) := by decide +kernel
theorem dX11_years_1 : decode cX11_years 1 = .ok (.iconst 0, 1) := by decide +kernel
theorem dX11_years_2 : decode cX11_years 2 = .ok (.putfield 68, 3) := by decide +kernel
theorem dX11_years_5 : decode cX11_years 5 = .ok (.iload_n 1, 1) := by decide +kernel
theorem dX11_years_6 : decode cX11_years 6 = .ok (.i2l, 1) := by decide +kernel
theorem dX11_years_7 : decode cX11_years 7 = .ok (.lconst 1, 1) := by decide +kernel
theorem dX11_years_8 : decode cX11_years 8 = .ok (.ldc2_w 285, 3) := by decide +kernel
theorem dX11_years_11 : decode cX11_years 11 = .ok (.invokestatic 80, 3) := by decide +kernel
theorem dX11_years_14 : decode cX11_years 14 = .ok (.ifCond .eq 13, 3) := by decide +kernel
theorem dX11_years_17 : decode cX11_years 17 = .ok (.iload_n 3, 1) := by decide +kernel
theorem dX11_years_18 : decode cX11_years 18 = .ok (.i2l, 1) := by decide +kernel
theorem dX11_years_19 : decode cX11_years 19 = .ok (.lconst 0, 1) := by decide +kernel
theorem dX11_years_20 : decode cX11_years 20 = .ok (.lconst 1, 1) := by decide +kernel
theorem dX11_years_21 : decode cX11_years 21 = .ok (.invokestatic 80, 3) := by decide +kernel
theorem dX11_years_24 : decode cX11_years 24 = .ok (.ifCond .ne 5, 3) := by decide +kernel
theorem dX11_years_27 : decode cX11_years 27 = .ok (.iconst (-1), 1) := by decide +kernel
theorem dX11_years_28 : decode cX11_years 28 = .ok (.ireturn, 1) := by decide +kernel
theorem dX11_years_29 : decode cX11_years 29 = .ok (.aload_n 0, 1) := by decide +kernel
theorem dX11_years_30 : decode cX11_years 30 = .ok (.iload_n 2, 1) := by decide +kernel
theorem dX11_years_31 : decode cX11_years 31 = .ok (.putfield 293, 3) := by decide +kernel
theorem dX11_years_34 : decode cX11_years 34 = .ok (.iconst 0, 1) := by decide +kernel
theorem dX11_years_35 : decode cX11_years 35 = .ok (.istore 4, 2) := by decide +kernel
theorem dX11_years_37 : decode cX11_years 37 = .ok (.aload_n 0, 1) := by decide +kernel
theorem dX11_years_38 : decode cX11_years 38 = .ok (.getfield 117, 3) := by decide +kernel
theorem dX11_years_41 : decode cX11_years 41 = .ok (.istore 5, 2) := by decide +kernel
theorem dX11_years_43 : decode cX11_years 43 = .ok (.aload_n 0, 1) := by decide +kernel
theorem dX11_years_44 : decode cX11_years 44 = .ok (.invokevirtual 186, 3) := by decide +kernel
theorem dX11_years_47 : decode cX11_years 47 = .ok (.iconst 0, 1) := by decide +kernel
theorem dX11_years_48 : decode cX11_years 48 = .ok (.istore 6, 2) := by decide +kernel
theorem dX11_years_50 : decode cX11_years 50 = .ok (.iload 6, 2) := by decide +kernel
theorem dX11_years_52 : decode cX11_years 52 = .ok (.iload_n 1, 1) := by decide +kernel
theorem dX11_years_53 : decode cX11_years 53 = .ok (.if_icmp .ge 73, 3) := by decide +kernel
theorem dX11_years_56 : decode cX11_years 56 = .ok (.iconst 0, 1) := by decide +kernel
theorem dX11_years_57 : decode cX11_years 57 = .ok (.istore 7, 2) := by decide +kernel
theorem dX11_years_59 : decode cX11_years 59 = .ok (.iload 7, 2) := by decide +kernel
theorem dX11_years_61 : decode cX11_years 61 = .ok (.aload_n 0, 1) := by decide +kernel
theorem dX11_years_62 : decode cX11_years 62 = .ok (.getfield 84, 3) := by decide +kernel
theorem dX11_years_65 : decode cX11_years 65 = .ok (.if_icmp .ge 22, 3) := by decide +kernel
theorem dX11_years_68 : decode cX11_years 68 = .ok (.aload_n 0, 1) := by decide +kernel
theorem dX11_years_69 : decode cX11_years 69 = .ok (.getfield 16, 3) := by decide +kernel
theorem dX11_years_72 : decode cX11_years 72 = .ok (.iload 7, 2) := by decide +kernel
theorem dX11_years_74 : decode cX11_years 74 = .ok (.aload_n 0, 1) := by decide +kernel
theorem dX11_years_75 : decode cX11_years 75 = .ok (.bipush 12, 2) := by decide +kernel
theorem dX11_years_77 : decode cX11_years 77 = .ok (.invokevirtual 299, 3) := by decide +kernel
theorem dX11_years_80 : decode cX11_years 80 = .ok (.iastore, 1) := by decide +kernel
theorem dX11_years_81 : decode cX11_years 81 = .ok (.iinc 7 1, 3) := by decide +kernel
theorem dX11_years_84 : decode cX11_years 84 = .ok (.goto (-25), 3) := by decide +kernel
theorem dX11_years_87 : decode cX11_years 87 = .ok (.aload_n 0, 1) := by decide +kernel
theorem dX11_years_88 : decode cX11_years 88 = .ok (.bipush 12, 2) := by decide +kernel
theorem dX11_years_90 : decode cX11_years 90 = .ok (.invokevirtual 166, 3) := by decide +kernel
theorem dX11_years_93 : decode cX11_years 93 = .ok (.iload 4, 2) := by decide +kernel
theorem dX11_years_95 : decode cX11_years 95 = .ok (.iload_n 3, 1) := by decide +kernel
theorem dX11_years_96 : decode cX11_years 96 = .ok (.ifCond .ne 10, 3) := by decide +kernel
theorem dX11_years_99 : decode cX11_years 99 = .ok (.aload_n 0, 1) := by decide +kernel
theorem dX11_years_100 : decode cX11_years 100 = .ok (.invokevirtual 225, 3) := by decide +kernel
theorem dX11_years_103 : decode cX11_years 103 = .ok (.goto 10, 3) := by decide +kernel
theorem dX11_years_106 : decode cX11_years 106 = .ok (.aload_n 0, 1) := by decide +kernel
theorem dX11_years_107 : decode cX11_years 107 = .ok (.getfield 117, 3) := by decide +kernel
theorem dX11_years_110 : decode cX11_years 110 = .ok (.iload 5, 2) := by decide +kernel
theorem dX11_years_112 : decode cX11_years 112 = .ok (.isub, 1) := by decide +kernel
theorem dX11_years_113 : decode cX11_years 113 = .ok (.iadd, 1) := by decide +kernel
theorem dX11_years_114 : decode cX11_years 114 = .ok (.istore 4, 2) := by decide +kernel
theorem dX11_years_116 : decode cX11_years 116 = .ok (.aload_n 0, 1) := by decide +kernel
theorem dX11_years_117 : decode cX11_years 117 = .ok (.invokevirtual 192, 3) := by decide +kernel
theorem dX11_years_120 : decode cX11_years 120 = .ok (.iinc 6 1, 3) := by decide +kernel
theorem dX11_years_123 : decode cX11_years 123 = .ok (.goto (-73), 3) := by decide +kernel
theorem dX11_years_126 : decode cX11_years 126 = .ok (.iload 4, 2) := by decide +kernel
theorem dX11_years_128 : decode cX11_years 128 = .ok (.ireturn, 1) := by decide +kernel
abbrev cX11_count : ByteArray := prog_13_method_80_code
def yX11_count : MethodName := ⟨RX11, "count", "(I)I"⟩
theorem dX11_count_0 : decode cX11_count 0 = .ok (.aload_n 0, 1) := by decide +kernel
theorem dX11_count_1 : decode cX11_count 1 = .ok (.iconst 0, 1) := by decide +kernel
theorem dX11_count_2 : decode cX11_count 2 = .ok (.putfield 68, 3) := by decide +kernel
theorem dX11_count_5 : decode cX11_count 5 = .ok (.iload_n 1, 1) := by decide +kernel
theorem dX11_count_6 : decode cX11_count 6 = .ok (.tableswitch 77 0 6 #[42, 47, 52, 57, 62, 67, 72], 42) := by decide +kernel
theorem dX11_count_48 : decode cX11_count 48 = .ok (.aload_n 0, 1) := by decide +kernel
theorem dX11_count_49 : decode cX11_count 49 = .ok (.getfield 84, 3) := by decide +kernel
theorem dX11_count_52 : decode cX11_count 52 = .ok (.ireturn, 1) := by decide +kernel
theorem dX11_count_53 : decode cX11_count 53 = .ok (.aload_n 0, 1) := by decide +kernel
theorem dX11_count_54 : decode cX11_count 54 = .ok (.getfield 97, 3) := by decide +kernel
theorem dX11_count_57 : decode cX11_count 57 = .ok (.ireturn, 1) := by decide +kernel
theorem dX11_count_58 : decode cX11_count 58 = .ok (.aload_n 0, 1) := by decide +kernel
theorem dX11_count_59 : decode cX11_count 59 = .ok (.getfield 91, 3) := by decide +kernel
theorem dX11_count_62 : decode cX11_count 62 = .ok (.ireturn, 1) := by decide +kernel
theorem dX11_count_63 : decode cX11_count 63 = .ok (.aload_n 0, 1) := by decide +kernel
theorem dX11_count_64 : decode cX11_count 64 = .ok (.getfield 117, 3) := by decide +kernel
theorem dX11_count_67 : decode cX11_count 67 = .ok (.ireturn, 1) := by decide +kernel
theorem dX11_count_68 : decode cX11_count 68 = .ok (.aload_n 0, 1) := by decide +kernel
theorem dX11_count_69 : decode cX11_count 69 = .ok (.invokevirtual 225, 3) := by decide +kernel
theorem dX11_count_72 : decode cX11_count 72 = .ok (.ireturn, 1) := by decide +kernel
theorem dX11_count_73 : decode cX11_count 73 = .ok (.aload_n 0, 1) := by decide +kernel
theorem dX11_count_74 : decode cX11_count 74 = .ok (.getfield 72, 3) := by decide +kernel
theorem dX11_count_77 : decode cX11_count 77 = .ok (.ireturn, 1) := by decide +kernel
theorem dX11_count_78 : decode cX11_count 78 = .ok (.aload_n 0, 1) := by decide +kernel
theorem dX11_count_79 : decode cX11_count 79 = .ok (.getfield 75, 3) := by decide +kernel
theorem dX11_count_82 : decode cX11_count 82 = .ok (.ireturn, 1) := by decide +kernel
theorem dX11_count_83 : decode cX11_count 83 = .ok (.iconst (-1), 1) := by decide +kernel
theorem dX11_count_84 : decode cX11_count 84 = .ok (.ireturn, 1) := by decide +kernel
abbrev cX11_keep : ByteArray := prog_13_method_82_code
def yX11_keep : MethodName := ⟨RX11, "keep", "(IIII)I"⟩
theorem dX11_keep_0 : decode cX11_keep 0 = .ok (.aload_n 0, 1) := by decide +kernel
theorem dX11_keep_1 : decode cX11_keep 1 = .ok (.iconst 0, 1) := by decide +kernel
theorem dX11_keep_2 : decode cX11_keep 2 = .ok (.putfield 68, 3) := by decide +kernel
theorem dX11_keep_5 : decode cX11_keep 5 = .ok (.iload_n 1, 1) := by decide +kernel
theorem dX11_keep_6 : decode cX11_keep 6 = .ok (.i2l, 1) := by decide +kernel
theorem dX11_keep_7 : decode cX11_keep 7 = .ok (.lconst 0, 1) := by decide +kernel
theorem dX11_keep_8 : decode cX11_keep 8 = .ok (.ldc2_w 214, 3) := by decide +kernel
theorem dX11_keep_11 : decode cX11_keep 11 = .ok (.invokestatic 80, 3) := by decide +kernel
theorem dX11_keep_14 : decode cX11_keep 14 = .ok (.ifCond .eq 43, 3) := by decide +kernel
theorem dX11_keep_17 : decode cX11_keep 17 = .ok (.iload_n 2, 1) := by decide +kernel
theorem dX11_keep_18 : decode cX11_keep 18 = .ok (.i2l, 1) := by decide +kernel
theorem dX11_keep_19 : decode cX11_keep 19 = .ok (.lconst 0, 1) := by decide +kernel
theorem dX11_keep_20 : decode cX11_keep 20 = .ok (.lconst 1, 1) := by decide +kernel
theorem dX11_keep_21 : decode cX11_keep 21 = .ok (.invokestatic 80, 3) := by decide +kernel
theorem dX11_keep_24 : decode cX11_keep 24 = .ok (.ifCond .eq 33, 3) := by decide +kernel
theorem dX11_keep_27 : decode cX11_keep 27 = .ok (.iload_n 2, 1) := by decide +kernel
theorem dX11_keep_28 : decode cX11_keep 28 = .ok (.iconst 1, 1) := by decide +kernel
theorem dX11_keep_29 : decode cX11_keep 29 = .ok (.if_icmp .ne 30, 3) := by decide +kernel
theorem dX11_keep_32 : decode cX11_keep 32 = .ok (.iload_n 3, 1) := by decide +kernel
theorem dX11_keep_33 : decode cX11_keep 33 = .ok (.i2l, 1) := by decide +kernel
theorem dX11_keep_34 : decode cX11_keep 34 = .ok (.lconst 0, 1) := by decide +kernel
theorem dX11_keep_35 : decode cX11_keep 35 = .ok (.ldc2_w 214, 3) := by decide +kernel
theorem dX11_keep_38 : decode cX11_keep 38 = .ok (.invokestatic 80, 3) := by decide +kernel
theorem dX11_keep_41 : decode cX11_keep 41 = .ok (.ifCond .eq 16, 3) := by decide +kernel
theorem dX11_keep_44 : decode cX11_keep 44 = .ok (.iload 4, 2) := by decide +kernel
theorem dX11_keep_46 : decode cX11_keep 46 = .ok (.i2l, 1) := by decide +kernel
theorem dX11_keep_47 : decode cX11_keep 47 = .ok (.lconst 0, 1) := by decide +kernel
theorem dX11_keep_48 : decode cX11_keep 48 = .ok (.ldc2_w 302, 3) := by decide +kernel
theorem dX11_keep_51 : decode cX11_keep 51 = .ok (.invokestatic 80, 3) := by decide +kernel
theorem dX11_keep_54 : decode cX11_keep 54 = .ok (.ifCond .ne 5, 3) := by decide +kernel
theorem dX11_keep_57 : decode cX11_keep 57 = .ok (.iconst (-1), 1) := by decide +kernel
theorem dX11_keep_58 : decode cX11_keep 58 = .ok (.ireturn, 1) := by decide +kernel
theorem dX11_keep_59 : decode cX11_keep 59 = .ok (.aload_n 0, 1) := by decide +kernel
theorem dX11_keep_60 : decode cX11_keep 60 = .ok (.getfield 25, 3) := by decide +kernel
theorem dX11_keep_63 : decode cX11_keep 63 = .ok (.iload_n 1, 1) := by decide +kernel
theorem dX11_keep_64 : decode cX11_keep 64 = .ok (.iload_n 2, 1) := by decide +kernel
theorem dX11_keep_65 : decode cX11_keep 65 = .ok (.iastore, 1) := by decide +kernel
theorem dX11_keep_66 : decode cX11_keep 66 = .ok (.aload_n 0, 1) := by decide +kernel
theorem dX11_keep_67 : decode cX11_keep 67 = .ok (.getfield 28, 3) := by decide +kernel
theorem dX11_keep_70 : decode cX11_keep 70 = .ok (.iload_n 1, 1) := by decide +kernel
theorem dX11_keep_71 : decode cX11_keep 71 = .ok (.iload_n 2, 1) := by decide +kernel
theorem dX11_keep_72 : decode cX11_keep 72 = .ok (.iconst 1, 1) := by decide +kernel
theorem dX11_keep_73 : decode cX11_keep 73 = .ok (.if_icmp .ne 7, 3) := by decide +kernel
theorem dX11_keep_76 : decode cX11_keep 76 = .ok (.iload_n 3, 1) := by decide +kernel
theorem dX11_keep_77 : decode cX11_keep 77 = .ok (.goto 4, 3) := by decide +kernel
theorem dX11_keep_80 : decode cX11_keep 80 = .ok (.iconst 0, 1) := by decide +kernel
theorem dX11_keep_81 : decode cX11_keep 81 = .ok (.iastore, 1) := by decide +kernel
theorem dX11_keep_82 : decode cX11_keep 82 = .ok (.aload_n 0, 1) := by decide +kernel
theorem dX11_keep_83 : decode cX11_keep 83 = .ok (.getfield 31, 3) := by decide +kernel
theorem dX11_keep_86 : decode cX11_keep 86 = .ok (.iload_n 1, 1) := by decide +kernel
theorem dX11_keep_87 : decode cX11_keep 87 = .ok (.iload_n 2, 1) := by decide +kernel
theorem dX11_keep_88 : decode cX11_keep 88 = .ok (.iconst 1, 1) := by decide +kernel
theorem dX11_keep_89 : decode cX11_keep 89 = .ok (.if_icmp .ne 8, 3) := by decide +kernel
theorem dX11_keep_92 : decode cX11_keep 92 = .ok (.iload 4, 2) := by decide +kernel
theorem dX11_keep_94 : decode cX11_keep 94 = .ok (.goto 4, 3) := by decide +kernel
theorem dX11_keep_97 : decode cX11_keep 97 = .ok (.iconst 0, 1) := by decide +kernel
theorem dX11_keep_98 : decode cX11_keep 98 = .ok (.iastore, 1) := by decide +kernel
theorem dX11_keep_99 : decode cX11_keep 99 = .ok (.iconst 0, 1) := by decide +kernel
theorem dX11_keep_100 : decode cX11_keep 100 = .ok (.ireturn, 1) := by decide +kernel
abbrev cX11_narrowed : ByteArray := prog_13_method_84_code
def yX11_narrowed : MethodName := ⟨RX11, "narrowed", "(II)J"⟩
theorem dX11_narrowed_0 : decode cX11_narrowed 0 = .ok (.iload_n 1, 1) := by decide +kernel
theorem dX11_narrowed_1 : decode cX11_narrowed 1 = .ok (.ifCond .ne 9, 3) := by decide +kernel
theorem dX11_narrowed_4 : decode cX11_narrowed 4 = .ok (.iload_n 0, 1) := by decide +kernel
theorem dX11_narrowed_5 : decode cX11_narrowed 5 = .ok (.i2b, 1) := by decide +kernel
theorem dX11_narrowed_6 : decode cX11_narrowed 6 = .ok (.i2l, 1) := by decide +kernel
theorem dX11_narrowed_7 : decode cX11_narrowed 7 = .ok (.goto 16, 3) := by decide +kernel
theorem dX11_narrowed_10 : decode cX11_narrowed 10 = .ok (.iload_n 1, 1) := by decide +kernel
theorem dX11_narrowed_11 : decode cX11_narrowed 11 = .ok (.iconst 1, 1) := by decide +kernel
theorem dX11_narrowed_12 : decode cX11_narrowed 12 = .ok (.if_icmp .ne 9, 3) := by decide +kernel
theorem dX11_narrowed_15 : decode cX11_narrowed 15 = .ok (.iload_n 0, 1) := by decide +kernel
theorem dX11_narrowed_16 : decode cX11_narrowed 16 = .ok (.i2s, 1) := by decide +kernel
theorem dX11_narrowed_17 : decode cX11_narrowed 17 = .ok (.i2l, 1) := by decide +kernel
theorem dX11_narrowed_18 : decode cX11_narrowed 18 = .ok (.goto 5, 3) := by decide +kernel
theorem dX11_narrowed_21 : decode cX11_narrowed 21 = .ok (.iload_n 0, 1) := by decide +kernel
theorem dX11_narrowed_22 : decode cX11_narrowed 22 = .ok (.i2l, 1) := by decide +kernel
theorem dX11_narrowed_23 : decode cX11_narrowed 23 = .ok (.lreturn, 1) := by decide +kernel
abbrev cX11_row : ByteArray := prog_13_method_85_code
def yX11_row : MethodName := ⟨RX11, "row", "(III)I"⟩
theorem dX11_row_0 : decode cX11_row 0 = .ok (.aload_n 0, 1) := by decide +kernel
theorem dX11_row_1 : decode cX11_row 1 = .ok (.iconst 0, 1) := by decide +kernel
theorem dX11_row_2 : decode cX11_row 2 = .ok (.putfield 68, 3) := by decide +kernel
theorem dX11_row_5 : decode cX11_row 5 = .ok (.iload_n 1, 1) := by decide +kernel
theorem dX11_row_6 : decode cX11_row 6 = .ok (.i2l, 1) := by decide +kernel
theorem dX11_row_7 : decode cX11_row 7 = .ok (.lconst 0, 1) := by decide +kernel
theorem dX11_row_8 : decode cX11_row 8 = .ok (.ldc2_w 214, 3) := by decide +kernel
theorem dX11_row_11 : decode cX11_row 11 = .ok (.invokestatic 80, 3) := by decide +kernel
theorem dX11_row_14 : decode cX11_row 14 = .ok (.ifCond .eq 21, 3) := by decide +kernel
theorem dX11_row_17 : decode cX11_row 17 = .ok (.iload_n 2, 1) := by decide +kernel
theorem dX11_row_18 : decode cX11_row 18 = .ok (.i2l, 1) := by decide +kernel
theorem dX11_row_19 : decode cX11_row 19 = .ok (.lconst 0, 1) := by decide +kernel
theorem dX11_row_20 : decode cX11_row 20 = .ok (.ldc2_w 274, 3) := by decide +kernel
theorem dX11_row_23 : decode cX11_row 23 = .ok (.invokestatic 80, 3) := by decide +kernel
theorem dX11_row_26 : decode cX11_row 26 = .ok (.ifCond .eq 9, 3) := by decide +kernel
theorem dX11_row_29 : decode cX11_row 29 = .ok (.iload_n 3, 1) := by decide +kernel
theorem dX11_row_30 : decode cX11_row 30 = .ok (.bipush 100, 2) := by decide +kernel
theorem dX11_row_32 : decode cX11_row 32 = .ok (.if_icmp .le 5, 3) := by decide +kernel
theorem dX11_row_35 : decode cX11_row 35 = .ok (.iconst (-1), 1) := by decide +kernel
theorem dX11_row_36 : decode cX11_row 36 = .ok (.ireturn, 1) := by decide +kernel
theorem dX11_row_37 : decode cX11_row 37 = .ok (.iload_n 3, 1) := by decide +kernel
theorem dX11_row_38 : decode cX11_row 38 = .ok (.ifCond .ge 6, 3) := by decide +kernel
theorem dX11_row_41 : decode cX11_row 41 = .ok (.bipush (-14), 2) := by decide +kernel
theorem dX11_row_43 : decode cX11_row 43 = .ok (.ireturn, 1) := by decide +kernel
theorem dX11_row_44 : decode cX11_row 44 = .ok (.aload_n 0, 1) := by decide +kernel
theorem dX11_row_45 : decode cX11_row 45 = .ok (.getfield 25, 3) := by decide +kernel
theorem dX11_row_48 : decode cX11_row 48 = .ok (.iload_n 1, 1) := by decide +kernel
theorem dX11_row_49 : decode cX11_row 49 = .ok (.iconst 2, 1) := by decide +kernel
theorem dX11_row_50 : decode cX11_row 50 = .ok (.iastore, 1) := by decide +kernel
theorem dX11_row_51 : decode cX11_row 51 = .ok (.aload_n 0, 1) := by decide +kernel
theorem dX11_row_52 : decode cX11_row 52 = .ok (.getfield 34, 3) := by decide +kernel
theorem dX11_row_55 : decode cX11_row 55 = .ok (.iload_n 1, 1) := by decide +kernel
theorem dX11_row_56 : decode cX11_row 56 = .ok (.iload_n 2, 1) := by decide +kernel
theorem dX11_row_57 : decode cX11_row 57 = .ok (.iastore, 1) := by decide +kernel
theorem dX11_row_58 : decode cX11_row 58 = .ok (.aload_n 0, 1) := by decide +kernel
theorem dX11_row_59 : decode cX11_row 59 = .ok (.getfield 37, 3) := by decide +kernel
theorem dX11_row_62 : decode cX11_row 62 = .ok (.iload_n 1, 1) := by decide +kernel
theorem dX11_row_63 : decode cX11_row 63 = .ok (.iload_n 3, 1) := by decide +kernel
theorem dX11_row_64 : decode cX11_row 64 = .ok (.iastore, 1) := by decide +kernel
theorem dX11_row_65 : decode cX11_row 65 = .ok (.iconst 0, 1) := by decide +kernel
theorem dX11_row_66 : decode cX11_row 66 = .ok (.istore 4, 2) := by decide +kernel
theorem dX11_row_68 : decode cX11_row 68 = .ok (.iload 4, 2) := by decide +kernel
theorem dX11_row_70 : decode cX11_row 70 = .ok (.bipush 100, 2) := by decide +kernel
theorem dX11_row_72 : decode cX11_row 72 = .ok (.if_icmp .ge 22, 3) := by decide +kernel
theorem dX11_row_75 : decode cX11_row 75 = .ok (.aload_n 0, 1) := by decide +kernel
theorem dX11_row_76 : decode cX11_row 76 = .ok (.getfield 40, 3) := by decide +kernel
theorem dX11_row_79 : decode cX11_row 79 = .ok (.bipush 100, 2) := by decide +kernel
theorem dX11_row_81 : decode cX11_row 81 = .ok (.iload_n 1, 1) := by decide +kernel
theorem dX11_row_82 : decode cX11_row 82 = .ok (.imul, 1) := by decide +kernel
theorem dX11_row_83 : decode cX11_row 83 = .ok (.iload 4, 2) := by decide +kernel
theorem dX11_row_85 : decode cX11_row 85 = .ok (.iadd, 1) := by decide +kernel
theorem dX11_row_86 : decode cX11_row 86 = .ok (.lconst 0, 1) := by decide +kernel
theorem dX11_row_87 : decode cX11_row 87 = .ok (.lastore, 1) := by decide +kernel
theorem dX11_row_88 : decode cX11_row 88 = .ok (.iinc 4 1, 3) := by decide +kernel
theorem dX11_row_91 : decode cX11_row 91 = .ok (.goto (-23), 3) := by decide +kernel
theorem dX11_row_94 : decode cX11_row 94 = .ok (.iconst 0, 1) := by decide +kernel
theorem dX11_row_95 : decode cX11_row 95 = .ok (.ireturn, 1) := by decide +kernel
abbrev cX11_put : ByteArray := prog_13_method_86_code
def yX11_put : MethodName := ⟨RX11, "put", "(III)I"⟩
theorem dX11_put_0 : decode cX11_put 0 = .ok (.aload_n 0, 1) := by decide +kernel
theorem dX11_put_1 : decode cX11_put 1 = .ok (.iconst 0, 1) := by decide +kernel
theorem dX11_put_2 : decode cX11_put 2 = .ok (.putfield 68, 3) := by decide +kernel
theorem dX11_put_5 : decode cX11_put 5 = .ok (.aload_n 0, 1) := by decide +kernel
theorem dX11_put_6 : decode cX11_put 6 = .ok (.iload_n 1, 1) := by decide +kernel
theorem dX11_put_7 : decode cX11_put 7 = .ok (.invokevirtual 180, 3) := by decide +kernel
theorem dX11_put_10 : decode cX11_put 10 = .ok (.istore 4, 2) := by decide +kernel
theorem dX11_put_12 : decode cX11_put 12 = .ok (.iload 4, 2) := by decide +kernel
theorem dX11_put_14 : decode cX11_put 14 = .ok (.ifCond .ge 6, 3) := by decide +kernel
theorem dX11_put_17 : decode cX11_put 17 = .ok (.iload 4, 2) := by decide +kernel
theorem dX11_put_19 : decode cX11_put 19 = .ok (.ireturn, 1) := by decide +kernel
theorem dX11_put_20 : decode cX11_put 20 = .ok (.iload_n 2, 1) := by decide +kernel
theorem dX11_put_21 : decode cX11_put 21 = .ok (.i2l, 1) := by decide +kernel
theorem dX11_put_22 : decode cX11_put 22 = .ok (.lconst 0, 1) := by decide +kernel
theorem dX11_put_23 : decode cX11_put 23 = .ok (.aload_n 0, 1) := by decide +kernel
theorem dX11_put_24 : decode cX11_put 24 = .ok (.getfield 37, 3) := by decide +kernel
theorem dX11_put_27 : decode cX11_put 27 = .ok (.iload_n 1, 1) := by decide +kernel
theorem dX11_put_28 : decode cX11_put 28 = .ok (.iaload, 1) := by decide +kernel
theorem dX11_put_29 : decode cX11_put 29 = .ok (.iconst 1, 1) := by decide +kernel
theorem dX11_put_30 : decode cX11_put 30 = .ok (.isub, 1) := by decide +kernel
theorem dX11_put_31 : decode cX11_put 31 = .ok (.i2l, 1) := by decide +kernel
theorem dX11_put_32 : decode cX11_put 32 = .ok (.invokestatic 80, 3) := by decide +kernel
theorem dX11_put_35 : decode cX11_put 35 = .ok (.ifCond .ne 6, 3) := by decide +kernel
theorem dX11_put_38 : decode cX11_put 38 = .ok (.bipush (-13), 2) := by decide +kernel
theorem dX11_put_40 : decode cX11_put 40 = .ok (.ireturn, 1) := by decide +kernel
theorem dX11_put_41 : decode cX11_put 41 = .ok (.aload_n 0, 1) := by decide +kernel
theorem dX11_put_42 : decode cX11_put 42 = .ok (.getfield 40, 3) := by decide +kernel
theorem dX11_put_45 : decode cX11_put 45 = .ok (.bipush 100, 2) := by decide +kernel
theorem dX11_put_47 : decode cX11_put 47 = .ok (.iload_n 1, 1) := by decide +kernel
theorem dX11_put_48 : decode cX11_put 48 = .ok (.imul, 1) := by decide +kernel
theorem dX11_put_49 : decode cX11_put 49 = .ok (.iload_n 2, 1) := by decide +kernel
theorem dX11_put_50 : decode cX11_put 50 = .ok (.iadd, 1) := by decide +kernel
theorem dX11_put_51 : decode cX11_put 51 = .ok (.iload_n 3, 1) := by decide +kernel
theorem dX11_put_52 : decode cX11_put 52 = .ok (.aload_n 0, 1) := by decide +kernel
theorem dX11_put_53 : decode cX11_put 53 = .ok (.getfield 34, 3) := by decide +kernel
theorem dX11_put_56 : decode cX11_put 56 = .ok (.iload_n 1, 1) := by decide +kernel
theorem dX11_put_57 : decode cX11_put 57 = .ok (.iaload, 1) := by decide +kernel
theorem dX11_put_58 : decode cX11_put 58 = .ok (.invokestatic 304, 3) := by decide +kernel
theorem dX11_put_61 : decode cX11_put 61 = .ok (.lastore, 1) := by decide +kernel
theorem dX11_put_62 : decode cX11_put 62 = .ok (.iconst 0, 1) := by decide +kernel
theorem dX11_put_63 : decode cX11_put 63 = .ok (.ireturn, 1) := by decide +kernel
abbrev cX11_element : ByteArray := prog_13_method_87_code
def yX11_element : MethodName := ⟨RX11, "element", "(II)J"⟩
theorem dX11_element_0 : decode cX11_element 0 = .ok (.aload_n 0, 1) := by decide +kernel
theorem dX11_element_1 : decode cX11_element 1 = .ok (.iload_n 1, 1) := by decide +kernel
theorem dX11_element_2 : decode cX11_element 2 = .ok (.invokevirtual 180, 3) := by decide +kernel
theorem dX11_element_5 : decode cX11_element 5 = .ok (.istore_n 3, 1) := by decide +kernel
theorem dX11_element_6 : decode cX11_element 6 = .ok (.aload_n 0, 1) := by decide +kernel
theorem dX11_element_7 : decode cX11_element 7 = .ok (.iload_n 3, 1) := by decide +kernel
theorem dX11_element_8 : decode cX11_element 8 = .ok (.iconst (-1), 1) := by decide +kernel
theorem dX11_element_9 : decode cX11_element 9 = .ok (.if_icmp .ne 7, 3) := by decide +kernel
theorem dX11_element_12 : decode cX11_element 12 = .ok (.iconst 1, 1) := by decide +kernel
theorem dX11_element_13 : decode cX11_element 13 = .ok (.goto 30, 3) := by decide +kernel
theorem dX11_element_16 : decode cX11_element 16 = .ok (.iload_n 3, 1) := by decide +kernel
theorem dX11_element_17 : decode cX11_element 17 = .ok (.ifCond .lt 21, 3) := by decide +kernel
theorem dX11_element_20 : decode cX11_element 20 = .ok (.iload_n 2, 1) := by decide +kernel
theorem dX11_element_21 : decode cX11_element 21 = .ok (.i2l, 1) := by decide +kernel
theorem dX11_element_22 : decode cX11_element 22 = .ok (.lconst 0, 1) := by decide +kernel
theorem dX11_element_23 : decode cX11_element 23 = .ok (.aload_n 0, 1) := by decide +kernel
theorem dX11_element_24 : decode cX11_element 24 = .ok (.getfield 37, 3) := by decide +kernel
theorem dX11_element_27 : decode cX11_element 27 = .ok (.iload_n 1, 1) := by decide +kernel
theorem dX11_element_28 : decode cX11_element 28 = .ok (.iaload, 1) := by decide +kernel
theorem dX11_element_29 : decode cX11_element 29 = .ok (.iconst 1, 1) := by decide +kernel
theorem dX11_element_30 : decode cX11_element 30 = .ok (.isub, 1) := by decide +kernel
theorem dX11_element_31 : decode cX11_element 31 = .ok (.i2l, 1) := by decide +kernel
theorem dX11_element_32 : decode cX11_element 32 = .ok (.invokestatic 80, 3) := by decide +kernel
theorem dX11_element_35 : decode cX11_element 35 = .ok (.ifCond .ne 7, 3) := by decide +kernel
theorem dX11_element_38 : decode cX11_element 38 = .ok (.iconst 2, 1) := by decide +kernel
theorem dX11_element_39 : decode cX11_element 39 = .ok (.goto 4, 3) := by decide +kernel
theorem dX11_element_42 : decode cX11_element 42 = .ok (.iconst 0, 1) := by decide +kernel
theorem dX11_element_43 : decode cX11_element 43 = .ok (.putfield 68, 3) := by decide +kernel
theorem dX11_element_46 : decode cX11_element 46 = .ok (.aload_n 0, 1) := by decide +kernel
theorem dX11_element_47 : decode cX11_element 47 = .ok (.getfield 68, 3) := by decide +kernel
theorem dX11_element_50 : decode cX11_element 50 = .ok (.ifCond .le 7, 3) := by decide +kernel
theorem dX11_element_53 : decode cX11_element 53 = .ok (.lconst 0, 1) := by decide +kernel
theorem dX11_element_54 : decode cX11_element 54 = .ok (.goto 14, 3) := by decide +kernel
theorem dX11_element_57 : decode cX11_element 57 = .ok (.aload_n 0, 1) := by decide +kernel
theorem dX11_element_58 : decode cX11_element 58 = .ok (.getfield 40, 3) := by decide +kernel
theorem dX11_element_61 : decode cX11_element 61 = .ok (.bipush 100, 2) := by decide +kernel
theorem dX11_element_63 : decode cX11_element 63 = .ok (.iload_n 1, 1) := by decide +kernel
theorem dX11_element_64 : decode cX11_element 64 = .ok (.imul, 1) := by decide +kernel
theorem dX11_element_65 : decode cX11_element 65 = .ok (.iload_n 2, 1) := by decide +kernel
theorem dX11_element_66 : decode cX11_element 66 = .ok (.iadd, 1) := by decide +kernel
theorem dX11_element_67 : decode cX11_element 67 = .ok (.laload, 1) := by decide +kernel
theorem dX11_element_68 : decode cX11_element 68 = .ok (.lreturn, 1) := by decide +kernel
abbrev cX11_copy : ByteArray := prog_13_method_88_code
def yX11_copy : MethodName := ⟨RX11, "copy", "(IIIII)I"⟩
theorem dX11_copy_0 : decode cX11_copy 0 = .ok (.aload_n 0, 1) := by decide +kernel
theorem dX11_copy_1 : decode cX11_copy 1 = .ok (.iconst 0, 1) := by decide +kernel
theorem dX11_copy_2 : decode cX11_copy 2 = .ok (.putfield 68, 3) := by decide +kernel
theorem dX11_copy_5 : decode cX11_copy 5 = .ok (.iload_n 1, 1) := by decide +kernel
theorem dX11_copy_6 : decode cX11_copy 6 = .ok (.i2l, 1) := by decide +kernel
theorem dX11_copy_7 : decode cX11_copy 7 = .ok (.lconst 0, 1) := by decide +kernel
theorem dX11_copy_8 : decode cX11_copy 8 = .ok (.ldc2_w 214, 3) := by decide +kernel
theorem dX11_copy_11 : decode cX11_copy 11 = .ok (.invokestatic 80, 3) := by decide +kernel
theorem dX11_copy_14 : decode cX11_copy 14 = .ok (.ifCond .eq 15, 3) := by decide +kernel
theorem dX11_copy_17 : decode cX11_copy 17 = .ok (.iload_n 3, 1) := by decide +kernel
theorem dX11_copy_18 : decode cX11_copy 18 = .ok (.i2l, 1) := by decide +kernel
theorem dX11_copy_19 : decode cX11_copy 19 = .ok (.lconst 0, 1) := by decide +kernel
theorem dX11_copy_20 : decode cX11_copy 20 = .ok (.ldc2_w 214, 3) := by decide +kernel
theorem dX11_copy_23 : decode cX11_copy 23 = .ok (.invokestatic 80, 3) := by decide +kernel
theorem dX11_copy_26 : decode cX11_copy 26 = .ok (.ifCond .ne 5, 3) := by decide +kernel
theorem dX11_copy_29 : decode cX11_copy 29 = .ok (.iconst (-1), 1) := by decide +kernel
theorem dX11_copy_30 : decode cX11_copy 30 = .ok (.ireturn, 1) := by decide +kernel
theorem dX11_copy_31 : decode cX11_copy 31 = .ok (.aload_n 0, 1) := by decide +kernel
theorem dX11_copy_32 : decode cX11_copy 32 = .ok (.getfield 25, 3) := by decide +kernel
theorem dX11_copy_35 : decode cX11_copy 35 = .ok (.iload_n 1, 1) := by decide +kernel
theorem dX11_copy_36 : decode cX11_copy 36 = .ok (.iaload, 1) := by decide +kernel
theorem dX11_copy_37 : decode cX11_copy 37 = .ok (.ifCond .eq 12, 3) := by decide +kernel
theorem dX11_copy_40 : decode cX11_copy 40 = .ok (.aload_n 0, 1) := by decide +kernel
theorem dX11_copy_41 : decode cX11_copy 41 = .ok (.getfield 25, 3) := by decide +kernel
theorem dX11_copy_44 : decode cX11_copy 44 = .ok (.iload_n 3, 1) := by decide +kernel
theorem dX11_copy_45 : decode cX11_copy 45 = .ok (.iaload, 1) := by decide +kernel
theorem dX11_copy_46 : decode cX11_copy 46 = .ok (.ifCond .ne 6, 3) := by decide +kernel
theorem dX11_copy_49 : decode cX11_copy 49 = .ok (.bipush (-11), 2) := by decide +kernel
theorem dX11_copy_51 : decode cX11_copy 51 = .ok (.ireturn, 1) := by decide +kernel
theorem dX11_copy_52 : decode cX11_copy 52 = .ok (.aload_n 0, 1) := by decide +kernel
theorem dX11_copy_53 : decode cX11_copy 53 = .ok (.getfield 25, 3) := by decide +kernel
theorem dX11_copy_56 : decode cX11_copy 56 = .ok (.iload_n 1, 1) := by decide +kernel
theorem dX11_copy_57 : decode cX11_copy 57 = .ok (.iaload, 1) := by decide +kernel
theorem dX11_copy_58 : decode cX11_copy 58 = .ok (.iconst 2, 1) := by decide +kernel
theorem dX11_copy_59 : decode cX11_copy 59 = .ok (.if_icmp .ne 28, 3) := by decide +kernel
theorem dX11_copy_62 : decode cX11_copy 62 = .ok (.aload_n 0, 1) := by decide +kernel
theorem dX11_copy_63 : decode cX11_copy 63 = .ok (.getfield 25, 3) := by decide +kernel
theorem dX11_copy_66 : decode cX11_copy 66 = .ok (.iload_n 3, 1) := by decide +kernel
theorem dX11_copy_67 : decode cX11_copy 67 = .ok (.iaload, 1) := by decide +kernel
theorem dX11_copy_68 : decode cX11_copy 68 = .ok (.iconst 2, 1) := by decide +kernel
theorem dX11_copy_69 : decode cX11_copy 69 = .ok (.if_icmp .ne 18, 3) := by decide +kernel
theorem dX11_copy_72 : decode cX11_copy 72 = .ok (.aload_n 0, 1) := by decide +kernel
theorem dX11_copy_73 : decode cX11_copy 73 = .ok (.getfield 34, 3) := by decide +kernel
theorem dX11_copy_76 : decode cX11_copy 76 = .ok (.iload_n 1, 1) := by decide +kernel
theorem dX11_copy_77 : decode cX11_copy 77 = .ok (.iaload, 1) := by decide +kernel
theorem dX11_copy_78 : decode cX11_copy 78 = .ok (.aload_n 0, 1) := by decide +kernel
theorem dX11_copy_79 : decode cX11_copy 79 = .ok (.getfield 34, 3) := by decide +kernel
theorem dX11_copy_82 : decode cX11_copy 82 = .ok (.iload_n 3, 1) := by decide +kernel
theorem dX11_copy_83 : decode cX11_copy 83 = .ok (.iaload, 1) := by decide +kernel
theorem dX11_copy_84 : decode cX11_copy 84 = .ok (.if_icmp .eq 6, 3) := by decide +kernel
theorem dX11_copy_87 : decode cX11_copy 87 = .ok (.bipush (-12), 2) := by decide +kernel
theorem dX11_copy_89 : decode cX11_copy 89 = .ok (.ireturn, 1) := by decide +kernel
theorem dX11_copy_90 : decode cX11_copy 90 = .ok (.iload 5, 2) := by decide +kernel
theorem dX11_copy_92 : decode cX11_copy 92 = .ok (.ifCond .lt 39, 3) := by decide +kernel
theorem dX11_copy_95 : decode cX11_copy 95 = .ok (.iload_n 2, 1) := by decide +kernel
theorem dX11_copy_96 : decode cX11_copy 96 = .ok (.ifCond .lt 35, 3) := by decide +kernel
theorem dX11_copy_99 : decode cX11_copy 99 = .ok (.iload 4, 2) := by decide +kernel
theorem dX11_copy_101 : decode cX11_copy 101 = .ok (.ifCond .lt 30, 3) := by decide +kernel
theorem dX11_copy_104 : decode cX11_copy 104 = .ok (.iload_n 2, 1) := by decide +kernel
theorem dX11_copy_105 : decode cX11_copy 105 = .ok (.aload_n 0, 1) := by decide +kernel
theorem dX11_copy_106 : decode cX11_copy 106 = .ok (.getfield 37, 3) := by decide +kernel
theorem dX11_copy_109 : decode cX11_copy 109 = .ok (.iload_n 1, 1) := by decide +kernel
theorem dX11_copy_110 : decode cX11_copy 110 = .ok (.iaload, 1) := by decide +kernel
theorem dX11_copy_111 : decode cX11_copy 111 = .ok (.iload 5, 2) := by decide +kernel
theorem dX11_copy_113 : decode cX11_copy 113 = .ok (.isub, 1) := by decide +kernel
theorem dX11_copy_114 : decode cX11_copy 114 = .ok (.if_icmp .gt 17, 3) := by decide +kernel
theorem dX11_copy_117 : decode cX11_copy 117 = .ok (.iload 4, 2) := by decide +kernel
theorem dX11_copy_119 : decode cX11_copy 119 = .ok (.aload_n 0, 1) := by decide +kernel
theorem dX11_copy_120 : decode cX11_copy 120 = .ok (.getfield 37, 3) := by decide +kernel
theorem dX11_copy_123 : decode cX11_copy 123 = .ok (.iload_n 3, 1) := by decide +kernel
theorem dX11_copy_124 : decode cX11_copy 124 = .ok (.iaload, 1) := by decide +kernel
theorem dX11_copy_125 : decode cX11_copy 125 = .ok (.iload 5, 2) := by decide +kernel
theorem dX11_copy_127 : decode cX11_copy 127 = .ok (.isub, 1) := by decide +kernel
theorem dX11_copy_128 : decode cX11_copy 128 = .ok (.if_icmp .le 6, 3) := by decide +kernel
theorem dX11_copy_131 : decode cX11_copy 131 = .ok (.bipush (-13), 2) := by decide +kernel
theorem dX11_copy_133 : decode cX11_copy 133 = .ok (.ireturn, 1) := by decide +kernel
theorem dX11_copy_134 : decode cX11_copy 134 = .ok (.iconst 0, 1) := by decide +kernel
theorem dX11_copy_135 : decode cX11_copy 135 = .ok (.istore 6, 2) := by decide +kernel
theorem dX11_copy_137 : decode cX11_copy 137 = .ok (.iload 6, 2) := by decide +kernel
theorem dX11_copy_139 : decode cX11_copy 139 = .ok (.iload 5, 2) := by decide +kernel
theorem dX11_copy_141 : decode cX11_copy 141 = .ok (.if_icmp .ge 30, 3) := by decide +kernel
theorem dX11_copy_144 : decode cX11_copy 144 = .ok (.aload_n 0, 1) := by decide +kernel
theorem dX11_copy_145 : decode cX11_copy 145 = .ok (.getfield 65, 3) := by decide +kernel
theorem dX11_copy_148 : decode cX11_copy 148 = .ok (.iload 6, 2) := by decide +kernel
theorem dX11_copy_150 : decode cX11_copy 150 = .ok (.aload_n 0, 1) := by decide +kernel
theorem dX11_copy_151 : decode cX11_copy 151 = .ok (.getfield 40, 3) := by decide +kernel
theorem dX11_copy_154 : decode cX11_copy 154 = .ok (.bipush 100, 2) := by decide +kernel
theorem dX11_copy_156 : decode cX11_copy 156 = .ok (.iload_n 1, 1) := by decide +kernel
theorem dX11_copy_157 : decode cX11_copy 157 = .ok (.imul, 1) := by decide +kernel
theorem dX11_copy_158 : decode cX11_copy 158 = .ok (.iload_n 2, 1) := by decide +kernel
theorem dX11_copy_159 : decode cX11_copy 159 = .ok (.iadd, 1) := by decide +kernel
theorem dX11_copy_160 : decode cX11_copy 160 = .ok (.iload 6, 2) := by decide +kernel
theorem dX11_copy_162 : decode cX11_copy 162 = .ok (.iadd, 1) := by decide +kernel
theorem dX11_copy_163 : decode cX11_copy 163 = .ok (.laload, 1) := by decide +kernel
theorem dX11_copy_164 : decode cX11_copy 164 = .ok (.lastore, 1) := by decide +kernel
theorem dX11_copy_165 : decode cX11_copy 165 = .ok (.iinc 6 1, 3) := by decide +kernel
theorem dX11_copy_168 : decode cX11_copy 168 = .ok (.goto (-31), 3) := by decide +kernel
theorem dX11_copy_171 : decode cX11_copy 171 = .ok (.iconst 0, 1) := by decide +kernel
theorem dX11_copy_172 : decode cX11_copy 172 = .ok (.istore 6, 2) := by decide +kernel
theorem dX11_copy_174 : decode cX11_copy 174 = .ok (.iload 6, 2) := by decide +kernel
theorem dX11_copy_176 : decode cX11_copy 176 = .ok (.iload 5, 2) := by decide +kernel
theorem dX11_copy_178 : decode cX11_copy 178 = .ok (.if_icmp .ge 31, 3) := by decide +kernel
theorem dX11_copy_181 : decode cX11_copy 181 = .ok (.aload_n 0, 1) := by decide +kernel
theorem dX11_copy_182 : decode cX11_copy 182 = .ok (.getfield 40, 3) := by decide +kernel
theorem dX11_copy_185 : decode cX11_copy 185 = .ok (.bipush 100, 2) := by decide +kernel
theorem dX11_copy_187 : decode cX11_copy 187 = .ok (.iload_n 3, 1) := by decide +kernel
theorem dX11_copy_188 : decode cX11_copy 188 = .ok (.imul, 1) := by decide +kernel
theorem dX11_copy_189 : decode cX11_copy 189 = .ok (.iload 4, 2) := by decide +kernel
theorem dX11_copy_191 : decode cX11_copy 191 = .ok (.iadd, 1) := by decide +kernel
theorem dX11_copy_192 : decode cX11_copy 192 = .ok (.iload 6, 2) := by decide +kernel
theorem dX11_copy_194 : decode cX11_copy 194 = .ok (.iadd, 1) := by decide +kernel
theorem dX11_copy_195 : decode cX11_copy 195 = .ok (.aload_n 0, 1) := by decide +kernel
theorem dX11_copy_196 : decode cX11_copy 196 = .ok (.getfield 65, 3) := by decide +kernel
theorem dX11_copy_199 : decode cX11_copy 199 = .ok (.iload 6, 2) := by decide +kernel
theorem dX11_copy_201 : decode cX11_copy 201 = .ok (.laload, 1) := by decide +kernel
theorem dX11_copy_202 : decode cX11_copy 202 = .ok (.lastore, 1) := by decide +kernel
theorem dX11_copy_203 : decode cX11_copy 203 = .ok (.iinc 6 1, 3) := by decide +kernel
theorem dX11_copy_206 : decode cX11_copy 206 = .ok (.goto (-32), 3) := by decide +kernel
theorem dX11_copy_209 : decode cX11_copy 209 = .ok (.iload 5, 2) := by decide +kernel
theorem dX11_copy_211 : decode cX11_copy 211 = .ok (.ireturn, 1) := by decide +kernel
abbrev cX11_costOf : ByteArray := prog_13_method_89_code
def yX11_costOf : MethodName := ⟨RX11, "costOf", "(II)I"⟩
theorem dX11_costOf_0 : decode cX11_costOf 0 = .ok (.iload_n 0, 1) := by decide +kernel
theorem dX11_costOf_1 : decode cX11_costOf 1 = .ok (.tableswitch 70 0 6 #[43, 45, 49, 52, 54, 60, 62], 43) := by decide +kernel
theorem dX11_costOf_44 : decode cX11_costOf 44 = .ok (.iconst 4, 1) := by decide +kernel
theorem dX11_costOf_45 : decode cX11_costOf 45 = .ok (.ireturn, 1) := by decide +kernel
theorem dX11_costOf_46 : decode cX11_costOf 46 = .ok (.iconst 4, 1) := by decide +kernel
theorem dX11_costOf_47 : decode cX11_costOf 47 = .ok (.iload_n 1, 1) := by decide +kernel
theorem dX11_costOf_48 : decode cX11_costOf 48 = .ok (.iadd, 1) := by decide +kernel
theorem dX11_costOf_49 : decode cX11_costOf 49 = .ok (.ireturn, 1) := by decide +kernel
theorem dX11_costOf_50 : decode cX11_costOf 50 = .ok (.bipush 9, 2) := by decide +kernel
theorem dX11_costOf_52 : decode cX11_costOf 52 = .ok (.ireturn, 1) := by decide +kernel
theorem dX11_costOf_53 : decode cX11_costOf 53 = .ok (.iconst 4, 1) := by decide +kernel
theorem dX11_costOf_54 : decode cX11_costOf 54 = .ok (.ireturn, 1) := by decide +kernel
theorem dX11_costOf_55 : decode cX11_costOf 55 = .ok (.iconst 2, 1) := by decide +kernel
theorem dX11_costOf_56 : decode cX11_costOf 56 = .ok (.iconst 4, 1) := by decide +kernel
theorem dX11_costOf_57 : decode cX11_costOf 57 = .ok (.iload_n 1, 1) := by decide +kernel
theorem dX11_costOf_58 : decode cX11_costOf 58 = .ok (.iadd, 1) := by decide +kernel
theorem dX11_costOf_59 : decode cX11_costOf 59 = .ok (.imul, 1) := by decide +kernel
theorem dX11_costOf_60 : decode cX11_costOf 60 = .ok (.ireturn, 1) := by decide +kernel
theorem dX11_costOf_61 : decode cX11_costOf 61 = .ok (.iconst 1, 1) := by decide +kernel
theorem dX11_costOf_62 : decode cX11_costOf 62 = .ok (.ireturn, 1) := by decide +kernel
theorem dX11_costOf_63 : decode cX11_costOf 63 = .ok (.iconst 2, 1) := by decide +kernel
theorem dX11_costOf_64 : decode cX11_costOf 64 = .ok (.iconst 4, 1) := by decide +kernel
theorem dX11_costOf_65 : decode cX11_costOf 65 = .ok (.iload_n 1, 1) := by decide +kernel
theorem dX11_costOf_66 : decode cX11_costOf 66 = .ok (.iadd, 1) := by decide +kernel
theorem dX11_costOf_67 : decode cX11_costOf 67 = .ok (.imul, 1) := by decide +kernel
theorem dX11_costOf_68 : decode cX11_costOf 68 = .ok (.iconst 3, 1) := by decide +kernel
theorem dX11_costOf_69 : decode cX11_costOf 69 = .ok (.iadd, 1) := by decide +kernel
theorem dX11_costOf_70 : decode cX11_costOf 70 = .ok (.ireturn, 1) := by decide +kernel
theorem dX11_costOf_71 : decode cX11_costOf 71 = .ok (.iconst 0, 1) := by decide +kernel
theorem dX11_costOf_72 : decode cX11_costOf 72 = .ok (.ireturn, 1) := by decide +kernel
abbrev cX11_cost : ByteArray := prog_13_method_90_code
def yX11_cost : MethodName := ⟨RX11, "cost", "(I)I"⟩
theorem dX11_cost_0 : decode cX11_cost 0 = .ok (.aload_n 0, 1) := by decide +kernel
theorem dX11_cost_1 : decode cX11_cost 1 = .ok (.iconst 0, 1) := by decide +kernel
theorem dX11_cost_2 : decode cX11_cost 2 = .ok (.putfield 68, 3) := by decide +kernel
theorem dX11_cost_5 : decode cX11_cost 5 = .ok (.aload_n 0, 1) := by decide +kernel
theorem dX11_cost_6 : decode cX11_cost 6 = .ok (.iload_n 1, 1) := by decide +kernel
theorem dX11_cost_7 : decode cX11_cost 7 = .ok (.invokevirtual 216, 3) := by decide +kernel
theorem dX11_cost_10 : decode cX11_cost 10 = .ok (.ifCond .ge 11, 3) := by decide +kernel
theorem dX11_cost_13 : decode cX11_cost 13 = .ok (.aload_n 0, 1) := by decide +kernel
theorem dX11_cost_14 : decode cX11_cost 14 = .ok (.iload_n 1, 1) := by decide +kernel
theorem dX11_cost_15 : decode cX11_cost 15 = .ok (.invokevirtual 216, 3) := by decide +kernel
theorem dX11_cost_18 : decode cX11_cost 18 = .ok (.goto 18, 3) := by decide +kernel
theorem dX11_cost_21 : decode cX11_cost 21 = .ok (.aload_n 0, 1) := by decide +kernel
theorem dX11_cost_22 : decode cX11_cost 22 = .ok (.getfield 28, 3) := by decide +kernel
theorem dX11_cost_25 : decode cX11_cost 25 = .ok (.iload_n 1, 1) := by decide +kernel
theorem dX11_cost_26 : decode cX11_cost 26 = .ok (.iaload, 1) := by decide +kernel
theorem dX11_cost_27 : decode cX11_cost 27 = .ok (.aload_n 0, 1) := by decide +kernel
theorem dX11_cost_28 : decode cX11_cost 28 = .ok (.getfield 31, 3) := by decide +kernel
theorem dX11_cost_31 : decode cX11_cost 31 = .ok (.iload_n 1, 1) := by decide +kernel
theorem dX11_cost_32 : decode cX11_cost 32 = .ok (.iaload, 1) := by decide +kernel
theorem dX11_cost_33 : decode cX11_cost 33 = .ok (.invokestatic 308, 3) := by decide +kernel
theorem dX11_cost_36 : decode cX11_cost 36 = .ok (.ireturn, 1) := by decide +kernel
abbrev cX11_toss : ByteArray := prog_13_method_91_code
def yX11_toss : MethodName := ⟨RX11, "toss", "(I)I"⟩
theorem dX11_toss_0 : decode cX11_toss 0 = .ok (.aload_n 0, 1) := by decide +kernel
theorem dX11_toss_1 : decode cX11_toss 1 = .ok (.iconst 0, 1) := by decide +kernel
theorem dX11_toss_2 : decode cX11_toss 2 = .ok (.putfield 68, 3) := by decide +kernel
theorem dX11_toss_5 : decode cX11_toss 5 = .ok (.aload_n 0, 1) := by decide +kernel
theorem dX11_toss_6 : decode cX11_toss 6 = .ok (.iload_n 1, 1) := by decide +kernel
theorem dX11_toss_7 : decode cX11_toss 7 = .ok (.invokevirtual 216, 3) := by decide +kernel
theorem dX11_toss_10 : decode cX11_toss 10 = .ok (.ifCond .ge 9, 3) := by decide +kernel
theorem dX11_toss_13 : decode cX11_toss 13 = .ok (.aload_n 0, 1) := by decide +kernel
theorem dX11_toss_14 : decode cX11_toss 14 = .ok (.iload_n 1, 1) := by decide +kernel
theorem dX11_toss_15 : decode cX11_toss 15 = .ok (.invokevirtual 216, 3) := by decide +kernel
theorem dX11_toss_18 : decode cX11_toss 18 = .ok (.ireturn, 1) := by decide +kernel
theorem dX11_toss_19 : decode cX11_toss 19 = .ok (.aload_n 0, 1) := by decide +kernel
theorem dX11_toss_20 : decode cX11_toss 20 = .ok (.getfield 28, 3) := by decide +kernel
theorem dX11_toss_23 : decode cX11_toss 23 = .ok (.iload_n 1, 1) := by decide +kernel
theorem dX11_toss_24 : decode cX11_toss 24 = .ok (.iaload, 1) := by decide +kernel
theorem dX11_toss_25 : decode cX11_toss 25 = .ok (.istore_n 2, 1) := by decide +kernel
theorem dX11_toss_26 : decode cX11_toss 26 = .ok (.aload_n 0, 1) := by decide +kernel
theorem dX11_toss_27 : decode cX11_toss 27 = .ok (.getfield 31, 3) := by decide +kernel
theorem dX11_toss_30 : decode cX11_toss 30 = .ok (.iload_n 1, 1) := by decide +kernel
theorem dX11_toss_31 : decode cX11_toss 31 = .ok (.iaload, 1) := by decide +kernel
theorem dX11_toss_32 : decode cX11_toss 32 = .ok (.istore_n 3, 1) := by decide +kernel
theorem dX11_toss_33 : decode cX11_toss 33 = .ok (.iload_n 2, 1) := by decide +kernel
theorem dX11_toss_34 : decode cX11_toss 34 = .ok (.iconst 5, 1) := by decide +kernel
theorem dX11_toss_35 : decode cX11_toss 35 = .ok (.if_icmp .eq 7, 3) := by decide +kernel
theorem dX11_toss_38 : decode cX11_toss 38 = .ok (.iload_n 3, 1) := by decide +kernel
theorem dX11_toss_39 : decode cX11_toss 39 = .ok (.ifCond .ne 6, 3) := by decide +kernel
theorem dX11_toss_42 : decode cX11_toss 42 = .ok (.bipush (-15), 2) := by decide +kernel
theorem dX11_toss_44 : decode cX11_toss 44 = .ok (.ireturn, 1) := by decide +kernel
theorem dX11_toss_45 : decode cX11_toss 45 = .ok (.iload_n 2, 1) := by decide +kernel
theorem dX11_toss_46 : decode cX11_toss 46 = .ok (.iconst 2, 1) := by decide +kernel
theorem dX11_toss_47 : decode cX11_toss 47 = .ok (.if_icmp .eq 14, 3) := by decide +kernel
theorem dX11_toss_50 : decode cX11_toss 50 = .ok (.iload_n 2, 1) := by decide +kernel
theorem dX11_toss_51 : decode cX11_toss 51 = .ok (.iconst 3, 1) := by decide +kernel
theorem dX11_toss_52 : decode cX11_toss 52 = .ok (.if_icmp .eq 9, 3) := by decide +kernel
theorem dX11_toss_55 : decode cX11_toss 55 = .ok (.iload_n 2, 1) := by decide +kernel
theorem dX11_toss_56 : decode cX11_toss 56 = .ok (.bipush 7, 2) := by decide +kernel
theorem dX11_toss_58 : decode cX11_toss 58 = .ok (.if_icmp .ne 10, 3) := by decide +kernel
theorem dX11_toss_61 : decode cX11_toss 61 = .ok (.bipush 100, 2) := by decide +kernel
theorem dX11_toss_63 : decode cX11_toss 63 = .ok (.iload_n 3, 1) := by decide +kernel
theorem dX11_toss_64 : decode cX11_toss 64 = .ok (.iadd, 1) := by decide +kernel
theorem dX11_toss_65 : decode cX11_toss 65 = .ok (.goto 27, 3) := by decide +kernel
theorem dX11_toss_68 : decode cX11_toss 68 = .ok (.iload_n 2, 1) := by decide +kernel
theorem dX11_toss_69 : decode cX11_toss 69 = .ok (.iconst 4, 1) := by decide +kernel
theorem dX11_toss_70 : decode cX11_toss 70 = .ok (.if_icmp .eq 9, 3) := by decide +kernel
theorem dX11_toss_73 : decode cX11_toss 73 = .ok (.iload_n 2, 1) := by decide +kernel
theorem dX11_toss_74 : decode cX11_toss 74 = .ok (.bipush 6, 2) := by decide +kernel
theorem dX11_toss_76 : decode cX11_toss 76 = .ok (.if_icmp .ne 15, 3) := by decide +kernel
theorem dX11_toss_79 : decode cX11_toss 79 = .ok (.sipush 200, 3) := by decide +kernel
theorem dX11_toss_82 : decode cX11_toss 82 = .ok (.iload_n 2, 1) := by decide +kernel
theorem dX11_toss_83 : decode cX11_toss 83 = .ok (.iload_n 3, 1) := by decide +kernel
theorem dX11_toss_84 : decode cX11_toss 84 = .ok (.invokestatic 308, 3) := by decide +kernel
theorem dX11_toss_87 : decode cX11_toss 87 = .ok (.iadd, 1) := by decide +kernel
theorem dX11_toss_88 : decode cX11_toss 88 = .ok (.goto 4, 3) := by decide +kernel
theorem dX11_toss_91 : decode cX11_toss 91 = .ok (.iload_n 3, 1) := by decide +kernel
theorem dX11_toss_92 : decode cX11_toss 92 = .ok (.ireturn, 1) := by decide +kernel

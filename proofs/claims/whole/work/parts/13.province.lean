def zf_X10_isKind (x0 : Int32) : Option Int32 :=
  (if x0 < 0 then some (0 : Int32) else (if (8 : Int32) ≤ x0 then some (0 : Int32) else some (1 : Int32)))
set_option maxRecDepth 100000 in
set_option maxHeartbeats 4000000 in
theorem zt_X10_isKind (x0 : Int32) (h : zHp) {r : Int32} (hr : (zf_X10_isKind x0) = some r) : zc_Cn zM_X10_isKind [.int x0] h ((fun r => zc_mI (r, h)) r) := by
  refine zc_meth (mk := (fun r => zc_mI (r, h))) (o := (zf_X10_isKind x0)) (by decide +kernel) (Nat.le_of_ble_eq_true rfl) ?_ hr
  unfold zf_X10_isKind
  refine zc_sL (ls1 := [some (.int x0)]) rfl ?_
  refine zc_iload_n (pc := 0) dX10_isKind_0 rfl rfl ?_
  refine zc_if_lt (pc := 1) 14 dX10_isKind_1 (by decide) (fun _ => ?_) (fun _ => ?_)
  · refine zc_iconst (pc := 14) (0 : Int32) dX10_isKind_14 (by decide) ?_
    exact zc_zretK (pc := 15) dX10_isKind_15 rfl (by decide) ⟨_, rfl, rfl⟩
  · refine zc_iload_n (pc := 4) dX10_isKind_4 rfl rfl ?_
    refine zc_bipush (pc := 5) (8 : Int32) dX10_isKind_5 (by decide) ?_
    refine zc_icmp_ge (pc := 7) 14 dX10_isKind_7 (by decide) (fun _ => ?_) (fun _ => ?_)
    · refine zc_iconst (pc := 14) (0 : Int32) dX10_isKind_14 (by decide) ?_
      exact zc_zretK (pc := 15) dX10_isKind_15 rfl (by decide) ⟨_, rfl, rfl⟩
    · refine zc_iconst (pc := 10) (1 : Int32) dX10_isKind_10 (by decide) ?_
      refine zc_goto (pc := 11) 15 dX10_isKind_11 (by decide) ?_
      exact zc_zretK (pc := 15) dX10_isKind_15 rfl (by decide) ⟨_, rfl, rfl⟩
def zf_X10_isFigure (x0 : Int32) : Option Int32 :=
  (if x0 < 0 then some (0 : Int32) else (if (10 : Int32) ≤ x0 then some (0 : Int32) else some (1 : Int32)))
set_option maxRecDepth 100000 in
set_option maxHeartbeats 4000000 in
theorem zt_X10_isFigure (x0 : Int32) (h : zHp) {r : Int32} (hr : (zf_X10_isFigure x0) = some r) : zc_Cn zM_X10_isFigure [.int x0] h ((fun r => zc_mI (r, h)) r) := by
  refine zc_meth (mk := (fun r => zc_mI (r, h))) (o := (zf_X10_isFigure x0)) (by decide +kernel) (Nat.le_of_ble_eq_true rfl) ?_ hr
  unfold zf_X10_isFigure
  refine zc_sL (ls1 := [some (.int x0)]) rfl ?_
  refine zc_iload_n (pc := 0) dX10_isFigure_0 rfl rfl ?_
  refine zc_if_lt (pc := 1) 14 dX10_isFigure_1 (by decide) (fun _ => ?_) (fun _ => ?_)
  · refine zc_iconst (pc := 14) (0 : Int32) dX10_isFigure_14 (by decide) ?_
    exact zc_zretK (pc := 15) dX10_isFigure_15 rfl (by decide) ⟨_, rfl, rfl⟩
  · refine zc_iload_n (pc := 4) dX10_isFigure_4 rfl rfl ?_
    refine zc_bipush (pc := 5) (10 : Int32) dX10_isFigure_5 (by decide) ?_
    refine zc_icmp_ge (pc := 7) 14 dX10_isFigure_7 (by decide) (fun _ => ?_) (fun _ => ?_)
    · refine zc_iconst (pc := 14) (0 : Int32) dX10_isFigure_14 (by decide) ?_
      exact zc_zretK (pc := 15) dX10_isFigure_15 rfl (by decide) ⟨_, rfl, rfl⟩
    · refine zc_iconst (pc := 10) (1 : Int32) dX10_isFigure_10 (by decide) ?_
      refine zc_goto (pc := 11) 15 dX10_isFigure_11 (by decide) ?_
      exact zc_zretK (pc := 15) dX10_isFigure_15 rfl (by decide) ⟨_, rfl, rfl⟩
def zf_X10_isPlace (x0 : Int32) : Option Int32 :=
  (if x0 < 0 then some (0 : Int32) else (if (12 : Int32) ≤ x0 then some (0 : Int32) else some (1 : Int32)))
set_option maxRecDepth 100000 in
set_option maxHeartbeats 4000000 in
theorem zt_X10_isPlace (x0 : Int32) (h : zHp) {r : Int32} (hr : (zf_X10_isPlace x0) = some r) : zc_Cn zM_X10_isPlace [.int x0] h ((fun r => zc_mI (r, h)) r) := by
  refine zc_meth (mk := (fun r => zc_mI (r, h))) (o := (zf_X10_isPlace x0)) (by decide +kernel) (Nat.le_of_ble_eq_true rfl) ?_ hr
  unfold zf_X10_isPlace
  refine zc_sL (ls1 := [some (.int x0)]) rfl ?_
  refine zc_iload_n (pc := 0) dX10_isPlace_0 rfl rfl ?_
  refine zc_if_lt (pc := 1) 14 dX10_isPlace_1 (by decide) (fun _ => ?_) (fun _ => ?_)
  · refine zc_iconst (pc := 14) (0 : Int32) dX10_isPlace_14 (by decide) ?_
    exact zc_zretK (pc := 15) dX10_isPlace_15 rfl (by decide) ⟨_, rfl, rfl⟩
  · refine zc_iload_n (pc := 4) dX10_isPlace_4 rfl rfl ?_
    refine zc_bipush (pc := 5) (12 : Int32) dX10_isPlace_5 (by decide) ?_
    refine zc_icmp_ge (pc := 7) 14 dX10_isPlace_7 (by decide) (fun _ => ?_) (fun _ => ?_)
    · refine zc_iconst (pc := 14) (0 : Int32) dX10_isPlace_14 (by decide) ?_
      exact zc_zretK (pc := 15) dX10_isPlace_15 rfl (by decide) ⟨_, rfl, rfl⟩
    · refine zc_iconst (pc := 10) (1 : Int32) dX10_isPlace_10 (by decide) ?_
      refine zc_goto (pc := 11) 15 dX10_isPlace_11 (by decide) ?_
      exact zc_zretK (pc := 15) dX10_isPlace_15 rfl (by decide) ⟨_, rfl, rfl⟩
def zf_X10_far (x0 : Int32) (x1 : Int32) : Option Int32 :=
  ((some (if 0 ≤ (x0 - x1) then (x0 - x1) else 0 - (x0 - x1)) : Option Int32).bind (fun v1 => (if v1 ≤ (6 : Int32) then some v1 else some ((12 : Int32) - v1))))
set_option maxRecDepth 100000 in
set_option maxHeartbeats 4000000 in
theorem zt_X10_far (x0 : Int32) (x1 : Int32) (h : zHp) {r : Int32} (hr : (zf_X10_far x0 x1) = some r) : zc_Cn zM_X10_far [.int x0, .int x1] h ((fun r => zc_mI (r, h)) r) := by
  refine zc_meth (mk := (fun r => zc_mI (r, h))) (o := (zf_X10_far x0 x1)) (by decide +kernel) (Nat.le_of_ble_eq_true rfl) ?_ hr
  unfold zf_X10_far
  refine zc_sL (ls1 := [some (.int x0), some (.int x1), none]) rfl ?_
  refine zc_iload_n (pc := 0) dX10_far_0 rfl rfl ?_
  refine zc_iload_n (pc := 1) dX10_far_1 rfl rfl ?_
  refine zc_isub (pc := 2) dX10_far_2 ?_
  refine zc_mabs (pc := 3) zw_413 zw_mabs_s zw_14 zw_mabs_c (Nat.le_of_ble_eq_true rfl) ⟨Nat.le_of_ble_eq_true rfl, Nat.le_of_ble_eq_true rfl⟩ dX10_far_3 ?_
  refine zc_letI (fun v1 _ => ?_)
  refine zc_istore_n (pc := 6) dX10_far_6 rfl (Nat.le_of_ble_eq_true rfl) rfl (Nat.le_of_ble_eq_true rfl) ?_
  refine zc_sL (ls1 := [some (.int x0), some (.int x1), some (.int v1)]) rfl ?_
  refine zc_iload_n (pc := 7) dX10_far_7 rfl rfl ?_
  refine zc_bipush (pc := 8) (6 : Int32) dX10_far_8 (by decide) ?_
  refine zc_icmp_le (pc := 10) 20 dX10_far_10 (by decide) (fun _ => ?_) (fun _ => ?_)
  · refine zc_iload_n (pc := 20) dX10_far_20 rfl rfl ?_
    exact zc_iretK (pc := 21) dX10_far_21 rfl ⟨_, rfl, rfl⟩
  · refine zc_bipush (pc := 13) (12 : Int32) dX10_far_13 (by decide) ?_
    refine zc_iload_n (pc := 15) dX10_far_15 rfl rfl ?_
    refine zc_isub (pc := 16) dX10_far_16 ?_
    refine zc_goto (pc := 17) 21 dX10_far_17 (by decide) ?_
    exact zc_iretK (pc := 21) dX10_far_21 rfl ⟨_, rfl, rfl⟩
def zf_X7_become (p : Nat) (x1 : Nat) (h : zHp) : Option zHp :=
  ((some (zc_ri h (p + 1) (va_cpy (h.1 (x1 + 1)) (h.1 (p + 1)) (0 : Int32).toNatClampNeg (0 : Int32).toNatClampNeg (7 : Int32).toNatClampNeg)) : Option zHp).bind (fun h1 => ((some (zc_ri h1 (p + 2) (va_cpy (h1.1 (x1 + 2)) (h1.1 (p + 2)) (0 : Int32).toNatClampNeg (0 : Int32).toNatClampNeg (7 : Int32).toNatClampNeg)) : Option zHp).bind (fun h2 => ((some (zc_ri h2 (p + 3) (va_cpy (h2.1 (x1 + 3)) (h2.1 (p + 3)) (0 : Int32).toNatClampNeg (0 : Int32).toNatClampNeg (7 : Int32).toNatClampNeg)) : Option zHp).bind (fun h3 => ((some (zc_ri h3 (p + 4) (va_cpy (h3.1 (x1 + 4)) (h3.1 (p + 4)) (0 : Int32).toNatClampNeg (0 : Int32).toNatClampNeg (7 : Int32).toNatClampNeg)) : Option zHp).bind (fun h4 => ((some (zc_ri h4 (p + 5) (va_cpy (h4.1 (x1 + 5)) (h4.1 (p + 5)) (0 : Int32).toNatClampNeg (0 : Int32).toNatClampNeg (7 : Int32).toNatClampNeg)) : Option zHp).bind (fun h5 => ((some (zc_ri h5 (p + 6) (va_cpy (h5.1 (x1 + 6)) (h5.1 (p + 6)) (0 : Int32).toNatClampNeg (0 : Int32).toNatClampNeg (7 : Int32).toNatClampNeg)) : Option zHp).bind (fun h6 => ((some (zc_ri h6 (p + 7) (va_cpy (h6.1 (x1 + 7)) (h6.1 (p + 7)) (0 : Int32).toNatClampNeg (0 : Int32).toNatClampNeg (7 : Int32).toNatClampNeg)) : Option zHp).bind (fun h7 => ((some (zc_ri h7 (p + 8) (va_cpy (h7.1 (x1 + 8)) (h7.1 (p + 8)) (0 : Int32).toNatClampNeg (0 : Int32).toNatClampNeg (7 : Int32).toNatClampNeg)) : Option zHp).bind (fun h8 => ((some (zc_ui h8 p 9 (h8.1 x1 9)) : Option zHp).bind (fun h9 => ((some (zc_ui h9 p 10 (h9.1 x1 10)) : Option zHp).bind (fun h10 => ((some (zc_ui h10 p 11 (h10.1 x1 11)) : Option zHp).bind (fun h11 => ((some (zc_ui h11 p 12 (h11.1 x1 12)) : Option zHp).bind (fun h12 => ((some (zc_ui h12 p 13 (h12.1 x1 13)) : Option zHp).bind (fun h13 => ((some (zc_ui h13 p 14 (h13.1 x1 14)) : Option zHp).bind (fun h14 => some h14))))))))))))))))))))))))))))
set_option maxRecDepth 100000 in
set_option maxHeartbeats 4000000 in
theorem zt_X7_become (p : Nat) (hp : zc_lay[p]? = some (7, 0)) (x1 : Nat) (hx1 : zc_lay[x1]? = some (7, 0)) (h : zHp) {r : zHp} (hr : (zf_X7_become p x1 h) = some r) : zc_Cn zM_X7_become [.ref p, .ref x1] h (zc_mV r) := by
  refine zc_meth (mk := zc_mV) (o := (zf_X7_become p x1 h)) (by decide +kernel) (Nat.le_of_ble_eq_true rfl) ?_ hr
  unfold zf_X7_become
  refine zc_sL (ls1 := [some (.ref p), some (.ref x1)]) rfl ?_
  refine zc_aload_n (pc := 0) dX7_become_0 rfl rfl ?_
  refine zc_getO (pc := 1) zF_X7_9 hx1 dX7_become_1 ?_
  refine zc_iconst (pc := 4) (0 : Int32) dX7_become_4 (by decide) ?_
  refine zc_aload_n (pc := 5) dX7_become_5 rfl rfl ?_
  refine zc_getO (pc := 6) zF_X7_9 hp dX7_become_6 ?_
  refine zc_iconst (pc := 9) (0 : Int32) dX7_become_9 (by decide) ?_
  refine zc_bipush (pc := 10) (7 : Int32) dX7_become_10 (by decide) ?_
  refine zc_acpi (pc := 12) zw_248 zw_acn zw_acs zw_13 (zs_p (j := 1) hx1) (zs_p (j := 1) hp) (by decide) (Nat.le_of_ble_eq_true rfl) ⟨Nat.le_of_ble_eq_true rfl, Nat.le_of_ble_eq_true rfl⟩ dX7_become_12 ?_
  refine zc_letH (fun h1 _ => ?_)
  refine zc_aload_n (pc := 15) dX7_become_15 rfl rfl ?_
  refine zc_getO (pc := 16) zF_X7_15 hx1 dX7_become_16 ?_
  refine zc_iconst (pc := 19) (0 : Int32) dX7_become_19 (by decide) ?_
  refine zc_aload_n (pc := 20) dX7_become_20 rfl rfl ?_
  refine zc_getO (pc := 21) zF_X7_15 hp dX7_become_21 ?_
  refine zc_iconst (pc := 24) (0 : Int32) dX7_become_24 (by decide) ?_
  refine zc_bipush (pc := 25) (7 : Int32) dX7_become_25 (by decide) ?_
  refine zc_acpi (pc := 27) zw_248 zw_acn zw_acs zw_13 (zs_p (j := 2) hx1) (zs_p (j := 2) hp) (by decide) (Nat.le_of_ble_eq_true rfl) ⟨Nat.le_of_ble_eq_true rfl, Nat.le_of_ble_eq_true rfl⟩ dX7_become_27 ?_
  refine zc_letH (fun h2 _ => ?_)
  refine zc_aload_n (pc := 30) dX7_become_30 rfl rfl ?_
  refine zc_getO (pc := 31) zF_X7_18 hx1 dX7_become_31 ?_
  refine zc_iconst (pc := 34) (0 : Int32) dX7_become_34 (by decide) ?_
  refine zc_aload_n (pc := 35) dX7_become_35 rfl rfl ?_
  refine zc_getO (pc := 36) zF_X7_18 hp dX7_become_36 ?_
  refine zc_iconst (pc := 39) (0 : Int32) dX7_become_39 (by decide) ?_
  refine zc_bipush (pc := 40) (7 : Int32) dX7_become_40 (by decide) ?_
  refine zc_acpi (pc := 42) zw_248 zw_acn zw_acs zw_13 (zs_p (j := 3) hx1) (zs_p (j := 3) hp) (by decide) (Nat.le_of_ble_eq_true rfl) ⟨Nat.le_of_ble_eq_true rfl, Nat.le_of_ble_eq_true rfl⟩ dX7_become_42 ?_
  refine zc_letH (fun h3 _ => ?_)
  refine zc_aload_n (pc := 45) dX7_become_45 rfl rfl ?_
  refine zc_getO (pc := 46) zF_X7_21 hx1 dX7_become_46 ?_
  refine zc_iconst (pc := 49) (0 : Int32) dX7_become_49 (by decide) ?_
  refine zc_aload_n (pc := 50) dX7_become_50 rfl rfl ?_
  refine zc_getO (pc := 51) zF_X7_21 hp dX7_become_51 ?_
  refine zc_iconst (pc := 54) (0 : Int32) dX7_become_54 (by decide) ?_
  refine zc_bipush (pc := 55) (7 : Int32) dX7_become_55 (by decide) ?_
  refine zc_acpi (pc := 57) zw_248 zw_acn zw_acs zw_13 (zs_p (j := 4) hx1) (zs_p (j := 4) hp) (by decide) (Nat.le_of_ble_eq_true rfl) ⟨Nat.le_of_ble_eq_true rfl, Nat.le_of_ble_eq_true rfl⟩ dX7_become_57 ?_
  refine zc_letH (fun h4 _ => ?_)
  refine zc_aload_n (pc := 60) dX7_become_60 rfl rfl ?_
  refine zc_getO (pc := 61) zF_X7_24 hx1 dX7_become_61 ?_
  refine zc_iconst (pc := 64) (0 : Int32) dX7_become_64 (by decide) ?_
  refine zc_aload_n (pc := 65) dX7_become_65 rfl rfl ?_
  refine zc_getO (pc := 66) zF_X7_24 hp dX7_become_66 ?_
  refine zc_iconst (pc := 69) (0 : Int32) dX7_become_69 (by decide) ?_
  refine zc_bipush (pc := 70) (7 : Int32) dX7_become_70 (by decide) ?_
  refine zc_acpi (pc := 72) zw_248 zw_acn zw_acs zw_13 (zs_p (j := 5) hx1) (zs_p (j := 5) hp) (by decide) (Nat.le_of_ble_eq_true rfl) ⟨Nat.le_of_ble_eq_true rfl, Nat.le_of_ble_eq_true rfl⟩ dX7_become_72 ?_
  refine zc_letH (fun h5 _ => ?_)
  refine zc_aload_n (pc := 75) dX7_become_75 rfl rfl ?_
  refine zc_getO (pc := 76) zF_X7_27 hx1 dX7_become_76 ?_
  refine zc_iconst (pc := 79) (0 : Int32) dX7_become_79 (by decide) ?_
  refine zc_aload_n (pc := 80) dX7_become_80 rfl rfl ?_
  refine zc_getO (pc := 81) zF_X7_27 hp dX7_become_81 ?_
  refine zc_iconst (pc := 84) (0 : Int32) dX7_become_84 (by decide) ?_
  refine zc_bipush (pc := 85) (7 : Int32) dX7_become_85 (by decide) ?_
  refine zc_acpi (pc := 87) zw_248 zw_acn zw_acs zw_13 (zs_p (j := 6) hx1) (zs_p (j := 6) hp) (by decide) (Nat.le_of_ble_eq_true rfl) ⟨Nat.le_of_ble_eq_true rfl, Nat.le_of_ble_eq_true rfl⟩ dX7_become_87 ?_
  refine zc_letH (fun h6 _ => ?_)
  refine zc_aload_n (pc := 90) dX7_become_90 rfl rfl ?_
  refine zc_getO (pc := 91) zF_X7_30 hx1 dX7_become_91 ?_
  refine zc_iconst (pc := 94) (0 : Int32) dX7_become_94 (by decide) ?_
  refine zc_aload_n (pc := 95) dX7_become_95 rfl rfl ?_
  refine zc_getO (pc := 96) zF_X7_30 hp dX7_become_96 ?_
  refine zc_iconst (pc := 99) (0 : Int32) dX7_become_99 (by decide) ?_
  refine zc_bipush (pc := 100) (7 : Int32) dX7_become_100 (by decide) ?_
  refine zc_acpi (pc := 102) zw_248 zw_acn zw_acs zw_13 (zs_p (j := 7) hx1) (zs_p (j := 7) hp) (by decide) (Nat.le_of_ble_eq_true rfl) ⟨Nat.le_of_ble_eq_true rfl, Nat.le_of_ble_eq_true rfl⟩ dX7_become_102 ?_
  refine zc_letH (fun h7 _ => ?_)
  refine zc_aload_n (pc := 105) dX7_become_105 rfl rfl ?_
  refine zc_getO (pc := 106) zF_X7_33 hx1 dX7_become_106 ?_
  refine zc_iconst (pc := 109) (0 : Int32) dX7_become_109 (by decide) ?_
  refine zc_aload_n (pc := 110) dX7_become_110 rfl rfl ?_
  refine zc_getO (pc := 111) zF_X7_33 hp dX7_become_111 ?_
  refine zc_iconst (pc := 114) (0 : Int32) dX7_become_114 (by decide) ?_
  refine zc_bipush (pc := 115) (7 : Int32) dX7_become_115 (by decide) ?_
  refine zc_acpi (pc := 117) zw_248 zw_acn zw_acs zw_13 (zs_p (j := 8) hx1) (zs_p (j := 8) hp) (by decide) (Nat.le_of_ble_eq_true rfl) ⟨Nat.le_of_ble_eq_true rfl, Nat.le_of_ble_eq_true rfl⟩ dX7_become_117 ?_
  refine zc_letH (fun h8 _ => ?_)
  refine zc_aload_n (pc := 120) dX7_become_120 rfl rfl ?_
  refine zc_aload_n (pc := 121) dX7_become_121 rfl rfl ?_
  refine zc_getI (pc := 122) zF_X7_53 hx1 dX7_become_122 ?_
  refine zc_putI (pc := 125) zF_X7_53 hp dX7_become_125 ?_
  refine zc_letH (fun h9 _ => ?_)
  refine zc_aload_n (pc := 128) dX7_become_128 rfl rfl ?_
  refine zc_aload_n (pc := 129) dX7_become_129 rfl rfl ?_
  refine zc_getI (pc := 130) zF_X7_56 hx1 dX7_become_130 ?_
  refine zc_putI (pc := 133) zF_X7_56 hp dX7_become_133 ?_
  refine zc_letH (fun h10 _ => ?_)
  refine zc_aload_n (pc := 136) dX7_become_136 rfl rfl ?_
  refine zc_aload_n (pc := 137) dX7_become_137 rfl rfl ?_
  refine zc_getI (pc := 138) zF_X7_36 hx1 dX7_become_138 ?_
  refine zc_putI (pc := 141) zF_X7_36 hp dX7_become_141 ?_
  refine zc_letH (fun h11 _ => ?_)
  refine zc_aload_n (pc := 144) dX7_become_144 rfl rfl ?_
  refine zc_aload_n (pc := 145) dX7_become_145 rfl rfl ?_
  refine zc_getI (pc := 146) zF_X7_40 hx1 dX7_become_146 ?_
  refine zc_putI (pc := 149) zF_X7_40 hp dX7_become_149 ?_
  refine zc_letH (fun h12 _ => ?_)
  refine zc_aload_n (pc := 152) dX7_become_152 rfl rfl ?_
  refine zc_aload_n (pc := 153) dX7_become_153 rfl rfl ?_
  refine zc_getI (pc := 154) zF_X7_59 hx1 dX7_become_154 ?_
  refine zc_putI (pc := 157) zF_X7_59 hp dX7_become_157 ?_
  refine zc_letH (fun h13 _ => ?_)
  refine zc_aload_n (pc := 160) dX7_become_160 rfl rfl ?_
  refine zc_aload_n (pc := 161) dX7_become_161 rfl rfl ?_
  refine zc_getI (pc := 162) zF_X7_62 hx1 dX7_become_162 ?_
  refine zc_putI (pc := 165) zF_X7_62 hp dX7_become_165 ?_
  refine zc_letH (fun h14 _ => ?_)
  exact zc_vretK (pc := 168) dX7_become_168 rfl ⟨_, rfl, rfl⟩
def zf_X7_isThere (p : Nat) (x1 : Int32) (h : zHp) : Option Int32 :=
  (if x1 < 0 then some (0 : Int32) else (if (h.1 p 9) ≤ x1 then some (0 : Int32) else some (1 : Int32)))
set_option maxRecDepth 100000 in
set_option maxHeartbeats 4000000 in
theorem zt_X7_isThere (p : Nat) (hp : zc_lay[p]? = some (7, 0)) (x1 : Int32) (h : zHp) {r : Int32} (hr : (zf_X7_isThere p x1 h) = some r) : zc_Cn zM_X7_isThere [.ref p, .int x1] h ((fun r => zc_mI (r, h)) r) := by
  refine zc_meth (mk := (fun r => zc_mI (r, h))) (o := (zf_X7_isThere p x1 h)) (by decide +kernel) (Nat.le_of_ble_eq_true rfl) ?_ hr
  unfold zf_X7_isThere
  refine zc_sL (ls1 := [some (.ref p), some (.int x1)]) rfl ?_
  refine zc_iload_n (pc := 0) dX7_isThere_0 rfl rfl ?_
  refine zc_if_lt (pc := 1) 16 dX7_isThere_1 (by decide) (fun _ => ?_) (fun _ => ?_)
  · refine zc_iconst (pc := 16) (0 : Int32) dX7_isThere_16 (by decide) ?_
    exact zc_zretK (pc := 17) dX7_isThere_17 rfl (by decide) ⟨_, rfl, rfl⟩
  · refine zc_iload_n (pc := 4) dX7_isThere_4 rfl rfl ?_
    refine zc_aload_n (pc := 5) dX7_isThere_5 rfl rfl ?_
    refine zc_getI (pc := 6) zF_X7_53 hp dX7_isThere_6 ?_
    refine zc_icmp_ge (pc := 9) 16 dX7_isThere_9 (by decide) (fun _ => ?_) (fun _ => ?_)
    · refine zc_iconst (pc := 16) (0 : Int32) dX7_isThere_16 (by decide) ?_
      exact zc_zretK (pc := 17) dX7_isThere_17 rfl (by decide) ⟨_, rfl, rfl⟩
    · refine zc_iconst (pc := 12) (1 : Int32) dX7_isThere_12 (by decide) ?_
      refine zc_goto (pc := 13) 17 dX7_isThere_13 (by decide) ?_
      exact zc_zretK (pc := 17) dX7_isThere_17 rfl (by decide) ⟨_, rfl, rfl⟩
def zf_X7_isNumber (x0 : Int32) : Option Int32 :=
  (if x0 < 0 then some (0 : Int32) else (if (7 : Int32) ≤ x0 then some (0 : Int32) else some (1 : Int32)))
set_option maxRecDepth 100000 in
set_option maxHeartbeats 4000000 in
theorem zt_X7_isNumber (x0 : Int32) (h : zHp) {r : Int32} (hr : (zf_X7_isNumber x0) = some r) : zc_Cn zM_X7_isNumber [.int x0] h ((fun r => zc_mI (r, h)) r) := by
  refine zc_meth (mk := (fun r => zc_mI (r, h))) (o := (zf_X7_isNumber x0)) (by decide +kernel) (Nat.le_of_ble_eq_true rfl) ?_ hr
  unfold zf_X7_isNumber
  refine zc_sL (ls1 := [some (.int x0)]) rfl ?_
  refine zc_iload_n (pc := 0) dX7_isNumber_0 rfl rfl ?_
  refine zc_if_lt (pc := 1) 14 dX7_isNumber_1 (by decide) (fun _ => ?_) (fun _ => ?_)
  · refine zc_iconst (pc := 14) (0 : Int32) dX7_isNumber_14 (by decide) ?_
    exact zc_zretK (pc := 15) dX7_isNumber_15 rfl (by decide) ⟨_, rfl, rfl⟩
  · refine zc_iload_n (pc := 4) dX7_isNumber_4 rfl rfl ?_
    refine zc_bipush (pc := 5) (7 : Int32) dX7_isNumber_5 (by decide) ?_
    refine zc_icmp_ge (pc := 7) 14 dX7_isNumber_7 (by decide) (fun _ => ?_) (fun _ => ?_)
    · refine zc_iconst (pc := 14) (0 : Int32) dX7_isNumber_14 (by decide) ?_
      exact zc_zretK (pc := 15) dX7_isNumber_15 rfl (by decide) ⟨_, rfl, rfl⟩
    · refine zc_iconst (pc := 10) (1 : Int32) dX7_isNumber_10 (by decide) ?_
      refine zc_goto (pc := 11) 15 dX7_isNumber_11 (by decide) ?_
      exact zc_zretK (pc := 15) dX7_isNumber_15 rfl (by decide) ⟨_, rfl, rfl⟩
def zf_X7_dress (p : Nat) (x1 : Int32) (x2 : Int32) (x3 : Int32) (h : zHp) : Option zHp :=
  (if zc_ix x1 7 then ((some (zc_ui h (p + 1) x1.toNatClampNeg x2) : Option zHp).bind (fun h2 => (if zc_ix x1 7 then ((some (zc_ui h2 (p + 2) x1.toNatClampNeg x3) : Option zHp).bind (fun h4 => (if zc_ix x2 8 then ((zv_goesFar x2.toNatClampNeg x3).bind (fun r6 => (if zc_ix x1 7 then ((some (zc_ui h4 (p + 6) x1.toNatClampNeg r6) : Option zHp).bind (fun h8 => (if zc_ix x2 8 then ((zv_brings x2.toNatClampNeg x3).bind (fun r10 => (if zc_ix x1 7 then ((some (zc_ui h8 (p + 7) x1.toNatClampNeg r10) : Option zHp).bind (fun h12 => (if zc_ix x2 8 then ((zv_eats x2.toNatClampNeg x3).bind (fun r14 => (if zc_ix x1 7 then ((some (zc_ui h12 (p + 8) x1.toNatClampNeg r14) : Option zHp).bind (fun h16 => some h16)) else none))) else none))) else none))) else none))) else none))) else none))) else none))) else none)
theorem zr_X7_dress_26 (h : zHp) (y0 : Int32) : ∀ j, j < 8 → ∃ z : zMI, zc_Run zM_X7_dress z 26 (.ref (8 + j) :: [.int y0]) h ∧ ∀ r, zv_goesFar j y0 = some r → zc_Cn z (.ref (8 + j) :: [.int y0]) h (zc_mI (r, h)) := by
  intro j hj
  match j, hj with
  | 0, _ => exact ⟨zM_X9_goesFar, zc_runO (z := zM_X9_goesFar) (n := 1) (ci := 9) (n0 := 0) (q := (RX9, TX9, 0)) zo_X9_goesFar ⟨Nat.le_of_ble_eq_true rfl, Nat.le_of_ble_eq_true rfl⟩ zw_284 zw_287 zw_285 zw_313 (by decide +kernel) zw_285 zw_286 rfl (by decide) rfl rfl dX7_dress_26, fun r hr => zt_X9_goesFar 8 rfl (by decide) (vc := (RX9, TX9, 0)) rfl y0 h hr⟩
  | 1, _ => exact ⟨zM_X1_goesFar, zc_runO (z := zM_X1_goesFar) (n := 1) (ci := 1) (n0 := 0) (q := (RX1, TX1, 0)) zo_X1_goesFar ⟨Nat.le_of_ble_eq_true rfl, Nat.le_of_ble_eq_true rfl⟩ zw_284 zw_287 zw_285 zw_313 (by decide +kernel) zw_295 zw_298 rfl (by decide) rfl rfl dX7_dress_26, fun r hr => zt_X1_goesFar 9 rfl (by decide) (vc := (RX1, TX1, 0)) rfl y0 h hr⟩
  | 2, _ => exact ⟨zM_X3_goesFar, zc_runO (z := zM_X3_goesFar) (n := 1) (ci := 3) (n0 := 0) (q := (RX3, TX3, 0)) zo_X3_goesFar ⟨Nat.le_of_ble_eq_true rfl, Nat.le_of_ble_eq_true rfl⟩ zw_284 zw_287 zw_285 zw_313 (by decide +kernel) zw_301 zw_300 rfl (by decide) rfl rfl dX7_dress_26, fun r hr => zt_X3_goesFar 10 rfl (by decide) (vc := (RX3, TX3, 0)) rfl y0 h hr⟩
  | 3, _ => exact ⟨zM_X4_goesFar, zc_runO (z := zM_X4_goesFar) (n := 1) (ci := 4) (n0 := 0) (q := (RX4, TX4, 0)) zo_X4_goesFar ⟨Nat.le_of_ble_eq_true rfl, Nat.le_of_ble_eq_true rfl⟩ zw_284 zw_287 zw_285 zw_313 (by decide +kernel) zw_304 zw_303 rfl (by decide) rfl rfl dX7_dress_26, fun r hr => zt_X4_goesFar 11 rfl (by decide) (vc := (RX4, TX4, 0)) rfl y0 h hr⟩
  | 4, _ => exact ⟨zM_X2_goesFar, zc_runO (z := zM_X2_goesFar) (n := 1) (ci := 2) (n0 := 0) (q := (RX2, TX2, 0)) zo_X2_goesFar ⟨Nat.le_of_ble_eq_true rfl, Nat.le_of_ble_eq_true rfl⟩ zw_284 zw_287 zw_285 zw_313 (by decide +kernel) zw_292 zw_299 rfl (by decide) rfl rfl dX7_dress_26, fun r hr => zt_X2_goesFar 12 rfl (by decide) (vc := (RX2, TX2, 0)) rfl y0 h hr⟩
  | 5, _ => exact ⟨zM_X6_goesFar, zc_runO (z := zM_X6_goesFar) (n := 1) (ci := 6) (n0 := 0) (q := (RX6, TX6, 0)) zo_X6_goesFar ⟨Nat.le_of_ble_eq_true rfl, Nat.le_of_ble_eq_true rfl⟩ zw_284 zw_287 zw_285 zw_313 (by decide +kernel) zw_311 zw_310 rfl (by decide) rfl rfl dX7_dress_26, fun r hr => zt_X6_goesFar 13 rfl (by decide) (vc := (RX6, TX6, 0)) rfl y0 h hr⟩
  | 6, _ => exact ⟨zM_X0_goesFar, zc_runO (z := zM_X0_goesFar) (n := 1) (ci := 0) (n0 := 0) (q := (RX0, TX0, 0)) zo_X0_goesFar ⟨Nat.le_of_ble_eq_true rfl, Nat.le_of_ble_eq_true rfl⟩ zw_284 zw_287 zw_285 zw_313 (by decide +kernel) zw_289 zw_288 rfl (by decide) rfl rfl dX7_dress_26, fun r hr => zt_X0_goesFar 14 rfl (by decide) (vc := (RX0, TX0, 0)) rfl y0 h hr⟩
  | 7, _ => exact ⟨zM_X5_goesFar, zc_runO (z := zM_X5_goesFar) (n := 1) (ci := 5) (n0 := 0) (q := (RX5, TX5, 0)) zo_X5_goesFar ⟨Nat.le_of_ble_eq_true rfl, Nat.le_of_ble_eq_true rfl⟩ zw_284 zw_287 zw_285 zw_313 (by decide +kernel) zw_308 zw_307 rfl (by decide) rfl rfl dX7_dress_26, fun r hr => zt_X5_goesFar 15 rfl (by decide) (vc := (RX5, TX5, 0)) rfl y0 h hr⟩
  | j + 8, hj => exact absurd hj (Nat.not_lt_of_le (Nat.le_add_left 8 j))
theorem zr_X7_dress_42 (h : zHp) (y0 : Int32) : ∀ j, j < 8 → ∃ z : zMI, zc_Run zM_X7_dress z 42 (.ref (8 + j) :: [.int y0]) h ∧ ∀ r, zv_brings j y0 = some r → zc_Cn z (.ref (8 + j) :: [.int y0]) h (zc_mI (r, h)) := by
  intro j hj
  match j, hj with
  | 0, _ => exact ⟨zM_X9_brings, zc_runO (z := zM_X9_brings) (n := 1) (ci := 9) (n0 := 0) (q := (RX9, TX9, 0)) zo_X9_brings ⟨Nat.le_of_ble_eq_true rfl, Nat.le_of_ble_eq_true rfl⟩ zw_314 zw_317 zw_315 zw_336 (by decide +kernel) zw_315 zw_316 rfl (by decide) rfl rfl dX7_dress_42, fun r hr => zt_X9_brings 8 rfl (by decide) (vc := (RX9, TX9, 0)) rfl y0 h hr⟩
  | 1, _ => exact ⟨zM_X1_brings, zc_runO (z := zM_X1_brings) (n := 1) (ci := 1) (n0 := 0) (q := (RX1, TX1, 0)) zo_X1_brings ⟨Nat.le_of_ble_eq_true rfl, Nat.le_of_ble_eq_true rfl⟩ zw_314 zw_317 zw_315 zw_336 (by decide +kernel) zw_322 zw_321 rfl (by decide) rfl rfl dX7_dress_42, fun r hr => zt_X1_brings 9 rfl (by decide) (vc := (RX1, TX1, 0)) rfl y0 h hr⟩
  | 2, _ => exact ⟨zM_X3_brings, zc_runO (z := zM_X3_brings) (n := 1) (ci := 3) (n0 := 0) (q := (RX3, TX3, 0)) zo_X3_brings ⟨Nat.le_of_ble_eq_true rfl, Nat.le_of_ble_eq_true rfl⟩ zw_314 zw_317 zw_315 zw_336 (by decide +kernel) zw_329 zw_328 rfl (by decide) rfl rfl dX7_dress_42, fun r hr => zt_X3_brings 10 rfl (by decide) (vc := (RX3, TX3, 0)) rfl y0 h hr⟩
  | 3, _ => exact ⟨zM_X3_brings, zc_runO (z := zM_X3_brings) (n := 1) (ci := 4) (n0 := 0) (q := (RX4, TX4, 0)) zo_X3_brings ⟨Nat.le_of_ble_eq_true rfl, Nat.le_of_ble_eq_true rfl⟩ zw_314 zw_317 zw_315 zw_336 (by decide +kernel) zw_329 zw_331 rfl (by decide) rfl rfl dX7_dress_42, fun r hr => zt_X3_brings 11 rfl (by decide) (vc := (RX4, TX4, 0)) rfl y0 h hr⟩
  | 4, _ => exact ⟨zM_X2_brings, zc_runO (z := zM_X2_brings) (n := 1) (ci := 2) (n0 := 0) (q := (RX2, TX2, 0)) zo_X2_brings ⟨Nat.le_of_ble_eq_true rfl, Nat.le_of_ble_eq_true rfl⟩ zw_314 zw_317 zw_315 zw_336 (by decide +kernel) zw_325 zw_324 rfl (by decide) rfl rfl dX7_dress_42, fun r hr => zt_X2_brings 12 rfl (by decide) (vc := (RX2, TX2, 0)) rfl y0 h hr⟩
  | 5, _ => exact ⟨zM_X6_brings, zc_runO (z := zM_X6_brings) (n := 1) (ci := 6) (n0 := 0) (q := (RX6, TX6, 0)) zo_X6_brings ⟨Nat.le_of_ble_eq_true rfl, Nat.le_of_ble_eq_true rfl⟩ zw_314 zw_317 zw_315 zw_336 (by decide +kernel) zw_334 zw_333 rfl (by decide) rfl rfl dX7_dress_42, fun r hr => zt_X6_brings 13 rfl (by decide) (vc := (RX6, TX6, 0)) rfl y0 h hr⟩
  | 6, _ => exact ⟨zM_X0_brings, zc_runO (z := zM_X0_brings) (n := 1) (ci := 0) (n0 := 0) (q := (RX0, TX0, 0)) zo_X0_brings ⟨Nat.le_of_ble_eq_true rfl, Nat.le_of_ble_eq_true rfl⟩ zw_314 zw_317 zw_315 zw_336 (by decide +kernel) zw_319 zw_318 rfl (by decide) rfl rfl dX7_dress_42, fun r hr => zt_X0_brings 14 rfl (by decide) (vc := (RX0, TX0, 0)) rfl y0 h hr⟩
  | 7, _ => exact ⟨zM_X3_brings, zc_runO (z := zM_X3_brings) (n := 1) (ci := 5) (n0 := 0) (q := (RX5, TX5, 0)) zo_X3_brings ⟨Nat.le_of_ble_eq_true rfl, Nat.le_of_ble_eq_true rfl⟩ zw_314 zw_317 zw_315 zw_336 (by decide +kernel) zw_329 zw_332 rfl (by decide) rfl rfl dX7_dress_42, fun r hr => zt_X3_brings 15 rfl (by decide) (vc := (RX5, TX5, 0)) rfl y0 h hr⟩
  | j + 8, hj => exact absurd hj (Nat.not_lt_of_le (Nat.le_add_left 8 j))
theorem zr_X7_dress_58 (h : zHp) (y0 : Int32) : ∀ j, j < 8 → ∃ z : zMI, zc_Run zM_X7_dress z 58 (.ref (8 + j) :: [.int y0]) h ∧ ∀ r, zv_eats j y0 = some r → zc_Cn z (.ref (8 + j) :: [.int y0]) h (zc_mI (r, h)) := by
  intro j hj
  match j, hj with
  | 0, _ => exact ⟨zM_X9_eats, zc_runO (z := zM_X9_eats) (n := 1) (ci := 9) (n0 := 0) (q := (RX9, TX9, 0)) zo_X9_eats ⟨Nat.le_of_ble_eq_true rfl, Nat.le_of_ble_eq_true rfl⟩ zw_337 zw_340 zw_338 zw_365 (by decide +kernel) zw_338 zw_339 rfl (by decide) rfl rfl dX7_dress_58, fun r hr => zt_X9_eats 8 rfl (by decide) (vc := (RX9, TX9, 0)) rfl y0 h hr⟩
  | 1, _ => exact ⟨zM_X1_eats, zc_runO (z := zM_X1_eats) (n := 1) (ci := 1) (n0 := 0) (q := (RX1, TX1, 0)) zo_X1_eats ⟨Nat.le_of_ble_eq_true rfl, Nat.le_of_ble_eq_true rfl⟩ zw_337 zw_340 zw_338 zw_365 (by decide +kernel) zw_348 zw_350 rfl (by decide) rfl rfl dX7_dress_58, fun r hr => zt_X1_eats 9 rfl (by decide) (vc := (RX1, TX1, 0)) rfl y0 h hr⟩
  | 2, _ => exact ⟨zM_X3_eats, zc_runO (z := zM_X3_eats) (n := 1) (ci := 3) (n0 := 0) (q := (RX3, TX3, 0)) zo_X3_eats ⟨Nat.le_of_ble_eq_true rfl, Nat.le_of_ble_eq_true rfl⟩ zw_337 zw_340 zw_338 zw_365 (by decide +kernel) zw_353 zw_352 rfl (by decide) rfl rfl dX7_dress_58, fun r hr => zt_X3_eats 10 rfl (by decide) (vc := (RX3, TX3, 0)) rfl y0 h hr⟩
  | 3, _ => exact ⟨zM_X4_eats, zc_runO (z := zM_X4_eats) (n := 1) (ci := 4) (n0 := 0) (q := (RX4, TX4, 0)) zo_X4_eats ⟨Nat.le_of_ble_eq_true rfl, Nat.le_of_ble_eq_true rfl⟩ zw_337 zw_340 zw_338 zw_365 (by decide +kernel) zw_356 zw_355 rfl (by decide) rfl rfl dX7_dress_58, fun r hr => zt_X4_eats 11 rfl (by decide) (vc := (RX4, TX4, 0)) rfl y0 h hr⟩
  | 4, _ => exact ⟨zM_X2_eats, zc_runO (z := zM_X2_eats) (n := 1) (ci := 2) (n0 := 0) (q := (RX2, TX2, 0)) zo_X2_eats ⟨Nat.le_of_ble_eq_true rfl, Nat.le_of_ble_eq_true rfl⟩ zw_337 zw_340 zw_338 zw_365 (by decide +kernel) zw_345 zw_351 rfl (by decide) rfl rfl dX7_dress_58, fun r hr => zt_X2_eats 12 rfl (by decide) (vc := (RX2, TX2, 0)) rfl y0 h hr⟩
  | 5, _ => exact ⟨zM_X6_eats, zc_runO (z := zM_X6_eats) (n := 1) (ci := 6) (n0 := 0) (q := (RX6, TX6, 0)) zo_X6_eats ⟨Nat.le_of_ble_eq_true rfl, Nat.le_of_ble_eq_true rfl⟩ zw_337 zw_340 zw_338 zw_365 (by decide +kernel) zw_363 zw_362 rfl (by decide) rfl rfl dX7_dress_58, fun r hr => zt_X6_eats 13 rfl (by decide) (vc := (RX6, TX6, 0)) rfl y0 h hr⟩
  | 6, _ => exact ⟨zM_X0_eats, zc_runO (z := zM_X0_eats) (n := 1) (ci := 0) (n0 := 0) (q := (RX0, TX0, 0)) zo_X0_eats ⟨Nat.le_of_ble_eq_true rfl, Nat.le_of_ble_eq_true rfl⟩ zw_337 zw_340 zw_338 zw_365 (by decide +kernel) zw_342 zw_341 rfl (by decide) rfl rfl dX7_dress_58, fun r hr => zt_X0_eats 14 rfl (by decide) (vc := (RX0, TX0, 0)) rfl y0 h hr⟩
  | 7, _ => exact ⟨zM_X5_eats, zc_runO (z := zM_X5_eats) (n := 1) (ci := 5) (n0 := 0) (q := (RX5, TX5, 0)) zo_X5_eats ⟨Nat.le_of_ble_eq_true rfl, Nat.le_of_ble_eq_true rfl⟩ zw_337 zw_340 zw_338 zw_365 (by decide +kernel) zw_359 zw_358 rfl (by decide) rfl rfl dX7_dress_58, fun r hr => zt_X5_eats 15 rfl (by decide) (vc := (RX5, TX5, 0)) rfl y0 h hr⟩
  | j + 8, hj => exact absurd hj (Nat.not_lt_of_le (Nat.le_add_left 8 j))
set_option maxRecDepth 100000 in
set_option maxHeartbeats 4000000 in
theorem zt_X7_dress (p : Nat) (hp : zc_lay[p]? = some (7, 0)) (x1 : Int32) (x2 : Int32) (x3 : Int32) (h : zHp) {r : zHp} (hr : (zf_X7_dress p x1 x2 x3 h) = some r) : zc_Cn zM_X7_dress [.ref p, .int x1, .int x2, .int x3] h (zc_mV r) := by
  refine zc_meth (mk := zc_mV) (o := (zf_X7_dress p x1 x2 x3 h)) (by decide +kernel) (Nat.le_of_ble_eq_true rfl) ?_ hr
  unfold zf_X7_dress
  refine zc_sL (ls1 := [some (.ref p), some (.int x1), some (.int x2), some (.int x3)]) rfl ?_
  refine zc_aload_n (pc := 0) dX7_dress_0 rfl rfl ?_
  refine zc_getO (pc := 1) zF_X7_9 hp dX7_dress_1 ?_
  refine zc_iload_n (pc := 4) dX7_dress_4 rfl rfl ?_
  refine zc_iload_n (pc := 5) dX7_dress_5 rfl rfl ?_
  refine zc_guard (fun g1 => ?_)
  refine zc_asti (pc := 6) (zs_p (j := 1) hp) g1 dX7_dress_6 ?_
  refine zc_letH (fun h2 _ => ?_)
  refine zc_aload_n (pc := 7) dX7_dress_7 rfl rfl ?_
  refine zc_getO (pc := 8) zF_X7_15 hp dX7_dress_8 ?_
  refine zc_iload_n (pc := 11) dX7_dress_11 rfl rfl ?_
  refine zc_iload_n (pc := 12) dX7_dress_12 rfl rfl ?_
  refine zc_guard (fun g3 => ?_)
  refine zc_asti (pc := 13) (zs_p (j := 2) hp) g3 dX7_dress_13 ?_
  refine zc_letH (fun h4 _ => ?_)
  refine zc_aload_n (pc := 14) dX7_dress_14 rfl rfl ?_
  refine zc_getO (pc := 15) zF_X7_27 hp dX7_dress_15 ?_
  refine zc_iload_n (pc := 18) dX7_dress_18 rfl rfl ?_
  refine zc_aload_n (pc := 19) dX7_dress_19 rfl rfl ?_
  refine zc_getC (pc := 20) zF_X7_43 hp dX7_dress_20 ?_
  refine zc_iload_n (pc := 23) dX7_dress_23 rfl rfl ?_
  refine zc_guard (fun g5 => ?_)
  refine zc_aldV (pc := 24) rfl g5 dX7_dress_24 ?_
  refine zc_iload_n (pc := 25) dX7_dress_25 rfl rfl ?_
  refine zc_virt (pc := 26) (oc := fun j => zv_goesFar j x3) [.int x3] rfl (zr_X7_dress_26 _ x3) (Nat.le_of_ble_eq_true rfl) g5 (fun r6 => ?_)
  refine zc_guard (fun g7 => ?_)
  refine zc_asti (pc := 29) (zs_p (j := 6) hp) g7 dX7_dress_29 ?_
  refine zc_letH (fun h8 _ => ?_)
  refine zc_aload_n (pc := 30) dX7_dress_30 rfl rfl ?_
  refine zc_getO (pc := 31) zF_X7_30 hp dX7_dress_31 ?_
  refine zc_iload_n (pc := 34) dX7_dress_34 rfl rfl ?_
  refine zc_aload_n (pc := 35) dX7_dress_35 rfl rfl ?_
  refine zc_getC (pc := 36) zF_X7_43 hp dX7_dress_36 ?_
  refine zc_iload_n (pc := 39) dX7_dress_39 rfl rfl ?_
  refine zc_guard (fun g9 => ?_)
  refine zc_aldV (pc := 40) rfl g9 dX7_dress_40 ?_
  refine zc_iload_n (pc := 41) dX7_dress_41 rfl rfl ?_
  refine zc_virt (pc := 42) (oc := fun j => zv_brings j x3) [.int x3] rfl (zr_X7_dress_42 _ x3) (Nat.le_of_ble_eq_true rfl) g9 (fun r10 => ?_)
  refine zc_guard (fun g11 => ?_)
  refine zc_asti (pc := 45) (zs_p (j := 7) hp) g11 dX7_dress_45 ?_
  refine zc_letH (fun h12 _ => ?_)
  refine zc_aload_n (pc := 46) dX7_dress_46 rfl rfl ?_
  refine zc_getO (pc := 47) zF_X7_33 hp dX7_dress_47 ?_
  refine zc_iload_n (pc := 50) dX7_dress_50 rfl rfl ?_
  refine zc_aload_n (pc := 51) dX7_dress_51 rfl rfl ?_
  refine zc_getC (pc := 52) zF_X7_43 hp dX7_dress_52 ?_
  refine zc_iload_n (pc := 55) dX7_dress_55 rfl rfl ?_
  refine zc_guard (fun g13 => ?_)
  refine zc_aldV (pc := 56) rfl g13 dX7_dress_56 ?_
  refine zc_iload_n (pc := 57) dX7_dress_57 rfl rfl ?_
  refine zc_virt (pc := 58) (oc := fun j => zv_eats j x3) [.int x3] rfl (zr_X7_dress_58 _ x3) (Nat.le_of_ble_eq_true rfl) g13 (fun r14 => ?_)
  refine zc_guard (fun g15 => ?_)
  refine zc_asti (pc := 61) (zs_p (j := 8) hp) g15 dX7_dress_61 ?_
  refine zc_letH (fun h16 _ => ?_)
  exact zc_vretK (pc := 62) dX7_dress_62 rfl ⟨_, rfl, rfl⟩
def zf_X7_add (p : Nat) (x1 : Int32) (x2 : Int32) (x3 : Int32) (x4 : Int32) (h : zHp) : Option (Int32 × zHp) :=
  (if (h.1 p 9) < (7 : Int32) then ((zf_X10_isKind x1).bind (fun r1 => (if r1 = 0 then some ((-1 : Int32), h) else ((zf_X10_isFigure x2).bind (fun r2 => (if r2 = 0 then some ((-1 : Int32), h) else ((zf_X10_isPlace x3).bind (fun r3 => (if r3 = 0 then some ((-1 : Int32), h) else ((zf_X7_isNumber x4).bind (fun r4 => (if r4 = 0 then some ((-1 : Int32), h) else ((some (zc_ui h p 9 ((h.1 p 9) + (1 : Int32))) : Option zHp).bind (fun h5 => (if zc_ix (h.1 p 9) 7 then ((some (zc_ui h5 (p + 3) (h.1 p 9).toNatClampNeg x3) : Option zHp).bind (fun h7 => (if zc_ix (h.1 p 9) 7 then ((some (zc_ui h7 (p + 4) (h.1 p 9).toNatClampNeg x4) : Option zHp).bind (fun h9 => (if zc_ix (h.1 p 9) 7 then ((some (zc_ui h9 (p + 5) (h.1 p 9).toNatClampNeg (10 : Int32)) : Option zHp).bind (fun h11 => ((zf_X7_dress p (h.1 p 9) x1 x2 h11).bind (fun r12 => some ((h.1 p 9), r12))))) else none))) else none))) else none))))))))))))))) else some ((-2 : Int32), h))
set_option maxRecDepth 100000 in
set_option maxHeartbeats 4000000 in
theorem zt_X7_add (p : Nat) (hp : zc_lay[p]? = some (7, 0)) (x1 : Int32) (x2 : Int32) (x3 : Int32) (x4 : Int32) (h : zHp) {r : (Int32 × zHp)} (hr : (zf_X7_add p x1 x2 x3 x4 h) = some r) : zc_Cn zM_X7_add [.ref p, .int x1, .int x2, .int x3, .int x4] h (zc_mI r) := by
  refine zc_meth (mk := zc_mI) (o := (zf_X7_add p x1 x2 x3 x4 h)) (by decide +kernel) (Nat.le_of_ble_eq_true rfl) ?_ hr
  unfold zf_X7_add
  refine zc_sL (ls1 := [some (.ref p), some (.int x1), some (.int x2), some (.int x3), some (.int x4), none]) rfl ?_
  refine zc_aload_n (pc := 0) dX7_add_0 rfl rfl ?_
  refine zc_getI (pc := 1) zF_X7_53 hp dX7_add_1 ?_
  refine zc_bipush (pc := 4) (7 : Int32) dX7_add_4 (by decide) ?_
  refine zc_icmp_lt (pc := 6) 12 dX7_add_6 (by decide) (fun _ => ?_) (fun _ => ?_)
  · refine zc_iload_n (pc := 12) dX7_add_12 rfl rfl ?_
    refine zc_callIp (pc := 13) [.int x1] rfl (zc_runSN zo_X10_isKind ⟨Nat.le_of_ble_eq_true rfl, Nat.le_of_ble_eq_true rfl⟩ zw_268 zw_269 rfl dX7_add_13) (Nat.le_of_ble_eq_true rfl) (fun _ hr => zt_X10_isKind x1 h hr) (fun r1 => ?_)
    refine zc_if_eq (pc := 16) 41 dX7_add_16 (by decide) (fun _ => ?_) (fun _ => ?_)
    · refine zc_iconst (pc := 41) (-1 : Int32) dX7_add_41 (by decide) ?_
      exact zc_iretK (pc := 42) dX7_add_42 rfl ⟨_, rfl, rfl⟩
    · refine zc_iload_n (pc := 19) dX7_add_19 rfl rfl ?_
      refine zc_callIp (pc := 20) [.int x2] rfl (zc_runSN zo_X10_isFigure ⟨Nat.le_of_ble_eq_true rfl, Nat.le_of_ble_eq_true rfl⟩ zw_271 zw_272 rfl dX7_add_20) (Nat.le_of_ble_eq_true rfl) (fun _ hr => zt_X10_isFigure x2 h hr) (fun r2 => ?_)
      refine zc_if_eq (pc := 23) 41 dX7_add_23 (by decide) (fun _ => ?_) (fun _ => ?_)
      · refine zc_iconst (pc := 41) (-1 : Int32) dX7_add_41 (by decide) ?_
        exact zc_iretK (pc := 42) dX7_add_42 rfl ⟨_, rfl, rfl⟩
      · refine zc_iload_n (pc := 26) dX7_add_26 rfl rfl ?_
        refine zc_callIp (pc := 27) [.int x3] rfl (zc_runSN zo_X10_isPlace ⟨Nat.le_of_ble_eq_true rfl, Nat.le_of_ble_eq_true rfl⟩ zw_274 zw_275 rfl dX7_add_27) (Nat.le_of_ble_eq_true rfl) (fun _ hr => zt_X10_isPlace x3 h hr) (fun r3 => ?_)
        refine zc_if_eq (pc := 30) 41 dX7_add_30 (by decide) (fun _ => ?_) (fun _ => ?_)
        · refine zc_iconst (pc := 41) (-1 : Int32) dX7_add_41 (by decide) ?_
          exact zc_iretK (pc := 42) dX7_add_42 rfl ⟨_, rfl, rfl⟩
        · refine zc_iload (pc := 33) dX7_add_33 rfl ?_
          refine zc_callIp (pc := 35) [.int x4] rfl (zc_runS zo_X7_isNumber ⟨Nat.le_of_ble_eq_true rfl, Nat.le_of_ble_eq_true rfl⟩ zw_277 zw_278 rfl dX7_add_35) (Nat.le_of_ble_eq_true rfl) (fun _ hr => zt_X7_isNumber x4 h hr) (fun r4 => ?_)
          refine zc_if_ne (pc := 38) 43 dX7_add_38 (by decide) (fun _ => ?_) (fun _ => ?_)
          · refine zc_iconst (pc := 41) (-1 : Int32) dX7_add_41 (by decide) ?_
            exact zc_iretK (pc := 42) dX7_add_42 rfl ⟨_, rfl, rfl⟩
          · refine zc_aload_n (pc := 43) dX7_add_43 rfl rfl ?_
            refine zc_getI (pc := 44) zF_X7_53 hp dX7_add_44 ?_
            refine zc_istore (pc := 47) dX7_add_47 (Nat.le_of_ble_eq_true rfl) rfl (Nat.le_of_ble_eq_true rfl) ?_
            refine zc_sL (ls1 := [some (.ref p), some (.int x1), some (.int x2), some (.int x3), some (.int x4), some (.int (h.1 p 9))]) rfl ?_
            refine zc_aload_n (pc := 49) dX7_add_49 rfl rfl ?_
            refine zc_dup (pc := 50) dX7_add_50 rfl ?_
            refine zc_getI (pc := 51) zF_X7_53 hp dX7_add_51 ?_
            refine zc_iconst (pc := 54) (1 : Int32) dX7_add_54 (by decide) ?_
            refine zc_iadd (pc := 55) dX7_add_55 ?_
            refine zc_putI (pc := 56) zF_X7_53 hp dX7_add_56 ?_
            refine zc_letH (fun h5 _ => ?_)
            refine zc_aload_n (pc := 59) dX7_add_59 rfl rfl ?_
            refine zc_getO (pc := 60) zF_X7_18 hp dX7_add_60 ?_
            refine zc_iload (pc := 63) dX7_add_63 rfl ?_
            refine zc_iload_n (pc := 65) dX7_add_65 rfl rfl ?_
            refine zc_guard (fun g6 => ?_)
            refine zc_asti (pc := 66) (zs_p (j := 3) hp) g6 dX7_add_66 ?_
            refine zc_letH (fun h7 _ => ?_)
            refine zc_aload_n (pc := 67) dX7_add_67 rfl rfl ?_
            refine zc_getO (pc := 68) zF_X7_21 hp dX7_add_68 ?_
            refine zc_iload (pc := 71) dX7_add_71 rfl ?_
            refine zc_iload (pc := 73) dX7_add_73 rfl ?_
            refine zc_guard (fun g8 => ?_)
            refine zc_asti (pc := 75) (zs_p (j := 4) hp) g8 dX7_add_75 ?_
            refine zc_letH (fun h9 _ => ?_)
            refine zc_aload_n (pc := 76) dX7_add_76 rfl rfl ?_
            refine zc_getO (pc := 77) zF_X7_24 hp dX7_add_77 ?_
            refine zc_iload (pc := 80) dX7_add_80 rfl ?_
            refine zc_bipush (pc := 82) (10 : Int32) dX7_add_82 (by decide) ?_
            refine zc_guard (fun g10 => ?_)
            refine zc_asti (pc := 84) (zs_p (j := 5) hp) g10 dX7_add_84 ?_
            refine zc_letH (fun h11 _ => ?_)
            refine zc_aload_n (pc := 85) dX7_add_85 rfl rfl ?_
            refine zc_iload (pc := 86) dX7_add_86 rfl ?_
            refine zc_iload_n (pc := 88) dX7_add_88 rfl rfl ?_
            refine zc_iload_n (pc := 89) dX7_add_89 rfl rfl ?_
            refine zc_callV (pc := 90) [.ref p, .int (h.1 p 9), .int x1, .int x2] rfl (zc_runV (ci := 7) (n0 := 0) (q := (RX7, TX7, 15)) zo_X7_dress ⟨Nat.le_of_ble_eq_true rfl, Nat.le_of_ble_eq_true rfl⟩ zw_280 zw_281 zw_282 hp (by decide) rfl rfl dX7_add_90) (Nat.le_of_ble_eq_true rfl) (fun _ hr => zt_X7_dress p hp (h.1 p 9) x1 x2 h11 hr) (fun r12 => ?_)
            refine zc_iload (pc := 93) dX7_add_93 rfl ?_
            exact zc_iretK (pc := 95) dX7_add_95 rfl ⟨_, rfl, rfl⟩
  · refine zc_bipush (pc := 9) (-2 : Int32) dX7_add_9 (by decide) ?_
    exact zc_iretK (pc := 11) dX7_add_11 rfl ⟨_, rfl, rfl⟩
def zf_X7_setFrom (p : Nat) (x1 : Int32) (x2 : Int32) (h : zHp) : Option (Int32 × zHp) :=
  ((zf_X7_isThere p x1 h).bind (fun r1 => (if r1 = 0 then some ((-1 : Int32), h) else ((zf_X7_isNumber x2).bind (fun r2 => (if r2 = 0 then some ((-1 : Int32), h) else (if zc_ix x1 7 then ((some (h.1 (p + 4) x1.toNatClampNeg) : Option Int32).bind (fun v4 => (if zc_ix x1 7 then ((some (zc_ui h (p + 4) x1.toNatClampNeg x2) : Option zHp).bind (fun h6 => some (v4, h6))) else none))) else none)))))))
set_option maxRecDepth 100000 in
set_option maxHeartbeats 4000000 in
theorem zt_X7_setFrom (p : Nat) (hp : zc_lay[p]? = some (7, 0)) (x1 : Int32) (x2 : Int32) (h : zHp) {r : (Int32 × zHp)} (hr : (zf_X7_setFrom p x1 x2 h) = some r) : zc_Cn zM_X7_setFrom [.ref p, .int x1, .int x2] h (zc_mI r) := by
  refine zc_meth (mk := zc_mI) (o := (zf_X7_setFrom p x1 x2 h)) (by decide +kernel) (Nat.le_of_ble_eq_true rfl) ?_ hr
  unfold zf_X7_setFrom
  refine zc_sL (ls1 := [some (.ref p), some (.int x1), some (.int x2), none]) rfl ?_
  refine zc_aload_n (pc := 0) dX7_setFrom_0 rfl rfl ?_
  refine zc_iload_n (pc := 1) dX7_setFrom_1 rfl rfl ?_
  refine zc_callIp (pc := 2) [.ref p, .int x1] rfl (zc_runV (ci := 7) (n0 := 0) (q := (RX7, TX7, 15)) zo_X7_isThere ⟨Nat.le_of_ble_eq_true rfl, Nat.le_of_ble_eq_true rfl⟩ zw_378 zw_379 zw_380 hp (by decide) rfl rfl dX7_setFrom_2) (Nat.le_of_ble_eq_true rfl) (fun _ hr => zt_X7_isThere p hp x1 h hr) (fun r1 => ?_)
  refine zc_if_eq (pc := 5) 15 dX7_setFrom_5 (by decide) (fun _ => ?_) (fun _ => ?_)
  · refine zc_iconst (pc := 15) (-1 : Int32) dX7_setFrom_15 (by decide) ?_
    exact zc_iretK (pc := 16) dX7_setFrom_16 rfl ⟨_, rfl, rfl⟩
  · refine zc_iload_n (pc := 8) dX7_setFrom_8 rfl rfl ?_
    refine zc_callIp (pc := 9) [.int x2] rfl (zc_runS zo_X7_isNumber ⟨Nat.le_of_ble_eq_true rfl, Nat.le_of_ble_eq_true rfl⟩ zw_277 zw_278 rfl dX7_setFrom_9) (Nat.le_of_ble_eq_true rfl) (fun _ hr => zt_X7_isNumber x2 h hr) (fun r2 => ?_)
    refine zc_if_ne (pc := 12) 17 dX7_setFrom_12 (by decide) (fun _ => ?_) (fun _ => ?_)
    · refine zc_iconst (pc := 15) (-1 : Int32) dX7_setFrom_15 (by decide) ?_
      exact zc_iretK (pc := 16) dX7_setFrom_16 rfl ⟨_, rfl, rfl⟩
    · refine zc_aload_n (pc := 17) dX7_setFrom_17 rfl rfl ?_
      refine zc_getO (pc := 18) zF_X7_21 hp dX7_setFrom_18 ?_
      refine zc_iload_n (pc := 21) dX7_setFrom_21 rfl rfl ?_
      refine zc_guard (fun g3 => ?_)
      refine zc_aldi (pc := 22) (zs_p (j := 4) hp) g3 dX7_setFrom_22 ?_
      refine zc_letI (fun v4 _ => ?_)
      refine zc_istore_n (pc := 23) dX7_setFrom_23 rfl (Nat.le_of_ble_eq_true rfl) rfl (Nat.le_of_ble_eq_true rfl) ?_
      refine zc_sL (ls1 := [some (.ref p), some (.int x1), some (.int x2), some (.int v4)]) rfl ?_
      refine zc_aload_n (pc := 24) dX7_setFrom_24 rfl rfl ?_
      refine zc_getO (pc := 25) zF_X7_21 hp dX7_setFrom_25 ?_
      refine zc_iload_n (pc := 28) dX7_setFrom_28 rfl rfl ?_
      refine zc_iload_n (pc := 29) dX7_setFrom_29 rfl rfl ?_
      refine zc_guard (fun g5 => ?_)
      refine zc_asti (pc := 30) (zs_p (j := 4) hp) g5 dX7_setFrom_30 ?_
      refine zc_letH (fun h6 _ => ?_)
      refine zc_iload_n (pc := 31) dX7_setFrom_31 rfl rfl ?_
      exact zc_iretK (pc := 32) dX7_setFrom_32 rfl ⟨_, rfl, rfl⟩
def zf_X7_setStock (p : Nat) (x1 : Int32) (x2 : Int32) (h : zHp) : Option (Int32 × zHp) :=
  ((zf_X7_isThere p x1 h).bind (fun r1 => (if r1 = 0 then some ((-1 : Int32), h) else (if x2 < 0 then some ((-1 : Int32), h) else (if x2 ≤ (99 : Int32) then (if zc_ix x1 7 then ((some (h.1 (p + 5) x1.toNatClampNeg) : Option Int32).bind (fun v3 => (if zc_ix x1 7 then ((some (zc_ui h (p + 5) x1.toNatClampNeg x2) : Option zHp).bind (fun h5 => some (v3, h5))) else none))) else none) else some ((-1 : Int32), h))))))
set_option maxRecDepth 100000 in
set_option maxHeartbeats 4000000 in
theorem zt_X7_setStock (p : Nat) (hp : zc_lay[p]? = some (7, 0)) (x1 : Int32) (x2 : Int32) (h : zHp) {r : (Int32 × zHp)} (hr : (zf_X7_setStock p x1 x2 h) = some r) : zc_Cn zM_X7_setStock [.ref p, .int x1, .int x2] h (zc_mI r) := by
  refine zc_meth (mk := zc_mI) (o := (zf_X7_setStock p x1 x2 h)) (by decide +kernel) (Nat.le_of_ble_eq_true rfl) ?_ hr
  unfold zf_X7_setStock
  refine zc_sL (ls1 := [some (.ref p), some (.int x1), some (.int x2), none]) rfl ?_
  refine zc_aload_n (pc := 0) dX7_setStock_0 rfl rfl ?_
  refine zc_iload_n (pc := 1) dX7_setStock_1 rfl rfl ?_
  refine zc_callIp (pc := 2) [.ref p, .int x1] rfl (zc_runV (ci := 7) (n0 := 0) (q := (RX7, TX7, 15)) zo_X7_isThere ⟨Nat.le_of_ble_eq_true rfl, Nat.le_of_ble_eq_true rfl⟩ zw_378 zw_379 zw_380 hp (by decide) rfl rfl dX7_setStock_2) (Nat.le_of_ble_eq_true rfl) (fun _ hr => zt_X7_isThere p hp x1 h hr) (fun r1 => ?_)
  refine zc_if_eq (pc := 5) 18 dX7_setStock_5 (by decide) (fun _ => ?_) (fun _ => ?_)
  · refine zc_iconst (pc := 18) (-1 : Int32) dX7_setStock_18 (by decide) ?_
    exact zc_iretK (pc := 19) dX7_setStock_19 rfl ⟨_, rfl, rfl⟩
  · refine zc_iload_n (pc := 8) dX7_setStock_8 rfl rfl ?_
    refine zc_if_lt (pc := 9) 18 dX7_setStock_9 (by decide) (fun _ => ?_) (fun _ => ?_)
    · refine zc_iconst (pc := 18) (-1 : Int32) dX7_setStock_18 (by decide) ?_
      exact zc_iretK (pc := 19) dX7_setStock_19 rfl ⟨_, rfl, rfl⟩
    · refine zc_iload_n (pc := 12) dX7_setStock_12 rfl rfl ?_
      refine zc_bipush (pc := 13) (99 : Int32) dX7_setStock_13 (by decide) ?_
      refine zc_icmp_le (pc := 15) 20 dX7_setStock_15 (by decide) (fun _ => ?_) (fun _ => ?_)
      · refine zc_aload_n (pc := 20) dX7_setStock_20 rfl rfl ?_
        refine zc_getO (pc := 21) zF_X7_24 hp dX7_setStock_21 ?_
        refine zc_iload_n (pc := 24) dX7_setStock_24 rfl rfl ?_
        refine zc_guard (fun g2 => ?_)
        refine zc_aldi (pc := 25) (zs_p (j := 5) hp) g2 dX7_setStock_25 ?_
        refine zc_letI (fun v3 _ => ?_)
        refine zc_istore_n (pc := 26) dX7_setStock_26 rfl (Nat.le_of_ble_eq_true rfl) rfl (Nat.le_of_ble_eq_true rfl) ?_
        refine zc_sL (ls1 := [some (.ref p), some (.int x1), some (.int x2), some (.int v3)]) rfl ?_
        refine zc_aload_n (pc := 27) dX7_setStock_27 rfl rfl ?_
        refine zc_getO (pc := 28) zF_X7_24 hp dX7_setStock_28 ?_
        refine zc_iload_n (pc := 31) dX7_setStock_31 rfl rfl ?_
        refine zc_iload_n (pc := 32) dX7_setStock_32 rfl rfl ?_
        refine zc_guard (fun g4 => ?_)
        refine zc_asti (pc := 33) (zs_p (j := 5) hp) g4 dX7_setStock_33 ?_
        refine zc_letH (fun h5 _ => ?_)
        refine zc_iload_n (pc := 34) dX7_setStock_34 rfl rfl ?_
        exact zc_iretK (pc := 35) dX7_setStock_35 rfl ⟨_, rfl, rfl⟩
      · refine zc_iconst (pc := 18) (-1 : Int32) dX7_setStock_18 (by decide) ?_
        exact zc_iretK (pc := 19) dX7_setStock_19 rfl ⟨_, rfl, rfl⟩
def zf_X7_setChair (p : Nat) (x1 : Int32) (h : zHp) : Option (Int32 × zHp) :=
  ((zf_X10_isPlace x1).bind (fun r1 => (if r1 = 0 then some ((-1 : Int32), h) else ((some (zc_ui h p 10 x1) : Option zHp).bind (fun h2 => some ((h.1 p 10), h2))))))
set_option maxRecDepth 100000 in
set_option maxHeartbeats 4000000 in
theorem zt_X7_setChair (p : Nat) (hp : zc_lay[p]? = some (7, 0)) (x1 : Int32) (h : zHp) {r : (Int32 × zHp)} (hr : (zf_X7_setChair p x1 h) = some r) : zc_Cn zM_X7_setChair [.ref p, .int x1] h (zc_mI r) := by
  refine zc_meth (mk := zc_mI) (o := (zf_X7_setChair p x1 h)) (by decide +kernel) (Nat.le_of_ble_eq_true rfl) ?_ hr
  unfold zf_X7_setChair
  refine zc_sL (ls1 := [some (.ref p), some (.int x1), none]) rfl ?_
  refine zc_iload_n (pc := 0) dX7_setChair_0 rfl rfl ?_
  refine zc_callIp (pc := 1) [.int x1] rfl (zc_runSN zo_X10_isPlace ⟨Nat.le_of_ble_eq_true rfl, Nat.le_of_ble_eq_true rfl⟩ zw_274 zw_275 rfl dX7_setChair_1) (Nat.le_of_ble_eq_true rfl) (fun _ hr => zt_X10_isPlace x1 h hr) (fun r1 => ?_)
  refine zc_if_ne (pc := 4) 9 dX7_setChair_4 (by decide) (fun _ => ?_) (fun _ => ?_)
  · refine zc_iconst (pc := 7) (-1 : Int32) dX7_setChair_7 (by decide) ?_
    exact zc_iretK (pc := 8) dX7_setChair_8 rfl ⟨_, rfl, rfl⟩
  · refine zc_aload_n (pc := 9) dX7_setChair_9 rfl rfl ?_
    refine zc_getI (pc := 10) zF_X7_56 hp dX7_setChair_10 ?_
    refine zc_istore_n (pc := 13) dX7_setChair_13 rfl (Nat.le_of_ble_eq_true rfl) rfl (Nat.le_of_ble_eq_true rfl) ?_
    refine zc_sL (ls1 := [some (.ref p), some (.int x1), some (.int (h.1 p 10))]) rfl ?_
    refine zc_aload_n (pc := 14) dX7_setChair_14 rfl rfl ?_
    refine zc_iload_n (pc := 15) dX7_setChair_15 rfl rfl ?_
    refine zc_putI (pc := 16) zF_X7_56 hp dX7_setChair_16 ?_
    refine zc_letH (fun h2 _ => ?_)
    refine zc_iload_n (pc := 19) dX7_setChair_19 rfl rfl ?_
    exact zc_iretK (pc := 20) dX7_setChair_20 rfl ⟨_, rfl, rfl⟩
def zf_X7_setSun (p : Nat) (x1 : Int32) (x2 : Int32) (h : zHp) : Option (Int32 × zHp) :=
  (if x1 < 0 then some ((-1 : Int32), h) else (if (5 : Int32) < x1 then some ((-1 : Int32), h) else ((zf_X10_isPlace x2).bind (fun r1 => (if r1 = 0 then some ((-1 : Int32), h) else ((some (((100 : Int32) * (h.1 p 11)) + (h.1 p 12)) : Option Int32).bind (fun v2 => ((some (zc_ui h p 11 x1) : Option zHp).bind (fun h3 => ((some (zc_ui h3 p 12 x2) : Option zHp).bind (fun h4 => some (v2, h4))))))))))))
set_option maxRecDepth 100000 in
set_option maxHeartbeats 4000000 in
theorem zt_X7_setSun (p : Nat) (hp : zc_lay[p]? = some (7, 0)) (x1 : Int32) (x2 : Int32) (h : zHp) {r : (Int32 × zHp)} (hr : (zf_X7_setSun p x1 x2 h) = some r) : zc_Cn zM_X7_setSun [.ref p, .int x1, .int x2] h (zc_mI r) := by
  refine zc_meth (mk := zc_mI) (o := (zf_X7_setSun p x1 x2 h)) (by decide +kernel) (Nat.le_of_ble_eq_true rfl) ?_ hr
  unfold zf_X7_setSun
  refine zc_sL (ls1 := [some (.ref p), some (.int x1), some (.int x2), none]) rfl ?_
  refine zc_iload_n (pc := 0) dX7_setSun_0 rfl rfl ?_
  refine zc_if_lt (pc := 1) 16 dX7_setSun_1 (by decide) (fun _ => ?_) (fun _ => ?_)
  · refine zc_iconst (pc := 16) (-1 : Int32) dX7_setSun_16 (by decide) ?_
    exact zc_iretK (pc := 17) dX7_setSun_17 rfl ⟨_, rfl, rfl⟩
  · refine zc_iload_n (pc := 4) dX7_setSun_4 rfl rfl ?_
    refine zc_iconst (pc := 5) (5 : Int32) dX7_setSun_5 (by decide) ?_
    refine zc_icmp_gt (pc := 6) 16 dX7_setSun_6 (by decide) (fun _ => ?_) (fun _ => ?_)
    · refine zc_iconst (pc := 16) (-1 : Int32) dX7_setSun_16 (by decide) ?_
      exact zc_iretK (pc := 17) dX7_setSun_17 rfl ⟨_, rfl, rfl⟩
    · refine zc_iload_n (pc := 9) dX7_setSun_9 rfl rfl ?_
      refine zc_callIp (pc := 10) [.int x2] rfl (zc_runSN zo_X10_isPlace ⟨Nat.le_of_ble_eq_true rfl, Nat.le_of_ble_eq_true rfl⟩ zw_274 zw_275 rfl dX7_setSun_10) (Nat.le_of_ble_eq_true rfl) (fun _ hr => zt_X10_isPlace x2 h hr) (fun r1 => ?_)
      refine zc_if_ne (pc := 13) 18 dX7_setSun_13 (by decide) (fun _ => ?_) (fun _ => ?_)
      · refine zc_iconst (pc := 16) (-1 : Int32) dX7_setSun_16 (by decide) ?_
        exact zc_iretK (pc := 17) dX7_setSun_17 rfl ⟨_, rfl, rfl⟩
      · refine zc_bipush (pc := 18) (100 : Int32) dX7_setSun_18 (by decide) ?_
        refine zc_aload_n (pc := 20) dX7_setSun_20 rfl rfl ?_
        refine zc_getI (pc := 21) zF_X7_36 hp dX7_setSun_21 ?_
        refine zc_imul (pc := 24) dX7_setSun_24 ?_
        refine zc_aload_n (pc := 25) dX7_setSun_25 rfl rfl ?_
        refine zc_getI (pc := 26) zF_X7_40 hp dX7_setSun_26 ?_
        refine zc_iadd (pc := 29) dX7_setSun_29 ?_
        refine zc_letI (fun v2 _ => ?_)
        refine zc_istore_n (pc := 30) dX7_setSun_30 rfl (Nat.le_of_ble_eq_true rfl) rfl (Nat.le_of_ble_eq_true rfl) ?_
        refine zc_sL (ls1 := [some (.ref p), some (.int x1), some (.int x2), some (.int v2)]) rfl ?_
        refine zc_aload_n (pc := 31) dX7_setSun_31 rfl rfl ?_
        refine zc_iload_n (pc := 32) dX7_setSun_32 rfl rfl ?_
        refine zc_putI (pc := 33) zF_X7_36 hp dX7_setSun_33 ?_
        refine zc_letH (fun h3 _ => ?_)
        refine zc_aload_n (pc := 36) dX7_setSun_36 rfl rfl ?_
        refine zc_iload_n (pc := 37) dX7_setSun_37 rfl rfl ?_
        refine zc_putI (pc := 38) zF_X7_40 hp dX7_setSun_38 ?_
        refine zc_letH (fun h4 _ => ?_)
        refine zc_iload_n (pc := 41) dX7_setSun_41 rfl rfl ?_
        exact zc_iretK (pc := 42) dX7_setSun_42 rfl ⟨_, rfl, rfl⟩
def zf_X7_refuseDays (p : Nat) (x1 : Int32) (h : zHp) : Option Int32 :=
  (if x1 < (1 : Int32) then some (-1 : Int32) else (if x1 ≤ (60 : Int32) then (if ((h.1 p 14) + x1) ≤ (999 : Int32) then some (0 : Int32) else some (-3 : Int32)) else some (-1 : Int32)))
set_option maxRecDepth 100000 in
set_option maxHeartbeats 4000000 in
theorem zt_X7_refuseDays (p : Nat) (hp : zc_lay[p]? = some (7, 0)) (x1 : Int32) (h : zHp) {r : Int32} (hr : (zf_X7_refuseDays p x1 h) = some r) : zc_Cn zM_X7_refuseDays [.ref p, .int x1] h ((fun r => zc_mI (r, h)) r) := by
  refine zc_meth (mk := (fun r => zc_mI (r, h))) (o := (zf_X7_refuseDays p x1 h)) (by decide +kernel) (Nat.le_of_ble_eq_true rfl) ?_ hr
  unfold zf_X7_refuseDays
  refine zc_sL (ls1 := [some (.ref p), some (.int x1)]) rfl ?_
  refine zc_iload_n (pc := 0) dX7_refuseDays_0 rfl rfl ?_
  refine zc_iconst (pc := 1) (1 : Int32) dX7_refuseDays_1 (by decide) ?_
  refine zc_icmp_lt (pc := 2) 11 dX7_refuseDays_2 (by decide) (fun _ => ?_) (fun _ => ?_)
  · refine zc_iconst (pc := 11) (-1 : Int32) dX7_refuseDays_11 (by decide) ?_
    exact zc_iretK (pc := 12) dX7_refuseDays_12 rfl ⟨_, rfl, rfl⟩
  · refine zc_iload_n (pc := 5) dX7_refuseDays_5 rfl rfl ?_
    refine zc_bipush (pc := 6) (60 : Int32) dX7_refuseDays_6 (by decide) ?_
    refine zc_icmp_le (pc := 8) 13 dX7_refuseDays_8 (by decide) (fun _ => ?_) (fun _ => ?_)
    · refine zc_aload_n (pc := 13) dX7_refuseDays_13 rfl rfl ?_
      refine zc_getI (pc := 14) zF_X7_62 hp dX7_refuseDays_14 ?_
      refine zc_iload_n (pc := 17) dX7_refuseDays_17 rfl rfl ?_
      refine zc_iadd (pc := 18) dX7_refuseDays_18 ?_
      refine zc_sipush (pc := 19) (999 : Int32) dX7_refuseDays_19 (by decide) ?_
      refine zc_icmp_le (pc := 22) 30 dX7_refuseDays_22 (by decide) (fun _ => ?_) (fun _ => ?_)
      · refine zc_iconst (pc := 30) (0 : Int32) dX7_refuseDays_30 (by decide) ?_
        exact zc_iretK (pc := 31) dX7_refuseDays_31 rfl ⟨_, rfl, rfl⟩
      · refine zc_bipush (pc := 25) (-3 : Int32) dX7_refuseDays_25 (by decide) ?_
        refine zc_goto (pc := 27) 31 dX7_refuseDays_27 (by decide) ?_
        exact zc_iretK (pc := 31) dX7_refuseDays_31 rfl ⟨_, rfl, rfl⟩
    · refine zc_iconst (pc := 11) (-1 : Int32) dX7_refuseDays_11 (by decide) ?_
      exact zc_iretK (pc := 12) dX7_refuseDays_12 rfl ⟨_, rfl, rfl⟩
def zf_X7_hasSource (p : Nat) (x1 : Int32) (h : zHp) : Option Int32 :=
  (if zc_ix x1 7 then (if (h.1 (p + 4) x1.toNatClampNeg) = x1 then some (0 : Int32) else (if zc_ix x1 7 then ((zf_X7_isThere p (h.1 (p + 4) x1.toNatClampNeg) h).bind (fun r3 => (if r3 = 0 then some (0 : Int32) else some (1 : Int32)))) else none)) else none)
set_option maxRecDepth 100000 in
set_option maxHeartbeats 4000000 in
theorem zt_X7_hasSource (p : Nat) (hp : zc_lay[p]? = some (7, 0)) (x1 : Int32) (h : zHp) {r : Int32} (hr : (zf_X7_hasSource p x1 h) = some r) : zc_Cn zM_X7_hasSource [.ref p, .int x1] h ((fun r => zc_mI (r, h)) r) := by
  refine zc_meth (mk := (fun r => zc_mI (r, h))) (o := (zf_X7_hasSource p x1 h)) (by decide +kernel) (Nat.le_of_ble_eq_true rfl) ?_ hr
  unfold zf_X7_hasSource
  refine zc_sL (ls1 := [some (.ref p), some (.int x1)]) rfl ?_
  refine zc_aload_n (pc := 0) dX7_hasSource_0 rfl rfl ?_
  refine zc_getO (pc := 1) zF_X7_21 hp dX7_hasSource_1 ?_
  refine zc_iload_n (pc := 4) dX7_hasSource_4 rfl rfl ?_
  refine zc_guard (fun g1 => ?_)
  refine zc_aldi (pc := 5) (zs_p (j := 4) hp) g1 dX7_hasSource_5 ?_
  refine zc_iload_n (pc := 6) dX7_hasSource_6 rfl rfl ?_
  refine zc_icmp_eq (pc := 7) 27 dX7_hasSource_7 (by decide) (fun _ => ?_) (fun _ => ?_)
  · refine zc_iconst (pc := 27) (0 : Int32) dX7_hasSource_27 (by decide) ?_
    exact zc_zretK (pc := 28) dX7_hasSource_28 rfl (by decide) ⟨_, rfl, rfl⟩
  · refine zc_aload_n (pc := 10) dX7_hasSource_10 rfl rfl ?_
    refine zc_aload_n (pc := 11) dX7_hasSource_11 rfl rfl ?_
    refine zc_getO (pc := 12) zF_X7_21 hp dX7_hasSource_12 ?_
    refine zc_iload_n (pc := 15) dX7_hasSource_15 rfl rfl ?_
    refine zc_guard (fun g2 => ?_)
    refine zc_aldi (pc := 16) (zs_p (j := 4) hp) g2 dX7_hasSource_16 ?_
    refine zc_callIp (pc := 17) [.ref p, .int (h.1 (p + 4) x1.toNatClampNeg)] rfl (zc_runV (ci := 7) (n0 := 0) (q := (RX7, TX7, 15)) zo_X7_isThere ⟨Nat.le_of_ble_eq_true rfl, Nat.le_of_ble_eq_true rfl⟩ zw_378 zw_379 zw_380 hp (by decide) rfl rfl dX7_hasSource_17) (Nat.le_of_ble_eq_true rfl) (fun _ hr => zt_X7_isThere p hp (h.1 (p + 4) x1.toNatClampNeg) h hr) (fun r3 => ?_)
    refine zc_if_eq (pc := 20) 27 dX7_hasSource_20 (by decide) (fun _ => ?_) (fun _ => ?_)
    · refine zc_iconst (pc := 27) (0 : Int32) dX7_hasSource_27 (by decide) ?_
      exact zc_zretK (pc := 28) dX7_hasSource_28 rfl (by decide) ⟨_, rfl, rfl⟩
    · refine zc_iconst (pc := 23) (1 : Int32) dX7_hasSource_23 (by decide) ?_
      refine zc_goto (pc := 24) 28 dX7_hasSource_24 (by decide) ?_
      exact zc_zretK (pc := 28) dX7_hasSource_28 rfl (by decide) ⟨_, rfl, rfl⟩
def zf_X7_wayTo (p : Nat) (x1 : Int32) (x2 : Int32) (h : zHp) : Option Int32 :=
  ((zf_X10_far (h.1 p 10) x2).bind (fun r1 => (if zc_ix x1 7 then ((zf_X10_far (h.1 (p + 3) x1.toNatClampNeg) (h.1 p 10)).bind (fun r3 => (if zc_ix x1 7 then (if zc_ix (h.1 (p + 1) x1.toNatClampNeg) 8 then (if zc_ix x1 7 then ((zf_X10_far (h.1 (p + 3) x1.toNatClampNeg) x2).bind (fun r7 => ((zv_wayOf (h.1 (p + 1) x1.toNatClampNeg).toNatClampNeg (r3 + r1) r7 r1 (h.1 p 14)).bind (fun r8 => some r8)))) else none) else none) else none))) else none)))
theorem zr_X7_wayTo_54 (h : zHp) (y0 y1 y2 y3 : Int32) : ∀ j, j < 8 → ∃ z : zMI, zc_Run zM_X7_wayTo z 54 (.ref (8 + j) :: [.int y0, .int y1, .int y2, .int y3]) h ∧ ∀ r, zv_wayOf j y0 y1 y2 y3 = some r → zc_Cn z (.ref (8 + j) :: [.int y0, .int y1, .int y2, .int y3]) h (zc_mI (r, h)) := by
  intro j hj
  match j, hj with
  | 0, _ => exact ⟨zM_X9_wayOf, zc_runO (z := zM_X9_wayOf) (n := 4) (ci := 9) (n0 := 0) (q := (RX9, TX9, 0)) zo_X9_wayOf ⟨Nat.le_of_ble_eq_true rfl, Nat.le_of_ble_eq_true rfl⟩ zw_416 zw_419 zw_417 zw_441 (by decide +kernel) zw_417 zw_418 rfl (by decide) rfl rfl dX7_wayTo_54, fun r hr => zt_X9_wayOf 8 rfl (by decide) (vc := (RX9, TX9, 0)) rfl y0 y1 y2 y3 h hr⟩
  | 1, _ => exact ⟨zM_X1_wayOf, zc_runO (z := zM_X1_wayOf) (n := 4) (ci := 1) (n0 := 0) (q := (RX1, TX1, 0)) zo_X1_wayOf ⟨Nat.le_of_ble_eq_true rfl, Nat.le_of_ble_eq_true rfl⟩ zw_416 zw_419 zw_417 zw_441 (by decide +kernel) zw_427 zw_429 rfl (by decide) rfl rfl dX7_wayTo_54, fun r hr => zt_X1_wayOf 9 rfl (by decide) (vc := (RX1, TX1, 0)) rfl y0 y1 y2 y3 h hr⟩
  | 2, _ => exact ⟨zM_X3_wayOf, zc_runO (z := zM_X3_wayOf) (n := 4) (ci := 3) (n0 := 0) (q := (RX3, TX3, 0)) zo_X3_wayOf ⟨Nat.le_of_ble_eq_true rfl, Nat.le_of_ble_eq_true rfl⟩ zw_416 zw_419 zw_417 zw_441 (by decide +kernel) zw_432 zw_431 rfl (by decide) rfl rfl dX7_wayTo_54, fun r hr => zt_X3_wayOf 10 rfl (by decide) (vc := (RX3, TX3, 0)) rfl y0 y1 y2 y3 h hr⟩
  | 3, _ => exact ⟨zM_X4_wayOf, zc_runO (z := zM_X4_wayOf) (n := 4) (ci := 4) (n0 := 0) (q := (RX4, TX4, 0)) zo_X4_wayOf ⟨Nat.le_of_ble_eq_true rfl, Nat.le_of_ble_eq_true rfl⟩ zw_416 zw_419 zw_417 zw_441 (by decide +kernel) zw_435 zw_434 rfl (by decide) rfl rfl dX7_wayTo_54, fun r hr => zt_X4_wayOf 11 rfl (by decide) (vc := (RX4, TX4, 0)) rfl y0 y1 y2 y3 h hr⟩
  | 4, _ => exact ⟨zM_X2_wayOf, zc_runO (z := zM_X2_wayOf) (n := 4) (ci := 2) (n0 := 0) (q := (RX2, TX2, 0)) zo_X2_wayOf ⟨Nat.le_of_ble_eq_true rfl, Nat.le_of_ble_eq_true rfl⟩ zw_416 zw_419 zw_417 zw_441 (by decide +kernel) zw_424 zw_430 rfl (by decide) rfl rfl dX7_wayTo_54, fun r hr => zt_X2_wayOf 12 rfl (by decide) (vc := (RX2, TX2, 0)) rfl y0 y1 y2 y3 h hr⟩
  | 5, _ => exact ⟨zM_X6_wayOf, zc_runO (z := zM_X6_wayOf) (n := 4) (ci := 6) (n0 := 0) (q := (RX6, TX6, 0)) zo_X6_wayOf ⟨Nat.le_of_ble_eq_true rfl, Nat.le_of_ble_eq_true rfl⟩ zw_416 zw_419 zw_417 zw_441 (by decide +kernel) zw_439 zw_438 rfl (by decide) rfl rfl dX7_wayTo_54, fun r hr => zt_X6_wayOf 13 rfl (by decide) (vc := (RX6, TX6, 0)) rfl y0 y1 y2 y3 h hr⟩
  | 6, _ => exact ⟨zM_X0_wayOf, zc_runO (z := zM_X0_wayOf) (n := 4) (ci := 0) (n0 := 0) (q := (RX0, TX0, 0)) zo_X0_wayOf ⟨Nat.le_of_ble_eq_true rfl, Nat.le_of_ble_eq_true rfl⟩ zw_416 zw_419 zw_417 zw_441 (by decide +kernel) zw_421 zw_420 rfl (by decide) rfl rfl dX7_wayTo_54, fun r hr => zt_X0_wayOf 14 rfl (by decide) (vc := (RX0, TX0, 0)) rfl y0 y1 y2 y3 h hr⟩
  | 7, _ => exact ⟨zM_X3_wayOf, zc_runO (z := zM_X3_wayOf) (n := 4) (ci := 5) (n0 := 0) (q := (RX5, TX5, 0)) zo_X3_wayOf ⟨Nat.le_of_ble_eq_true rfl, Nat.le_of_ble_eq_true rfl⟩ zw_416 zw_419 zw_417 zw_441 (by decide +kernel) zw_432 zw_437 rfl (by decide) rfl rfl dX7_wayTo_54, fun r hr => zt_X3_wayOf 15 rfl (by decide) (vc := (RX5, TX5, 0)) rfl y0 y1 y2 y3 h hr⟩
  | j + 8, hj => exact absurd hj (Nat.not_lt_of_le (Nat.le_add_left 8 j))
set_option maxRecDepth 100000 in
set_option maxHeartbeats 4000000 in
theorem zt_X7_wayTo (p : Nat) (hp : zc_lay[p]? = some (7, 0)) (x1 : Int32) (x2 : Int32) (h : zHp) {r : Int32} (hr : (zf_X7_wayTo p x1 x2 h) = some r) : zc_Cn zM_X7_wayTo [.ref p, .int x1, .int x2] h ((fun r => zc_mI (r, h)) r) := by
  refine zc_meth (mk := (fun r => zc_mI (r, h))) (o := (zf_X7_wayTo p x1 x2 h)) (by decide +kernel) (Nat.le_of_ble_eq_true rfl) ?_ hr
  unfold zf_X7_wayTo
  refine zc_sL (ls1 := [some (.ref p), some (.int x1), some (.int x2), none, none]) rfl ?_
  refine zc_aload_n (pc := 0) dX7_wayTo_0 rfl rfl ?_
  refine zc_getI (pc := 1) zF_X7_56 hp dX7_wayTo_1 ?_
  refine zc_iload_n (pc := 4) dX7_wayTo_4 rfl rfl ?_
  refine zc_callIp (pc := 5) [.int (h.1 p 10), .int x2] rfl (zc_runSN zo_X10_far ⟨Nat.le_of_ble_eq_true rfl, Nat.le_of_ble_eq_true rfl⟩ zw_410 zw_411 rfl dX7_wayTo_5) (Nat.le_of_ble_eq_true rfl) (fun _ hr => zt_X10_far (h.1 p 10) x2 h hr) (fun r1 => ?_)
  refine zc_istore_n (pc := 8) dX7_wayTo_8 rfl (Nat.le_of_ble_eq_true rfl) rfl (Nat.le_of_ble_eq_true rfl) ?_
  refine zc_sL (ls1 := [some (.ref p), some (.int x1), some (.int x2), some (.int r1), none]) rfl ?_
  refine zc_aload_n (pc := 9) dX7_wayTo_9 rfl rfl ?_
  refine zc_getO (pc := 10) zF_X7_18 hp dX7_wayTo_10 ?_
  refine zc_iload_n (pc := 13) dX7_wayTo_13 rfl rfl ?_
  refine zc_guard (fun g2 => ?_)
  refine zc_aldi (pc := 14) (zs_p (j := 3) hp) g2 dX7_wayTo_14 ?_
  refine zc_aload_n (pc := 15) dX7_wayTo_15 rfl rfl ?_
  refine zc_getI (pc := 16) zF_X7_56 hp dX7_wayTo_16 ?_
  refine zc_callIp (pc := 19) [.int (h.1 (p + 3) x1.toNatClampNeg), .int (h.1 p 10)] rfl (zc_runSN zo_X10_far ⟨Nat.le_of_ble_eq_true rfl, Nat.le_of_ble_eq_true rfl⟩ zw_410 zw_411 rfl dX7_wayTo_19) (Nat.le_of_ble_eq_true rfl) (fun _ hr => zt_X10_far (h.1 (p + 3) x1.toNatClampNeg) (h.1 p 10) h hr) (fun r3 => ?_)
  refine zc_iload_n (pc := 22) dX7_wayTo_22 rfl rfl ?_
  refine zc_iadd (pc := 23) dX7_wayTo_23 ?_
  refine zc_istore (pc := 24) dX7_wayTo_24 (Nat.le_of_ble_eq_true rfl) rfl (Nat.le_of_ble_eq_true rfl) ?_
  refine zc_sL (ls1 := [some (.ref p), some (.int x1), some (.int x2), some (.int r1), some (.int (r3 + r1))]) rfl ?_
  refine zc_aload_n (pc := 26) dX7_wayTo_26 rfl rfl ?_
  refine zc_getC (pc := 27) zF_X7_43 hp dX7_wayTo_27 ?_
  refine zc_aload_n (pc := 30) dX7_wayTo_30 rfl rfl ?_
  refine zc_getO (pc := 31) zF_X7_9 hp dX7_wayTo_31 ?_
  refine zc_iload_n (pc := 34) dX7_wayTo_34 rfl rfl ?_
  refine zc_guard (fun g4 => ?_)
  refine zc_aldi (pc := 35) (zs_p (j := 1) hp) g4 dX7_wayTo_35 ?_
  refine zc_guard (fun g5 => ?_)
  refine zc_aldV (pc := 36) rfl g5 dX7_wayTo_36 ?_
  refine zc_iload (pc := 37) dX7_wayTo_37 rfl ?_
  refine zc_aload_n (pc := 39) dX7_wayTo_39 rfl rfl ?_
  refine zc_getO (pc := 40) zF_X7_18 hp dX7_wayTo_40 ?_
  refine zc_iload_n (pc := 43) dX7_wayTo_43 rfl rfl ?_
  refine zc_guard (fun g6 => ?_)
  refine zc_aldi (pc := 44) (zs_p (j := 3) hp) g6 dX7_wayTo_44 ?_
  refine zc_iload_n (pc := 45) dX7_wayTo_45 rfl rfl ?_
  refine zc_callIp (pc := 46) [.int (h.1 (p + 3) x1.toNatClampNeg), .int x2] rfl (zc_runSN zo_X10_far ⟨Nat.le_of_ble_eq_true rfl, Nat.le_of_ble_eq_true rfl⟩ zw_410 zw_411 rfl dX7_wayTo_46) (Nat.le_of_ble_eq_true rfl) (fun _ hr => zt_X10_far (h.1 (p + 3) x1.toNatClampNeg) x2 h hr) (fun r7 => ?_)
  refine zc_iload_n (pc := 49) dX7_wayTo_49 rfl rfl ?_
  refine zc_aload_n (pc := 50) dX7_wayTo_50 rfl rfl ?_
  refine zc_getI (pc := 51) zF_X7_62 hp dX7_wayTo_51 ?_
  refine zc_virt (pc := 54) (oc := fun j => zv_wayOf j (r3 + r1) r7 r1 (h.1 p 14)) [.int (r3 + r1), .int r7, .int r1, .int (h.1 p 14)] rfl (zr_X7_wayTo_54 _ (r3 + r1) r7 r1 (h.1 p 14)) (Nat.le_of_ble_eq_true rfl) g5 (fun r8 => ?_)
  exact zc_iretK (pc := 57) dX7_wayTo_57 rfl ⟨_, rfl, rfl⟩
def zf_X7_wayToSource (p : Nat) (x1 : Int32) (h : zHp) : Option Int32 :=
  (if zc_ix x1 7 then (if zc_ix (h.1 (p + 4) x1.toNatClampNeg) 7 then ((zf_X7_wayTo p x1 (h.1 (p + 3) (h.1 (p + 4) x1.toNatClampNeg).toNatClampNeg) h).bind (fun r3 => some r3)) else none) else none)
set_option maxRecDepth 100000 in
set_option maxHeartbeats 4000000 in
theorem zt_X7_wayToSource (p : Nat) (hp : zc_lay[p]? = some (7, 0)) (x1 : Int32) (h : zHp) {r : Int32} (hr : (zf_X7_wayToSource p x1 h) = some r) : zc_Cn zM_X7_wayToSource [.ref p, .int x1] h ((fun r => zc_mI (r, h)) r) := by
  refine zc_meth (mk := (fun r => zc_mI (r, h))) (o := (zf_X7_wayToSource p x1 h)) (by decide +kernel) (Nat.le_of_ble_eq_true rfl) ?_ hr
  unfold zf_X7_wayToSource
  refine zc_sL (ls1 := [some (.ref p), some (.int x1)]) rfl ?_
  refine zc_aload_n (pc := 0) dX7_wayToSource_0 rfl rfl ?_
  refine zc_iload_n (pc := 1) dX7_wayToSource_1 rfl rfl ?_
  refine zc_aload_n (pc := 2) dX7_wayToSource_2 rfl rfl ?_
  refine zc_getO (pc := 3) zF_X7_18 hp dX7_wayToSource_3 ?_
  refine zc_aload_n (pc := 6) dX7_wayToSource_6 rfl rfl ?_
  refine zc_getO (pc := 7) zF_X7_21 hp dX7_wayToSource_7 ?_
  refine zc_iload_n (pc := 10) dX7_wayToSource_10 rfl rfl ?_
  refine zc_guard (fun g1 => ?_)
  refine zc_aldi (pc := 11) (zs_p (j := 4) hp) g1 dX7_wayToSource_11 ?_
  refine zc_guard (fun g2 => ?_)
  refine zc_aldi (pc := 12) (zs_p (j := 3) hp) g2 dX7_wayToSource_12 ?_
  refine zc_callIp (pc := 13) [.ref p, .int x1, .int (h.1 (p + 3) (h.1 (p + 4) x1.toNatClampNeg).toNatClampNeg)] rfl (zc_runV (ci := 7) (n0 := 0) (q := (RX7, TX7, 15)) zo_X7_wayTo ⟨Nat.le_of_ble_eq_true rfl, Nat.le_of_ble_eq_true rfl⟩ zw_406 zw_407 zw_408 hp (by decide) rfl rfl dX7_wayToSource_13) (Nat.le_of_ble_eq_true rfl) (fun _ hr => zt_X7_wayTo p hp x1 (h.1 (p + 3) (h.1 (p + 4) x1.toNatClampNeg).toNatClampNeg) h hr) (fun r3 => ?_)
  exact zc_iretK (pc := 16) dX7_wayToSource_16 rfl ⟨_, rfl, rfl⟩
def zf_X7_isAble (p : Nat) (x1 : Int32) (h : zHp) : Option Int32 :=
  ((zf_X7_hasSource p x1 h).bind (fun r1 => (if r1 = 0 then some (0 : Int32) else (if zc_ix x1 7 then (if zc_ix (h.1 (p + 4) x1.toNatClampNeg) 7 then ((zf_X7_wayTo p x1 (h.1 (p + 3) (h.1 (p + 4) x1.toNatClampNeg).toNatClampNeg) h).bind (fun r4 => (if zc_ix x1 7 then (if (h.1 (p + 6) x1.toNatClampNeg) < r4 then some (0 : Int32) else some (1 : Int32)) else none))) else none) else none))))
set_option maxRecDepth 100000 in
set_option maxHeartbeats 4000000 in
theorem zt_X7_isAble (p : Nat) (hp : zc_lay[p]? = some (7, 0)) (x1 : Int32) (h : zHp) {r : Int32} (hr : (zf_X7_isAble p x1 h) = some r) : zc_Cn zM_X7_isAble [.ref p, .int x1] h ((fun r => zc_mI (r, h)) r) := by
  refine zc_meth (mk := (fun r => zc_mI (r, h))) (o := (zf_X7_isAble p x1 h)) (by decide +kernel) (Nat.le_of_ble_eq_true rfl) ?_ hr
  unfold zf_X7_isAble
  refine zc_sL (ls1 := [some (.ref p), some (.int x1)]) rfl ?_
  refine zc_aload_n (pc := 0) dX7_isAble_0 rfl rfl ?_
  refine zc_iload_n (pc := 1) dX7_isAble_1 rfl rfl ?_
  refine zc_callIp (pc := 2) [.ref p, .int x1] rfl (zc_runV (ci := 7) (n0 := 0) (q := (RX7, TX7, 15)) zo_X7_hasSource ⟨Nat.le_of_ble_eq_true rfl, Nat.le_of_ble_eq_true rfl⟩ zw_402 zw_403 zw_404 hp (by decide) rfl rfl dX7_isAble_2) (Nat.le_of_ble_eq_true rfl) (fun _ hr => zt_X7_hasSource p hp x1 h hr) (fun r1 => ?_)
  refine zc_if_eq (pc := 5) 37 dX7_isAble_5 (by decide) (fun _ => ?_) (fun _ => ?_)
  · refine zc_iconst (pc := 37) (0 : Int32) dX7_isAble_37 (by decide) ?_
    exact zc_zretK (pc := 38) dX7_isAble_38 rfl (by decide) ⟨_, rfl, rfl⟩
  · refine zc_aload_n (pc := 8) dX7_isAble_8 rfl rfl ?_
    refine zc_iload_n (pc := 9) dX7_isAble_9 rfl rfl ?_
    refine zc_aload_n (pc := 10) dX7_isAble_10 rfl rfl ?_
    refine zc_getO (pc := 11) zF_X7_18 hp dX7_isAble_11 ?_
    refine zc_aload_n (pc := 14) dX7_isAble_14 rfl rfl ?_
    refine zc_getO (pc := 15) zF_X7_21 hp dX7_isAble_15 ?_
    refine zc_iload_n (pc := 18) dX7_isAble_18 rfl rfl ?_
    refine zc_guard (fun g2 => ?_)
    refine zc_aldi (pc := 19) (zs_p (j := 4) hp) g2 dX7_isAble_19 ?_
    refine zc_guard (fun g3 => ?_)
    refine zc_aldi (pc := 20) (zs_p (j := 3) hp) g3 dX7_isAble_20 ?_
    refine zc_callIp (pc := 21) [.ref p, .int x1, .int (h.1 (p + 3) (h.1 (p + 4) x1.toNatClampNeg).toNatClampNeg)] rfl (zc_runV (ci := 7) (n0 := 0) (q := (RX7, TX7, 15)) zo_X7_wayTo ⟨Nat.le_of_ble_eq_true rfl, Nat.le_of_ble_eq_true rfl⟩ zw_406 zw_407 zw_408 hp (by decide) rfl rfl dX7_isAble_21) (Nat.le_of_ble_eq_true rfl) (fun _ hr => zt_X7_wayTo p hp x1 (h.1 (p + 3) (h.1 (p + 4) x1.toNatClampNeg).toNatClampNeg) h hr) (fun r4 => ?_)
    refine zc_aload_n (pc := 24) dX7_isAble_24 rfl rfl ?_
    refine zc_getO (pc := 25) zF_X7_27 hp dX7_isAble_25 ?_
    refine zc_iload_n (pc := 28) dX7_isAble_28 rfl rfl ?_
    refine zc_guard (fun g5 => ?_)
    refine zc_aldi (pc := 29) (zs_p (j := 6) hp) g5 dX7_isAble_29 ?_
    refine zc_icmp_gt (pc := 30) 37 dX7_isAble_30 (by decide) (fun _ => ?_) (fun _ => ?_)
    · refine zc_iconst (pc := 37) (0 : Int32) dX7_isAble_37 (by decide) ?_
      exact zc_zretK (pc := 38) dX7_isAble_38 rfl (by decide) ⟨_, rfl, rfl⟩
    · refine zc_iconst (pc := 33) (1 : Int32) dX7_isAble_33 (by decide) ?_
      refine zc_goto (pc := 34) 38 dX7_isAble_34 (by decide) ?_
      exact zc_zretK (pc := 38) dX7_isAble_38 rfl (by decide) ⟨_, rfl, rfl⟩
def zl_X7_ableBits_4 (p : Nat) (h : zHp) : Nat → Int32 → Int32 → Option Int32
  | 0, _, _ => none
  | fu + 1, y1, y2 => (if (h.1 p 9) ≤ y2 then some y1 else ((zf_X7_isAble p y2 h).bind (fun r3 => (((if r3 = 0 then some (0 : Int32) else some ((1 : Int32) <<< (y2 &&& 31))) : Option Int32).bind (fun v4 => zl_X7_ableBits_4 p h fu (y1 ||| v4) (y2 + (1 : Int32)))))))
def zf_X7_ableBits (p : Nat) (h : zHp) : Option Int32 :=
  ((zl_X7_ableBits_4 p h zFU (0 : Int32) (0 : Int32)).bind (fun v5 => some v5))
set_option maxRecDepth 100000 in
set_option maxHeartbeats 4000000 in
theorem zt_X7_ableBits (p : Nat) (hp : zc_lay[p]? = some (7, 0)) (h : zHp) {r : Int32} (hr : (zf_X7_ableBits p h) = some r) : zc_Cn zM_X7_ableBits [.ref p] h ((fun r => zc_mI (r, h)) r) := by
  refine zc_meth (mk := (fun r => zc_mI (r, h))) (o := (zf_X7_ableBits p h)) (by decide +kernel) (Nat.le_of_ble_eq_true rfl) ?_ hr
  unfold zf_X7_ableBits
  refine zc_sL (ls1 := [some (.ref p), none, none]) rfl ?_
  refine zc_iconst (pc := 0) (0 : Int32) dX7_ableBits_0 (by decide) ?_
  refine zc_istore_n (pc := 1) dX7_ableBits_1 rfl (Nat.le_of_ble_eq_true rfl) rfl (Nat.le_of_ble_eq_true rfl) ?_
  refine zc_sL (ls1 := [some (.ref p), some (.int (0 : Int32)), none]) rfl ?_
  refine zc_iconst (pc := 2) (0 : Int32) dX7_ableBits_2 (by decide) ?_
  refine zc_istore_n (pc := 3) dX7_ableBits_3 rfl (Nat.le_of_ble_eq_true rfl) rfl (Nat.le_of_ble_eq_true rfl) ?_
  refine zc_sL (ls1 := [some (.ref p), some (.int (0 : Int32)), some (.int (0 : Int32))]) rfl ?_
  refine zc_sL (ls1 := [some (.ref p), some (.int (0 : Int32)), some (.int (0 : Int32))]) rfl ?_
  refine zc_loop 36 (fun v5 => [none, some (.int v5), none]) (fun v5 => []) (fun v5 => h) (fun v5 => ?_) (fun k7 J6 => ?_)
  · refine zc_iload_n (pc := 36) dX7_ableBits_36 rfl rfl ?_
    exact zc_iretK (pc := 37) dX7_ableBits_37 rfl ⟨_, rfl, rfl⟩
  · have L9 : ∀ (fu : Nat) (y1 : Int32) (y2 : Int32), zc_G zM_X7_ableBits (fun r => zc_mI (r, h)) 4 [some (.ref p), some (.int y1), some (.int y2)] [] h ((zl_X7_ableBits_4 p h fu y1 y2).bind k7) := by
        intro fu
        induction fu with
        | zero => intros; exact zc_noneb
        | succ fu ih10 =>
          intro y1 y2
          unfold zl_X7_ableBits_4
          refine zc_iload_n (pc := 4) dX7_ableBits_4 rfl rfl ?_
          refine zc_aload_n (pc := 5) dX7_ableBits_5 rfl rfl ?_
          refine zc_getI (pc := 6) zF_X7_53 hp dX7_ableBits_6 ?_
          refine zc_icmp_ge (pc := 9) 36 dX7_ableBits_9 (by decide) (fun _ => ?_) (fun _ => ?_)
          · refine zc_drop 0 ?_
            refine zc_drop 2 ?_
            exact J6 y1
          · refine zc_iload_n (pc := 12) dX7_ableBits_12 rfl rfl ?_
            refine zc_aload_n (pc := 13) dX7_ableBits_13 rfl rfl ?_
            refine zc_iload_n (pc := 14) dX7_ableBits_14 rfl rfl ?_
            refine zc_callIp (pc := 15) [.ref p, .int y2] rfl (zc_runV (ci := 7) (n0 := 0) (q := (RX7, TX7, 15)) zo_X7_isAble ⟨Nat.le_of_ble_eq_true rfl, Nat.le_of_ble_eq_true rfl⟩ zw_398 zw_399 zw_400 hp (by decide) rfl rfl dX7_ableBits_15) (Nat.le_of_ble_eq_true rfl) (fun _ hr => zt_X7_isAble p hp y2 h hr) (fun r3 => ?_)
            refine zc_join 28 (fun v4 => [some (.ref p), none, some (.int y2)]) (fun v4 => [.int v4, .int y1]) (fun v4 => h) (fun v4 => ?_) (fun J11 => ?_)
            · refine zc_ior (pc := 28) dX7_ableBits_28 ?_
              refine zc_istore_n (pc := 29) dX7_ableBits_29 rfl (Nat.le_of_ble_eq_true rfl) rfl (Nat.le_of_ble_eq_true rfl) ?_
              refine zc_sL (ls1 := [some (.ref p), some (.int (y1 ||| v4)), some (.int y2)]) rfl ?_
              refine zc_iinc (pc := 30) (1 : Int32) dX7_ableBits_30 (by decide) rfl (Nat.le_of_ble_eq_true rfl) rfl ?_
              refine zc_sL (ls1 := [some (.ref p), some (.int (y1 ||| v4)), some (.int (y2 + (1 : Int32)))]) rfl ?_
              refine zc_goto (pc := 33) 4 dX7_ableBits_33 (by decide) ?_
              exact ih10 (y1 ||| v4) (y2 + (1 : Int32))
            · refine zc_if_eq (pc := 18) 27 dX7_ableBits_18 (by decide) (fun _ => ?_) (fun _ => ?_)
              · refine zc_iconst (pc := 27) (0 : Int32) dX7_ableBits_27 (by decide) ?_
                refine zc_drop 1 ?_
                exact J11 (0 : Int32)
              · refine zc_iconst (pc := 21) (1 : Int32) dX7_ableBits_21 (by decide) ?_
                refine zc_iload_n (pc := 22) dX7_ableBits_22 rfl rfl ?_
                refine zc_ishl (pc := 23) dX7_ableBits_23 ?_
                refine zc_goto (pc := 24) 28 dX7_ableBits_24 (by decide) ?_
                refine zc_drop 1 ?_
                exact J11 ((1 : Int32) <<< (y2 &&& 31))
    exact L9 zFU (0 : Int32) (0 : Int32)
def zl_X7_allJammed_4 (p : Nat) (h : zHp) : Nat → Int32 → Int32 → Option Int32
  | 0, _, _ => none
  | fu + 1, y1, y2 => (if (h.1 p 9) ≤ y2 then some y1 else ((zf_X7_isAble p y2 h).bind (fun r3 => (((if r3 = 0 then some (0 : Int32) else (if zc_ix y2 7 then (if zc_ix (h.1 (p + 1) y2.toNatClampNeg) 8 then ((zv_nodsToHim (h.1 (p + 1) y2.toNatClampNeg).toNatClampNeg).bind (fun r6 => (if r6 = 0 then some (0 : Int32) else some (1 : Int32)))) else none) else none)) : Option Int32).bind (fun v7 => zl_X7_allJammed_4 p h fu (y1 + v7) (y2 + (1 : Int32)))))))
def zf_X7_allJammed (p : Nat) (h : zHp) : Option Int32 :=
  ((zl_X7_allJammed_4 p h zFU (0 : Int32) (0 : Int32)).bind (fun v8 => some v8))
theorem zr_X7_allJammed_32 (h : zHp) : ∀ j, j < 8 → ∃ z : zMI, zc_Run zM_X7_allJammed z 32 (.ref (8 + j) :: []) h ∧ ∀ r, zv_nodsToHim j = some r → zc_Cn z (.ref (8 + j) :: []) h (zc_mI (r, h)) := by
  intro j hj
  match j, hj with
  | 0, _ => exact ⟨zM_X9_nodsToHim, zc_runO (z := zM_X9_nodsToHim) (n := 0) (ci := 9) (n0 := 0) (q := (RX9, TX9, 0)) zo_X9_nodsToHim ⟨Nat.le_of_ble_eq_true rfl, Nat.le_of_ble_eq_true rfl⟩ zw_449 zw_452 zw_450 zw_462 (by decide +kernel) zw_450 zw_451 rfl (by decide) rfl rfl dX7_allJammed_32, fun r hr => zt_X9_nodsToHim 8 rfl (by decide) (vc := (RX9, TX9, 0)) rfl h hr⟩
  | 1, _ => exact ⟨zM_X9_nodsToHim, zc_runO (z := zM_X9_nodsToHim) (n := 0) (ci := 1) (n0 := 0) (q := (RX1, TX1, 0)) zo_X9_nodsToHim ⟨Nat.le_of_ble_eq_true rfl, Nat.le_of_ble_eq_true rfl⟩ zw_449 zw_452 zw_450 zw_462 (by decide +kernel) zw_450 zw_454 rfl (by decide) rfl rfl dX7_allJammed_32, fun r hr => zt_X9_nodsToHim 9 rfl (by decide) (vc := (RX1, TX1, 0)) rfl h hr⟩
  | 2, _ => exact ⟨zM_X3_nodsToHim, zc_runO (z := zM_X3_nodsToHim) (n := 0) (ci := 3) (n0 := 0) (q := (RX3, TX3, 0)) zo_X3_nodsToHim ⟨Nat.le_of_ble_eq_true rfl, Nat.le_of_ble_eq_true rfl⟩ zw_449 zw_452 zw_450 zw_462 (by decide +kernel) zw_457 zw_456 rfl (by decide) rfl rfl dX7_allJammed_32, fun r hr => zt_X3_nodsToHim 10 rfl (by decide) (vc := (RX3, TX3, 0)) rfl h hr⟩
  | 3, _ => exact ⟨zM_X3_nodsToHim, zc_runO (z := zM_X3_nodsToHim) (n := 0) (ci := 4) (n0 := 0) (q := (RX4, TX4, 0)) zo_X3_nodsToHim ⟨Nat.le_of_ble_eq_true rfl, Nat.le_of_ble_eq_true rfl⟩ zw_449 zw_452 zw_450 zw_462 (by decide +kernel) zw_457 zw_459 rfl (by decide) rfl rfl dX7_allJammed_32, fun r hr => zt_X3_nodsToHim 11 rfl (by decide) (vc := (RX4, TX4, 0)) rfl h hr⟩
  | 4, _ => exact ⟨zM_X9_nodsToHim, zc_runO (z := zM_X9_nodsToHim) (n := 0) (ci := 2) (n0 := 0) (q := (RX2, TX2, 0)) zo_X9_nodsToHim ⟨Nat.le_of_ble_eq_true rfl, Nat.le_of_ble_eq_true rfl⟩ zw_449 zw_452 zw_450 zw_462 (by decide +kernel) zw_450 zw_455 rfl (by decide) rfl rfl dX7_allJammed_32, fun r hr => zt_X9_nodsToHim 12 rfl (by decide) (vc := (RX2, TX2, 0)) rfl h hr⟩
  | 5, _ => exact ⟨zM_X9_nodsToHim, zc_runO (z := zM_X9_nodsToHim) (n := 0) (ci := 6) (n0 := 0) (q := (RX6, TX6, 0)) zo_X9_nodsToHim ⟨Nat.le_of_ble_eq_true rfl, Nat.le_of_ble_eq_true rfl⟩ zw_449 zw_452 zw_450 zw_462 (by decide +kernel) zw_450 zw_461 rfl (by decide) rfl rfl dX7_allJammed_32, fun r hr => zt_X9_nodsToHim 13 rfl (by decide) (vc := (RX6, TX6, 0)) rfl h hr⟩
  | 6, _ => exact ⟨zM_X9_nodsToHim, zc_runO (z := zM_X9_nodsToHim) (n := 0) (ci := 0) (n0 := 0) (q := (RX0, TX0, 0)) zo_X9_nodsToHim ⟨Nat.le_of_ble_eq_true rfl, Nat.le_of_ble_eq_true rfl⟩ zw_449 zw_452 zw_450 zw_462 (by decide +kernel) zw_450 zw_453 rfl (by decide) rfl rfl dX7_allJammed_32, fun r hr => zt_X9_nodsToHim 14 rfl (by decide) (vc := (RX0, TX0, 0)) rfl h hr⟩
  | 7, _ => exact ⟨zM_X3_nodsToHim, zc_runO (z := zM_X3_nodsToHim) (n := 0) (ci := 5) (n0 := 0) (q := (RX5, TX5, 0)) zo_X3_nodsToHim ⟨Nat.le_of_ble_eq_true rfl, Nat.le_of_ble_eq_true rfl⟩ zw_449 zw_452 zw_450 zw_462 (by decide +kernel) zw_457 zw_460 rfl (by decide) rfl rfl dX7_allJammed_32, fun r hr => zt_X3_nodsToHim 15 rfl (by decide) (vc := (RX5, TX5, 0)) rfl h hr⟩
  | j + 8, hj => exact absurd hj (Nat.not_lt_of_le (Nat.le_add_left 8 j))
set_option maxRecDepth 100000 in
set_option maxHeartbeats 4000000 in
theorem zt_X7_allJammed (p : Nat) (hp : zc_lay[p]? = some (7, 0)) (h : zHp) {r : Int32} (hr : (zf_X7_allJammed p h) = some r) : zc_Cn zM_X7_allJammed [.ref p] h ((fun r => zc_mI (r, h)) r) := by
  refine zc_meth (mk := (fun r => zc_mI (r, h))) (o := (zf_X7_allJammed p h)) (by decide +kernel) (Nat.le_of_ble_eq_true rfl) ?_ hr
  unfold zf_X7_allJammed
  refine zc_sL (ls1 := [some (.ref p), none, none]) rfl ?_
  refine zc_iconst (pc := 0) (0 : Int32) dX7_allJammed_0 (by decide) ?_
  refine zc_istore_n (pc := 1) dX7_allJammed_1 rfl (Nat.le_of_ble_eq_true rfl) rfl (Nat.le_of_ble_eq_true rfl) ?_
  refine zc_sL (ls1 := [some (.ref p), some (.int (0 : Int32)), none]) rfl ?_
  refine zc_iconst (pc := 2) (0 : Int32) dX7_allJammed_2 (by decide) ?_
  refine zc_istore_n (pc := 3) dX7_allJammed_3 rfl (Nat.le_of_ble_eq_true rfl) rfl (Nat.le_of_ble_eq_true rfl) ?_
  refine zc_sL (ls1 := [some (.ref p), some (.int (0 : Int32)), some (.int (0 : Int32))]) rfl ?_
  refine zc_sL (ls1 := [some (.ref p), some (.int (0 : Int32)), some (.int (0 : Int32))]) rfl ?_
  refine zc_loop 51 (fun v8 => [none, some (.int v8), none]) (fun v8 => []) (fun v8 => h) (fun v8 => ?_) (fun k10 J9 => ?_)
  · refine zc_iload_n (pc := 51) dX7_allJammed_51 rfl rfl ?_
    exact zc_iretK (pc := 52) dX7_allJammed_52 rfl ⟨_, rfl, rfl⟩
  · have L12 : ∀ (fu : Nat) (y1 : Int32) (y2 : Int32), zc_G zM_X7_allJammed (fun r => zc_mI (r, h)) 4 [some (.ref p), some (.int y1), some (.int y2)] [] h ((zl_X7_allJammed_4 p h fu y1 y2).bind k10) := by
        intro fu
        induction fu with
        | zero => intros; exact zc_noneb
        | succ fu ih13 =>
          intro y1 y2
          unfold zl_X7_allJammed_4
          refine zc_iload_n (pc := 4) dX7_allJammed_4 rfl rfl ?_
          refine zc_aload_n (pc := 5) dX7_allJammed_5 rfl rfl ?_
          refine zc_getI (pc := 6) zF_X7_53 hp dX7_allJammed_6 ?_
          refine zc_icmp_ge (pc := 9) 51 dX7_allJammed_9 (by decide) (fun _ => ?_) (fun _ => ?_)
          · refine zc_drop 0 ?_
            refine zc_drop 2 ?_
            exact J9 y1
          · refine zc_iload_n (pc := 12) dX7_allJammed_12 rfl rfl ?_
            refine zc_aload_n (pc := 13) dX7_allJammed_13 rfl rfl ?_
            refine zc_iload_n (pc := 14) dX7_allJammed_14 rfl rfl ?_
            refine zc_callIp (pc := 15) [.ref p, .int y2] rfl (zc_runV (ci := 7) (n0 := 0) (q := (RX7, TX7, 15)) zo_X7_isAble ⟨Nat.le_of_ble_eq_true rfl, Nat.le_of_ble_eq_true rfl⟩ zw_398 zw_399 zw_400 hp (by decide) rfl rfl dX7_allJammed_15) (Nat.le_of_ble_eq_true rfl) (fun _ hr => zt_X7_isAble p hp y2 h hr) (fun r3 => ?_)
            refine zc_join 43 (fun v7 => [some (.ref p), none, some (.int y2)]) (fun v7 => [.int v7, .int y1]) (fun v7 => h) (fun v7 => ?_) (fun J14 => ?_)
            · refine zc_iadd (pc := 43) dX7_allJammed_43 ?_
              refine zc_istore_n (pc := 44) dX7_allJammed_44 rfl (Nat.le_of_ble_eq_true rfl) rfl (Nat.le_of_ble_eq_true rfl) ?_
              refine zc_sL (ls1 := [some (.ref p), some (.int (y1 + v7)), some (.int y2)]) rfl ?_
              refine zc_iinc (pc := 45) (1 : Int32) dX7_allJammed_45 (by decide) rfl (Nat.le_of_ble_eq_true rfl) rfl ?_
              refine zc_sL (ls1 := [some (.ref p), some (.int (y1 + v7)), some (.int (y2 + (1 : Int32)))]) rfl ?_
              refine zc_goto (pc := 48) 4 dX7_allJammed_48 (by decide) ?_
              exact ih13 (y1 + v7) (y2 + (1 : Int32))
            · refine zc_if_eq (pc := 18) 42 dX7_allJammed_18 (by decide) (fun _ => ?_) (fun _ => ?_)
              · refine zc_iconst (pc := 42) (0 : Int32) dX7_allJammed_42 (by decide) ?_
                refine zc_drop 1 ?_
                exact J14 (0 : Int32)
              · refine zc_aload_n (pc := 21) dX7_allJammed_21 rfl rfl ?_
                refine zc_getC (pc := 22) zF_X7_43 hp dX7_allJammed_22 ?_
                refine zc_aload_n (pc := 25) dX7_allJammed_25 rfl rfl ?_
                refine zc_getO (pc := 26) zF_X7_9 hp dX7_allJammed_26 ?_
                refine zc_iload_n (pc := 29) dX7_allJammed_29 rfl rfl ?_
                refine zc_guard (fun g4 => ?_)
                refine zc_aldi (pc := 30) (zs_p (j := 1) hp) g4 dX7_allJammed_30 ?_
                refine zc_guard (fun g5 => ?_)
                refine zc_aldV (pc := 31) rfl g5 dX7_allJammed_31 ?_
                refine zc_virt (pc := 32) (oc := fun j => zv_nodsToHim j) [] rfl (zr_X7_allJammed_32 _) (Nat.le_of_ble_eq_true rfl) g5 (fun r6 => ?_)
                refine zc_if_eq (pc := 35) 42 dX7_allJammed_35 (by decide) (fun _ => ?_) (fun _ => ?_)
                · refine zc_iconst (pc := 42) (0 : Int32) dX7_allJammed_42 (by decide) ?_
                  refine zc_drop 1 ?_
                  exact J14 (0 : Int32)
                · refine zc_iconst (pc := 38) (1 : Int32) dX7_allJammed_38 (by decide) ?_
                  refine zc_goto (pc := 39) 43 dX7_allJammed_39 (by decide) ?_
                  refine zc_drop 1 ?_
                  exact J14 (1 : Int32)
    exact L12 zFU (0 : Int32) (0 : Int32)
def zf_X7_moveChair (p : Nat) (h : zHp) : Option zHp :=
  ((some (zc_ui h p 14 ((h.1 p 14) + (1 : Int32))) : Option zHp).bind (fun h1 => (((if ((h1.1 p 14) - (h1.1 p 14) / (12 : Int32) * (12 : Int32)) = 0 then some (h1.1 p 12) else some (((h1.1 p 10) + (h1.1 p 11)) - ((h1.1 p 10) + (h1.1 p 11)) / (12 : Int32) * (12 : Int32))) : Option Int32).bind (fun v2 => ((some (zc_ui h1 p 10 v2) : Option zHp).bind (fun h3 => some h3))))))
set_option maxRecDepth 100000 in
set_option maxHeartbeats 4000000 in
theorem zt_X7_moveChair (p : Nat) (hp : zc_lay[p]? = some (7, 0)) (h : zHp) {r : zHp} (hr : (zf_X7_moveChair p h) = some r) : zc_Cn zM_X7_moveChair [.ref p] h (zc_mV r) := by
  refine zc_meth (mk := zc_mV) (o := (zf_X7_moveChair p h)) (by decide +kernel) (Nat.le_of_ble_eq_true rfl) ?_ hr
  unfold zf_X7_moveChair
  refine zc_sL (ls1 := [some (.ref p)]) rfl ?_
  refine zc_aload_n (pc := 0) dX7_moveChair_0 rfl rfl ?_
  refine zc_dup (pc := 1) dX7_moveChair_1 rfl ?_
  refine zc_getI (pc := 2) zF_X7_62 hp dX7_moveChair_2 ?_
  refine zc_iconst (pc := 5) (1 : Int32) dX7_moveChair_5 (by decide) ?_
  refine zc_iadd (pc := 6) dX7_moveChair_6 ?_
  refine zc_putI (pc := 7) zF_X7_62 hp dX7_moveChair_7 ?_
  refine zc_letH (fun h1 _ => ?_)
  refine zc_aload_n (pc := 10) dX7_moveChair_10 rfl rfl ?_
  refine zc_aload_n (pc := 11) dX7_moveChair_11 rfl rfl ?_
  refine zc_getI (pc := 12) zF_X7_62 hp dX7_moveChair_12 ?_
  refine zc_bipush (pc := 15) (12 : Int32) dX7_moveChair_15 (by decide) ?_
  refine zc_irem (pc := 17) dX7_moveChair_17 (by decide) ?_
  refine zc_join 40 (fun v2 => [none]) (fun v2 => [.int v2, .ref p]) (fun v2 => h1) (fun v2 => ?_) (fun J4 => ?_)
  · refine zc_putI (pc := 40) zF_X7_56 hp dX7_moveChair_40 ?_
    refine zc_letH (fun h3 _ => ?_)
    exact zc_vretK (pc := 43) dX7_moveChair_43 rfl ⟨_, rfl, rfl⟩
  · refine zc_if_ne (pc := 18) 28 dX7_moveChair_18 (by decide) (fun _ => ?_) (fun _ => ?_)
    · refine zc_aload_n (pc := 21) dX7_moveChair_21 rfl rfl ?_
      refine zc_getI (pc := 22) zF_X7_40 hp dX7_moveChair_22 ?_
      refine zc_goto (pc := 25) 40 dX7_moveChair_25 (by decide) ?_
      refine zc_drop 0 ?_
      exact J4 (h1.1 p 12)
    · refine zc_aload_n (pc := 28) dX7_moveChair_28 rfl rfl ?_
      refine zc_getI (pc := 29) zF_X7_56 hp dX7_moveChair_29 ?_
      refine zc_aload_n (pc := 32) dX7_moveChair_32 rfl rfl ?_
      refine zc_getI (pc := 33) zF_X7_36 hp dX7_moveChair_33 ?_
      refine zc_iadd (pc := 36) dX7_moveChair_36 ?_
      refine zc_bipush (pc := 37) (12 : Int32) dX7_moveChair_37 (by decide) ?_
      refine zc_irem (pc := 39) dX7_moveChair_39 (by decide) ?_
      refine zc_drop 0 ?_
      exact J4 (((h1.1 p 10) + (h1.1 p 11)) - ((h1.1 p 10) + (h1.1 p 11)) / (12 : Int32) * (12 : Int32))
def zf_X7_carry (p : Nat) (x1 : Int32) (x2 : Int32) (h : zHp) : Option zHp :=
  (if zc_ix x1 7 then (if zc_ix x2 7 then ((some (if (h.1 (p + 5) x2.toNatClampNeg) < (h.1 (p + 7) x1.toNatClampNeg) then (h.1 (p + 5) x2.toNatClampNeg) else (h.1 (p + 7) x1.toNatClampNeg)) : Option Int32).bind (fun v3 => (if zc_ix x2 7 then (if zc_ix x2 7 then ((some (zc_ui h (p + 5) x2.toNatClampNeg ((h.1 (p + 5) x2.toNatClampNeg) - v3)) : Option zHp).bind (fun h6 => (if zc_ix x1 7 then ((some (if ((h6.1 (p + 5) x1.toNatClampNeg) + v3) < (99 : Int32) then ((h6.1 (p + 5) x1.toNatClampNeg) + v3) else (99 : Int32)) : Option Int32).bind (fun v8 => (if zc_ix x1 7 then ((some (zc_ui h6 (p + 5) x1.toNatClampNeg v8) : Option zHp).bind (fun h10 => (if zc_ix x1 7 then (if zc_ix (h10.1 (p + 1) x1.toNatClampNeg) 8 then ((zv_nodsToHim (h10.1 (p + 1) x1.toNatClampNeg).toNatClampNeg).bind (fun r13 => (if r13 = 0 then some h10 else ((some (if ((h10.1 p 13) + (1 : Int32)) < (9999 : Int32) then ((h10.1 p 13) + (1 : Int32)) else (9999 : Int32)) : Option Int32).bind (fun v14 => ((some (zc_ui h10 p 13 v14) : Option zHp).bind (fun h15 => some h15))))))) else none) else none))) else none))) else none))) else none) else none))) else none) else none)
theorem zr_X7_carry_56 (h : zHp) : ∀ j, j < 8 → ∃ z : zMI, zc_Run zM_X7_carry z 56 (.ref (8 + j) :: []) h ∧ ∀ r, zv_nodsToHim j = some r → zc_Cn z (.ref (8 + j) :: []) h (zc_mI (r, h)) := by
  intro j hj
  match j, hj with
  | 0, _ => exact ⟨zM_X9_nodsToHim, zc_runO (z := zM_X9_nodsToHim) (n := 0) (ci := 9) (n0 := 0) (q := (RX9, TX9, 0)) zo_X9_nodsToHim ⟨Nat.le_of_ble_eq_true rfl, Nat.le_of_ble_eq_true rfl⟩ zw_449 zw_452 zw_450 zw_462 (by decide +kernel) zw_450 zw_451 rfl (by decide) rfl rfl dX7_carry_56, fun r hr => zt_X9_nodsToHim 8 rfl (by decide) (vc := (RX9, TX9, 0)) rfl h hr⟩
  | 1, _ => exact ⟨zM_X9_nodsToHim, zc_runO (z := zM_X9_nodsToHim) (n := 0) (ci := 1) (n0 := 0) (q := (RX1, TX1, 0)) zo_X9_nodsToHim ⟨Nat.le_of_ble_eq_true rfl, Nat.le_of_ble_eq_true rfl⟩ zw_449 zw_452 zw_450 zw_462 (by decide +kernel) zw_450 zw_454 rfl (by decide) rfl rfl dX7_carry_56, fun r hr => zt_X9_nodsToHim 9 rfl (by decide) (vc := (RX1, TX1, 0)) rfl h hr⟩
  | 2, _ => exact ⟨zM_X3_nodsToHim, zc_runO (z := zM_X3_nodsToHim) (n := 0) (ci := 3) (n0 := 0) (q := (RX3, TX3, 0)) zo_X3_nodsToHim ⟨Nat.le_of_ble_eq_true rfl, Nat.le_of_ble_eq_true rfl⟩ zw_449 zw_452 zw_450 zw_462 (by decide +kernel) zw_457 zw_456 rfl (by decide) rfl rfl dX7_carry_56, fun r hr => zt_X3_nodsToHim 10 rfl (by decide) (vc := (RX3, TX3, 0)) rfl h hr⟩
  | 3, _ => exact ⟨zM_X3_nodsToHim, zc_runO (z := zM_X3_nodsToHim) (n := 0) (ci := 4) (n0 := 0) (q := (RX4, TX4, 0)) zo_X3_nodsToHim ⟨Nat.le_of_ble_eq_true rfl, Nat.le_of_ble_eq_true rfl⟩ zw_449 zw_452 zw_450 zw_462 (by decide +kernel) zw_457 zw_459 rfl (by decide) rfl rfl dX7_carry_56, fun r hr => zt_X3_nodsToHim 11 rfl (by decide) (vc := (RX4, TX4, 0)) rfl h hr⟩
  | 4, _ => exact ⟨zM_X9_nodsToHim, zc_runO (z := zM_X9_nodsToHim) (n := 0) (ci := 2) (n0 := 0) (q := (RX2, TX2, 0)) zo_X9_nodsToHim ⟨Nat.le_of_ble_eq_true rfl, Nat.le_of_ble_eq_true rfl⟩ zw_449 zw_452 zw_450 zw_462 (by decide +kernel) zw_450 zw_455 rfl (by decide) rfl rfl dX7_carry_56, fun r hr => zt_X9_nodsToHim 12 rfl (by decide) (vc := (RX2, TX2, 0)) rfl h hr⟩
  | 5, _ => exact ⟨zM_X9_nodsToHim, zc_runO (z := zM_X9_nodsToHim) (n := 0) (ci := 6) (n0 := 0) (q := (RX6, TX6, 0)) zo_X9_nodsToHim ⟨Nat.le_of_ble_eq_true rfl, Nat.le_of_ble_eq_true rfl⟩ zw_449 zw_452 zw_450 zw_462 (by decide +kernel) zw_450 zw_461 rfl (by decide) rfl rfl dX7_carry_56, fun r hr => zt_X9_nodsToHim 13 rfl (by decide) (vc := (RX6, TX6, 0)) rfl h hr⟩
  | 6, _ => exact ⟨zM_X9_nodsToHim, zc_runO (z := zM_X9_nodsToHim) (n := 0) (ci := 0) (n0 := 0) (q := (RX0, TX0, 0)) zo_X9_nodsToHim ⟨Nat.le_of_ble_eq_true rfl, Nat.le_of_ble_eq_true rfl⟩ zw_449 zw_452 zw_450 zw_462 (by decide +kernel) zw_450 zw_453 rfl (by decide) rfl rfl dX7_carry_56, fun r hr => zt_X9_nodsToHim 14 rfl (by decide) (vc := (RX0, TX0, 0)) rfl h hr⟩
  | 7, _ => exact ⟨zM_X3_nodsToHim, zc_runO (z := zM_X3_nodsToHim) (n := 0) (ci := 5) (n0 := 0) (q := (RX5, TX5, 0)) zo_X3_nodsToHim ⟨Nat.le_of_ble_eq_true rfl, Nat.le_of_ble_eq_true rfl⟩ zw_449 zw_452 zw_450 zw_462 (by decide +kernel) zw_457 zw_460 rfl (by decide) rfl rfl dX7_carry_56, fun r hr => zt_X3_nodsToHim 15 rfl (by decide) (vc := (RX5, TX5, 0)) rfl h hr⟩
  | j + 8, hj => exact absurd hj (Nat.not_lt_of_le (Nat.le_add_left 8 j))
set_option maxRecDepth 100000 in
set_option maxHeartbeats 4000000 in
theorem zt_X7_carry (p : Nat) (hp : zc_lay[p]? = some (7, 0)) (x1 : Int32) (x2 : Int32) (h : zHp) {r : zHp} (hr : (zf_X7_carry p x1 x2 h) = some r) : zc_Cn zM_X7_carry [.ref p, .int x1, .int x2] h (zc_mV r) := by
  refine zc_meth (mk := zc_mV) (o := (zf_X7_carry p x1 x2 h)) (by decide +kernel) (Nat.le_of_ble_eq_true rfl) ?_ hr
  unfold zf_X7_carry
  refine zc_sL (ls1 := [some (.ref p), some (.int x1), some (.int x2), none]) rfl ?_
  refine zc_aload_n (pc := 0) dX7_carry_0 rfl rfl ?_
  refine zc_getO (pc := 1) zF_X7_30 hp dX7_carry_1 ?_
  refine zc_iload_n (pc := 4) dX7_carry_4 rfl rfl ?_
  refine zc_guard (fun g1 => ?_)
  refine zc_aldi (pc := 5) (zs_p (j := 7) hp) g1 dX7_carry_5 ?_
  refine zc_aload_n (pc := 6) dX7_carry_6 rfl rfl ?_
  refine zc_getO (pc := 7) zF_X7_24 hp dX7_carry_7 ?_
  refine zc_iload_n (pc := 10) dX7_carry_10 rfl rfl ?_
  refine zc_guard (fun g2 => ?_)
  refine zc_aldi (pc := 11) (zs_p (j := 5) hp) g2 dX7_carry_11 ?_
  refine zc_mmin (pc := 12) zw_446 zw_mmin_s zw_14 zw_mmin_c (Nat.le_of_ble_eq_true rfl) ⟨Nat.le_of_ble_eq_true rfl, Nat.le_of_ble_eq_true rfl⟩ dX7_carry_12 ?_
  refine zc_letI (fun v3 _ => ?_)
  refine zc_istore_n (pc := 15) dX7_carry_15 rfl (Nat.le_of_ble_eq_true rfl) rfl (Nat.le_of_ble_eq_true rfl) ?_
  refine zc_sL (ls1 := [some (.ref p), some (.int x1), some (.int x2), some (.int v3)]) rfl ?_
  refine zc_aload_n (pc := 16) dX7_carry_16 rfl rfl ?_
  refine zc_getO (pc := 17) zF_X7_24 hp dX7_carry_17 ?_
  refine zc_iload_n (pc := 20) dX7_carry_20 rfl rfl ?_
  refine zc_dup2 (pc := 21) dX7_carry_21 rfl rfl ?_
  refine zc_guard (fun g4 => ?_)
  refine zc_aldi (pc := 22) (zs_p (j := 5) hp) g4 dX7_carry_22 ?_
  refine zc_iload_n (pc := 23) dX7_carry_23 rfl rfl ?_
  refine zc_isub (pc := 24) dX7_carry_24 ?_
  refine zc_guard (fun g5 => ?_)
  refine zc_asti (pc := 25) (zs_p (j := 5) hp) g5 dX7_carry_25 ?_
  refine zc_letH (fun h6 _ => ?_)
  refine zc_aload_n (pc := 26) dX7_carry_26 rfl rfl ?_
  refine zc_getO (pc := 27) zF_X7_24 hp dX7_carry_27 ?_
  refine zc_iload_n (pc := 30) dX7_carry_30 rfl rfl ?_
  refine zc_bipush (pc := 31) (99 : Int32) dX7_carry_31 (by decide) ?_
  refine zc_aload_n (pc := 33) dX7_carry_33 rfl rfl ?_
  refine zc_getO (pc := 34) zF_X7_24 hp dX7_carry_34 ?_
  refine zc_iload_n (pc := 37) dX7_carry_37 rfl rfl ?_
  refine zc_guard (fun g7 => ?_)
  refine zc_aldi (pc := 38) (zs_p (j := 5) hp) g7 dX7_carry_38 ?_
  refine zc_iload_n (pc := 39) dX7_carry_39 rfl rfl ?_
  refine zc_iadd (pc := 40) dX7_carry_40 ?_
  refine zc_mmin (pc := 41) zw_446 zw_mmin_s zw_14 zw_mmin_c (Nat.le_of_ble_eq_true rfl) ⟨Nat.le_of_ble_eq_true rfl, Nat.le_of_ble_eq_true rfl⟩ dX7_carry_41 ?_
  refine zc_letI (fun v8 _ => ?_)
  refine zc_guard (fun g9 => ?_)
  refine zc_asti (pc := 44) (zs_p (j := 5) hp) g9 dX7_carry_44 ?_
  refine zc_letH (fun h10 _ => ?_)
  refine zc_aload_n (pc := 45) dX7_carry_45 rfl rfl ?_
  refine zc_getC (pc := 46) zF_X7_43 hp dX7_carry_46 ?_
  refine zc_aload_n (pc := 49) dX7_carry_49 rfl rfl ?_
  refine zc_getO (pc := 50) zF_X7_9 hp dX7_carry_50 ?_
  refine zc_iload_n (pc := 53) dX7_carry_53 rfl rfl ?_
  refine zc_guard (fun g11 => ?_)
  refine zc_aldi (pc := 54) (zs_p (j := 1) hp) g11 dX7_carry_54 ?_
  refine zc_guard (fun g12 => ?_)
  refine zc_aldV (pc := 55) rfl g12 dX7_carry_55 ?_
  refine zc_virt (pc := 56) (oc := fun j => zv_nodsToHim j) [] rfl (zr_X7_carry_56 _) (Nat.le_of_ble_eq_true rfl) g12 (fun r13 => ?_)
  refine zc_if_eq (pc := 59) 78 dX7_carry_59 (by decide) (fun _ => ?_) (fun _ => ?_)
  · exact zc_vretK (pc := 78) dX7_carry_78 rfl ⟨_, rfl, rfl⟩
  · refine zc_aload_n (pc := 62) dX7_carry_62 rfl rfl ?_
    refine zc_sipush (pc := 63) (9999 : Int32) dX7_carry_63 (by decide) ?_
    refine zc_aload_n (pc := 66) dX7_carry_66 rfl rfl ?_
    refine zc_getI (pc := 67) zF_X7_59 hp dX7_carry_67 ?_
    refine zc_iconst (pc := 70) (1 : Int32) dX7_carry_70 (by decide) ?_
    refine zc_iadd (pc := 71) dX7_carry_71 ?_
    refine zc_mmin (pc := 72) zw_446 zw_mmin_s zw_14 zw_mmin_c (Nat.le_of_ble_eq_true rfl) ⟨Nat.le_of_ble_eq_true rfl, Nat.le_of_ble_eq_true rfl⟩ dX7_carry_72 ?_
    refine zc_letI (fun v14 _ => ?_)
    refine zc_putI (pc := 75) zF_X7_59 hp dX7_carry_75 ?_
    refine zc_letH (fun h15 _ => ?_)
    exact zc_vretK (pc := 78) dX7_carry_78 rfl ⟨_, rfl, rfl⟩
def zl_X7_goDays_13 (p : Nat) : Nat → Int32 → zHp → Option zHp
  | 0, _, _ => none
  | fu + 1, y4, h5 => (if (h5.1 p 9) ≤ y4 then some h5 else ((zf_X7_isAble p y4 h5).bind (fun r6 => (((if r6 = 0 then some h5 else (if zc_ix y4 7 then ((zf_X7_carry p y4 (h5.1 (p + 4) y4.toNatClampNeg) h5).bind (fun r8 => some r8)) else none)) : Option zHp).bind (fun v9 => (if zc_ix y4 7 then (if zc_ix y4 7 then ((some (if (0 : Int32) < ((v9.1 (p + 5) y4.toNatClampNeg) - (v9.1 (p + 8) y4.toNatClampNeg)) then ((v9.1 (p + 5) y4.toNatClampNeg) - (v9.1 (p + 8) y4.toNatClampNeg)) else (0 : Int32)) : Option Int32).bind (fun v12 => (if zc_ix y4 7 then ((some (zc_ui v9 (p + 5) y4.toNatClampNeg v12) : Option zHp).bind (fun h14 => zl_X7_goDays_13 p fu (y4 + (1 : Int32)) h14)) else none))) else none) else none))))))
def zl_X7_goDays_2 (p : Nat) (x1 : Int32) : Nat → Int32 → zHp → Option zHp
  | 0, _, _ => none
  | fu + 1, y1, h2 => (if x1 ≤ y1 then some h2 else ((zf_X7_moveChair p h2).bind (fun r3 => ((zl_X7_goDays_13 p zFU (0 : Int32) r3).bind (fun v15 => zl_X7_goDays_2 p x1 fu (y1 + (1 : Int32)) v15)))))
def zf_X7_goDays (p : Nat) (x1 : Int32) (h : zHp) : Option zHp :=
  ((zl_X7_goDays_2 p x1 zFU (0 : Int32) h).bind (fun v16 => some v16))
set_option maxRecDepth 100000 in
set_option maxHeartbeats 4000000 in
theorem zt_X7_goDays (p : Nat) (hp : zc_lay[p]? = some (7, 0)) (x1 : Int32) (h : zHp) {r : zHp} (hr : (zf_X7_goDays p x1 h) = some r) : zc_Cn zM_X7_goDays [.ref p, .int x1] h (zc_mV r) := by
  refine zc_meth (mk := zc_mV) (o := (zf_X7_goDays p x1 h)) (by decide +kernel) (Nat.le_of_ble_eq_true rfl) ?_ hr
  unfold zf_X7_goDays
  refine zc_sL (ls1 := [some (.ref p), some (.int x1), none, none]) rfl ?_
  refine zc_iconst (pc := 0) (0 : Int32) dX7_goDays_0 (by decide) ?_
  refine zc_istore_n (pc := 1) dX7_goDays_1 rfl (Nat.le_of_ble_eq_true rfl) rfl (Nat.le_of_ble_eq_true rfl) ?_
  refine zc_sL (ls1 := [some (.ref p), some (.int x1), some (.int (0 : Int32)), none]) rfl ?_
  refine zc_sL (ls1 := [some (.ref p), some (.int x1), some (.int (0 : Int32)), none]) rfl ?_
  refine zc_loop 75 (fun v16 => [none, none, none, none]) (fun v16 => []) (fun v16 => v16) (fun v16 => ?_) (fun k18 J17 => ?_)
  · exact zc_vretK (pc := 75) dX7_goDays_75 rfl ⟨_, rfl, rfl⟩
  · have L20 : ∀ (fu : Nat) (y1 : Int32) (h2 : zHp), zc_G zM_X7_goDays zc_mV 2 [some (.ref p), some (.int x1), some (.int y1), none] [] h2 ((zl_X7_goDays_2 p x1 fu y1 h2).bind k18) := by
        intro fu
        induction fu with
        | zero => intros; exact zc_noneb
        | succ fu ih21 =>
          intro y1 h2
          unfold zl_X7_goDays_2
          refine zc_iload_n (pc := 2) dX7_goDays_2 rfl rfl ?_
          refine zc_iload_n (pc := 3) dX7_goDays_3 rfl rfl ?_
          refine zc_icmp_ge (pc := 4) 75 dX7_goDays_4 (by decide) (fun _ => ?_) (fun _ => ?_)
          · refine zc_drop 0 ?_
            refine zc_drop 1 ?_
            refine zc_drop 2 ?_
            exact J17 h2
          · refine zc_aload_n (pc := 7) dX7_goDays_7 rfl rfl ?_
            refine zc_callV (pc := 8) [.ref p] rfl (zc_runV (ci := 7) (n0 := 0) (q := (RX7, TX7, 15)) zo_X7_moveChair ⟨Nat.le_of_ble_eq_true rfl, Nat.le_of_ble_eq_true rfl⟩ zw_394 zw_395 zw_396 hp (by decide) rfl rfl dX7_goDays_8) (Nat.le_of_ble_eq_true rfl) (fun _ hr => zt_X7_moveChair p hp h2 hr) (fun r3 => ?_)
            refine zc_iconst (pc := 11) (0 : Int32) dX7_goDays_11 (by decide) ?_
            refine zc_istore_n (pc := 12) dX7_goDays_12 rfl (Nat.le_of_ble_eq_true rfl) rfl (Nat.le_of_ble_eq_true rfl) ?_
            refine zc_sL (ls1 := [some (.ref p), some (.int x1), some (.int y1), some (.int (0 : Int32))]) rfl ?_
            refine zc_sL (ls1 := [some (.ref p), some (.int x1), some (.int y1), some (.int (0 : Int32))]) rfl ?_
            refine zc_loop 69 (fun v15 => [some (.ref p), some (.int x1), some (.int y1), none]) (fun v15 => []) (fun v15 => v15) (fun v15 => ?_) (fun k23 J22 => ?_)
            · refine zc_iinc (pc := 69) (1 : Int32) dX7_goDays_69 (by decide) rfl (Nat.le_of_ble_eq_true rfl) rfl ?_
              refine zc_sL (ls1 := [some (.ref p), some (.int x1), some (.int (y1 + (1 : Int32))), none]) rfl ?_
              refine zc_goto (pc := 72) 2 dX7_goDays_72 (by decide) ?_
              exact ih21 (y1 + (1 : Int32)) v15
            · have L25 : ∀ (fu : Nat) (y4 : Int32) (h5 : zHp), zc_G zM_X7_goDays zc_mV 13 [some (.ref p), some (.int x1), some (.int y1), some (.int y4)] [] h5 ((zl_X7_goDays_13 p fu y4 h5).bind k23) := by
                  intro fu
                  induction fu with
                  | zero => intros; exact zc_noneb
                  | succ fu ih26 =>
                    intro y4 h5
                    unfold zl_X7_goDays_13
                    refine zc_iload_n (pc := 13) dX7_goDays_13 rfl rfl ?_
                    refine zc_aload_n (pc := 14) dX7_goDays_14 rfl rfl ?_
                    refine zc_getI (pc := 15) zF_X7_53 hp dX7_goDays_15 ?_
                    refine zc_icmp_ge (pc := 18) 69 dX7_goDays_18 (by decide) (fun _ => ?_) (fun _ => ?_)
                    · refine zc_drop 3 ?_
                      exact J22 h5
                    · refine zc_aload_n (pc := 21) dX7_goDays_21 rfl rfl ?_
                      refine zc_iload_n (pc := 22) dX7_goDays_22 rfl rfl ?_
                      refine zc_callIp (pc := 23) [.ref p, .int y4] rfl (zc_runV (ci := 7) (n0 := 0) (q := (RX7, TX7, 15)) zo_X7_isAble ⟨Nat.le_of_ble_eq_true rfl, Nat.le_of_ble_eq_true rfl⟩ zw_398 zw_399 zw_400 hp (by decide) rfl rfl dX7_goDays_23) (Nat.le_of_ble_eq_true rfl) (fun _ hr => zt_X7_isAble p hp y4 h5 hr) (fun r6 => ?_)
                      refine zc_join 40 (fun v9 => [some (.ref p), some (.int x1), some (.int y1), some (.int y4)]) (fun v9 => []) (fun v9 => v9) (fun v9 => ?_) (fun J27 => ?_)
                      · refine zc_aload_n (pc := 40) dX7_goDays_40 rfl rfl ?_
                        refine zc_getO (pc := 41) zF_X7_24 hp dX7_goDays_41 ?_
                        refine zc_iload_n (pc := 44) dX7_goDays_44 rfl rfl ?_
                        refine zc_iconst (pc := 45) (0 : Int32) dX7_goDays_45 (by decide) ?_
                        refine zc_aload_n (pc := 46) dX7_goDays_46 rfl rfl ?_
                        refine zc_getO (pc := 47) zF_X7_24 hp dX7_goDays_47 ?_
                        refine zc_iload_n (pc := 50) dX7_goDays_50 rfl rfl ?_
                        refine zc_guard (fun g10 => ?_)
                        refine zc_aldi (pc := 51) (zs_p (j := 5) hp) g10 dX7_goDays_51 ?_
                        refine zc_aload_n (pc := 52) dX7_goDays_52 rfl rfl ?_
                        refine zc_getO (pc := 53) zF_X7_33 hp dX7_goDays_53 ?_
                        refine zc_iload_n (pc := 56) dX7_goDays_56 rfl rfl ?_
                        refine zc_guard (fun g11 => ?_)
                        refine zc_aldi (pc := 57) (zs_p (j := 8) hp) g11 dX7_goDays_57 ?_
                        refine zc_isub (pc := 58) dX7_goDays_58 ?_
                        refine zc_mmax (pc := 59) zw_463 zw_mmax_s zw_14 zw_mmax_c (Nat.le_of_ble_eq_true rfl) ⟨Nat.le_of_ble_eq_true rfl, Nat.le_of_ble_eq_true rfl⟩ dX7_goDays_59 ?_
                        refine zc_letI (fun v12 _ => ?_)
                        refine zc_guard (fun g13 => ?_)
                        refine zc_asti (pc := 62) (zs_p (j := 5) hp) g13 dX7_goDays_62 ?_
                        refine zc_letH (fun h14 _ => ?_)
                        refine zc_iinc (pc := 63) (1 : Int32) dX7_goDays_63 (by decide) rfl (Nat.le_of_ble_eq_true rfl) rfl ?_
                        refine zc_sL (ls1 := [some (.ref p), some (.int x1), some (.int y1), some (.int (y4 + (1 : Int32)))]) rfl ?_
                        refine zc_goto (pc := 66) 13 dX7_goDays_66 (by decide) ?_
                        exact ih26 (y4 + (1 : Int32)) h14
                      · refine zc_if_eq (pc := 26) 40 dX7_goDays_26 (by decide) (fun _ => ?_) (fun _ => ?_)
                        · exact J27 h5
                        · refine zc_aload_n (pc := 29) dX7_goDays_29 rfl rfl ?_
                          refine zc_iload_n (pc := 30) dX7_goDays_30 rfl rfl ?_
                          refine zc_aload_n (pc := 31) dX7_goDays_31 rfl rfl ?_
                          refine zc_getO (pc := 32) zF_X7_21 hp dX7_goDays_32 ?_
                          refine zc_iload_n (pc := 35) dX7_goDays_35 rfl rfl ?_
                          refine zc_guard (fun g7 => ?_)
                          refine zc_aldi (pc := 36) (zs_p (j := 4) hp) g7 dX7_goDays_36 ?_
                          refine zc_callV (pc := 37) [.ref p, .int y4, .int (h5.1 (p + 4) y4.toNatClampNeg)] rfl (zc_runV (ci := 7) (n0 := 0) (q := (RX7, TX7, 15)) zo_X7_carry ⟨Nat.le_of_ble_eq_true rfl, Nat.le_of_ble_eq_true rfl⟩ zw_442 zw_444 zs_3 hp (by decide) rfl rfl dX7_goDays_37) (Nat.le_of_ble_eq_true rfl) (fun _ hr => zt_X7_carry p hp y4 (h5.1 (p + 4) y4.toNatClampNeg) h5 hr) (fun r8 => ?_)
                          exact J27 r8
              exact L25 zFU (0 : Int32) r3
    exact L20 zFU (0 : Int32) h
def zl_X7_allStock_4 (p : Nat) (h : zHp) : Nat → Int32 → Int32 → Option Int32
  | 0, _, _ => none
  | fu + 1, y1, y2 => (if (h.1 p 9) ≤ y2 then some y1 else (if zc_ix y2 7 then ((some (y1 + (h.1 (p + 5) y2.toNatClampNeg)) : Option Int32).bind (fun v4 => zl_X7_allStock_4 p h fu v4 (y2 + (1 : Int32)))) else none))
def zf_X7_allStock (p : Nat) (h : zHp) : Option Int32 :=
  ((zl_X7_allStock_4 p h zFU (0 : Int32) (0 : Int32)).bind (fun v5 => some v5))
set_option maxRecDepth 100000 in
set_option maxHeartbeats 4000000 in
theorem zt_X7_allStock (p : Nat) (hp : zc_lay[p]? = some (7, 0)) (h : zHp) {r : Int32} (hr : (zf_X7_allStock p h) = some r) : zc_Cn zM_X7_allStock [.ref p] h ((fun r => zc_mI (r, h)) r) := by
  refine zc_meth (mk := (fun r => zc_mI (r, h))) (o := (zf_X7_allStock p h)) (by decide +kernel) (Nat.le_of_ble_eq_true rfl) ?_ hr
  unfold zf_X7_allStock
  refine zc_sL (ls1 := [some (.ref p), none, none]) rfl ?_
  refine zc_iconst (pc := 0) (0 : Int32) dX7_allStock_0 (by decide) ?_
  refine zc_istore_n (pc := 1) dX7_allStock_1 rfl (Nat.le_of_ble_eq_true rfl) rfl (Nat.le_of_ble_eq_true rfl) ?_
  refine zc_sL (ls1 := [some (.ref p), some (.int (0 : Int32)), none]) rfl ?_
  refine zc_iconst (pc := 2) (0 : Int32) dX7_allStock_2 (by decide) ?_
  refine zc_istore_n (pc := 3) dX7_allStock_3 rfl (Nat.le_of_ble_eq_true rfl) rfl (Nat.le_of_ble_eq_true rfl) ?_
  refine zc_sL (ls1 := [some (.ref p), some (.int (0 : Int32)), some (.int (0 : Int32))]) rfl ?_
  refine zc_sL (ls1 := [some (.ref p), some (.int (0 : Int32)), some (.int (0 : Int32))]) rfl ?_
  refine zc_loop 27 (fun v5 => [none, some (.int v5), none]) (fun v5 => []) (fun v5 => h) (fun v5 => ?_) (fun k7 J6 => ?_)
  · refine zc_iload_n (pc := 27) dX7_allStock_27 rfl rfl ?_
    exact zc_iretK (pc := 28) dX7_allStock_28 rfl ⟨_, rfl, rfl⟩
  · have L9 : ∀ (fu : Nat) (y1 : Int32) (y2 : Int32), zc_G zM_X7_allStock (fun r => zc_mI (r, h)) 4 [some (.ref p), some (.int y1), some (.int y2)] [] h ((zl_X7_allStock_4 p h fu y1 y2).bind k7) := by
        intro fu
        induction fu with
        | zero => intros; exact zc_noneb
        | succ fu ih10 =>
          intro y1 y2
          unfold zl_X7_allStock_4
          refine zc_iload_n (pc := 4) dX7_allStock_4 rfl rfl ?_
          refine zc_aload_n (pc := 5) dX7_allStock_5 rfl rfl ?_
          refine zc_getI (pc := 6) zF_X7_53 hp dX7_allStock_6 ?_
          refine zc_icmp_ge (pc := 9) 27 dX7_allStock_9 (by decide) (fun _ => ?_) (fun _ => ?_)
          · refine zc_drop 0 ?_
            refine zc_drop 2 ?_
            exact J6 y1
          · refine zc_iload_n (pc := 12) dX7_allStock_12 rfl rfl ?_
            refine zc_aload_n (pc := 13) dX7_allStock_13 rfl rfl ?_
            refine zc_getO (pc := 14) zF_X7_24 hp dX7_allStock_14 ?_
            refine zc_iload_n (pc := 17) dX7_allStock_17 rfl rfl ?_
            refine zc_guard (fun g3 => ?_)
            refine zc_aldi (pc := 18) (zs_p (j := 5) hp) g3 dX7_allStock_18 ?_
            refine zc_iadd (pc := 19) dX7_allStock_19 ?_
            refine zc_letI (fun v4 _ => ?_)
            refine zc_istore_n (pc := 20) dX7_allStock_20 rfl (Nat.le_of_ble_eq_true rfl) rfl (Nat.le_of_ble_eq_true rfl) ?_
            refine zc_sL (ls1 := [some (.ref p), some (.int v4), some (.int y2)]) rfl ?_
            refine zc_iinc (pc := 21) (1 : Int32) dX7_allStock_21 (by decide) rfl (Nat.le_of_ble_eq_true rfl) rfl ?_
            refine zc_sL (ls1 := [some (.ref p), some (.int v4), some (.int (y2 + (1 : Int32)))]) rfl ?_
            refine zc_goto (pc := 24) 4 dX7_allStock_24 (by decide) ?_
            exact ih10 v4 (y2 + (1 : Int32))
    exact L9 zFU (0 : Int32) (0 : Int32)
def zl_X7_allWays_4 (p : Nat) (h : zHp) : Nat → Int32 → Int32 → Option Int32
  | 0, _, _ => none
  | fu + 1, y1, y2 => (if (h.1 p 9) ≤ y2 then some y1 else ((zf_X7_hasSource p y2 h).bind (fun r3 => (((if r3 = 0 then some (0 : Int32) else ((zf_X7_wayToSource p y2 h).bind (fun r4 => some r4))) : Option Int32).bind (fun v5 => zl_X7_allWays_4 p h fu (y1 + v5) (y2 + (1 : Int32)))))))
def zf_X7_allWays (p : Nat) (h : zHp) : Option Int32 :=
  ((zl_X7_allWays_4 p h zFU (0 : Int32) (0 : Int32)).bind (fun v6 => some v6))
set_option maxRecDepth 100000 in
set_option maxHeartbeats 4000000 in
theorem zt_X7_allWays (p : Nat) (hp : zc_lay[p]? = some (7, 0)) (h : zHp) {r : Int32} (hr : (zf_X7_allWays p h) = some r) : zc_Cn zM_X7_allWays [.ref p] h ((fun r => zc_mI (r, h)) r) := by
  refine zc_meth (mk := (fun r => zc_mI (r, h))) (o := (zf_X7_allWays p h)) (by decide +kernel) (Nat.le_of_ble_eq_true rfl) ?_ hr
  unfold zf_X7_allWays
  refine zc_sL (ls1 := [some (.ref p), none, none]) rfl ?_
  refine zc_iconst (pc := 0) (0 : Int32) dX7_allWays_0 (by decide) ?_
  refine zc_istore_n (pc := 1) dX7_allWays_1 rfl (Nat.le_of_ble_eq_true rfl) rfl (Nat.le_of_ble_eq_true rfl) ?_
  refine zc_sL (ls1 := [some (.ref p), some (.int (0 : Int32)), none]) rfl ?_
  refine zc_iconst (pc := 2) (0 : Int32) dX7_allWays_2 (by decide) ?_
  refine zc_istore_n (pc := 3) dX7_allWays_3 rfl (Nat.le_of_ble_eq_true rfl) rfl (Nat.le_of_ble_eq_true rfl) ?_
  refine zc_sL (ls1 := [some (.ref p), some (.int (0 : Int32)), some (.int (0 : Int32))]) rfl ?_
  refine zc_sL (ls1 := [some (.ref p), some (.int (0 : Int32)), some (.int (0 : Int32))]) rfl ?_
  refine zc_loop 38 (fun v6 => [none, some (.int v6), none]) (fun v6 => []) (fun v6 => h) (fun v6 => ?_) (fun k8 J7 => ?_)
  · refine zc_iload_n (pc := 38) dX7_allWays_38 rfl rfl ?_
    exact zc_iretK (pc := 39) dX7_allWays_39 rfl ⟨_, rfl, rfl⟩
  · have L10 : ∀ (fu : Nat) (y1 : Int32) (y2 : Int32), zc_G zM_X7_allWays (fun r => zc_mI (r, h)) 4 [some (.ref p), some (.int y1), some (.int y2)] [] h ((zl_X7_allWays_4 p h fu y1 y2).bind k8) := by
        intro fu
        induction fu with
        | zero => intros; exact zc_noneb
        | succ fu ih11 =>
          intro y1 y2
          unfold zl_X7_allWays_4
          refine zc_iload_n (pc := 4) dX7_allWays_4 rfl rfl ?_
          refine zc_aload_n (pc := 5) dX7_allWays_5 rfl rfl ?_
          refine zc_getI (pc := 6) zF_X7_53 hp dX7_allWays_6 ?_
          refine zc_icmp_ge (pc := 9) 38 dX7_allWays_9 (by decide) (fun _ => ?_) (fun _ => ?_)
          · refine zc_drop 0 ?_
            refine zc_drop 2 ?_
            exact J7 y1
          · refine zc_iload_n (pc := 12) dX7_allWays_12 rfl rfl ?_
            refine zc_aload_n (pc := 13) dX7_allWays_13 rfl rfl ?_
            refine zc_iload_n (pc := 14) dX7_allWays_14 rfl rfl ?_
            refine zc_callIp (pc := 15) [.ref p, .int y2] rfl (zc_runV (ci := 7) (n0 := 0) (q := (RX7, TX7, 15)) zo_X7_hasSource ⟨Nat.le_of_ble_eq_true rfl, Nat.le_of_ble_eq_true rfl⟩ zw_402 zw_403 zw_404 hp (by decide) rfl rfl dX7_allWays_15) (Nat.le_of_ble_eq_true rfl) (fun _ hr => zt_X7_hasSource p hp y2 h hr) (fun r3 => ?_)
            refine zc_join 30 (fun v5 => [some (.ref p), none, some (.int y2)]) (fun v5 => [.int v5, .int y1]) (fun v5 => h) (fun v5 => ?_) (fun J12 => ?_)
            · refine zc_iadd (pc := 30) dX7_allWays_30 ?_
              refine zc_istore_n (pc := 31) dX7_allWays_31 rfl (Nat.le_of_ble_eq_true rfl) rfl (Nat.le_of_ble_eq_true rfl) ?_
              refine zc_sL (ls1 := [some (.ref p), some (.int (y1 + v5)), some (.int y2)]) rfl ?_
              refine zc_iinc (pc := 32) (1 : Int32) dX7_allWays_32 (by decide) rfl (Nat.le_of_ble_eq_true rfl) rfl ?_
              refine zc_sL (ls1 := [some (.ref p), some (.int (y1 + v5)), some (.int (y2 + (1 : Int32)))]) rfl ?_
              refine zc_goto (pc := 35) 4 dX7_allWays_35 (by decide) ?_
              exact ih11 (y1 + v5) (y2 + (1 : Int32))
            · refine zc_if_eq (pc := 18) 29 dX7_allWays_18 (by decide) (fun _ => ?_) (fun _ => ?_)
              · refine zc_iconst (pc := 29) (0 : Int32) dX7_allWays_29 (by decide) ?_
                refine zc_drop 1 ?_
                exact J12 (0 : Int32)
              · refine zc_aload_n (pc := 21) dX7_allWays_21 rfl rfl ?_
                refine zc_iload_n (pc := 22) dX7_allWays_22 rfl rfl ?_
                refine zc_callIp (pc := 23) [.ref p, .int y2] rfl (zc_runV (ci := 7) (n0 := 0) (q := (RX7, TX7, 15)) zo_X7_wayToSource ⟨Nat.le_of_ble_eq_true rfl, Nat.le_of_ble_eq_true rfl⟩ zw_560 zw_473 zw_474 hp (by decide) rfl rfl dX7_allWays_23) (Nat.le_of_ble_eq_true rfl) (fun _ hr => zt_X7_wayToSource p hp y2 h hr) (fun r4 => ?_)
                refine zc_goto (pc := 26) 30 dX7_allWays_26 (by decide) ?_
                refine zc_drop 1 ?_
                exact J12 r4
    exact L10 zFU (0 : Int32) (0 : Int32)
def zl_X7_allHungry_4 (p : Nat) (h : zHp) : Nat → Int32 → Int32 → Option Int32
  | 0, _, _ => none
  | fu + 1, y1, y2 => (if (h.1 p 9) ≤ y2 then some y1 else (if zc_ix y2 7 then (((if (h.1 (p + 5) y2.toNatClampNeg) = 0 then some (1 : Int32) else some (0 : Int32)) : Option Int32).bind (fun v4 => zl_X7_allHungry_4 p h fu (y1 + v4) (y2 + (1 : Int32)))) else none))
def zf_X7_allHungry (p : Nat) (h : zHp) : Option Int32 :=
  ((zl_X7_allHungry_4 p h zFU (0 : Int32) (0 : Int32)).bind (fun v5 => some v5))
set_option maxRecDepth 100000 in
set_option maxHeartbeats 4000000 in
theorem zt_X7_allHungry (p : Nat) (hp : zc_lay[p]? = some (7, 0)) (h : zHp) {r : Int32} (hr : (zf_X7_allHungry p h) = some r) : zc_Cn zM_X7_allHungry [.ref p] h ((fun r => zc_mI (r, h)) r) := by
  refine zc_meth (mk := (fun r => zc_mI (r, h))) (o := (zf_X7_allHungry p h)) (by decide +kernel) (Nat.le_of_ble_eq_true rfl) ?_ hr
  unfold zf_X7_allHungry
  refine zc_sL (ls1 := [some (.ref p), none, none]) rfl ?_
  refine zc_iconst (pc := 0) (0 : Int32) dX7_allHungry_0 (by decide) ?_
  refine zc_istore_n (pc := 1) dX7_allHungry_1 rfl (Nat.le_of_ble_eq_true rfl) rfl (Nat.le_of_ble_eq_true rfl) ?_
  refine zc_sL (ls1 := [some (.ref p), some (.int (0 : Int32)), none]) rfl ?_
  refine zc_iconst (pc := 2) (0 : Int32) dX7_allHungry_2 (by decide) ?_
  refine zc_istore_n (pc := 3) dX7_allHungry_3 rfl (Nat.le_of_ble_eq_true rfl) rfl (Nat.le_of_ble_eq_true rfl) ?_
  refine zc_sL (ls1 := [some (.ref p), some (.int (0 : Int32)), some (.int (0 : Int32))]) rfl ?_
  refine zc_sL (ls1 := [some (.ref p), some (.int (0 : Int32)), some (.int (0 : Int32))]) rfl ?_
  refine zc_loop 35 (fun v5 => [none, some (.int v5), none]) (fun v5 => []) (fun v5 => h) (fun v5 => ?_) (fun k7 J6 => ?_)
  · refine zc_iload_n (pc := 35) dX7_allHungry_35 rfl rfl ?_
    exact zc_iretK (pc := 36) dX7_allHungry_36 rfl ⟨_, rfl, rfl⟩
  · have L9 : ∀ (fu : Nat) (y1 : Int32) (y2 : Int32), zc_G zM_X7_allHungry (fun r => zc_mI (r, h)) 4 [some (.ref p), some (.int y1), some (.int y2)] [] h ((zl_X7_allHungry_4 p h fu y1 y2).bind k7) := by
        intro fu
        induction fu with
        | zero => intros; exact zc_noneb
        | succ fu ih10 =>
          intro y1 y2
          unfold zl_X7_allHungry_4
          refine zc_iload_n (pc := 4) dX7_allHungry_4 rfl rfl ?_
          refine zc_aload_n (pc := 5) dX7_allHungry_5 rfl rfl ?_
          refine zc_getI (pc := 6) zF_X7_53 hp dX7_allHungry_6 ?_
          refine zc_icmp_ge (pc := 9) 35 dX7_allHungry_9 (by decide) (fun _ => ?_) (fun _ => ?_)
          · refine zc_drop 0 ?_
            refine zc_drop 2 ?_
            exact J6 y1
          · refine zc_iload_n (pc := 12) dX7_allHungry_12 rfl rfl ?_
            refine zc_aload_n (pc := 13) dX7_allHungry_13 rfl rfl ?_
            refine zc_getO (pc := 14) zF_X7_24 hp dX7_allHungry_14 ?_
            refine zc_iload_n (pc := 17) dX7_allHungry_17 rfl rfl ?_
            refine zc_guard (fun g3 => ?_)
            refine zc_aldi (pc := 18) (zs_p (j := 5) hp) g3 dX7_allHungry_18 ?_
            refine zc_join 27 (fun v4 => [some (.ref p), none, some (.int y2)]) (fun v4 => [.int v4, .int y1]) (fun v4 => h) (fun v4 => ?_) (fun J11 => ?_)
            · refine zc_iadd (pc := 27) dX7_allHungry_27 ?_
              refine zc_istore_n (pc := 28) dX7_allHungry_28 rfl (Nat.le_of_ble_eq_true rfl) rfl (Nat.le_of_ble_eq_true rfl) ?_
              refine zc_sL (ls1 := [some (.ref p), some (.int (y1 + v4)), some (.int y2)]) rfl ?_
              refine zc_iinc (pc := 29) (1 : Int32) dX7_allHungry_29 (by decide) rfl (Nat.le_of_ble_eq_true rfl) rfl ?_
              refine zc_sL (ls1 := [some (.ref p), some (.int (y1 + v4)), some (.int (y2 + (1 : Int32)))]) rfl ?_
              refine zc_goto (pc := 32) 4 dX7_allHungry_32 (by decide) ?_
              exact ih10 (y1 + v4) (y2 + (1 : Int32))
            · refine zc_if_ne (pc := 19) 26 dX7_allHungry_19 (by decide) (fun _ => ?_) (fun _ => ?_)
              · refine zc_iconst (pc := 22) (1 : Int32) dX7_allHungry_22 (by decide) ?_
                refine zc_goto (pc := 23) 27 dX7_allHungry_23 (by decide) ?_
                refine zc_drop 1 ?_
                exact J11 (1 : Int32)
              · refine zc_iconst (pc := 26) (0 : Int32) dX7_allHungry_26 (by decide) ?_
                refine zc_drop 1 ?_
                exact J11 (0 : Int32)
    exact L9 zFU (0 : Int32) (0 : Int32)
def zl_X7_firstHungry_2 (p : Nat) (h : zHp) : Nat → Int32 → Option (Int32 ⊕ Unit)
  | 0, _ => none
  | fu + 1, y1 => (if (h.1 p 9) ≤ y1 then some (Sum.inr ()) else (if zc_ix y1 7 then (if (h.1 (p + 5) y1.toNatClampNeg) = 0 then some (Sum.inl y1) else zl_X7_firstHungry_2 p h fu (y1 + (1 : Int32))) else none))
def zf_X7_firstHungry (p : Nat) (h : zHp) : Option Int32 :=
  ((zl_X7_firstHungry_2 p h zFU (0 : Int32)).bind (Sum.elim (fun r => some r) (fun v3 => some (-4 : Int32))))
set_option maxRecDepth 100000 in
set_option maxHeartbeats 4000000 in
theorem zt_X7_firstHungry (p : Nat) (hp : zc_lay[p]? = some (7, 0)) (h : zHp) {r : Int32} (hr : (zf_X7_firstHungry p h) = some r) : zc_Cn zM_X7_firstHungry [.ref p] h ((fun r => zc_mI (r, h)) r) := by
  refine zc_meth (mk := (fun r => zc_mI (r, h))) (o := (zf_X7_firstHungry p h)) (by decide +kernel) (Nat.le_of_ble_eq_true rfl) ?_ hr
  unfold zf_X7_firstHungry
  refine zc_sL (ls1 := [some (.ref p), none]) rfl ?_
  refine zc_iconst (pc := 0) (0 : Int32) dX7_firstHungry_0 (by decide) ?_
  refine zc_istore_n (pc := 1) dX7_firstHungry_1 rfl (Nat.le_of_ble_eq_true rfl) rfl (Nat.le_of_ble_eq_true rfl) ?_
  refine zc_sL (ls1 := [some (.ref p), some (.int (0 : Int32))]) rfl ?_
  refine zc_sL (ls1 := [some (.ref p), some (.int (0 : Int32))]) rfl ?_
  refine zc_loopS (fun r => zc_mI (r, h)) 27 (fun v3 => [none, none]) (fun v3 => []) (fun v3 => h) (fun v3 => ?_) (fun z => ⟨_, rfl, rfl⟩) (fun k5 J4 K6 => ?_)
  · refine zc_bipush (pc := 27) (-4 : Int32) dX7_firstHungry_27 (by decide) ?_
    exact zc_iretK (pc := 29) dX7_firstHungry_29 rfl ⟨_, rfl, rfl⟩
  · have L7 : ∀ (fu : Nat) (y1 : Int32), zc_G zM_X7_firstHungry (fun r => zc_mI (r, h)) 2 [some (.ref p), some (.int y1)] [] h ((zl_X7_firstHungry_2 p h fu y1).bind k5) := by
        intro fu
        induction fu with
        | zero => intros; exact zc_noneb
        | succ fu ih8 =>
          intro y1
          unfold zl_X7_firstHungry_2
          refine zc_iload_n (pc := 2) dX7_firstHungry_2 rfl rfl ?_
          refine zc_aload_n (pc := 3) dX7_firstHungry_3 rfl rfl ?_
          refine zc_getI (pc := 4) zF_X7_53 hp dX7_firstHungry_4 ?_
          refine zc_icmp_ge (pc := 7) 27 dX7_firstHungry_7 (by decide) (fun _ => ?_) (fun _ => ?_)
          · refine zc_drop 0 ?_
            refine zc_drop 1 ?_
            exact J4 ()
          · refine zc_aload_n (pc := 10) dX7_firstHungry_10 rfl rfl ?_
            refine zc_getO (pc := 11) zF_X7_24 hp dX7_firstHungry_11 ?_
            refine zc_iload_n (pc := 14) dX7_firstHungry_14 rfl rfl ?_
            refine zc_guard (fun g2 => ?_)
            refine zc_aldi (pc := 15) (zs_p (j := 5) hp) g2 dX7_firstHungry_15 ?_
            refine zc_if_ne (pc := 16) 21 dX7_firstHungry_16 (by decide) (fun _ => ?_) (fun _ => ?_)
            · refine zc_iload_n (pc := 19) dX7_firstHungry_19 rfl rfl ?_
              exact zc_iretK (pc := 20) dX7_firstHungry_20 rfl (K6 _)
            · refine zc_iinc (pc := 21) (1 : Int32) dX7_firstHungry_21 (by decide) rfl (Nat.le_of_ble_eq_true rfl) rfl ?_
              refine zc_sL (ls1 := [some (.ref p), some (.int (y1 + (1 : Int32)))]) rfl ?_
              refine zc_goto (pc := 24) 2 dX7_firstHungry_24 (by decide) ?_
              exact ih8 (y1 + (1 : Int32))
    exact L7 zFU (0 : Int32)
def zl_X7_lengthOfChain_9 (p : Nat) (h : zHp) : Nat → Int32 → Int32 → Int32 → Option Int32
  | 0, _, _, _ => none
  | fu + 1, y2, y3, y4 => (if (h.1 p 9) ≤ y3 then some y3 else ((zf_X7_hasSource p y4 h).bind (fun r5 => (if r5 = 0 then some y3 else (if zc_ix y4 7 then (if ((y2 >>> ((h.1 (p + 4) y4.toNatClampNeg) &&& 31)) &&& (1 : Int32)) = 0 then (if zc_ix y4 7 then ((some (h.1 (p + 4) y4.toNatClampNeg) : Option Int32).bind (fun v8 => ((some (y2 ||| ((1 : Int32) <<< (v8 &&& 31))) : Option Int32).bind (fun v9 => zl_X7_lengthOfChain_9 p h fu v9 (y3 + (1 : Int32)) v8)))) else none) else some y3) else none)))))
def zf_X7_lengthOfChain (p : Nat) (x1 : Int32) (h : zHp) : Option Int32 :=
  ((some ((1 : Int32) <<< (x1 &&& 31)) : Option Int32).bind (fun v1 => ((zl_X7_lengthOfChain_9 p h zFU v1 (1 : Int32) x1).bind (fun v10 => some v10))))
set_option maxRecDepth 100000 in
set_option maxHeartbeats 4000000 in
theorem zt_X7_lengthOfChain (p : Nat) (hp : zc_lay[p]? = some (7, 0)) (x1 : Int32) (h : zHp) {r : Int32} (hr : (zf_X7_lengthOfChain p x1 h) = some r) : zc_Cn zM_X7_lengthOfChain [.ref p, .int x1] h ((fun r => zc_mI (r, h)) r) := by
  refine zc_meth (mk := (fun r => zc_mI (r, h))) (o := (zf_X7_lengthOfChain p x1 h)) (by decide +kernel) (Nat.le_of_ble_eq_true rfl) ?_ hr
  unfold zf_X7_lengthOfChain
  refine zc_sL (ls1 := [some (.ref p), some (.int x1), none, none, none]) rfl ?_
  refine zc_iconst (pc := 0) (1 : Int32) dX7_lengthOfChain_0 (by decide) ?_
  refine zc_iload_n (pc := 1) dX7_lengthOfChain_1 rfl rfl ?_
  refine zc_ishl (pc := 2) dX7_lengthOfChain_2 ?_
  refine zc_letI (fun v1 _ => ?_)
  refine zc_istore_n (pc := 3) dX7_lengthOfChain_3 rfl (Nat.le_of_ble_eq_true rfl) rfl (Nat.le_of_ble_eq_true rfl) ?_
  refine zc_sL (ls1 := [some (.ref p), some (.int x1), some (.int v1), none, none]) rfl ?_
  refine zc_iconst (pc := 4) (1 : Int32) dX7_lengthOfChain_4 (by decide) ?_
  refine zc_istore_n (pc := 5) dX7_lengthOfChain_5 rfl (Nat.le_of_ble_eq_true rfl) rfl (Nat.le_of_ble_eq_true rfl) ?_
  refine zc_sL (ls1 := [some (.ref p), some (.int x1), some (.int v1), some (.int (1 : Int32)), none]) rfl ?_
  refine zc_iload_n (pc := 6) dX7_lengthOfChain_6 rfl rfl ?_
  refine zc_istore (pc := 7) dX7_lengthOfChain_7 (Nat.le_of_ble_eq_true rfl) rfl (Nat.le_of_ble_eq_true rfl) ?_
  refine zc_sL (ls1 := [some (.ref p), some (.int x1), some (.int v1), some (.int (1 : Int32)), some (.int x1)]) rfl ?_
  refine zc_drop 1 ?_
  refine zc_sL (ls1 := [some (.ref p), none, some (.int v1), some (.int (1 : Int32)), some (.int x1)]) rfl ?_
  refine zc_loop 62 (fun v10 => [none, none, none, some (.int v10), none]) (fun v10 => []) (fun v10 => h) (fun v10 => ?_) (fun k12 J11 => ?_)
  · refine zc_iload_n (pc := 62) dX7_lengthOfChain_62 rfl rfl ?_
    exact zc_iretK (pc := 63) dX7_lengthOfChain_63 rfl ⟨_, rfl, rfl⟩
  · have L14 : ∀ (fu : Nat) (y2 : Int32) (y3 : Int32) (y4 : Int32), zc_G zM_X7_lengthOfChain (fun r => zc_mI (r, h)) 9 [some (.ref p), none, some (.int y2), some (.int y3), some (.int y4)] [] h ((zl_X7_lengthOfChain_9 p h fu y2 y3 y4).bind k12) := by
        intro fu
        induction fu with
        | zero => intros; exact zc_noneb
        | succ fu ih15 =>
          intro y2 y3 y4
          unfold zl_X7_lengthOfChain_9
          refine zc_iload_n (pc := 9) dX7_lengthOfChain_9 rfl rfl ?_
          refine zc_aload_n (pc := 10) dX7_lengthOfChain_10 rfl rfl ?_
          refine zc_getI (pc := 11) zF_X7_53 hp dX7_lengthOfChain_11 ?_
          refine zc_icmp_ge (pc := 14) 62 dX7_lengthOfChain_14 (by decide) (fun _ => ?_) (fun _ => ?_)
          · refine zc_drop 0 ?_
            refine zc_drop 2 ?_
            refine zc_drop 4 ?_
            exact J11 y3
          · refine zc_aload_n (pc := 17) dX7_lengthOfChain_17 rfl rfl ?_
            refine zc_iload (pc := 18) dX7_lengthOfChain_18 rfl ?_
            refine zc_callIp (pc := 20) [.ref p, .int y4] rfl (zc_runV (ci := 7) (n0 := 0) (q := (RX7, TX7, 15)) zo_X7_hasSource ⟨Nat.le_of_ble_eq_true rfl, Nat.le_of_ble_eq_true rfl⟩ zw_402 zw_403 zw_404 hp (by decide) rfl rfl dX7_lengthOfChain_20) (Nat.le_of_ble_eq_true rfl) (fun _ hr => zt_X7_hasSource p hp y4 h hr) (fun r5 => ?_)
            refine zc_if_eq (pc := 23) 62 dX7_lengthOfChain_23 (by decide) (fun _ => ?_) (fun _ => ?_)
            · refine zc_drop 0 ?_
              refine zc_drop 2 ?_
              refine zc_drop 4 ?_
              exact J11 y3
            · refine zc_iload_n (pc := 26) dX7_lengthOfChain_26 rfl rfl ?_
              refine zc_aload_n (pc := 27) dX7_lengthOfChain_27 rfl rfl ?_
              refine zc_getO (pc := 28) zF_X7_21 hp dX7_lengthOfChain_28 ?_
              refine zc_iload (pc := 31) dX7_lengthOfChain_31 rfl ?_
              refine zc_guard (fun g6 => ?_)
              refine zc_aldi (pc := 33) (zs_p (j := 4) hp) g6 dX7_lengthOfChain_33 ?_
              refine zc_ishr (pc := 34) dX7_lengthOfChain_34 ?_
              refine zc_iconst (pc := 35) (1 : Int32) dX7_lengthOfChain_35 (by decide) ?_
              refine zc_iand (pc := 36) dX7_lengthOfChain_36 ?_
              refine zc_if_ne (pc := 37) 62 dX7_lengthOfChain_37 (by decide) (fun _ => ?_) (fun _ => ?_)
              · refine zc_aload_n (pc := 40) dX7_lengthOfChain_40 rfl rfl ?_
                refine zc_getO (pc := 41) zF_X7_21 hp dX7_lengthOfChain_41 ?_
                refine zc_iload (pc := 44) dX7_lengthOfChain_44 rfl ?_
                refine zc_guard (fun g7 => ?_)
                refine zc_aldi (pc := 46) (zs_p (j := 4) hp) g7 dX7_lengthOfChain_46 ?_
                refine zc_letI (fun v8 _ => ?_)
                refine zc_istore (pc := 47) dX7_lengthOfChain_47 (Nat.le_of_ble_eq_true rfl) rfl (Nat.le_of_ble_eq_true rfl) ?_
                refine zc_sL (ls1 := [some (.ref p), none, some (.int y2), some (.int y3), some (.int v8)]) rfl ?_
                refine zc_iload_n (pc := 49) dX7_lengthOfChain_49 rfl rfl ?_
                refine zc_iconst (pc := 50) (1 : Int32) dX7_lengthOfChain_50 (by decide) ?_
                refine zc_iload (pc := 51) dX7_lengthOfChain_51 rfl ?_
                refine zc_ishl (pc := 53) dX7_lengthOfChain_53 ?_
                refine zc_ior (pc := 54) dX7_lengthOfChain_54 ?_
                refine zc_letI (fun v9 _ => ?_)
                refine zc_istore_n (pc := 55) dX7_lengthOfChain_55 rfl (Nat.le_of_ble_eq_true rfl) rfl (Nat.le_of_ble_eq_true rfl) ?_
                refine zc_sL (ls1 := [some (.ref p), none, some (.int v9), some (.int y3), some (.int v8)]) rfl ?_
                refine zc_iinc (pc := 56) (1 : Int32) dX7_lengthOfChain_56 (by decide) rfl (Nat.le_of_ble_eq_true rfl) rfl ?_
                refine zc_sL (ls1 := [some (.ref p), none, some (.int v9), some (.int (y3 + (1 : Int32))), some (.int v8)]) rfl ?_
                refine zc_goto (pc := 59) 9 dX7_lengthOfChain_59 (by decide) ?_
                exact ih15 v9 (y3 + (1 : Int32)) v8
              · refine zc_drop 0 ?_
                refine zc_drop 2 ?_
                refine zc_drop 4 ?_
                exact J11 y3
    exact L14 zFU v1 (1 : Int32) x1

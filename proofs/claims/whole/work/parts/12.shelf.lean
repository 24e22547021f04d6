def zf_X8_holdKind (q : Nat) (x1 : Int32) (x2 : Int32) (h : zHp) : Option zHp :=
  ((some (zc_ui h q 0 (1 : Int32)) : Option zHp).bind (fun h1 => ((some (zc_ui h1 q 1 x1) : Option zHp).bind (fun h2 => ((some (zc_ui h2 q 2 x2) : Option zHp).bind (fun h3 => some h3))))))
set_option maxRecDepth 100000 in
set_option maxHeartbeats 4000000 in
theorem zt_X8_holdKind (q : Nat) (hq : zc_lay[q]? = some (8, 0)) (x1 : Int32) (x2 : Int32) (h : zHp) {r : zHp} (hr : (zf_X8_holdKind q x1 x2 h) = some r) : zc_Cn zM_X8_holdKind [.ref q, .int x1, .int x2] h (zc_mV r) := by
  refine zc_meth (mk := zc_mV) (o := (zf_X8_holdKind q x1 x2 h)) (by decide +kernel) (Nat.le_of_ble_eq_true rfl) ?_ hr
  unfold zf_X8_holdKind
  refine zc_sL (ls1 := [some (.ref q), some (.int x1), some (.int x2)]) rfl ?_
  refine zc_aload_n (pc := 0) dX8_holdKind_0 rfl rfl ?_
  refine zc_iconst (pc := 1) (1 : Int32) dX8_holdKind_1 (by decide) ?_
  refine zc_putI (pc := 2) zF_X8_11 hq dX8_holdKind_2 ?_
  refine zc_letH (fun h1 _ => ?_)
  refine zc_aload_n (pc := 5) dX8_holdKind_5 rfl rfl ?_
  refine zc_iload_n (pc := 6) dX8_holdKind_6 rfl rfl ?_
  refine zc_putI (pc := 7) zF_X8_19 hq dX8_holdKind_7 ?_
  refine zc_letH (fun h2 _ => ?_)
  refine zc_aload_n (pc := 10) dX8_holdKind_10 rfl rfl ?_
  refine zc_iload_n (pc := 11) dX8_holdKind_11 rfl rfl ?_
  refine zc_putI (pc := 12) zF_X8_22 hq dX8_holdKind_12 ?_
  refine zc_letH (fun h3 _ => ?_)
  exact zc_vretK (pc := 15) dX8_holdKind_15 rfl ⟨_, rfl, rfl⟩
def zf_X8_holdRow (q : Nat) (x1 : Int32) (x2 : Int32) (h : zHp) : Option zHp :=
  ((some (zc_ui h q 0 (2 : Int32)) : Option zHp).bind (fun h1 => ((some (zc_ui h1 q 3 x1) : Option zHp).bind (fun h2 => ((some (zc_ui h2 q 4 x2) : Option zHp).bind (fun h3 => ((zf_J7_fill_53178 (q + 1) 100 (0 : Int32) h3).bind (fun r4 => some r4))))))))
set_option maxRecDepth 100000 in
set_option maxHeartbeats 4000000 in
theorem zt_X8_holdRow (q : Nat) (hq : zc_lay[q]? = some (8, 0)) (x1 : Int32) (x2 : Int32) (h : zHp) {r : zHp} (hr : (zf_X8_holdRow q x1 x2 h) = some r) : zc_Cn zM_X8_holdRow [.ref q, .int x1, .int x2] h (zc_mV r) := by
  refine zc_meth (mk := zc_mV) (o := (zf_X8_holdRow q x1 x2 h)) (by decide +kernel) (Nat.le_of_ble_eq_true rfl) ?_ hr
  unfold zf_X8_holdRow
  refine zc_sL (ls1 := [some (.ref q), some (.int x1), some (.int x2)]) rfl ?_
  refine zc_aload_n (pc := 0) dX8_holdRow_0 rfl rfl ?_
  refine zc_iconst (pc := 1) (2 : Int32) dX8_holdRow_1 (by decide) ?_
  refine zc_putI (pc := 2) zF_X8_11 hq dX8_holdRow_2 ?_
  refine zc_letH (fun h1 _ => ?_)
  refine zc_aload_n (pc := 5) dX8_holdRow_5 rfl rfl ?_
  refine zc_iload_n (pc := 6) dX8_holdRow_6 rfl rfl ?_
  refine zc_putI (pc := 7) zF_X8_25 hq dX8_holdRow_7 ?_
  refine zc_letH (fun h2 _ => ?_)
  refine zc_aload_n (pc := 10) dX8_holdRow_10 rfl rfl ?_
  refine zc_iload_n (pc := 11) dX8_holdRow_11 rfl rfl ?_
  refine zc_putI (pc := 12) zF_X8_28 hq dX8_holdRow_12 ?_
  refine zc_letH (fun h3 _ => ?_)
  refine zc_aload_n (pc := 15) dX8_holdRow_15 rfl rfl ?_
  refine zc_getO (pc := 16) zF_X8_15 hq dX8_holdRow_16 ?_
  refine zc_iconst (pc := 19) (0 : Int32) dX8_holdRow_19 (by decide) ?_
  refine zc_callV (pc := 20) [.ref (q + 1), .int (0 : Int32)] rfl (zc_runS zo_J7_fill_53178 ⟨Nat.le_of_ble_eq_true rfl, Nat.le_of_ble_eq_true rfl⟩ zw_754 zw_755 rfl dX8_holdRow_20) (Nat.le_of_ble_eq_true rfl) (fun _ hr => zt_J7_fill_53178 (q + 1) 100 (zs_q hq) (0 : Int32) h3 hr) (fun r4 => ?_)
  exact zc_vretK (pc := 23) dX8_holdRow_23 rfl ⟨_, rfl, rfl⟩
def zf_X8_hasPlaces (q : Nat) (x1 : Int32) (x2 : Int32) (h : zHp) : Option Int32 :=
  (if x1 < 0 then some (0 : Int32) else (if x2 < 0 then some (0 : Int32) else (if (h.1 q 4) < x1 then some (0 : Int32) else (if ((h.1 q 4) - x1) < x2 then some (0 : Int32) else some (1 : Int32)))))
set_option maxRecDepth 100000 in
set_option maxHeartbeats 4000000 in
theorem zt_X8_hasPlaces (q : Nat) (hq : zc_lay[q]? = some (8, 0)) (x1 : Int32) (x2 : Int32) (h : zHp) {r : Int32} (hr : (zf_X8_hasPlaces q x1 x2 h) = some r) : zc_Cn zM_X8_hasPlaces [.ref q, .int x1, .int x2] h ((fun r => zc_mI (r, h)) r) := by
  refine zc_meth (mk := (fun r => zc_mI (r, h))) (o := (zf_X8_hasPlaces q x1 x2 h)) (by decide +kernel) (Nat.le_of_ble_eq_true rfl) ?_ hr
  unfold zf_X8_hasPlaces
  refine zc_sL (ls1 := [some (.ref q), some (.int x1), some (.int x2)]) rfl ?_
  refine zc_iload_n (pc := 0) dX8_hasPlaces_0 rfl rfl ?_
  refine zc_if_lt (pc := 1) 30 dX8_hasPlaces_1 (by decide) (fun _ => ?_) (fun _ => ?_)
  · refine zc_iconst (pc := 30) (0 : Int32) dX8_hasPlaces_30 (by decide) ?_
    exact zc_zretK (pc := 31) dX8_hasPlaces_31 rfl (by decide) ⟨_, rfl, rfl⟩
  · refine zc_iload_n (pc := 4) dX8_hasPlaces_4 rfl rfl ?_
    refine zc_if_lt (pc := 5) 30 dX8_hasPlaces_5 (by decide) (fun _ => ?_) (fun _ => ?_)
    · refine zc_iconst (pc := 30) (0 : Int32) dX8_hasPlaces_30 (by decide) ?_
      exact zc_zretK (pc := 31) dX8_hasPlaces_31 rfl (by decide) ⟨_, rfl, rfl⟩
    · refine zc_iload_n (pc := 8) dX8_hasPlaces_8 rfl rfl ?_
      refine zc_aload_n (pc := 9) dX8_hasPlaces_9 rfl rfl ?_
      refine zc_getI (pc := 10) zF_X8_28 hq dX8_hasPlaces_10 ?_
      refine zc_icmp_gt (pc := 13) 30 dX8_hasPlaces_13 (by decide) (fun _ => ?_) (fun _ => ?_)
      · refine zc_iconst (pc := 30) (0 : Int32) dX8_hasPlaces_30 (by decide) ?_
        exact zc_zretK (pc := 31) dX8_hasPlaces_31 rfl (by decide) ⟨_, rfl, rfl⟩
      · refine zc_iload_n (pc := 16) dX8_hasPlaces_16 rfl rfl ?_
        refine zc_aload_n (pc := 17) dX8_hasPlaces_17 rfl rfl ?_
        refine zc_getI (pc := 18) zF_X8_28 hq dX8_hasPlaces_18 ?_
        refine zc_iload_n (pc := 21) dX8_hasPlaces_21 rfl rfl ?_
        refine zc_isub (pc := 22) dX8_hasPlaces_22 ?_
        refine zc_icmp_gt (pc := 23) 30 dX8_hasPlaces_23 (by decide) (fun _ => ?_) (fun _ => ?_)
        · refine zc_iconst (pc := 30) (0 : Int32) dX8_hasPlaces_30 (by decide) ?_
          exact zc_zretK (pc := 31) dX8_hasPlaces_31 rfl (by decide) ⟨_, rfl, rfl⟩
        · refine zc_iconst (pc := 26) (1 : Int32) dX8_hasPlaces_26 (by decide) ?_
          refine zc_goto (pc := 27) 31 dX8_hasPlaces_27 (by decide) ?_
          exact zc_zretK (pc := 31) dX8_hasPlaces_31 rfl (by decide) ⟨_, rfl, rfl⟩
def zf_X8_set (q : Nat) (x1 : Int32) (x2 : Int32) (h : zHp) : Option zHp :=
  (if (h.1 q 3) = (0 : Int32) then (if zc_ix x1 100 then ((some (zc_ui h (q + 1) x1.toNatClampNeg x2.toInt8.toInt32) : Option zHp).bind (fun h2 => some h2)) else none) else (if (h.1 q 3) = (1 : Int32) then (if zc_ix x1 100 then ((some (zc_ui h (q + 1) x1.toNatClampNeg x2.toInt16.toInt32) : Option zHp).bind (fun h4 => some h4)) else none) else (if zc_ix x1 100 then ((some (zc_ui h (q + 1) x1.toNatClampNeg x2) : Option zHp).bind (fun h6 => some h6)) else none)))
set_option maxRecDepth 100000 in
set_option maxHeartbeats 4000000 in
theorem zt_X8_set (q : Nat) (hq : zc_lay[q]? = some (8, 0)) (x1 : Int32) (x2 : Int32) (h : zHp) {r : zHp} (hr : (zf_X8_set q x1 x2 h) = some r) : zc_Cn zM_X8_set [.ref q, .int x1, .int x2] h (zc_mV r) := by
  refine zc_meth (mk := zc_mV) (o := (zf_X8_set q x1 x2 h)) (by decide +kernel) (Nat.le_of_ble_eq_true rfl) ?_ hr
  unfold zf_X8_set
  refine zc_sL (ls1 := [some (.ref q), some (.int x1), some (.int x2)]) rfl ?_
  refine zc_aload_n (pc := 0) dX8_set_0 rfl rfl ?_
  refine zc_getI (pc := 1) zF_X8_25 hq dX8_set_1 ?_
  refine zc_sw (fun s7 => ?_) (fun s7 => ?_)
  · refine zc_lsw (pc := 4) 32 dX8_set_4 (by decide) (by rw [s7]) (by decide) ?_
    refine zc_aload_n (pc := 32) dX8_set_32 rfl rfl ?_
    refine zc_getO (pc := 33) zF_X8_15 hq dX8_set_33 ?_
    refine zc_iload_n (pc := 36) dX8_set_36 rfl rfl ?_
    refine zc_iload_n (pc := 37) dX8_set_37 rfl rfl ?_
    refine zc_i2b (pc := 38) dX8_set_38 ?_
    refine zc_guard (fun g1 => ?_)
    refine zc_asti (pc := 39) (zs_q hq) g1 dX8_set_39 ?_
    refine zc_letH (fun h2 _ => ?_)
    refine zc_goto (pc := 40) 61 dX8_set_40 (by decide) ?_
    exact zc_vretK (pc := 61) dX8_set_61 rfl ⟨_, rfl, rfl⟩
  refine zc_sw (fun s8 => ?_) (fun s8 => ?_)
  · refine zc_lsw (pc := 4) 43 dX8_set_4 (by decide) (by rw [s8]) (by decide) ?_
    refine zc_aload_n (pc := 43) dX8_set_43 rfl rfl ?_
    refine zc_getO (pc := 44) zF_X8_15 hq dX8_set_44 ?_
    refine zc_iload_n (pc := 47) dX8_set_47 rfl rfl ?_
    refine zc_iload_n (pc := 48) dX8_set_48 rfl rfl ?_
    refine zc_i2s (pc := 49) dX8_set_49 ?_
    refine zc_guard (fun g3 => ?_)
    refine zc_asti (pc := 50) (zs_q hq) g3 dX8_set_50 ?_
    refine zc_letH (fun h4 _ => ?_)
    refine zc_goto (pc := 51) 61 dX8_set_51 (by decide) ?_
    exact zc_vretK (pc := 61) dX8_set_61 rfl ⟨_, rfl, rfl⟩
  refine zc_lsw (pc := 4) 54 dX8_set_4 (by decide) (off := 50) ((lv_osw s7 (by decide)).trans ((lv_osw s8 (by decide)).trans rfl)) (by decide) ?_
  refine zc_aload_n (pc := 54) dX8_set_54 rfl rfl ?_
  refine zc_getO (pc := 55) zF_X8_15 hq dX8_set_55 ?_
  refine zc_iload_n (pc := 58) dX8_set_58 rfl rfl ?_
  refine zc_iload_n (pc := 59) dX8_set_59 rfl rfl ?_
  refine zc_guard (fun g5 => ?_)
  refine zc_asti (pc := 60) (zs_q hq) g5 dX8_set_60 ?_
  refine zc_letH (fun h6 _ => ?_)
  exact zc_vretK (pc := 61) dX8_set_61 rfl ⟨_, rfl, rfl⟩
def zf_X8_isSkipped (q : Nat) (x1 : Int32) (h : zHp) : Option Int32 :=
  (if (h.1 q 3) = (0 : Int32) then (if zc_ix x1 100 then (if (h.1 (q + 1) x1.toNatClampNeg) = (-128 : Int32) then some (1 : Int32) else some (0 : Int32)) else none) else (if (h.1 q 3) = (1 : Int32) then (if zc_ix x1 100 then (if (h.1 (q + 1) x1.toNatClampNeg) = (-32768 : Int32) then some (1 : Int32) else some (0 : Int32)) else none) else (if zc_ix x1 100 then (if (h.1 (q + 1) x1.toNatClampNeg) = (-2147483648 : Int32) then some (1 : Int32) else some (0 : Int32)) else none)))
set_option maxRecDepth 100000 in
set_option maxHeartbeats 4000000 in
theorem zt_X8_isSkipped (q : Nat) (hq : zc_lay[q]? = some (8, 0)) (x1 : Int32) (h : zHp) {r : Int32} (hr : (zf_X8_isSkipped q x1 h) = some r) : zc_Cn zM_X8_isSkipped [.ref q, .int x1] h ((fun r => zc_mI (r, h)) r) := by
  refine zc_meth (mk := (fun r => zc_mI (r, h))) (o := (zf_X8_isSkipped q x1 h)) (by decide +kernel) (Nat.le_of_ble_eq_true rfl) ?_ hr
  unfold zf_X8_isSkipped
  refine zc_sL (ls1 := [some (.ref q), some (.int x1)]) rfl ?_
  refine zc_aload_n (pc := 0) dX8_isSkipped_0 rfl rfl ?_
  refine zc_getI (pc := 1) zF_X8_25 hq dX8_isSkipped_1 ?_
  refine zc_sw (fun s4 => ?_) (fun s4 => ?_)
  · refine zc_lsw (pc := 4) 32 dX8_isSkipped_4 (by decide) (by rw [s4]) (by decide) ?_
    refine zc_aload_n (pc := 32) dX8_isSkipped_32 rfl rfl ?_
    refine zc_getO (pc := 33) zF_X8_15 hq dX8_isSkipped_33 ?_
    refine zc_iload_n (pc := 36) dX8_isSkipped_36 rfl rfl ?_
    refine zc_guard (fun g1 => ?_)
    refine zc_aldi (pc := 37) (zs_q hq) g1 dX8_isSkipped_37 ?_
    refine zc_bipush (pc := 38) (-128 : Int32) dX8_isSkipped_38 (by decide) ?_
    refine zc_icmp_ne (pc := 40) 47 dX8_isSkipped_40 (by decide) (fun _ => ?_) (fun _ => ?_)
    · refine zc_iconst (pc := 43) (1 : Int32) dX8_isSkipped_43 (by decide) ?_
      refine zc_goto (pc := 44) 48 dX8_isSkipped_44 (by decide) ?_
      exact zc_zretK (pc := 48) dX8_isSkipped_48 rfl (by decide) ⟨_, rfl, rfl⟩
    · refine zc_iconst (pc := 47) (0 : Int32) dX8_isSkipped_47 (by decide) ?_
      exact zc_zretK (pc := 48) dX8_isSkipped_48 rfl (by decide) ⟨_, rfl, rfl⟩
  refine zc_sw (fun s5 => ?_) (fun s5 => ?_)
  · refine zc_lsw (pc := 4) 49 dX8_isSkipped_4 (by decide) (by rw [s5]) (by decide) ?_
    refine zc_aload_n (pc := 49) dX8_isSkipped_49 rfl rfl ?_
    refine zc_getO (pc := 50) zF_X8_15 hq dX8_isSkipped_50 ?_
    refine zc_iload_n (pc := 53) dX8_isSkipped_53 rfl rfl ?_
    refine zc_guard (fun g2 => ?_)
    refine zc_aldi (pc := 54) (zs_q hq) g2 dX8_isSkipped_54 ?_
    refine zc_sipush (pc := 55) (-32768 : Int32) dX8_isSkipped_55 (by decide) ?_
    refine zc_icmp_ne (pc := 58) 65 dX8_isSkipped_58 (by decide) (fun _ => ?_) (fun _ => ?_)
    · refine zc_iconst (pc := 61) (1 : Int32) dX8_isSkipped_61 (by decide) ?_
      refine zc_goto (pc := 62) 66 dX8_isSkipped_62 (by decide) ?_
      exact zc_zretK (pc := 66) dX8_isSkipped_66 rfl (by decide) ⟨_, rfl, rfl⟩
    · refine zc_iconst (pc := 65) (0 : Int32) dX8_isSkipped_65 (by decide) ?_
      exact zc_zretK (pc := 66) dX8_isSkipped_66 rfl (by decide) ⟨_, rfl, rfl⟩
  refine zc_lsw (pc := 4) 67 dX8_isSkipped_4 (by decide) (off := 63) ((lv_osw s4 (by decide)).trans ((lv_osw s5 (by decide)).trans rfl)) (by decide) ?_
  refine zc_aload_n (pc := 67) dX8_isSkipped_67 rfl rfl ?_
  refine zc_getO (pc := 68) zF_X8_15 hq dX8_isSkipped_68 ?_
  refine zc_iload_n (pc := 71) dX8_isSkipped_71 rfl rfl ?_
  refine zc_guard (fun g3 => ?_)
  refine zc_aldi (pc := 72) (zs_q hq) g3 dX8_isSkipped_72 ?_
  refine zc_ldc (pc := 73) dX8_isSkipped_73 zw_661 ?_
  refine zc_icmp_ne (pc := 75) 82 dX8_isSkipped_75 (by decide) (fun _ => ?_) (fun _ => ?_)
  · refine zc_iconst (pc := 78) (1 : Int32) dX8_isSkipped_78 (by decide) ?_
    refine zc_goto (pc := 79) 83 dX8_isSkipped_79 (by decide) ?_
    exact zc_zretK (pc := 83) dX8_isSkipped_83 rfl (by decide) ⟨_, rfl, rfl⟩
  · refine zc_iconst (pc := 82) (0 : Int32) dX8_isSkipped_82 (by decide) ?_
    exact zc_zretK (pc := 83) dX8_isSkipped_83 rfl (by decide) ⟨_, rfl, rfl⟩
def zf_X8_digit (q : Nat) (x1 : Int32) (h : zHp) : Option Int32 :=
  (if (h.1 q 4) ≤ x1 then some (-1 : Int32) else (if zc_ix x1 100 then some ((h.1 (q + 1) x1.toNatClampNeg) - (48 : Int32)) else none))
set_option maxRecDepth 100000 in
set_option maxHeartbeats 4000000 in
theorem zt_X8_digit (q : Nat) (hq : zc_lay[q]? = some (8, 0)) (x1 : Int32) (h : zHp) {r : Int32} (hr : (zf_X8_digit q x1 h) = some r) : zc_Cn zM_X8_digit [.ref q, .int x1] h ((fun r => zc_mI (r, h)) r) := by
  refine zc_meth (mk := (fun r => zc_mI (r, h))) (o := (zf_X8_digit q x1 h)) (by decide +kernel) (Nat.le_of_ble_eq_true rfl) ?_ hr
  unfold zf_X8_digit
  refine zc_sL (ls1 := [some (.ref q), some (.int x1)]) rfl ?_
  refine zc_iload_n (pc := 0) dX8_digit_0 rfl rfl ?_
  refine zc_aload_n (pc := 1) dX8_digit_1 rfl rfl ?_
  refine zc_getI (pc := 2) zF_X8_28 hq dX8_digit_2 ?_
  refine zc_icmp_ge (pc := 5) 20 dX8_digit_5 (by decide) (fun _ => ?_) (fun _ => ?_)
  · refine zc_iconst (pc := 20) (-1 : Int32) dX8_digit_20 (by decide) ?_
    exact zc_iretK (pc := 21) dX8_digit_21 rfl ⟨_, rfl, rfl⟩
  · refine zc_aload_n (pc := 8) dX8_digit_8 rfl rfl ?_
    refine zc_getO (pc := 9) zF_X8_15 hq dX8_digit_9 ?_
    refine zc_iload_n (pc := 12) dX8_digit_12 rfl rfl ?_
    refine zc_guard (fun g1 => ?_)
    refine zc_aldi (pc := 13) (zs_q hq) g1 dX8_digit_13 ?_
    refine zc_bipush (pc := 14) (48 : Int32) dX8_digit_14 (by decide) ?_
    refine zc_isub (pc := 16) dX8_digit_16 ?_
    refine zc_goto (pc := 17) 21 dX8_digit_17 (by decide) ?_
    exact zc_iretK (pc := 21) dX8_digit_21 rfl ⟨_, rfl, rfl⟩
def zf_X8_twoDigits (q : Nat) (x1 : Int32) (h : zHp) : Option Int32 :=
  ((zf_X8_digit q x1 h).bind (fun r1 => ((zf_X8_digit q (x1 + (1 : Int32)) h).bind (fun r2 => some (((10 : Int32) * r1) + r2)))))
set_option maxRecDepth 100000 in
set_option maxHeartbeats 4000000 in
theorem zt_X8_twoDigits (q : Nat) (hq : zc_lay[q]? = some (8, 0)) (x1 : Int32) (h : zHp) {r : Int32} (hr : (zf_X8_twoDigits q x1 h) = some r) : zc_Cn zM_X8_twoDigits [.ref q, .int x1] h ((fun r => zc_mI (r, h)) r) := by
  refine zc_meth (mk := (fun r => zc_mI (r, h))) (o := (zf_X8_twoDigits q x1 h)) (by decide +kernel) (Nat.le_of_ble_eq_true rfl) ?_ hr
  unfold zf_X8_twoDigits
  refine zc_sL (ls1 := [some (.ref q), some (.int x1)]) rfl ?_
  refine zc_bipush (pc := 0) (10 : Int32) dX8_twoDigits_0 (by decide) ?_
  refine zc_aload_n (pc := 2) dX8_twoDigits_2 rfl rfl ?_
  refine zc_iload_n (pc := 3) dX8_twoDigits_3 rfl rfl ?_
  refine zc_callIp (pc := 4) [.ref q, .int x1] rfl (zc_runV (ci := 8) (n0 := 0) (q := (RX8, TX8, 6)) zo_X8_digit ⟨Nat.le_of_ble_eq_true rfl, Nat.le_of_ble_eq_true rfl⟩ zw_263 zw_256 zw_257 hq (by decide) rfl rfl dX8_twoDigits_4) (Nat.le_of_ble_eq_true rfl) (fun _ hr => zt_X8_digit q hq x1 h hr) (fun r1 => ?_)
  refine zc_imul (pc := 7) dX8_twoDigits_7 ?_
  refine zc_aload_n (pc := 8) dX8_twoDigits_8 rfl rfl ?_
  refine zc_iload_n (pc := 9) dX8_twoDigits_9 rfl rfl ?_
  refine zc_iconst (pc := 10) (1 : Int32) dX8_twoDigits_10 (by decide) ?_
  refine zc_iadd (pc := 11) dX8_twoDigits_11 ?_
  refine zc_callIp (pc := 12) [.ref q, .int (x1 + (1 : Int32))] rfl (zc_runV (ci := 8) (n0 := 0) (q := (RX8, TX8, 6)) zo_X8_digit ⟨Nat.le_of_ble_eq_true rfl, Nat.le_of_ble_eq_true rfl⟩ zw_263 zw_256 zw_257 hq (by decide) rfl rfl dX8_twoDigits_12) (Nat.le_of_ble_eq_true rfl) (fun _ hr => zt_X8_digit q hq (x1 + (1 : Int32)) h hr) (fun r2 => ?_)
  refine zc_iadd (pc := 15) dX8_twoDigits_15 ?_
  exact zc_iretK (pc := 16) dX8_twoDigits_16 rfl ⟨_, rfl, rfl⟩

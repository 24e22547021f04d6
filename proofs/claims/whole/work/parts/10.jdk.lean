def zl_J7_fill_53178_5 (x0 : Nat) (nx0 : Nat) (x1 : Int32) : Nat → Int32 → zHp → Option zHp
  | 0, _, _ => none
  | fu + 1, y1, h2 => (if (Int32.ofNat nx0) ≤ y1 then some h2 else (if zc_ix y1 nx0 then ((some (zc_ui h2 x0 y1.toNatClampNeg x1) : Option zHp).bind (fun h4 => zl_J7_fill_53178_5 x0 nx0 x1 fu (y1 + (1 : Int32)) h4)) else none))
def zf_J7_fill_53178 (x0 nx0 : Nat) (x1 : Int32) (h : zHp) : Option zHp :=
  ((zl_J7_fill_53178_5 x0 nx0 x1 zFU (0 : Int32) h).bind (fun v5 => some v5))
set_option maxRecDepth 100000 in
set_option maxHeartbeats 4000000 in
theorem zt_J7_fill_53178 (x0 nx0 : Nat) (hx0 : zc_lay[x0]? = some (12, nx0)) (x1 : Int32) (h : zHp) {r : zHp} (hr : (zf_J7_fill_53178 x0 nx0 x1 h) = some r) : zc_Cn zM_J7_fill_53178 [.ref x0, .int x1] h (zc_mV r) := by
  refine zc_meth (mk := zc_mV) (o := (zf_J7_fill_53178 x0 nx0 x1 h)) (by decide +kernel) (Nat.le_of_ble_eq_true rfl) ?_ hr
  unfold zf_J7_fill_53178
  refine zc_sL (ls1 := [some (.ref x0), some (.int x1), none, none]) rfl ?_
  refine zc_iconst (pc := 0) (0 : Int32) dJ7_fill_53178_0 (by decide) ?_
  refine zc_istore_n (pc := 1) dJ7_fill_53178_1 rfl (Nat.le_of_ble_eq_true rfl) rfl (Nat.le_of_ble_eq_true rfl) ?_
  refine zc_sL (ls1 := [some (.ref x0), some (.int x1), some (.int (0 : Int32)), none]) rfl ?_
  refine zc_aload_n (pc := 2) dJ7_fill_53178_2 rfl rfl ?_
  refine zc_alenI (pc := 3) hx0 dJ7_fill_53178_3 ?_
  refine zc_istore_n (pc := 4) dJ7_fill_53178_4 rfl (Nat.le_of_ble_eq_true rfl) rfl (Nat.le_of_ble_eq_true rfl) ?_
  refine zc_sL (ls1 := [some (.ref x0), some (.int x1), some (.int (0 : Int32)), some (.int (Int32.ofNat nx0))]) rfl ?_
  refine zc_sL (ls1 := [some (.ref x0), some (.int x1), some (.int (0 : Int32)), some (.int (Int32.ofNat nx0))]) rfl ?_
  refine zc_loop 20 (fun v5 => [none, none, none, none]) (fun v5 => []) (fun v5 => v5) (fun v5 => ?_) (fun k7 J6 => ?_)
  · exact zc_vretK (pc := 20) dJ7_fill_53178_20 rfl ⟨_, rfl, rfl⟩
  · have L9 : ∀ (fu : Nat) (y1 : Int32) (h2 : zHp), zc_G zM_J7_fill_53178 zc_mV 5 [some (.ref x0), some (.int x1), some (.int y1), some (.int (Int32.ofNat nx0))] [] h2 ((zl_J7_fill_53178_5 x0 nx0 x1 fu y1 h2).bind k7) := by
        intro fu
        induction fu with
        | zero => intros; exact zc_noneb
        | succ fu ih10 =>
          intro y1 h2
          unfold zl_J7_fill_53178_5
          refine zc_iload_n (pc := 5) dJ7_fill_53178_5 rfl rfl ?_
          refine zc_iload_n (pc := 6) dJ7_fill_53178_6 rfl rfl ?_
          refine zc_icmp_ge (pc := 7) 20 dJ7_fill_53178_7 (by decide) (fun _ => ?_) (fun _ => ?_)
          · refine zc_drop 0 ?_
            refine zc_drop 1 ?_
            refine zc_drop 2 ?_
            refine zc_drop 3 ?_
            exact J6 h2
          · refine zc_aload_n (pc := 10) dJ7_fill_53178_10 rfl rfl ?_
            refine zc_iload_n (pc := 11) dJ7_fill_53178_11 rfl rfl ?_
            refine zc_iload_n (pc := 12) dJ7_fill_53178_12 rfl rfl ?_
            refine zc_guard (fun g3 => ?_)
            refine zc_asti (pc := 13) hx0 g3 dJ7_fill_53178_13 ?_
            refine zc_letH (fun h4 _ => ?_)
            refine zc_iinc (pc := 14) (1 : Int32) dJ7_fill_53178_14 (by decide) rfl (Nat.le_of_ble_eq_true rfl) rfl ?_
            refine zc_sL (ls1 := [some (.ref x0), some (.int x1), some (.int (y1 + (1 : Int32))), some (.int (Int32.ofNat nx0))]) rfl ?_
            refine zc_goto (pc := 17) 5 dJ7_fill_53178_17 (by decide) ?_
            exact ih10 (y1 + (1 : Int32)) h4
    exact L9 zFU (0 : Int32) h
def zf_J6_bitCount_0f7a4 (x0 : Int32) : Option Int32 :=
  ((some (x0 - (((x0).toUInt32 >>> (((1 : Int32)).toUInt32 &&& Int32.toUInt32 31)).toInt32 &&& (1431655765 : Int32))) : Option Int32).bind (fun v1 => ((some ((v1 &&& (858993459 : Int32)) + (((v1).toUInt32 >>> (((2 : Int32)).toUInt32 &&& Int32.toUInt32 31)).toInt32 &&& (858993459 : Int32))) : Option Int32).bind (fun v2 => ((some ((v2 + ((v2).toUInt32 >>> (((4 : Int32)).toUInt32 &&& Int32.toUInt32 31)).toInt32) &&& (252645135 : Int32)) : Option Int32).bind (fun v3 => ((some (v3 + ((v3).toUInt32 >>> (((8 : Int32)).toUInt32 &&& Int32.toUInt32 31)).toInt32) : Option Int32).bind (fun v4 => ((some (v4 + ((v4).toUInt32 >>> (((16 : Int32)).toUInt32 &&& Int32.toUInt32 31)).toInt32) : Option Int32).bind (fun v5 => some (v5 &&& (63 : Int32))))))))))))
set_option maxRecDepth 100000 in
set_option maxHeartbeats 4000000 in
theorem zt_J6_bitCount_0f7a4 (x0 : Int32) (h : zHp) {r : Int32} (hr : (zf_J6_bitCount_0f7a4 x0) = some r) : zc_Cn zM_J6_bitCount_0f7a4 [.int x0] h ((fun r => zc_mI (r, h)) r) := by
  refine zc_meth (mk := (fun r => zc_mI (r, h))) (o := (zf_J6_bitCount_0f7a4 x0)) (by decide +kernel) (Nat.le_of_ble_eq_true rfl) ?_ hr
  unfold zf_J6_bitCount_0f7a4
  refine zc_sL (ls1 := [some (.int x0)]) rfl ?_
  refine zc_iload_n (pc := 0) dJ6_bitCount_0f7a4_0 rfl rfl ?_
  refine zc_iload_n (pc := 1) dJ6_bitCount_0f7a4_1 rfl rfl ?_
  refine zc_iconst (pc := 2) (1 : Int32) dJ6_bitCount_0f7a4_2 (by decide) ?_
  refine zc_iushr (pc := 3) dJ6_bitCount_0f7a4_3 ?_
  refine zc_ldcw (pc := 4) dJ6_bitCount_0f7a4_4 zw_592 ?_
  refine zc_iand (pc := 7) dJ6_bitCount_0f7a4_7 ?_
  refine zc_isub (pc := 8) dJ6_bitCount_0f7a4_8 ?_
  refine zc_letI (fun v1 _ => ?_)
  refine zc_istore_n (pc := 9) dJ6_bitCount_0f7a4_9 rfl (Nat.le_of_ble_eq_true rfl) rfl (Nat.le_of_ble_eq_true rfl) ?_
  refine zc_sL (ls1 := [some (.int v1)]) rfl ?_
  refine zc_iload_n (pc := 10) dJ6_bitCount_0f7a4_10 rfl rfl ?_
  refine zc_ldcw (pc := 11) dJ6_bitCount_0f7a4_11 zw_593 ?_
  refine zc_iand (pc := 14) dJ6_bitCount_0f7a4_14 ?_
  refine zc_iload_n (pc := 15) dJ6_bitCount_0f7a4_15 rfl rfl ?_
  refine zc_iconst (pc := 16) (2 : Int32) dJ6_bitCount_0f7a4_16 (by decide) ?_
  refine zc_iushr (pc := 17) dJ6_bitCount_0f7a4_17 ?_
  refine zc_ldcw (pc := 18) dJ6_bitCount_0f7a4_18 zw_593 ?_
  refine zc_iand (pc := 21) dJ6_bitCount_0f7a4_21 ?_
  refine zc_iadd (pc := 22) dJ6_bitCount_0f7a4_22 ?_
  refine zc_letI (fun v2 _ => ?_)
  refine zc_istore_n (pc := 23) dJ6_bitCount_0f7a4_23 rfl (Nat.le_of_ble_eq_true rfl) rfl (Nat.le_of_ble_eq_true rfl) ?_
  refine zc_sL (ls1 := [some (.int v2)]) rfl ?_
  refine zc_iload_n (pc := 24) dJ6_bitCount_0f7a4_24 rfl rfl ?_
  refine zc_iload_n (pc := 25) dJ6_bitCount_0f7a4_25 rfl rfl ?_
  refine zc_iconst (pc := 26) (4 : Int32) dJ6_bitCount_0f7a4_26 (by decide) ?_
  refine zc_iushr (pc := 27) dJ6_bitCount_0f7a4_27 ?_
  refine zc_iadd (pc := 28) dJ6_bitCount_0f7a4_28 ?_
  refine zc_ldcw (pc := 29) dJ6_bitCount_0f7a4_29 zw_594 ?_
  refine zc_iand (pc := 32) dJ6_bitCount_0f7a4_32 ?_
  refine zc_letI (fun v3 _ => ?_)
  refine zc_istore_n (pc := 33) dJ6_bitCount_0f7a4_33 rfl (Nat.le_of_ble_eq_true rfl) rfl (Nat.le_of_ble_eq_true rfl) ?_
  refine zc_sL (ls1 := [some (.int v3)]) rfl ?_
  refine zc_iload_n (pc := 34) dJ6_bitCount_0f7a4_34 rfl rfl ?_
  refine zc_iload_n (pc := 35) dJ6_bitCount_0f7a4_35 rfl rfl ?_
  refine zc_bipush (pc := 36) (8 : Int32) dJ6_bitCount_0f7a4_36 (by decide) ?_
  refine zc_iushr (pc := 38) dJ6_bitCount_0f7a4_38 ?_
  refine zc_iadd (pc := 39) dJ6_bitCount_0f7a4_39 ?_
  refine zc_letI (fun v4 _ => ?_)
  refine zc_istore_n (pc := 40) dJ6_bitCount_0f7a4_40 rfl (Nat.le_of_ble_eq_true rfl) rfl (Nat.le_of_ble_eq_true rfl) ?_
  refine zc_sL (ls1 := [some (.int v4)]) rfl ?_
  refine zc_iload_n (pc := 41) dJ6_bitCount_0f7a4_41 rfl rfl ?_
  refine zc_iload_n (pc := 42) dJ6_bitCount_0f7a4_42 rfl rfl ?_
  refine zc_bipush (pc := 43) (16 : Int32) dJ6_bitCount_0f7a4_43 (by decide) ?_
  refine zc_iushr (pc := 45) dJ6_bitCount_0f7a4_45 ?_
  refine zc_iadd (pc := 46) dJ6_bitCount_0f7a4_46 ?_
  refine zc_letI (fun v5 _ => ?_)
  refine zc_istore_n (pc := 47) dJ6_bitCount_0f7a4_47 rfl (Nat.le_of_ble_eq_true rfl) rfl (Nat.le_of_ble_eq_true rfl) ?_
  refine zc_sL (ls1 := [some (.int v5)]) rfl ?_
  refine zc_iload_n (pc := 48) dJ6_bitCount_0f7a4_48 rfl rfl ?_
  refine zc_bipush (pc := 49) (63 : Int32) dJ6_bitCount_0f7a4_49 (by decide) ?_
  refine zc_iand (pc := 51) dJ6_bitCount_0f7a4_51 ?_
  exact zc_iretK (pc := 52) dJ6_bitCount_0f7a4_52 rfl ⟨_, rfl, rfl⟩
def zl_J7_fill_d0a16_6 (x0 : Nat) (nx0 : Nat) (x1 : Int64) : Nat → Int32 → zHp → Option zHp
  | 0, _, _ => none
  | fu + 1, y1, h2 => (if (Int32.ofNat nx0) ≤ y1 then some h2 else (if zc_ix y1 nx0 then ((some (zc_ul h2 x0 y1.toNatClampNeg x1) : Option zHp).bind (fun h4 => zl_J7_fill_d0a16_6 x0 nx0 x1 fu (y1 + (1 : Int32)) h4)) else none))
def zf_J7_fill_d0a16 (x0 nx0 : Nat) (x1 : Int64) (h : zHp) : Option zHp :=
  ((zl_J7_fill_d0a16_6 x0 nx0 x1 zFU (0 : Int32) h).bind (fun v5 => some v5))
set_option maxRecDepth 100000 in
set_option maxHeartbeats 4000000 in
theorem zt_J7_fill_d0a16 (x0 nx0 : Nat) (hx0 : zc_lay[x0]? = some (13, nx0)) (x1 : Int64) (h : zHp) {r : zHp} (hr : (zf_J7_fill_d0a16 x0 nx0 x1 h) = some r) : zc_Cn zM_J7_fill_d0a16 [.ref x0, .long x1] h (zc_mV r) := by
  refine zc_meth (mk := zc_mV) (o := (zf_J7_fill_d0a16 x0 nx0 x1 h)) (by decide +kernel) (Nat.le_of_ble_eq_true rfl) ?_ hr
  unfold zf_J7_fill_d0a16
  refine zc_sL (ls1 := [some (.ref x0), some (.long x1), none, none, none]) rfl ?_
  refine zc_iconst (pc := 0) (0 : Int32) dJ7_fill_d0a16_0 (by decide) ?_
  refine zc_istore_n (pc := 1) dJ7_fill_d0a16_1 rfl (Nat.le_of_ble_eq_true rfl) rfl (Nat.le_of_ble_eq_true rfl) ?_
  refine zc_sL (ls1 := [some (.ref x0), some (.long x1), none, some (.int (0 : Int32)), none]) rfl ?_
  refine zc_aload_n (pc := 2) dJ7_fill_d0a16_2 rfl rfl ?_
  refine zc_alenL (pc := 3) hx0 dJ7_fill_d0a16_3 ?_
  refine zc_istore (pc := 4) dJ7_fill_d0a16_4 (Nat.le_of_ble_eq_true rfl) rfl (Nat.le_of_ble_eq_true rfl) ?_
  refine zc_sL (ls1 := [some (.ref x0), some (.long x1), none, some (.int (0 : Int32)), some (.int (Int32.ofNat nx0))]) rfl ?_
  refine zc_sL (ls1 := [some (.ref x0), some (.long x1), none, some (.int (0 : Int32)), some (.int (Int32.ofNat nx0))]) rfl ?_
  refine zc_loop 22 (fun v5 => [none, none, none, none, none]) (fun v5 => []) (fun v5 => v5) (fun v5 => ?_) (fun k7 J6 => ?_)
  · exact zc_vretK (pc := 22) dJ7_fill_d0a16_22 rfl ⟨_, rfl, rfl⟩
  · have L9 : ∀ (fu : Nat) (y1 : Int32) (h2 : zHp), zc_G zM_J7_fill_d0a16 zc_mV 6 [some (.ref x0), some (.long x1), none, some (.int y1), some (.int (Int32.ofNat nx0))] [] h2 ((zl_J7_fill_d0a16_6 x0 nx0 x1 fu y1 h2).bind k7) := by
        intro fu
        induction fu with
        | zero => intros; exact zc_noneb
        | succ fu ih10 =>
          intro y1 h2
          unfold zl_J7_fill_d0a16_6
          refine zc_iload_n (pc := 6) dJ7_fill_d0a16_6 rfl rfl ?_
          refine zc_iload (pc := 7) dJ7_fill_d0a16_7 rfl ?_
          refine zc_icmp_ge (pc := 9) 22 dJ7_fill_d0a16_9 (by decide) (fun _ => ?_) (fun _ => ?_)
          · refine zc_drop 0 ?_
            refine zc_drop 1 ?_
            refine zc_drop 3 ?_
            refine zc_drop 4 ?_
            exact J6 h2
          · refine zc_aload_n (pc := 12) dJ7_fill_d0a16_12 rfl rfl ?_
            refine zc_iload_n (pc := 13) dJ7_fill_d0a16_13 rfl rfl ?_
            refine zc_lload_n (pc := 14) dJ7_fill_d0a16_14 rfl rfl ?_
            refine zc_guard (fun g3 => ?_)
            refine zc_astl (pc := 15) hx0 g3 dJ7_fill_d0a16_15 ?_
            refine zc_letH (fun h4 _ => ?_)
            refine zc_iinc (pc := 16) (1 : Int32) dJ7_fill_d0a16_16 (by decide) rfl (Nat.le_of_ble_eq_true rfl) rfl ?_
            refine zc_sL (ls1 := [some (.ref x0), some (.long x1), none, some (.int (y1 + (1 : Int32))), some (.int (Int32.ofNat nx0))]) rfl ?_
            refine zc_goto (pc := 19) 6 dJ7_fill_d0a16_19 (by decide) ?_
            exact ih10 (y1 + (1 : Int32)) h4
    exact L9 zFU (0 : Int32) h

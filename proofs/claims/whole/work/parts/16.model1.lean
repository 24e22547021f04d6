def zf_X11_thrown (h : zHp) : Option Int32 :=
  some (h.1 60 17)
set_option maxRecDepth 100000 in
set_option maxHeartbeats 4000000 in
theorem zt_X11_thrown (h : zHp) {r : Int32} (hr : (zf_X11_thrown h) = some r) : zc_Cn zM_X11_thrown [.ref 60] h ((fun r => zc_mI (r, h)) r) := by
  refine zc_meth (mk := (fun r => zc_mI (r, h))) (o := (zf_X11_thrown h)) (by decide +kernel) (Nat.le_of_ble_eq_true rfl) ?_ hr
  unfold zf_X11_thrown
  refine zc_sL (ls1 := [some (.ref 60)]) rfl ?_
  refine zc_aload_n (pc := 0) dX11_thrown_0 rfl rfl ?_
  refine zc_getI (pc := 1) zF_X11_68 rfl dX11_thrown_1 ?_
  exact zc_iretK (pc := 4) dX11_thrown_4 rfl ⟨_, rfl, rfl⟩
def zf_X11_in (x0 : Int64) (x2 : Int64) (x4 : Int64) : Option Int32 :=
  (if (lg_cmp x0 x2) < 0 then some (0 : Int32) else (if 0 < (lg_cmp x0 x4) then some (0 : Int32) else some (1 : Int32)))
set_option maxRecDepth 100000 in
set_option maxHeartbeats 4000000 in
theorem zt_X11_in (x0 : Int64) (x2 : Int64) (x4 : Int64) (h : zHp) {r : Int32} (hr : (zf_X11_in x0 x2 x4) = some r) : zc_Cn zM_X11_in [.long x0, .long x2, .long x4] h ((fun r => zc_mI (r, h)) r) := by
  refine zc_meth (mk := (fun r => zc_mI (r, h))) (o := (zf_X11_in x0 x2 x4)) (by decide +kernel) (Nat.le_of_ble_eq_true rfl) ?_ hr
  unfold zf_X11_in
  refine zc_sL (ls1 := [some (.long x0), none, some (.long x2), none, some (.long x4), none]) rfl ?_
  refine zc_lload_n (pc := 0) dX11_in_0 rfl rfl ?_
  refine zc_lload_n (pc := 1) dX11_in_1 rfl rfl ?_
  refine zc_lcmp (pc := 2) dX11_in_2 ?_
  refine zc_if_lt (pc := 3) 17 dX11_in_3 (by decide) (fun _ => ?_) (fun _ => ?_)
  · refine zc_iconst (pc := 17) (0 : Int32) dX11_in_17 (by decide) ?_
    exact zc_zretK (pc := 18) dX11_in_18 rfl (by decide) ⟨_, rfl, rfl⟩
  · refine zc_lload_n (pc := 6) dX11_in_6 rfl rfl ?_
    refine zc_lload (pc := 7) dX11_in_7 rfl ?_
    refine zc_lcmp (pc := 9) dX11_in_9 ?_
    refine zc_if_gt (pc := 10) 17 dX11_in_10 (by decide) (fun _ => ?_) (fun _ => ?_)
    · refine zc_iconst (pc := 17) (0 : Int32) dX11_in_17 (by decide) ?_
      exact zc_zretK (pc := 18) dX11_in_18 rfl (by decide) ⟨_, rfl, rfl⟩
    · refine zc_iconst (pc := 13) (1 : Int32) dX11_in_13 (by decide) ?_
      refine zc_goto (pc := 14) 18 dX11_in_14 (by decide) ?_
      exact zc_zretK (pc := 18) dX11_in_18 rfl (by decide) ⟨_, rfl, rfl⟩
def zf_X11_hasBit (x0 : Int32) (x1 : Int32) : Option Int32 :=
  (if ((x0 >>> (x1 &&& 31)) &&& (1 : Int32)) = (1 : Int32) then some (1 : Int32) else some (0 : Int32))
set_option maxRecDepth 100000 in
set_option maxHeartbeats 4000000 in
theorem zt_X11_hasBit (x0 : Int32) (x1 : Int32) (h : zHp) {r : Int32} (hr : (zf_X11_hasBit x0 x1) = some r) : zc_Cn zM_X11_hasBit [.int x0, .int x1] h ((fun r => zc_mI (r, h)) r) := by
  refine zc_meth (mk := (fun r => zc_mI (r, h))) (o := (zf_X11_hasBit x0 x1)) (by decide +kernel) (Nat.le_of_ble_eq_true rfl) ?_ hr
  unfold zf_X11_hasBit
  refine zc_sL (ls1 := [some (.int x0), some (.int x1)]) rfl ?_
  refine zc_iload_n (pc := 0) dX11_hasBit_0 rfl rfl ?_
  refine zc_iload_n (pc := 1) dX11_hasBit_1 rfl rfl ?_
  refine zc_ishr (pc := 2) dX11_hasBit_2 ?_
  refine zc_iconst (pc := 3) (1 : Int32) dX11_hasBit_3 (by decide) ?_
  refine zc_iand (pc := 4) dX11_hasBit_4 ?_
  refine zc_iconst (pc := 5) (1 : Int32) dX11_hasBit_5 (by decide) ?_
  refine zc_icmp_ne (pc := 6) 13 dX11_hasBit_6 (by decide) (fun _ => ?_) (fun _ => ?_)
  · refine zc_iconst (pc := 9) (1 : Int32) dX11_hasBit_9 (by decide) ?_
    refine zc_goto (pc := 10) 14 dX11_hasBit_10 (by decide) ?_
    exact zc_zretK (pc := 14) dX11_hasBit_14 rfl (by decide) ⟨_, rfl, rfl⟩
  · refine zc_iconst (pc := 13) (0 : Int32) dX11_hasBit_13 (by decide) ?_
    exact zc_zretK (pc := 14) dX11_hasBit_14 rfl (by decide) ⟨_, rfl, rfl⟩
def zf_X11_isPlace (x0 : Int32) : Option Int32 :=
  ((zf_X11_in x0.toInt64 (0 : Int64) (11 : Int64)).bind (fun r1 => (if zc_bo r1 then some r1 else none)))
set_option maxRecDepth 100000 in
set_option maxHeartbeats 4000000 in
theorem zt_X11_isPlace (x0 : Int32) (h : zHp) {r : Int32} (hr : (zf_X11_isPlace x0) = some r) : zc_Cn zM_X11_isPlace [.int x0] h ((fun r => zc_mI (r, h)) r) := by
  refine zc_meth (mk := (fun r => zc_mI (r, h))) (o := (zf_X11_isPlace x0)) (by decide +kernel) (Nat.le_of_ble_eq_true rfl) ?_ hr
  unfold zf_X11_isPlace
  refine zc_sL (ls1 := [some (.int x0)]) rfl ?_
  refine zc_iload_n (pc := 0) dX11_isPlace_0 rfl rfl ?_
  refine zc_i2l (pc := 1) dX11_isPlace_1 ?_
  refine zc_lconst (pc := 2) (0 : Int64) dX11_isPlace_2 (by decide) ?_
  refine zc_ldc2 (pc := 3) dX11_isPlace_3 zw_1118 ?_
  refine zc_callIp (pc := 6) [.long x0.toInt64, .long (0 : Int64), .long (11 : Int64)] rfl (zc_runS zo_X11_in ⟨Nat.le_of_ble_eq_true rfl, Nat.le_of_ble_eq_true rfl⟩ zw_1071 zw_1072 rfl dX11_isPlace_6) (Nat.le_of_ble_eq_true rfl) (fun _ hr => zt_X11_in x0.toInt64 (0 : Int64) (11 : Int64) h hr) (fun r1 => ?_)
  refine zc_guard (fun gz => ?_)
  exact zc_zretK (pc := 9) dX11_isPlace_9 rfl (zc_bo_and gz) ⟨_, rfl, rfl⟩
def zf_X11_isOne (x1 : Int32) (h : zHp) : Option Int32 :=
  ((zf_X11_in x1.toInt64 (0 : Int64) (((h.1 60 3) - (1 : Int32)).toInt64)).bind (fun r1 => (if zc_bo r1 then some r1 else none)))
set_option maxRecDepth 100000 in
set_option maxHeartbeats 4000000 in
theorem zt_X11_isOne (x1 : Int32) (h : zHp) {r : Int32} (hr : (zf_X11_isOne x1 h) = some r) : zc_Cn zM_X11_isOne [.ref 60, .int x1] h ((fun r => zc_mI (r, h)) r) := by
  refine zc_meth (mk := (fun r => zc_mI (r, h))) (o := (zf_X11_isOne x1 h)) (by decide +kernel) (Nat.le_of_ble_eq_true rfl) ?_ hr
  unfold zf_X11_isOne
  refine zc_sL (ls1 := [some (.ref 60), some (.int x1)]) rfl ?_
  refine zc_iload_n (pc := 0) dX11_isOne_0 rfl rfl ?_
  refine zc_i2l (pc := 1) dX11_isOne_1 ?_
  refine zc_lconst (pc := 2) (0 : Int64) dX11_isOne_2 (by decide) ?_
  refine zc_aload_n (pc := 3) dX11_isOne_3 rfl rfl ?_
  refine zc_getI (pc := 4) zF_X11_84 rfl dX11_isOne_4 ?_
  refine zc_iconst (pc := 7) (1 : Int32) dX11_isOne_7 (by decide) ?_
  refine zc_isub (pc := 8) dX11_isOne_8 ?_
  refine zc_i2l (pc := 9) dX11_isOne_9 ?_
  refine zc_callIp (pc := 10) [.long x1.toInt64, .long (0 : Int64), .long (((h.1 60 3) - (1 : Int32)).toInt64)] rfl (zc_runS zo_X11_in ⟨Nat.le_of_ble_eq_true rfl, Nat.le_of_ble_eq_true rfl⟩ zw_1071 zw_1072 rfl dX11_isOne_10) (Nat.le_of_ble_eq_true rfl) (fun _ hr => zt_X11_in x1.toInt64 (0 : Int64) (((h.1 60 3) - (1 : Int32)).toInt64) h hr) (fun r1 => ?_)
  refine zc_guard (fun gz => ?_)
  exact zc_zretK (pc := 13) dX11_isOne_13 rfl (zc_bo_and gz) ⟨_, rfl, rfl⟩
def zf_X11_held (x0 : Int32) (x1 : Int32) : Option Int32 :=
  (if 0 ≤ x0 then (if x0 ≤ x1 then some x0 else some x1) else some (0 : Int32))
set_option maxRecDepth 100000 in
set_option maxHeartbeats 4000000 in
theorem zt_X11_held (x0 : Int32) (x1 : Int32) (h : zHp) {r : Int32} (hr : (zf_X11_held x0 x1) = some r) : zc_Cn zM_X11_held [.int x0, .int x1] h ((fun r => zc_mI (r, h)) r) := by
  refine zc_meth (mk := (fun r => zc_mI (r, h))) (o := (zf_X11_held x0 x1)) (by decide +kernel) (Nat.le_of_ble_eq_true rfl) ?_ hr
  unfold zf_X11_held
  refine zc_sL (ls1 := [some (.int x0), some (.int x1)]) rfl ?_
  refine zc_iload_n (pc := 0) dX11_held_0 rfl rfl ?_
  refine zc_if_ge (pc := 1) 8 dX11_held_1 (by decide) (fun _ => ?_) (fun _ => ?_)
  · refine zc_iload_n (pc := 8) dX11_held_8 rfl rfl ?_
    refine zc_iload_n (pc := 9) dX11_held_9 rfl rfl ?_
    refine zc_icmp_le (pc := 10) 17 dX11_held_10 (by decide) (fun _ => ?_) (fun _ => ?_)
    · refine zc_iload_n (pc := 17) dX11_held_17 rfl rfl ?_
      exact zc_iretK (pc := 18) dX11_held_18 rfl ⟨_, rfl, rfl⟩
    · refine zc_iload_n (pc := 13) dX11_held_13 rfl rfl ?_
      refine zc_goto (pc := 14) 18 dX11_held_14 (by decide) ?_
      exact zc_iretK (pc := 18) dX11_held_18 rfl ⟨_, rfl, rfl⟩
  · refine zc_iconst (pc := 4) (0 : Int32) dX11_held_4 (by decide) ?_
    refine zc_goto (pc := 5) 18 dX11_held_5 (by decide) ?_
    exact zc_iretK (pc := 18) dX11_held_18 rfl ⟨_, rfl, rfl⟩
def zf_X11_farOf (x0 : Int32) (x1 : Int32) : Option Int32 :=
  (((if x1 ≤ x0 then some (x0 - x1) else some (x1 - x0)) : Option Int32).bind (fun v1 => (if v1 ≤ (6 : Int32) then some v1 else some ((12 : Int32) - v1))))
set_option maxRecDepth 100000 in
set_option maxHeartbeats 4000000 in
theorem zt_X11_farOf (x0 : Int32) (x1 : Int32) (h : zHp) {r : Int32} (hr : (zf_X11_farOf x0 x1) = some r) : zc_Cn zM_X11_farOf [.int x0, .int x1] h ((fun r => zc_mI (r, h)) r) := by
  refine zc_meth (mk := (fun r => zc_mI (r, h))) (o := (zf_X11_farOf x0 x1)) (by decide +kernel) (Nat.le_of_ble_eq_true rfl) ?_ hr
  unfold zf_X11_farOf
  refine zc_sL (ls1 := [some (.int x0), some (.int x1), none]) rfl ?_
  refine zc_iload_n (pc := 0) dX11_farOf_0 rfl rfl ?_
  refine zc_iload_n (pc := 1) dX11_farOf_1 rfl rfl ?_
  refine zc_join 14 (fun v1 => [none, none, none]) (fun v1 => [.int v1]) (fun v1 => h) (fun v1 => ?_) (fun J2 => ?_)
  · refine zc_istore_n (pc := 14) dX11_farOf_14 rfl (Nat.le_of_ble_eq_true rfl) rfl (Nat.le_of_ble_eq_true rfl) ?_
    refine zc_sL (ls1 := [none, none, some (.int v1)]) rfl ?_
    refine zc_iload_n (pc := 15) dX11_farOf_15 rfl rfl ?_
    refine zc_bipush (pc := 16) (6 : Int32) dX11_farOf_16 (by decide) ?_
    refine zc_icmp_le (pc := 18) 28 dX11_farOf_18 (by decide) (fun _ => ?_) (fun _ => ?_)
    · refine zc_iload_n (pc := 28) dX11_farOf_28 rfl rfl ?_
      exact zc_iretK (pc := 29) dX11_farOf_29 rfl ⟨_, rfl, rfl⟩
    · refine zc_bipush (pc := 21) (12 : Int32) dX11_farOf_21 (by decide) ?_
      refine zc_iload_n (pc := 23) dX11_farOf_23 rfl rfl ?_
      refine zc_isub (pc := 24) dX11_farOf_24 ?_
      refine zc_goto (pc := 25) 29 dX11_farOf_25 (by decide) ?_
      exact zc_iretK (pc := 29) dX11_farOf_29 rfl ⟨_, rfl, rfl⟩
  · refine zc_icmp_ge (pc := 2) 11 dX11_farOf_2 (by decide) (fun _ => ?_) (fun _ => ?_)
    · refine zc_iload_n (pc := 11) dX11_farOf_11 rfl rfl ?_
      refine zc_iload_n (pc := 12) dX11_farOf_12 rfl rfl ?_
      refine zc_isub (pc := 13) dX11_farOf_13 ?_
      refine zc_drop 0 ?_
      refine zc_drop 1 ?_
      exact J2 (x0 - x1)
    · refine zc_iload_n (pc := 5) dX11_farOf_5 rfl rfl ?_
      refine zc_iload_n (pc := 6) dX11_farOf_6 rfl rfl ?_
      refine zc_isub (pc := 7) dX11_farOf_7 ?_
      refine zc_goto (pc := 8) 14 dX11_farOf_8 (by decide) ?_
      refine zc_drop 0 ?_
      refine zc_drop 1 ?_
      exact J2 (x1 - x0)
def zf_X11_wayOf (x1 : Int32) (x2 : Int32) (h : zHp) : Option Int32 :=
  (if zc_ix x1 7 then ((zf_X11_farOf (h.1 63 x1.toNatClampNeg) x2).bind (fun r2 => (if zc_ix x1 7 then ((zf_X11_farOf (h.1 63 x1.toNatClampNeg) (h.1 60 0)).bind (fun r4 => ((zf_X11_farOf (h.1 60 0) x2).bind (fun r5 => ((zf_X11_held ((r4 + r5) - (1 : Int32)) (99 : Int32)).bind (fun r6 => (if zc_ix x1 7 then (if (h.1 61 x1.toNatClampNeg) = (0 : Int32) then some (r4 + r5) else (if (h.1 61 x1.toNatClampNeg) = (1 : Int32) then some r6 else (if (h.1 61 x1.toNatClampNeg) = (3 : Int32) then ((zf_X11_farOf (h.1 60 0) x2).bind (fun r8 => some (r2 + r8))) else (if (h.1 61 x1.toNatClampNeg) = (4 : Int32) then some ((2 : Int32) * r6) else (if (h.1 61 x1.toNatClampNeg) = (5 : Int32) then some ((r4 + r5) / (2 : Int32)) else (if (h.1 61 x1.toNatClampNeg) = (6 : Int32) then some (((2 : Int32) * r6) + ((h.1 60 10) - (h.1 60 10) / (2 : Int32) * (2 : Int32))) else some r2)))))) else none))))))) else none))) else none)
set_option maxRecDepth 100000 in
set_option maxHeartbeats 4000000 in
theorem zt_X11_wayOf (x1 : Int32) (x2 : Int32) (h : zHp) {r : Int32} (hr : (zf_X11_wayOf x1 x2 h) = some r) : zc_Cn zM_X11_wayOf [.ref 60, .int x1, .int x2] h ((fun r => zc_mI (r, h)) r) := by
  refine zc_meth (mk := (fun r => zc_mI (r, h))) (o := (zf_X11_wayOf x1 x2 h)) (by decide +kernel) (Nat.le_of_ble_eq_true rfl) ?_ hr
  unfold zf_X11_wayOf
  refine zc_sL (ls1 := [some (.ref 60), some (.int x1), some (.int x2), none, none, none]) rfl ?_
  refine zc_aload_n (pc := 0) dX11_wayOf_0 rfl rfl ?_
  refine zc_getC (pc := 1) zF_X11_16 rfl dX11_wayOf_1 ?_
  refine zc_iload_n (pc := 4) dX11_wayOf_4 rfl rfl ?_
  refine zc_guard (fun g1 => ?_)
  refine zc_aldi (pc := 5) rfl g1 dX11_wayOf_5 ?_
  refine zc_iload_n (pc := 6) dX11_wayOf_6 rfl rfl ?_
  refine zc_callIp (pc := 7) [.int (h.1 63 x1.toNatClampNeg), .int x2] rfl (zc_runS zo_X11_farOf ⟨Nat.le_of_ble_eq_true rfl, Nat.le_of_ble_eq_true rfl⟩ zw_1148 zw_1149 rfl dX11_wayOf_7) (Nat.le_of_ble_eq_true rfl) (fun _ hr => zt_X11_farOf (h.1 63 x1.toNatClampNeg) x2 h hr) (fun r2 => ?_)
  refine zc_istore_n (pc := 10) dX11_wayOf_10 rfl (Nat.le_of_ble_eq_true rfl) rfl (Nat.le_of_ble_eq_true rfl) ?_
  refine zc_sL (ls1 := [some (.ref 60), some (.int x1), some (.int x2), some (.int r2), none, none]) rfl ?_
  refine zc_aload_n (pc := 11) dX11_wayOf_11 rfl rfl ?_
  refine zc_getC (pc := 12) zF_X11_16 rfl dX11_wayOf_12 ?_
  refine zc_iload_n (pc := 15) dX11_wayOf_15 rfl rfl ?_
  refine zc_guard (fun g3 => ?_)
  refine zc_aldi (pc := 16) rfl g3 dX11_wayOf_16 ?_
  refine zc_aload_n (pc := 17) dX11_wayOf_17 rfl rfl ?_
  refine zc_getI (pc := 18) zF_X11_91 rfl dX11_wayOf_18 ?_
  refine zc_callIp (pc := 21) [.int (h.1 63 x1.toNatClampNeg), .int (h.1 60 0)] rfl (zc_runS zo_X11_farOf ⟨Nat.le_of_ble_eq_true rfl, Nat.le_of_ble_eq_true rfl⟩ zw_1148 zw_1149 rfl dX11_wayOf_21) (Nat.le_of_ble_eq_true rfl) (fun _ hr => zt_X11_farOf (h.1 63 x1.toNatClampNeg) (h.1 60 0) h hr) (fun r4 => ?_)
  refine zc_aload_n (pc := 24) dX11_wayOf_24 rfl rfl ?_
  refine zc_getI (pc := 25) zF_X11_91 rfl dX11_wayOf_25 ?_
  refine zc_iload_n (pc := 28) dX11_wayOf_28 rfl rfl ?_
  refine zc_callIp (pc := 29) [.int (h.1 60 0), .int x2] rfl (zc_runS zo_X11_farOf ⟨Nat.le_of_ble_eq_true rfl, Nat.le_of_ble_eq_true rfl⟩ zw_1148 zw_1149 rfl dX11_wayOf_29) (Nat.le_of_ble_eq_true rfl) (fun _ hr => zt_X11_farOf (h.1 60 0) x2 h hr) (fun r5 => ?_)
  refine zc_iadd (pc := 32) dX11_wayOf_32 ?_
  refine zc_istore (pc := 33) dX11_wayOf_33 (Nat.le_of_ble_eq_true rfl) rfl (Nat.le_of_ble_eq_true rfl) ?_
  refine zc_sL (ls1 := [some (.ref 60), some (.int x1), some (.int x2), some (.int r2), some (.int (r4 + r5)), none]) rfl ?_
  refine zc_iload (pc := 35) dX11_wayOf_35 rfl ?_
  refine zc_iconst (pc := 37) (1 : Int32) dX11_wayOf_37 (by decide) ?_
  refine zc_isub (pc := 38) dX11_wayOf_38 ?_
  refine zc_bipush (pc := 39) (99 : Int32) dX11_wayOf_39 (by decide) ?_
  refine zc_callIp (pc := 41) [.int ((r4 + r5) - (1 : Int32)), .int (99 : Int32)] rfl (zc_runS zo_X11_held ⟨Nat.le_of_ble_eq_true rfl, Nat.le_of_ble_eq_true rfl⟩ zw_1151 zw_1152 rfl dX11_wayOf_41) (Nat.le_of_ble_eq_true rfl) (fun _ hr => zt_X11_held ((r4 + r5) - (1 : Int32)) (99 : Int32) h hr) (fun r6 => ?_)
  refine zc_istore (pc := 44) dX11_wayOf_44 (Nat.le_of_ble_eq_true rfl) rfl (Nat.le_of_ble_eq_true rfl) ?_
  refine zc_sL (ls1 := [some (.ref 60), some (.int x1), some (.int x2), some (.int r2), some (.int (r4 + r5)), some (.int r6)]) rfl ?_
  refine zc_aload_n (pc := 46) dX11_wayOf_46 rfl rfl ?_
  refine zc_getC (pc := 47) zF_X11_7 rfl dX11_wayOf_47 ?_
  refine zc_iload_n (pc := 50) dX11_wayOf_50 rfl rfl ?_
  refine zc_guard (fun g7 => ?_)
  refine zc_aldi (pc := 51) rfl g7 dX11_wayOf_51 ?_
  refine zc_sw (fun s9 => ?_) (fun s9 => ?_)
  · refine zc_tblIn (pc := 52) (off := 44) 96 s9 dX11_wayOf_52 (by decide) ?_
    refine zc_iload (pc := 96) dX11_wayOf_96 rfl ?_
    exact zc_iretK (pc := 98) dX11_wayOf_98 rfl ⟨_, rfl, rfl⟩
  refine zc_sw (fun s10 => ?_) (fun s10 => ?_)
  · refine zc_tblIn (pc := 52) (off := 47) 99 s10 dX11_wayOf_52 (by decide) ?_
    refine zc_iload (pc := 99) dX11_wayOf_99 rfl ?_
    exact zc_iretK (pc := 101) dX11_wayOf_101 rfl ⟨_, rfl, rfl⟩
  refine zc_sw (fun s11 => ?_) (fun s11 => ?_)
  · refine zc_tblIn (pc := 52) (off := 50) 102 s11 dX11_wayOf_52 (by decide) ?_
    refine zc_iload_n (pc := 102) dX11_wayOf_102 rfl rfl ?_
    refine zc_aload_n (pc := 103) dX11_wayOf_103 rfl rfl ?_
    refine zc_getI (pc := 104) zF_X11_91 rfl dX11_wayOf_104 ?_
    refine zc_iload_n (pc := 107) dX11_wayOf_107 rfl rfl ?_
    refine zc_callIp (pc := 108) [.int (h.1 60 0), .int x2] rfl (zc_runS zo_X11_farOf ⟨Nat.le_of_ble_eq_true rfl, Nat.le_of_ble_eq_true rfl⟩ zw_1148 zw_1149 rfl dX11_wayOf_108) (Nat.le_of_ble_eq_true rfl) (fun _ hr => zt_X11_farOf (h.1 60 0) x2 h hr) (fun r8 => ?_)
    refine zc_iadd (pc := 111) dX11_wayOf_111 ?_
    exact zc_iretK (pc := 112) dX11_wayOf_112 rfl ⟨_, rfl, rfl⟩
  refine zc_sw (fun s12 => ?_) (fun s12 => ?_)
  · refine zc_tblIn (pc := 52) (off := 61) 113 s12 dX11_wayOf_52 (by decide) ?_
    refine zc_iconst (pc := 113) (2 : Int32) dX11_wayOf_113 (by decide) ?_
    refine zc_iload (pc := 114) dX11_wayOf_114 rfl ?_
    refine zc_imul (pc := 116) dX11_wayOf_116 ?_
    exact zc_iretK (pc := 117) dX11_wayOf_117 rfl ⟨_, rfl, rfl⟩
  refine zc_sw (fun s13 => ?_) (fun s13 => ?_)
  · refine zc_tblIn (pc := 52) (off := 66) 118 s13 dX11_wayOf_52 (by decide) ?_
    refine zc_iload (pc := 118) dX11_wayOf_118 rfl ?_
    refine zc_iconst (pc := 120) (2 : Int32) dX11_wayOf_120 (by decide) ?_
    refine zc_idiv (pc := 121) dX11_wayOf_121 (by decide) ?_
    exact zc_iretK (pc := 122) dX11_wayOf_122 rfl ⟨_, rfl, rfl⟩
  refine zc_sw (fun s14 => ?_) (fun s14 => ?_)
  · refine zc_tblIn (pc := 52) (off := 71) 123 s14 dX11_wayOf_52 (by decide) ?_
    refine zc_iconst (pc := 123) (2 : Int32) dX11_wayOf_123 (by decide) ?_
    refine zc_iload (pc := 124) dX11_wayOf_124 rfl ?_
    refine zc_imul (pc := 126) dX11_wayOf_126 ?_
    refine zc_aload_n (pc := 127) dX11_wayOf_127 rfl rfl ?_
    refine zc_getI (pc := 128) zF_X11_97 rfl dX11_wayOf_128 ?_
    refine zc_iconst (pc := 131) (2 : Int32) dX11_wayOf_131 (by decide) ?_
    refine zc_irem (pc := 132) dX11_wayOf_132 (by decide) ?_
    refine zc_iadd (pc := 133) dX11_wayOf_133 ?_
    exact zc_iretK (pc := 134) dX11_wayOf_134 rfl ⟨_, rfl, rfl⟩
  refine zc_tblD (pc := 52) 135 [0, 1, 3, 4, 5, 6] dX11_wayOf_52 (by decide) (List.forall_mem_cons.mpr ⟨zc_neJ s9 (by decide), (List.forall_mem_cons.mpr ⟨zc_neJ s10 (by decide), (List.forall_mem_cons.mpr ⟨zc_neJ s11 (by decide), (List.forall_mem_cons.mpr ⟨zc_neJ s12 (by decide), (List.forall_mem_cons.mpr ⟨zc_neJ s13 (by decide), (List.forall_mem_cons.mpr ⟨zc_neJ s14 (by decide), (fun _ hm => nomatch hm)⟩)⟩)⟩)⟩)⟩)⟩) ?_
  refine zc_iload_n (pc := 135) dX11_wayOf_135 rfl rfl ?_
  exact zc_iretK (pc := 136) dX11_wayOf_136 rfl ⟨_, rfl, rfl⟩
def zf_X11_goesOf (x1 : Int32) (h : zHp) : Option Int32 :=
  (if zc_ix x1 7 then ((some (h.1 62 x1.toNatClampNeg) : Option Int32).bind (fun v2 => (if zc_ix x1 7 then (if (h.1 61 x1.toNatClampNeg) = (0 : Int32) then some ((6 : Int32) + (v2 / (3 : Int32))) else (if (h.1 61 x1.toNatClampNeg) = (1 : Int32) then some ((8 : Int32) + (v2 / (3 : Int32))) else (if (h.1 61 x1.toNatClampNeg) = (2 : Int32) then some v2 else (if (h.1 61 x1.toNatClampNeg) = (3 : Int32) then some (v2 / (2 : Int32)) else (if (h.1 61 x1.toNatClampNeg) = (4 : Int32) then some ((2 : Int32) * ((8 : Int32) + (v2 / (3 : Int32)))) else (if (h.1 61 x1.toNatClampNeg) = (5 : Int32) then some (4 : Int32) else (if (h.1 61 x1.toNatClampNeg) = (6 : Int32) then some (((2 : Int32) * ((8 : Int32) + (v2 / (3 : Int32)))) + (1 : Int32)) else some (0 : Int32)))))))) else none))) else none)
set_option maxRecDepth 100000 in
set_option maxHeartbeats 4000000 in
theorem zt_X11_goesOf (x1 : Int32) (h : zHp) {r : Int32} (hr : (zf_X11_goesOf x1 h) = some r) : zc_Cn zM_X11_goesOf [.ref 60, .int x1] h ((fun r => zc_mI (r, h)) r) := by
  refine zc_meth (mk := (fun r => zc_mI (r, h))) (o := (zf_X11_goesOf x1 h)) (by decide +kernel) (Nat.le_of_ble_eq_true rfl) ?_ hr
  unfold zf_X11_goesOf
  refine zc_sL (ls1 := [some (.ref 60), some (.int x1), none]) rfl ?_
  refine zc_aload_n (pc := 0) dX11_goesOf_0 rfl rfl ?_
  refine zc_getC (pc := 1) zF_X11_13 rfl dX11_goesOf_1 ?_
  refine zc_iload_n (pc := 4) dX11_goesOf_4 rfl rfl ?_
  refine zc_guard (fun g1 => ?_)
  refine zc_aldi (pc := 5) rfl g1 dX11_goesOf_5 ?_
  refine zc_letI (fun v2 _ => ?_)
  refine zc_istore_n (pc := 6) dX11_goesOf_6 rfl (Nat.le_of_ble_eq_true rfl) rfl (Nat.le_of_ble_eq_true rfl) ?_
  refine zc_sL (ls1 := [some (.ref 60), some (.int x1), some (.int v2)]) rfl ?_
  refine zc_aload_n (pc := 7) dX11_goesOf_7 rfl rfl ?_
  refine zc_getC (pc := 8) zF_X11_7 rfl dX11_goesOf_8 ?_
  refine zc_iload_n (pc := 11) dX11_goesOf_11 rfl rfl ?_
  refine zc_guard (fun g3 => ?_)
  refine zc_aldi (pc := 12) rfl g3 dX11_goesOf_12 ?_
  refine zc_sw (fun s4 => ?_) (fun s4 => ?_)
  · refine zc_tblIn (pc := 13) (off := 43) 56 s4 dX11_goesOf_13 (by decide) ?_
    refine zc_bipush (pc := 56) (6 : Int32) dX11_goesOf_56 (by decide) ?_
    refine zc_iload_n (pc := 58) dX11_goesOf_58 rfl rfl ?_
    refine zc_iconst (pc := 59) (3 : Int32) dX11_goesOf_59 (by decide) ?_
    refine zc_idiv (pc := 60) dX11_goesOf_60 (by decide) ?_
    refine zc_iadd (pc := 61) dX11_goesOf_61 ?_
    exact zc_iretK (pc := 62) dX11_goesOf_62 rfl ⟨_, rfl, rfl⟩
  refine zc_sw (fun s5 => ?_) (fun s5 => ?_)
  · refine zc_tblIn (pc := 13) (off := 50) 63 s5 dX11_goesOf_13 (by decide) ?_
    refine zc_bipush (pc := 63) (8 : Int32) dX11_goesOf_63 (by decide) ?_
    refine zc_iload_n (pc := 65) dX11_goesOf_65 rfl rfl ?_
    refine zc_iconst (pc := 66) (3 : Int32) dX11_goesOf_66 (by decide) ?_
    refine zc_idiv (pc := 67) dX11_goesOf_67 (by decide) ?_
    refine zc_iadd (pc := 68) dX11_goesOf_68 ?_
    exact zc_iretK (pc := 69) dX11_goesOf_69 rfl ⟨_, rfl, rfl⟩
  refine zc_sw (fun s6 => ?_) (fun s6 => ?_)
  · refine zc_tblIn (pc := 13) (off := 57) 70 s6 dX11_goesOf_13 (by decide) ?_
    refine zc_iload_n (pc := 70) dX11_goesOf_70 rfl rfl ?_
    exact zc_iretK (pc := 71) dX11_goesOf_71 rfl ⟨_, rfl, rfl⟩
  refine zc_sw (fun s7 => ?_) (fun s7 => ?_)
  · refine zc_tblIn (pc := 13) (off := 59) 72 s7 dX11_goesOf_13 (by decide) ?_
    refine zc_iload_n (pc := 72) dX11_goesOf_72 rfl rfl ?_
    refine zc_iconst (pc := 73) (2 : Int32) dX11_goesOf_73 (by decide) ?_
    refine zc_idiv (pc := 74) dX11_goesOf_74 (by decide) ?_
    exact zc_iretK (pc := 75) dX11_goesOf_75 rfl ⟨_, rfl, rfl⟩
  refine zc_sw (fun s8 => ?_) (fun s8 => ?_)
  · refine zc_tblIn (pc := 13) (off := 63) 76 s8 dX11_goesOf_13 (by decide) ?_
    refine zc_iconst (pc := 76) (2 : Int32) dX11_goesOf_76 (by decide) ?_
    refine zc_bipush (pc := 77) (8 : Int32) dX11_goesOf_77 (by decide) ?_
    refine zc_iload_n (pc := 79) dX11_goesOf_79 rfl rfl ?_
    refine zc_iconst (pc := 80) (3 : Int32) dX11_goesOf_80 (by decide) ?_
    refine zc_idiv (pc := 81) dX11_goesOf_81 (by decide) ?_
    refine zc_iadd (pc := 82) dX11_goesOf_82 ?_
    refine zc_imul (pc := 83) dX11_goesOf_83 ?_
    exact zc_iretK (pc := 84) dX11_goesOf_84 rfl ⟨_, rfl, rfl⟩
  refine zc_sw (fun s9 => ?_) (fun s9 => ?_)
  · refine zc_tblIn (pc := 13) (off := 72) 85 s9 dX11_goesOf_13 (by decide) ?_
    refine zc_iconst (pc := 85) (4 : Int32) dX11_goesOf_85 (by decide) ?_
    exact zc_iretK (pc := 86) dX11_goesOf_86 rfl ⟨_, rfl, rfl⟩
  refine zc_sw (fun s10 => ?_) (fun s10 => ?_)
  · refine zc_tblIn (pc := 13) (off := 74) 87 s10 dX11_goesOf_13 (by decide) ?_
    refine zc_iconst (pc := 87) (2 : Int32) dX11_goesOf_87 (by decide) ?_
    refine zc_bipush (pc := 88) (8 : Int32) dX11_goesOf_88 (by decide) ?_
    refine zc_iload_n (pc := 90) dX11_goesOf_90 rfl rfl ?_
    refine zc_iconst (pc := 91) (3 : Int32) dX11_goesOf_91 (by decide) ?_
    refine zc_idiv (pc := 92) dX11_goesOf_92 (by decide) ?_
    refine zc_iadd (pc := 93) dX11_goesOf_93 ?_
    refine zc_imul (pc := 94) dX11_goesOf_94 ?_
    refine zc_iconst (pc := 95) (1 : Int32) dX11_goesOf_95 (by decide) ?_
    refine zc_iadd (pc := 96) dX11_goesOf_96 ?_
    exact zc_iretK (pc := 97) dX11_goesOf_97 rfl ⟨_, rfl, rfl⟩
  refine zc_tblD (pc := 13) 98 [0, 1, 2, 3, 4, 5, 6] dX11_goesOf_13 (by decide) (List.forall_mem_cons.mpr ⟨zc_neJ s4 (by decide), (List.forall_mem_cons.mpr ⟨zc_neJ s5 (by decide), (List.forall_mem_cons.mpr ⟨zc_neJ s6 (by decide), (List.forall_mem_cons.mpr ⟨zc_neJ s7 (by decide), (List.forall_mem_cons.mpr ⟨zc_neJ s8 (by decide), (List.forall_mem_cons.mpr ⟨zc_neJ s9 (by decide), (List.forall_mem_cons.mpr ⟨zc_neJ s10 (by decide), (fun _ hm => nomatch hm)⟩)⟩)⟩)⟩)⟩)⟩)⟩) ?_
  refine zc_iconst (pc := 98) (0 : Int32) dX11_goesOf_98 (by decide) ?_
  exact zc_iretK (pc := 99) dX11_goesOf_99 rfl ⟨_, rfl, rfl⟩
def zf_X11_bringsOf (x1 : Int32) (h : zHp) : Option Int32 :=
  (if zc_ix x1 7 then ((some (h.1 62 x1.toNatClampNeg) : Option Int32).bind (fun v2 => (if zc_ix x1 7 then (if (h.1 61 x1.toNatClampNeg) = (0 : Int32) then some (3 : Int32) else (if (h.1 61 x1.toNatClampNeg) = (1 : Int32) then some v2 else (if (h.1 61 x1.toNatClampNeg) = (4 : Int32) then some (v2 + (1 : Int32)) else (if (h.1 61 x1.toNatClampNeg) = (5 : Int32) then some (v2 / (2 : Int32)) else (if (h.1 61 x1.toNatClampNeg) = (6 : Int32) then some (9 : Int32) else some (2 : Int32)))))) else none))) else none)
set_option maxRecDepth 100000 in
set_option maxHeartbeats 4000000 in
theorem zt_X11_bringsOf (x1 : Int32) (h : zHp) {r : Int32} (hr : (zf_X11_bringsOf x1 h) = some r) : zc_Cn zM_X11_bringsOf [.ref 60, .int x1] h ((fun r => zc_mI (r, h)) r) := by
  refine zc_meth (mk := (fun r => zc_mI (r, h))) (o := (zf_X11_bringsOf x1 h)) (by decide +kernel) (Nat.le_of_ble_eq_true rfl) ?_ hr
  unfold zf_X11_bringsOf
  refine zc_sL (ls1 := [some (.ref 60), some (.int x1), none]) rfl ?_
  refine zc_aload_n (pc := 0) dX11_bringsOf_0 rfl rfl ?_
  refine zc_getC (pc := 1) zF_X11_13 rfl dX11_bringsOf_1 ?_
  refine zc_iload_n (pc := 4) dX11_bringsOf_4 rfl rfl ?_
  refine zc_guard (fun g1 => ?_)
  refine zc_aldi (pc := 5) rfl g1 dX11_bringsOf_5 ?_
  refine zc_letI (fun v2 _ => ?_)
  refine zc_istore_n (pc := 6) dX11_bringsOf_6 rfl (Nat.le_of_ble_eq_true rfl) rfl (Nat.le_of_ble_eq_true rfl) ?_
  refine zc_sL (ls1 := [some (.ref 60), some (.int x1), some (.int v2)]) rfl ?_
  refine zc_aload_n (pc := 7) dX11_bringsOf_7 rfl rfl ?_
  refine zc_getC (pc := 8) zF_X11_7 rfl dX11_bringsOf_8 ?_
  refine zc_iload_n (pc := 11) dX11_bringsOf_11 rfl rfl ?_
  refine zc_guard (fun g3 => ?_)
  refine zc_aldi (pc := 12) rfl g3 dX11_bringsOf_12 ?_
  refine zc_sw (fun s4 => ?_) (fun s4 => ?_)
  · refine zc_tblIn (pc := 13) (off := 43) 56 s4 dX11_bringsOf_13 (by decide) ?_
    refine zc_iconst (pc := 56) (3 : Int32) dX11_bringsOf_56 (by decide) ?_
    exact zc_iretK (pc := 57) dX11_bringsOf_57 rfl ⟨_, rfl, rfl⟩
  refine zc_sw (fun s5 => ?_) (fun s5 => ?_)
  · refine zc_tblIn (pc := 13) (off := 45) 58 s5 dX11_bringsOf_13 (by decide) ?_
    refine zc_iload_n (pc := 58) dX11_bringsOf_58 rfl rfl ?_
    exact zc_iretK (pc := 59) dX11_bringsOf_59 rfl ⟨_, rfl, rfl⟩
  refine zc_sw (fun s6 => ?_) (fun s6 => ?_)
  · refine zc_tblIn (pc := 13) (off := 47) 60 s6 dX11_bringsOf_13 (by decide) ?_
    refine zc_iload_n (pc := 60) dX11_bringsOf_60 rfl rfl ?_
    refine zc_iconst (pc := 61) (1 : Int32) dX11_bringsOf_61 (by decide) ?_
    refine zc_iadd (pc := 62) dX11_bringsOf_62 ?_
    exact zc_iretK (pc := 63) dX11_bringsOf_63 rfl ⟨_, rfl, rfl⟩
  refine zc_sw (fun s7 => ?_) (fun s7 => ?_)
  · refine zc_tblIn (pc := 13) (off := 51) 64 s7 dX11_bringsOf_13 (by decide) ?_
    refine zc_iload_n (pc := 64) dX11_bringsOf_64 rfl rfl ?_
    refine zc_iconst (pc := 65) (2 : Int32) dX11_bringsOf_65 (by decide) ?_
    refine zc_idiv (pc := 66) dX11_bringsOf_66 (by decide) ?_
    exact zc_iretK (pc := 67) dX11_bringsOf_67 rfl ⟨_, rfl, rfl⟩
  refine zc_sw (fun s8 => ?_) (fun s8 => ?_)
  · refine zc_tblIn (pc := 13) (off := 55) 68 s8 dX11_bringsOf_13 (by decide) ?_
    refine zc_bipush (pc := 68) (9 : Int32) dX11_bringsOf_68 (by decide) ?_
    exact zc_iretK (pc := 70) dX11_bringsOf_70 rfl ⟨_, rfl, rfl⟩
  refine zc_tblD (pc := 13) 71 [0, 1, 4, 5, 6] dX11_bringsOf_13 (by decide) (List.forall_mem_cons.mpr ⟨zc_neJ s4 (by decide), (List.forall_mem_cons.mpr ⟨zc_neJ s5 (by decide), (List.forall_mem_cons.mpr ⟨zc_neJ s6 (by decide), (List.forall_mem_cons.mpr ⟨zc_neJ s7 (by decide), (List.forall_mem_cons.mpr ⟨zc_neJ s8 (by decide), (fun _ hm => nomatch hm)⟩)⟩)⟩)⟩)⟩) ?_
  refine zc_iconst (pc := 71) (2 : Int32) dX11_bringsOf_71 (by decide) ?_
  exact zc_iretK (pc := 72) dX11_bringsOf_72 rfl ⟨_, rfl, rfl⟩
def zf_X11_eatsOf (x1 : Int32) (h : zHp) : Option Int32 :=
  (if zc_ix x1 7 then ((some ((1 : Int32) + ((h.1 62 x1.toNatClampNeg) / (3 : Int32))) : Option Int32).bind (fun v2 => (if zc_ix x1 7 then (if (h.1 61 x1.toNatClampNeg) = (0 : Int32) then some (2 : Int32) else (if (h.1 61 x1.toNatClampNeg) = (2 : Int32) then some (2 : Int32) else (if (h.1 61 x1.toNatClampNeg) = (3 : Int32) then some (0 : Int32) else (if (h.1 61 x1.toNatClampNeg) = (4 : Int32) then some v2 else (if (h.1 61 x1.toNatClampNeg) = (6 : Int32) then some ((2 : Int32) * v2) else some (1 : Int32)))))) else none))) else none)
set_option maxRecDepth 100000 in
set_option maxHeartbeats 4000000 in
theorem zt_X11_eatsOf (x1 : Int32) (h : zHp) {r : Int32} (hr : (zf_X11_eatsOf x1 h) = some r) : zc_Cn zM_X11_eatsOf [.ref 60, .int x1] h ((fun r => zc_mI (r, h)) r) := by
  refine zc_meth (mk := (fun r => zc_mI (r, h))) (o := (zf_X11_eatsOf x1 h)) (by decide +kernel) (Nat.le_of_ble_eq_true rfl) ?_ hr
  unfold zf_X11_eatsOf
  refine zc_sL (ls1 := [some (.ref 60), some (.int x1), none]) rfl ?_
  refine zc_iconst (pc := 0) (1 : Int32) dX11_eatsOf_0 (by decide) ?_
  refine zc_aload_n (pc := 1) dX11_eatsOf_1 rfl rfl ?_
  refine zc_getC (pc := 2) zF_X11_13 rfl dX11_eatsOf_2 ?_
  refine zc_iload_n (pc := 5) dX11_eatsOf_5 rfl rfl ?_
  refine zc_guard (fun g1 => ?_)
  refine zc_aldi (pc := 6) rfl g1 dX11_eatsOf_6 ?_
  refine zc_iconst (pc := 7) (3 : Int32) dX11_eatsOf_7 (by decide) ?_
  refine zc_idiv (pc := 8) dX11_eatsOf_8 (by decide) ?_
  refine zc_iadd (pc := 9) dX11_eatsOf_9 ?_
  refine zc_letI (fun v2 _ => ?_)
  refine zc_istore_n (pc := 10) dX11_eatsOf_10 rfl (Nat.le_of_ble_eq_true rfl) rfl (Nat.le_of_ble_eq_true rfl) ?_
  refine zc_sL (ls1 := [some (.ref 60), some (.int x1), some (.int v2)]) rfl ?_
  refine zc_aload_n (pc := 11) dX11_eatsOf_11 rfl rfl ?_
  refine zc_getC (pc := 12) zF_X11_7 rfl dX11_eatsOf_12 ?_
  refine zc_iload_n (pc := 15) dX11_eatsOf_15 rfl rfl ?_
  refine zc_guard (fun g3 => ?_)
  refine zc_aldi (pc := 16) rfl g3 dX11_eatsOf_16 ?_
  refine zc_sw (fun s4 => ?_) (fun s4 => ?_)
  · refine zc_tblIn (pc := 17) (off := 43) 60 s4 dX11_eatsOf_17 (by decide) ?_
    refine zc_iconst (pc := 60) (2 : Int32) dX11_eatsOf_60 (by decide) ?_
    exact zc_iretK (pc := 61) dX11_eatsOf_61 rfl ⟨_, rfl, rfl⟩
  refine zc_sw (fun s5 => ?_) (fun s5 => ?_)
  · refine zc_tblIn (pc := 17) (off := 43) 60 s5 dX11_eatsOf_17 (by decide) ?_
    refine zc_iconst (pc := 60) (2 : Int32) dX11_eatsOf_60 (by decide) ?_
    exact zc_iretK (pc := 61) dX11_eatsOf_61 rfl ⟨_, rfl, rfl⟩
  refine zc_sw (fun s6 => ?_) (fun s6 => ?_)
  · refine zc_tblIn (pc := 17) (off := 45) 62 s6 dX11_eatsOf_17 (by decide) ?_
    refine zc_iconst (pc := 62) (0 : Int32) dX11_eatsOf_62 (by decide) ?_
    exact zc_iretK (pc := 63) dX11_eatsOf_63 rfl ⟨_, rfl, rfl⟩
  refine zc_sw (fun s7 => ?_) (fun s7 => ?_)
  · refine zc_tblIn (pc := 17) (off := 47) 64 s7 dX11_eatsOf_17 (by decide) ?_
    refine zc_iload_n (pc := 64) dX11_eatsOf_64 rfl rfl ?_
    exact zc_iretK (pc := 65) dX11_eatsOf_65 rfl ⟨_, rfl, rfl⟩
  refine zc_sw (fun s8 => ?_) (fun s8 => ?_)
  · refine zc_tblIn (pc := 17) (off := 49) 66 s8 dX11_eatsOf_17 (by decide) ?_
    refine zc_iconst (pc := 66) (2 : Int32) dX11_eatsOf_66 (by decide) ?_
    refine zc_iload_n (pc := 67) dX11_eatsOf_67 rfl rfl ?_
    refine zc_imul (pc := 68) dX11_eatsOf_68 ?_
    exact zc_iretK (pc := 69) dX11_eatsOf_69 rfl ⟨_, rfl, rfl⟩
  refine zc_tblD (pc := 17) 70 [0, 2, 3, 4, 6] dX11_eatsOf_17 (by decide) (List.forall_mem_cons.mpr ⟨zc_neJ s4 (by decide), (List.forall_mem_cons.mpr ⟨zc_neJ s5 (by decide), (List.forall_mem_cons.mpr ⟨zc_neJ s6 (by decide), (List.forall_mem_cons.mpr ⟨zc_neJ s7 (by decide), (List.forall_mem_cons.mpr ⟨zc_neJ s8 (by decide), (fun _ hm => nomatch hm)⟩)⟩)⟩)⟩)⟩) ?_
  refine zc_iconst (pc := 70) (1 : Int32) dX11_eatsOf_70 (by decide) ?_
  exact zc_iretK (pc := 71) dX11_eatsOf_71 rfl ⟨_, rfl, rfl⟩
def zf_X11_isNodding (x1 : Int32) (h : zHp) : Option Int32 :=
  (if zc_ix x1 7 then (if (h.1 61 x1.toNatClampNeg) = (2 : Int32) then some (0 : Int32) else (if zc_ix x1 7 then (if (h.1 61 x1.toNatClampNeg) = (3 : Int32) then some (0 : Int32) else (if zc_ix x1 7 then (if (h.1 61 x1.toNatClampNeg) = (7 : Int32) then some (0 : Int32) else some (1 : Int32)) else none)) else none)) else none)
set_option maxRecDepth 100000 in
set_option maxHeartbeats 4000000 in
theorem zt_X11_isNodding (x1 : Int32) (h : zHp) {r : Int32} (hr : (zf_X11_isNodding x1 h) = some r) : zc_Cn zM_X11_isNodding [.ref 60, .int x1] h ((fun r => zc_mI (r, h)) r) := by
  refine zc_meth (mk := (fun r => zc_mI (r, h))) (o := (zf_X11_isNodding x1 h)) (by decide +kernel) (Nat.le_of_ble_eq_true rfl) ?_ hr
  unfold zf_X11_isNodding
  refine zc_sL (ls1 := [some (.ref 60), some (.int x1)]) rfl ?_
  refine zc_aload_n (pc := 0) dX11_isNodding_0 rfl rfl ?_
  refine zc_getC (pc := 1) zF_X11_7 rfl dX11_isNodding_1 ?_
  refine zc_iload_n (pc := 4) dX11_isNodding_4 rfl rfl ?_
  refine zc_guard (fun g1 => ?_)
  refine zc_aldi (pc := 5) rfl g1 dX11_isNodding_5 ?_
  refine zc_iconst (pc := 6) (2 : Int32) dX11_isNodding_6 (by decide) ?_
  refine zc_icmp_eq (pc := 7) 35 dX11_isNodding_7 (by decide) (fun _ => ?_) (fun _ => ?_)
  · refine zc_iconst (pc := 35) (0 : Int32) dX11_isNodding_35 (by decide) ?_
    exact zc_zretK (pc := 36) dX11_isNodding_36 rfl (by decide) ⟨_, rfl, rfl⟩
  · refine zc_aload_n (pc := 10) dX11_isNodding_10 rfl rfl ?_
    refine zc_getC (pc := 11) zF_X11_7 rfl dX11_isNodding_11 ?_
    refine zc_iload_n (pc := 14) dX11_isNodding_14 rfl rfl ?_
    refine zc_guard (fun g2 => ?_)
    refine zc_aldi (pc := 15) rfl g2 dX11_isNodding_15 ?_
    refine zc_iconst (pc := 16) (3 : Int32) dX11_isNodding_16 (by decide) ?_
    refine zc_icmp_eq (pc := 17) 35 dX11_isNodding_17 (by decide) (fun _ => ?_) (fun _ => ?_)
    · refine zc_iconst (pc := 35) (0 : Int32) dX11_isNodding_35 (by decide) ?_
      exact zc_zretK (pc := 36) dX11_isNodding_36 rfl (by decide) ⟨_, rfl, rfl⟩
    · refine zc_aload_n (pc := 20) dX11_isNodding_20 rfl rfl ?_
      refine zc_getC (pc := 21) zF_X11_7 rfl dX11_isNodding_21 ?_
      refine zc_iload_n (pc := 24) dX11_isNodding_24 rfl rfl ?_
      refine zc_guard (fun g3 => ?_)
      refine zc_aldi (pc := 25) rfl g3 dX11_isNodding_25 ?_
      refine zc_bipush (pc := 26) (7 : Int32) dX11_isNodding_26 (by decide) ?_
      refine zc_icmp_eq (pc := 28) 35 dX11_isNodding_28 (by decide) (fun _ => ?_) (fun _ => ?_)
      · refine zc_iconst (pc := 35) (0 : Int32) dX11_isNodding_35 (by decide) ?_
        exact zc_zretK (pc := 36) dX11_isNodding_36 rfl (by decide) ⟨_, rfl, rfl⟩
      · refine zc_iconst (pc := 31) (1 : Int32) dX11_isNodding_31 (by decide) ?_
        refine zc_goto (pc := 32) 36 dX11_isNodding_32 (by decide) ?_
        exact zc_zretK (pc := 36) dX11_isNodding_36 rfl (by decide) ⟨_, rfl, rfl⟩
def zf_X11_isFetching (x1 : Int32) (h : zHp) : Option Int32 :=
  (if zc_ix x1 7 then (if (h.1 64 x1.toNatClampNeg) = x1 then some (0 : Int32) else (if zc_ix x1 7 then (if (h.1 60 3) ≤ (h.1 64 x1.toNatClampNeg) then some (0 : Int32) else some (1 : Int32)) else none)) else none)
set_option maxRecDepth 100000 in
set_option maxHeartbeats 4000000 in
theorem zt_X11_isFetching (x1 : Int32) (h : zHp) {r : Int32} (hr : (zf_X11_isFetching x1 h) = some r) : zc_Cn zM_X11_isFetching [.ref 60, .int x1] h ((fun r => zc_mI (r, h)) r) := by
  refine zc_meth (mk := (fun r => zc_mI (r, h))) (o := (zf_X11_isFetching x1 h)) (by decide +kernel) (Nat.le_of_ble_eq_true rfl) ?_ hr
  unfold zf_X11_isFetching
  refine zc_sL (ls1 := [some (.ref 60), some (.int x1)]) rfl ?_
  refine zc_aload_n (pc := 0) dX11_isFetching_0 rfl rfl ?_
  refine zc_getC (pc := 1) zF_X11_19 rfl dX11_isFetching_1 ?_
  refine zc_iload_n (pc := 4) dX11_isFetching_4 rfl rfl ?_
  refine zc_guard (fun g1 => ?_)
  refine zc_aldi (pc := 5) rfl g1 dX11_isFetching_5 ?_
  refine zc_iload_n (pc := 6) dX11_isFetching_6 rfl rfl ?_
  refine zc_icmp_eq (pc := 7) 27 dX11_isFetching_7 (by decide) (fun _ => ?_) (fun _ => ?_)
  · refine zc_iconst (pc := 27) (0 : Int32) dX11_isFetching_27 (by decide) ?_
    exact zc_zretK (pc := 28) dX11_isFetching_28 rfl (by decide) ⟨_, rfl, rfl⟩
  · refine zc_aload_n (pc := 10) dX11_isFetching_10 rfl rfl ?_
    refine zc_getC (pc := 11) zF_X11_19 rfl dX11_isFetching_11 ?_
    refine zc_iload_n (pc := 14) dX11_isFetching_14 rfl rfl ?_
    refine zc_guard (fun g2 => ?_)
    refine zc_aldi (pc := 15) rfl g2 dX11_isFetching_15 ?_
    refine zc_aload_n (pc := 16) dX11_isFetching_16 rfl rfl ?_
    refine zc_getI (pc := 17) zF_X11_84 rfl dX11_isFetching_17 ?_
    refine zc_icmp_ge (pc := 20) 27 dX11_isFetching_20 (by decide) (fun _ => ?_) (fun _ => ?_)
    · refine zc_iconst (pc := 27) (0 : Int32) dX11_isFetching_27 (by decide) ?_
      exact zc_zretK (pc := 28) dX11_isFetching_28 rfl (by decide) ⟨_, rfl, rfl⟩
    · refine zc_iconst (pc := 23) (1 : Int32) dX11_isFetching_23 (by decide) ?_
      refine zc_goto (pc := 24) 28 dX11_isFetching_24 (by decide) ?_
      exact zc_zretK (pc := 28) dX11_isFetching_28 rfl (by decide) ⟨_, rfl, rfl⟩
def zf_X11_isAble (x1 : Int32) (h : zHp) : Option Int32 :=
  ((zf_X11_isFetching x1 h).bind (fun r1 => (if r1 = 0 then some (0 : Int32) else (if zc_ix x1 7 then (if zc_ix (h.1 64 x1.toNatClampNeg) 7 then ((zf_X11_wayOf x1 (h.1 63 (h.1 64 x1.toNatClampNeg).toNatClampNeg) h).bind (fun r4 => ((zf_X11_goesOf x1 h).bind (fun r5 => (if r5 < r4 then some (0 : Int32) else some (1 : Int32)))))) else none) else none))))
set_option maxRecDepth 100000 in
set_option maxHeartbeats 4000000 in
theorem zt_X11_isAble (x1 : Int32) (h : zHp) {r : Int32} (hr : (zf_X11_isAble x1 h) = some r) : zc_Cn zM_X11_isAble [.ref 60, .int x1] h ((fun r => zc_mI (r, h)) r) := by
  refine zc_meth (mk := (fun r => zc_mI (r, h))) (o := (zf_X11_isAble x1 h)) (by decide +kernel) (Nat.le_of_ble_eq_true rfl) ?_ hr
  unfold zf_X11_isAble
  refine zc_sL (ls1 := [some (.ref 60), some (.int x1)]) rfl ?_
  refine zc_aload_n (pc := 0) dX11_isAble_0 rfl rfl ?_
  refine zc_iload_n (pc := 1) dX11_isAble_1 rfl rfl ?_
  refine zc_callIp (pc := 2) [.ref 60, .int x1] rfl (zc_runV (ci := 11) (n0 := 0) (q := (RX11, TX11, 35)) zo_X11_isFetching ⟨Nat.le_of_ble_eq_true rfl, Nat.le_of_ble_eq_true rfl⟩ zw_1140 zw_1142 zs_33 rfl (by decide) rfl rfl dX11_isAble_2) (Nat.le_of_ble_eq_true rfl) (fun _ hr => zt_X11_isFetching x1 h hr) (fun r1 => ?_)
  refine zc_if_eq (pc := 5) 36 dX11_isAble_5 (by decide) (fun _ => ?_) (fun _ => ?_)
  · refine zc_iconst (pc := 36) (0 : Int32) dX11_isAble_36 (by decide) ?_
    exact zc_zretK (pc := 37) dX11_isAble_37 rfl (by decide) ⟨_, rfl, rfl⟩
  · refine zc_aload_n (pc := 8) dX11_isAble_8 rfl rfl ?_
    refine zc_iload_n (pc := 9) dX11_isAble_9 rfl rfl ?_
    refine zc_aload_n (pc := 10) dX11_isAble_10 rfl rfl ?_
    refine zc_getC (pc := 11) zF_X11_16 rfl dX11_isAble_11 ?_
    refine zc_aload_n (pc := 14) dX11_isAble_14 rfl rfl ?_
    refine zc_getC (pc := 15) zF_X11_19 rfl dX11_isAble_15 ?_
    refine zc_iload_n (pc := 18) dX11_isAble_18 rfl rfl ?_
    refine zc_guard (fun g2 => ?_)
    refine zc_aldi (pc := 19) rfl g2 dX11_isAble_19 ?_
    refine zc_guard (fun g3 => ?_)
    refine zc_aldi (pc := 20) rfl g3 dX11_isAble_20 ?_
    refine zc_callIp (pc := 21) [.ref 60, .int x1, .int (h.1 63 (h.1 64 x1.toNatClampNeg).toNatClampNeg)] rfl (zc_runV (ci := 11) (n0 := 0) (q := (RX11, TX11, 35)) zo_X11_wayOf ⟨Nat.le_of_ble_eq_true rfl, Nat.le_of_ble_eq_true rfl⟩ zw_1144 zw_1146 zs_34 rfl (by decide) rfl rfl dX11_isAble_21) (Nat.le_of_ble_eq_true rfl) (fun _ hr => zt_X11_wayOf x1 (h.1 63 (h.1 64 x1.toNatClampNeg).toNatClampNeg) h hr) (fun r4 => ?_)
    refine zc_aload_n (pc := 24) dX11_isAble_24 rfl rfl ?_
    refine zc_iload_n (pc := 25) dX11_isAble_25 rfl rfl ?_
    refine zc_callIp (pc := 26) [.ref 60, .int x1] rfl (zc_runV (ci := 11) (n0 := 0) (q := (RX11, TX11, 35)) zo_X11_goesOf ⟨Nat.le_of_ble_eq_true rfl, Nat.le_of_ble_eq_true rfl⟩ zw_1154 zw_1156 zs_35 rfl (by decide) rfl rfl dX11_isAble_26) (Nat.le_of_ble_eq_true rfl) (fun _ hr => zt_X11_goesOf x1 h hr) (fun r5 => ?_)
    refine zc_icmp_gt (pc := 29) 36 dX11_isAble_29 (by decide) (fun _ => ?_) (fun _ => ?_)
    · refine zc_iconst (pc := 36) (0 : Int32) dX11_isAble_36 (by decide) ?_
      exact zc_zretK (pc := 37) dX11_isAble_37 rfl (by decide) ⟨_, rfl, rfl⟩
    · refine zc_iconst (pc := 32) (1 : Int32) dX11_isAble_32 (by decide) ?_
      refine zc_goto (pc := 33) 37 dX11_isAble_33 (by decide) ?_
      exact zc_zretK (pc := 37) dX11_isAble_37 rfl (by decide) ⟨_, rfl, rfl⟩
def zl_X11_dayBy_56  : Nat → Int32 → zHp → Option zHp
  | 0, _, _ => none
  | fu + 1, y4, h5 => (if (h5.1 60 3) ≤ y4 then some h5 else ((zf_X11_isAble y4 h5).bind (fun r6 => (((if r6 = 0 then some h5 else (if zc_ix y4 7 then ((some (h5.1 64 y4.toNatClampNeg) : Option Int32).bind (fun v8 => ((zf_X11_bringsOf y4 h5).bind (fun r9 => (if zc_ix v8 7 then (((if (h5.1 65 v8.toNatClampNeg) ≤ r9 then (if zc_ix v8 7 then some (h5.1 65 v8.toNatClampNeg) else none) else ((zf_X11_bringsOf y4 h5).bind (fun r12 => some r12))) : Option Int32).bind (fun v13 => (if zc_ix v8 7 then (if zc_ix v8 7 then ((some (zc_ui h5 65 v8.toNatClampNeg ((h5.1 65 v8.toNatClampNeg) - v13)) : Option zHp).bind (fun h16 => (if zc_ix y4 7 then ((zf_X11_held ((h16.1 65 y4.toNatClampNeg) + v13) (99 : Int32)).bind (fun r18 => (if zc_ix y4 7 then ((some (zc_ui h16 65 y4.toNatClampNeg r18) : Option zHp).bind (fun h20 => ((zf_X11_isNodding y4 h20).bind (fun r21 => (((if r21 = 0 then some (0 : Int32) else some (1 : Int32)) : Option Int32).bind (fun v22 => ((zf_X11_held ((h20.1 60 9) + v22) (9999 : Int32)).bind (fun r23 => ((some (zc_ui h20 60 9 r23) : Option zHp).bind (fun h24 => some h24)))))))))) else none))) else none))) else none) else none))) else none))))) else none)) : Option zHp).bind (fun v25 => (if zc_ix y4 7 then ((zf_X11_eatsOf y4 v25).bind (fun r27 => ((zf_X11_held ((v25.1 65 y4.toNatClampNeg) - r27) (99 : Int32)).bind (fun r28 => (if zc_ix y4 7 then ((some (zc_ui v25 65 y4.toNatClampNeg r28) : Option zHp).bind (fun h30 => zl_X11_dayBy_56 fu (y4 + (1 : Int32)) h30)) else none))))) else none))))))
def zf_X11_dayBy (x1 : Int32) (h : zHp) : Option zHp :=
  ((some (zc_ui h 60 10 ((h.1 60 10) + (1 : Int32))) : Option zHp).bind (fun h1 => (((if ((h1.1 60 10) - (h1.1 60 10) / (12 : Int32) * (12 : Int32)) = 0 then some (h1.1 60 2) else (if x1 = 0 then some (((h1.1 60 0) + (h1.1 60 1)) - ((h1.1 60 0) + (h1.1 60 1)) / (12 : Int32) * (12 : Int32)) else some (h1.1 60 0))) : Option Int32).bind (fun v2 => ((some (zc_ui h1 60 0 v2) : Option zHp).bind (fun h3 => ((zl_X11_dayBy_56 zFU (0 : Int32) h3).bind (fun v31 => some v31))))))))
set_option maxRecDepth 100000 in
set_option maxHeartbeats 4000000 in
theorem zt_X11_dayBy (x1 : Int32) (h : zHp) {r : zHp} (hr : (zf_X11_dayBy x1 h) = some r) : zc_Cn zM_X11_dayBy [.ref 60, .int x1] h (zc_mV r) := by
  refine zc_meth (mk := zc_mV) (o := (zf_X11_dayBy x1 h)) (by decide +kernel) (Nat.le_of_ble_eq_true rfl) ?_ hr
  unfold zf_X11_dayBy
  refine zc_sL (ls1 := [some (.ref 60), some (.int x1), none, none, none]) rfl ?_
  refine zc_aload_n (pc := 0) dX11_dayBy_0 rfl rfl ?_
  refine zc_dup (pc := 1) dX11_dayBy_1 rfl ?_
  refine zc_getI (pc := 2) zF_X11_97 rfl dX11_dayBy_2 ?_
  refine zc_iconst (pc := 5) (1 : Int32) dX11_dayBy_5 (by decide) ?_
  refine zc_iadd (pc := 6) dX11_dayBy_6 ?_
  refine zc_putI (pc := 7) zF_X11_97 rfl dX11_dayBy_7 ?_
  refine zc_letH (fun h1 _ => ?_)
  refine zc_aload_n (pc := 10) dX11_dayBy_10 rfl rfl ?_
  refine zc_aload_n (pc := 11) dX11_dayBy_11 rfl rfl ?_
  refine zc_getI (pc := 12) zF_X11_97 rfl dX11_dayBy_12 ?_
  refine zc_bipush (pc := 15) (12 : Int32) dX11_dayBy_15 (by decide) ?_
  refine zc_irem (pc := 17) dX11_dayBy_17 (by decide) ?_
  refine zc_join 51 (fun v2 => [some (.ref 60), none, none, none, none]) (fun v2 => [.int v2, .ref 60]) (fun v2 => h1) (fun v2 => ?_) (fun J32 => ?_)
  · refine zc_putI (pc := 51) zF_X11_91 rfl dX11_dayBy_51 ?_
    refine zc_letH (fun h3 _ => ?_)
    refine zc_iconst (pc := 54) (0 : Int32) dX11_dayBy_54 (by decide) ?_
    refine zc_istore_n (pc := 55) dX11_dayBy_55 rfl (Nat.le_of_ble_eq_true rfl) rfl (Nat.le_of_ble_eq_true rfl) ?_
    refine zc_sL (ls1 := [some (.ref 60), none, some (.int (0 : Int32)), none, none]) rfl ?_
    refine zc_sL (ls1 := [some (.ref 60), none, some (.int (0 : Int32)), none, none]) rfl ?_
    refine zc_loop 197 (fun v31 => [none, none, none, none, none]) (fun v31 => []) (fun v31 => v31) (fun v31 => ?_) (fun k34 J33 => ?_)
    · exact zc_vretK (pc := 197) dX11_dayBy_197 rfl ⟨_, rfl, rfl⟩
    · have L36 : ∀ (fu : Nat) (y4 : Int32) (h5 : zHp), zc_G zM_X11_dayBy zc_mV 56 [some (.ref 60), none, some (.int y4), none, none] [] h5 ((zl_X11_dayBy_56 fu y4 h5).bind k34) := by
          intro fu
          induction fu with
          | zero => intros; exact zc_noneb
          | succ fu ih37 =>
            intro y4 h5
            unfold zl_X11_dayBy_56
            refine zc_iload_n (pc := 56) dX11_dayBy_56 rfl rfl ?_
            refine zc_aload_n (pc := 57) dX11_dayBy_57 rfl rfl ?_
            refine zc_getI (pc := 58) zF_X11_84 rfl dX11_dayBy_58 ?_
            refine zc_icmp_ge (pc := 61) 197 dX11_dayBy_61 (by decide) (fun _ => ?_) (fun _ => ?_)
            · refine zc_drop 0 ?_
              refine zc_drop 2 ?_
              exact J33 h5
            · refine zc_aload_n (pc := 64) dX11_dayBy_64 rfl rfl ?_
              refine zc_iload_n (pc := 65) dX11_dayBy_65 rfl rfl ?_
              refine zc_callIp (pc := 66) [.ref 60, .int y4] rfl (zc_runV (ci := 11) (n0 := 0) (q := (RX11, TX11, 35)) zo_X11_isAble ⟨Nat.le_of_ble_eq_true rfl, Nat.le_of_ble_eq_true rfl⟩ zw_1136 zw_1138 zs_32 rfl (by decide) rfl rfl dX11_dayBy_66) (Nat.le_of_ble_eq_true rfl) (fun _ hr => zt_X11_isAble y4 h5 hr) (fun r6 => ?_)
              refine zc_join 168 (fun v25 => [some (.ref 60), none, some (.int y4), none, none]) (fun v25 => []) (fun v25 => v25) (fun v25 => ?_) (fun J38 => ?_)
              · refine zc_aload_n (pc := 168) dX11_dayBy_168 rfl rfl ?_
                refine zc_getC (pc := 169) zF_X11_22 rfl dX11_dayBy_169 ?_
                refine zc_iload_n (pc := 172) dX11_dayBy_172 rfl rfl ?_
                refine zc_aload_n (pc := 173) dX11_dayBy_173 rfl rfl ?_
                refine zc_getC (pc := 174) zF_X11_22 rfl dX11_dayBy_174 ?_
                refine zc_iload_n (pc := 177) dX11_dayBy_177 rfl rfl ?_
                refine zc_guard (fun g26 => ?_)
                refine zc_aldi (pc := 178) rfl g26 dX11_dayBy_178 ?_
                refine zc_aload_n (pc := 179) dX11_dayBy_179 rfl rfl ?_
                refine zc_iload_n (pc := 180) dX11_dayBy_180 rfl rfl ?_
                refine zc_callIp (pc := 181) [.ref 60, .int y4] rfl (zc_runV (ci := 11) (n0 := 0) (q := (RX11, TX11, 35)) zo_X11_eatsOf ⟨Nat.le_of_ble_eq_true rfl, Nat.le_of_ble_eq_true rfl⟩ zw_1166 zw_1168 zs_38 rfl (by decide) rfl rfl dX11_dayBy_181) (Nat.le_of_ble_eq_true rfl) (fun _ hr => zt_X11_eatsOf y4 v25 hr) (fun r27 => ?_)
                refine zc_isub (pc := 184) dX11_dayBy_184 ?_
                refine zc_bipush (pc := 185) (99 : Int32) dX11_dayBy_185 (by decide) ?_
                refine zc_callIp (pc := 187) [.int ((v25.1 65 y4.toNatClampNeg) - r27), .int (99 : Int32)] rfl (zc_runS zo_X11_held ⟨Nat.le_of_ble_eq_true rfl, Nat.le_of_ble_eq_true rfl⟩ zw_1151 zw_1152 rfl dX11_dayBy_187) (Nat.le_of_ble_eq_true rfl) (fun _ hr => zt_X11_held ((v25.1 65 y4.toNatClampNeg) - r27) (99 : Int32) v25 hr) (fun r28 => ?_)
                refine zc_guard (fun g29 => ?_)
                refine zc_asti (pc := 190) rfl g29 dX11_dayBy_190 ?_
                refine zc_letH (fun h30 _ => ?_)
                refine zc_iinc (pc := 191) (1 : Int32) dX11_dayBy_191 (by decide) rfl (Nat.le_of_ble_eq_true rfl) rfl ?_
                refine zc_sL (ls1 := [some (.ref 60), none, some (.int (y4 + (1 : Int32))), none, none]) rfl ?_
                refine zc_goto (pc := 194) 56 dX11_dayBy_194 (by decide) ?_
                exact ih37 (y4 + (1 : Int32)) h30
              · refine zc_if_eq (pc := 69) 168 dX11_dayBy_69 (by decide) (fun _ => ?_) (fun _ => ?_)
                · exact J38 h5
                · refine zc_aload_n (pc := 72) dX11_dayBy_72 rfl rfl ?_
                  refine zc_getC (pc := 73) zF_X11_19 rfl dX11_dayBy_73 ?_
                  refine zc_iload_n (pc := 76) dX11_dayBy_76 rfl rfl ?_
                  refine zc_guard (fun g7 => ?_)
                  refine zc_aldi (pc := 77) rfl g7 dX11_dayBy_77 ?_
                  refine zc_letI (fun v8 _ => ?_)
                  refine zc_istore_n (pc := 78) dX11_dayBy_78 rfl (Nat.le_of_ble_eq_true rfl) rfl (Nat.le_of_ble_eq_true rfl) ?_
                  refine zc_sL (ls1 := [some (.ref 60), none, some (.int y4), some (.int v8), none]) rfl ?_
                  refine zc_aload_n (pc := 79) dX11_dayBy_79 rfl rfl ?_
                  refine zc_iload_n (pc := 80) dX11_dayBy_80 rfl rfl ?_
                  refine zc_callIp (pc := 81) [.ref 60, .int y4] rfl (zc_runV (ci := 11) (n0 := 0) (q := (RX11, TX11, 35)) zo_X11_bringsOf ⟨Nat.le_of_ble_eq_true rfl, Nat.le_of_ble_eq_true rfl⟩ zw_1158 zw_1160 zs_36 rfl (by decide) rfl rfl dX11_dayBy_81) (Nat.le_of_ble_eq_true rfl) (fun _ hr => zt_X11_bringsOf y4 h5 hr) (fun r9 => ?_)
                  refine zc_aload_n (pc := 84) dX11_dayBy_84 rfl rfl ?_
                  refine zc_getC (pc := 85) zF_X11_22 rfl dX11_dayBy_85 ?_
                  refine zc_iload_n (pc := 88) dX11_dayBy_88 rfl rfl ?_
                  refine zc_guard (fun g10 => ?_)
                  refine zc_aldi (pc := 89) rfl g10 dX11_dayBy_89 ?_
                  refine zc_join 107 (fun v13 => [some (.ref 60), none, some (.int y4), some (.int v8), none]) (fun v13 => [.int v13]) (fun v13 => h5) (fun v13 => ?_) (fun J39 => ?_)
                  · refine zc_istore (pc := 107) dX11_dayBy_107 (Nat.le_of_ble_eq_true rfl) rfl (Nat.le_of_ble_eq_true rfl) ?_
                    refine zc_sL (ls1 := [some (.ref 60), none, some (.int y4), some (.int v8), some (.int v13)]) rfl ?_
                    refine zc_aload_n (pc := 109) dX11_dayBy_109 rfl rfl ?_
                    refine zc_getC (pc := 110) zF_X11_22 rfl dX11_dayBy_110 ?_
                    refine zc_iload_n (pc := 113) dX11_dayBy_113 rfl rfl ?_
                    refine zc_dup2 (pc := 114) dX11_dayBy_114 rfl rfl ?_
                    refine zc_guard (fun g14 => ?_)
                    refine zc_aldi (pc := 115) rfl g14 dX11_dayBy_115 ?_
                    refine zc_iload (pc := 116) dX11_dayBy_116 rfl ?_
                    refine zc_isub (pc := 118) dX11_dayBy_118 ?_
                    refine zc_guard (fun g15 => ?_)
                    refine zc_asti (pc := 119) rfl g15 dX11_dayBy_119 ?_
                    refine zc_letH (fun h16 _ => ?_)
                    refine zc_aload_n (pc := 120) dX11_dayBy_120 rfl rfl ?_
                    refine zc_getC (pc := 121) zF_X11_22 rfl dX11_dayBy_121 ?_
                    refine zc_iload_n (pc := 124) dX11_dayBy_124 rfl rfl ?_
                    refine zc_aload_n (pc := 125) dX11_dayBy_125 rfl rfl ?_
                    refine zc_getC (pc := 126) zF_X11_22 rfl dX11_dayBy_126 ?_
                    refine zc_iload_n (pc := 129) dX11_dayBy_129 rfl rfl ?_
                    refine zc_guard (fun g17 => ?_)
                    refine zc_aldi (pc := 130) rfl g17 dX11_dayBy_130 ?_
                    refine zc_iload (pc := 131) dX11_dayBy_131 rfl ?_
                    refine zc_iadd (pc := 133) dX11_dayBy_133 ?_
                    refine zc_bipush (pc := 134) (99 : Int32) dX11_dayBy_134 (by decide) ?_
                    refine zc_callIp (pc := 136) [.int ((h16.1 65 y4.toNatClampNeg) + v13), .int (99 : Int32)] rfl (zc_runS zo_X11_held ⟨Nat.le_of_ble_eq_true rfl, Nat.le_of_ble_eq_true rfl⟩ zw_1151 zw_1152 rfl dX11_dayBy_136) (Nat.le_of_ble_eq_true rfl) (fun _ hr => zt_X11_held ((h16.1 65 y4.toNatClampNeg) + v13) (99 : Int32) h16 hr) (fun r18 => ?_)
                    refine zc_guard (fun g19 => ?_)
                    refine zc_asti (pc := 139) rfl g19 dX11_dayBy_139 ?_
                    refine zc_letH (fun h20 _ => ?_)
                    refine zc_aload_n (pc := 140) dX11_dayBy_140 rfl rfl ?_
                    refine zc_aload_n (pc := 141) dX11_dayBy_141 rfl rfl ?_
                    refine zc_getI (pc := 142) zF_X11_117 rfl dX11_dayBy_142 ?_
                    refine zc_aload_n (pc := 145) dX11_dayBy_145 rfl rfl ?_
                    refine zc_iload_n (pc := 146) dX11_dayBy_146 rfl rfl ?_
                    refine zc_callIp (pc := 147) [.ref 60, .int y4] rfl (zc_runV (ci := 11) (n0 := 0) (q := (RX11, TX11, 35)) zo_X11_isNodding ⟨Nat.le_of_ble_eq_true rfl, Nat.le_of_ble_eq_true rfl⟩ zw_1162 zw_1164 zs_37 rfl (by decide) rfl rfl dX11_dayBy_147) (Nat.le_of_ble_eq_true rfl) (fun _ hr => zt_X11_isNodding y4 h20 hr) (fun r21 => ?_)
                    refine zc_join 158 (fun v22 => [some (.ref 60), none, some (.int y4), none, none]) (fun v22 => [.int v22, .int (h20.1 60 9), .ref 60]) (fun v22 => h20) (fun v22 => ?_) (fun J40 => ?_)
                    · refine zc_iadd (pc := 158) dX11_dayBy_158 ?_
                      refine zc_sipush (pc := 159) (9999 : Int32) dX11_dayBy_159 (by decide) ?_
                      refine zc_callIp (pc := 162) [.int ((h20.1 60 9) + v22), .int (9999 : Int32)] rfl (zc_runS zo_X11_held ⟨Nat.le_of_ble_eq_true rfl, Nat.le_of_ble_eq_true rfl⟩ zw_1151 zw_1152 rfl dX11_dayBy_162) (Nat.le_of_ble_eq_true rfl) (fun _ hr => zt_X11_held ((h20.1 60 9) + v22) (9999 : Int32) h20 hr) (fun r23 => ?_)
                      refine zc_putI (pc := 165) zF_X11_117 rfl dX11_dayBy_165 ?_
                      refine zc_letH (fun h24 _ => ?_)
                      exact J38 h24
                    · refine zc_if_eq (pc := 150) 157 dX11_dayBy_150 (by decide) (fun _ => ?_) (fun _ => ?_)
                      · refine zc_iconst (pc := 157) (0 : Int32) dX11_dayBy_157 (by decide) ?_
                        refine zc_drop 3 ?_
                        refine zc_drop 4 ?_
                        exact J40 (0 : Int32)
                      · refine zc_iconst (pc := 153) (1 : Int32) dX11_dayBy_153 (by decide) ?_
                        refine zc_goto (pc := 154) 158 dX11_dayBy_154 (by decide) ?_
                        refine zc_drop 3 ?_
                        refine zc_drop 4 ?_
                        exact J40 (1 : Int32)
                  · refine zc_icmp_ge (pc := 90) 101 dX11_dayBy_90 (by decide) (fun _ => ?_) (fun _ => ?_)
                    · refine zc_aload_n (pc := 101) dX11_dayBy_101 rfl rfl ?_
                      refine zc_getC (pc := 102) zF_X11_22 rfl dX11_dayBy_102 ?_
                      refine zc_iload_n (pc := 105) dX11_dayBy_105 rfl rfl ?_
                      refine zc_guard (fun g11 => ?_)
                      refine zc_aldi (pc := 106) rfl g11 dX11_dayBy_106 ?_
                      exact J39 (h5.1 65 v8.toNatClampNeg)
                    · refine zc_aload_n (pc := 93) dX11_dayBy_93 rfl rfl ?_
                      refine zc_iload_n (pc := 94) dX11_dayBy_94 rfl rfl ?_
                      refine zc_callIp (pc := 95) [.ref 60, .int y4] rfl (zc_runV (ci := 11) (n0 := 0) (q := (RX11, TX11, 35)) zo_X11_bringsOf ⟨Nat.le_of_ble_eq_true rfl, Nat.le_of_ble_eq_true rfl⟩ zw_1158 zw_1160 zs_36 rfl (by decide) rfl rfl dX11_dayBy_95) (Nat.le_of_ble_eq_true rfl) (fun _ hr => zt_X11_bringsOf y4 h5 hr) (fun r12 => ?_)
                      refine zc_goto (pc := 98) 107 dX11_dayBy_98 (by decide) ?_
                      exact J39 r12
      exact L36 zFU (0 : Int32) h3
  · refine zc_if_ne (pc := 18) 28 dX11_dayBy_18 (by decide) (fun _ => ?_) (fun _ => ?_)
    · refine zc_aload_n (pc := 21) dX11_dayBy_21 rfl rfl ?_
      refine zc_getI (pc := 22) zF_X11_75 rfl dX11_dayBy_22 ?_
      refine zc_goto (pc := 25) 51 dX11_dayBy_25 (by decide) ?_
      refine zc_drop 1 ?_
      exact J32 (h1.1 60 2)
    · refine zc_iload_n (pc := 28) dX11_dayBy_28 rfl rfl ?_
      refine zc_if_eq (pc := 29) 39 dX11_dayBy_29 (by decide) (fun _ => ?_) (fun _ => ?_)
      · refine zc_aload_n (pc := 39) dX11_dayBy_39 rfl rfl ?_
        refine zc_getI (pc := 40) zF_X11_91 rfl dX11_dayBy_40 ?_
        refine zc_aload_n (pc := 43) dX11_dayBy_43 rfl rfl ?_
        refine zc_getI (pc := 44) zF_X11_72 rfl dX11_dayBy_44 ?_
        refine zc_iadd (pc := 47) dX11_dayBy_47 ?_
        refine zc_bipush (pc := 48) (12 : Int32) dX11_dayBy_48 (by decide) ?_
        refine zc_irem (pc := 50) dX11_dayBy_50 (by decide) ?_
        refine zc_drop 1 ?_
        exact J32 (((h1.1 60 0) + (h1.1 60 1)) - ((h1.1 60 0) + (h1.1 60 1)) / (12 : Int32) * (12 : Int32))
      · refine zc_aload_n (pc := 32) dX11_dayBy_32 rfl rfl ?_
        refine zc_getI (pc := 33) zF_X11_91 rfl dX11_dayBy_33 ?_
        refine zc_goto (pc := 36) 51 dX11_dayBy_36 (by decide) ?_
        refine zc_drop 1 ?_
        exact J32 (h1.1 60 0)
def zl_X11_goDays_2 (x1 : Int32) : Nat → Int32 → zHp → Option zHp
  | 0, _, _ => none
  | fu + 1, y1, h2 => (if x1 ≤ y1 then some h2 else ((zf_X11_dayBy (0 : Int32) h2).bind (fun r3 => zl_X11_goDays_2 x1 fu (y1 + (1 : Int32)) r3)))
def zf_X11_goDays (x1 : Int32) (h : zHp) : Option zHp :=
  ((zl_X11_goDays_2 x1 zFU (0 : Int32) h).bind (fun v4 => some v4))
set_option maxRecDepth 100000 in
set_option maxHeartbeats 4000000 in
theorem zt_X11_goDays (x1 : Int32) (h : zHp) {r : zHp} (hr : (zf_X11_goDays x1 h) = some r) : zc_Cn zM_X11_goDays [.ref 60, .int x1] h (zc_mV r) := by
  refine zc_meth (mk := zc_mV) (o := (zf_X11_goDays x1 h)) (by decide +kernel) (Nat.le_of_ble_eq_true rfl) ?_ hr
  unfold zf_X11_goDays
  refine zc_sL (ls1 := [some (.ref 60), some (.int x1), none]) rfl ?_
  refine zc_iconst (pc := 0) (0 : Int32) dX11_goDays_0 (by decide) ?_
  refine zc_istore_n (pc := 1) dX11_goDays_1 rfl (Nat.le_of_ble_eq_true rfl) rfl (Nat.le_of_ble_eq_true rfl) ?_
  refine zc_sL (ls1 := [some (.ref 60), some (.int x1), some (.int (0 : Int32))]) rfl ?_
  refine zc_sL (ls1 := [some (.ref 60), some (.int x1), some (.int (0 : Int32))]) rfl ?_
  refine zc_loop 18 (fun v4 => [none, none, none]) (fun v4 => []) (fun v4 => v4) (fun v4 => ?_) (fun k6 J5 => ?_)
  · exact zc_vretK (pc := 18) dX11_goDays_18 rfl ⟨_, rfl, rfl⟩
  · have L8 : ∀ (fu : Nat) (y1 : Int32) (h2 : zHp), zc_G zM_X11_goDays zc_mV 2 [some (.ref 60), some (.int x1), some (.int y1)] [] h2 ((zl_X11_goDays_2 x1 fu y1 h2).bind k6) := by
        intro fu
        induction fu with
        | zero => intros; exact zc_noneb
        | succ fu ih9 =>
          intro y1 h2
          unfold zl_X11_goDays_2
          refine zc_iload_n (pc := 2) dX11_goDays_2 rfl rfl ?_
          refine zc_iload_n (pc := 3) dX11_goDays_3 rfl rfl ?_
          refine zc_icmp_ge (pc := 4) 18 dX11_goDays_4 (by decide) (fun _ => ?_) (fun _ => ?_)
          · refine zc_drop 0 ?_
            refine zc_drop 1 ?_
            refine zc_drop 2 ?_
            exact J5 h2
          · refine zc_aload_n (pc := 7) dX11_goDays_7 rfl rfl ?_
            refine zc_iconst (pc := 8) (0 : Int32) dX11_goDays_8 (by decide) ?_
            refine zc_callV (pc := 9) [.ref 60, .int (0 : Int32)] rfl (zc_runV (ci := 11) (n0 := 0) (q := (RX11, TX11, 35)) zo_X11_dayBy ⟨Nat.le_of_ble_eq_true rfl, Nat.le_of_ble_eq_true rfl⟩ zw_1132 zw_1134 zs_31 rfl (by decide) rfl rfl dX11_goDays_9) (Nat.le_of_ble_eq_true rfl) (fun _ hr => zt_X11_dayBy (0 : Int32) h2 hr) (fun r3 => ?_)
            refine zc_iinc (pc := 12) (1 : Int32) dX11_goDays_12 (by decide) rfl (Nat.le_of_ble_eq_true rfl) rfl ?_
            refine zc_sL (ls1 := [some (.ref 60), some (.int x1), some (.int (y1 + (1 : Int32)))]) rfl ?_
            refine zc_goto (pc := 15) 2 dX11_goDays_15 (by decide) ?_
            exact ih9 (y1 + (1 : Int32)) r3
    exact L8 zFU (0 : Int32) h
def zl_X11_allStock_4 (h : zHp) : Nat → Int32 → Int32 → Option Int32
  | 0, _, _ => none
  | fu + 1, y1, y2 => (if (h.1 60 3) ≤ y2 then some y1 else (if zc_ix y2 7 then ((some (y1 + (h.1 65 y2.toNatClampNeg)) : Option Int32).bind (fun v4 => zl_X11_allStock_4 h fu v4 (y2 + (1 : Int32)))) else none))
def zf_X11_allStock (h : zHp) : Option Int32 :=
  ((zl_X11_allStock_4 h zFU (0 : Int32) (0 : Int32)).bind (fun v5 => some v5))
set_option maxRecDepth 100000 in
set_option maxHeartbeats 4000000 in
theorem zt_X11_allStock (h : zHp) {r : Int32} (hr : (zf_X11_allStock h) = some r) : zc_Cn zM_X11_allStock [.ref 60] h ((fun r => zc_mI (r, h)) r) := by
  refine zc_meth (mk := (fun r => zc_mI (r, h))) (o := (zf_X11_allStock h)) (by decide +kernel) (Nat.le_of_ble_eq_true rfl) ?_ hr
  unfold zf_X11_allStock
  refine zc_sL (ls1 := [some (.ref 60), none, none]) rfl ?_
  refine zc_iconst (pc := 0) (0 : Int32) dX11_allStock_0 (by decide) ?_
  refine zc_istore_n (pc := 1) dX11_allStock_1 rfl (Nat.le_of_ble_eq_true rfl) rfl (Nat.le_of_ble_eq_true rfl) ?_
  refine zc_sL (ls1 := [some (.ref 60), some (.int (0 : Int32)), none]) rfl ?_
  refine zc_iconst (pc := 2) (0 : Int32) dX11_allStock_2 (by decide) ?_
  refine zc_istore_n (pc := 3) dX11_allStock_3 rfl (Nat.le_of_ble_eq_true rfl) rfl (Nat.le_of_ble_eq_true rfl) ?_
  refine zc_sL (ls1 := [some (.ref 60), some (.int (0 : Int32)), some (.int (0 : Int32))]) rfl ?_
  refine zc_sL (ls1 := [some (.ref 60), some (.int (0 : Int32)), some (.int (0 : Int32))]) rfl ?_
  refine zc_loop 27 (fun v5 => [none, some (.int v5), none]) (fun v5 => []) (fun v5 => h) (fun v5 => ?_) (fun k7 J6 => ?_)
  · refine zc_iload_n (pc := 27) dX11_allStock_27 rfl rfl ?_
    exact zc_iretK (pc := 28) dX11_allStock_28 rfl ⟨_, rfl, rfl⟩
  · have L9 : ∀ (fu : Nat) (y1 : Int32) (y2 : Int32), zc_G zM_X11_allStock (fun r => zc_mI (r, h)) 4 [some (.ref 60), some (.int y1), some (.int y2)] [] h ((zl_X11_allStock_4 h fu y1 y2).bind k7) := by
        intro fu
        induction fu with
        | zero => intros; exact zc_noneb
        | succ fu ih10 =>
          intro y1 y2
          unfold zl_X11_allStock_4
          refine zc_iload_n (pc := 4) dX11_allStock_4 rfl rfl ?_
          refine zc_aload_n (pc := 5) dX11_allStock_5 rfl rfl ?_
          refine zc_getI (pc := 6) zF_X11_84 rfl dX11_allStock_6 ?_
          refine zc_icmp_ge (pc := 9) 27 dX11_allStock_9 (by decide) (fun _ => ?_) (fun _ => ?_)
          · refine zc_drop 0 ?_
            refine zc_drop 2 ?_
            exact J6 y1
          · refine zc_iload_n (pc := 12) dX11_allStock_12 rfl rfl ?_
            refine zc_aload_n (pc := 13) dX11_allStock_13 rfl rfl ?_
            refine zc_getC (pc := 14) zF_X11_22 rfl dX11_allStock_14 ?_
            refine zc_iload_n (pc := 17) dX11_allStock_17 rfl rfl ?_
            refine zc_guard (fun g3 => ?_)
            refine zc_aldi (pc := 18) rfl g3 dX11_allStock_18 ?_
            refine zc_iadd (pc := 19) dX11_allStock_19 ?_
            refine zc_letI (fun v4 _ => ?_)
            refine zc_istore_n (pc := 20) dX11_allStock_20 rfl (Nat.le_of_ble_eq_true rfl) rfl (Nat.le_of_ble_eq_true rfl) ?_
            refine zc_sL (ls1 := [some (.ref 60), some (.int v4), some (.int y2)]) rfl ?_
            refine zc_iinc (pc := 21) (1 : Int32) dX11_allStock_21 (by decide) rfl (Nat.le_of_ble_eq_true rfl) rfl ?_
            refine zc_sL (ls1 := [some (.ref 60), some (.int v4), some (.int (y2 + (1 : Int32)))]) rfl ?_
            refine zc_goto (pc := 24) 4 dX11_allStock_24 (by decide) ?_
            exact ih10 v4 (y2 + (1 : Int32))
    exact L9 zFU (0 : Int32) (0 : Int32)
def zl_X11_ableBits_4 (h : zHp) : Nat → Int32 → Int32 → Option Int32
  | 0, _, _ => none
  | fu + 1, y1, y2 => (if (h.1 60 3) ≤ y2 then some y1 else ((zf_X11_isAble y2 h).bind (fun r3 => (((if r3 = 0 then some (0 : Int32) else some ((1 : Int32) <<< (y2 &&& 31))) : Option Int32).bind (fun v4 => zl_X11_ableBits_4 h fu (y1 ||| v4) (y2 + (1 : Int32)))))))
def zf_X11_ableBits (h : zHp) : Option Int32 :=
  ((zl_X11_ableBits_4 h zFU (0 : Int32) (0 : Int32)).bind (fun v5 => some v5))
set_option maxRecDepth 100000 in
set_option maxHeartbeats 4000000 in
theorem zt_X11_ableBits (h : zHp) {r : Int32} (hr : (zf_X11_ableBits h) = some r) : zc_Cn zM_X11_ableBits [.ref 60] h ((fun r => zc_mI (r, h)) r) := by
  refine zc_meth (mk := (fun r => zc_mI (r, h))) (o := (zf_X11_ableBits h)) (by decide +kernel) (Nat.le_of_ble_eq_true rfl) ?_ hr
  unfold zf_X11_ableBits
  refine zc_sL (ls1 := [some (.ref 60), none, none]) rfl ?_
  refine zc_iconst (pc := 0) (0 : Int32) dX11_ableBits_0 (by decide) ?_
  refine zc_istore_n (pc := 1) dX11_ableBits_1 rfl (Nat.le_of_ble_eq_true rfl) rfl (Nat.le_of_ble_eq_true rfl) ?_
  refine zc_sL (ls1 := [some (.ref 60), some (.int (0 : Int32)), none]) rfl ?_
  refine zc_iconst (pc := 2) (0 : Int32) dX11_ableBits_2 (by decide) ?_
  refine zc_istore_n (pc := 3) dX11_ableBits_3 rfl (Nat.le_of_ble_eq_true rfl) rfl (Nat.le_of_ble_eq_true rfl) ?_
  refine zc_sL (ls1 := [some (.ref 60), some (.int (0 : Int32)), some (.int (0 : Int32))]) rfl ?_
  refine zc_sL (ls1 := [some (.ref 60), some (.int (0 : Int32)), some (.int (0 : Int32))]) rfl ?_
  refine zc_loop 36 (fun v5 => [none, some (.int v5), none]) (fun v5 => []) (fun v5 => h) (fun v5 => ?_) (fun k7 J6 => ?_)
  · refine zc_iload_n (pc := 36) dX11_ableBits_36 rfl rfl ?_
    exact zc_iretK (pc := 37) dX11_ableBits_37 rfl ⟨_, rfl, rfl⟩
  · have L9 : ∀ (fu : Nat) (y1 : Int32) (y2 : Int32), zc_G zM_X11_ableBits (fun r => zc_mI (r, h)) 4 [some (.ref 60), some (.int y1), some (.int y2)] [] h ((zl_X11_ableBits_4 h fu y1 y2).bind k7) := by
        intro fu
        induction fu with
        | zero => intros; exact zc_noneb
        | succ fu ih10 =>
          intro y1 y2
          unfold zl_X11_ableBits_4
          refine zc_iload_n (pc := 4) dX11_ableBits_4 rfl rfl ?_
          refine zc_aload_n (pc := 5) dX11_ableBits_5 rfl rfl ?_
          refine zc_getI (pc := 6) zF_X11_84 rfl dX11_ableBits_6 ?_
          refine zc_icmp_ge (pc := 9) 36 dX11_ableBits_9 (by decide) (fun _ => ?_) (fun _ => ?_)
          · refine zc_drop 0 ?_
            refine zc_drop 2 ?_
            exact J6 y1
          · refine zc_iload_n (pc := 12) dX11_ableBits_12 rfl rfl ?_
            refine zc_aload_n (pc := 13) dX11_ableBits_13 rfl rfl ?_
            refine zc_iload_n (pc := 14) dX11_ableBits_14 rfl rfl ?_
            refine zc_callIp (pc := 15) [.ref 60, .int y2] rfl (zc_runV (ci := 11) (n0 := 0) (q := (RX11, TX11, 35)) zo_X11_isAble ⟨Nat.le_of_ble_eq_true rfl, Nat.le_of_ble_eq_true rfl⟩ zw_1136 zw_1138 zs_32 rfl (by decide) rfl rfl dX11_ableBits_15) (Nat.le_of_ble_eq_true rfl) (fun _ hr => zt_X11_isAble y2 h hr) (fun r3 => ?_)
            refine zc_join 28 (fun v4 => [some (.ref 60), none, some (.int y2)]) (fun v4 => [.int v4, .int y1]) (fun v4 => h) (fun v4 => ?_) (fun J11 => ?_)
            · refine zc_ior (pc := 28) dX11_ableBits_28 ?_
              refine zc_istore_n (pc := 29) dX11_ableBits_29 rfl (Nat.le_of_ble_eq_true rfl) rfl (Nat.le_of_ble_eq_true rfl) ?_
              refine zc_sL (ls1 := [some (.ref 60), some (.int (y1 ||| v4)), some (.int y2)]) rfl ?_
              refine zc_iinc (pc := 30) (1 : Int32) dX11_ableBits_30 (by decide) rfl (Nat.le_of_ble_eq_true rfl) rfl ?_
              refine zc_sL (ls1 := [some (.ref 60), some (.int (y1 ||| v4)), some (.int (y2 + (1 : Int32)))]) rfl ?_
              refine zc_goto (pc := 33) 4 dX11_ableBits_33 (by decide) ?_
              exact ih10 (y1 ||| v4) (y2 + (1 : Int32))
            · refine zc_if_eq (pc := 18) 27 dX11_ableBits_18 (by decide) (fun _ => ?_) (fun _ => ?_)
              · refine zc_iconst (pc := 27) (0 : Int32) dX11_ableBits_27 (by decide) ?_
                refine zc_drop 1 ?_
                exact J11 (0 : Int32)
              · refine zc_iconst (pc := 21) (1 : Int32) dX11_ableBits_21 (by decide) ?_
                refine zc_iload_n (pc := 22) dX11_ableBits_22 rfl rfl ?_
                refine zc_ishl (pc := 23) dX11_ableBits_23 ?_
                refine zc_goto (pc := 24) 28 dX11_ableBits_24 (by decide) ?_
                refine zc_drop 1 ?_
                exact J11 ((1 : Int32) <<< (y2 &&& 31))
    exact L9 zFU (0 : Int32) (0 : Int32)
def zf_X11_here (h : zHp) : Option Int32 :=
  (if zc_ix (h.1 60 18) 8 then (if (h.1 70 (h.1 60 18).toNatClampNeg) ≤ (h.1 60 19) then some (-999 : Int32) else (if zc_ix (((100 : Int32) * (h.1 60 18)) + (h.1 60 19)) 800 then some ((h.2 71 (((100 : Int32) * (h.1 60 18)) + (h.1 60 19)).toNatClampNeg).toInt32) else none)) else none)
set_option maxRecDepth 100000 in
set_option maxHeartbeats 4000000 in
theorem zt_X11_here (h : zHp) {r : Int32} (hr : (zf_X11_here h) = some r) : zc_Cn zM_X11_here [.ref 60] h ((fun r => zc_mI (r, h)) r) := by
  refine zc_meth (mk := (fun r => zc_mI (r, h))) (o := (zf_X11_here h)) (by decide +kernel) (Nat.le_of_ble_eq_true rfl) ?_ hr
  unfold zf_X11_here
  refine zc_sL (ls1 := [some (.ref 60)]) rfl ?_
  refine zc_aload_n (pc := 0) dX11_here_0 rfl rfl ?_
  refine zc_getI (pc := 1) zF_X11_130 rfl dX11_here_1 ?_
  refine zc_aload_n (pc := 4) dX11_here_4 rfl rfl ?_
  refine zc_getC (pc := 5) zF_X11_37 rfl dX11_here_5 ?_
  refine zc_aload_n (pc := 8) dX11_here_8 rfl rfl ?_
  refine zc_getI (pc := 9) zF_X11_133 rfl dX11_here_9 ?_
  refine zc_guard (fun g1 => ?_)
  refine zc_aldi (pc := 12) rfl g1 dX11_here_12 ?_
  refine zc_icmp_ge (pc := 13) 37 dX11_here_13 (by decide) (fun _ => ?_) (fun _ => ?_)
  · refine zc_sipush (pc := 37) (-999 : Int32) dX11_here_37 (by decide) ?_
    exact zc_iretK (pc := 40) dX11_here_40 rfl ⟨_, rfl, rfl⟩
  · refine zc_aload_n (pc := 16) dX11_here_16 rfl rfl ?_
    refine zc_getC (pc := 17) zF_X11_40 rfl dX11_here_17 ?_
    refine zc_bipush (pc := 20) (100 : Int32) dX11_here_20 (by decide) ?_
    refine zc_aload_n (pc := 22) dX11_here_22 rfl rfl ?_
    refine zc_getI (pc := 23) zF_X11_133 rfl dX11_here_23 ?_
    refine zc_imul (pc := 26) dX11_here_26 ?_
    refine zc_aload_n (pc := 27) dX11_here_27 rfl rfl ?_
    refine zc_getI (pc := 28) zF_X11_130 rfl dX11_here_28 ?_
    refine zc_iadd (pc := 31) dX11_here_31 ?_
    refine zc_guard (fun g2 => ?_)
    refine zc_aldl (pc := 32) rfl g2 dX11_here_32 ?_
    refine zc_l2i (pc := 33) dX11_here_33 ?_
    refine zc_goto (pc := 34) 40 dX11_here_34 (by decide) ?_
    exact zc_iretK (pc := 40) dX11_here_40 rfl ⟨_, rfl, rfl⟩
def zl_X11_readDigits_4 (x1 : Int32) : Nat → Int32 → Int32 → zHp → Option (Int32 × zHp)
  | 0, _, _, _ => none
  | fu + 1, y1, y2, h3 => (if x1 ≤ y2 then some (y1, h3) else (((if (h3.1 60 20) = 0 then ((zf_X11_here h3).bind (fun r4 => ((zf_X11_in r4.toInt64 (48 : Int64) (57 : Int64)).bind (fun r5 => (if r5 = 0 then some (1 : Int32) else some (0 : Int32)))))) else some (1 : Int32)) : Option Int32).bind (fun v6 => (if zc_bo v6 then ((some (zc_ui h3 60 20 v6) : Option zHp).bind (fun h8 => (((if (h8.1 60 20) = 0 then ((zf_X11_here h8).bind (fun r9 => some ((((10 : Int32) * y1) + r9) - (48 : Int32)))) else some (0 : Int32)) : Option Int32).bind (fun v10 => (((if (h8.1 60 20) = 0 then some (1 : Int32) else some (0 : Int32)) : Option Int32).bind (fun v11 => ((some (zc_ui h8 60 19 ((h8.1 60 19) + v11)) : Option zHp).bind (fun h12 => zl_X11_readDigits_4 x1 fu v10 (y2 + (1 : Int32)) h12)))))))) else none))))
def zf_X11_readDigits (x1 : Int32) (h : zHp) : Option (Int32 × zHp) :=
  ((zl_X11_readDigits_4 x1 zFU (0 : Int32) (0 : Int32) h).bind (fun v13 => some (v13.1, v13.2)))
set_option maxRecDepth 100000 in
set_option maxHeartbeats 4000000 in
theorem zt_X11_readDigits (x1 : Int32) (h : zHp) {r : (Int32 × zHp)} (hr : (zf_X11_readDigits x1 h) = some r) : zc_Cn zM_X11_readDigits [.ref 60, .int x1] h (zc_mI r) := by
  refine zc_meth (mk := zc_mI) (o := (zf_X11_readDigits x1 h)) (by decide +kernel) (Nat.le_of_ble_eq_true rfl) ?_ hr
  unfold zf_X11_readDigits
  refine zc_sL (ls1 := [some (.ref 60), some (.int x1), none, none]) rfl ?_
  refine zc_iconst (pc := 0) (0 : Int32) dX11_readDigits_0 (by decide) ?_
  refine zc_istore_n (pc := 1) dX11_readDigits_1 rfl (Nat.le_of_ble_eq_true rfl) rfl (Nat.le_of_ble_eq_true rfl) ?_
  refine zc_sL (ls1 := [some (.ref 60), some (.int x1), some (.int (0 : Int32)), none]) rfl ?_
  refine zc_iconst (pc := 2) (0 : Int32) dX11_readDigits_2 (by decide) ?_
  refine zc_istore_n (pc := 3) dX11_readDigits_3 rfl (Nat.le_of_ble_eq_true rfl) rfl (Nat.le_of_ble_eq_true rfl) ?_
  refine zc_sL (ls1 := [some (.ref 60), some (.int x1), some (.int (0 : Int32)), some (.int (0 : Int32))]) rfl ?_
  refine zc_sL (ls1 := [some (.ref 60), some (.int x1), some (.int (0 : Int32)), some (.int (0 : Int32))]) rfl ?_
  refine zc_loop 93 (fun v13 => [none, none, some (.int v13.1), none]) (fun v13 => []) (fun v13 => v13.2) (fun v13 => ?_) (fun k15 J14 => ?_)
  · refine zc_iload_n (pc := 93) dX11_readDigits_93 rfl rfl ?_
    exact zc_iretK (pc := 94) dX11_readDigits_94 rfl ⟨_, rfl, rfl⟩
  · have L17 : ∀ (fu : Nat) (y1 : Int32) (y2 : Int32) (h3 : zHp), zc_G zM_X11_readDigits zc_mI 4 [some (.ref 60), some (.int x1), some (.int y1), some (.int y2)] [] h3 ((zl_X11_readDigits_4 x1 fu y1 y2 h3).bind k15) := by
        intro fu
        induction fu with
        | zero => intros; exact zc_noneb
        | succ fu ih18 =>
          intro y1 y2 h3
          unfold zl_X11_readDigits_4
          refine zc_iload_n (pc := 4) dX11_readDigits_4 rfl rfl ?_
          refine zc_iload_n (pc := 5) dX11_readDigits_5 rfl rfl ?_
          refine zc_icmp_ge (pc := 6) 93 dX11_readDigits_6 (by decide) (fun _ => ?_) (fun _ => ?_)
          · refine zc_drop 0 ?_
            refine zc_drop 1 ?_
            refine zc_drop 3 ?_
            exact J14 (y1, h3)
          · refine zc_aload_n (pc := 9) dX11_readDigits_9 rfl rfl ?_
            refine zc_aload_n (pc := 10) dX11_readDigits_10 rfl rfl ?_
            refine zc_getI (pc := 11) zF_X11_136 rfl dX11_readDigits_11 ?_
            refine zc_join 39 (fun v6 => [some (.ref 60), some (.int x1), some (.int y1), some (.int y2)]) (fun v6 => [.int v6, .ref 60]) (fun v6 => h3) (fun v6 => ?_) (fun J19 => ?_)
            · refine zc_guard (fun g7 => ?_)
              refine zc_putZ (pc := 39) zF_X11_136 rfl g7 dX11_readDigits_39 ?_
              refine zc_letH (fun h8 _ => ?_)
              refine zc_aload_n (pc := 42) dX11_readDigits_42 rfl rfl ?_
              refine zc_getI (pc := 43) zF_X11_136 rfl dX11_readDigits_43 ?_
              refine zc_join 65 (fun v10 => [some (.ref 60), some (.int x1), none, some (.int y2)]) (fun v10 => [.int v10]) (fun v10 => h8) (fun v10 => ?_) (fun J20 => ?_)
              · refine zc_istore_n (pc := 65) dX11_readDigits_65 rfl (Nat.le_of_ble_eq_true rfl) rfl (Nat.le_of_ble_eq_true rfl) ?_
                refine zc_sL (ls1 := [some (.ref 60), some (.int x1), some (.int v10), some (.int y2)]) rfl ?_
                refine zc_aload_n (pc := 66) dX11_readDigits_66 rfl rfl ?_
                refine zc_dup (pc := 67) dX11_readDigits_67 rfl ?_
                refine zc_getI (pc := 68) zF_X11_130 rfl dX11_readDigits_68 ?_
                refine zc_aload_n (pc := 71) dX11_readDigits_71 rfl rfl ?_
                refine zc_getI (pc := 72) zF_X11_136 rfl dX11_readDigits_72 ?_
                refine zc_join 83 (fun v11 => [some (.ref 60), some (.int x1), some (.int v10), some (.int y2)]) (fun v11 => [.int v11, .int (h8.1 60 19), .ref 60]) (fun v11 => h8) (fun v11 => ?_) (fun J21 => ?_)
                · refine zc_iadd (pc := 83) dX11_readDigits_83 ?_
                  refine zc_putI (pc := 84) zF_X11_130 rfl dX11_readDigits_84 ?_
                  refine zc_letH (fun h12 _ => ?_)
                  refine zc_iinc (pc := 87) (1 : Int32) dX11_readDigits_87 (by decide) rfl (Nat.le_of_ble_eq_true rfl) rfl ?_
                  refine zc_sL (ls1 := [some (.ref 60), some (.int x1), some (.int v10), some (.int (y2 + (1 : Int32)))]) rfl ?_
                  refine zc_goto (pc := 90) 4 dX11_readDigits_90 (by decide) ?_
                  exact ih18 v10 (y2 + (1 : Int32)) h12
                · refine zc_if_eq (pc := 75) 82 dX11_readDigits_75 (by decide) (fun _ => ?_) (fun _ => ?_)
                  · refine zc_iconst (pc := 82) (1 : Int32) dX11_readDigits_82 (by decide) ?_
                    exact J21 (1 : Int32)
                  · refine zc_iconst (pc := 78) (0 : Int32) dX11_readDigits_78 (by decide) ?_
                    refine zc_goto (pc := 79) 83 dX11_readDigits_79 (by decide) ?_
                    exact J21 (0 : Int32)
              · refine zc_if_eq (pc := 46) 53 dX11_readDigits_46 (by decide) (fun _ => ?_) (fun _ => ?_)
                · refine zc_bipush (pc := 53) (10 : Int32) dX11_readDigits_53 (by decide) ?_
                  refine zc_iload_n (pc := 55) dX11_readDigits_55 rfl rfl ?_
                  refine zc_imul (pc := 56) dX11_readDigits_56 ?_
                  refine zc_aload_n (pc := 57) dX11_readDigits_57 rfl rfl ?_
                  refine zc_callIp (pc := 58) [.ref 60] rfl (zc_runV (ci := 11) (n0 := 0) (q := (RX11, TX11, 35)) zo_X11_here ⟨Nat.le_of_ble_eq_true rfl, Nat.le_of_ble_eq_true rfl⟩ zw_1078 zw_1080 zs_20 rfl (by decide) rfl rfl dX11_readDigits_58) (Nat.le_of_ble_eq_true rfl) (fun _ hr => zt_X11_here h8 hr) (fun r9 => ?_)
                  refine zc_iadd (pc := 61) dX11_readDigits_61 ?_
                  refine zc_bipush (pc := 62) (48 : Int32) dX11_readDigits_62 (by decide) ?_
                  refine zc_isub (pc := 64) dX11_readDigits_64 ?_
                  refine zc_drop 2 ?_
                  exact J20 ((((10 : Int32) * y1) + r9) - (48 : Int32))
                · refine zc_iconst (pc := 49) (0 : Int32) dX11_readDigits_49 (by decide) ?_
                  refine zc_goto (pc := 50) 65 dX11_readDigits_50 (by decide) ?_
                  refine zc_drop 2 ?_
                  exact J20 (0 : Int32)
            · refine zc_if_ne (pc := 14) 34 dX11_readDigits_14 (by decide) (fun _ => ?_) (fun _ => ?_)
              · refine zc_aload_n (pc := 17) dX11_readDigits_17 rfl rfl ?_
                refine zc_callIp (pc := 18) [.ref 60] rfl (zc_runV (ci := 11) (n0 := 0) (q := (RX11, TX11, 35)) zo_X11_here ⟨Nat.le_of_ble_eq_true rfl, Nat.le_of_ble_eq_true rfl⟩ zw_1078 zw_1080 zs_20 rfl (by decide) rfl rfl dX11_readDigits_18) (Nat.le_of_ble_eq_true rfl) (fun _ hr => zt_X11_here h3 hr) (fun r4 => ?_)
                refine zc_i2l (pc := 21) dX11_readDigits_21 ?_
                refine zc_ldc2 (pc := 22) dX11_readDigits_22 zw_1093 ?_
                refine zc_ldc2 (pc := 25) dX11_readDigits_25 zw_1094 ?_
                refine zc_callIp (pc := 28) [.long r4.toInt64, .long (48 : Int64), .long (57 : Int64)] rfl (zc_runS zo_X11_in ⟨Nat.le_of_ble_eq_true rfl, Nat.le_of_ble_eq_true rfl⟩ zw_1071 zw_1072 rfl dX11_readDigits_28) (Nat.le_of_ble_eq_true rfl) (fun _ hr => zt_X11_in r4.toInt64 (48 : Int64) (57 : Int64) h3 hr) (fun r5 => ?_)
                refine zc_if_ne (pc := 31) 38 dX11_readDigits_31 (by decide) (fun _ => ?_) (fun _ => ?_)
                · refine zc_iconst (pc := 34) (1 : Int32) dX11_readDigits_34 (by decide) ?_
                  refine zc_goto (pc := 35) 39 dX11_readDigits_35 (by decide) ?_
                  exact J19 (1 : Int32)
                · refine zc_iconst (pc := 38) (0 : Int32) dX11_readDigits_38 (by decide) ?_
                  exact J19 (0 : Int32)
              · refine zc_iconst (pc := 34) (1 : Int32) dX11_readDigits_34 (by decide) ?_
                refine zc_goto (pc := 35) 39 dX11_readDigits_35 (by decide) ?_
                exact J19 (1 : Int32)
    exact L17 zFU (0 : Int32) (0 : Int32) h
def zf_X11_isLetter (x0 : Int32) : Option Int32 :=
  (if x0 = (118 : Int32) then some (1 : Int32) else (if x0 = (99 : Int32) then some (1 : Int32) else (if x0 = (115 : Int32) then some (1 : Int32) else (if x0 = (107 : Int32) then some (1 : Int32) else (if x0 = (102 : Int32) then some (1 : Int32) else (if x0 = (100 : Int32) then some (1 : Int32) else some (0 : Int32)))))))
set_option maxRecDepth 100000 in
set_option maxHeartbeats 4000000 in
theorem zt_X11_isLetter (x0 : Int32) (h : zHp) {r : Int32} (hr : (zf_X11_isLetter x0) = some r) : zc_Cn zM_X11_isLetter [.int x0] h ((fun r => zc_mI (r, h)) r) := by
  refine zc_meth (mk := (fun r => zc_mI (r, h))) (o := (zf_X11_isLetter x0)) (by decide +kernel) (Nat.le_of_ble_eq_true rfl) ?_ hr
  unfold zf_X11_isLetter
  refine zc_sL (ls1 := [some (.int x0)]) rfl ?_
  refine zc_iload_n (pc := 0) dX11_isLetter_0 rfl rfl ?_
  refine zc_bipush (pc := 1) (118 : Int32) dX11_isLetter_1 (by decide) ?_
  refine zc_icmp_eq (pc := 3) 36 dX11_isLetter_3 (by decide) (fun _ => ?_) (fun _ => ?_)
  · refine zc_iconst (pc := 36) (1 : Int32) dX11_isLetter_36 (by decide) ?_
    refine zc_goto (pc := 37) 41 dX11_isLetter_37 (by decide) ?_
    exact zc_zretK (pc := 41) dX11_isLetter_41 rfl (by decide) ⟨_, rfl, rfl⟩
  · refine zc_iload_n (pc := 6) dX11_isLetter_6 rfl rfl ?_
    refine zc_bipush (pc := 7) (99 : Int32) dX11_isLetter_7 (by decide) ?_
    refine zc_icmp_eq (pc := 9) 36 dX11_isLetter_9 (by decide) (fun _ => ?_) (fun _ => ?_)
    · refine zc_iconst (pc := 36) (1 : Int32) dX11_isLetter_36 (by decide) ?_
      refine zc_goto (pc := 37) 41 dX11_isLetter_37 (by decide) ?_
      exact zc_zretK (pc := 41) dX11_isLetter_41 rfl (by decide) ⟨_, rfl, rfl⟩
    · refine zc_iload_n (pc := 12) dX11_isLetter_12 rfl rfl ?_
      refine zc_bipush (pc := 13) (115 : Int32) dX11_isLetter_13 (by decide) ?_
      refine zc_icmp_eq (pc := 15) 36 dX11_isLetter_15 (by decide) (fun _ => ?_) (fun _ => ?_)
      · refine zc_iconst (pc := 36) (1 : Int32) dX11_isLetter_36 (by decide) ?_
        refine zc_goto (pc := 37) 41 dX11_isLetter_37 (by decide) ?_
        exact zc_zretK (pc := 41) dX11_isLetter_41 rfl (by decide) ⟨_, rfl, rfl⟩
      · refine zc_iload_n (pc := 18) dX11_isLetter_18 rfl rfl ?_
        refine zc_bipush (pc := 19) (107 : Int32) dX11_isLetter_19 (by decide) ?_
        refine zc_icmp_eq (pc := 21) 36 dX11_isLetter_21 (by decide) (fun _ => ?_) (fun _ => ?_)
        · refine zc_iconst (pc := 36) (1 : Int32) dX11_isLetter_36 (by decide) ?_
          refine zc_goto (pc := 37) 41 dX11_isLetter_37 (by decide) ?_
          exact zc_zretK (pc := 41) dX11_isLetter_41 rfl (by decide) ⟨_, rfl, rfl⟩
        · refine zc_iload_n (pc := 24) dX11_isLetter_24 rfl rfl ?_
          refine zc_bipush (pc := 25) (102 : Int32) dX11_isLetter_25 (by decide) ?_
          refine zc_icmp_eq (pc := 27) 36 dX11_isLetter_27 (by decide) (fun _ => ?_) (fun _ => ?_)
          · refine zc_iconst (pc := 36) (1 : Int32) dX11_isLetter_36 (by decide) ?_
            refine zc_goto (pc := 37) 41 dX11_isLetter_37 (by decide) ?_
            exact zc_zretK (pc := 41) dX11_isLetter_41 rfl (by decide) ⟨_, rfl, rfl⟩
          · refine zc_iload_n (pc := 30) dX11_isLetter_30 rfl rfl ?_
            refine zc_bipush (pc := 31) (100 : Int32) dX11_isLetter_31 (by decide) ?_
            refine zc_icmp_ne (pc := 33) 40 dX11_isLetter_33 (by decide) (fun _ => ?_) (fun _ => ?_)
            · refine zc_iconst (pc := 36) (1 : Int32) dX11_isLetter_36 (by decide) ?_
              refine zc_goto (pc := 37) 41 dX11_isLetter_37 (by decide) ?_
              exact zc_zretK (pc := 41) dX11_isLetter_41 rfl (by decide) ⟨_, rfl, rfl⟩
            · refine zc_iconst (pc := 40) (0 : Int32) dX11_isLetter_40 (by decide) ?_
              exact zc_zretK (pc := 41) dX11_isLetter_41 rfl (by decide) ⟨_, rfl, rfl⟩
def zf_X11_readNumbers (x1 : Int32) (x2 : Int32) (h : zHp) : Option zHp :=
  (((if x1 = (99 : Int32) then some (2 : Int32) else (if x1 = (100 : Int32) then some (2 : Int32) else some (1 : Int32))) : Option Int32).bind (fun v1 => ((zf_X11_readDigits v1 h).bind (fun r2 => (if zc_ix x2 204 then ((some (zc_ui r2.2 74 x2.toNatClampNeg r2.1) : Option zHp).bind (fun h4 => (if x1 = (118 : Int32) then ((zf_X11_readDigits (1 : Int32) h4).bind (fun r5 => (if zc_ix (x2 + (1 : Int32)) 204 then ((some (zc_ui r5.2 74 (x2 + (1 : Int32)).toNatClampNeg r5.1) : Option zHp).bind (fun h7 => ((zf_X11_readDigits (2 : Int32) h7).bind (fun r8 => (if zc_ix (x2 + (2 : Int32)) 204 then ((some (zc_ui r8.2 74 (x2 + (2 : Int32)).toNatClampNeg r8.1) : Option zHp).bind (fun h10 => ((zf_X11_readDigits (1 : Int32) h10).bind (fun r11 => (if zc_ix (x2 + (3 : Int32)) 204 then ((some (zc_ui r11.2 74 (x2 + (3 : Int32)).toNatClampNeg r11.1) : Option zHp).bind (fun h13 => some h13)) else none))))) else none))))) else none))) else (if x1 = (115 : Int32) then ((zf_X11_readDigits (2 : Int32) h4).bind (fun r14 => (if zc_ix (x2 + (1 : Int32)) 204 then ((some (zc_ui r14.2 74 (x2 + (1 : Int32)).toNatClampNeg r14.1) : Option zHp).bind (fun h16 => some h16)) else none))) else (if x1 = (107 : Int32) then ((zf_X11_readDigits (2 : Int32) h4).bind (fun r17 => (if zc_ix (x2 + (1 : Int32)) 204 then ((some (zc_ui r17.2 74 (x2 + (1 : Int32)).toNatClampNeg r17.1) : Option zHp).bind (fun h19 => some h19)) else none))) else (if x1 = (102 : Int32) then ((zf_X11_readDigits (1 : Int32) h4).bind (fun r20 => (if zc_ix (x2 + (1 : Int32)) 204 then ((some (zc_ui r20.2 74 (x2 + (1 : Int32)).toNatClampNeg r20.1) : Option zHp).bind (fun h22 => some h22)) else none))) else some h4)))))) else none)))))
set_option maxRecDepth 100000 in
set_option maxHeartbeats 4000000 in
theorem zt_X11_readNumbers (x1 : Int32) (x2 : Int32) (h : zHp) {r : zHp} (hr : (zf_X11_readNumbers x1 x2 h) = some r) : zc_Cn zM_X11_readNumbers [.ref 60, .int x1, .int x2] h (zc_mV r) := by
  refine zc_meth (mk := zc_mV) (o := (zf_X11_readNumbers x1 x2 h)) (by decide +kernel) (Nat.le_of_ble_eq_true rfl) ?_ hr
  unfold zf_X11_readNumbers
  refine zc_sL (ls1 := [some (.ref 60), some (.int x1), some (.int x2)]) rfl ?_
  refine zc_aload_n (pc := 0) dX11_readNumbers_0 rfl rfl ?_
  refine zc_getC (pc := 1) zF_X11_50 rfl dX11_readNumbers_1 ?_
  refine zc_iload_n (pc := 4) dX11_readNumbers_4 rfl rfl ?_
  refine zc_aload_n (pc := 5) dX11_readNumbers_5 rfl rfl ?_
  refine zc_iload_n (pc := 6) dX11_readNumbers_6 rfl rfl ?_
  refine zc_bipush (pc := 7) (99 : Int32) dX11_readNumbers_7 (by decide) ?_
  refine zc_join 23 (fun v1 => [some (.ref 60), some (.int x1), some (.int x2)]) (fun v1 => [.int v1, .ref 60, .int x2, .ref 74]) (fun v1 => h) (fun v1 => ?_) (fun J23 => ?_)
  · refine zc_callI (pc := 23) [.ref 60, .int v1] rfl (zc_runV (ci := 11) (n0 := 0) (q := (RX11, TX11, 35)) zo_X11_readDigits ⟨Nat.le_of_ble_eq_true rfl, Nat.le_of_ble_eq_true rfl⟩ zw_1089 zw_1091 zs_22 rfl (by decide) rfl rfl dX11_readNumbers_23) (Nat.le_of_ble_eq_true rfl) (fun _ hr => zt_X11_readDigits v1 h hr) (fun r2 => ?_)
    refine zc_guard (fun g3 => ?_)
    refine zc_asti (pc := 26) rfl g3 dX11_readNumbers_26 ?_
    refine zc_letH (fun h4 _ => ?_)
    refine zc_iload_n (pc := 27) dX11_readNumbers_27 rfl rfl ?_
    refine zc_bipush (pc := 28) (118 : Int32) dX11_readNumbers_28 (by decide) ?_
    refine zc_icmp_ne (pc := 30) 75 dX11_readNumbers_30 (by decide) (fun _ => ?_) (fun _ => ?_)
    · refine zc_aload_n (pc := 33) dX11_readNumbers_33 rfl rfl ?_
      refine zc_getC (pc := 34) zF_X11_50 rfl dX11_readNumbers_34 ?_
      refine zc_iload_n (pc := 37) dX11_readNumbers_37 rfl rfl ?_
      refine zc_iconst (pc := 38) (1 : Int32) dX11_readNumbers_38 (by decide) ?_
      refine zc_iadd (pc := 39) dX11_readNumbers_39 ?_
      refine zc_aload_n (pc := 40) dX11_readNumbers_40 rfl rfl ?_
      refine zc_iconst (pc := 41) (1 : Int32) dX11_readNumbers_41 (by decide) ?_
      refine zc_callI (pc := 42) [.ref 60, .int (1 : Int32)] rfl (zc_runV (ci := 11) (n0 := 0) (q := (RX11, TX11, 35)) zo_X11_readDigits ⟨Nat.le_of_ble_eq_true rfl, Nat.le_of_ble_eq_true rfl⟩ zw_1089 zw_1091 zs_22 rfl (by decide) rfl rfl dX11_readNumbers_42) (Nat.le_of_ble_eq_true rfl) (fun _ hr => zt_X11_readDigits (1 : Int32) h4 hr) (fun r5 => ?_)
      refine zc_guard (fun g6 => ?_)
      refine zc_asti (pc := 45) rfl g6 dX11_readNumbers_45 ?_
      refine zc_letH (fun h7 _ => ?_)
      refine zc_aload_n (pc := 46) dX11_readNumbers_46 rfl rfl ?_
      refine zc_getC (pc := 47) zF_X11_50 rfl dX11_readNumbers_47 ?_
      refine zc_iload_n (pc := 50) dX11_readNumbers_50 rfl rfl ?_
      refine zc_iconst (pc := 51) (2 : Int32) dX11_readNumbers_51 (by decide) ?_
      refine zc_iadd (pc := 52) dX11_readNumbers_52 ?_
      refine zc_aload_n (pc := 53) dX11_readNumbers_53 rfl rfl ?_
      refine zc_iconst (pc := 54) (2 : Int32) dX11_readNumbers_54 (by decide) ?_
      refine zc_callI (pc := 55) [.ref 60, .int (2 : Int32)] rfl (zc_runV (ci := 11) (n0 := 0) (q := (RX11, TX11, 35)) zo_X11_readDigits ⟨Nat.le_of_ble_eq_true rfl, Nat.le_of_ble_eq_true rfl⟩ zw_1089 zw_1091 zs_22 rfl (by decide) rfl rfl dX11_readNumbers_55) (Nat.le_of_ble_eq_true rfl) (fun _ hr => zt_X11_readDigits (2 : Int32) h7 hr) (fun r8 => ?_)
      refine zc_guard (fun g9 => ?_)
      refine zc_asti (pc := 58) rfl g9 dX11_readNumbers_58 ?_
      refine zc_letH (fun h10 _ => ?_)
      refine zc_aload_n (pc := 59) dX11_readNumbers_59 rfl rfl ?_
      refine zc_getC (pc := 60) zF_X11_50 rfl dX11_readNumbers_60 ?_
      refine zc_iload_n (pc := 63) dX11_readNumbers_63 rfl rfl ?_
      refine zc_iconst (pc := 64) (3 : Int32) dX11_readNumbers_64 (by decide) ?_
      refine zc_iadd (pc := 65) dX11_readNumbers_65 ?_
      refine zc_aload_n (pc := 66) dX11_readNumbers_66 rfl rfl ?_
      refine zc_iconst (pc := 67) (1 : Int32) dX11_readNumbers_67 (by decide) ?_
      refine zc_callI (pc := 68) [.ref 60, .int (1 : Int32)] rfl (zc_runV (ci := 11) (n0 := 0) (q := (RX11, TX11, 35)) zo_X11_readDigits ⟨Nat.le_of_ble_eq_true rfl, Nat.le_of_ble_eq_true rfl⟩ zw_1089 zw_1091 zs_22 rfl (by decide) rfl rfl dX11_readNumbers_68) (Nat.le_of_ble_eq_true rfl) (fun _ hr => zt_X11_readDigits (1 : Int32) h10 hr) (fun r11 => ?_)
      refine zc_guard (fun g12 => ?_)
      refine zc_asti (pc := 71) rfl g12 dX11_readNumbers_71 ?_
      refine zc_letH (fun h13 _ => ?_)
      refine zc_goto (pc := 72) 122 dX11_readNumbers_72 (by decide) ?_
      exact zc_vretK (pc := 122) dX11_readNumbers_122 rfl ⟨_, rfl, rfl⟩
    · refine zc_iload_n (pc := 75) dX11_readNumbers_75 rfl rfl ?_
      refine zc_bipush (pc := 76) (115 : Int32) dX11_readNumbers_76 (by decide) ?_
      refine zc_icmp_eq (pc := 78) 87 dX11_readNumbers_78 (by decide) (fun _ => ?_) (fun _ => ?_)
      · refine zc_aload_n (pc := 87) dX11_readNumbers_87 rfl rfl ?_
        refine zc_getC (pc := 88) zF_X11_50 rfl dX11_readNumbers_88 ?_
        refine zc_iload_n (pc := 91) dX11_readNumbers_91 rfl rfl ?_
        refine zc_iconst (pc := 92) (1 : Int32) dX11_readNumbers_92 (by decide) ?_
        refine zc_iadd (pc := 93) dX11_readNumbers_93 ?_
        refine zc_aload_n (pc := 94) dX11_readNumbers_94 rfl rfl ?_
        refine zc_iconst (pc := 95) (2 : Int32) dX11_readNumbers_95 (by decide) ?_
        refine zc_callI (pc := 96) [.ref 60, .int (2 : Int32)] rfl (zc_runV (ci := 11) (n0 := 0) (q := (RX11, TX11, 35)) zo_X11_readDigits ⟨Nat.le_of_ble_eq_true rfl, Nat.le_of_ble_eq_true rfl⟩ zw_1089 zw_1091 zs_22 rfl (by decide) rfl rfl dX11_readNumbers_96) (Nat.le_of_ble_eq_true rfl) (fun _ hr => zt_X11_readDigits (2 : Int32) h4 hr) (fun r14 => ?_)
        refine zc_guard (fun g15 => ?_)
        refine zc_asti (pc := 99) rfl g15 dX11_readNumbers_99 ?_
        refine zc_letH (fun h16 _ => ?_)
        refine zc_goto (pc := 100) 122 dX11_readNumbers_100 (by decide) ?_
        exact zc_vretK (pc := 122) dX11_readNumbers_122 rfl ⟨_, rfl, rfl⟩
      · refine zc_iload_n (pc := 81) dX11_readNumbers_81 rfl rfl ?_
        refine zc_bipush (pc := 82) (107 : Int32) dX11_readNumbers_82 (by decide) ?_
        refine zc_icmp_ne (pc := 84) 103 dX11_readNumbers_84 (by decide) (fun _ => ?_) (fun _ => ?_)
        · refine zc_aload_n (pc := 87) dX11_readNumbers_87 rfl rfl ?_
          refine zc_getC (pc := 88) zF_X11_50 rfl dX11_readNumbers_88 ?_
          refine zc_iload_n (pc := 91) dX11_readNumbers_91 rfl rfl ?_
          refine zc_iconst (pc := 92) (1 : Int32) dX11_readNumbers_92 (by decide) ?_
          refine zc_iadd (pc := 93) dX11_readNumbers_93 ?_
          refine zc_aload_n (pc := 94) dX11_readNumbers_94 rfl rfl ?_
          refine zc_iconst (pc := 95) (2 : Int32) dX11_readNumbers_95 (by decide) ?_
          refine zc_callI (pc := 96) [.ref 60, .int (2 : Int32)] rfl (zc_runV (ci := 11) (n0 := 0) (q := (RX11, TX11, 35)) zo_X11_readDigits ⟨Nat.le_of_ble_eq_true rfl, Nat.le_of_ble_eq_true rfl⟩ zw_1089 zw_1091 zs_22 rfl (by decide) rfl rfl dX11_readNumbers_96) (Nat.le_of_ble_eq_true rfl) (fun _ hr => zt_X11_readDigits (2 : Int32) h4 hr) (fun r17 => ?_)
          refine zc_guard (fun g18 => ?_)
          refine zc_asti (pc := 99) rfl g18 dX11_readNumbers_99 ?_
          refine zc_letH (fun h19 _ => ?_)
          refine zc_goto (pc := 100) 122 dX11_readNumbers_100 (by decide) ?_
          exact zc_vretK (pc := 122) dX11_readNumbers_122 rfl ⟨_, rfl, rfl⟩
        · refine zc_iload_n (pc := 103) dX11_readNumbers_103 rfl rfl ?_
          refine zc_bipush (pc := 104) (102 : Int32) dX11_readNumbers_104 (by decide) ?_
          refine zc_icmp_ne (pc := 106) 122 dX11_readNumbers_106 (by decide) (fun _ => ?_) (fun _ => ?_)
          · refine zc_aload_n (pc := 109) dX11_readNumbers_109 rfl rfl ?_
            refine zc_getC (pc := 110) zF_X11_50 rfl dX11_readNumbers_110 ?_
            refine zc_iload_n (pc := 113) dX11_readNumbers_113 rfl rfl ?_
            refine zc_iconst (pc := 114) (1 : Int32) dX11_readNumbers_114 (by decide) ?_
            refine zc_iadd (pc := 115) dX11_readNumbers_115 ?_
            refine zc_aload_n (pc := 116) dX11_readNumbers_116 rfl rfl ?_
            refine zc_iconst (pc := 117) (1 : Int32) dX11_readNumbers_117 (by decide) ?_
            refine zc_callI (pc := 118) [.ref 60, .int (1 : Int32)] rfl (zc_runV (ci := 11) (n0 := 0) (q := (RX11, TX11, 35)) zo_X11_readDigits ⟨Nat.le_of_ble_eq_true rfl, Nat.le_of_ble_eq_true rfl⟩ zw_1089 zw_1091 zs_22 rfl (by decide) rfl rfl dX11_readNumbers_118) (Nat.le_of_ble_eq_true rfl) (fun _ hr => zt_X11_readDigits (1 : Int32) h4 hr) (fun r20 => ?_)
            refine zc_guard (fun g21 => ?_)
            refine zc_asti (pc := 121) rfl g21 dX11_readNumbers_121 ?_
            refine zc_letH (fun h22 _ => ?_)
            exact zc_vretK (pc := 122) dX11_readNumbers_122 rfl ⟨_, rfl, rfl⟩
          · exact zc_vretK (pc := 122) dX11_readNumbers_122 rfl ⟨_, rfl, rfl⟩
  · refine zc_icmp_eq (pc := 9) 18 dX11_readNumbers_9 (by decide) (fun _ => ?_) (fun _ => ?_)
    · refine zc_iconst (pc := 18) (2 : Int32) dX11_readNumbers_18 (by decide) ?_
      refine zc_goto (pc := 19) 23 dX11_readNumbers_19 (by decide) ?_
      exact J23 (2 : Int32)
    · refine zc_iload_n (pc := 12) dX11_readNumbers_12 rfl rfl ?_
      refine zc_bipush (pc := 13) (100 : Int32) dX11_readNumbers_13 (by decide) ?_
      refine zc_icmp_ne (pc := 15) 22 dX11_readNumbers_15 (by decide) (fun _ => ?_) (fun _ => ?_)
      · refine zc_iconst (pc := 18) (2 : Int32) dX11_readNumbers_18 (by decide) ?_
        refine zc_goto (pc := 19) 23 dX11_readNumbers_19 (by decide) ?_
        exact J23 (2 : Int32)
      · refine zc_iconst (pc := 22) (1 : Int32) dX11_readNumbers_22 (by decide) ?_
        exact J23 (1 : Int32)
def zf_X11_readStatement (h : zHp) : Option zHp :=
  ((zf_X11_here h).bind (fun r1 => (if zc_ix (h.1 60 21) 51 then ((some (zc_ui h 72 (h.1 60 21).toNatClampNeg (h.1 60 19)) : Option zHp).bind (fun h3 => (if zc_ix (h.1 60 21) 51 then ((some (zc_ui h3 73 (h.1 60 21).toNatClampNeg r1) : Option zHp).bind (fun h5 => (((if (h5.1 60 20) = 0 then ((zf_X11_isLetter r1).bind (fun r6 => (if r6 = 0 then some (1 : Int32) else some (0 : Int32)))) else some (1 : Int32)) : Option Int32).bind (fun v7 => (if zc_bo v7 then ((some (zc_ui h5 60 20 v7) : Option zHp).bind (fun h9 => (((if (h9.1 60 20) = 0 then some (1 : Int32) else some (0 : Int32)) : Option Int32).bind (fun v10 => ((some (zc_ui h9 60 19 ((h9.1 60 19) + v10)) : Option zHp).bind (fun h11 => (((if (h11.1 60 20) = 0 then ((zf_X11_readNumbers r1 ((4 : Int32) * (h.1 60 21)) h11).bind (fun r12 => some r12)) else some h11) : Option zHp).bind (fun v13 => (((if (v13.1 60 20) = 0 then ((zf_X11_here v13).bind (fun r14 => (if r14 = (59 : Int32) then some (0 : Int32) else some (1 : Int32)))) else some (1 : Int32)) : Option Int32).bind (fun v15 => (if zc_bo v15 then ((some (zc_ui v13 60 20 v15) : Option zHp).bind (fun h17 => (((if (h17.1 60 20) = 0 then some (1 : Int32) else some (0 : Int32)) : Option Int32).bind (fun v18 => ((some (zc_ui h17 60 19 ((h17.1 60 19) + v18)) : Option zHp).bind (fun h19 => ((some (zc_ui h19 60 21 ((h19.1 60 21) + (1 : Int32))) : Option zHp).bind (fun h20 => some h20)))))))) else none))))))))))) else none))))) else none))) else none)))
set_option maxRecDepth 100000 in
set_option maxHeartbeats 4000000 in
theorem zt_X11_readStatement (h : zHp) {r : zHp} (hr : (zf_X11_readStatement h) = some r) : zc_Cn zM_X11_readStatement [.ref 60] h (zc_mV r) := by
  refine zc_meth (mk := zc_mV) (o := (zf_X11_readStatement h)) (by decide +kernel) (Nat.le_of_ble_eq_true rfl) ?_ hr
  unfold zf_X11_readStatement
  refine zc_sL (ls1 := [some (.ref 60), none, none]) rfl ?_
  refine zc_aload_n (pc := 0) dX11_readStatement_0 rfl rfl ?_
  refine zc_getI (pc := 1) zF_X11_151 rfl dX11_readStatement_1 ?_
  refine zc_istore_n (pc := 4) dX11_readStatement_4 rfl (Nat.le_of_ble_eq_true rfl) rfl (Nat.le_of_ble_eq_true rfl) ?_
  refine zc_sL (ls1 := [some (.ref 60), some (.int (h.1 60 21)), none]) rfl ?_
  refine zc_aload_n (pc := 5) dX11_readStatement_5 rfl rfl ?_
  refine zc_callIp (pc := 6) [.ref 60] rfl (zc_runV (ci := 11) (n0 := 0) (q := (RX11, TX11, 35)) zo_X11_here ⟨Nat.le_of_ble_eq_true rfl, Nat.le_of_ble_eq_true rfl⟩ zw_1078 zw_1080 zs_20 rfl (by decide) rfl rfl dX11_readStatement_6) (Nat.le_of_ble_eq_true rfl) (fun _ hr => zt_X11_here h hr) (fun r1 => ?_)
  refine zc_istore_n (pc := 9) dX11_readStatement_9 rfl (Nat.le_of_ble_eq_true rfl) rfl (Nat.le_of_ble_eq_true rfl) ?_
  refine zc_sL (ls1 := [some (.ref 60), some (.int (h.1 60 21)), some (.int r1)]) rfl ?_
  refine zc_aload_n (pc := 10) dX11_readStatement_10 rfl rfl ?_
  refine zc_getC (pc := 11) zF_X11_44 rfl dX11_readStatement_11 ?_
  refine zc_iload_n (pc := 14) dX11_readStatement_14 rfl rfl ?_
  refine zc_aload_n (pc := 15) dX11_readStatement_15 rfl rfl ?_
  refine zc_getI (pc := 16) zF_X11_130 rfl dX11_readStatement_16 ?_
  refine zc_guard (fun g2 => ?_)
  refine zc_asti (pc := 19) rfl g2 dX11_readStatement_19 ?_
  refine zc_letH (fun h3 _ => ?_)
  refine zc_aload_n (pc := 20) dX11_readStatement_20 rfl rfl ?_
  refine zc_getC (pc := 21) zF_X11_47 rfl dX11_readStatement_21 ?_
  refine zc_iload_n (pc := 24) dX11_readStatement_24 rfl rfl ?_
  refine zc_iload_n (pc := 25) dX11_readStatement_25 rfl rfl ?_
  refine zc_guard (fun g4 => ?_)
  refine zc_asti (pc := 26) rfl g4 dX11_readStatement_26 ?_
  refine zc_letH (fun h5 _ => ?_)
  refine zc_aload_n (pc := 27) dX11_readStatement_27 rfl rfl ?_
  refine zc_aload_n (pc := 28) dX11_readStatement_28 rfl rfl ?_
  refine zc_getI (pc := 29) zF_X11_136 rfl dX11_readStatement_29 ?_
  refine zc_join 47 (fun v7 => [some (.ref 60), some (.int (h.1 60 21)), some (.int r1)]) (fun v7 => [.int v7, .ref 60]) (fun v7 => h5) (fun v7 => ?_) (fun J21 => ?_)
  · refine zc_guard (fun g8 => ?_)
    refine zc_putZ (pc := 47) zF_X11_136 rfl g8 dX11_readStatement_47 ?_
    refine zc_letH (fun h9 _ => ?_)
    refine zc_aload_n (pc := 50) dX11_readStatement_50 rfl rfl ?_
    refine zc_dup (pc := 51) dX11_readStatement_51 rfl ?_
    refine zc_getI (pc := 52) zF_X11_130 rfl dX11_readStatement_52 ?_
    refine zc_aload_n (pc := 55) dX11_readStatement_55 rfl rfl ?_
    refine zc_getI (pc := 56) zF_X11_136 rfl dX11_readStatement_56 ?_
    refine zc_join 67 (fun v10 => [some (.ref 60), some (.int (h.1 60 21)), some (.int r1)]) (fun v10 => [.int v10, .int (h9.1 60 19), .ref 60]) (fun v10 => h9) (fun v10 => ?_) (fun J22 => ?_)
    · refine zc_iadd (pc := 67) dX11_readStatement_67 ?_
      refine zc_putI (pc := 68) zF_X11_130 rfl dX11_readStatement_68 ?_
      refine zc_letH (fun h11 _ => ?_)
      refine zc_aload_n (pc := 71) dX11_readStatement_71 rfl rfl ?_
      refine zc_getI (pc := 72) zF_X11_136 rfl dX11_readStatement_72 ?_
      refine zc_join 86 (fun v13 => [some (.ref 60), none, none]) (fun v13 => []) (fun v13 => v13) (fun v13 => ?_) (fun J23 => ?_)
      · refine zc_aload_n (pc := 86) dX11_readStatement_86 rfl rfl ?_
        refine zc_aload_n (pc := 87) dX11_readStatement_87 rfl rfl ?_
        refine zc_getI (pc := 88) zF_X11_136 rfl dX11_readStatement_88 ?_
        refine zc_join 108 (fun v15 => [some (.ref 60), none, none]) (fun v15 => [.int v15, .ref 60]) (fun v15 => v13) (fun v15 => ?_) (fun J24 => ?_)
        · refine zc_guard (fun g16 => ?_)
          refine zc_putZ (pc := 108) zF_X11_136 rfl g16 dX11_readStatement_108 ?_
          refine zc_letH (fun h17 _ => ?_)
          refine zc_aload_n (pc := 111) dX11_readStatement_111 rfl rfl ?_
          refine zc_dup (pc := 112) dX11_readStatement_112 rfl ?_
          refine zc_getI (pc := 113) zF_X11_130 rfl dX11_readStatement_113 ?_
          refine zc_aload_n (pc := 116) dX11_readStatement_116 rfl rfl ?_
          refine zc_getI (pc := 117) zF_X11_136 rfl dX11_readStatement_117 ?_
          refine zc_join 128 (fun v18 => [some (.ref 60), none, none]) (fun v18 => [.int v18, .int (h17.1 60 19), .ref 60]) (fun v18 => h17) (fun v18 => ?_) (fun J25 => ?_)
          · refine zc_iadd (pc := 128) dX11_readStatement_128 ?_
            refine zc_putI (pc := 129) zF_X11_130 rfl dX11_readStatement_129 ?_
            refine zc_letH (fun h19 _ => ?_)
            refine zc_aload_n (pc := 132) dX11_readStatement_132 rfl rfl ?_
            refine zc_dup (pc := 133) dX11_readStatement_133 rfl ?_
            refine zc_getI (pc := 134) zF_X11_151 rfl dX11_readStatement_134 ?_
            refine zc_iconst (pc := 137) (1 : Int32) dX11_readStatement_137 (by decide) ?_
            refine zc_iadd (pc := 138) dX11_readStatement_138 ?_
            refine zc_putI (pc := 139) zF_X11_151 rfl dX11_readStatement_139 ?_
            refine zc_letH (fun h20 _ => ?_)
            exact zc_vretK (pc := 142) dX11_readStatement_142 rfl ⟨_, rfl, rfl⟩
          · refine zc_if_eq (pc := 120) 127 dX11_readStatement_120 (by decide) (fun _ => ?_) (fun _ => ?_)
            · refine zc_iconst (pc := 127) (1 : Int32) dX11_readStatement_127 (by decide) ?_
              exact J25 (1 : Int32)
            · refine zc_iconst (pc := 123) (0 : Int32) dX11_readStatement_123 (by decide) ?_
              refine zc_goto (pc := 124) 128 dX11_readStatement_124 (by decide) ?_
              exact J25 (0 : Int32)
        · refine zc_if_ne (pc := 91) 103 dX11_readStatement_91 (by decide) (fun _ => ?_) (fun _ => ?_)
          · refine zc_aload_n (pc := 94) dX11_readStatement_94 rfl rfl ?_
            refine zc_callIp (pc := 95) [.ref 60] rfl (zc_runV (ci := 11) (n0 := 0) (q := (RX11, TX11, 35)) zo_X11_here ⟨Nat.le_of_ble_eq_true rfl, Nat.le_of_ble_eq_true rfl⟩ zw_1078 zw_1080 zs_20 rfl (by decide) rfl rfl dX11_readStatement_95) (Nat.le_of_ble_eq_true rfl) (fun _ hr => zt_X11_here v13 hr) (fun r14 => ?_)
            refine zc_bipush (pc := 98) (59 : Int32) dX11_readStatement_98 (by decide) ?_
            refine zc_icmp_eq (pc := 100) 107 dX11_readStatement_100 (by decide) (fun _ => ?_) (fun _ => ?_)
            · refine zc_iconst (pc := 107) (0 : Int32) dX11_readStatement_107 (by decide) ?_
              exact J24 (0 : Int32)
            · refine zc_iconst (pc := 103) (1 : Int32) dX11_readStatement_103 (by decide) ?_
              refine zc_goto (pc := 104) 108 dX11_readStatement_104 (by decide) ?_
              exact J24 (1 : Int32)
          · refine zc_iconst (pc := 103) (1 : Int32) dX11_readStatement_103 (by decide) ?_
            refine zc_goto (pc := 104) 108 dX11_readStatement_104 (by decide) ?_
            exact J24 (1 : Int32)
      · refine zc_if_ne (pc := 75) 86 dX11_readStatement_75 (by decide) (fun _ => ?_) (fun _ => ?_)
        · refine zc_aload_n (pc := 78) dX11_readStatement_78 rfl rfl ?_
          refine zc_iload_n (pc := 79) dX11_readStatement_79 rfl rfl ?_
          refine zc_iconst (pc := 80) (4 : Int32) dX11_readStatement_80 (by decide) ?_
          refine zc_iload_n (pc := 81) dX11_readStatement_81 rfl rfl ?_
          refine zc_imul (pc := 82) dX11_readStatement_82 ?_
          refine zc_callV (pc := 83) [.ref 60, .int r1, .int ((4 : Int32) * (h.1 60 21))] rfl (zc_runV (ci := 11) (n0 := 0) (q := (RX11, TX11, 35)) zo_X11_readNumbers ⟨Nat.le_of_ble_eq_true rfl, Nat.le_of_ble_eq_true rfl⟩ zw_1085 zw_1087 zs_21 rfl (by decide) rfl rfl dX11_readStatement_83) (Nat.le_of_ble_eq_true rfl) (fun _ hr => zt_X11_readNumbers r1 ((4 : Int32) * (h.1 60 21)) h11 hr) (fun r12 => ?_)
          refine zc_drop 1 ?_
          refine zc_drop 2 ?_
          exact J23 r12
        · refine zc_drop 1 ?_
          refine zc_drop 2 ?_
          exact J23 h11
    · refine zc_if_eq (pc := 59) 66 dX11_readStatement_59 (by decide) (fun _ => ?_) (fun _ => ?_)
      · refine zc_iconst (pc := 66) (1 : Int32) dX11_readStatement_66 (by decide) ?_
        exact J22 (1 : Int32)
      · refine zc_iconst (pc := 62) (0 : Int32) dX11_readStatement_62 (by decide) ?_
        refine zc_goto (pc := 63) 67 dX11_readStatement_63 (by decide) ?_
        exact J22 (0 : Int32)
  · refine zc_if_ne (pc := 32) 42 dX11_readStatement_32 (by decide) (fun _ => ?_) (fun _ => ?_)
    · refine zc_iload_n (pc := 35) dX11_readStatement_35 rfl rfl ?_
      refine zc_callIp (pc := 36) [.int r1] rfl (zc_runS zo_X11_isLetter ⟨Nat.le_of_ble_eq_true rfl, Nat.le_of_ble_eq_true rfl⟩ zw_1082 zw_1083 rfl dX11_readStatement_36) (Nat.le_of_ble_eq_true rfl) (fun _ hr => zt_X11_isLetter r1 h5 hr) (fun r6 => ?_)
      refine zc_if_ne (pc := 39) 46 dX11_readStatement_39 (by decide) (fun _ => ?_) (fun _ => ?_)
      · refine zc_iconst (pc := 42) (1 : Int32) dX11_readStatement_42 (by decide) ?_
        refine zc_goto (pc := 43) 47 dX11_readStatement_43 (by decide) ?_
        exact J21 (1 : Int32)
      · refine zc_iconst (pc := 46) (0 : Int32) dX11_readStatement_46 (by decide) ?_
        exact J21 (0 : Int32)
    · refine zc_iconst (pc := 42) (1 : Int32) dX11_readStatement_42 (by decide) ?_
      refine zc_goto (pc := 43) 47 dX11_readStatement_43 (by decide) ?_
      exact J21 (1 : Int32)
def zf_X11_oneComes (x1 : Int32) (x2 : Int32) (x3 : Int32) (x4 : Int32) (h : zHp) : Option (Int32 × zHp) :=
  (((if (8 : Int32) ≤ x1 then some (0 : Int32) else ((zf_X11_isPlace x3).bind (fun r1 => (if r1 = 0 then some (0 : Int32) else (if (7 : Int32) ≤ x4 then some (0 : Int32) else (if (7 : Int32) ≤ (h.1 60 3) then some (0 : Int32) else some (1 : Int32))))))) : Option Int32).bind (fun v2 => (if v2 = 0 then (if zc_bo v2 then some (v2, h) else none) else (if zc_ix (h.1 60 3) 7 then ((some (zc_ui h 61 (h.1 60 3).toNatClampNeg x1) : Option zHp).bind (fun h4 => (if zc_ix (h4.1 60 3) 7 then ((some (zc_ui h4 62 (h4.1 60 3).toNatClampNeg x2) : Option zHp).bind (fun h6 => (if zc_ix (h6.1 60 3) 7 then ((some (zc_ui h6 63 (h6.1 60 3).toNatClampNeg x3) : Option zHp).bind (fun h8 => (if zc_ix (h8.1 60 3) 7 then ((some (zc_ui h8 64 (h8.1 60 3).toNatClampNeg x4) : Option zHp).bind (fun h10 => (if zc_ix (h10.1 60 3) 7 then ((some (zc_ui h10 65 (h10.1 60 3).toNatClampNeg (10 : Int32)) : Option zHp).bind (fun h12 => ((some (zc_ui h12 60 3 ((h12.1 60 3) + (1 : Int32))) : Option zHp).bind (fun h13 => (if zc_bo v2 then some (v2, h13) else none))))) else none))) else none))) else none))) else none))) else none))))
set_option maxRecDepth 100000 in
set_option maxHeartbeats 4000000 in
theorem zt_X11_oneComes (x1 : Int32) (x2 : Int32) (x3 : Int32) (x4 : Int32) (h : zHp) {r : (Int32 × zHp)} (hr : (zf_X11_oneComes x1 x2 x3 x4 h) = some r) : zc_Cn zM_X11_oneComes [.ref 60, .int x1, .int x2, .int x3, .int x4] h (zc_mI r) := by
  refine zc_meth (mk := zc_mI) (o := (zf_X11_oneComes x1 x2 x3 x4 h)) (by decide +kernel) (Nat.le_of_ble_eq_true rfl) ?_ hr
  unfold zf_X11_oneComes
  refine zc_sL (ls1 := [some (.ref 60), some (.int x1), some (.int x2), some (.int x3), some (.int x4), none]) rfl ?_
  refine zc_iload_n (pc := 0) dX11_oneComes_0 rfl rfl ?_
  refine zc_bipush (pc := 1) (8 : Int32) dX11_oneComes_1 (by decide) ?_
  refine zc_join 34 (fun v2 => [some (.ref 60), some (.int x1), some (.int x2), some (.int x3), some (.int x4), none]) (fun v2 => [.int v2]) (fun v2 => h) (fun v2 => ?_) (fun J14 => ?_)
  · refine zc_istore (pc := 34) dX11_oneComes_34 (Nat.le_of_ble_eq_true rfl) rfl (Nat.le_of_ble_eq_true rfl) ?_
    refine zc_sL (ls1 := [some (.ref 60), some (.int x1), some (.int x2), some (.int x3), some (.int x4), some (.int v2)]) rfl ?_
    refine zc_iload (pc := 36) dX11_oneComes_36 rfl ?_
    refine zc_if_eq (pc := 38) 103 dX11_oneComes_38 (by decide) (fun _ => ?_) (fun _ => ?_)
    · refine zc_iload (pc := 103) dX11_oneComes_103 rfl ?_
      refine zc_guard (fun gz => ?_)
      exact zc_zretK (pc := 105) dX11_oneComes_105 rfl (zc_bo_and gz) ⟨_, rfl, rfl⟩
    · refine zc_aload_n (pc := 41) dX11_oneComes_41 rfl rfl ?_
      refine zc_getC (pc := 42) zF_X11_7 rfl dX11_oneComes_42 ?_
      refine zc_aload_n (pc := 45) dX11_oneComes_45 rfl rfl ?_
      refine zc_getI (pc := 46) zF_X11_84 rfl dX11_oneComes_46 ?_
      refine zc_iload_n (pc := 49) dX11_oneComes_49 rfl rfl ?_
      refine zc_guard (fun g3 => ?_)
      refine zc_asti (pc := 50) rfl g3 dX11_oneComes_50 ?_
      refine zc_letH (fun h4 _ => ?_)
      refine zc_aload_n (pc := 51) dX11_oneComes_51 rfl rfl ?_
      refine zc_getC (pc := 52) zF_X11_13 rfl dX11_oneComes_52 ?_
      refine zc_aload_n (pc := 55) dX11_oneComes_55 rfl rfl ?_
      refine zc_getI (pc := 56) zF_X11_84 rfl dX11_oneComes_56 ?_
      refine zc_iload_n (pc := 59) dX11_oneComes_59 rfl rfl ?_
      refine zc_guard (fun g5 => ?_)
      refine zc_asti (pc := 60) rfl g5 dX11_oneComes_60 ?_
      refine zc_letH (fun h6 _ => ?_)
      refine zc_aload_n (pc := 61) dX11_oneComes_61 rfl rfl ?_
      refine zc_getC (pc := 62) zF_X11_16 rfl dX11_oneComes_62 ?_
      refine zc_aload_n (pc := 65) dX11_oneComes_65 rfl rfl ?_
      refine zc_getI (pc := 66) zF_X11_84 rfl dX11_oneComes_66 ?_
      refine zc_iload_n (pc := 69) dX11_oneComes_69 rfl rfl ?_
      refine zc_guard (fun g7 => ?_)
      refine zc_asti (pc := 70) rfl g7 dX11_oneComes_70 ?_
      refine zc_letH (fun h8 _ => ?_)
      refine zc_aload_n (pc := 71) dX11_oneComes_71 rfl rfl ?_
      refine zc_getC (pc := 72) zF_X11_19 rfl dX11_oneComes_72 ?_
      refine zc_aload_n (pc := 75) dX11_oneComes_75 rfl rfl ?_
      refine zc_getI (pc := 76) zF_X11_84 rfl dX11_oneComes_76 ?_
      refine zc_iload (pc := 79) dX11_oneComes_79 rfl ?_
      refine zc_guard (fun g9 => ?_)
      refine zc_asti (pc := 81) rfl g9 dX11_oneComes_81 ?_
      refine zc_letH (fun h10 _ => ?_)
      refine zc_aload_n (pc := 82) dX11_oneComes_82 rfl rfl ?_
      refine zc_getC (pc := 83) zF_X11_22 rfl dX11_oneComes_83 ?_
      refine zc_aload_n (pc := 86) dX11_oneComes_86 rfl rfl ?_
      refine zc_getI (pc := 87) zF_X11_84 rfl dX11_oneComes_87 ?_
      refine zc_bipush (pc := 90) (10 : Int32) dX11_oneComes_90 (by decide) ?_
      refine zc_guard (fun g11 => ?_)
      refine zc_asti (pc := 92) rfl g11 dX11_oneComes_92 ?_
      refine zc_letH (fun h12 _ => ?_)
      refine zc_aload_n (pc := 93) dX11_oneComes_93 rfl rfl ?_
      refine zc_dup (pc := 94) dX11_oneComes_94 rfl ?_
      refine zc_getI (pc := 95) zF_X11_84 rfl dX11_oneComes_95 ?_
      refine zc_iconst (pc := 98) (1 : Int32) dX11_oneComes_98 (by decide) ?_
      refine zc_iadd (pc := 99) dX11_oneComes_99 ?_
      refine zc_putI (pc := 100) zF_X11_84 rfl dX11_oneComes_100 ?_
      refine zc_letH (fun h13 _ => ?_)
      refine zc_iload (pc := 103) dX11_oneComes_103 rfl ?_
      refine zc_guard (fun gz => ?_)
      exact zc_zretK (pc := 105) dX11_oneComes_105 rfl (zc_bo_and gz) ⟨_, rfl, rfl⟩
  · refine zc_icmp_ge (pc := 3) 33 dX11_oneComes_3 (by decide) (fun _ => ?_) (fun _ => ?_)
    · refine zc_iconst (pc := 33) (0 : Int32) dX11_oneComes_33 (by decide) ?_
      exact J14 (0 : Int32)
    · refine zc_iload_n (pc := 6) dX11_oneComes_6 rfl rfl ?_
      refine zc_callIp (pc := 7) [.int x3] rfl (zc_runS zo_X11_isPlace ⟨Nat.le_of_ble_eq_true rfl, Nat.le_of_ble_eq_true rfl⟩ zw_1115 zw_1116 rfl dX11_oneComes_7) (Nat.le_of_ble_eq_true rfl) (fun _ hr => zt_X11_isPlace x3 h hr) (fun r1 => ?_)
      refine zc_if_eq (pc := 10) 33 dX11_oneComes_10 (by decide) (fun _ => ?_) (fun _ => ?_)
      · refine zc_iconst (pc := 33) (0 : Int32) dX11_oneComes_33 (by decide) ?_
        exact J14 (0 : Int32)
      · refine zc_iload (pc := 13) dX11_oneComes_13 rfl ?_
        refine zc_bipush (pc := 15) (7 : Int32) dX11_oneComes_15 (by decide) ?_
        refine zc_icmp_ge (pc := 17) 33 dX11_oneComes_17 (by decide) (fun _ => ?_) (fun _ => ?_)
        · refine zc_iconst (pc := 33) (0 : Int32) dX11_oneComes_33 (by decide) ?_
          exact J14 (0 : Int32)
        · refine zc_aload_n (pc := 20) dX11_oneComes_20 rfl rfl ?_
          refine zc_getI (pc := 21) zF_X11_84 rfl dX11_oneComes_21 ?_
          refine zc_bipush (pc := 24) (7 : Int32) dX11_oneComes_24 (by decide) ?_
          refine zc_icmp_ge (pc := 26) 33 dX11_oneComes_26 (by decide) (fun _ => ?_) (fun _ => ?_)
          · refine zc_iconst (pc := 33) (0 : Int32) dX11_oneComes_33 (by decide) ?_
            exact J14 (0 : Int32)
          · refine zc_iconst (pc := 29) (1 : Int32) dX11_oneComes_29 (by decide) ?_
            refine zc_goto (pc := 30) 34 dX11_oneComes_30 (by decide) ?_
            exact J14 (1 : Int32)
def zf_X11_daysCome (x1 : Int32) (h : zHp) : Option (Int32 × zHp) :=
  ((zf_X11_in x1.toInt64 (1 : Int64) (60 : Int64)).bind (fun r1 => (((if r1 = 0 then some (0 : Int32) else (if (999 : Int32) < ((h.1 60 10) + x1) then some (0 : Int32) else some (1 : Int32))) : Option Int32).bind (fun v2 => (if v2 = 0 then (if zc_bo v2 then some (v2, h) else none) else ((zf_X11_goDays x1 h).bind (fun r3 => (if zc_bo v2 then some (v2, r3) else none))))))))
set_option maxRecDepth 100000 in
set_option maxHeartbeats 4000000 in
theorem zt_X11_daysCome (x1 : Int32) (h : zHp) {r : (Int32 × zHp)} (hr : (zf_X11_daysCome x1 h) = some r) : zc_Cn zM_X11_daysCome [.ref 60, .int x1] h (zc_mI r) := by
  refine zc_meth (mk := zc_mI) (o := (zf_X11_daysCome x1 h)) (by decide +kernel) (Nat.le_of_ble_eq_true rfl) ?_ hr
  unfold zf_X11_daysCome
  refine zc_sL (ls1 := [some (.ref 60), some (.int x1), none]) rfl ?_
  refine zc_iload_n (pc := 0) dX11_daysCome_0 rfl rfl ?_
  refine zc_i2l (pc := 1) dX11_daysCome_1 ?_
  refine zc_lconst (pc := 2) (1 : Int64) dX11_daysCome_2 (by decide) ?_
  refine zc_ldc2 (pc := 3) dX11_daysCome_3 zw_1127 ?_
  refine zc_callIp (pc := 6) [.long x1.toInt64, .long (1 : Int64), .long (60 : Int64)] rfl (zc_runS zo_X11_in ⟨Nat.le_of_ble_eq_true rfl, Nat.le_of_ble_eq_true rfl⟩ zw_1071 zw_1072 rfl dX11_daysCome_6) (Nat.le_of_ble_eq_true rfl) (fun _ hr => zt_X11_in x1.toInt64 (1 : Int64) (60 : Int64) h hr) (fun r1 => ?_)
  refine zc_join 29 (fun v2 => [some (.ref 60), some (.int x1), none]) (fun v2 => [.int v2]) (fun v2 => h) (fun v2 => ?_) (fun J4 => ?_)
  · refine zc_istore_n (pc := 29) dX11_daysCome_29 rfl (Nat.le_of_ble_eq_true rfl) rfl (Nat.le_of_ble_eq_true rfl) ?_
    refine zc_sL (ls1 := [some (.ref 60), some (.int x1), some (.int v2)]) rfl ?_
    refine zc_iload_n (pc := 30) dX11_daysCome_30 rfl rfl ?_
    refine zc_if_eq (pc := 31) 39 dX11_daysCome_31 (by decide) (fun _ => ?_) (fun _ => ?_)
    · refine zc_iload_n (pc := 39) dX11_daysCome_39 rfl rfl ?_
      refine zc_guard (fun gz => ?_)
      exact zc_zretK (pc := 40) dX11_daysCome_40 rfl (zc_bo_and gz) ⟨_, rfl, rfl⟩
    · refine zc_aload_n (pc := 34) dX11_daysCome_34 rfl rfl ?_
      refine zc_iload_n (pc := 35) dX11_daysCome_35 rfl rfl ?_
      refine zc_callV (pc := 36) [.ref 60, .int x1] rfl (zc_runV (ci := 11) (n0 := 0) (q := (RX11, TX11, 35)) zo_X11_goDays ⟨Nat.le_of_ble_eq_true rfl, Nat.le_of_ble_eq_true rfl⟩ zw_1128 zw_1130 zs_30 rfl (by decide) rfl rfl dX11_daysCome_36) (Nat.le_of_ble_eq_true rfl) (fun _ hr => zt_X11_goDays x1 h hr) (fun r3 => ?_)
      refine zc_iload_n (pc := 39) dX11_daysCome_39 rfl rfl ?_
      refine zc_guard (fun gz => ?_)
      exact zc_zretK (pc := 40) dX11_daysCome_40 rfl (zc_bo_and gz) ⟨_, rfl, rfl⟩
  · refine zc_if_eq (pc := 9) 28 dX11_daysCome_9 (by decide) (fun _ => ?_) (fun _ => ?_)
    · refine zc_iconst (pc := 28) (0 : Int32) dX11_daysCome_28 (by decide) ?_
      exact J4 (0 : Int32)
    · refine zc_aload_n (pc := 12) dX11_daysCome_12 rfl rfl ?_
      refine zc_getI (pc := 13) zF_X11_97 rfl dX11_daysCome_13 ?_
      refine zc_iload_n (pc := 16) dX11_daysCome_16 rfl rfl ?_
      refine zc_iadd (pc := 17) dX11_daysCome_17 ?_
      refine zc_sipush (pc := 18) (999 : Int32) dX11_daysCome_18 (by decide) ?_
      refine zc_icmp_gt (pc := 21) 28 dX11_daysCome_21 (by decide) (fun _ => ?_) (fun _ => ?_)
      · refine zc_iconst (pc := 28) (0 : Int32) dX11_daysCome_28 (by decide) ?_
        exact J4 (0 : Int32)
      · refine zc_iconst (pc := 24) (1 : Int32) dX11_daysCome_24 (by decide) ?_
        refine zc_goto (pc := 25) 29 dX11_daysCome_25 (by decide) ?_
        exact J4 (1 : Int32)
def zf_X11_comesTold (x1 : Int32) (h : zHp) : Option (Int32 × zHp) :=
  (if zc_ix ((4 : Int32) * x1) 204 then ((some (h.1 74 ((4 : Int32) * x1).toNatClampNeg) : Option Int32).bind (fun v2 => (if zc_ix (((4 : Int32) * x1) + (1 : Int32)) 204 then ((some (h.1 74 (((4 : Int32) * x1) + (1 : Int32)).toNatClampNeg) : Option Int32).bind (fun v4 => (if zc_ix x1 51 then (if (h.1 73 x1.toNatClampNeg) = (99 : Int32) then ((zf_X11_isPlace v2).bind (fun r6 => (((if r6 = 0 then some (h.1 60 0) else some v2) : Option Int32).bind (fun v7 => ((some (zc_ui h 60 0 v7) : Option zHp).bind (fun h8 => (if zc_bo r6 then some (r6, h8) else none))))))) else (if (h.1 73 x1.toNatClampNeg) = (102 : Int32) then ((zf_X11_isOne v2 h).bind (fun r9 => (((if r9 = 0 then some (0 : Int32) else (if (7 : Int32) ≤ v4 then some (0 : Int32) else some (1 : Int32))) : Option Int32).bind (fun v10 => (if v10 = 0 then (if zc_bo v10 then some (v10, h) else none) else (if zc_ix v2 7 then ((some (zc_ui h 64 v2.toNatClampNeg v4) : Option zHp).bind (fun h12 => (if zc_bo v10 then some (v10, h12) else none))) else none)))))) else (if (h.1 73 x1.toNatClampNeg) = (107 : Int32) then ((zf_X11_isOne v2 h).bind (fun r13 => (if r13 = 0 then (if zc_bo r13 then some (r13, h) else none) else (if zc_ix v2 7 then ((some (zc_ui h 65 v2.toNatClampNeg v4) : Option zHp).bind (fun h15 => (if zc_bo r13 then some (r13, h15) else none))) else none)))) else (if (h.1 73 x1.toNatClampNeg) = (115 : Int32) then (((if (5 : Int32) < v2 then some (0 : Int32) else ((zf_X11_isPlace v4).bind (fun r16 => (if r16 = 0 then some (0 : Int32) else some (1 : Int32))))) : Option Int32).bind (fun v17 => (((if v17 = 0 then some (h.1 60 1) else some v2) : Option Int32).bind (fun v18 => ((some (zc_ui h 60 1 v18) : Option zHp).bind (fun h19 => (((if v17 = 0 then some (h19.1 60 2) else some v4) : Option Int32).bind (fun v20 => ((some (zc_ui h19 60 2 v20) : Option zHp).bind (fun h21 => (if zc_bo v17 then some (v17, h21) else none))))))))))) else (if (h.1 73 x1.toNatClampNeg) = (118 : Int32) then (if zc_ix (((4 : Int32) * x1) + (2 : Int32)) 204 then (if zc_ix (((4 : Int32) * x1) + (3 : Int32)) 204 then ((zf_X11_oneComes v2 v4 (h.1 74 (((4 : Int32) * x1) + (2 : Int32)).toNatClampNeg) (h.1 74 (((4 : Int32) * x1) + (3 : Int32)).toNatClampNeg) h).bind (fun r24 => (if zc_bo r24.1 then some (r24.1, r24.2) else none))) else none) else none) else ((zf_X11_daysCome v2 h).bind (fun r25 => (if zc_bo r25.1 then some (r25.1, r25.2) else none)))))))) else none))) else none))) else none)
set_option maxRecDepth 100000 in
set_option maxHeartbeats 4000000 in
theorem zt_X11_comesTold (x1 : Int32) (h : zHp) {r : (Int32 × zHp)} (hr : (zf_X11_comesTold x1 h) = some r) : zc_Cn zM_X11_comesTold [.ref 60, .int x1] h (zc_mI r) := by
  refine zc_meth (mk := zc_mI) (o := (zf_X11_comesTold x1 h)) (by decide +kernel) (Nat.le_of_ble_eq_true rfl) ?_ hr
  unfold zf_X11_comesTold
  refine zc_sL (ls1 := [some (.ref 60), some (.int x1), none, none, none]) rfl ?_
  refine zc_aload_n (pc := 0) dX11_comesTold_0 rfl rfl ?_
  refine zc_getC (pc := 1) zF_X11_50 rfl dX11_comesTold_1 ?_
  refine zc_iconst (pc := 4) (4 : Int32) dX11_comesTold_4 (by decide) ?_
  refine zc_iload_n (pc := 5) dX11_comesTold_5 rfl rfl ?_
  refine zc_imul (pc := 6) dX11_comesTold_6 ?_
  refine zc_guard (fun g1 => ?_)
  refine zc_aldi (pc := 7) rfl g1 dX11_comesTold_7 ?_
  refine zc_letI (fun v2 _ => ?_)
  refine zc_istore_n (pc := 8) dX11_comesTold_8 rfl (Nat.le_of_ble_eq_true rfl) rfl (Nat.le_of_ble_eq_true rfl) ?_
  refine zc_sL (ls1 := [some (.ref 60), some (.int x1), some (.int v2), none, none]) rfl ?_
  refine zc_aload_n (pc := 9) dX11_comesTold_9 rfl rfl ?_
  refine zc_getC (pc := 10) zF_X11_50 rfl dX11_comesTold_10 ?_
  refine zc_iconst (pc := 13) (4 : Int32) dX11_comesTold_13 (by decide) ?_
  refine zc_iload_n (pc := 14) dX11_comesTold_14 rfl rfl ?_
  refine zc_imul (pc := 15) dX11_comesTold_15 ?_
  refine zc_iconst (pc := 16) (1 : Int32) dX11_comesTold_16 (by decide) ?_
  refine zc_iadd (pc := 17) dX11_comesTold_17 ?_
  refine zc_guard (fun g3 => ?_)
  refine zc_aldi (pc := 18) rfl g3 dX11_comesTold_18 ?_
  refine zc_letI (fun v4 _ => ?_)
  refine zc_istore_n (pc := 19) dX11_comesTold_19 rfl (Nat.le_of_ble_eq_true rfl) rfl (Nat.le_of_ble_eq_true rfl) ?_
  refine zc_sL (ls1 := [some (.ref 60), some (.int x1), some (.int v2), some (.int v4), none]) rfl ?_
  refine zc_iconst (pc := 20) (1 : Int32) dX11_comesTold_20 (by decide) ?_
  refine zc_istore (pc := 21) dX11_comesTold_21 (Nat.le_of_ble_eq_true rfl) rfl (Nat.le_of_ble_eq_true rfl) ?_
  refine zc_sL (ls1 := [some (.ref 60), some (.int x1), some (.int v2), some (.int v4), some (.int (1 : Int32))]) rfl ?_
  refine zc_aload_n (pc := 23) dX11_comesTold_23 rfl rfl ?_
  refine zc_getC (pc := 24) zF_X11_47 rfl dX11_comesTold_24 ?_
  refine zc_iload_n (pc := 27) dX11_comesTold_27 rfl rfl ?_
  refine zc_guard (fun g5 => ?_)
  refine zc_aldi (pc := 28) rfl g5 dX11_comesTold_28 ?_
  refine zc_sw (fun s26 => ?_) (fun s26 => ?_)
  · refine zc_lsw (pc := 29) 107 dX11_comesTold_29 (by decide) (by rw [s26]) (by decide) ?_
    refine zc_iload_n (pc := 107) dX11_comesTold_107 rfl rfl ?_
    refine zc_callIp (pc := 108) [.int v2] rfl (zc_runS zo_X11_isPlace ⟨Nat.le_of_ble_eq_true rfl, Nat.le_of_ble_eq_true rfl⟩ zw_1115 zw_1116 rfl dX11_comesTold_108) (Nat.le_of_ble_eq_true rfl) (fun _ hr => zt_X11_isPlace v2 h hr) (fun r6 => ?_)
    refine zc_istore (pc := 111) dX11_comesTold_111 (Nat.le_of_ble_eq_true rfl) rfl (Nat.le_of_ble_eq_true rfl) ?_
    refine zc_sL (ls1 := [some (.ref 60), some (.int x1), some (.int v2), some (.int v4), some (.int r6)]) rfl ?_
    refine zc_aload_n (pc := 113) dX11_comesTold_113 rfl rfl ?_
    refine zc_iload (pc := 114) dX11_comesTold_114 rfl ?_
    refine zc_join 127 (fun v7 => [none, none, none, none, some (.int r6)]) (fun v7 => [.int v7, .ref 60]) (fun v7 => h) (fun v7 => ?_) (fun J27 => ?_)
    · refine zc_putI (pc := 127) zF_X11_91 rfl dX11_comesTold_127 ?_
      refine zc_letH (fun h8 _ => ?_)
      refine zc_iload (pc := 130) dX11_comesTold_130 rfl ?_
      refine zc_guard (fun gz => ?_)
      exact zc_zretK (pc := 132) dX11_comesTold_132 rfl (zc_bo_and gz) ⟨_, rfl, rfl⟩
    · refine zc_if_eq (pc := 116) 123 dX11_comesTold_116 (by decide) (fun _ => ?_) (fun _ => ?_)
      · refine zc_aload_n (pc := 123) dX11_comesTold_123 rfl rfl ?_
        refine zc_getI (pc := 124) zF_X11_91 rfl dX11_comesTold_124 ?_
        refine zc_drop 0 ?_
        refine zc_drop 1 ?_
        refine zc_drop 2 ?_
        refine zc_drop 3 ?_
        exact J27 (h.1 60 0)
      · refine zc_iload_n (pc := 119) dX11_comesTold_119 rfl rfl ?_
        refine zc_goto (pc := 120) 127 dX11_comesTold_120 (by decide) ?_
        refine zc_drop 0 ?_
        refine zc_drop 1 ?_
        refine zc_drop 2 ?_
        refine zc_drop 3 ?_
        exact J27 v2
  refine zc_sw (fun s28 => ?_) (fun s28 => ?_)
  · refine zc_lsw (pc := 29) 211 dX11_comesTold_29 (by decide) (by rw [s28]) (by decide) ?_
    refine zc_aload_n (pc := 211) dX11_comesTold_211 rfl rfl ?_
    refine zc_iload_n (pc := 212) dX11_comesTold_212 rfl rfl ?_
    refine zc_callIp (pc := 213) [.ref 60, .int v2] rfl (zc_runV (ci := 11) (n0 := 0) (q := (RX11, TX11, 35)) zo_X11_isOne ⟨Nat.le_of_ble_eq_true rfl, Nat.le_of_ble_eq_true rfl⟩ zw_1119 zw_1121 zs_28 rfl (by decide) rfl rfl dX11_comesTold_213) (Nat.le_of_ble_eq_true rfl) (fun _ hr => zt_X11_isOne v2 h hr) (fun r9 => ?_)
    refine zc_join 230 (fun v10 => [some (.ref 60), none, some (.int v2), some (.int v4), none]) (fun v10 => [.int v10]) (fun v10 => h) (fun v10 => ?_) (fun J29 => ?_)
    · refine zc_istore (pc := 230) dX11_comesTold_230 (Nat.le_of_ble_eq_true rfl) rfl (Nat.le_of_ble_eq_true rfl) ?_
      refine zc_sL (ls1 := [some (.ref 60), none, some (.int v2), some (.int v4), some (.int v10)]) rfl ?_
      refine zc_iload (pc := 232) dX11_comesTold_232 rfl ?_
      refine zc_if_eq (pc := 234) 244 dX11_comesTold_234 (by decide) (fun _ => ?_) (fun _ => ?_)
      · refine zc_iload (pc := 244) dX11_comesTold_244 rfl ?_
        refine zc_guard (fun gz => ?_)
        exact zc_zretK (pc := 246) dX11_comesTold_246 rfl (zc_bo_and gz) ⟨_, rfl, rfl⟩
      · refine zc_aload_n (pc := 237) dX11_comesTold_237 rfl rfl ?_
        refine zc_getC (pc := 238) zF_X11_19 rfl dX11_comesTold_238 ?_
        refine zc_iload_n (pc := 241) dX11_comesTold_241 rfl rfl ?_
        refine zc_iload_n (pc := 242) dX11_comesTold_242 rfl rfl ?_
        refine zc_guard (fun g11 => ?_)
        refine zc_asti (pc := 243) rfl g11 dX11_comesTold_243 ?_
        refine zc_letH (fun h12 _ => ?_)
        refine zc_iload (pc := 244) dX11_comesTold_244 rfl ?_
        refine zc_guard (fun gz => ?_)
        exact zc_zretK (pc := 246) dX11_comesTold_246 rfl (zc_bo_and gz) ⟨_, rfl, rfl⟩
    · refine zc_if_eq (pc := 216) 229 dX11_comesTold_216 (by decide) (fun _ => ?_) (fun _ => ?_)
      · refine zc_iconst (pc := 229) (0 : Int32) dX11_comesTold_229 (by decide) ?_
        refine zc_drop 1 ?_
        refine zc_drop 4 ?_
        exact J29 (0 : Int32)
      · refine zc_iload_n (pc := 219) dX11_comesTold_219 rfl rfl ?_
        refine zc_bipush (pc := 220) (7 : Int32) dX11_comesTold_220 (by decide) ?_
        refine zc_icmp_ge (pc := 222) 229 dX11_comesTold_222 (by decide) (fun _ => ?_) (fun _ => ?_)
        · refine zc_iconst (pc := 229) (0 : Int32) dX11_comesTold_229 (by decide) ?_
          refine zc_drop 1 ?_
          refine zc_drop 4 ?_
          exact J29 (0 : Int32)
        · refine zc_iconst (pc := 225) (1 : Int32) dX11_comesTold_225 (by decide) ?_
          refine zc_goto (pc := 226) 230 dX11_comesTold_226 (by decide) ?_
          refine zc_drop 1 ?_
          refine zc_drop 4 ?_
          exact J29 (1 : Int32)
  refine zc_sw (fun s30 => ?_) (fun s30 => ?_)
  · refine zc_lsw (pc := 29) 189 dX11_comesTold_29 (by decide) (by rw [s30]) (by decide) ?_
    refine zc_aload_n (pc := 189) dX11_comesTold_189 rfl rfl ?_
    refine zc_iload_n (pc := 190) dX11_comesTold_190 rfl rfl ?_
    refine zc_callIp (pc := 191) [.ref 60, .int v2] rfl (zc_runV (ci := 11) (n0 := 0) (q := (RX11, TX11, 35)) zo_X11_isOne ⟨Nat.le_of_ble_eq_true rfl, Nat.le_of_ble_eq_true rfl⟩ zw_1119 zw_1121 zs_28 rfl (by decide) rfl rfl dX11_comesTold_191) (Nat.le_of_ble_eq_true rfl) (fun _ hr => zt_X11_isOne v2 h hr) (fun r13 => ?_)
    refine zc_istore (pc := 194) dX11_comesTold_194 (Nat.le_of_ble_eq_true rfl) rfl (Nat.le_of_ble_eq_true rfl) ?_
    refine zc_sL (ls1 := [some (.ref 60), some (.int x1), some (.int v2), some (.int v4), some (.int r13)]) rfl ?_
    refine zc_iload (pc := 196) dX11_comesTold_196 rfl ?_
    refine zc_if_eq (pc := 198) 208 dX11_comesTold_198 (by decide) (fun _ => ?_) (fun _ => ?_)
    · refine zc_iload (pc := 208) dX11_comesTold_208 rfl ?_
      refine zc_guard (fun gz => ?_)
      exact zc_zretK (pc := 210) dX11_comesTold_210 rfl (zc_bo_and gz) ⟨_, rfl, rfl⟩
    · refine zc_aload_n (pc := 201) dX11_comesTold_201 rfl rfl ?_
      refine zc_getC (pc := 202) zF_X11_22 rfl dX11_comesTold_202 ?_
      refine zc_iload_n (pc := 205) dX11_comesTold_205 rfl rfl ?_
      refine zc_iload_n (pc := 206) dX11_comesTold_206 rfl rfl ?_
      refine zc_guard (fun g14 => ?_)
      refine zc_asti (pc := 207) rfl g14 dX11_comesTold_207 ?_
      refine zc_letH (fun h15 _ => ?_)
      refine zc_iload (pc := 208) dX11_comesTold_208 rfl ?_
      refine zc_guard (fun gz => ?_)
      exact zc_zretK (pc := 210) dX11_comesTold_210 rfl (zc_bo_and gz) ⟨_, rfl, rfl⟩
  refine zc_sw (fun s31 => ?_) (fun s31 => ?_)
  · refine zc_lsw (pc := 29) 133 dX11_comesTold_29 (by decide) (by rw [s31]) (by decide) ?_
    refine zc_iload_n (pc := 133) dX11_comesTold_133 rfl rfl ?_
    refine zc_iconst (pc := 134) (5 : Int32) dX11_comesTold_134 (by decide) ?_
    refine zc_join 150 (fun v17 => [some (.ref 60), none, some (.int v2), some (.int v4), none]) (fun v17 => [.int v17]) (fun v17 => h) (fun v17 => ?_) (fun J32 => ?_)
    · refine zc_istore (pc := 150) dX11_comesTold_150 (Nat.le_of_ble_eq_true rfl) rfl (Nat.le_of_ble_eq_true rfl) ?_
      refine zc_sL (ls1 := [some (.ref 60), none, some (.int v2), some (.int v4), some (.int v17)]) rfl ?_
      refine zc_aload_n (pc := 152) dX11_comesTold_152 rfl rfl ?_
      refine zc_iload (pc := 153) dX11_comesTold_153 rfl ?_
      refine zc_join 166 (fun v18 => [some (.ref 60), none, none, some (.int v4), some (.int v17)]) (fun v18 => [.int v18, .ref 60]) (fun v18 => h) (fun v18 => ?_) (fun J33 => ?_)
      · refine zc_putI (pc := 166) zF_X11_72 rfl dX11_comesTold_166 ?_
        refine zc_letH (fun h19 _ => ?_)
        refine zc_aload_n (pc := 169) dX11_comesTold_169 rfl rfl ?_
        refine zc_iload (pc := 170) dX11_comesTold_170 rfl ?_
        refine zc_join 183 (fun v20 => [none, none, none, none, some (.int v17)]) (fun v20 => [.int v20, .ref 60]) (fun v20 => h19) (fun v20 => ?_) (fun J34 => ?_)
        · refine zc_putI (pc := 183) zF_X11_75 rfl dX11_comesTold_183 ?_
          refine zc_letH (fun h21 _ => ?_)
          refine zc_iload (pc := 186) dX11_comesTold_186 rfl ?_
          refine zc_guard (fun gz => ?_)
          exact zc_zretK (pc := 188) dX11_comesTold_188 rfl (zc_bo_and gz) ⟨_, rfl, rfl⟩
        · refine zc_if_eq (pc := 172) 179 dX11_comesTold_172 (by decide) (fun _ => ?_) (fun _ => ?_)
          · refine zc_aload_n (pc := 179) dX11_comesTold_179 rfl rfl ?_
            refine zc_getI (pc := 180) zF_X11_75 rfl dX11_comesTold_180 ?_
            refine zc_drop 0 ?_
            refine zc_drop 3 ?_
            exact J34 (h19.1 60 2)
          · refine zc_iload_n (pc := 175) dX11_comesTold_175 rfl rfl ?_
            refine zc_goto (pc := 176) 183 dX11_comesTold_176 (by decide) ?_
            refine zc_drop 0 ?_
            refine zc_drop 3 ?_
            exact J34 v4
      · refine zc_if_eq (pc := 155) 162 dX11_comesTold_155 (by decide) (fun _ => ?_) (fun _ => ?_)
        · refine zc_aload_n (pc := 162) dX11_comesTold_162 rfl rfl ?_
          refine zc_getI (pc := 163) zF_X11_72 rfl dX11_comesTold_163 ?_
          refine zc_drop 2 ?_
          exact J33 (h.1 60 1)
        · refine zc_iload_n (pc := 158) dX11_comesTold_158 rfl rfl ?_
          refine zc_goto (pc := 159) 166 dX11_comesTold_159 (by decide) ?_
          refine zc_drop 2 ?_
          exact J33 v2
    · refine zc_icmp_gt (pc := 135) 149 dX11_comesTold_135 (by decide) (fun _ => ?_) (fun _ => ?_)
      · refine zc_iconst (pc := 149) (0 : Int32) dX11_comesTold_149 (by decide) ?_
        refine zc_drop 1 ?_
        refine zc_drop 4 ?_
        exact J32 (0 : Int32)
      · refine zc_iload_n (pc := 138) dX11_comesTold_138 rfl rfl ?_
        refine zc_callIp (pc := 139) [.int v4] rfl (zc_runS zo_X11_isPlace ⟨Nat.le_of_ble_eq_true rfl, Nat.le_of_ble_eq_true rfl⟩ zw_1115 zw_1116 rfl dX11_comesTold_139) (Nat.le_of_ble_eq_true rfl) (fun _ hr => zt_X11_isPlace v4 h hr) (fun r16 => ?_)
        refine zc_if_eq (pc := 142) 149 dX11_comesTold_142 (by decide) (fun _ => ?_) (fun _ => ?_)
        · refine zc_iconst (pc := 149) (0 : Int32) dX11_comesTold_149 (by decide) ?_
          refine zc_drop 1 ?_
          refine zc_drop 4 ?_
          exact J32 (0 : Int32)
        · refine zc_iconst (pc := 145) (1 : Int32) dX11_comesTold_145 (by decide) ?_
          refine zc_goto (pc := 146) 150 dX11_comesTold_146 (by decide) ?_
          refine zc_drop 1 ?_
          refine zc_drop 4 ?_
          exact J32 (1 : Int32)
  refine zc_sw (fun s35 => ?_) (fun s35 => ?_)
  · refine zc_lsw (pc := 29) 80 dX11_comesTold_29 (by decide) (by rw [s35]) (by decide) ?_
    refine zc_aload_n (pc := 80) dX11_comesTold_80 rfl rfl ?_
    refine zc_iload_n (pc := 81) dX11_comesTold_81 rfl rfl ?_
    refine zc_iload_n (pc := 82) dX11_comesTold_82 rfl rfl ?_
    refine zc_aload_n (pc := 83) dX11_comesTold_83 rfl rfl ?_
    refine zc_getC (pc := 84) zF_X11_50 rfl dX11_comesTold_84 ?_
    refine zc_iconst (pc := 87) (4 : Int32) dX11_comesTold_87 (by decide) ?_
    refine zc_iload_n (pc := 88) dX11_comesTold_88 rfl rfl ?_
    refine zc_imul (pc := 89) dX11_comesTold_89 ?_
    refine zc_iconst (pc := 90) (2 : Int32) dX11_comesTold_90 (by decide) ?_
    refine zc_iadd (pc := 91) dX11_comesTold_91 ?_
    refine zc_guard (fun g22 => ?_)
    refine zc_aldi (pc := 92) rfl g22 dX11_comesTold_92 ?_
    refine zc_aload_n (pc := 93) dX11_comesTold_93 rfl rfl ?_
    refine zc_getC (pc := 94) zF_X11_50 rfl dX11_comesTold_94 ?_
    refine zc_iconst (pc := 97) (4 : Int32) dX11_comesTold_97 (by decide) ?_
    refine zc_iload_n (pc := 98) dX11_comesTold_98 rfl rfl ?_
    refine zc_imul (pc := 99) dX11_comesTold_99 ?_
    refine zc_iconst (pc := 100) (3 : Int32) dX11_comesTold_100 (by decide) ?_
    refine zc_iadd (pc := 101) dX11_comesTold_101 ?_
    refine zc_guard (fun g23 => ?_)
    refine zc_aldi (pc := 102) rfl g23 dX11_comesTold_102 ?_
    refine zc_callI (pc := 103) [.ref 60, .int v2, .int v4, .int (h.1 74 (((4 : Int32) * x1) + (2 : Int32)).toNatClampNeg), .int (h.1 74 (((4 : Int32) * x1) + (3 : Int32)).toNatClampNeg)] rfl (zc_runV (ci := 11) (n0 := 0) (q := (RX11, TX11, 35)) zo_X11_oneComes ⟨Nat.le_of_ble_eq_true rfl, Nat.le_of_ble_eq_true rfl⟩ zw_1111 zw_1113 zs_27 rfl (by decide) rfl rfl dX11_comesTold_103) (Nat.le_of_ble_eq_true rfl) (fun _ hr => zt_X11_oneComes v2 v4 (h.1 74 (((4 : Int32) * x1) + (2 : Int32)).toNatClampNeg) (h.1 74 (((4 : Int32) * x1) + (3 : Int32)).toNatClampNeg) h hr) (fun r24 => ?_)
    refine zc_guard (fun gz => ?_)
    exact zc_zretK (pc := 106) dX11_comesTold_106 rfl (zc_bo_and gz) ⟨_, rfl, rfl⟩
  refine zc_lsw (pc := 29) 247 dX11_comesTold_29 (by decide) (off := 218) ((lv_osw s26 (by decide)).trans ((lv_osw s28 (by decide)).trans ((lv_osw s30 (by decide)).trans ((lv_osw s31 (by decide)).trans ((lv_osw s35 (by decide)).trans rfl))))) (by decide) ?_
  refine zc_aload_n (pc := 247) dX11_comesTold_247 rfl rfl ?_
  refine zc_iload_n (pc := 248) dX11_comesTold_248 rfl rfl ?_
  refine zc_callI (pc := 249) [.ref 60, .int v2] rfl (zc_runV (ci := 11) (n0 := 0) (q := (RX11, TX11, 35)) zo_X11_daysCome ⟨Nat.le_of_ble_eq_true rfl, Nat.le_of_ble_eq_true rfl⟩ zw_1123 zw_1125 zs_29 rfl (by decide) rfl rfl dX11_comesTold_249) (Nat.le_of_ble_eq_true rfl) (fun _ hr => zt_X11_daysCome v2 h hr) (fun r25 => ?_)
  refine zc_guard (fun gz => ?_)
  exact zc_zretK (pc := 252) dX11_comesTold_252 rfl (zc_bo_and gz) ⟨_, rfl, rfl⟩
def zf_X11_wrongRow (x1 : Int32) (h : zHp) : Option Int32 :=
  ((zf_X11_in x1.toInt64 (0 : Int64) (7 : Int64)).bind (fun r1 => (if r1 = 0 then some (-1 : Int32) else (if zc_ix x1 8 then (if (h.1 66 x1.toNatClampNeg) = 0 then some (-11 : Int32) else (if zc_ix x1 8 then (if (h.1 66 x1.toNatClampNeg) = (2 : Int32) then some (0 : Int32) else some (-12 : Int32)) else none)) else none))))
set_option maxRecDepth 100000 in
set_option maxHeartbeats 4000000 in
theorem zt_X11_wrongRow (x1 : Int32) (h : zHp) {r : Int32} (hr : (zf_X11_wrongRow x1 h) = some r) : zc_Cn zM_X11_wrongRow [.ref 60, .int x1] h ((fun r => zc_mI (r, h)) r) := by
  refine zc_meth (mk := (fun r => zc_mI (r, h))) (o := (zf_X11_wrongRow x1 h)) (by decide +kernel) (Nat.le_of_ble_eq_true rfl) ?_ hr
  unfold zf_X11_wrongRow
  refine zc_sL (ls1 := [some (.ref 60), some (.int x1)]) rfl ?_
  refine zc_iload_n (pc := 0) dX11_wrongRow_0 rfl rfl ?_
  refine zc_i2l (pc := 1) dX11_wrongRow_1 ?_
  refine zc_lconst (pc := 2) (0 : Int64) dX11_wrongRow_2 (by decide) ?_
  refine zc_ldc2 (pc := 3) dX11_wrongRow_3 zw_1070 ?_
  refine zc_callIp (pc := 6) [.long x1.toInt64, .long (0 : Int64), .long (7 : Int64)] rfl (zc_runS zo_X11_in ⟨Nat.le_of_ble_eq_true rfl, Nat.le_of_ble_eq_true rfl⟩ zw_1071 zw_1072 rfl dX11_wrongRow_6) (Nat.le_of_ble_eq_true rfl) (fun _ hr => zt_X11_in x1.toInt64 (0 : Int64) (7 : Int64) h hr) (fun r1 => ?_)
  refine zc_if_ne (pc := 9) 16 dX11_wrongRow_9 (by decide) (fun _ => ?_) (fun _ => ?_)
  · refine zc_iconst (pc := 12) (-1 : Int32) dX11_wrongRow_12 (by decide) ?_
    refine zc_goto (pc := 13) 46 dX11_wrongRow_13 (by decide) ?_
    exact zc_iretK (pc := 46) dX11_wrongRow_46 rfl ⟨_, rfl, rfl⟩
  · refine zc_aload_n (pc := 16) dX11_wrongRow_16 rfl rfl ?_
    refine zc_getC (pc := 17) zF_X11_25 rfl dX11_wrongRow_17 ?_
    refine zc_iload_n (pc := 20) dX11_wrongRow_20 rfl rfl ?_
    refine zc_guard (fun g2 => ?_)
    refine zc_aldi (pc := 21) rfl g2 dX11_wrongRow_21 ?_
    refine zc_if_ne (pc := 22) 30 dX11_wrongRow_22 (by decide) (fun _ => ?_) (fun _ => ?_)
    · refine zc_bipush (pc := 25) (-11 : Int32) dX11_wrongRow_25 (by decide) ?_
      refine zc_goto (pc := 27) 46 dX11_wrongRow_27 (by decide) ?_
      exact zc_iretK (pc := 46) dX11_wrongRow_46 rfl ⟨_, rfl, rfl⟩
    · refine zc_aload_n (pc := 30) dX11_wrongRow_30 rfl rfl ?_
      refine zc_getC (pc := 31) zF_X11_25 rfl dX11_wrongRow_31 ?_
      refine zc_iload_n (pc := 34) dX11_wrongRow_34 rfl rfl ?_
      refine zc_guard (fun g3 => ?_)
      refine zc_aldi (pc := 35) rfl g3 dX11_wrongRow_35 ?_
      refine zc_iconst (pc := 36) (2 : Int32) dX11_wrongRow_36 (by decide) ?_
      refine zc_icmp_eq (pc := 37) 45 dX11_wrongRow_37 (by decide) (fun _ => ?_) (fun _ => ?_)
      · refine zc_iconst (pc := 45) (0 : Int32) dX11_wrongRow_45 (by decide) ?_
        exact zc_iretK (pc := 46) dX11_wrongRow_46 rfl ⟨_, rfl, rfl⟩
      · refine zc_bipush (pc := 40) (-12 : Int32) dX11_wrongRow_40 (by decide) ?_
        refine zc_goto (pc := 42) 46 dX11_wrongRow_42 (by decide) ?_
        exact zc_iretK (pc := 46) dX11_wrongRow_46 rfl ⟨_, rfl, rfl⟩
def zf_X11_carry (x1 : Int32) (h : zHp) : Option (Int32 × zHp) :=
  (((if (h.1 60 29) = 0 then some h else (if (h.1 60 30) = 75 ∨ (h.1 60 30) = 76 then (if zc_ix (h.1 60 28) 41 then ((some (zc_ui h ((h.1 60 30).toNatClampNeg) (h.1 60 28).toNatClampNeg x1) : Option zHp).bind (fun h3 => some h3)) else none) else none)) : Option zHp).bind (fun v4 => ((some (zc_ui v4 60 28 ((v4.1 60 28) + (1 : Int32))) : Option zHp).bind (fun h5 => (if (h5.1 60 30) = 75 ∨ (h5.1 60 30) = 76 then (if zc_ix ((h5.1 60 28) - (1 : Int32)) 41 then some ((h5.1 ((h5.1 60 30).toNatClampNeg) ((h5.1 60 28) - (1 : Int32)).toNatClampNeg), h5) else none) else none)))))
set_option maxRecDepth 100000 in
set_option maxHeartbeats 4000000 in
theorem zt_X11_carry (x1 : Int32) (h : zHp) {r : (Int32 × zHp)} (hr : (zf_X11_carry x1 h) = some r) : zc_Cn zM_X11_carry [.ref 60, .int x1] h (zc_mI r) := by
  refine zc_meth (mk := zc_mI) (o := (zf_X11_carry x1 h)) (by decide +kernel) (Nat.le_of_ble_eq_true rfl) ?_ hr
  unfold zf_X11_carry
  refine zc_sL (ls1 := [some (.ref 60), some (.int x1)]) rfl ?_
  refine zc_aload_n (pc := 0) dX11_carry_0 rfl rfl ?_
  refine zc_getI (pc := 1) zF_X11_195 rfl dX11_carry_1 ?_
  refine zc_join 17 (fun v4 => [some (.ref 60), none]) (fun v4 => []) (fun v4 => v4) (fun v4 => ?_) (fun J8 => ?_)
  · refine zc_aload_n (pc := 17) dX11_carry_17 rfl rfl ?_
    refine zc_dup (pc := 18) dX11_carry_18 rfl ?_
    refine zc_getI (pc := 19) zF_X11_201 rfl dX11_carry_19 ?_
    refine zc_iconst (pc := 22) (1 : Int32) dX11_carry_22 (by decide) ?_
    refine zc_iadd (pc := 23) dX11_carry_23 ?_
    refine zc_putI (pc := 24) zF_X11_201 rfl dX11_carry_24 ?_
    refine zc_letH (fun h5 _ => ?_)
    refine zc_aload_n (pc := 27) dX11_carry_27 rfl rfl ?_
    refine zc_guard (fun g6 => ?_)
    refine zc_getD (pc := 28) zF_X11_198 rfl (zs_kn g6) dX11_carry_28 ?_
    refine zc_aload_n (pc := 31) dX11_carry_31 rfl rfl ?_
    refine zc_getI (pc := 32) zF_X11_201 rfl dX11_carry_32 ?_
    refine zc_iconst (pc := 35) (1 : Int32) dX11_carry_35 (by decide) ?_
    refine zc_isub (pc := 36) dX11_carry_36 ?_
    refine zc_guard (fun g7 => ?_)
    refine zc_aldi (pc := 37) (zs_kk g6) g7 dX11_carry_37 ?_
    exact zc_iretK (pc := 38) dX11_carry_38 rfl ⟨_, rfl, rfl⟩
  · refine zc_if_eq (pc := 4) 17 dX11_carry_4 (by decide) (fun _ => ?_) (fun _ => ?_)
    · refine zc_drop 1 ?_
      exact J8 h
    · refine zc_aload_n (pc := 7) dX11_carry_7 rfl rfl ?_
      refine zc_guard (fun g1 => ?_)
      refine zc_getD (pc := 8) zF_X11_198 rfl (zs_kn g1) dX11_carry_8 ?_
      refine zc_aload_n (pc := 11) dX11_carry_11 rfl rfl ?_
      refine zc_getI (pc := 12) zF_X11_201 rfl dX11_carry_12 ?_
      refine zc_iload_n (pc := 15) dX11_carry_15 rfl rfl ?_
      refine zc_guard (fun g2 => ?_)
      refine zc_asti (pc := 16) (zs_kk g1) g2 dX11_carry_16 ?_
      refine zc_letH (fun h3 _ => ?_)
      refine zc_drop 1 ?_
      exact J8 h3
def zl_X11_carryAll_89  : Nat → Int32 → zHp → Option zHp
  | 0, _, _ => none
  | fu + 1, y17, h18 => (if (7 : Int32) ≤ y17 then some h18 else (if zc_ix y17 7 then ((zf_X11_carry (h18.1 61 y17.toNatClampNeg) h18).bind (fun r20 => (if zc_ix y17 7 then ((some (zc_ui r20.2 61 y17.toNatClampNeg r20.1) : Option zHp).bind (fun h22 => (if zc_ix y17 7 then ((zf_X11_carry (h22.1 62 y17.toNatClampNeg) h22).bind (fun r24 => (if zc_ix y17 7 then ((some (zc_ui r24.2 62 y17.toNatClampNeg r24.1) : Option zHp).bind (fun h26 => (if zc_ix y17 7 then ((zf_X11_carry (h26.1 63 y17.toNatClampNeg) h26).bind (fun r28 => (if zc_ix y17 7 then ((some (zc_ui r28.2 63 y17.toNatClampNeg r28.1) : Option zHp).bind (fun h30 => (if zc_ix y17 7 then ((zf_X11_carry (h30.1 64 y17.toNatClampNeg) h30).bind (fun r32 => (if zc_ix y17 7 then ((some (zc_ui r32.2 64 y17.toNatClampNeg r32.1) : Option zHp).bind (fun h34 => (if zc_ix y17 7 then ((zf_X11_carry (h34.1 65 y17.toNatClampNeg) h34).bind (fun r36 => (if zc_ix y17 7 then ((some (zc_ui r36.2 65 y17.toNatClampNeg r36.1) : Option zHp).bind (fun h38 => zl_X11_carryAll_89 fu (y17 + (1 : Int32)) h38)) else none))) else none))) else none))) else none))) else none))) else none))) else none))) else none))) else none))) else none))
def zf_X11_carryAll (x1 nx1 : Nat) (x2 : Int32) (h : zHp) : Option zHp :=
  ((some (zc_ui h 60 30 (nI x1)) : Option zHp).bind (fun h1 => (if zc_bo x2 then ((some (zc_ui h1 60 29 x2) : Option zHp).bind (fun h3 => ((some (zc_ui h3 60 28 (0 : Int32)) : Option zHp).bind (fun h4 => ((zf_X11_carry (h4.1 60 3) h4).bind (fun r5 => ((some (zc_ui r5.2 60 3 r5.1) : Option zHp).bind (fun h6 => ((zf_X11_carry (h6.1 60 0) h6).bind (fun r7 => ((some (zc_ui r7.2 60 0 r7.1) : Option zHp).bind (fun h8 => ((zf_X11_carry (h8.1 60 1) h8).bind (fun r9 => ((some (zc_ui r9.2 60 1 r9.1) : Option zHp).bind (fun h10 => ((zf_X11_carry (h10.1 60 2) h10).bind (fun r11 => ((some (zc_ui r11.2 60 2 r11.1) : Option zHp).bind (fun h12 => ((zf_X11_carry (h12.1 60 9) h12).bind (fun r13 => ((some (zc_ui r13.2 60 9 r13.1) : Option zHp).bind (fun h14 => ((zf_X11_carry (h14.1 60 10) h14).bind (fun r15 => ((some (zc_ui r15.2 60 10 r15.1) : Option zHp).bind (fun h16 => ((zl_X11_carryAll_89 zFU (0 : Int32) h16).bind (fun v39 => some v39)))))))))))))))))))))))))))))) else none)))
set_option maxRecDepth 100000 in
set_option maxHeartbeats 4000000 in
theorem zt_X11_carryAll (x1 nx1 : Nat) (hx1 : zc_lay[x1]? = some (12, nx1)) (x2 : Int32) (h : zHp) {r : zHp} (hr : (zf_X11_carryAll x1 nx1 x2 h) = some r) : zc_Cn zM_X11_carryAll [.ref 60, .ref x1, .int x2] h (zc_mV r) := by
  refine zc_meth (mk := zc_mV) (o := (zf_X11_carryAll x1 nx1 x2 h)) (by decide +kernel) (Nat.le_of_ble_eq_true rfl) ?_ hr
  unfold zf_X11_carryAll
  refine zc_sL (ls1 := [some (.ref 60), some (.ref x1), some (.int x2), none]) rfl ?_
  refine zc_aload_n (pc := 0) dX11_carryAll_0 rfl rfl ?_
  refine zc_aload_n (pc := 1) dX11_carryAll_1 rfl rfl ?_
  refine zc_putD (pc := 2) zF_X11_198 rfl (zc_lt hx1) dX11_carryAll_2 ?_
  refine zc_letH (fun h1 _ => ?_)
  refine zc_aload_n (pc := 5) dX11_carryAll_5 rfl rfl ?_
  refine zc_iload_n (pc := 6) dX11_carryAll_6 rfl rfl ?_
  refine zc_guard (fun g2 => ?_)
  refine zc_putZ (pc := 7) zF_X11_195 rfl g2 dX11_carryAll_7 ?_
  refine zc_letH (fun h3 _ => ?_)
  refine zc_aload_n (pc := 10) dX11_carryAll_10 rfl rfl ?_
  refine zc_iconst (pc := 11) (0 : Int32) dX11_carryAll_11 (by decide) ?_
  refine zc_putI (pc := 12) zF_X11_201 rfl dX11_carryAll_12 ?_
  refine zc_letH (fun h4 _ => ?_)
  refine zc_aload_n (pc := 15) dX11_carryAll_15 rfl rfl ?_
  refine zc_aload_n (pc := 16) dX11_carryAll_16 rfl rfl ?_
  refine zc_aload_n (pc := 17) dX11_carryAll_17 rfl rfl ?_
  refine zc_getI (pc := 18) zF_X11_84 rfl dX11_carryAll_18 ?_
  refine zc_callI (pc := 21) [.ref 60, .int (h4.1 60 3)] rfl (zc_runV (ci := 11) (n0 := 0) (q := (RX11, TX11, 35)) zo_X11_carry ⟨Nat.le_of_ble_eq_true rfl, Nat.le_of_ble_eq_true rfl⟩ zw_1103 zw_1105 zs_25 rfl (by decide) rfl rfl dX11_carryAll_21) (Nat.le_of_ble_eq_true rfl) (fun _ hr => zt_X11_carry (h4.1 60 3) h4 hr) (fun r5 => ?_)
  refine zc_putI (pc := 24) zF_X11_84 rfl dX11_carryAll_24 ?_
  refine zc_letH (fun h6 _ => ?_)
  refine zc_aload_n (pc := 27) dX11_carryAll_27 rfl rfl ?_
  refine zc_aload_n (pc := 28) dX11_carryAll_28 rfl rfl ?_
  refine zc_aload_n (pc := 29) dX11_carryAll_29 rfl rfl ?_
  refine zc_getI (pc := 30) zF_X11_91 rfl dX11_carryAll_30 ?_
  refine zc_callI (pc := 33) [.ref 60, .int (h6.1 60 0)] rfl (zc_runV (ci := 11) (n0 := 0) (q := (RX11, TX11, 35)) zo_X11_carry ⟨Nat.le_of_ble_eq_true rfl, Nat.le_of_ble_eq_true rfl⟩ zw_1103 zw_1105 zs_25 rfl (by decide) rfl rfl dX11_carryAll_33) (Nat.le_of_ble_eq_true rfl) (fun _ hr => zt_X11_carry (h6.1 60 0) h6 hr) (fun r7 => ?_)
  refine zc_putI (pc := 36) zF_X11_91 rfl dX11_carryAll_36 ?_
  refine zc_letH (fun h8 _ => ?_)
  refine zc_aload_n (pc := 39) dX11_carryAll_39 rfl rfl ?_
  refine zc_aload_n (pc := 40) dX11_carryAll_40 rfl rfl ?_
  refine zc_aload_n (pc := 41) dX11_carryAll_41 rfl rfl ?_
  refine zc_getI (pc := 42) zF_X11_72 rfl dX11_carryAll_42 ?_
  refine zc_callI (pc := 45) [.ref 60, .int (h8.1 60 1)] rfl (zc_runV (ci := 11) (n0 := 0) (q := (RX11, TX11, 35)) zo_X11_carry ⟨Nat.le_of_ble_eq_true rfl, Nat.le_of_ble_eq_true rfl⟩ zw_1103 zw_1105 zs_25 rfl (by decide) rfl rfl dX11_carryAll_45) (Nat.le_of_ble_eq_true rfl) (fun _ hr => zt_X11_carry (h8.1 60 1) h8 hr) (fun r9 => ?_)
  refine zc_putI (pc := 48) zF_X11_72 rfl dX11_carryAll_48 ?_
  refine zc_letH (fun h10 _ => ?_)
  refine zc_aload_n (pc := 51) dX11_carryAll_51 rfl rfl ?_
  refine zc_aload_n (pc := 52) dX11_carryAll_52 rfl rfl ?_
  refine zc_aload_n (pc := 53) dX11_carryAll_53 rfl rfl ?_
  refine zc_getI (pc := 54) zF_X11_75 rfl dX11_carryAll_54 ?_
  refine zc_callI (pc := 57) [.ref 60, .int (h10.1 60 2)] rfl (zc_runV (ci := 11) (n0 := 0) (q := (RX11, TX11, 35)) zo_X11_carry ⟨Nat.le_of_ble_eq_true rfl, Nat.le_of_ble_eq_true rfl⟩ zw_1103 zw_1105 zs_25 rfl (by decide) rfl rfl dX11_carryAll_57) (Nat.le_of_ble_eq_true rfl) (fun _ hr => zt_X11_carry (h10.1 60 2) h10 hr) (fun r11 => ?_)
  refine zc_putI (pc := 60) zF_X11_75 rfl dX11_carryAll_60 ?_
  refine zc_letH (fun h12 _ => ?_)
  refine zc_aload_n (pc := 63) dX11_carryAll_63 rfl rfl ?_
  refine zc_aload_n (pc := 64) dX11_carryAll_64 rfl rfl ?_
  refine zc_aload_n (pc := 65) dX11_carryAll_65 rfl rfl ?_
  refine zc_getI (pc := 66) zF_X11_117 rfl dX11_carryAll_66 ?_
  refine zc_callI (pc := 69) [.ref 60, .int (h12.1 60 9)] rfl (zc_runV (ci := 11) (n0 := 0) (q := (RX11, TX11, 35)) zo_X11_carry ⟨Nat.le_of_ble_eq_true rfl, Nat.le_of_ble_eq_true rfl⟩ zw_1103 zw_1105 zs_25 rfl (by decide) rfl rfl dX11_carryAll_69) (Nat.le_of_ble_eq_true rfl) (fun _ hr => zt_X11_carry (h12.1 60 9) h12 hr) (fun r13 => ?_)
  refine zc_putI (pc := 72) zF_X11_117 rfl dX11_carryAll_72 ?_
  refine zc_letH (fun h14 _ => ?_)
  refine zc_aload_n (pc := 75) dX11_carryAll_75 rfl rfl ?_
  refine zc_aload_n (pc := 76) dX11_carryAll_76 rfl rfl ?_
  refine zc_aload_n (pc := 77) dX11_carryAll_77 rfl rfl ?_
  refine zc_getI (pc := 78) zF_X11_97 rfl dX11_carryAll_78 ?_
  refine zc_callI (pc := 81) [.ref 60, .int (h14.1 60 10)] rfl (zc_runV (ci := 11) (n0 := 0) (q := (RX11, TX11, 35)) zo_X11_carry ⟨Nat.le_of_ble_eq_true rfl, Nat.le_of_ble_eq_true rfl⟩ zw_1103 zw_1105 zs_25 rfl (by decide) rfl rfl dX11_carryAll_81) (Nat.le_of_ble_eq_true rfl) (fun _ hr => zt_X11_carry (h14.1 60 10) h14 hr) (fun r15 => ?_)
  refine zc_putI (pc := 84) zF_X11_97 rfl dX11_carryAll_84 ?_
  refine zc_letH (fun h16 _ => ?_)
  refine zc_iconst (pc := 87) (0 : Int32) dX11_carryAll_87 (by decide) ?_
  refine zc_istore_n (pc := 88) dX11_carryAll_88 rfl (Nat.le_of_ble_eq_true rfl) rfl (Nat.le_of_ble_eq_true rfl) ?_
  refine zc_sL (ls1 := [some (.ref 60), some (.ref x1), some (.int x2), some (.int (0 : Int32))]) rfl ?_
  refine zc_drop 1 ?_
  refine zc_drop 2 ?_
  refine zc_sL (ls1 := [some (.ref 60), none, none, some (.int (0 : Int32))]) rfl ?_
  refine zc_loop 181 (fun v39 => [none, none, none, none]) (fun v39 => []) (fun v39 => v39) (fun v39 => ?_) (fun k41 J40 => ?_)
  · exact zc_vretK (pc := 181) dX11_carryAll_181 rfl ⟨_, rfl, rfl⟩
  · have L43 : ∀ (fu : Nat) (y17 : Int32) (h18 : zHp), zc_G zM_X11_carryAll zc_mV 89 [some (.ref 60), none, none, some (.int y17)] [] h18 ((zl_X11_carryAll_89 fu y17 h18).bind k41) := by
        intro fu
        induction fu with
        | zero => intros; exact zc_noneb
        | succ fu ih44 =>
          intro y17 h18
          unfold zl_X11_carryAll_89
          refine zc_iload_n (pc := 89) dX11_carryAll_89 rfl rfl ?_
          refine zc_bipush (pc := 90) (7 : Int32) dX11_carryAll_90 (by decide) ?_
          refine zc_icmp_ge (pc := 92) 181 dX11_carryAll_92 (by decide) (fun _ => ?_) (fun _ => ?_)
          · refine zc_drop 0 ?_
            refine zc_drop 3 ?_
            exact J40 h18
          · refine zc_aload_n (pc := 95) dX11_carryAll_95 rfl rfl ?_
            refine zc_getC (pc := 96) zF_X11_7 rfl dX11_carryAll_96 ?_
            refine zc_iload_n (pc := 99) dX11_carryAll_99 rfl rfl ?_
            refine zc_aload_n (pc := 100) dX11_carryAll_100 rfl rfl ?_
            refine zc_aload_n (pc := 101) dX11_carryAll_101 rfl rfl ?_
            refine zc_getC (pc := 102) zF_X11_7 rfl dX11_carryAll_102 ?_
            refine zc_iload_n (pc := 105) dX11_carryAll_105 rfl rfl ?_
            refine zc_guard (fun g19 => ?_)
            refine zc_aldi (pc := 106) rfl g19 dX11_carryAll_106 ?_
            refine zc_callI (pc := 107) [.ref 60, .int (h18.1 61 y17.toNatClampNeg)] rfl (zc_runV (ci := 11) (n0 := 0) (q := (RX11, TX11, 35)) zo_X11_carry ⟨Nat.le_of_ble_eq_true rfl, Nat.le_of_ble_eq_true rfl⟩ zw_1103 zw_1105 zs_25 rfl (by decide) rfl rfl dX11_carryAll_107) (Nat.le_of_ble_eq_true rfl) (fun _ hr => zt_X11_carry (h18.1 61 y17.toNatClampNeg) h18 hr) (fun r20 => ?_)
            refine zc_guard (fun g21 => ?_)
            refine zc_asti (pc := 110) rfl g21 dX11_carryAll_110 ?_
            refine zc_letH (fun h22 _ => ?_)
            refine zc_aload_n (pc := 111) dX11_carryAll_111 rfl rfl ?_
            refine zc_getC (pc := 112) zF_X11_13 rfl dX11_carryAll_112 ?_
            refine zc_iload_n (pc := 115) dX11_carryAll_115 rfl rfl ?_
            refine zc_aload_n (pc := 116) dX11_carryAll_116 rfl rfl ?_
            refine zc_aload_n (pc := 117) dX11_carryAll_117 rfl rfl ?_
            refine zc_getC (pc := 118) zF_X11_13 rfl dX11_carryAll_118 ?_
            refine zc_iload_n (pc := 121) dX11_carryAll_121 rfl rfl ?_
            refine zc_guard (fun g23 => ?_)
            refine zc_aldi (pc := 122) rfl g23 dX11_carryAll_122 ?_
            refine zc_callI (pc := 123) [.ref 60, .int (h22.1 62 y17.toNatClampNeg)] rfl (zc_runV (ci := 11) (n0 := 0) (q := (RX11, TX11, 35)) zo_X11_carry ⟨Nat.le_of_ble_eq_true rfl, Nat.le_of_ble_eq_true rfl⟩ zw_1103 zw_1105 zs_25 rfl (by decide) rfl rfl dX11_carryAll_123) (Nat.le_of_ble_eq_true rfl) (fun _ hr => zt_X11_carry (h22.1 62 y17.toNatClampNeg) h22 hr) (fun r24 => ?_)
            refine zc_guard (fun g25 => ?_)
            refine zc_asti (pc := 126) rfl g25 dX11_carryAll_126 ?_
            refine zc_letH (fun h26 _ => ?_)
            refine zc_aload_n (pc := 127) dX11_carryAll_127 rfl rfl ?_
            refine zc_getC (pc := 128) zF_X11_16 rfl dX11_carryAll_128 ?_
            refine zc_iload_n (pc := 131) dX11_carryAll_131 rfl rfl ?_
            refine zc_aload_n (pc := 132) dX11_carryAll_132 rfl rfl ?_
            refine zc_aload_n (pc := 133) dX11_carryAll_133 rfl rfl ?_
            refine zc_getC (pc := 134) zF_X11_16 rfl dX11_carryAll_134 ?_
            refine zc_iload_n (pc := 137) dX11_carryAll_137 rfl rfl ?_
            refine zc_guard (fun g27 => ?_)
            refine zc_aldi (pc := 138) rfl g27 dX11_carryAll_138 ?_
            refine zc_callI (pc := 139) [.ref 60, .int (h26.1 63 y17.toNatClampNeg)] rfl (zc_runV (ci := 11) (n0 := 0) (q := (RX11, TX11, 35)) zo_X11_carry ⟨Nat.le_of_ble_eq_true rfl, Nat.le_of_ble_eq_true rfl⟩ zw_1103 zw_1105 zs_25 rfl (by decide) rfl rfl dX11_carryAll_139) (Nat.le_of_ble_eq_true rfl) (fun _ hr => zt_X11_carry (h26.1 63 y17.toNatClampNeg) h26 hr) (fun r28 => ?_)
            refine zc_guard (fun g29 => ?_)
            refine zc_asti (pc := 142) rfl g29 dX11_carryAll_142 ?_
            refine zc_letH (fun h30 _ => ?_)
            refine zc_aload_n (pc := 143) dX11_carryAll_143 rfl rfl ?_
            refine zc_getC (pc := 144) zF_X11_19 rfl dX11_carryAll_144 ?_
            refine zc_iload_n (pc := 147) dX11_carryAll_147 rfl rfl ?_
            refine zc_aload_n (pc := 148) dX11_carryAll_148 rfl rfl ?_
            refine zc_aload_n (pc := 149) dX11_carryAll_149 rfl rfl ?_
            refine zc_getC (pc := 150) zF_X11_19 rfl dX11_carryAll_150 ?_
            refine zc_iload_n (pc := 153) dX11_carryAll_153 rfl rfl ?_
            refine zc_guard (fun g31 => ?_)
            refine zc_aldi (pc := 154) rfl g31 dX11_carryAll_154 ?_
            refine zc_callI (pc := 155) [.ref 60, .int (h30.1 64 y17.toNatClampNeg)] rfl (zc_runV (ci := 11) (n0 := 0) (q := (RX11, TX11, 35)) zo_X11_carry ⟨Nat.le_of_ble_eq_true rfl, Nat.le_of_ble_eq_true rfl⟩ zw_1103 zw_1105 zs_25 rfl (by decide) rfl rfl dX11_carryAll_155) (Nat.le_of_ble_eq_true rfl) (fun _ hr => zt_X11_carry (h30.1 64 y17.toNatClampNeg) h30 hr) (fun r32 => ?_)
            refine zc_guard (fun g33 => ?_)
            refine zc_asti (pc := 158) rfl g33 dX11_carryAll_158 ?_
            refine zc_letH (fun h34 _ => ?_)
            refine zc_aload_n (pc := 159) dX11_carryAll_159 rfl rfl ?_
            refine zc_getC (pc := 160) zF_X11_22 rfl dX11_carryAll_160 ?_
            refine zc_iload_n (pc := 163) dX11_carryAll_163 rfl rfl ?_
            refine zc_aload_n (pc := 164) dX11_carryAll_164 rfl rfl ?_
            refine zc_aload_n (pc := 165) dX11_carryAll_165 rfl rfl ?_
            refine zc_getC (pc := 166) zF_X11_22 rfl dX11_carryAll_166 ?_
            refine zc_iload_n (pc := 169) dX11_carryAll_169 rfl rfl ?_
            refine zc_guard (fun g35 => ?_)
            refine zc_aldi (pc := 170) rfl g35 dX11_carryAll_170 ?_
            refine zc_callI (pc := 171) [.ref 60, .int (h34.1 65 y17.toNatClampNeg)] rfl (zc_runV (ci := 11) (n0 := 0) (q := (RX11, TX11, 35)) zo_X11_carry ⟨Nat.le_of_ble_eq_true rfl, Nat.le_of_ble_eq_true rfl⟩ zw_1103 zw_1105 zs_25 rfl (by decide) rfl rfl dX11_carryAll_171) (Nat.le_of_ble_eq_true rfl) (fun _ hr => zt_X11_carry (h34.1 65 y17.toNatClampNeg) h34 hr) (fun r36 => ?_)
            refine zc_guard (fun g37 => ?_)
            refine zc_asti (pc := 174) rfl g37 dX11_carryAll_174 ?_
            refine zc_letH (fun h38 _ => ?_)
            refine zc_iinc (pc := 175) (1 : Int32) dX11_carryAll_175 (by decide) rfl (Nat.le_of_ble_eq_true rfl) rfl ?_
            refine zc_sL (ls1 := [some (.ref 60), none, none, some (.int (y17 + (1 : Int32)))]) rfl ?_
            refine zc_goto (pc := 178) 89 dX11_carryAll_178 (by decide) ?_
            exact ih44 (y17 + (1 : Int32)) h38
    exact L43 zFU (0 : Int32) h16
def zf_X11_think (h : zHp) : Option zHp :=
  ((zf_X11_carryAll 75 41 (1 : Int32) h).bind (fun r1 => some r1))
set_option maxRecDepth 100000 in
set_option maxHeartbeats 4000000 in
theorem zt_X11_think (h : zHp) {r : zHp} (hr : (zf_X11_think h) = some r) : zc_Cn zM_X11_think [.ref 60] h (zc_mV r) := by
  refine zc_meth (mk := zc_mV) (o := (zf_X11_think h)) (by decide +kernel) (Nat.le_of_ble_eq_true rfl) ?_ hr
  unfold zf_X11_think
  refine zc_sL (ls1 := [some (.ref 60)]) rfl ?_
  refine zc_aload_n (pc := 0) dX11_think_0 rfl rfl ?_
  refine zc_aload_n (pc := 1) dX11_think_1 rfl rfl ?_
  refine zc_getC (pc := 2) zF_X11_53 rfl dX11_think_2 ?_
  refine zc_iconst (pc := 5) (1 : Int32) dX11_think_5 (by decide) ?_
  refine zc_callV (pc := 6) [.ref 60, .ref 75, .int (1 : Int32)] rfl (zc_runV (ci := 11) (n0 := 0) (q := (RX11, TX11, 35)) zo_X11_carryAll ⟨Nat.le_of_ble_eq_true rfl, Nat.le_of_ble_eq_true rfl⟩ zw_1099 zw_1101 zs_24 rfl (by decide) rfl rfl dX11_think_6) (Nat.le_of_ble_eq_true rfl) (fun _ hr => zt_X11_carryAll 75 41 rfl (1 : Int32) h hr) (fun r1 => ?_)
  exact zc_vretK (pc := 9) dX11_think_9 rfl ⟨_, rfl, rfl⟩
def zf_X11_again (h : zHp) : Option zHp :=
  ((zf_X11_carryAll 75 41 (0 : Int32) h).bind (fun r1 => some r1))
set_option maxRecDepth 100000 in
set_option maxHeartbeats 4000000 in
theorem zt_X11_again (h : zHp) {r : zHp} (hr : (zf_X11_again h) = some r) : zc_Cn zM_X11_again [.ref 60] h (zc_mV r) := by
  refine zc_meth (mk := zc_mV) (o := (zf_X11_again h)) (by decide +kernel) (Nat.le_of_ble_eq_true rfl) ?_ hr
  unfold zf_X11_again
  refine zc_sL (ls1 := [some (.ref 60)]) rfl ?_
  refine zc_aload_n (pc := 0) dX11_again_0 rfl rfl ?_
  refine zc_aload_n (pc := 1) dX11_again_1 rfl rfl ?_
  refine zc_getC (pc := 2) zF_X11_53 rfl dX11_again_2 ?_
  refine zc_iconst (pc := 5) (0 : Int32) dX11_again_5 (by decide) ?_
  refine zc_callV (pc := 6) [.ref 60, .ref 75, .int (0 : Int32)] rfl (zc_runV (ci := 11) (n0 := 0) (q := (RX11, TX11, 35)) zo_X11_carryAll ⟨Nat.le_of_ble_eq_true rfl, Nat.le_of_ble_eq_true rfl⟩ zw_1099 zw_1101 zs_24 rfl (by decide) rfl rfl dX11_again_6) (Nat.le_of_ble_eq_true rfl) (fun _ hr => zt_X11_carryAll 75 41 rfl (0 : Int32) h hr) (fun r1 => ?_)
  exact zc_vretK (pc := 9) dX11_again_9 rfl ⟨_, rfl, rfl⟩

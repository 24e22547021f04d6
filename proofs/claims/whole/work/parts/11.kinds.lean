def zf_X1_wayOf (x1 : Int32) (x2 : Int32) (x3 : Int32) (x4 : Int32) : Option Int32 :=
  (if x1 ≤ 0 then some (0 : Int32) else some (x1 - (1 : Int32)))
set_option maxRecDepth 100000 in
set_option maxHeartbeats 4000000 in
theorem zt_X1_wayOf {ci : Nat} {vc : vw_C} (a : Nat) (ha : zc_lay[a]? = some (ci, 0)) (hci : ci < 12) (hvc : vwCl[ci]? = some vc) (x1 : Int32) (x2 : Int32) (x3 : Int32) (x4 : Int32) (h : zHp) {r : Int32} (hr : (zf_X1_wayOf x1 x2 x3 x4) = some r) : zc_Cn zM_X1_wayOf [.ref a, .int x1, .int x2, .int x3, .int x4] h ((fun r => zc_mI (r, h)) r) := by
  refine zc_meth (mk := (fun r => zc_mI (r, h))) (o := (zf_X1_wayOf x1 x2 x3 x4)) (by decide +kernel) (Nat.le_of_ble_eq_true rfl) ?_ hr
  unfold zf_X1_wayOf
  refine zc_sL (ls1 := [some (.ref a), some (.int x1), some (.int x2), some (.int x3), some (.int x4)]) rfl ?_
  refine zc_iload_n (pc := 0) dX1_wayOf_0 rfl rfl ?_
  refine zc_if_le (pc := 1) 10 dX1_wayOf_1 (by decide) (fun _ => ?_) (fun _ => ?_)
  · refine zc_iconst (pc := 10) (0 : Int32) dX1_wayOf_10 (by decide) ?_
    exact zc_iretK (pc := 11) dX1_wayOf_11 rfl ⟨_, rfl, rfl⟩
  · refine zc_iload_n (pc := 4) dX1_wayOf_4 rfl rfl ?_
    refine zc_iconst (pc := 5) (1 : Int32) dX1_wayOf_5 (by decide) ?_
    refine zc_isub (pc := 6) dX1_wayOf_6 ?_
    refine zc_goto (pc := 7) 11 dX1_wayOf_7 (by decide) ?_
    exact zc_iretK (pc := 11) dX1_wayOf_11 rfl ⟨_, rfl, rfl⟩
def zf_X2_wayOf (x1 : Int32) (x2 : Int32) (x3 : Int32) (x4 : Int32) : Option Int32 :=
  ((zf_X1_wayOf x1 x2 x3 x4).bind (fun r1 => some ((2 : Int32) * r1)))
set_option maxRecDepth 100000 in
set_option maxHeartbeats 4000000 in
theorem zt_X2_wayOf {ci : Nat} {vc : vw_C} (a : Nat) (ha : zc_lay[a]? = some (ci, 0)) (hci : ci < 12) (hvc : vwCl[ci]? = some vc) (x1 : Int32) (x2 : Int32) (x3 : Int32) (x4 : Int32) (h : zHp) {r : Int32} (hr : (zf_X2_wayOf x1 x2 x3 x4) = some r) : zc_Cn zM_X2_wayOf [.ref a, .int x1, .int x2, .int x3, .int x4] h ((fun r => zc_mI (r, h)) r) := by
  refine zc_meth (mk := (fun r => zc_mI (r, h))) (o := (zf_X2_wayOf x1 x2 x3 x4)) (by decide +kernel) (Nat.le_of_ble_eq_true rfl) ?_ hr
  unfold zf_X2_wayOf
  refine zc_sL (ls1 := [some (.ref a), some (.int x1), some (.int x2), some (.int x3), some (.int x4)]) rfl ?_
  refine zc_iconst (pc := 0) (2 : Int32) dX2_wayOf_0 (by decide) ?_
  refine zc_aload_n (pc := 1) dX2_wayOf_1 rfl rfl ?_
  refine zc_iload_n (pc := 2) dX2_wayOf_2 rfl rfl ?_
  refine zc_iload_n (pc := 3) dX2_wayOf_3 rfl rfl ?_
  refine zc_iload_n (pc := 4) dX2_wayOf_4 rfl rfl ?_
  refine zc_iload (pc := 5) dX2_wayOf_5 rfl ?_
  refine zc_callIp (pc := 7) [.ref a, .int x1, .int x2, .int x3, .int x4] rfl (zc_runSU (q := vc) zo_X1_wayOf ⟨Nat.le_of_ble_eq_true rfl, Nat.le_of_ble_eq_true rfl⟩ zw_426 zw_1437 zw_68 zw_427 (by decide +kernel) ha hci hvc rfl dX2_wayOf_7) (Nat.le_of_ble_eq_true rfl) (fun _ hr => zt_X1_wayOf a ha hci hvc x1 x2 x3 x4 h hr) (fun r1 => ?_)
  refine zc_imul (pc := 10) dX2_wayOf_10 ?_
  exact zc_iretK (pc := 11) dX2_wayOf_11 rfl ⟨_, rfl, rfl⟩
def zf_X0_wayOf (x1 : Int32) (x2 : Int32) (x3 : Int32) (x4 : Int32) : Option Int32 :=
  ((zf_X2_wayOf x1 x2 x3 x4).bind (fun r1 => some (r1 + (x4 - x4 / (2 : Int32) * (2 : Int32)))))
set_option maxRecDepth 100000 in
set_option maxHeartbeats 4000000 in
theorem zt_X0_wayOf {ci : Nat} {vc : vw_C} (a : Nat) (ha : zc_lay[a]? = some (ci, 0)) (hci : ci < 12) (hvc : vwCl[ci]? = some vc) (x1 : Int32) (x2 : Int32) (x3 : Int32) (x4 : Int32) (h : zHp) {r : Int32} (hr : (zf_X0_wayOf x1 x2 x3 x4) = some r) : zc_Cn zM_X0_wayOf [.ref a, .int x1, .int x2, .int x3, .int x4] h ((fun r => zc_mI (r, h)) r) := by
  refine zc_meth (mk := (fun r => zc_mI (r, h))) (o := (zf_X0_wayOf x1 x2 x3 x4)) (by decide +kernel) (Nat.le_of_ble_eq_true rfl) ?_ hr
  unfold zf_X0_wayOf
  refine zc_sL (ls1 := [some (.ref a), some (.int x1), some (.int x2), some (.int x3), some (.int x4)]) rfl ?_
  refine zc_aload_n (pc := 0) dX0_wayOf_0 rfl rfl ?_
  refine zc_iload_n (pc := 1) dX0_wayOf_1 rfl rfl ?_
  refine zc_iload_n (pc := 2) dX0_wayOf_2 rfl rfl ?_
  refine zc_iload_n (pc := 3) dX0_wayOf_3 rfl rfl ?_
  refine zc_iload (pc := 4) dX0_wayOf_4 rfl ?_
  refine zc_callIp (pc := 6) [.ref a, .int x1, .int x2, .int x3, .int x4] rfl (zc_runSU (q := vc) zo_X2_wayOf ⟨Nat.le_of_ble_eq_true rfl, Nat.le_of_ble_eq_true rfl⟩ zw_423 zw_1436 zw_82 zw_424 (by decide +kernel) ha hci hvc rfl dX0_wayOf_6) (Nat.le_of_ble_eq_true rfl) (fun _ hr => zt_X2_wayOf a ha hci hvc x1 x2 x3 x4 h hr) (fun r1 => ?_)
  refine zc_iload (pc := 9) dX0_wayOf_9 rfl ?_
  refine zc_iconst (pc := 11) (2 : Int32) dX0_wayOf_11 (by decide) ?_
  refine zc_irem (pc := 12) dX0_wayOf_12 (by decide) ?_
  refine zc_iadd (pc := 13) dX0_wayOf_13 ?_
  exact zc_iretK (pc := 14) dX0_wayOf_14 rfl ⟨_, rfl, rfl⟩
def zf_X9_goesFar (x1 : Int32) : Option Int32 :=
  some ((6 : Int32) + (x1 / (3 : Int32)))
set_option maxRecDepth 100000 in
set_option maxHeartbeats 4000000 in
theorem zt_X9_goesFar {ci : Nat} {vc : vw_C} (a : Nat) (ha : zc_lay[a]? = some (ci, 0)) (hci : ci < 12) (hvc : vwCl[ci]? = some vc) (x1 : Int32) (h : zHp) {r : Int32} (hr : (zf_X9_goesFar x1) = some r) : zc_Cn zM_X9_goesFar [.ref a, .int x1] h ((fun r => zc_mI (r, h)) r) := by
  refine zc_meth (mk := (fun r => zc_mI (r, h))) (o := (zf_X9_goesFar x1)) (by decide +kernel) (Nat.le_of_ble_eq_true rfl) ?_ hr
  unfold zf_X9_goesFar
  refine zc_sL (ls1 := [some (.ref a), some (.int x1)]) rfl ?_
  refine zc_bipush (pc := 0) (6 : Int32) dX9_goesFar_0 (by decide) ?_
  refine zc_iload_n (pc := 2) dX9_goesFar_2 rfl rfl ?_
  refine zc_iconst (pc := 3) (3 : Int32) dX9_goesFar_3 (by decide) ?_
  refine zc_idiv (pc := 4) dX9_goesFar_4 (by decide) ?_
  refine zc_iadd (pc := 5) dX9_goesFar_5 ?_
  exact zc_iretK (pc := 6) dX9_goesFar_6 rfl ⟨_, rfl, rfl⟩
def zf_X1_goesFar (x1 : Int32) : Option Int32 :=
  ((zf_X9_goesFar x1).bind (fun r1 => some (r1 + (2 : Int32))))
set_option maxRecDepth 100000 in
set_option maxHeartbeats 4000000 in
theorem zt_X1_goesFar {ci : Nat} {vc : vw_C} (a : Nat) (ha : zc_lay[a]? = some (ci, 0)) (hci : ci < 12) (hvc : vwCl[ci]? = some vc) (x1 : Int32) (h : zHp) {r : Int32} (hr : (zf_X1_goesFar x1) = some r) : zc_Cn zM_X1_goesFar [.ref a, .int x1] h ((fun r => zc_mI (r, h)) r) := by
  refine zc_meth (mk := (fun r => zc_mI (r, h))) (o := (zf_X1_goesFar x1)) (by decide +kernel) (Nat.le_of_ble_eq_true rfl) ?_ hr
  unfold zf_X1_goesFar
  refine zc_sL (ls1 := [some (.ref a), some (.int x1)]) rfl ?_
  refine zc_aload_n (pc := 0) dX1_goesFar_0 rfl rfl ?_
  refine zc_iload_n (pc := 1) dX1_goesFar_1 rfl rfl ?_
  refine zc_callIp (pc := 2) [.ref a, .int x1] rfl (zc_runSU (q := vc) zo_X9_goesFar ⟨Nat.le_of_ble_eq_true rfl, Nat.le_of_ble_eq_true rfl⟩ zw_297 zw_287 zw_47 zw_285 (by decide +kernel) ha hci hvc rfl dX1_goesFar_2) (Nat.le_of_ble_eq_true rfl) (fun _ hr => zt_X9_goesFar a ha hci hvc x1 h hr) (fun r1 => ?_)
  refine zc_iconst (pc := 5) (2 : Int32) dX1_goesFar_5 (by decide) ?_
  refine zc_iadd (pc := 6) dX1_goesFar_6 ?_
  exact zc_iretK (pc := 7) dX1_goesFar_7 rfl ⟨_, rfl, rfl⟩
def zf_X2_goesFar (x1 : Int32) : Option Int32 :=
  ((zf_X1_goesFar x1).bind (fun r1 => some ((2 : Int32) * r1)))
set_option maxRecDepth 100000 in
set_option maxHeartbeats 4000000 in
theorem zt_X2_goesFar {ci : Nat} {vc : vw_C} (a : Nat) (ha : zc_lay[a]? = some (ci, 0)) (hci : ci < 12) (hvc : vwCl[ci]? = some vc) (x1 : Int32) (h : zHp) {r : Int32} (hr : (zf_X2_goesFar x1) = some r) : zc_Cn zM_X2_goesFar [.ref a, .int x1] h ((fun r => zc_mI (r, h)) r) := by
  refine zc_meth (mk := (fun r => zc_mI (r, h))) (o := (zf_X2_goesFar x1)) (by decide +kernel) (Nat.le_of_ble_eq_true rfl) ?_ hr
  unfold zf_X2_goesFar
  refine zc_sL (ls1 := [some (.ref a), some (.int x1)]) rfl ?_
  refine zc_iconst (pc := 0) (2 : Int32) dX2_goesFar_0 (by decide) ?_
  refine zc_aload_n (pc := 1) dX2_goesFar_1 rfl rfl ?_
  refine zc_iload_n (pc := 2) dX2_goesFar_2 rfl rfl ?_
  refine zc_callIp (pc := 3) [.ref a, .int x1] rfl (zc_runSU (q := vc) zo_X1_goesFar ⟨Nat.le_of_ble_eq_true rfl, Nat.le_of_ble_eq_true rfl⟩ zw_294 zw_1430 zw_68 zw_295 (by decide +kernel) ha hci hvc rfl dX2_goesFar_3) (Nat.le_of_ble_eq_true rfl) (fun _ hr => zt_X1_goesFar a ha hci hvc x1 h hr) (fun r1 => ?_)
  refine zc_imul (pc := 6) dX2_goesFar_6 ?_
  exact zc_iretK (pc := 7) dX2_goesFar_7 rfl ⟨_, rfl, rfl⟩
def zf_X0_goesFar (x1 : Int32) : Option Int32 :=
  ((zf_X2_goesFar x1).bind (fun r1 => some (r1 + (1 : Int32))))
set_option maxRecDepth 100000 in
set_option maxHeartbeats 4000000 in
theorem zt_X0_goesFar {ci : Nat} {vc : vw_C} (a : Nat) (ha : zc_lay[a]? = some (ci, 0)) (hci : ci < 12) (hvc : vwCl[ci]? = some vc) (x1 : Int32) (h : zHp) {r : Int32} (hr : (zf_X0_goesFar x1) = some r) : zc_Cn zM_X0_goesFar [.ref a, .int x1] h ((fun r => zc_mI (r, h)) r) := by
  refine zc_meth (mk := (fun r => zc_mI (r, h))) (o := (zf_X0_goesFar x1)) (by decide +kernel) (Nat.le_of_ble_eq_true rfl) ?_ hr
  unfold zf_X0_goesFar
  refine zc_sL (ls1 := [some (.ref a), some (.int x1)]) rfl ?_
  refine zc_aload_n (pc := 0) dX0_goesFar_0 rfl rfl ?_
  refine zc_iload_n (pc := 1) dX0_goesFar_1 rfl rfl ?_
  refine zc_callIp (pc := 2) [.ref a, .int x1] rfl (zc_runSU (q := vc) zo_X2_goesFar ⟨Nat.le_of_ble_eq_true rfl, Nat.le_of_ble_eq_true rfl⟩ zw_291 zw_1429 zw_82 zw_292 (by decide +kernel) ha hci hvc rfl dX0_goesFar_2) (Nat.le_of_ble_eq_true rfl) (fun _ hr => zt_X2_goesFar a ha hci hvc x1 h hr) (fun r1 => ?_)
  refine zc_iconst (pc := 5) (1 : Int32) dX0_goesFar_5 (by decide) ?_
  refine zc_iadd (pc := 6) dX0_goesFar_6 ?_
  exact zc_iretK (pc := 7) dX0_goesFar_7 rfl ⟨_, rfl, rfl⟩
def zf_X0_brings (x1 : Int32) : Option Int32 :=
  some (9 : Int32)
set_option maxRecDepth 100000 in
set_option maxHeartbeats 4000000 in
theorem zt_X0_brings {ci : Nat} {vc : vw_C} (a : Nat) (ha : zc_lay[a]? = some (ci, 0)) (hci : ci < 12) (hvc : vwCl[ci]? = some vc) (x1 : Int32) (h : zHp) {r : Int32} (hr : (zf_X0_brings x1) = some r) : zc_Cn zM_X0_brings [.ref a, .int x1] h ((fun r => zc_mI (r, h)) r) := by
  refine zc_meth (mk := (fun r => zc_mI (r, h))) (o := (zf_X0_brings x1)) (by decide +kernel) (Nat.le_of_ble_eq_true rfl) ?_ hr
  unfold zf_X0_brings
  refine zc_sL (ls1 := [some (.ref a), some (.int x1)]) rfl ?_
  refine zc_bipush (pc := 0) (9 : Int32) dX0_brings_0 (by decide) ?_
  exact zc_iretK (pc := 2) dX0_brings_2 rfl ⟨_, rfl, rfl⟩
def zf_X1_eats (x1 : Int32) : Option Int32 :=
  some (1 : Int32)
set_option maxRecDepth 100000 in
set_option maxHeartbeats 4000000 in
theorem zt_X1_eats {ci : Nat} {vc : vw_C} (a : Nat) (ha : zc_lay[a]? = some (ci, 0)) (hci : ci < 12) (hvc : vwCl[ci]? = some vc) (x1 : Int32) (h : zHp) {r : Int32} (hr : (zf_X1_eats x1) = some r) : zc_Cn zM_X1_eats [.ref a, .int x1] h ((fun r => zc_mI (r, h)) r) := by
  refine zc_meth (mk := (fun r => zc_mI (r, h))) (o := (zf_X1_eats x1)) (by decide +kernel) (Nat.le_of_ble_eq_true rfl) ?_ hr
  unfold zf_X1_eats
  refine zc_sL (ls1 := [some (.ref a), some (.int x1)]) rfl ?_
  refine zc_iconst (pc := 0) (1 : Int32) dX1_eats_0 (by decide) ?_
  exact zc_iretK (pc := 1) dX1_eats_1 rfl ⟨_, rfl, rfl⟩
def zf_X2_eats (x1 : Int32) : Option Int32 :=
  ((zf_X1_eats x1).bind (fun r1 => some (r1 + (x1 / (3 : Int32)))))
set_option maxRecDepth 100000 in
set_option maxHeartbeats 4000000 in
theorem zt_X2_eats {ci : Nat} {vc : vw_C} (a : Nat) (ha : zc_lay[a]? = some (ci, 0)) (hci : ci < 12) (hvc : vwCl[ci]? = some vc) (x1 : Int32) (h : zHp) {r : Int32} (hr : (zf_X2_eats x1) = some r) : zc_Cn zM_X2_eats [.ref a, .int x1] h ((fun r => zc_mI (r, h)) r) := by
  refine zc_meth (mk := (fun r => zc_mI (r, h))) (o := (zf_X2_eats x1)) (by decide +kernel) (Nat.le_of_ble_eq_true rfl) ?_ hr
  unfold zf_X2_eats
  refine zc_sL (ls1 := [some (.ref a), some (.int x1)]) rfl ?_
  refine zc_aload_n (pc := 0) dX2_eats_0 rfl rfl ?_
  refine zc_iload_n (pc := 1) dX2_eats_1 rfl rfl ?_
  refine zc_callIp (pc := 2) [.ref a, .int x1] rfl (zc_runSU (q := vc) zo_X1_eats ⟨Nat.le_of_ble_eq_true rfl, Nat.le_of_ble_eq_true rfl⟩ zw_347 zw_1434 zw_68 zw_348 (by decide +kernel) ha hci hvc rfl dX2_eats_2) (Nat.le_of_ble_eq_true rfl) (fun _ hr => zt_X1_eats a ha hci hvc x1 h hr) (fun r1 => ?_)
  refine zc_iload_n (pc := 5) dX2_eats_5 rfl rfl ?_
  refine zc_iconst (pc := 6) (3 : Int32) dX2_eats_6 (by decide) ?_
  refine zc_idiv (pc := 7) dX2_eats_7 (by decide) ?_
  refine zc_iadd (pc := 8) dX2_eats_8 ?_
  exact zc_iretK (pc := 9) dX2_eats_9 rfl ⟨_, rfl, rfl⟩
def zf_X0_eats (x1 : Int32) : Option Int32 :=
  ((zf_X2_eats x1).bind (fun r1 => some ((2 : Int32) * r1)))
set_option maxRecDepth 100000 in
set_option maxHeartbeats 4000000 in
theorem zt_X0_eats {ci : Nat} {vc : vw_C} (a : Nat) (ha : zc_lay[a]? = some (ci, 0)) (hci : ci < 12) (hvc : vwCl[ci]? = some vc) (x1 : Int32) (h : zHp) {r : Int32} (hr : (zf_X0_eats x1) = some r) : zc_Cn zM_X0_eats [.ref a, .int x1] h ((fun r => zc_mI (r, h)) r) := by
  refine zc_meth (mk := (fun r => zc_mI (r, h))) (o := (zf_X0_eats x1)) (by decide +kernel) (Nat.le_of_ble_eq_true rfl) ?_ hr
  unfold zf_X0_eats
  refine zc_sL (ls1 := [some (.ref a), some (.int x1)]) rfl ?_
  refine zc_iconst (pc := 0) (2 : Int32) dX0_eats_0 (by decide) ?_
  refine zc_aload_n (pc := 1) dX0_eats_1 rfl rfl ?_
  refine zc_iload_n (pc := 2) dX0_eats_2 rfl rfl ?_
  refine zc_callIp (pc := 3) [.ref a, .int x1] rfl (zc_runSU (q := vc) zo_X2_eats ⟨Nat.le_of_ble_eq_true rfl, Nat.le_of_ble_eq_true rfl⟩ zw_344 zw_1433 zw_82 zw_345 (by decide +kernel) ha hci hvc rfl dX0_eats_3) (Nat.le_of_ble_eq_true rfl) (fun _ hr => zt_X2_eats a ha hci hvc x1 h hr) (fun r1 => ?_)
  refine zc_imul (pc := 6) dX0_eats_6 ?_
  exact zc_iretK (pc := 7) dX0_eats_7 rfl ⟨_, rfl, rfl⟩
def zf_X9_costs (x1 : Int32) : Option Int32 :=
  some (4 : Int32)
set_option maxRecDepth 100000 in
set_option maxHeartbeats 4000000 in
theorem zt_X9_costs {ci : Nat} {vc : vw_C} (a : Nat) (ha : zc_lay[a]? = some (ci, 0)) (hci : ci < 12) (hvc : vwCl[ci]? = some vc) (x1 : Int32) (h : zHp) {r : Int32} (hr : (zf_X9_costs x1) = some r) : zc_Cn zM_X9_costs [.ref a, .int x1] h ((fun r => zc_mI (r, h)) r) := by
  refine zc_meth (mk := (fun r => zc_mI (r, h))) (o := (zf_X9_costs x1)) (by decide +kernel) (Nat.le_of_ble_eq_true rfl) ?_ hr
  unfold zf_X9_costs
  refine zc_sL (ls1 := [some (.ref a), some (.int x1)]) rfl ?_
  refine zc_iconst (pc := 0) (4 : Int32) dX9_costs_0 (by decide) ?_
  exact zc_iretK (pc := 1) dX9_costs_1 rfl ⟨_, rfl, rfl⟩
def zf_X1_costs (x1 : Int32) : Option Int32 :=
  ((zf_X9_costs x1).bind (fun r1 => some (r1 + x1)))
set_option maxRecDepth 100000 in
set_option maxHeartbeats 4000000 in
theorem zt_X1_costs {ci : Nat} {vc : vw_C} (a : Nat) (ha : zc_lay[a]? = some (ci, 0)) (hci : ci < 12) (hvc : vwCl[ci]? = some vc) (x1 : Int32) (h : zHp) {r : Int32} (hr : (zf_X1_costs x1) = some r) : zc_Cn zM_X1_costs [.ref a, .int x1] h ((fun r => zc_mI (r, h)) r) := by
  refine zc_meth (mk := (fun r => zc_mI (r, h))) (o := (zf_X1_costs x1)) (by decide +kernel) (Nat.le_of_ble_eq_true rfl) ?_ hr
  unfold zf_X1_costs
  refine zc_sL (ls1 := [some (.ref a), some (.int x1)]) rfl ?_
  refine zc_aload_n (pc := 0) dX1_costs_0 rfl rfl ?_
  refine zc_iload_n (pc := 1) dX1_costs_1 rfl rfl ?_
  refine zc_callIp (pc := 2) [.ref a, .int x1] rfl (zc_runSU (q := vc) zo_X9_costs ⟨Nat.le_of_ble_eq_true rfl, Nat.le_of_ble_eq_true rfl⟩ zw_790 zw_780 zw_47 zw_778 (by decide +kernel) ha hci hvc rfl dX1_costs_2) (Nat.le_of_ble_eq_true rfl) (fun _ hr => zt_X9_costs a ha hci hvc x1 h hr) (fun r1 => ?_)
  refine zc_iload_n (pc := 5) dX1_costs_5 rfl rfl ?_
  refine zc_iadd (pc := 6) dX1_costs_6 ?_
  exact zc_iretK (pc := 7) dX1_costs_7 rfl ⟨_, rfl, rfl⟩
def zf_X2_costs (x1 : Int32) : Option Int32 :=
  ((zf_X1_costs x1).bind (fun r1 => some ((2 : Int32) * r1)))
set_option maxRecDepth 100000 in
set_option maxHeartbeats 4000000 in
theorem zt_X2_costs {ci : Nat} {vc : vw_C} (a : Nat) (ha : zc_lay[a]? = some (ci, 0)) (hci : ci < 12) (hvc : vwCl[ci]? = some vc) (x1 : Int32) (h : zHp) {r : Int32} (hr : (zf_X2_costs x1) = some r) : zc_Cn zM_X2_costs [.ref a, .int x1] h ((fun r => zc_mI (r, h)) r) := by
  refine zc_meth (mk := (fun r => zc_mI (r, h))) (o := (zf_X2_costs x1)) (by decide +kernel) (Nat.le_of_ble_eq_true rfl) ?_ hr
  unfold zf_X2_costs
  refine zc_sL (ls1 := [some (.ref a), some (.int x1)]) rfl ?_
  refine zc_iconst (pc := 0) (2 : Int32) dX2_costs_0 (by decide) ?_
  refine zc_aload_n (pc := 1) dX2_costs_1 rfl rfl ?_
  refine zc_iload_n (pc := 2) dX2_costs_2 rfl rfl ?_
  refine zc_callIp (pc := 3) [.ref a, .int x1] rfl (zc_runSU (q := vc) zo_X1_costs ⟨Nat.le_of_ble_eq_true rfl, Nat.le_of_ble_eq_true rfl⟩ zw_787 zw_1439 zw_68 zw_788 (by decide +kernel) ha hci hvc rfl dX2_costs_3) (Nat.le_of_ble_eq_true rfl) (fun _ hr => zt_X1_costs a ha hci hvc x1 h hr) (fun r1 => ?_)
  refine zc_imul (pc := 6) dX2_costs_6 ?_
  exact zc_iretK (pc := 7) dX2_costs_7 rfl ⟨_, rfl, rfl⟩
def zf_X0_costs (x1 : Int32) : Option Int32 :=
  ((zf_X2_costs x1).bind (fun r1 => some (r1 + (3 : Int32))))
set_option maxRecDepth 100000 in
set_option maxHeartbeats 4000000 in
theorem zt_X0_costs {ci : Nat} {vc : vw_C} (a : Nat) (ha : zc_lay[a]? = some (ci, 0)) (hci : ci < 12) (hvc : vwCl[ci]? = some vc) (x1 : Int32) (h : zHp) {r : Int32} (hr : (zf_X0_costs x1) = some r) : zc_Cn zM_X0_costs [.ref a, .int x1] h ((fun r => zc_mI (r, h)) r) := by
  refine zc_meth (mk := (fun r => zc_mI (r, h))) (o := (zf_X0_costs x1)) (by decide +kernel) (Nat.le_of_ble_eq_true rfl) ?_ hr
  unfold zf_X0_costs
  refine zc_sL (ls1 := [some (.ref a), some (.int x1)]) rfl ?_
  refine zc_aload_n (pc := 0) dX0_costs_0 rfl rfl ?_
  refine zc_iload_n (pc := 1) dX0_costs_1 rfl rfl ?_
  refine zc_callIp (pc := 2) [.ref a, .int x1] rfl (zc_runSU (q := vc) zo_X2_costs ⟨Nat.le_of_ble_eq_true rfl, Nat.le_of_ble_eq_true rfl⟩ zw_784 zw_1438 zw_82 zw_785 (by decide +kernel) ha hci hvc rfl dX0_costs_2) (Nat.le_of_ble_eq_true rfl) (fun _ hr => zt_X2_costs a ha hci hvc x1 h hr) (fun r1 => ?_)
  refine zc_iconst (pc := 5) (3 : Int32) dX0_costs_5 (by decide) ?_
  refine zc_iadd (pc := 6) dX0_costs_6 ?_
  exact zc_iretK (pc := 7) dX0_costs_7 rfl ⟨_, rfl, rfl⟩
def zf_X1_brings (x1 : Int32) : Option Int32 :=
  some x1
set_option maxRecDepth 100000 in
set_option maxHeartbeats 4000000 in
theorem zt_X1_brings {ci : Nat} {vc : vw_C} (a : Nat) (ha : zc_lay[a]? = some (ci, 0)) (hci : ci < 12) (hvc : vwCl[ci]? = some vc) (x1 : Int32) (h : zHp) {r : Int32} (hr : (zf_X1_brings x1) = some r) : zc_Cn zM_X1_brings [.ref a, .int x1] h ((fun r => zc_mI (r, h)) r) := by
  refine zc_meth (mk := (fun r => zc_mI (r, h))) (o := (zf_X1_brings x1)) (by decide +kernel) (Nat.le_of_ble_eq_true rfl) ?_ hr
  unfold zf_X1_brings
  refine zc_sL (ls1 := [some (.ref a), some (.int x1)]) rfl ?_
  refine zc_iload_n (pc := 0) dX1_brings_0 rfl rfl ?_
  exact zc_iretK (pc := 1) dX1_brings_1 rfl ⟨_, rfl, rfl⟩
def zf_X2_brings (x1 : Int32) : Option Int32 :=
  ((zf_X1_brings x1).bind (fun r1 => some (r1 + (1 : Int32))))
set_option maxRecDepth 100000 in
set_option maxHeartbeats 4000000 in
theorem zt_X2_brings {ci : Nat} {vc : vw_C} (a : Nat) (ha : zc_lay[a]? = some (ci, 0)) (hci : ci < 12) (hvc : vwCl[ci]? = some vc) (x1 : Int32) (h : zHp) {r : Int32} (hr : (zf_X2_brings x1) = some r) : zc_Cn zM_X2_brings [.ref a, .int x1] h ((fun r => zc_mI (r, h)) r) := by
  refine zc_meth (mk := (fun r => zc_mI (r, h))) (o := (zf_X2_brings x1)) (by decide +kernel) (Nat.le_of_ble_eq_true rfl) ?_ hr
  unfold zf_X2_brings
  refine zc_sL (ls1 := [some (.ref a), some (.int x1)]) rfl ?_
  refine zc_aload_n (pc := 0) dX2_brings_0 rfl rfl ?_
  refine zc_iload_n (pc := 1) dX2_brings_1 rfl rfl ?_
  refine zc_callIp (pc := 2) [.ref a, .int x1] rfl (zc_runSU (q := vc) zo_X1_brings ⟨Nat.le_of_ble_eq_true rfl, Nat.le_of_ble_eq_true rfl⟩ zw_327 zw_1432 zw_68 zw_322 (by decide +kernel) ha hci hvc rfl dX2_brings_2) (Nat.le_of_ble_eq_true rfl) (fun _ hr => zt_X1_brings a ha hci hvc x1 h hr) (fun r1 => ?_)
  refine zc_iconst (pc := 5) (1 : Int32) dX2_brings_5 (by decide) ?_
  refine zc_iadd (pc := 6) dX2_brings_6 ?_
  exact zc_iretK (pc := 7) dX2_brings_7 rfl ⟨_, rfl, rfl⟩
def zf_X3_wayOf (x1 : Int32) (x2 : Int32) (x3 : Int32) (x4 : Int32) : Option Int32 :=
  some x2
set_option maxRecDepth 100000 in
set_option maxHeartbeats 4000000 in
theorem zt_X3_wayOf {ci : Nat} {vc : vw_C} (a : Nat) (ha : zc_lay[a]? = some (ci, 0)) (hci : ci < 12) (hvc : vwCl[ci]? = some vc) (x1 : Int32) (x2 : Int32) (x3 : Int32) (x4 : Int32) (h : zHp) {r : Int32} (hr : (zf_X3_wayOf x1 x2 x3 x4) = some r) : zc_Cn zM_X3_wayOf [.ref a, .int x1, .int x2, .int x3, .int x4] h ((fun r => zc_mI (r, h)) r) := by
  refine zc_meth (mk := (fun r => zc_mI (r, h))) (o := (zf_X3_wayOf x1 x2 x3 x4)) (by decide +kernel) (Nat.le_of_ble_eq_true rfl) ?_ hr
  unfold zf_X3_wayOf
  refine zc_sL (ls1 := [some (.ref a), some (.int x1), some (.int x2), some (.int x3), some (.int x4)]) rfl ?_
  refine zc_iload_n (pc := 0) dX3_wayOf_0 rfl rfl ?_
  exact zc_iretK (pc := 1) dX3_wayOf_1 rfl ⟨_, rfl, rfl⟩
def zf_X3_goesFar (x1 : Int32) : Option Int32 :=
  some x1
set_option maxRecDepth 100000 in
set_option maxHeartbeats 4000000 in
theorem zt_X3_goesFar {ci : Nat} {vc : vw_C} (a : Nat) (ha : zc_lay[a]? = some (ci, 0)) (hci : ci < 12) (hvc : vwCl[ci]? = some vc) (x1 : Int32) (h : zHp) {r : Int32} (hr : (zf_X3_goesFar x1) = some r) : zc_Cn zM_X3_goesFar [.ref a, .int x1] h ((fun r => zc_mI (r, h)) r) := by
  refine zc_meth (mk := (fun r => zc_mI (r, h))) (o := (zf_X3_goesFar x1)) (by decide +kernel) (Nat.le_of_ble_eq_true rfl) ?_ hr
  unfold zf_X3_goesFar
  refine zc_sL (ls1 := [some (.ref a), some (.int x1)]) rfl ?_
  refine zc_iload_n (pc := 0) dX3_goesFar_0 rfl rfl ?_
  exact zc_iretK (pc := 1) dX3_goesFar_1 rfl ⟨_, rfl, rfl⟩
def zf_X3_brings (x1 : Int32) : Option Int32 :=
  some (2 : Int32)
set_option maxRecDepth 100000 in
set_option maxHeartbeats 4000000 in
theorem zt_X3_brings {ci : Nat} {vc : vw_C} (a : Nat) (ha : zc_lay[a]? = some (ci, 0)) (hci : ci < 12) (hvc : vwCl[ci]? = some vc) (x1 : Int32) (h : zHp) {r : Int32} (hr : (zf_X3_brings x1) = some r) : zc_Cn zM_X3_brings [.ref a, .int x1] h ((fun r => zc_mI (r, h)) r) := by
  refine zc_meth (mk := (fun r => zc_mI (r, h))) (o := (zf_X3_brings x1)) (by decide +kernel) (Nat.le_of_ble_eq_true rfl) ?_ hr
  unfold zf_X3_brings
  refine zc_sL (ls1 := [some (.ref a), some (.int x1)]) rfl ?_
  refine zc_iconst (pc := 0) (2 : Int32) dX3_brings_0 (by decide) ?_
  exact zc_iretK (pc := 1) dX3_brings_1 rfl ⟨_, rfl, rfl⟩
def zf_X3_eats (x1 : Int32) : Option Int32 :=
  some (2 : Int32)
set_option maxRecDepth 100000 in
set_option maxHeartbeats 4000000 in
theorem zt_X3_eats {ci : Nat} {vc : vw_C} (a : Nat) (ha : zc_lay[a]? = some (ci, 0)) (hci : ci < 12) (hvc : vwCl[ci]? = some vc) (x1 : Int32) (h : zHp) {r : Int32} (hr : (zf_X3_eats x1) = some r) : zc_Cn zM_X3_eats [.ref a, .int x1] h ((fun r => zc_mI (r, h)) r) := by
  refine zc_meth (mk := (fun r => zc_mI (r, h))) (o := (zf_X3_eats x1)) (by decide +kernel) (Nat.le_of_ble_eq_true rfl) ?_ hr
  unfold zf_X3_eats
  refine zc_sL (ls1 := [some (.ref a), some (.int x1)]) rfl ?_
  refine zc_iconst (pc := 0) (2 : Int32) dX3_eats_0 (by decide) ?_
  exact zc_iretK (pc := 1) dX3_eats_1 rfl ⟨_, rfl, rfl⟩
def zf_X3_nodsToHim : Option Int32 :=
  some (0 : Int32)
set_option maxRecDepth 100000 in
set_option maxHeartbeats 4000000 in
theorem zt_X3_nodsToHim {ci : Nat} {vc : vw_C} (a : Nat) (ha : zc_lay[a]? = some (ci, 0)) (hci : ci < 12) (hvc : vwCl[ci]? = some vc) (h : zHp) {r : Int32} (hr : zf_X3_nodsToHim = some r) : zc_Cn zM_X3_nodsToHim [.ref a] h ((fun r => zc_mI (r, h)) r) := by
  refine zc_meth (mk := (fun r => zc_mI (r, h))) (o := zf_X3_nodsToHim) (by decide +kernel) (Nat.le_of_ble_eq_true rfl) ?_ hr
  unfold zf_X3_nodsToHim
  refine zc_sL (ls1 := [some (.ref a)]) rfl ?_
  refine zc_iconst (pc := 0) (0 : Int32) dX3_nodsToHim_0 (by decide) ?_
  exact zc_zretK (pc := 1) dX3_nodsToHim_1 rfl (by decide) ⟨_, rfl, rfl⟩
def zf_X3_costs (x1 : Int32) : Option Int32 :=
  some (9 : Int32)
set_option maxRecDepth 100000 in
set_option maxHeartbeats 4000000 in
theorem zt_X3_costs {ci : Nat} {vc : vw_C} (a : Nat) (ha : zc_lay[a]? = some (ci, 0)) (hci : ci < 12) (hvc : vwCl[ci]? = some vc) (x1 : Int32) (h : zHp) {r : Int32} (hr : (zf_X3_costs x1) = some r) : zc_Cn zM_X3_costs [.ref a, .int x1] h ((fun r => zc_mI (r, h)) r) := by
  refine zc_meth (mk := (fun r => zc_mI (r, h))) (o := (zf_X3_costs x1)) (by decide +kernel) (Nat.le_of_ble_eq_true rfl) ?_ hr
  unfold zf_X3_costs
  refine zc_sL (ls1 := [some (.ref a), some (.int x1)]) rfl ?_
  refine zc_bipush (pc := 0) (9 : Int32) dX3_costs_0 (by decide) ?_
  exact zc_iretK (pc := 2) dX3_costs_2 rfl ⟨_, rfl, rfl⟩
def zf_X4_wayOf (x1 : Int32) (x2 : Int32) (x3 : Int32) (x4 : Int32) : Option Int32 :=
  some (x2 + x3)
set_option maxRecDepth 100000 in
set_option maxHeartbeats 4000000 in
theorem zt_X4_wayOf {ci : Nat} {vc : vw_C} (a : Nat) (ha : zc_lay[a]? = some (ci, 0)) (hci : ci < 12) (hvc : vwCl[ci]? = some vc) (x1 : Int32) (x2 : Int32) (x3 : Int32) (x4 : Int32) (h : zHp) {r : Int32} (hr : (zf_X4_wayOf x1 x2 x3 x4) = some r) : zc_Cn zM_X4_wayOf [.ref a, .int x1, .int x2, .int x3, .int x4] h ((fun r => zc_mI (r, h)) r) := by
  refine zc_meth (mk := (fun r => zc_mI (r, h))) (o := (zf_X4_wayOf x1 x2 x3 x4)) (by decide +kernel) (Nat.le_of_ble_eq_true rfl) ?_ hr
  unfold zf_X4_wayOf
  refine zc_sL (ls1 := [some (.ref a), some (.int x1), some (.int x2), some (.int x3), some (.int x4)]) rfl ?_
  refine zc_iload_n (pc := 0) dX4_wayOf_0 rfl rfl ?_
  refine zc_iload_n (pc := 1) dX4_wayOf_1 rfl rfl ?_
  refine zc_iadd (pc := 2) dX4_wayOf_2 ?_
  exact zc_iretK (pc := 3) dX4_wayOf_3 rfl ⟨_, rfl, rfl⟩
def zf_X4_goesFar (x1 : Int32) : Option Int32 :=
  ((zf_X3_goesFar x1).bind (fun r1 => some (r1 / (2 : Int32))))
set_option maxRecDepth 100000 in
set_option maxHeartbeats 4000000 in
theorem zt_X4_goesFar {ci : Nat} {vc : vw_C} (a : Nat) (ha : zc_lay[a]? = some (ci, 0)) (hci : ci < 12) (hvc : vwCl[ci]? = some vc) (x1 : Int32) (h : zHp) {r : Int32} (hr : (zf_X4_goesFar x1) = some r) : zc_Cn zM_X4_goesFar [.ref a, .int x1] h ((fun r => zc_mI (r, h)) r) := by
  refine zc_meth (mk := (fun r => zc_mI (r, h))) (o := (zf_X4_goesFar x1)) (by decide +kernel) (Nat.le_of_ble_eq_true rfl) ?_ hr
  unfold zf_X4_goesFar
  refine zc_sL (ls1 := [some (.ref a), some (.int x1)]) rfl ?_
  refine zc_aload_n (pc := 0) dX4_goesFar_0 rfl rfl ?_
  refine zc_iload_n (pc := 1) dX4_goesFar_1 rfl rfl ?_
  refine zc_callIp (pc := 2) [.ref a, .int x1] rfl (zc_runSU (q := vc) zo_X3_goesFar ⟨Nat.le_of_ble_eq_true rfl, Nat.le_of_ble_eq_true rfl⟩ zw_306 zw_1431 zw_61 zw_301 (by decide +kernel) ha hci hvc rfl dX4_goesFar_2) (Nat.le_of_ble_eq_true rfl) (fun _ hr => zt_X3_goesFar a ha hci hvc x1 h hr) (fun r1 => ?_)
  refine zc_iconst (pc := 5) (2 : Int32) dX4_goesFar_5 (by decide) ?_
  refine zc_idiv (pc := 6) dX4_goesFar_6 (by decide) ?_
  exact zc_iretK (pc := 7) dX4_goesFar_7 rfl ⟨_, rfl, rfl⟩
def zf_X4_eats (x1 : Int32) : Option Int32 :=
  some (0 : Int32)
set_option maxRecDepth 100000 in
set_option maxHeartbeats 4000000 in
theorem zt_X4_eats {ci : Nat} {vc : vw_C} (a : Nat) (ha : zc_lay[a]? = some (ci, 0)) (hci : ci < 12) (hvc : vwCl[ci]? = some vc) (x1 : Int32) (h : zHp) {r : Int32} (hr : (zf_X4_eats x1) = some r) : zc_Cn zM_X4_eats [.ref a, .int x1] h ((fun r => zc_mI (r, h)) r) := by
  refine zc_meth (mk := (fun r => zc_mI (r, h))) (o := (zf_X4_eats x1)) (by decide +kernel) (Nat.le_of_ble_eq_true rfl) ?_ hr
  unfold zf_X4_eats
  refine zc_sL (ls1 := [some (.ref a), some (.int x1)]) rfl ?_
  refine zc_iconst (pc := 0) (0 : Int32) dX4_eats_0 (by decide) ?_
  exact zc_iretK (pc := 1) dX4_eats_1 rfl ⟨_, rfl, rfl⟩
def zf_X4_costs (x1 : Int32) : Option Int32 :=
  ((zf_X3_costs x1).bind (fun r1 => some (r1 / (2 : Int32))))
set_option maxRecDepth 100000 in
set_option maxHeartbeats 4000000 in
theorem zt_X4_costs {ci : Nat} {vc : vw_C} (a : Nat) (ha : zc_lay[a]? = some (ci, 0)) (hci : ci < 12) (hvc : vwCl[ci]? = some vc) (x1 : Int32) (h : zHp) {r : Int32} (hr : (zf_X4_costs x1) = some r) : zc_Cn zM_X4_costs [.ref a, .int x1] h ((fun r => zc_mI (r, h)) r) := by
  refine zc_meth (mk := (fun r => zc_mI (r, h))) (o := (zf_X4_costs x1)) (by decide +kernel) (Nat.le_of_ble_eq_true rfl) ?_ hr
  unfold zf_X4_costs
  refine zc_sL (ls1 := [some (.ref a), some (.int x1)]) rfl ?_
  refine zc_aload_n (pc := 0) dX4_costs_0 rfl rfl ?_
  refine zc_iload_n (pc := 1) dX4_costs_1 rfl rfl ?_
  refine zc_callIp (pc := 2) [.ref a, .int x1] rfl (zc_runSU (q := vc) zo_X3_costs ⟨Nat.le_of_ble_eq_true rfl, Nat.le_of_ble_eq_true rfl⟩ zw_799 zw_1440 zw_61 zw_794 (by decide +kernel) ha hci hvc rfl dX4_costs_2) (Nat.le_of_ble_eq_true rfl) (fun _ hr => zt_X3_costs a ha hci hvc x1 h hr) (fun r1 => ?_)
  refine zc_iconst (pc := 5) (2 : Int32) dX4_costs_5 (by decide) ?_
  refine zc_idiv (pc := 6) dX4_costs_6 (by decide) ?_
  exact zc_iretK (pc := 7) dX4_costs_7 rfl ⟨_, rfl, rfl⟩
def zf_X5_goesFar (x1 : Int32) : Option Int32 :=
  some (0 : Int32)
set_option maxRecDepth 100000 in
set_option maxHeartbeats 4000000 in
theorem zt_X5_goesFar {ci : Nat} {vc : vw_C} (a : Nat) (ha : zc_lay[a]? = some (ci, 0)) (hci : ci < 12) (hvc : vwCl[ci]? = some vc) (x1 : Int32) (h : zHp) {r : Int32} (hr : (zf_X5_goesFar x1) = some r) : zc_Cn zM_X5_goesFar [.ref a, .int x1] h ((fun r => zc_mI (r, h)) r) := by
  refine zc_meth (mk := (fun r => zc_mI (r, h))) (o := (zf_X5_goesFar x1)) (by decide +kernel) (Nat.le_of_ble_eq_true rfl) ?_ hr
  unfold zf_X5_goesFar
  refine zc_sL (ls1 := [some (.ref a), some (.int x1)]) rfl ?_
  refine zc_iconst (pc := 0) (0 : Int32) dX5_goesFar_0 (by decide) ?_
  exact zc_iretK (pc := 1) dX5_goesFar_1 rfl ⟨_, rfl, rfl⟩
def zf_X5_eats (x1 : Int32) : Option Int32 :=
  ((zf_X3_eats x1).bind (fun r1 => some (r1 - (1 : Int32))))
set_option maxRecDepth 100000 in
set_option maxHeartbeats 4000000 in
theorem zt_X5_eats {ci : Nat} {vc : vw_C} (a : Nat) (ha : zc_lay[a]? = some (ci, 0)) (hci : ci < 12) (hvc : vwCl[ci]? = some vc) (x1 : Int32) (h : zHp) {r : Int32} (hr : (zf_X5_eats x1) = some r) : zc_Cn zM_X5_eats [.ref a, .int x1] h ((fun r => zc_mI (r, h)) r) := by
  refine zc_meth (mk := (fun r => zc_mI (r, h))) (o := (zf_X5_eats x1)) (by decide +kernel) (Nat.le_of_ble_eq_true rfl) ?_ hr
  unfold zf_X5_eats
  refine zc_sL (ls1 := [some (.ref a), some (.int x1)]) rfl ?_
  refine zc_aload_n (pc := 0) dX5_eats_0 rfl rfl ?_
  refine zc_iload_n (pc := 1) dX5_eats_1 rfl rfl ?_
  refine zc_callIp (pc := 2) [.ref a, .int x1] rfl (zc_runSU (q := vc) zo_X3_eats ⟨Nat.le_of_ble_eq_true rfl, Nat.le_of_ble_eq_true rfl⟩ zw_361 zw_1435 zw_89 zw_353 (by decide +kernel) ha hci hvc rfl dX5_eats_2) (Nat.le_of_ble_eq_true rfl) (fun _ hr => zt_X3_eats a ha hci hvc x1 h hr) (fun r1 => ?_)
  refine zc_iconst (pc := 5) (1 : Int32) dX5_eats_5 (by decide) ?_
  refine zc_isub (pc := 6) dX5_eats_6 ?_
  exact zc_iretK (pc := 7) dX5_eats_7 rfl ⟨_, rfl, rfl⟩
def zf_X5_costs (x1 : Int32) : Option Int32 :=
  some (0 : Int32)
set_option maxRecDepth 100000 in
set_option maxHeartbeats 4000000 in
theorem zt_X5_costs {ci : Nat} {vc : vw_C} (a : Nat) (ha : zc_lay[a]? = some (ci, 0)) (hci : ci < 12) (hvc : vwCl[ci]? = some vc) (x1 : Int32) (h : zHp) {r : Int32} (hr : (zf_X5_costs x1) = some r) : zc_Cn zM_X5_costs [.ref a, .int x1] h ((fun r => zc_mI (r, h)) r) := by
  refine zc_meth (mk := (fun r => zc_mI (r, h))) (o := (zf_X5_costs x1)) (by decide +kernel) (Nat.le_of_ble_eq_true rfl) ?_ hr
  unfold zf_X5_costs
  refine zc_sL (ls1 := [some (.ref a), some (.int x1)]) rfl ?_
  refine zc_iconst (pc := 0) (0 : Int32) dX5_costs_0 (by decide) ?_
  exact zc_iretK (pc := 1) dX5_costs_1 rfl ⟨_, rfl, rfl⟩
def zf_X6_wayOf (x1 : Int32) (x2 : Int32) (x3 : Int32) (x4 : Int32) : Option Int32 :=
  some (x1 / (2 : Int32))
set_option maxRecDepth 100000 in
set_option maxHeartbeats 4000000 in
theorem zt_X6_wayOf {ci : Nat} {vc : vw_C} (a : Nat) (ha : zc_lay[a]? = some (ci, 0)) (hci : ci < 12) (hvc : vwCl[ci]? = some vc) (x1 : Int32) (x2 : Int32) (x3 : Int32) (x4 : Int32) (h : zHp) {r : Int32} (hr : (zf_X6_wayOf x1 x2 x3 x4) = some r) : zc_Cn zM_X6_wayOf [.ref a, .int x1, .int x2, .int x3, .int x4] h ((fun r => zc_mI (r, h)) r) := by
  refine zc_meth (mk := (fun r => zc_mI (r, h))) (o := (zf_X6_wayOf x1 x2 x3 x4)) (by decide +kernel) (Nat.le_of_ble_eq_true rfl) ?_ hr
  unfold zf_X6_wayOf
  refine zc_sL (ls1 := [some (.ref a), some (.int x1), some (.int x2), some (.int x3), some (.int x4)]) rfl ?_
  refine zc_iload_n (pc := 0) dX6_wayOf_0 rfl rfl ?_
  refine zc_iconst (pc := 1) (2 : Int32) dX6_wayOf_1 (by decide) ?_
  refine zc_idiv (pc := 2) dX6_wayOf_2 (by decide) ?_
  exact zc_iretK (pc := 3) dX6_wayOf_3 rfl ⟨_, rfl, rfl⟩
def zf_X6_goesFar (x1 : Int32) : Option Int32 :=
  some (4 : Int32)
set_option maxRecDepth 100000 in
set_option maxHeartbeats 4000000 in
theorem zt_X6_goesFar {ci : Nat} {vc : vw_C} (a : Nat) (ha : zc_lay[a]? = some (ci, 0)) (hci : ci < 12) (hvc : vwCl[ci]? = some vc) (x1 : Int32) (h : zHp) {r : Int32} (hr : (zf_X6_goesFar x1) = some r) : zc_Cn zM_X6_goesFar [.ref a, .int x1] h ((fun r => zc_mI (r, h)) r) := by
  refine zc_meth (mk := (fun r => zc_mI (r, h))) (o := (zf_X6_goesFar x1)) (by decide +kernel) (Nat.le_of_ble_eq_true rfl) ?_ hr
  unfold zf_X6_goesFar
  refine zc_sL (ls1 := [some (.ref a), some (.int x1)]) rfl ?_
  refine zc_iconst (pc := 0) (4 : Int32) dX6_goesFar_0 (by decide) ?_
  exact zc_iretK (pc := 1) dX6_goesFar_1 rfl ⟨_, rfl, rfl⟩
def zf_X6_brings (x1 : Int32) : Option Int32 :=
  some (x1 / (2 : Int32))
set_option maxRecDepth 100000 in
set_option maxHeartbeats 4000000 in
theorem zt_X6_brings {ci : Nat} {vc : vw_C} (a : Nat) (ha : zc_lay[a]? = some (ci, 0)) (hci : ci < 12) (hvc : vwCl[ci]? = some vc) (x1 : Int32) (h : zHp) {r : Int32} (hr : (zf_X6_brings x1) = some r) : zc_Cn zM_X6_brings [.ref a, .int x1] h ((fun r => zc_mI (r, h)) r) := by
  refine zc_meth (mk := (fun r => zc_mI (r, h))) (o := (zf_X6_brings x1)) (by decide +kernel) (Nat.le_of_ble_eq_true rfl) ?_ hr
  unfold zf_X6_brings
  refine zc_sL (ls1 := [some (.ref a), some (.int x1)]) rfl ?_
  refine zc_iload_n (pc := 0) dX6_brings_0 rfl rfl ?_
  refine zc_iconst (pc := 1) (2 : Int32) dX6_brings_1 (by decide) ?_
  refine zc_idiv (pc := 2) dX6_brings_2 (by decide) ?_
  exact zc_iretK (pc := 3) dX6_brings_3 rfl ⟨_, rfl, rfl⟩
def zf_X6_eats (x1 : Int32) : Option Int32 :=
  some (1 : Int32)
set_option maxRecDepth 100000 in
set_option maxHeartbeats 4000000 in
theorem zt_X6_eats {ci : Nat} {vc : vw_C} (a : Nat) (ha : zc_lay[a]? = some (ci, 0)) (hci : ci < 12) (hvc : vwCl[ci]? = some vc) (x1 : Int32) (h : zHp) {r : Int32} (hr : (zf_X6_eats x1) = some r) : zc_Cn zM_X6_eats [.ref a, .int x1] h ((fun r => zc_mI (r, h)) r) := by
  refine zc_meth (mk := (fun r => zc_mI (r, h))) (o := (zf_X6_eats x1)) (by decide +kernel) (Nat.le_of_ble_eq_true rfl) ?_ hr
  unfold zf_X6_eats
  refine zc_sL (ls1 := [some (.ref a), some (.int x1)]) rfl ?_
  refine zc_iconst (pc := 0) (1 : Int32) dX6_eats_0 (by decide) ?_
  exact zc_iretK (pc := 1) dX6_eats_1 rfl ⟨_, rfl, rfl⟩
def zf_X6_costs (x1 : Int32) : Option Int32 :=
  some (1 : Int32)
set_option maxRecDepth 100000 in
set_option maxHeartbeats 4000000 in
theorem zt_X6_costs {ci : Nat} {vc : vw_C} (a : Nat) (ha : zc_lay[a]? = some (ci, 0)) (hci : ci < 12) (hvc : vwCl[ci]? = some vc) (x1 : Int32) (h : zHp) {r : Int32} (hr : (zf_X6_costs x1) = some r) : zc_Cn zM_X6_costs [.ref a, .int x1] h ((fun r => zc_mI (r, h)) r) := by
  refine zc_meth (mk := (fun r => zc_mI (r, h))) (o := (zf_X6_costs x1)) (by decide +kernel) (Nat.le_of_ble_eq_true rfl) ?_ hr
  unfold zf_X6_costs
  refine zc_sL (ls1 := [some (.ref a), some (.int x1)]) rfl ?_
  refine zc_iconst (pc := 0) (1 : Int32) dX6_costs_0 (by decide) ?_
  exact zc_iretK (pc := 1) dX6_costs_1 rfl ⟨_, rfl, rfl⟩
def zf_X9_brings (x1 : Int32) : Option Int32 :=
  some (3 : Int32)
set_option maxRecDepth 100000 in
set_option maxHeartbeats 4000000 in
theorem zt_X9_brings {ci : Nat} {vc : vw_C} (a : Nat) (ha : zc_lay[a]? = some (ci, 0)) (hci : ci < 12) (hvc : vwCl[ci]? = some vc) (x1 : Int32) (h : zHp) {r : Int32} (hr : (zf_X9_brings x1) = some r) : zc_Cn zM_X9_brings [.ref a, .int x1] h ((fun r => zc_mI (r, h)) r) := by
  refine zc_meth (mk := (fun r => zc_mI (r, h))) (o := (zf_X9_brings x1)) (by decide +kernel) (Nat.le_of_ble_eq_true rfl) ?_ hr
  unfold zf_X9_brings
  refine zc_sL (ls1 := [some (.ref a), some (.int x1)]) rfl ?_
  refine zc_iconst (pc := 0) (3 : Int32) dX9_brings_0 (by decide) ?_
  exact zc_iretK (pc := 1) dX9_brings_1 rfl ⟨_, rfl, rfl⟩
def zf_X9_eats (x1 : Int32) : Option Int32 :=
  some (2 : Int32)
set_option maxRecDepth 100000 in
set_option maxHeartbeats 4000000 in
theorem zt_X9_eats {ci : Nat} {vc : vw_C} (a : Nat) (ha : zc_lay[a]? = some (ci, 0)) (hci : ci < 12) (hvc : vwCl[ci]? = some vc) (x1 : Int32) (h : zHp) {r : Int32} (hr : (zf_X9_eats x1) = some r) : zc_Cn zM_X9_eats [.ref a, .int x1] h ((fun r => zc_mI (r, h)) r) := by
  refine zc_meth (mk := (fun r => zc_mI (r, h))) (o := (zf_X9_eats x1)) (by decide +kernel) (Nat.le_of_ble_eq_true rfl) ?_ hr
  unfold zf_X9_eats
  refine zc_sL (ls1 := [some (.ref a), some (.int x1)]) rfl ?_
  refine zc_iconst (pc := 0) (2 : Int32) dX9_eats_0 (by decide) ?_
  exact zc_iretK (pc := 1) dX9_eats_1 rfl ⟨_, rfl, rfl⟩
def zf_X9_wayOf (x1 : Int32) (x2 : Int32) (x3 : Int32) (x4 : Int32) : Option Int32 :=
  some x1
set_option maxRecDepth 100000 in
set_option maxHeartbeats 4000000 in
theorem zt_X9_wayOf {ci : Nat} {vc : vw_C} (a : Nat) (ha : zc_lay[a]? = some (ci, 0)) (hci : ci < 12) (hvc : vwCl[ci]? = some vc) (x1 : Int32) (x2 : Int32) (x3 : Int32) (x4 : Int32) (h : zHp) {r : Int32} (hr : (zf_X9_wayOf x1 x2 x3 x4) = some r) : zc_Cn zM_X9_wayOf [.ref a, .int x1, .int x2, .int x3, .int x4] h ((fun r => zc_mI (r, h)) r) := by
  refine zc_meth (mk := (fun r => zc_mI (r, h))) (o := (zf_X9_wayOf x1 x2 x3 x4)) (by decide +kernel) (Nat.le_of_ble_eq_true rfl) ?_ hr
  unfold zf_X9_wayOf
  refine zc_sL (ls1 := [some (.ref a), some (.int x1), some (.int x2), some (.int x3), some (.int x4)]) rfl ?_
  refine zc_iload_n (pc := 0) dX9_wayOf_0 rfl rfl ?_
  exact zc_iretK (pc := 1) dX9_wayOf_1 rfl ⟨_, rfl, rfl⟩
def zf_X9_nodsToHim : Option Int32 :=
  some (1 : Int32)
set_option maxRecDepth 100000 in
set_option maxHeartbeats 4000000 in
theorem zt_X9_nodsToHim {ci : Nat} {vc : vw_C} (a : Nat) (ha : zc_lay[a]? = some (ci, 0)) (hci : ci < 12) (hvc : vwCl[ci]? = some vc) (h : zHp) {r : Int32} (hr : zf_X9_nodsToHim = some r) : zc_Cn zM_X9_nodsToHim [.ref a] h ((fun r => zc_mI (r, h)) r) := by
  refine zc_meth (mk := (fun r => zc_mI (r, h))) (o := zf_X9_nodsToHim) (by decide +kernel) (Nat.le_of_ble_eq_true rfl) ?_ hr
  unfold zf_X9_nodsToHim
  refine zc_sL (ls1 := [some (.ref a)]) rfl ?_
  refine zc_iconst (pc := 0) (1 : Int32) dX9_nodsToHim_0 (by decide) ?_
  exact zc_zretK (pc := 1) dX9_nodsToHim_1 rfl (by decide) ⟨_, rfl, rfl⟩
def zv_brings (j : Nat) (x1 : Int32) : Option Int32 := match j with
  | 0 => zf_X9_brings x1
  | 1 => zf_X1_brings x1
  | 2 => zf_X3_brings x1
  | 3 => zf_X3_brings x1
  | 4 => zf_X2_brings x1
  | 5 => zf_X6_brings x1
  | 6 => zf_X0_brings x1
  | 7 => zf_X3_brings x1
  | _ => none
def zv_costs (j : Nat) (x1 : Int32) : Option Int32 := match j with
  | 0 => zf_X9_costs x1
  | 1 => zf_X1_costs x1
  | 2 => zf_X3_costs x1
  | 3 => zf_X4_costs x1
  | 4 => zf_X2_costs x1
  | 5 => zf_X6_costs x1
  | 6 => zf_X0_costs x1
  | 7 => zf_X5_costs x1
  | _ => none
def zv_eats (j : Nat) (x1 : Int32) : Option Int32 := match j with
  | 0 => zf_X9_eats x1
  | 1 => zf_X1_eats x1
  | 2 => zf_X3_eats x1
  | 3 => zf_X4_eats x1
  | 4 => zf_X2_eats x1
  | 5 => zf_X6_eats x1
  | 6 => zf_X0_eats x1
  | 7 => zf_X5_eats x1
  | _ => none
def zv_goesFar (j : Nat) (x1 : Int32) : Option Int32 := match j with
  | 0 => zf_X9_goesFar x1
  | 1 => zf_X1_goesFar x1
  | 2 => zf_X3_goesFar x1
  | 3 => zf_X4_goesFar x1
  | 4 => zf_X2_goesFar x1
  | 5 => zf_X6_goesFar x1
  | 6 => zf_X0_goesFar x1
  | 7 => zf_X5_goesFar x1
  | _ => none
def zv_nodsToHim (j : Nat) : Option Int32 := match j with
  | 0 => zf_X9_nodsToHim
  | 1 => zf_X9_nodsToHim
  | 2 => zf_X3_nodsToHim
  | 3 => zf_X3_nodsToHim
  | 4 => zf_X9_nodsToHim
  | 5 => zf_X9_nodsToHim
  | 6 => zf_X9_nodsToHim
  | 7 => zf_X3_nodsToHim
  | _ => none
def zv_wayOf (j : Nat) (x1 x2 x3 x4 : Int32) : Option Int32 := match j with
  | 0 => zf_X9_wayOf x1 x2 x3 x4
  | 1 => zf_X1_wayOf x1 x2 x3 x4
  | 2 => zf_X3_wayOf x1 x2 x3 x4
  | 3 => zf_X4_wayOf x1 x2 x3 x4
  | 4 => zf_X2_wayOf x1 x2 x3 x4
  | 5 => zf_X6_wayOf x1 x2 x3 x4
  | 6 => zf_X0_wayOf x1 x2 x3 x4
  | 7 => zf_X3_wayOf x1 x2 x3 x4
  | _ => none

def zl_X10_matchedSource_4 (x1 : Int32) (h : zHp) : Nat → Int32 → Int32 → Option (Int32 ⊕ Unit)
  | 0, _, _ => none
  | fu + 1, y1, y2 => (if (h.1 16 9) ≤ y2 then some (Sum.inr ()) else ((zf_X10_firstBestSource y2 y1 h).bind (fun r3 => (if y2 = x1 then some (Sum.inl r3) else ((some (y1 ||| ((1 : Int32) <<< (r3 &&& 31))) : Option Int32).bind (fun v4 => zl_X10_matchedSource_4 x1 h fu v4 (y2 + (1 : Int32))))))))
def zf_X10_matchedSource (x1 : Int32) (h : zHp) : Option Int32 :=
  ((zl_X10_matchedSource_4 x1 h zFU (0 : Int32) (0 : Int32)).bind (Sum.elim (fun r => some r) (fun v5 => some (-4 : Int32))))
set_option maxRecDepth 100000 in
set_option maxHeartbeats 4000000 in
theorem zt_X10_matchedSource (x1 : Int32) (h : zHp) {r : Int32} (hr : (zf_X10_matchedSource x1 h) = some r) : zc_Cn zM_X10_matchedSource [.ref 0, .int x1] h ((fun r => zc_mI (r, h)) r) := by
  refine zc_meth (mk := (fun r => zc_mI (r, h))) (o := (zf_X10_matchedSource x1 h)) (by decide +kernel) (Nat.le_of_ble_eq_true rfl) ?_ hr
  unfold zf_X10_matchedSource
  refine zc_sL (ls1 := [some (.ref 0), some (.int x1), none, none, none]) rfl ?_
  refine zc_iconst (pc := 0) (0 : Int32) dX10_matchedSource_0 (by decide) ?_
  refine zc_istore_n (pc := 1) dX10_matchedSource_1 rfl (Nat.le_of_ble_eq_true rfl) rfl (Nat.le_of_ble_eq_true rfl) ?_
  refine zc_sL (ls1 := [some (.ref 0), some (.int x1), some (.int (0 : Int32)), none, none]) rfl ?_
  refine zc_iconst (pc := 2) (0 : Int32) dX10_matchedSource_2 (by decide) ?_
  refine zc_istore_n (pc := 3) dX10_matchedSource_3 rfl (Nat.le_of_ble_eq_true rfl) rfl (Nat.le_of_ble_eq_true rfl) ?_
  refine zc_sL (ls1 := [some (.ref 0), some (.int x1), some (.int (0 : Int32)), some (.int (0 : Int32)), none]) rfl ?_
  refine zc_sL (ls1 := [some (.ref 0), some (.int x1), some (.int (0 : Int32)), some (.int (0 : Int32)), none]) rfl ?_
  refine zc_loopS (fun r => zc_mI (r, h)) 44 (fun v5 => [none, none, none, none, none]) (fun v5 => []) (fun v5 => h) (fun v5 => ?_) (fun z => ⟨_, rfl, rfl⟩) (fun k7 J6 K8 => ?_)
  · refine zc_bipush (pc := 44) (-4 : Int32) dX10_matchedSource_44 (by decide) ?_
    exact zc_iretK (pc := 46) dX10_matchedSource_46 rfl ⟨_, rfl, rfl⟩
  · have L9 : ∀ (fu : Nat) (y1 : Int32) (y2 : Int32), zc_G zM_X10_matchedSource (fun r => zc_mI (r, h)) 4 [some (.ref 0), some (.int x1), some (.int y1), some (.int y2), none] [] h ((zl_X10_matchedSource_4 x1 h fu y1 y2).bind k7) := by
        intro fu
        induction fu with
        | zero => intros; exact zc_noneb
        | succ fu ih10 =>
          intro y1 y2
          unfold zl_X10_matchedSource_4
          refine zc_iload_n (pc := 4) dX10_matchedSource_4 rfl rfl ?_
          refine zc_aload_n (pc := 5) dX10_matchedSource_5 rfl rfl ?_
          refine zc_getC (pc := 6) zF_X10_62 rfl dX10_matchedSource_6 ?_
          refine zc_getI (pc := 9) zF_X10_152 rfl dX10_matchedSource_9 ?_
          refine zc_icmp_ge (pc := 12) 44 dX10_matchedSource_12 (by decide) (fun _ => ?_) (fun _ => ?_)
          · refine zc_drop 0 ?_
            refine zc_drop 1 ?_
            refine zc_drop 2 ?_
            refine zc_drop 3 ?_
            exact J6 ()
          · refine zc_aload_n (pc := 15) dX10_matchedSource_15 rfl rfl ?_
            refine zc_iload_n (pc := 16) dX10_matchedSource_16 rfl rfl ?_
            refine zc_iload_n (pc := 17) dX10_matchedSource_17 rfl rfl ?_
            refine zc_callIp (pc := 18) [.ref 0, .int y2, .int y1] rfl (zc_runV (ci := 10) (n0 := 0) (q := (RX10, TX10, 12)) zo_X10_firstBestSource ⟨Nat.le_of_ble_eq_true rfl, Nat.le_of_ble_eq_true rfl⟩ zw_607 zw_609 zs_9 rfl (by decide) rfl rfl dX10_matchedSource_18) (Nat.le_of_ble_eq_true rfl) (fun _ hr => zt_X10_firstBestSource y2 y1 h hr) (fun r3 => ?_)
            refine zc_istore (pc := 21) dX10_matchedSource_21 (Nat.le_of_ble_eq_true rfl) rfl (Nat.le_of_ble_eq_true rfl) ?_
            refine zc_sL (ls1 := [some (.ref 0), some (.int x1), some (.int y1), some (.int y2), some (.int r3)]) rfl ?_
            refine zc_iload_n (pc := 23) dX10_matchedSource_23 rfl rfl ?_
            refine zc_iload_n (pc := 24) dX10_matchedSource_24 rfl rfl ?_
            refine zc_icmp_ne (pc := 25) 31 dX10_matchedSource_25 (by decide) (fun _ => ?_) (fun _ => ?_)
            · refine zc_iload (pc := 28) dX10_matchedSource_28 rfl ?_
              exact zc_iretK (pc := 30) dX10_matchedSource_30 rfl (K8 _)
            · refine zc_iload_n (pc := 31) dX10_matchedSource_31 rfl rfl ?_
              refine zc_iconst (pc := 32) (1 : Int32) dX10_matchedSource_32 (by decide) ?_
              refine zc_iload (pc := 33) dX10_matchedSource_33 rfl ?_
              refine zc_ishl (pc := 35) dX10_matchedSource_35 ?_
              refine zc_ior (pc := 36) dX10_matchedSource_36 ?_
              refine zc_letI (fun v4 _ => ?_)
              refine zc_istore_n (pc := 37) dX10_matchedSource_37 rfl (Nat.le_of_ble_eq_true rfl) rfl (Nat.le_of_ble_eq_true rfl) ?_
              refine zc_sL (ls1 := [some (.ref 0), some (.int x1), some (.int v4), some (.int y2), some (.int r3)]) rfl ?_
              refine zc_iinc (pc := 38) (1 : Int32) dX10_matchedSource_38 (by decide) rfl (Nat.le_of_ble_eq_true rfl) rfl ?_
              refine zc_sL (ls1 := [some (.ref 0), some (.int x1), some (.int v4), some (.int (y2 + (1 : Int32))), some (.int r3)]) rfl ?_
              refine zc_goto (pc := 41) 4 dX10_matchedSource_41 (by decide) ?_
              refine zc_drop 4 ?_
              exact ih10 v4 (y2 + (1 : Int32))
    exact L9 zFU (0 : Int32) (0 : Int32)
def zf_X10_match (x1 : Int32) (h : zHp) : Option (Int32 × zHp) :=
  (if x1 < (-1 : Int32) then some ((-1 : Int32), h) else (if x1 < (h.1 16 9) then (if (2 : Int32) ≤ (h.1 16 9) then ((zf_X10_measureWaysBetween h).bind (fun r1 => ((zf_X10_measureLeastRests r1).bind (fun r2 => (if x1 = (-1 : Int32) then some ((r2.1 2 (0 : Int32).toNatClampNeg), r2) else ((zf_X10_matchedSource x1 r2).bind (fun r3 => some (r3, r2)))))))) else some ((-4 : Int32), h)) else some ((-1 : Int32), h)))
set_option maxRecDepth 100000 in
set_option maxHeartbeats 4000000 in
theorem zt_X10_match (x1 : Int32) (h : zHp) {r : (Int32 × zHp)} (hr : (zf_X10_match x1 h) = some r) : zc_Cn zM_X10_match [.ref 0, .int x1] h (zc_mI r) := by
  refine zc_meth (mk := zc_mI) (o := (zf_X10_match x1 h)) (by decide +kernel) (Nat.le_of_ble_eq_true rfl) ?_ hr
  unfold zf_X10_match
  refine zc_sL (ls1 := [some (.ref 0), some (.int x1)]) rfl ?_
  refine zc_iload_n (pc := 0) dX10_match_0 rfl rfl ?_
  refine zc_iconst (pc := 1) (-1 : Int32) dX10_match_1 (by decide) ?_
  refine zc_icmp_lt (pc := 2) 16 dX10_match_2 (by decide) (fun _ => ?_) (fun _ => ?_)
  · refine zc_iconst (pc := 16) (-1 : Int32) dX10_match_16 (by decide) ?_
    exact zc_iretK (pc := 17) dX10_match_17 rfl ⟨_, rfl, rfl⟩
  · refine zc_iload_n (pc := 5) dX10_match_5 rfl rfl ?_
    refine zc_aload_n (pc := 6) dX10_match_6 rfl rfl ?_
    refine zc_getC (pc := 7) zF_X10_62 rfl dX10_match_7 ?_
    refine zc_getI (pc := 10) zF_X10_152 rfl dX10_match_10 ?_
    refine zc_icmp_lt (pc := 13) 18 dX10_match_13 (by decide) (fun _ => ?_) (fun _ => ?_)
    · refine zc_aload_n (pc := 18) dX10_match_18 rfl rfl ?_
      refine zc_getC (pc := 19) zF_X10_62 rfl dX10_match_19 ?_
      refine zc_getI (pc := 22) zF_X10_152 rfl dX10_match_22 ?_
      refine zc_iconst (pc := 25) (2 : Int32) dX10_match_25 (by decide) ?_
      refine zc_icmp_ge (pc := 26) 32 dX10_match_26 (by decide) (fun _ => ?_) (fun _ => ?_)
      · refine zc_aload_n (pc := 32) dX10_match_32 rfl rfl ?_
        refine zc_callV (pc := 33) [.ref 0] rfl (zc_runV (ci := 10) (n0 := 0) (q := (RX10, TX10, 12)) zo_X10_measureWaysBetween ⟨Nat.le_of_ble_eq_true rfl, Nat.le_of_ble_eq_true rfl⟩ zw_581 zw_583 zs_5 rfl (by decide) rfl rfl dX10_match_33) (Nat.le_of_ble_eq_true rfl) (fun _ hr => zt_X10_measureWaysBetween h hr) (fun r1 => ?_)
        refine zc_aload_n (pc := 36) dX10_match_36 rfl rfl ?_
        refine zc_callV (pc := 37) [.ref 0] rfl (zc_runV (ci := 10) (n0 := 0) (q := (RX10, TX10, 12)) zo_X10_measureLeastRests ⟨Nat.le_of_ble_eq_true rfl, Nat.le_of_ble_eq_true rfl⟩ zw_585 zw_587 zs_6 rfl (by decide) rfl rfl dX10_match_37) (Nat.le_of_ble_eq_true rfl) (fun _ hr => zt_X10_measureLeastRests r1 hr) (fun r2 => ?_)
        refine zc_iload_n (pc := 40) dX10_match_40 rfl rfl ?_
        refine zc_iconst (pc := 41) (-1 : Int32) dX10_match_41 (by decide) ?_
        refine zc_icmp_ne (pc := 42) 54 dX10_match_42 (by decide) (fun _ => ?_) (fun _ => ?_)
        · refine zc_aload_n (pc := 45) dX10_match_45 rfl rfl ?_
          refine zc_getC (pc := 46) zF_X10_13 rfl dX10_match_46 ?_
          refine zc_iconst (pc := 49) (0 : Int32) dX10_match_49 (by decide) ?_
          refine zc_aldi (pc := 50) rfl (by decide) dX10_match_50 ?_
          refine zc_goto (pc := 51) 59 dX10_match_51 (by decide) ?_
          exact zc_iretK (pc := 59) dX10_match_59 rfl ⟨_, rfl, rfl⟩
        · refine zc_aload_n (pc := 54) dX10_match_54 rfl rfl ?_
          refine zc_iload_n (pc := 55) dX10_match_55 rfl rfl ?_
          refine zc_callIp (pc := 56) [.ref 0, .int x1] rfl (zc_runV (ci := 10) (n0 := 0) (q := (RX10, TX10, 12)) zo_X10_matchedSource ⟨Nat.le_of_ble_eq_true rfl, Nat.le_of_ble_eq_true rfl⟩ zw_603 zw_605 zs_8 rfl (by decide) rfl rfl dX10_match_56) (Nat.le_of_ble_eq_true rfl) (fun _ hr => zt_X10_matchedSource x1 r2 hr) (fun r3 => ?_)
          exact zc_iretK (pc := 59) dX10_match_59 rfl ⟨_, rfl, rfl⟩
      · refine zc_bipush (pc := 29) (-4 : Int32) dX10_match_29 (by decide) ?_
        exact zc_iretK (pc := 31) dX10_match_31 rfl ⟨_, rfl, rfl⟩
    · refine zc_iconst (pc := 16) (-1 : Int32) dX10_match_16 (by decide) ?_
      exact zc_iretK (pc := 17) dX10_match_17 rfl ⟨_, rfl, rfl⟩
def zl_X10_feed_42 (x1 : Int32) : Nat → Int32 → Int32 → Int32 → zHp → Option (Int32 × zHp)
  | 0, _, _, _, _ => none
  | fu + 1, y5, y6, y7, h8 => (if (h8.1 16 9) ≤ y7 then some (y6, h8) else ((zf_X7_become 25 16 h8).bind (fun r9 => (if zc_ix y7 7 then ((some (if ((r9.1 (25 + 5) y7.toNatClampNeg) + (20 : Int32)) < (99 : Int32) then ((r9.1 (25 + 5) y7.toNatClampNeg) + (20 : Int32)) else (99 : Int32)) : Option Int32).bind (fun v11 => (if zc_ix y7 7 then ((some (zc_ui r9 (25 + 5) y7.toNatClampNeg v11) : Option zHp).bind (fun h13 => ((zf_X7_goDays 25 x1 h13).bind (fun r14 => ((zf_X7_allHungry 25 r14).bind (fun r15 => (if y5 ≤ r15 then zl_X10_feed_42 x1 fu y5 y6 (y7 + (1 : Int32)) r14 else zl_X10_feed_42 x1 fu r15 y7 (y7 + (1 : Int32)) r14))))))) else none))) else none))))
def zf_X10_feed (x1 : Int32) (h : zHp) : Option (Int32 × zHp) :=
  ((zf_X10_isDaysOn x1).bind (fun r1 => (if r1 = 0 then some ((-1 : Int32), h) else ((zf_X7_become 25 16 h).bind (fun r2 => ((zf_X7_goDays 25 x1 r2).bind (fun r3 => ((zf_X7_allHungry 25 r3).bind (fun r4 => ((zl_X10_feed_42 x1 zFU r4 (-4 : Int32) (0 : Int32) r3).bind (fun v16 => some (v16.1, v16.2))))))))))))
set_option maxRecDepth 100000 in
set_option maxHeartbeats 4000000 in
theorem zt_X10_feed (x1 : Int32) (h : zHp) {r : (Int32 × zHp)} (hr : (zf_X10_feed x1 h) = some r) : zc_Cn zM_X10_feed [.ref 0, .int x1] h (zc_mI r) := by
  refine zc_meth (mk := zc_mI) (o := (zf_X10_feed x1 h)) (by decide +kernel) (Nat.le_of_ble_eq_true rfl) ?_ hr
  unfold zf_X10_feed
  refine zc_sL (ls1 := [some (.ref 0), some (.int x1), none, none, none, none]) rfl ?_
  refine zc_iload_n (pc := 0) dX10_feed_0 rfl rfl ?_
  refine zc_callIp (pc := 1) [.int x1] rfl (zc_runS zo_X10_isDaysOn ⟨Nat.le_of_ble_eq_true rfl, Nat.le_of_ble_eq_true rfl⟩ zw_518 zw_519 rfl dX10_feed_1) (Nat.le_of_ble_eq_true rfl) (fun _ hr => zt_X10_isDaysOn x1 h hr) (fun r1 => ?_)
  refine zc_if_ne (pc := 4) 9 dX10_feed_4 (by decide) (fun _ => ?_) (fun _ => ?_)
  · refine zc_iconst (pc := 7) (-1 : Int32) dX10_feed_7 (by decide) ?_
    exact zc_iretK (pc := 8) dX10_feed_8 rfl ⟨_, rfl, rfl⟩
  · refine zc_aload_n (pc := 9) dX10_feed_9 rfl rfl ?_
    refine zc_getC (pc := 10) zF_X10_66 rfl dX10_feed_10 ?_
    refine zc_aload_n (pc := 13) dX10_feed_13 rfl rfl ?_
    refine zc_getC (pc := 14) zF_X10_62 rfl dX10_feed_14 ?_
    refine zc_callV (pc := 17) [.ref 25, .ref 16] rfl (zc_runV (ci := 7) (n0 := 0) (q := (RX7, TX7, 15)) zo_X7_become ⟨Nat.le_of_ble_eq_true rfl, Nat.le_of_ble_eq_true rfl⟩ zw_244 zw_245 zw_246 rfl (by decide) rfl rfl dX10_feed_17) (Nat.le_of_ble_eq_true rfl) (fun _ hr => zt_X7_become 25 rfl 16 rfl h hr) (fun r2 => ?_)
    refine zc_aload_n (pc := 20) dX10_feed_20 rfl rfl ?_
    refine zc_getC (pc := 21) zF_X10_66 rfl dX10_feed_21 ?_
    refine zc_iload_n (pc := 24) dX10_feed_24 rfl rfl ?_
    refine zc_callV (pc := 25) [.ref 25, .int x1] rfl (zc_runV (ci := 7) (n0 := 0) (q := (RX7, TX7, 15)) zo_X7_goDays ⟨Nat.le_of_ble_eq_true rfl, Nat.le_of_ble_eq_true rfl⟩ zw_390 zw_391 zw_392 rfl (by decide) rfl rfl dX10_feed_25) (Nat.le_of_ble_eq_true rfl) (fun _ hr => zt_X7_goDays 25 rfl x1 r2 hr) (fun r3 => ?_)
    refine zc_aload_n (pc := 28) dX10_feed_28 rfl rfl ?_
    refine zc_getC (pc := 29) zF_X10_66 rfl dX10_feed_29 ?_
    refine zc_callIp (pc := 32) [.ref 25] rfl (zc_runV (ci := 7) (n0 := 0) (q := (RX7, TX7, 15)) zo_X7_allHungry ⟨Nat.le_of_ble_eq_true rfl, Nat.le_of_ble_eq_true rfl⟩ zw_615 zw_616 zw_617 rfl (by decide) rfl rfl dX10_feed_32) (Nat.le_of_ble_eq_true rfl) (fun _ hr => zt_X7_allHungry 25 rfl r3 hr) (fun r4 => ?_)
    refine zc_istore_n (pc := 35) dX10_feed_35 rfl (Nat.le_of_ble_eq_true rfl) rfl (Nat.le_of_ble_eq_true rfl) ?_
    refine zc_sL (ls1 := [some (.ref 0), some (.int x1), some (.int r4), none, none, none]) rfl ?_
    refine zc_bipush (pc := 36) (-4 : Int32) dX10_feed_36 (by decide) ?_
    refine zc_istore_n (pc := 38) dX10_feed_38 rfl (Nat.le_of_ble_eq_true rfl) rfl (Nat.le_of_ble_eq_true rfl) ?_
    refine zc_sL (ls1 := [some (.ref 0), some (.int x1), some (.int r4), some (.int (-4 : Int32)), none, none]) rfl ?_
    refine zc_iconst (pc := 39) (0 : Int32) dX10_feed_39 (by decide) ?_
    refine zc_istore (pc := 40) dX10_feed_40 (Nat.le_of_ble_eq_true rfl) rfl (Nat.le_of_ble_eq_true rfl) ?_
    refine zc_sL (ls1 := [some (.ref 0), some (.int x1), some (.int r4), some (.int (-4 : Int32)), some (.int (0 : Int32)), none]) rfl ?_
    refine zc_sL (ls1 := [some (.ref 0), some (.int x1), some (.int r4), some (.int (-4 : Int32)), some (.int (0 : Int32)), none]) rfl ?_
    refine zc_loop 128 (fun v16 => [none, none, none, some (.int v16.1), none, none]) (fun v16 => []) (fun v16 => v16.2) (fun v16 => ?_) (fun k18 J17 => ?_)
    · refine zc_iload_n (pc := 128) dX10_feed_128 rfl rfl ?_
      exact zc_iretK (pc := 129) dX10_feed_129 rfl ⟨_, rfl, rfl⟩
    · have L20 : ∀ (fu : Nat) (y5 : Int32) (y6 : Int32) (y7 : Int32) (h8 : zHp), zc_G zM_X10_feed zc_mI 42 [some (.ref 0), some (.int x1), some (.int y5), some (.int y6), some (.int y7), none] [] h8 ((zl_X10_feed_42 x1 fu y5 y6 y7 h8).bind k18) := by
          intro fu
          induction fu with
          | zero => intros; exact zc_noneb
          | succ fu ih21 =>
            intro y5 y6 y7 h8
            unfold zl_X10_feed_42
            refine zc_iload (pc := 42) dX10_feed_42 rfl ?_
            refine zc_aload_n (pc := 44) dX10_feed_44 rfl rfl ?_
            refine zc_getC (pc := 45) zF_X10_62 rfl dX10_feed_45 ?_
            refine zc_getI (pc := 48) zF_X10_152 rfl dX10_feed_48 ?_
            refine zc_icmp_ge (pc := 51) 128 dX10_feed_51 (by decide) (fun _ => ?_) (fun _ => ?_)
            · refine zc_drop 0 ?_
              refine zc_drop 1 ?_
              refine zc_drop 2 ?_
              refine zc_drop 4 ?_
              exact J17 (y6, h8)
            · refine zc_aload_n (pc := 54) dX10_feed_54 rfl rfl ?_
              refine zc_getC (pc := 55) zF_X10_66 rfl dX10_feed_55 ?_
              refine zc_aload_n (pc := 58) dX10_feed_58 rfl rfl ?_
              refine zc_getC (pc := 59) zF_X10_62 rfl dX10_feed_59 ?_
              refine zc_callV (pc := 62) [.ref 25, .ref 16] rfl (zc_runV (ci := 7) (n0 := 0) (q := (RX7, TX7, 15)) zo_X7_become ⟨Nat.le_of_ble_eq_true rfl, Nat.le_of_ble_eq_true rfl⟩ zw_244 zw_245 zw_246 rfl (by decide) rfl rfl dX10_feed_62) (Nat.le_of_ble_eq_true rfl) (fun _ hr => zt_X7_become 25 rfl 16 rfl h8 hr) (fun r9 => ?_)
              refine zc_aload_n (pc := 65) dX10_feed_65 rfl rfl ?_
              refine zc_getC (pc := 66) zF_X10_66 rfl dX10_feed_66 ?_
              refine zc_getO (pc := 69) zF_X10_124 rfl dX10_feed_69 ?_
              refine zc_iload (pc := 72) dX10_feed_72 rfl ?_
              refine zc_bipush (pc := 74) (99 : Int32) dX10_feed_74 (by decide) ?_
              refine zc_aload_n (pc := 76) dX10_feed_76 rfl rfl ?_
              refine zc_getC (pc := 77) zF_X10_66 rfl dX10_feed_77 ?_
              refine zc_getO (pc := 80) zF_X10_124 rfl dX10_feed_80 ?_
              refine zc_iload (pc := 83) dX10_feed_83 rfl ?_
              refine zc_guard (fun g10 => ?_)
              refine zc_aldi (pc := 85) rfl g10 dX10_feed_85 ?_
              refine zc_bipush (pc := 86) (20 : Int32) dX10_feed_86 (by decide) ?_
              refine zc_iadd (pc := 88) dX10_feed_88 ?_
              refine zc_mmin (pc := 89) zw_602 zw_mmin_s zw_14 zw_mmin_c (Nat.le_of_ble_eq_true rfl) ⟨Nat.le_of_ble_eq_true rfl, Nat.le_of_ble_eq_true rfl⟩ dX10_feed_89 ?_
              refine zc_letI (fun v11 _ => ?_)
              refine zc_guard (fun g12 => ?_)
              refine zc_asti (pc := 92) rfl g12 dX10_feed_92 ?_
              refine zc_letH (fun h13 _ => ?_)
              refine zc_aload_n (pc := 93) dX10_feed_93 rfl rfl ?_
              refine zc_getC (pc := 94) zF_X10_66 rfl dX10_feed_94 ?_
              refine zc_iload_n (pc := 97) dX10_feed_97 rfl rfl ?_
              refine zc_callV (pc := 98) [.ref 25, .int x1] rfl (zc_runV (ci := 7) (n0 := 0) (q := (RX7, TX7, 15)) zo_X7_goDays ⟨Nat.le_of_ble_eq_true rfl, Nat.le_of_ble_eq_true rfl⟩ zw_390 zw_391 zw_392 rfl (by decide) rfl rfl dX10_feed_98) (Nat.le_of_ble_eq_true rfl) (fun _ hr => zt_X7_goDays 25 rfl x1 h13 hr) (fun r14 => ?_)
              refine zc_aload_n (pc := 101) dX10_feed_101 rfl rfl ?_
              refine zc_getC (pc := 102) zF_X10_66 rfl dX10_feed_102 ?_
              refine zc_callIp (pc := 105) [.ref 25] rfl (zc_runV (ci := 7) (n0 := 0) (q := (RX7, TX7, 15)) zo_X7_allHungry ⟨Nat.le_of_ble_eq_true rfl, Nat.le_of_ble_eq_true rfl⟩ zw_615 zw_616 zw_617 rfl (by decide) rfl rfl dX10_feed_105) (Nat.le_of_ble_eq_true rfl) (fun _ hr => zt_X7_allHungry 25 rfl r14 hr) (fun r15 => ?_)
              refine zc_istore (pc := 108) dX10_feed_108 (Nat.le_of_ble_eq_true rfl) rfl (Nat.le_of_ble_eq_true rfl) ?_
              refine zc_sL (ls1 := [some (.ref 0), some (.int x1), some (.int y5), some (.int y6), some (.int y7), some (.int r15)]) rfl ?_
              refine zc_iload (pc := 110) dX10_feed_110 rfl ?_
              refine zc_iload_n (pc := 112) dX10_feed_112 rfl rfl ?_
              refine zc_icmp_ge (pc := 113) 122 dX10_feed_113 (by decide) (fun _ => ?_) (fun _ => ?_)
              · refine zc_iinc (pc := 122) (1 : Int32) dX10_feed_122 (by decide) rfl (Nat.le_of_ble_eq_true rfl) rfl ?_
                refine zc_sL (ls1 := [some (.ref 0), some (.int x1), some (.int y5), some (.int y6), some (.int (y7 + (1 : Int32))), some (.int r15)]) rfl ?_
                refine zc_goto (pc := 125) 42 dX10_feed_125 (by decide) ?_
                refine zc_drop 5 ?_
                exact ih21 y5 y6 (y7 + (1 : Int32)) r14
              · refine zc_iload (pc := 116) dX10_feed_116 rfl ?_
                refine zc_istore_n (pc := 118) dX10_feed_118 rfl (Nat.le_of_ble_eq_true rfl) rfl (Nat.le_of_ble_eq_true rfl) ?_
                refine zc_sL (ls1 := [some (.ref 0), some (.int x1), some (.int r15), some (.int y6), some (.int y7), some (.int r15)]) rfl ?_
                refine zc_iload (pc := 119) dX10_feed_119 rfl ?_
                refine zc_istore_n (pc := 121) dX10_feed_121 rfl (Nat.le_of_ble_eq_true rfl) rfl (Nat.le_of_ble_eq_true rfl) ?_
                refine zc_sL (ls1 := [some (.ref 0), some (.int x1), some (.int r15), some (.int y7), some (.int y7), some (.int r15)]) rfl ?_
                refine zc_iinc (pc := 122) (1 : Int32) dX10_feed_122 (by decide) rfl (Nat.le_of_ble_eq_true rfl) rfl ?_
                refine zc_sL (ls1 := [some (.ref 0), some (.int x1), some (.int r15), some (.int y7), some (.int (y7 + (1 : Int32))), some (.int r15)]) rfl ?_
                refine zc_goto (pc := 125) 42 dX10_feed_125 (by decide) ?_
                refine zc_drop 5 ?_
                exact ih21 r15 y7 (y7 + (1 : Int32)) r14
      exact L20 zFU r4 (-4 : Int32) (0 : Int32) r3
def zl_X10_shade_16 (x1 : Int32) (h : zHp) : Nat → Int32 → Int32 → Option Int32
  | 0, _, _ => none
  | fu + 1, y1, y2 => (if (h.1 16 9) ≤ y2 then some y1 else (if zc_ix y2 7 then ((zf_X10_far (h.1 (16 + 3) y2.toNatClampNeg) (h.1 16 10)).bind (fun r4 => (if x1 < r4 then zl_X10_shade_16 x1 h fu y1 (y2 + (1 : Int32)) else ((some (y1 ||| ((1 : Int32) <<< (y2 &&& 31))) : Option Int32).bind (fun v5 => zl_X10_shade_16 x1 h fu v5 (y2 + (1 : Int32))))))) else none))
def zf_X10_shade (x1 : Int32) (h : zHp) : Option Int32 :=
  (if x1 < 0 then some (-1 : Int32) else (if x1 ≤ (6 : Int32) then ((zl_X10_shade_16 x1 h zFU (0 : Int32) (0 : Int32)).bind (fun v6 => some v6)) else some (-1 : Int32)))
set_option maxRecDepth 100000 in
set_option maxHeartbeats 4000000 in
theorem zt_X10_shade (x1 : Int32) (h : zHp) {r : Int32} (hr : (zf_X10_shade x1 h) = some r) : zc_Cn zM_X10_shade [.ref 0, .int x1] h ((fun r => zc_mI (r, h)) r) := by
  refine zc_meth (mk := (fun r => zc_mI (r, h))) (o := (zf_X10_shade x1 h)) (by decide +kernel) (Nat.le_of_ble_eq_true rfl) ?_ hr
  unfold zf_X10_shade
  refine zc_sL (ls1 := [some (.ref 0), some (.int x1), none, none]) rfl ?_
  refine zc_iload_n (pc := 0) dX10_shade_0 rfl rfl ?_
  refine zc_if_lt (pc := 1) 10 dX10_shade_1 (by decide) (fun _ => ?_) (fun _ => ?_)
  · refine zc_iconst (pc := 10) (-1 : Int32) dX10_shade_10 (by decide) ?_
    exact zc_iretK (pc := 11) dX10_shade_11 rfl ⟨_, rfl, rfl⟩
  · refine zc_iload_n (pc := 4) dX10_shade_4 rfl rfl ?_
    refine zc_bipush (pc := 5) (6 : Int32) dX10_shade_5 (by decide) ?_
    refine zc_icmp_le (pc := 7) 12 dX10_shade_7 (by decide) (fun _ => ?_) (fun _ => ?_)
    · refine zc_iconst (pc := 12) (0 : Int32) dX10_shade_12 (by decide) ?_
      refine zc_istore_n (pc := 13) dX10_shade_13 rfl (Nat.le_of_ble_eq_true rfl) rfl (Nat.le_of_ble_eq_true rfl) ?_
      refine zc_sL (ls1 := [some (.ref 0), some (.int x1), some (.int (0 : Int32)), none]) rfl ?_
      refine zc_iconst (pc := 14) (0 : Int32) dX10_shade_14 (by decide) ?_
      refine zc_istore_n (pc := 15) dX10_shade_15 rfl (Nat.le_of_ble_eq_true rfl) rfl (Nat.le_of_ble_eq_true rfl) ?_
      refine zc_sL (ls1 := [some (.ref 0), some (.int x1), some (.int (0 : Int32)), some (.int (0 : Int32))]) rfl ?_
      refine zc_sL (ls1 := [some (.ref 0), some (.int x1), some (.int (0 : Int32)), some (.int (0 : Int32))]) rfl ?_
      refine zc_loop 62 (fun v6 => [none, none, some (.int v6), none]) (fun v6 => []) (fun v6 => h) (fun v6 => ?_) (fun k8 J7 => ?_)
      · refine zc_iload_n (pc := 62) dX10_shade_62 rfl rfl ?_
        exact zc_iretK (pc := 63) dX10_shade_63 rfl ⟨_, rfl, rfl⟩
      · have L10 : ∀ (fu : Nat) (y1 : Int32) (y2 : Int32), zc_G zM_X10_shade (fun r => zc_mI (r, h)) 16 [some (.ref 0), some (.int x1), some (.int y1), some (.int y2)] [] h ((zl_X10_shade_16 x1 h fu y1 y2).bind k8) := by
            intro fu
            induction fu with
            | zero => intros; exact zc_noneb
            | succ fu ih11 =>
              intro y1 y2
              unfold zl_X10_shade_16
              refine zc_iload_n (pc := 16) dX10_shade_16 rfl rfl ?_
              refine zc_aload_n (pc := 17) dX10_shade_17 rfl rfl ?_
              refine zc_getC (pc := 18) zF_X10_62 rfl dX10_shade_18 ?_
              refine zc_getI (pc := 21) zF_X10_152 rfl dX10_shade_21 ?_
              refine zc_icmp_ge (pc := 24) 62 dX10_shade_24 (by decide) (fun _ => ?_) (fun _ => ?_)
              · refine zc_drop 0 ?_
                refine zc_drop 1 ?_
                refine zc_drop 3 ?_
                exact J7 y1
              · refine zc_aload_n (pc := 27) dX10_shade_27 rfl rfl ?_
                refine zc_getC (pc := 28) zF_X10_62 rfl dX10_shade_28 ?_
                refine zc_getO (pc := 31) zF_X10_118 rfl dX10_shade_31 ?_
                refine zc_iload_n (pc := 34) dX10_shade_34 rfl rfl ?_
                refine zc_guard (fun g3 => ?_)
                refine zc_aldi (pc := 35) rfl g3 dX10_shade_35 ?_
                refine zc_aload_n (pc := 36) dX10_shade_36 rfl rfl ?_
                refine zc_getC (pc := 37) zF_X10_62 rfl dX10_shade_37 ?_
                refine zc_getI (pc := 40) zF_X10_186 rfl dX10_shade_40 ?_
                refine zc_callIp (pc := 43) [.int (h.1 (16 + 3) y2.toNatClampNeg), .int (h.1 16 10)] rfl (zc_runS zo_X10_far ⟨Nat.le_of_ble_eq_true rfl, Nat.le_of_ble_eq_true rfl⟩ zw_623 zw_411 rfl dX10_shade_43) (Nat.le_of_ble_eq_true rfl) (fun _ hr => zt_X10_far (h.1 (16 + 3) y2.toNatClampNeg) (h.1 16 10) h hr) (fun r4 => ?_)
                refine zc_iload_n (pc := 46) dX10_shade_46 rfl rfl ?_
                refine zc_icmp_gt (pc := 47) 56 dX10_shade_47 (by decide) (fun _ => ?_) (fun _ => ?_)
                · refine zc_iinc (pc := 56) (1 : Int32) dX10_shade_56 (by decide) rfl (Nat.le_of_ble_eq_true rfl) rfl ?_
                  refine zc_sL (ls1 := [some (.ref 0), some (.int x1), some (.int y1), some (.int (y2 + (1 : Int32)))]) rfl ?_
                  refine zc_goto (pc := 59) 16 dX10_shade_59 (by decide) ?_
                  exact ih11 y1 (y2 + (1 : Int32))
                · refine zc_iload_n (pc := 50) dX10_shade_50 rfl rfl ?_
                  refine zc_iconst (pc := 51) (1 : Int32) dX10_shade_51 (by decide) ?_
                  refine zc_iload_n (pc := 52) dX10_shade_52 rfl rfl ?_
                  refine zc_ishl (pc := 53) dX10_shade_53 ?_
                  refine zc_ior (pc := 54) dX10_shade_54 ?_
                  refine zc_letI (fun v5 _ => ?_)
                  refine zc_istore_n (pc := 55) dX10_shade_55 rfl (Nat.le_of_ble_eq_true rfl) rfl (Nat.le_of_ble_eq_true rfl) ?_
                  refine zc_sL (ls1 := [some (.ref 0), some (.int x1), some (.int v5), some (.int y2)]) rfl ?_
                  refine zc_iinc (pc := 56) (1 : Int32) dX10_shade_56 (by decide) rfl (Nat.le_of_ble_eq_true rfl) rfl ?_
                  refine zc_sL (ls1 := [some (.ref 0), some (.int x1), some (.int v5), some (.int (y2 + (1 : Int32)))]) rfl ?_
                  refine zc_goto (pc := 59) 16 dX10_shade_59 (by decide) ?_
                  exact ih11 v5 (y2 + (1 : Int32))
        exact L10 zFU (0 : Int32) (0 : Int32)
    · refine zc_iconst (pc := 10) (-1 : Int32) dX10_shade_10 (by decide) ?_
      exact zc_iretK (pc := 11) dX10_shade_11 rfl ⟨_, rfl, rfl⟩
def zl_X10_frontier_19 (h : zHp) (y2 : Int32) : Nat → Int32 → Int32 → Option Int32
  | 0, _, _ => none
  | fu + 1, y3, y4 => (if (h.1 16 9) ≤ y4 then some y3 else (if zc_ix y2 7 then (if zc_ix y4 7 then ((zf_X10_far (h.1 (16 + 3) y2.toNatClampNeg) (h.1 (16 + 3) y4.toNatClampNeg)).bind (fun r7 => (if zc_ix y2 7 then ((zf_X10_far (h.1 (16 + 3) y2.toNatClampNeg) (h.1 16 10)).bind (fun r9 => (if zc_ix y4 7 then ((zf_X10_far (h.1 16 10) (h.1 (16 + 3) y4.toNatClampNeg)).bind (fun r11 => (if r7 = (6 : Int32) then zl_X10_frontier_19 h y2 fu y3 (y4 + (1 : Int32)) else (if (r9 + r11) = r7 then zl_X10_frontier_19 h y2 fu (y3 + (1 : Int32)) (y4 + (1 : Int32)) else zl_X10_frontier_19 h y2 fu y3 (y4 + (1 : Int32)))))) else none))) else none))) else none) else none))
def zl_X10_frontier_4 (h : zHp) : Nat → Int32 → Int32 → Option Int32
  | 0, _, _ => none
  | fu + 1, y1, y2 => (if (h.1 16 9) ≤ y2 then some y1 else ((zl_X10_frontier_19 h y2 zFU y1 (y2 + (1 : Int32))).bind (fun v12 => zl_X10_frontier_4 h fu v12 (y2 + (1 : Int32)))))
def zf_X10_frontier (h : zHp) : Option Int32 :=
  ((zl_X10_frontier_4 h zFU (0 : Int32) (0 : Int32)).bind (fun v13 => some v13))
set_option maxRecDepth 100000 in
set_option maxHeartbeats 4000000 in
theorem zt_X10_frontier (h : zHp) {r : Int32} (hr : (zf_X10_frontier h) = some r) : zc_Cn zM_X10_frontier [.ref 0] h ((fun r => zc_mI (r, h)) r) := by
  refine zc_meth (mk := (fun r => zc_mI (r, h))) (o := (zf_X10_frontier h)) (by decide +kernel) (Nat.le_of_ble_eq_true rfl) ?_ hr
  unfold zf_X10_frontier
  refine zc_sL (ls1 := [some (.ref 0), none, none, none, none, none]) rfl ?_
  refine zc_iconst (pc := 0) (0 : Int32) dX10_frontier_0 (by decide) ?_
  refine zc_istore_n (pc := 1) dX10_frontier_1 rfl (Nat.le_of_ble_eq_true rfl) rfl (Nat.le_of_ble_eq_true rfl) ?_
  refine zc_sL (ls1 := [some (.ref 0), some (.int (0 : Int32)), none, none, none, none]) rfl ?_
  refine zc_iconst (pc := 2) (0 : Int32) dX10_frontier_2 (by decide) ?_
  refine zc_istore_n (pc := 3) dX10_frontier_3 rfl (Nat.le_of_ble_eq_true rfl) rfl (Nat.le_of_ble_eq_true rfl) ?_
  refine zc_sL (ls1 := [some (.ref 0), some (.int (0 : Int32)), some (.int (0 : Int32)), none, none, none]) rfl ?_
  refine zc_sL (ls1 := [some (.ref 0), some (.int (0 : Int32)), some (.int (0 : Int32)), none, none, none]) rfl ?_
  refine zc_loop 123 (fun v13 => [none, some (.int v13), none, none, none, none]) (fun v13 => []) (fun v13 => h) (fun v13 => ?_) (fun k15 J14 => ?_)
  · refine zc_iload_n (pc := 123) dX10_frontier_123 rfl rfl ?_
    exact zc_iretK (pc := 124) dX10_frontier_124 rfl ⟨_, rfl, rfl⟩
  · have L17 : ∀ (fu : Nat) (y1 : Int32) (y2 : Int32), zc_G zM_X10_frontier (fun r => zc_mI (r, h)) 4 [some (.ref 0), some (.int y1), some (.int y2), none, none, none] [] h ((zl_X10_frontier_4 h fu y1 y2).bind k15) := by
        intro fu
        induction fu with
        | zero => intros; exact zc_noneb
        | succ fu ih18 =>
          intro y1 y2
          unfold zl_X10_frontier_4
          refine zc_iload_n (pc := 4) dX10_frontier_4 rfl rfl ?_
          refine zc_aload_n (pc := 5) dX10_frontier_5 rfl rfl ?_
          refine zc_getC (pc := 6) zF_X10_62 rfl dX10_frontier_6 ?_
          refine zc_getI (pc := 9) zF_X10_152 rfl dX10_frontier_9 ?_
          refine zc_icmp_ge (pc := 12) 123 dX10_frontier_12 (by decide) (fun _ => ?_) (fun _ => ?_)
          · refine zc_drop 0 ?_
            refine zc_drop 2 ?_
            exact J14 y1
          · refine zc_iload_n (pc := 15) dX10_frontier_15 rfl rfl ?_
            refine zc_iconst (pc := 16) (1 : Int32) dX10_frontier_16 (by decide) ?_
            refine zc_iadd (pc := 17) dX10_frontier_17 ?_
            refine zc_istore_n (pc := 18) dX10_frontier_18 rfl (Nat.le_of_ble_eq_true rfl) rfl (Nat.le_of_ble_eq_true rfl) ?_
            refine zc_sL (ls1 := [some (.ref 0), some (.int y1), some (.int y2), some (.int (y2 + (1 : Int32))), none, none]) rfl ?_
            refine zc_sL (ls1 := [some (.ref 0), some (.int y1), some (.int y2), some (.int (y2 + (1 : Int32))), none, none]) rfl ?_
            refine zc_loop 117 (fun v12 => [some (.ref 0), some (.int v12), some (.int y2), none, none, none]) (fun v12 => []) (fun v12 => h) (fun v12 => ?_) (fun k20 J19 => ?_)
            · refine zc_iinc (pc := 117) (1 : Int32) dX10_frontier_117 (by decide) rfl (Nat.le_of_ble_eq_true rfl) rfl ?_
              refine zc_sL (ls1 := [some (.ref 0), some (.int v12), some (.int (y2 + (1 : Int32))), none, none, none]) rfl ?_
              refine zc_goto (pc := 120) 4 dX10_frontier_120 (by decide) ?_
              exact ih18 v12 (y2 + (1 : Int32))
            · have L22 : ∀ (fu : Nat) (y3 : Int32) (y4 : Int32), zc_G zM_X10_frontier (fun r => zc_mI (r, h)) 19 [some (.ref 0), some (.int y3), some (.int y2), some (.int y4), none, none] [] h ((zl_X10_frontier_19 h y2 fu y3 y4).bind k20) := by
                  intro fu
                  induction fu with
                  | zero => intros; exact zc_noneb
                  | succ fu ih23 =>
                    intro y3 y4
                    unfold zl_X10_frontier_19
                    refine zc_iload_n (pc := 19) dX10_frontier_19 rfl rfl ?_
                    refine zc_aload_n (pc := 20) dX10_frontier_20 rfl rfl ?_
                    refine zc_getC (pc := 21) zF_X10_62 rfl dX10_frontier_21 ?_
                    refine zc_getI (pc := 24) zF_X10_152 rfl dX10_frontier_24 ?_
                    refine zc_icmp_ge (pc := 27) 117 dX10_frontier_27 (by decide) (fun _ => ?_) (fun _ => ?_)
                    · refine zc_drop 3 ?_
                      exact J19 y3
                    · refine zc_aload_n (pc := 30) dX10_frontier_30 rfl rfl ?_
                      refine zc_getC (pc := 31) zF_X10_62 rfl dX10_frontier_31 ?_
                      refine zc_getO (pc := 34) zF_X10_118 rfl dX10_frontier_34 ?_
                      refine zc_iload_n (pc := 37) dX10_frontier_37 rfl rfl ?_
                      refine zc_guard (fun g5 => ?_)
                      refine zc_aldi (pc := 38) rfl g5 dX10_frontier_38 ?_
                      refine zc_aload_n (pc := 39) dX10_frontier_39 rfl rfl ?_
                      refine zc_getC (pc := 40) zF_X10_62 rfl dX10_frontier_40 ?_
                      refine zc_getO (pc := 43) zF_X10_118 rfl dX10_frontier_43 ?_
                      refine zc_iload_n (pc := 46) dX10_frontier_46 rfl rfl ?_
                      refine zc_guard (fun g6 => ?_)
                      refine zc_aldi (pc := 47) rfl g6 dX10_frontier_47 ?_
                      refine zc_callIp (pc := 48) [.int (h.1 (16 + 3) y2.toNatClampNeg), .int (h.1 (16 + 3) y4.toNatClampNeg)] rfl (zc_runS zo_X10_far ⟨Nat.le_of_ble_eq_true rfl, Nat.le_of_ble_eq_true rfl⟩ zw_623 zw_411 rfl dX10_frontier_48) (Nat.le_of_ble_eq_true rfl) (fun _ hr => zt_X10_far (h.1 (16 + 3) y2.toNatClampNeg) (h.1 (16 + 3) y4.toNatClampNeg) h hr) (fun r7 => ?_)
                      refine zc_istore (pc := 51) dX10_frontier_51 (Nat.le_of_ble_eq_true rfl) rfl (Nat.le_of_ble_eq_true rfl) ?_
                      refine zc_sL (ls1 := [some (.ref 0), some (.int y3), some (.int y2), some (.int y4), some (.int r7), none]) rfl ?_
                      refine zc_aload_n (pc := 53) dX10_frontier_53 rfl rfl ?_
                      refine zc_getC (pc := 54) zF_X10_62 rfl dX10_frontier_54 ?_
                      refine zc_getO (pc := 57) zF_X10_118 rfl dX10_frontier_57 ?_
                      refine zc_iload_n (pc := 60) dX10_frontier_60 rfl rfl ?_
                      refine zc_guard (fun g8 => ?_)
                      refine zc_aldi (pc := 61) rfl g8 dX10_frontier_61 ?_
                      refine zc_aload_n (pc := 62) dX10_frontier_62 rfl rfl ?_
                      refine zc_getC (pc := 63) zF_X10_62 rfl dX10_frontier_63 ?_
                      refine zc_getI (pc := 66) zF_X10_186 rfl dX10_frontier_66 ?_
                      refine zc_callIp (pc := 69) [.int (h.1 (16 + 3) y2.toNatClampNeg), .int (h.1 16 10)] rfl (zc_runS zo_X10_far ⟨Nat.le_of_ble_eq_true rfl, Nat.le_of_ble_eq_true rfl⟩ zw_623 zw_411 rfl dX10_frontier_69) (Nat.le_of_ble_eq_true rfl) (fun _ hr => zt_X10_far (h.1 (16 + 3) y2.toNatClampNeg) (h.1 16 10) h hr) (fun r9 => ?_)
                      refine zc_aload_n (pc := 72) dX10_frontier_72 rfl rfl ?_
                      refine zc_getC (pc := 73) zF_X10_62 rfl dX10_frontier_73 ?_
                      refine zc_getI (pc := 76) zF_X10_186 rfl dX10_frontier_76 ?_
                      refine zc_aload_n (pc := 79) dX10_frontier_79 rfl rfl ?_
                      refine zc_getC (pc := 80) zF_X10_62 rfl dX10_frontier_80 ?_
                      refine zc_getO (pc := 83) zF_X10_118 rfl dX10_frontier_83 ?_
                      refine zc_iload_n (pc := 86) dX10_frontier_86 rfl rfl ?_
                      refine zc_guard (fun g10 => ?_)
                      refine zc_aldi (pc := 87) rfl g10 dX10_frontier_87 ?_
                      refine zc_callIp (pc := 88) [.int (h.1 16 10), .int (h.1 (16 + 3) y4.toNatClampNeg)] rfl (zc_runS zo_X10_far ⟨Nat.le_of_ble_eq_true rfl, Nat.le_of_ble_eq_true rfl⟩ zw_623 zw_411 rfl dX10_frontier_88) (Nat.le_of_ble_eq_true rfl) (fun _ hr => zt_X10_far (h.1 16 10) (h.1 (16 + 3) y4.toNatClampNeg) h hr) (fun r11 => ?_)
                      refine zc_iadd (pc := 91) dX10_frontier_91 ?_
                      refine zc_istore (pc := 92) dX10_frontier_92 (Nat.le_of_ble_eq_true rfl) rfl (Nat.le_of_ble_eq_true rfl) ?_
                      refine zc_sL (ls1 := [some (.ref 0), some (.int y3), some (.int y2), some (.int y4), some (.int r7), some (.int (r9 + r11))]) rfl ?_
                      refine zc_iload (pc := 94) dX10_frontier_94 rfl ?_
                      refine zc_bipush (pc := 96) (6 : Int32) dX10_frontier_96 (by decide) ?_
                      refine zc_icmp_eq (pc := 98) 111 dX10_frontier_98 (by decide) (fun _ => ?_) (fun _ => ?_)
                      · refine zc_iinc (pc := 111) (1 : Int32) dX10_frontier_111 (by decide) rfl (Nat.le_of_ble_eq_true rfl) rfl ?_
                        refine zc_sL (ls1 := [some (.ref 0), some (.int y3), some (.int y2), some (.int (y4 + (1 : Int32))), some (.int r7), some (.int (r9 + r11))]) rfl ?_
                        refine zc_goto (pc := 114) 19 dX10_frontier_114 (by decide) ?_
                        refine zc_drop 4 ?_
                        refine zc_drop 5 ?_
                        exact ih23 y3 (y4 + (1 : Int32))
                      · refine zc_iload (pc := 101) dX10_frontier_101 rfl ?_
                        refine zc_iload (pc := 103) dX10_frontier_103 rfl ?_
                        refine zc_icmp_ne (pc := 105) 111 dX10_frontier_105 (by decide) (fun _ => ?_) (fun _ => ?_)
                        · refine zc_iinc (pc := 108) (1 : Int32) dX10_frontier_108 (by decide) rfl (Nat.le_of_ble_eq_true rfl) rfl ?_
                          refine zc_sL (ls1 := [some (.ref 0), some (.int (y3 + (1 : Int32))), some (.int y2), some (.int y4), some (.int r7), some (.int (r9 + r11))]) rfl ?_
                          refine zc_iinc (pc := 111) (1 : Int32) dX10_frontier_111 (by decide) rfl (Nat.le_of_ble_eq_true rfl) rfl ?_
                          refine zc_sL (ls1 := [some (.ref 0), some (.int (y3 + (1 : Int32))), some (.int y2), some (.int (y4 + (1 : Int32))), some (.int r7), some (.int (r9 + r11))]) rfl ?_
                          refine zc_goto (pc := 114) 19 dX10_frontier_114 (by decide) ?_
                          refine zc_drop 4 ?_
                          refine zc_drop 5 ?_
                          exact ih23 (y3 + (1 : Int32)) (y4 + (1 : Int32))
                        · refine zc_iinc (pc := 111) (1 : Int32) dX10_frontier_111 (by decide) rfl (Nat.le_of_ble_eq_true rfl) rfl ?_
                          refine zc_sL (ls1 := [some (.ref 0), some (.int y3), some (.int y2), some (.int (y4 + (1 : Int32))), some (.int r7), some (.int (r9 + r11))]) rfl ?_
                          refine zc_goto (pc := 114) 19 dX10_frontier_114 (by decide) ?_
                          refine zc_drop 4 ?_
                          refine zc_drop 5 ?_
                          exact ih23 y3 (y4 + (1 : Int32))
              exact L22 zFU y1 (y2 + (1 : Int32))
    exact L17 zFU (0 : Int32) (0 : Int32)
def zl_X10_longestChain_4 (h : zHp) : Nat → Int32 → Int32 → Option Int32
  | 0, _, _ => none
  | fu + 1, y1, y2 => (if (h.1 16 9) ≤ y2 then some y1 else ((zf_X7_lengthOfChain 16 y2 h).bind (fun r3 => ((some (if y1 < r3 then r3 else y1) : Option Int32).bind (fun v4 => zl_X10_longestChain_4 h fu v4 (y2 + (1 : Int32)))))))
def zf_X10_longestChain (h : zHp) : Option Int32 :=
  ((zl_X10_longestChain_4 h zFU (0 : Int32) (0 : Int32)).bind (fun v5 => some v5))
set_option maxRecDepth 100000 in
set_option maxHeartbeats 4000000 in
theorem zt_X10_longestChain (h : zHp) {r : Int32} (hr : (zf_X10_longestChain h) = some r) : zc_Cn zM_X10_longestChain [.ref 0] h ((fun r => zc_mI (r, h)) r) := by
  refine zc_meth (mk := (fun r => zc_mI (r, h))) (o := (zf_X10_longestChain h)) (by decide +kernel) (Nat.le_of_ble_eq_true rfl) ?_ hr
  unfold zf_X10_longestChain
  refine zc_sL (ls1 := [some (.ref 0), none, none]) rfl ?_
  refine zc_iconst (pc := 0) (0 : Int32) dX10_longestChain_0 (by decide) ?_
  refine zc_istore_n (pc := 1) dX10_longestChain_1 rfl (Nat.le_of_ble_eq_true rfl) rfl (Nat.le_of_ble_eq_true rfl) ?_
  refine zc_sL (ls1 := [some (.ref 0), some (.int (0 : Int32)), none]) rfl ?_
  refine zc_iconst (pc := 2) (0 : Int32) dX10_longestChain_2 (by decide) ?_
  refine zc_istore_n (pc := 3) dX10_longestChain_3 rfl (Nat.le_of_ble_eq_true rfl) rfl (Nat.le_of_ble_eq_true rfl) ?_
  refine zc_sL (ls1 := [some (.ref 0), some (.int (0 : Int32)), some (.int (0 : Int32))]) rfl ?_
  refine zc_sL (ls1 := [some (.ref 0), some (.int (0 : Int32)), some (.int (0 : Int32))]) rfl ?_
  refine zc_loop 34 (fun v5 => [none, some (.int v5), none]) (fun v5 => []) (fun v5 => h) (fun v5 => ?_) (fun k7 J6 => ?_)
  · refine zc_iload_n (pc := 34) dX10_longestChain_34 rfl rfl ?_
    exact zc_iretK (pc := 35) dX10_longestChain_35 rfl ⟨_, rfl, rfl⟩
  · have L9 : ∀ (fu : Nat) (y1 : Int32) (y2 : Int32), zc_G zM_X10_longestChain (fun r => zc_mI (r, h)) 4 [some (.ref 0), some (.int y1), some (.int y2)] [] h ((zl_X10_longestChain_4 h fu y1 y2).bind k7) := by
        intro fu
        induction fu with
        | zero => intros; exact zc_noneb
        | succ fu ih10 =>
          intro y1 y2
          unfold zl_X10_longestChain_4
          refine zc_iload_n (pc := 4) dX10_longestChain_4 rfl rfl ?_
          refine zc_aload_n (pc := 5) dX10_longestChain_5 rfl rfl ?_
          refine zc_getC (pc := 6) zF_X10_62 rfl dX10_longestChain_6 ?_
          refine zc_getI (pc := 9) zF_X10_152 rfl dX10_longestChain_9 ?_
          refine zc_icmp_ge (pc := 12) 34 dX10_longestChain_12 (by decide) (fun _ => ?_) (fun _ => ?_)
          · refine zc_drop 0 ?_
            refine zc_drop 2 ?_
            exact J6 y1
          · refine zc_iload_n (pc := 15) dX10_longestChain_15 rfl rfl ?_
            refine zc_aload_n (pc := 16) dX10_longestChain_16 rfl rfl ?_
            refine zc_getC (pc := 17) zF_X10_62 rfl dX10_longestChain_17 ?_
            refine zc_iload_n (pc := 20) dX10_longestChain_20 rfl rfl ?_
            refine zc_callIp (pc := 21) [.ref 16, .int y2] rfl (zc_runV (ci := 7) (n0 := 0) (q := (RX7, TX7, 15)) zo_X7_lengthOfChain ⟨Nat.le_of_ble_eq_true rfl, Nat.le_of_ble_eq_true rfl⟩ zw_640 zw_641 zw_642 rfl (by decide) rfl rfl dX10_longestChain_21) (Nat.le_of_ble_eq_true rfl) (fun _ hr => zt_X7_lengthOfChain 16 rfl y2 h hr) (fun r3 => ?_)
            refine zc_mmax (pc := 24) zw_644 zw_mmax_s zw_14 zw_mmax_c (Nat.le_of_ble_eq_true rfl) ⟨Nat.le_of_ble_eq_true rfl, Nat.le_of_ble_eq_true rfl⟩ dX10_longestChain_24 ?_
            refine zc_letI (fun v4 _ => ?_)
            refine zc_istore_n (pc := 27) dX10_longestChain_27 rfl (Nat.le_of_ble_eq_true rfl) rfl (Nat.le_of_ble_eq_true rfl) ?_
            refine zc_sL (ls1 := [some (.ref 0), some (.int v4), some (.int y2)]) rfl ?_
            refine zc_iinc (pc := 28) (1 : Int32) dX10_longestChain_28 (by decide) rfl (Nat.le_of_ble_eq_true rfl) rfl ?_
            refine zc_sL (ls1 := [some (.ref 0), some (.int v4), some (.int (y2 + (1 : Int32)))]) rfl ?_
            refine zc_goto (pc := 31) 4 dX10_longestChain_31 (by decide) ?_
            exact ih10 v4 (y2 + (1 : Int32))
    exact L9 zFU (0 : Int32) (0 : Int32)
def zf_X10_jam (x1 : Int32) (h : zHp) : Option Int32 :=
  (if x1 = (0 : Int32) then ((zf_X7_allJammed 16 h).bind (fun r1 => some r1)) else (if x1 = (1 : Int32) then ((zf_X10_frontier h).bind (fun r2 => some r2)) else (if x1 = (2 : Int32) then ((zf_X10_longestChain h).bind (fun r3 => some r3)) else some (-1 : Int32))))
set_option maxRecDepth 100000 in
set_option maxHeartbeats 4000000 in
theorem zt_X10_jam (x1 : Int32) (h : zHp) {r : Int32} (hr : (zf_X10_jam x1 h) = some r) : zc_Cn zM_X10_jam [.ref 0, .int x1] h ((fun r => zc_mI (r, h)) r) := by
  refine zc_meth (mk := (fun r => zc_mI (r, h))) (o := (zf_X10_jam x1 h)) (by decide +kernel) (Nat.le_of_ble_eq_true rfl) ?_ hr
  unfold zf_X10_jam
  refine zc_sL (ls1 := [some (.ref 0), some (.int x1)]) rfl ?_
  refine zc_iload_n (pc := 0) dX10_jam_0 rfl rfl ?_
  refine zc_sw (fun s4 => ?_) (fun s4 => ?_)
  · refine zc_tblIn (pc := 1) (off := 27) 28 s4 dX10_jam_1 (by decide) ?_
    refine zc_aload_n (pc := 28) dX10_jam_28 rfl rfl ?_
    refine zc_getC (pc := 29) zF_X10_62 rfl dX10_jam_29 ?_
    refine zc_callIp (pc := 32) [.ref 16] rfl (zc_runV (ci := 7) (n0 := 0) (q := (RX7, TX7, 15)) zo_X7_allJammed ⟨Nat.le_of_ble_eq_true rfl, Nat.le_of_ble_eq_true rfl⟩ zw_628 zw_629 zw_630 rfl (by decide) rfl rfl dX10_jam_32) (Nat.le_of_ble_eq_true rfl) (fun _ hr => zt_X7_allJammed 16 rfl h hr) (fun r1 => ?_)
    exact zc_iretK (pc := 35) dX10_jam_35 rfl ⟨_, rfl, rfl⟩
  refine zc_sw (fun s5 => ?_) (fun s5 => ?_)
  · refine zc_tblIn (pc := 1) (off := 35) 36 s5 dX10_jam_1 (by decide) ?_
    refine zc_aload_n (pc := 36) dX10_jam_36 rfl rfl ?_
    refine zc_callIp (pc := 37) [.ref 0] rfl (zc_runV (ci := 10) (n0 := 0) (q := (RX10, TX10, 12)) zo_X10_frontier ⟨Nat.le_of_ble_eq_true rfl, Nat.le_of_ble_eq_true rfl⟩ zw_632 zw_634 zs_10 rfl (by decide) rfl rfl dX10_jam_37) (Nat.le_of_ble_eq_true rfl) (fun _ hr => zt_X10_frontier h hr) (fun r2 => ?_)
    exact zc_iretK (pc := 40) dX10_jam_40 rfl ⟨_, rfl, rfl⟩
  refine zc_sw (fun s6 => ?_) (fun s6 => ?_)
  · refine zc_tblIn (pc := 1) (off := 40) 41 s6 dX10_jam_1 (by decide) ?_
    refine zc_aload_n (pc := 41) dX10_jam_41 rfl rfl ?_
    refine zc_callIp (pc := 42) [.ref 0] rfl (zc_runV (ci := 10) (n0 := 0) (q := (RX10, TX10, 12)) zo_X10_longestChain ⟨Nat.le_of_ble_eq_true rfl, Nat.le_of_ble_eq_true rfl⟩ zw_636 zw_638 zs_11 rfl (by decide) rfl rfl dX10_jam_42) (Nat.le_of_ble_eq_true rfl) (fun _ hr => zt_X10_longestChain h hr) (fun r3 => ?_)
    exact zc_iretK (pc := 45) dX10_jam_45 rfl ⟨_, rfl, rfl⟩
  refine zc_tblD (pc := 1) 46 [0, 1, 2] dX10_jam_1 (by decide) (List.forall_mem_cons.mpr ⟨zc_neJ s4 (by decide), (List.forall_mem_cons.mpr ⟨zc_neJ s5 (by decide), (List.forall_mem_cons.mpr ⟨zc_neJ s6 (by decide), (fun _ hm => nomatch hm)⟩)⟩)⟩) ?_
  refine zc_iconst (pc := 46) (-1 : Int32) dX10_jam_46 (by decide) ?_
  exact zc_iretK (pc := 47) dX10_jam_47 rfl ⟨_, rfl, rfl⟩
def zf_X10_chain (x1 : Int32) (h : zHp) : Option Int32 :=
  ((zf_X7_isThere 16 x1 h).bind (fun r1 => (if r1 = 0 then some (-1 : Int32) else ((zf_X7_lengthOfChain 16 x1 h).bind (fun r2 => some r2)))))
set_option maxRecDepth 100000 in
set_option maxHeartbeats 4000000 in
theorem zt_X10_chain (x1 : Int32) (h : zHp) {r : Int32} (hr : (zf_X10_chain x1 h) = some r) : zc_Cn zM_X10_chain [.ref 0, .int x1] h ((fun r => zc_mI (r, h)) r) := by
  refine zc_meth (mk := (fun r => zc_mI (r, h))) (o := (zf_X10_chain x1 h)) (by decide +kernel) (Nat.le_of_ble_eq_true rfl) ?_ hr
  unfold zf_X10_chain
  refine zc_sL (ls1 := [some (.ref 0), some (.int x1)]) rfl ?_
  refine zc_aload_n (pc := 0) dX10_chain_0 rfl rfl ?_
  refine zc_getC (pc := 1) zF_X10_62 rfl dX10_chain_1 ?_
  refine zc_iload_n (pc := 4) dX10_chain_4 rfl rfl ?_
  refine zc_callIp (pc := 5) [.ref 16, .int x1] rfl (zc_runV (ci := 7) (n0 := 0) (q := (RX7, TX7, 15)) zo_X7_isThere ⟨Nat.le_of_ble_eq_true rfl, Nat.le_of_ble_eq_true rfl⟩ zw_470 zw_379 zw_380 rfl (by decide) rfl rfl dX10_chain_5) (Nat.le_of_ble_eq_true rfl) (fun _ hr => zt_X7_isThere 16 rfl x1 h hr) (fun r1 => ?_)
  refine zc_if_eq (pc := 8) 22 dX10_chain_8 (by decide) (fun _ => ?_) (fun _ => ?_)
  · refine zc_iconst (pc := 22) (-1 : Int32) dX10_chain_22 (by decide) ?_
    exact zc_iretK (pc := 23) dX10_chain_23 rfl ⟨_, rfl, rfl⟩
  · refine zc_aload_n (pc := 11) dX10_chain_11 rfl rfl ?_
    refine zc_getC (pc := 12) zF_X10_62 rfl dX10_chain_12 ?_
    refine zc_iload_n (pc := 15) dX10_chain_15 rfl rfl ?_
    refine zc_callIp (pc := 16) [.ref 16, .int x1] rfl (zc_runV (ci := 7) (n0 := 0) (q := (RX7, TX7, 15)) zo_X7_lengthOfChain ⟨Nat.le_of_ble_eq_true rfl, Nat.le_of_ble_eq_true rfl⟩ zw_640 zw_641 zw_642 rfl (by decide) rfl rfl dX10_chain_16) (Nat.le_of_ble_eq_true rfl) (fun _ hr => zt_X7_lengthOfChain 16 rfl x1 h hr) (fun r2 => ?_)
    refine zc_goto (pc := 19) 23 dX10_chain_19 (by decide) ?_
    exact zc_iretK (pc := 23) dX10_chain_23 rfl ⟨_, rfl, rfl⟩
def zl_X10_isSeenSo_30 (x1 : Nat) : Nat → Int32 → zHp → Option ((Int32 × zHp) ⊕ zHp)
  | 0, _, _ => none
  | fu + 1, y4, h5 => (if (h5.1 x1 4) ≤ y4 then some (Sum.inr h5) else ((zf_X8_isSkipped x1 y4 h5).bind (fun r6 => (((if r6 = 0 then (if zc_ix y4 100 then (if (h5.1 (x1 + 1) y4.toNatClampNeg) = (h5.1 25 10) then some (Sum.inr ()) else some (Sum.inl (some (Sum.inl ((0 : Int32), h5))))) else none) else some (Sum.inr ())) : Option (Option ((Int32 × zHp) ⊕ zHp) ⊕ Unit)).bind (Sum.elim (fun o => o) (fun v8 => ((zf_X7_moveChair 25 h5).bind (fun r9 => zl_X10_isSeenSo_30 x1 fu (y4 + (1 : Int32)) r9))))))))
def zf_X10_isSeenSo (x1 : Nat) (x2 : Int32) (x3 : Int32) (h : zHp) : Option (Int32 × zHp) :=
  ((zf_X7_become 25 16 h).bind (fun r1 => ((some (zc_ui r1 25 11 x2) : Option zHp).bind (fun h2 => ((some (zc_ui h2 25 12 x3) : Option zHp).bind (fun h3 => ((zl_X10_isSeenSo_30 x1 zFU (0 : Int32) h3).bind (Sum.elim (fun r => some r) (fun v10 => some ((1 : Int32), v10))))))))))
set_option maxRecDepth 100000 in
set_option maxHeartbeats 4000000 in
theorem zt_X10_isSeenSo (x1 : Nat) (hx1 : zc_lay[x1]? = some (8, 0)) (x2 : Int32) (x3 : Int32) (h : zHp) {r : (Int32 × zHp)} (hr : (zf_X10_isSeenSo x1 x2 x3 h) = some r) : zc_Cn zM_X10_isSeenSo [.ref 0, .ref x1, .int x2, .int x3] h (zc_mI r) := by
  refine zc_meth (mk := zc_mI) (o := (zf_X10_isSeenSo x1 x2 x3 h)) (by decide +kernel) (Nat.le_of_ble_eq_true rfl) ?_ hr
  unfold zf_X10_isSeenSo
  refine zc_sL (ls1 := [some (.ref 0), some (.ref x1), some (.int x2), some (.int x3), none]) rfl ?_
  refine zc_aload_n (pc := 0) dX10_isSeenSo_0 rfl rfl ?_
  refine zc_getC (pc := 1) zF_X10_66 rfl dX10_isSeenSo_1 ?_
  refine zc_aload_n (pc := 4) dX10_isSeenSo_4 rfl rfl ?_
  refine zc_getC (pc := 5) zF_X10_62 rfl dX10_isSeenSo_5 ?_
  refine zc_callV (pc := 8) [.ref 25, .ref 16] rfl (zc_runV (ci := 7) (n0 := 0) (q := (RX7, TX7, 15)) zo_X7_become ⟨Nat.le_of_ble_eq_true rfl, Nat.le_of_ble_eq_true rfl⟩ zw_244 zw_245 zw_246 rfl (by decide) rfl rfl dX10_isSeenSo_8) (Nat.le_of_ble_eq_true rfl) (fun _ hr => zt_X7_become 25 rfl 16 rfl h hr) (fun r1 => ?_)
  refine zc_aload_n (pc := 11) dX10_isSeenSo_11 rfl rfl ?_
  refine zc_getC (pc := 12) zF_X10_66 rfl dX10_isSeenSo_12 ?_
  refine zc_iload_n (pc := 15) dX10_isSeenSo_15 rfl rfl ?_
  refine zc_putI (pc := 16) zF_X10_208 rfl dX10_isSeenSo_16 ?_
  refine zc_letH (fun h2 _ => ?_)
  refine zc_aload_n (pc := 19) dX10_isSeenSo_19 rfl rfl ?_
  refine zc_getC (pc := 20) zF_X10_66 rfl dX10_isSeenSo_20 ?_
  refine zc_iload_n (pc := 23) dX10_isSeenSo_23 rfl rfl ?_
  refine zc_putI (pc := 24) zF_X10_285 rfl dX10_isSeenSo_24 ?_
  refine zc_letH (fun h3 _ => ?_)
  refine zc_iconst (pc := 27) (0 : Int32) dX10_isSeenSo_27 (by decide) ?_
  refine zc_istore (pc := 28) dX10_isSeenSo_28 (Nat.le_of_ble_eq_true rfl) rfl (Nat.le_of_ble_eq_true rfl) ?_
  refine zc_sL (ls1 := [some (.ref 0), some (.ref x1), some (.int x2), some (.int x3), some (.int (0 : Int32))]) rfl ?_
  refine zc_drop 2 ?_
  refine zc_drop 3 ?_
  refine zc_sL (ls1 := [some (.ref 0), some (.ref x1), none, none, some (.int (0 : Int32))]) rfl ?_
  refine zc_loopS zc_mI 80 (fun v10 => [none, none, none, none, none]) (fun v10 => []) (fun v10 => v10) (fun v10 => ?_) (fun z => ⟨_, rfl, rfl⟩) (fun k12 J11 K13 => ?_)
  · refine zc_iconst (pc := 80) (1 : Int32) dX10_isSeenSo_80 (by decide) ?_
    exact zc_zretK (pc := 81) dX10_isSeenSo_81 rfl (by decide) ⟨_, rfl, rfl⟩
  · have L14 : ∀ (fu : Nat) (y4 : Int32) (h5 : zHp), zc_G zM_X10_isSeenSo zc_mI 30 [some (.ref 0), some (.ref x1), none, none, some (.int y4)] [] h5 ((zl_X10_isSeenSo_30 x1 fu y4 h5).bind k12) := by
        intro fu
        induction fu with
        | zero => intros; exact zc_noneb
        | succ fu ih15 =>
          intro y4 h5
          unfold zl_X10_isSeenSo_30
          refine zc_iload (pc := 30) dX10_isSeenSo_30 rfl ?_
          refine zc_aload_n (pc := 32) dX10_isSeenSo_32 rfl rfl ?_
          refine zc_getI (pc := 33) zF_X10_95 hx1 dX10_isSeenSo_33 ?_
          refine zc_icmp_ge (pc := 36) 80 dX10_isSeenSo_36 (by decide) (fun _ => ?_) (fun _ => ?_)
          · refine zc_drop 0 ?_
            refine zc_drop 1 ?_
            refine zc_drop 4 ?_
            exact J11 h5
          · refine zc_aload_n (pc := 39) dX10_isSeenSo_39 rfl rfl ?_
            refine zc_iload (pc := 40) dX10_isSeenSo_40 rfl ?_
            refine zc_callIp (pc := 42) [.ref x1, .int y4] rfl (zc_runV (ci := 8) (n0 := 0) (q := (RX8, TX8, 6)) zo_X8_isSkipped ⟨Nat.le_of_ble_eq_true rfl, Nat.le_of_ble_eq_true rfl⟩ zw_657 zw_658 zw_659 hx1 (by decide) rfl rfl dX10_isSeenSo_42) (Nat.le_of_ble_eq_true rfl) (fun _ hr => zt_X8_isSkipped x1 hx1 y4 h5 hr) (fun r6 => ?_)
            refine zc_joinS 67 (fun v8 => [some (.ref 0), some (.ref x1), none, none, some (.int y4)]) (fun v8 => []) (fun v8 => h5) (fun v8 => ?_) (fun J16 => ?_)
            · refine zc_aload_n (pc := 67) dX10_isSeenSo_67 rfl rfl ?_
              refine zc_getC (pc := 68) zF_X10_66 rfl dX10_isSeenSo_68 ?_
              refine zc_callV (pc := 71) [.ref 25] rfl (zc_runV (ci := 7) (n0 := 0) (q := (RX7, TX7, 15)) zo_X7_moveChair ⟨Nat.le_of_ble_eq_true rfl, Nat.le_of_ble_eq_true rfl⟩ zw_533 zw_395 zw_396 rfl (by decide) rfl rfl dX10_isSeenSo_71) (Nat.le_of_ble_eq_true rfl) (fun _ hr => zt_X7_moveChair 25 rfl h5 hr) (fun r9 => ?_)
              refine zc_iinc (pc := 74) (1 : Int32) dX10_isSeenSo_74 (by decide) rfl (Nat.le_of_ble_eq_true rfl) rfl ?_
              refine zc_sL (ls1 := [some (.ref 0), some (.ref x1), none, none, some (.int (y4 + (1 : Int32)))]) rfl ?_
              refine zc_goto (pc := 77) 30 dX10_isSeenSo_77 (by decide) ?_
              exact ih15 (y4 + (1 : Int32)) r9
            · refine zc_if_ne (pc := 45) 67 dX10_isSeenSo_45 (by decide) (fun _ => ?_) (fun _ => ?_)
              · refine zc_aload_n (pc := 48) dX10_isSeenSo_48 rfl rfl ?_
                refine zc_getO (pc := 49) zF_X10_102 hx1 dX10_isSeenSo_49 ?_
                refine zc_iload (pc := 52) dX10_isSeenSo_52 rfl ?_
                refine zc_guard (fun g7 => ?_)
                refine zc_aldi (pc := 54) (zs_q hx1) g7 dX10_isSeenSo_54 ?_
                refine zc_aload_n (pc := 55) dX10_isSeenSo_55 rfl rfl ?_
                refine zc_getC (pc := 56) zF_X10_66 rfl dX10_isSeenSo_56 ?_
                refine zc_getI (pc := 59) zF_X10_186 rfl dX10_isSeenSo_59 ?_
                refine zc_icmp_eq (pc := 62) 67 dX10_isSeenSo_62 (by decide) (fun _ => ?_) (fun _ => ?_)
                · exact J16 ()
                · refine zc_iconst (pc := 65) (0 : Int32) dX10_isSeenSo_65 (by decide) ?_
                  exact zc_zretK (pc := 66) dX10_isSeenSo_66 rfl (by decide) (K13 _)
              · exact J16 ()
    exact L14 zFU (0 : Int32) h3
def zl_X10_whereSat_37 (x1 : Int32) : Nat → Int32 → Int32 → Int32 → Int32 → zHp → Option (Int32 × Int32 × Int32 × zHp)
  | 0, _, _, _, _, _ => none
  | fu + 1, y2, y3, y4, y5, h6 => (if (72 : Int32) ≤ y5 then some (y2, y3, y4, h6) else ((some (y5 - y5 / (12 : Int32) * (12 : Int32)) : Option Int32).bind (fun v7 => (if zc_ix x1 8 then ((zf_X10_isSeenSo (43 + 1 + 2 * x1.toNatClampNeg) (y5 / (12 : Int32)) v7 h6).bind (fun r9 => (if r9.1 = 0 then zl_X10_whereSat_37 x1 fu y2 y3 y4 (y5 + (1 : Int32)) r9.2 else ((some (((100 : Int32) * (y5 / (12 : Int32))) + v7) : Option Int32).bind (fun v10 => (if y3 = (-4 : Int32) then zl_X10_whereSat_37 x1 fu (y2 + (1 : Int32)) v10 v10 (y5 + (1 : Int32)) r9.2 else zl_X10_whereSat_37 x1 fu (y2 + (1 : Int32)) y3 v10 (y5 + (1 : Int32)) r9.2)))))) else none))))
def zf_X10_whereSat (x1 : Int32) (x2 : Int32) (h : zHp) : Option (Int32 × zHp) :=
  (if x2 < 0 then some ((-1 : Int32), h) else (if x2 ≤ (2 : Int32) then ((zf_X10_refuseRow x1 h).bind (fun r1 => (if r1 = 0 then ((zl_X10_whereSat_37 x1 zFU (0 : Int32) (-4 : Int32) (-4 : Int32) (0 : Int32) h).bind (fun v11 => (if x2 = 0 then some (v11.1, v11.2.2.2) else (if x2 = (1 : Int32) then some (v11.2.1, v11.2.2.2) else some (v11.2.2.1, v11.2.2.2))))) else some (r1, h)))) else some ((-1 : Int32), h)))
set_option maxRecDepth 100000 in
set_option maxHeartbeats 4000000 in
theorem zt_X10_whereSat (x1 : Int32) (x2 : Int32) (h : zHp) {r : (Int32 × zHp)} (hr : (zf_X10_whereSat x1 x2 h) = some r) : zc_Cn zM_X10_whereSat [.ref 0, .int x1, .int x2] h (zc_mI r) := by
  refine zc_meth (mk := zc_mI) (o := (zf_X10_whereSat x1 x2 h)) (by decide +kernel) (Nat.le_of_ble_eq_true rfl) ?_ hr
  unfold zf_X10_whereSat
  refine zc_sL (ls1 := [some (.ref 0), some (.int x1), some (.int x2), none, none, none, none, none, none, none]) rfl ?_
  refine zc_iload_n (pc := 0) dX10_whereSat_0 rfl rfl ?_
  refine zc_if_lt (pc := 1) 9 dX10_whereSat_1 (by decide) (fun _ => ?_) (fun _ => ?_)
  · refine zc_iconst (pc := 9) (-1 : Int32) dX10_whereSat_9 (by decide) ?_
    exact zc_iretK (pc := 10) dX10_whereSat_10 rfl ⟨_, rfl, rfl⟩
  · refine zc_iload_n (pc := 4) dX10_whereSat_4 rfl rfl ?_
    refine zc_iconst (pc := 5) (2 : Int32) dX10_whereSat_5 (by decide) ?_
    refine zc_icmp_le (pc := 6) 11 dX10_whereSat_6 (by decide) (fun _ => ?_) (fun _ => ?_)
    · refine zc_aload_n (pc := 11) dX10_whereSat_11 rfl rfl ?_
      refine zc_iload_n (pc := 12) dX10_whereSat_12 rfl rfl ?_
      refine zc_callIp (pc := 13) [.ref 0, .int x1] rfl (zc_runV (ci := 10) (n0 := 0) (q := (RX10, TX10, 12)) zo_X10_refuseRow ⟨Nat.le_of_ble_eq_true rfl, Nat.le_of_ble_eq_true rfl⟩ zw_227 zw_229 zs_0 rfl (by decide) rfl rfl dX10_whereSat_13) (Nat.le_of_ble_eq_true rfl) (fun _ hr => zt_X10_refuseRow x1 h hr) (fun r1 => ?_)
      refine zc_istore_n (pc := 16) dX10_whereSat_16 rfl (Nat.le_of_ble_eq_true rfl) rfl (Nat.le_of_ble_eq_true rfl) ?_
      refine zc_sL (ls1 := [some (.ref 0), some (.int x1), some (.int x2), some (.int r1), none, none, none, none, none, none]) rfl ?_
      refine zc_iload_n (pc := 17) dX10_whereSat_17 rfl rfl ?_
      refine zc_if_eq (pc := 18) 23 dX10_whereSat_18 (by decide) (fun _ => ?_) (fun _ => ?_)
      · refine zc_iconst (pc := 23) (0 : Int32) dX10_whereSat_23 (by decide) ?_
        refine zc_istore (pc := 24) dX10_whereSat_24 (Nat.le_of_ble_eq_true rfl) rfl (Nat.le_of_ble_eq_true rfl) ?_
        refine zc_sL (ls1 := [some (.ref 0), some (.int x1), some (.int x2), some (.int r1), some (.int (0 : Int32)), none, none, none, none, none]) rfl ?_
        refine zc_bipush (pc := 26) (-4 : Int32) dX10_whereSat_26 (by decide) ?_
        refine zc_istore (pc := 28) dX10_whereSat_28 (Nat.le_of_ble_eq_true rfl) rfl (Nat.le_of_ble_eq_true rfl) ?_
        refine zc_sL (ls1 := [some (.ref 0), some (.int x1), some (.int x2), some (.int r1), some (.int (0 : Int32)), some (.int (-4 : Int32)), none, none, none, none]) rfl ?_
        refine zc_bipush (pc := 30) (-4 : Int32) dX10_whereSat_30 (by decide) ?_
        refine zc_istore (pc := 32) dX10_whereSat_32 (Nat.le_of_ble_eq_true rfl) rfl (Nat.le_of_ble_eq_true rfl) ?_
        refine zc_sL (ls1 := [some (.ref 0), some (.int x1), some (.int x2), some (.int r1), some (.int (0 : Int32)), some (.int (-4 : Int32)), some (.int (-4 : Int32)), none, none, none]) rfl ?_
        refine zc_iconst (pc := 34) (0 : Int32) dX10_whereSat_34 (by decide) ?_
        refine zc_istore (pc := 35) dX10_whereSat_35 (Nat.le_of_ble_eq_true rfl) rfl (Nat.le_of_ble_eq_true rfl) ?_
        refine zc_sL (ls1 := [some (.ref 0), some (.int x1), some (.int x2), some (.int r1), some (.int (0 : Int32)), some (.int (-4 : Int32)), some (.int (-4 : Int32)), some (.int (0 : Int32)), none, none]) rfl ?_
        refine zc_drop 3 ?_
        refine zc_sL (ls1 := [some (.ref 0), some (.int x1), some (.int x2), none, some (.int (0 : Int32)), some (.int (-4 : Int32)), some (.int (-4 : Int32)), some (.int (0 : Int32)), none, none]) rfl ?_
        refine zc_loop 110 (fun v11 => [none, none, some (.int x2), none, some (.int v11.1), some (.int v11.2.1), some (.int v11.2.2.1), none, none, none]) (fun v11 => []) (fun v11 => v11.2.2.2) (fun v11 => ?_) (fun k13 J12 => ?_)
        · refine zc_iload_n (pc := 110) dX10_whereSat_110 rfl rfl ?_
          refine zc_if_ne (pc := 111) 119 dX10_whereSat_111 (by decide) (fun _ => ?_) (fun _ => ?_)
          · refine zc_iload (pc := 114) dX10_whereSat_114 rfl ?_
            refine zc_goto (pc := 116) 131 dX10_whereSat_116 (by decide) ?_
            exact zc_iretK (pc := 131) dX10_whereSat_131 rfl ⟨_, rfl, rfl⟩
          · refine zc_iload_n (pc := 119) dX10_whereSat_119 rfl rfl ?_
            refine zc_iconst (pc := 120) (1 : Int32) dX10_whereSat_120 (by decide) ?_
            refine zc_icmp_ne (pc := 121) 129 dX10_whereSat_121 (by decide) (fun _ => ?_) (fun _ => ?_)
            · refine zc_iload (pc := 124) dX10_whereSat_124 rfl ?_
              refine zc_goto (pc := 126) 131 dX10_whereSat_126 (by decide) ?_
              exact zc_iretK (pc := 131) dX10_whereSat_131 rfl ⟨_, rfl, rfl⟩
            · refine zc_iload (pc := 129) dX10_whereSat_129 rfl ?_
              exact zc_iretK (pc := 131) dX10_whereSat_131 rfl ⟨_, rfl, rfl⟩
        · have L15 : ∀ (fu : Nat) (y2 : Int32) (y3 : Int32) (y4 : Int32) (y5 : Int32) (h6 : zHp), zc_G zM_X10_whereSat zc_mI 37 [some (.ref 0), some (.int x1), some (.int x2), none, some (.int y2), some (.int y3), some (.int y4), some (.int y5), none, none] [] h6 ((zl_X10_whereSat_37 x1 fu y2 y3 y4 y5 h6).bind k13) := by
              intro fu
              induction fu with
              | zero => intros; exact zc_noneb
              | succ fu ih16 =>
                intro y2 y3 y4 y5 h6
                unfold zl_X10_whereSat_37
                refine zc_iload (pc := 37) dX10_whereSat_37 rfl ?_
                refine zc_bipush (pc := 39) (72 : Int32) dX10_whereSat_39 (by decide) ?_
                refine zc_icmp_ge (pc := 41) 110 dX10_whereSat_41 (by decide) (fun _ => ?_) (fun _ => ?_)
                · refine zc_drop 0 ?_
                  refine zc_drop 1 ?_
                  refine zc_drop 7 ?_
                  exact J12 (y2, y3, y4, h6)
                · refine zc_iload (pc := 44) dX10_whereSat_44 rfl ?_
                  refine zc_bipush (pc := 46) (12 : Int32) dX10_whereSat_46 (by decide) ?_
                  refine zc_idiv (pc := 48) dX10_whereSat_48 (by decide) ?_
                  refine zc_istore (pc := 49) dX10_whereSat_49 (Nat.le_of_ble_eq_true rfl) rfl (Nat.le_of_ble_eq_true rfl) ?_
                  refine zc_sL (ls1 := [some (.ref 0), some (.int x1), some (.int x2), none, some (.int y2), some (.int y3), some (.int y4), some (.int y5), some (.int (y5 / (12 : Int32))), none]) rfl ?_
                  refine zc_iload (pc := 51) dX10_whereSat_51 rfl ?_
                  refine zc_bipush (pc := 53) (12 : Int32) dX10_whereSat_53 (by decide) ?_
                  refine zc_irem (pc := 55) dX10_whereSat_55 (by decide) ?_
                  refine zc_letI (fun v7 _ => ?_)
                  refine zc_istore (pc := 56) dX10_whereSat_56 (Nat.le_of_ble_eq_true rfl) rfl (Nat.le_of_ble_eq_true rfl) ?_
                  refine zc_sL (ls1 := [some (.ref 0), some (.int x1), some (.int x2), none, some (.int y2), some (.int y3), some (.int y4), some (.int y5), some (.int (y5 / (12 : Int32))), some (.int v7)]) rfl ?_
                  refine zc_aload_n (pc := 58) dX10_whereSat_58 rfl rfl ?_
                  refine zc_aload_n (pc := 59) dX10_whereSat_59 rfl rfl ?_
                  refine zc_getC (pc := 60) zF_X10_74 rfl dX10_whereSat_60 ?_
                  refine zc_iload_n (pc := 63) dX10_whereSat_63 rfl rfl ?_
                  refine zc_guard (fun g8 => ?_)
                  refine zc_aldS (pc := 64) rfl g8 dX10_whereSat_64 ?_
                  refine zc_iload (pc := 65) dX10_whereSat_65 rfl ?_
                  refine zc_iload (pc := 67) dX10_whereSat_67 rfl ?_
                  refine zc_callI (pc := 69) [.ref 0, .ref (43 + 1 + 2 * x1.toNatClampNeg), .int (y5 / (12 : Int32)), .int v7] rfl (zc_runV (ci := 10) (n0 := 0) (q := (RX10, TX10, 12)) zo_X10_isSeenSo ⟨Nat.le_of_ble_eq_true rfl, Nat.le_of_ble_eq_true rfl⟩ zw_653 zw_655 zs_12 rfl (by decide) rfl rfl dX10_whereSat_69) (Nat.le_of_ble_eq_true rfl) (fun _ hr => zt_X10_isSeenSo (43 + 1 + 2 * x1.toNatClampNeg) (zs_s g8) (y5 / (12 : Int32)) v7 h6 hr) (fun r9 => ?_)
                  refine zc_if_eq (pc := 72) 104 dX10_whereSat_72 (by decide) (fun _ => ?_) (fun _ => ?_)
                  · refine zc_iinc (pc := 104) (1 : Int32) dX10_whereSat_104 (by decide) rfl (Nat.le_of_ble_eq_true rfl) rfl ?_
                    refine zc_sL (ls1 := [some (.ref 0), some (.int x1), some (.int x2), none, some (.int y2), some (.int y3), some (.int y4), some (.int (y5 + (1 : Int32))), some (.int (y5 / (12 : Int32))), some (.int v7)]) rfl ?_
                    refine zc_goto (pc := 107) 37 dX10_whereSat_107 (by decide) ?_
                    refine zc_drop 8 ?_
                    refine zc_drop 9 ?_
                    exact ih16 y2 y3 y4 (y5 + (1 : Int32)) r9.2
                  · refine zc_iinc (pc := 75) (1 : Int32) dX10_whereSat_75 (by decide) rfl (Nat.le_of_ble_eq_true rfl) rfl ?_
                    refine zc_sL (ls1 := [some (.ref 0), some (.int x1), some (.int x2), none, some (.int (y2 + (1 : Int32))), some (.int y3), some (.int y4), some (.int y5), some (.int (y5 / (12 : Int32))), some (.int v7)]) rfl ?_
                    refine zc_bipush (pc := 78) (100 : Int32) dX10_whereSat_78 (by decide) ?_
                    refine zc_iload (pc := 80) dX10_whereSat_80 rfl ?_
                    refine zc_imul (pc := 82) dX10_whereSat_82 ?_
                    refine zc_iload (pc := 83) dX10_whereSat_83 rfl ?_
                    refine zc_iadd (pc := 85) dX10_whereSat_85 ?_
                    refine zc_letI (fun v10 _ => ?_)
                    refine zc_istore (pc := 86) dX10_whereSat_86 (Nat.le_of_ble_eq_true rfl) rfl (Nat.le_of_ble_eq_true rfl) ?_
                    refine zc_sL (ls1 := [some (.ref 0), some (.int x1), some (.int x2), none, some (.int (y2 + (1 : Int32))), some (.int y3), some (.int v10), some (.int y5), some (.int (y5 / (12 : Int32))), some (.int v7)]) rfl ?_
                    refine zc_iload (pc := 88) dX10_whereSat_88 rfl ?_
                    refine zc_bipush (pc := 90) (-4 : Int32) dX10_whereSat_90 (by decide) ?_
                    refine zc_icmp_ne (pc := 92) 100 dX10_whereSat_92 (by decide) (fun _ => ?_) (fun _ => ?_)
                    · refine zc_iload (pc := 95) dX10_whereSat_95 rfl ?_
                      refine zc_goto (pc := 97) 102 dX10_whereSat_97 (by decide) ?_
                      refine zc_istore (pc := 102) dX10_whereSat_102 (Nat.le_of_ble_eq_true rfl) rfl (Nat.le_of_ble_eq_true rfl) ?_
                      refine zc_sL (ls1 := [some (.ref 0), some (.int x1), some (.int x2), none, some (.int (y2 + (1 : Int32))), some (.int v10), some (.int v10), some (.int y5), some (.int (y5 / (12 : Int32))), some (.int v7)]) rfl ?_
                      refine zc_iinc (pc := 104) (1 : Int32) dX10_whereSat_104 (by decide) rfl (Nat.le_of_ble_eq_true rfl) rfl ?_
                      refine zc_sL (ls1 := [some (.ref 0), some (.int x1), some (.int x2), none, some (.int (y2 + (1 : Int32))), some (.int v10), some (.int v10), some (.int (y5 + (1 : Int32))), some (.int (y5 / (12 : Int32))), some (.int v7)]) rfl ?_
                      refine zc_goto (pc := 107) 37 dX10_whereSat_107 (by decide) ?_
                      refine zc_drop 8 ?_
                      refine zc_drop 9 ?_
                      exact ih16 (y2 + (1 : Int32)) v10 v10 (y5 + (1 : Int32)) r9.2
                    · refine zc_iload (pc := 100) dX10_whereSat_100 rfl ?_
                      refine zc_istore (pc := 102) dX10_whereSat_102 (Nat.le_of_ble_eq_true rfl) rfl (Nat.le_of_ble_eq_true rfl) ?_
                      refine zc_sL (ls1 := [some (.ref 0), some (.int x1), some (.int x2), none, some (.int (y2 + (1 : Int32))), some (.int y3), some (.int v10), some (.int y5), some (.int (y5 / (12 : Int32))), some (.int v7)]) rfl ?_
                      refine zc_iinc (pc := 104) (1 : Int32) dX10_whereSat_104 (by decide) rfl (Nat.le_of_ble_eq_true rfl) rfl ?_
                      refine zc_sL (ls1 := [some (.ref 0), some (.int x1), some (.int x2), none, some (.int (y2 + (1 : Int32))), some (.int y3), some (.int v10), some (.int (y5 + (1 : Int32))), some (.int (y5 / (12 : Int32))), some (.int v7)]) rfl ?_
                      refine zc_goto (pc := 107) 37 dX10_whereSat_107 (by decide) ?_
                      refine zc_drop 8 ?_
                      refine zc_drop 9 ?_
                      exact ih16 (y2 + (1 : Int32)) y3 v10 (y5 + (1 : Int32)) r9.2
          exact L15 zFU (0 : Int32) (-4 : Int32) (-4 : Int32) (0 : Int32) h
      · refine zc_iload_n (pc := 21) dX10_whereSat_21 rfl rfl ?_
        exact zc_iretK (pc := 22) dX10_whereSat_22 rfl ⟨_, rfl, rfl⟩
    · refine zc_iconst (pc := 9) (-1 : Int32) dX10_whereSat_9 (by decide) ?_
      exact zc_iretK (pc := 10) dX10_whereSat_10 rfl ⟨_, rfl, rfl⟩
def zl_X10_firstUntrueStock_2 (x1 : Nat) (x2 : Int32) : Nat → Int32 → zHp → Option ((Int32 × zHp) ⊕ zHp)
  | 0, _, _ => none
  | fu + 1, y1, h2 => (if (h2.1 x1 4) ≤ y1 then some (Sum.inr h2) else (((if x2 < 0 then ((zf_X7_allStock 25 h2).bind (fun r3 => some r3)) else (if zc_ix x2 7 then some (h2.1 (25 + 5) x2.toNatClampNeg) else none)) : Option Int32).bind (fun v5 => ((zf_X8_isSkipped x1 y1 h2).bind (fun r6 => (((if r6 = 0 then (if zc_ix y1 100 then (if (h2.1 (x1 + 1) y1.toNatClampNeg) = v5 then some (Sum.inr ()) else some (Sum.inl (some (Sum.inl (y1, h2))))) else none) else some (Sum.inr ())) : Option (Option ((Int32 × zHp) ⊕ zHp) ⊕ Unit)).bind (Sum.elim (fun o => o) (fun v8 => ((zf_X7_goDays 25 (1 : Int32) h2).bind (fun r9 => zl_X10_firstUntrueStock_2 x1 x2 fu (y1 + (1 : Int32)) r9))))))))))
def zf_X10_firstUntrueStock (x1 : Nat) (x2 : Int32) (h : zHp) : Option (Int32 × zHp) :=
  ((zl_X10_firstUntrueStock_2 x1 x2 zFU (0 : Int32) h).bind (Sum.elim (fun r => some r) (fun v10 => some ((-4 : Int32), v10))))
set_option maxRecDepth 100000 in
set_option maxHeartbeats 4000000 in
theorem zt_X10_firstUntrueStock (x1 : Nat) (hx1 : zc_lay[x1]? = some (8, 0)) (x2 : Int32) (h : zHp) {r : (Int32 × zHp)} (hr : (zf_X10_firstUntrueStock x1 x2 h) = some r) : zc_Cn zM_X10_firstUntrueStock [.ref 0, .ref x1, .int x2] h (zc_mI r) := by
  refine zc_meth (mk := zc_mI) (o := (zf_X10_firstUntrueStock x1 x2 h)) (by decide +kernel) (Nat.le_of_ble_eq_true rfl) ?_ hr
  unfold zf_X10_firstUntrueStock
  refine zc_sL (ls1 := [some (.ref 0), some (.ref x1), some (.int x2), none, none]) rfl ?_
  refine zc_iconst (pc := 0) (0 : Int32) dX10_firstUntrueStock_0 (by decide) ?_
  refine zc_istore_n (pc := 1) dX10_firstUntrueStock_1 rfl (Nat.le_of_ble_eq_true rfl) rfl (Nat.le_of_ble_eq_true rfl) ?_
  refine zc_sL (ls1 := [some (.ref 0), some (.ref x1), some (.int x2), some (.int (0 : Int32)), none]) rfl ?_
  refine zc_sL (ls1 := [some (.ref 0), some (.ref x1), some (.int x2), some (.int (0 : Int32)), none]) rfl ?_
  refine zc_loopS zc_mI 70 (fun v10 => [none, none, none, none, none]) (fun v10 => []) (fun v10 => v10) (fun v10 => ?_) (fun z => ⟨_, rfl, rfl⟩) (fun k12 J11 K13 => ?_)
  · refine zc_bipush (pc := 70) (-4 : Int32) dX10_firstUntrueStock_70 (by decide) ?_
    exact zc_iretK (pc := 72) dX10_firstUntrueStock_72 rfl ⟨_, rfl, rfl⟩
  · have L14 : ∀ (fu : Nat) (y1 : Int32) (h2 : zHp), zc_G zM_X10_firstUntrueStock zc_mI 2 [some (.ref 0), some (.ref x1), some (.int x2), some (.int y1), none] [] h2 ((zl_X10_firstUntrueStock_2 x1 x2 fu y1 h2).bind k12) := by
        intro fu
        induction fu with
        | zero => intros; exact zc_noneb
        | succ fu ih15 =>
          intro y1 h2
          unfold zl_X10_firstUntrueStock_2
          refine zc_iload_n (pc := 2) dX10_firstUntrueStock_2 rfl rfl ?_
          refine zc_aload_n (pc := 3) dX10_firstUntrueStock_3 rfl rfl ?_
          refine zc_getI (pc := 4) zF_X10_95 hx1 dX10_firstUntrueStock_4 ?_
          refine zc_icmp_ge (pc := 7) 70 dX10_firstUntrueStock_7 (by decide) (fun _ => ?_) (fun _ => ?_)
          · refine zc_drop 0 ?_
            refine zc_drop 1 ?_
            refine zc_drop 2 ?_
            refine zc_drop 3 ?_
            exact J11 h2
          · refine zc_iload_n (pc := 10) dX10_firstUntrueStock_10 rfl rfl ?_
            refine zc_join 33 (fun v5 => [some (.ref 0), some (.ref x1), some (.int x2), some (.int y1), none]) (fun v5 => [.int v5]) (fun v5 => h2) (fun v5 => ?_) (fun J16 => ?_)
            · refine zc_istore (pc := 33) dX10_firstUntrueStock_33 (Nat.le_of_ble_eq_true rfl) rfl (Nat.le_of_ble_eq_true rfl) ?_
              refine zc_sL (ls1 := [some (.ref 0), some (.ref x1), some (.int x2), some (.int y1), some (.int v5)]) rfl ?_
              refine zc_aload_n (pc := 35) dX10_firstUntrueStock_35 rfl rfl ?_
              refine zc_iload_n (pc := 36) dX10_firstUntrueStock_36 rfl rfl ?_
              refine zc_callIp (pc := 37) [.ref x1, .int y1] rfl (zc_runV (ci := 8) (n0 := 0) (q := (RX8, TX8, 6)) zo_X8_isSkipped ⟨Nat.le_of_ble_eq_true rfl, Nat.le_of_ble_eq_true rfl⟩ zw_657 zw_658 zw_659 hx1 (by decide) rfl rfl dX10_firstUntrueStock_37) (Nat.le_of_ble_eq_true rfl) (fun _ hr => zt_X8_isSkipped x1 hx1 y1 h2 hr) (fun r6 => ?_)
              refine zc_joinS 56 (fun v8 => [some (.ref 0), some (.ref x1), some (.int x2), some (.int y1), none]) (fun v8 => []) (fun v8 => h2) (fun v8 => ?_) (fun J17 => ?_)
              · refine zc_aload_n (pc := 56) dX10_firstUntrueStock_56 rfl rfl ?_
                refine zc_getC (pc := 57) zF_X10_66 rfl dX10_firstUntrueStock_57 ?_
                refine zc_iconst (pc := 60) (1 : Int32) dX10_firstUntrueStock_60 (by decide) ?_
                refine zc_callV (pc := 61) [.ref 25, .int (1 : Int32)] rfl (zc_runV (ci := 7) (n0 := 0) (q := (RX7, TX7, 15)) zo_X7_goDays ⟨Nat.le_of_ble_eq_true rfl, Nat.le_of_ble_eq_true rfl⟩ zw_390 zw_391 zw_392 rfl (by decide) rfl rfl dX10_firstUntrueStock_61) (Nat.le_of_ble_eq_true rfl) (fun _ hr => zt_X7_goDays 25 rfl (1 : Int32) h2 hr) (fun r9 => ?_)
                refine zc_iinc (pc := 64) (1 : Int32) dX10_firstUntrueStock_64 (by decide) rfl (Nat.le_of_ble_eq_true rfl) rfl ?_
                refine zc_sL (ls1 := [some (.ref 0), some (.ref x1), some (.int x2), some (.int (y1 + (1 : Int32))), none]) rfl ?_
                refine zc_goto (pc := 67) 2 dX10_firstUntrueStock_67 (by decide) ?_
                exact ih15 (y1 + (1 : Int32)) r9
              · refine zc_if_ne (pc := 40) 56 dX10_firstUntrueStock_40 (by decide) (fun _ => ?_) (fun _ => ?_)
                · refine zc_aload_n (pc := 43) dX10_firstUntrueStock_43 rfl rfl ?_
                  refine zc_getO (pc := 44) zF_X10_102 hx1 dX10_firstUntrueStock_44 ?_
                  refine zc_iload_n (pc := 47) dX10_firstUntrueStock_47 rfl rfl ?_
                  refine zc_guard (fun g7 => ?_)
                  refine zc_aldi (pc := 48) (zs_q hx1) g7 dX10_firstUntrueStock_48 ?_
                  refine zc_iload (pc := 49) dX10_firstUntrueStock_49 rfl ?_
                  refine zc_icmp_eq (pc := 51) 56 dX10_firstUntrueStock_51 (by decide) (fun _ => ?_) (fun _ => ?_)
                  · refine zc_drop 4 ?_
                    exact J17 ()
                  · refine zc_iload_n (pc := 54) dX10_firstUntrueStock_54 rfl rfl ?_
                    exact zc_iretK (pc := 55) dX10_firstUntrueStock_55 rfl (K13 _)
                · refine zc_drop 4 ?_
                  exact J17 ()
            · refine zc_if_lt (pc := 11) 26 dX10_firstUntrueStock_11 (by decide) (fun _ => ?_) (fun _ => ?_)
              · refine zc_aload_n (pc := 26) dX10_firstUntrueStock_26 rfl rfl ?_
                refine zc_getC (pc := 27) zF_X10_66 rfl dX10_firstUntrueStock_27 ?_
                refine zc_callIp (pc := 30) [.ref 25] rfl (zc_runV (ci := 7) (n0 := 0) (q := (RX7, TX7, 15)) zo_X7_allStock ⟨Nat.le_of_ble_eq_true rfl, Nat.le_of_ble_eq_true rfl⟩ zw_510 zw_511 zw_512 rfl (by decide) rfl rfl dX10_firstUntrueStock_30) (Nat.le_of_ble_eq_true rfl) (fun _ hr => zt_X7_allStock 25 rfl h2 hr) (fun r3 => ?_)
                exact J16 r3
              · refine zc_aload_n (pc := 14) dX10_firstUntrueStock_14 rfl rfl ?_
                refine zc_getC (pc := 15) zF_X10_66 rfl dX10_firstUntrueStock_15 ?_
                refine zc_getO (pc := 18) zF_X10_124 rfl dX10_firstUntrueStock_18 ?_
                refine zc_iload_n (pc := 21) dX10_firstUntrueStock_21 rfl rfl ?_
                refine zc_guard (fun g4 => ?_)
                refine zc_aldi (pc := 22) rfl g4 dX10_firstUntrueStock_22 ?_
                refine zc_goto (pc := 23) 33 dX10_firstUntrueStock_23 (by decide) ?_
                exact J16 (h2.1 (25 + 5) x2.toNatClampNeg)
    exact L14 zFU (0 : Int32) h
def zl_X10_whatIs_43 (x1 : Int32) (x2 : Int32) (x3 : Int32) : Nat → Int32 → Int32 → zHp → Option (Int32 × zHp)
  | 0, _, _, _ => none
  | fu + 1, y3, y4, h5 => (((if x3 = 0 then some (8 : Int32) else some (10 : Int32)) : Option Int32).bind (fun v6 => (if v6 ≤ y4 then some (y3, h5) else ((zf_X7_become 25 16 h5).bind (fun r7 => (((if x3 = 0 then (if zc_ix x2 7 then ((zf_X7_dress 25 x2 y4 (r7.1 (16 + 2) x2.toNatClampNeg) r7).bind (fun r9 => some r9)) else none) else (if zc_ix x2 7 then ((zf_X7_dress 25 x2 (r7.1 (16 + 1) x2.toNatClampNeg) y4 r7).bind (fun r11 => some r11)) else none)) : Option zHp).bind (fun v12 => (if zc_ix x1 8 then ((zf_X10_firstUntrueStock (43 + 1 + 2 * x1.toNatClampNeg) x2 v12).bind (fun r14 => (if r14.1 = (-4 : Int32) then ((some (y3 ||| ((1 : Int32) <<< (y4 &&& 31))) : Option Int32).bind (fun v15 => zl_X10_whatIs_43 x1 x2 x3 fu v15 (y4 + (1 : Int32)) r14.2)) else zl_X10_whatIs_43 x1 x2 x3 fu y3 (y4 + (1 : Int32)) r14.2))) else none))))))))
def zf_X10_whatIs (x1 : Int32) (x2 : Int32) (x3 : Int32) (h : zHp) : Option (Int32 × zHp) :=
  ((zf_X7_isThere 16 x2 h).bind (fun r1 => (if r1 = 0 then some ((-1 : Int32), h) else (if x3 < 0 then some ((-1 : Int32), h) else (if x3 ≤ (1 : Int32) then ((zf_X10_refuseRow x1 h).bind (fun r2 => (if r2 = 0 then ((zl_X10_whatIs_43 x1 x2 x3 zFU (0 : Int32) (0 : Int32) h).bind (fun v16 => some (v16.1, v16.2))) else some (r2, h)))) else some ((-1 : Int32), h))))))
set_option maxRecDepth 100000 in
set_option maxHeartbeats 4000000 in
theorem zt_X10_whatIs (x1 : Int32) (x2 : Int32) (x3 : Int32) (h : zHp) {r : (Int32 × zHp)} (hr : (zf_X10_whatIs x1 x2 x3 h) = some r) : zc_Cn zM_X10_whatIs [.ref 0, .int x1, .int x2, .int x3] h (zc_mI r) := by
  refine zc_meth (mk := zc_mI) (o := (zf_X10_whatIs x1 x2 x3 h)) (by decide +kernel) (Nat.le_of_ble_eq_true rfl) ?_ hr
  unfold zf_X10_whatIs
  refine zc_sL (ls1 := [some (.ref 0), some (.int x1), some (.int x2), some (.int x3), none, none, none]) rfl ?_
  refine zc_aload_n (pc := 0) dX10_whatIs_0 rfl rfl ?_
  refine zc_getC (pc := 1) zF_X10_62 rfl dX10_whatIs_1 ?_
  refine zc_iload_n (pc := 4) dX10_whatIs_4 rfl rfl ?_
  refine zc_callIp (pc := 5) [.ref 16, .int x2] rfl (zc_runV (ci := 7) (n0 := 0) (q := (RX7, TX7, 15)) zo_X7_isThere ⟨Nat.le_of_ble_eq_true rfl, Nat.le_of_ble_eq_true rfl⟩ zw_470 zw_379 zw_380 rfl (by decide) rfl rfl dX10_whatIs_5) (Nat.le_of_ble_eq_true rfl) (fun _ hr => zt_X7_isThere 16 rfl x2 h hr) (fun r1 => ?_)
  refine zc_if_eq (pc := 8) 20 dX10_whatIs_8 (by decide) (fun _ => ?_) (fun _ => ?_)
  · refine zc_iconst (pc := 20) (-1 : Int32) dX10_whatIs_20 (by decide) ?_
    exact zc_iretK (pc := 21) dX10_whatIs_21 rfl ⟨_, rfl, rfl⟩
  · refine zc_iload_n (pc := 11) dX10_whatIs_11 rfl rfl ?_
    refine zc_if_lt (pc := 12) 20 dX10_whatIs_12 (by decide) (fun _ => ?_) (fun _ => ?_)
    · refine zc_iconst (pc := 20) (-1 : Int32) dX10_whatIs_20 (by decide) ?_
      exact zc_iretK (pc := 21) dX10_whatIs_21 rfl ⟨_, rfl, rfl⟩
    · refine zc_iload_n (pc := 15) dX10_whatIs_15 rfl rfl ?_
      refine zc_iconst (pc := 16) (1 : Int32) dX10_whatIs_16 (by decide) ?_
      refine zc_icmp_le (pc := 17) 22 dX10_whatIs_17 (by decide) (fun _ => ?_) (fun _ => ?_)
      · refine zc_aload_n (pc := 22) dX10_whatIs_22 rfl rfl ?_
        refine zc_iload_n (pc := 23) dX10_whatIs_23 rfl rfl ?_
        refine zc_callIp (pc := 24) [.ref 0, .int x1] rfl (zc_runV (ci := 10) (n0 := 0) (q := (RX10, TX10, 12)) zo_X10_refuseRow ⟨Nat.le_of_ble_eq_true rfl, Nat.le_of_ble_eq_true rfl⟩ zw_227 zw_229 zs_0 rfl (by decide) rfl rfl dX10_whatIs_24) (Nat.le_of_ble_eq_true rfl) (fun _ hr => zt_X10_refuseRow x1 h hr) (fun r2 => ?_)
        refine zc_istore (pc := 27) dX10_whatIs_27 (Nat.le_of_ble_eq_true rfl) rfl (Nat.le_of_ble_eq_true rfl) ?_
        refine zc_sL (ls1 := [some (.ref 0), some (.int x1), some (.int x2), some (.int x3), some (.int r2), none, none]) rfl ?_
        refine zc_iload (pc := 29) dX10_whatIs_29 rfl ?_
        refine zc_if_eq (pc := 31) 37 dX10_whatIs_31 (by decide) (fun _ => ?_) (fun _ => ?_)
        · refine zc_iconst (pc := 37) (0 : Int32) dX10_whatIs_37 (by decide) ?_
          refine zc_istore (pc := 38) dX10_whatIs_38 (Nat.le_of_ble_eq_true rfl) rfl (Nat.le_of_ble_eq_true rfl) ?_
          refine zc_sL (ls1 := [some (.ref 0), some (.int x1), some (.int x2), some (.int x3), some (.int r2), some (.int (0 : Int32)), none]) rfl ?_
          refine zc_iconst (pc := 40) (0 : Int32) dX10_whatIs_40 (by decide) ?_
          refine zc_istore (pc := 41) dX10_whatIs_41 (Nat.le_of_ble_eq_true rfl) rfl (Nat.le_of_ble_eq_true rfl) ?_
          refine zc_sL (ls1 := [some (.ref 0), some (.int x1), some (.int x2), some (.int x3), some (.int r2), some (.int (0 : Int32)), some (.int (0 : Int32))]) rfl ?_
          refine zc_drop 4 ?_
          refine zc_sL (ls1 := [some (.ref 0), some (.int x1), some (.int x2), some (.int x3), none, some (.int (0 : Int32)), some (.int (0 : Int32))]) rfl ?_
          refine zc_loop 146 (fun v16 => [none, none, none, none, none, some (.int v16.1), none]) (fun v16 => []) (fun v16 => v16.2) (fun v16 => ?_) (fun k18 J17 => ?_)
          · refine zc_iload (pc := 146) dX10_whatIs_146 rfl ?_
            exact zc_iretK (pc := 148) dX10_whatIs_148 rfl ⟨_, rfl, rfl⟩
          · have L20 : ∀ (fu : Nat) (y3 : Int32) (y4 : Int32) (h5 : zHp), zc_G zM_X10_whatIs zc_mI 43 [some (.ref 0), some (.int x1), some (.int x2), some (.int x3), none, some (.int y3), some (.int y4)] [] h5 ((zl_X10_whatIs_43 x1 x2 x3 fu y3 y4 h5).bind k18) := by
                intro fu
                induction fu with
                | zero => intros; exact zc_noneb
                | succ fu ih21 =>
                  intro y3 y4 h5
                  unfold zl_X10_whatIs_43
                  refine zc_iload (pc := 43) dX10_whatIs_43 rfl ?_
                  refine zc_iload_n (pc := 45) dX10_whatIs_45 rfl rfl ?_
                  refine zc_join 56 (fun v6 => [some (.ref 0), some (.int x1), some (.int x2), some (.int x3), none, some (.int y3), some (.int y4)]) (fun v6 => [.int v6, .int y4]) (fun v6 => h5) (fun v6 => ?_) (fun J22 => ?_)
                  · refine zc_icmp_ge (pc := 56) 146 dX10_whatIs_56 (by decide) (fun _ => ?_) (fun _ => ?_)
                    · refine zc_drop 0 ?_
                      refine zc_drop 1 ?_
                      refine zc_drop 2 ?_
                      refine zc_drop 3 ?_
                      refine zc_drop 6 ?_
                      exact J17 (y3, h5)
                    · refine zc_aload_n (pc := 59) dX10_whatIs_59 rfl rfl ?_
                      refine zc_getC (pc := 60) zF_X10_66 rfl dX10_whatIs_60 ?_
                      refine zc_aload_n (pc := 63) dX10_whatIs_63 rfl rfl ?_
                      refine zc_getC (pc := 64) zF_X10_62 rfl dX10_whatIs_64 ?_
                      refine zc_callV (pc := 67) [.ref 25, .ref 16] rfl (zc_runV (ci := 7) (n0 := 0) (q := (RX7, TX7, 15)) zo_X7_become ⟨Nat.le_of_ble_eq_true rfl, Nat.le_of_ble_eq_true rfl⟩ zw_244 zw_245 zw_246 rfl (by decide) rfl rfl dX10_whatIs_67) (Nat.le_of_ble_eq_true rfl) (fun _ hr => zt_X7_become 25 rfl 16 rfl h5 hr) (fun r7 => ?_)
                      refine zc_iload_n (pc := 70) dX10_whatIs_70 rfl rfl ?_
                      refine zc_join 115 (fun v12 => [some (.ref 0), some (.int x1), some (.int x2), some (.int x3), none, some (.int y3), some (.int y4)]) (fun v12 => []) (fun v12 => v12) (fun v12 => ?_) (fun J23 => ?_)
                      · refine zc_aload_n (pc := 115) dX10_whatIs_115 rfl rfl ?_
                        refine zc_aload_n (pc := 116) dX10_whatIs_116 rfl rfl ?_
                        refine zc_getC (pc := 117) zF_X10_74 rfl dX10_whatIs_117 ?_
                        refine zc_iload_n (pc := 120) dX10_whatIs_120 rfl rfl ?_
                        refine zc_guard (fun g13 => ?_)
                        refine zc_aldS (pc := 121) rfl g13 dX10_whatIs_121 ?_
                        refine zc_iload_n (pc := 122) dX10_whatIs_122 rfl rfl ?_
                        refine zc_callI (pc := 123) [.ref 0, .ref (43 + 1 + 2 * x1.toNatClampNeg), .int x2] rfl (zc_runV (ci := 10) (n0 := 0) (q := (RX10, TX10, 12)) zo_X10_firstUntrueStock ⟨Nat.le_of_ble_eq_true rfl, Nat.le_of_ble_eq_true rfl⟩ zw_667 zw_669 zs_13 rfl (by decide) rfl rfl dX10_whatIs_123) (Nat.le_of_ble_eq_true rfl) (fun _ hr => zt_X10_firstUntrueStock (43 + 1 + 2 * x1.toNatClampNeg) (zs_s g13) x2 v12 hr) (fun r14 => ?_)
                        refine zc_bipush (pc := 126) (-4 : Int32) dX10_whatIs_126 (by decide) ?_
                        refine zc_icmp_ne (pc := 128) 140 dX10_whatIs_128 (by decide) (fun _ => ?_) (fun _ => ?_)
                        · refine zc_iload (pc := 131) dX10_whatIs_131 rfl ?_
                          refine zc_iconst (pc := 133) (1 : Int32) dX10_whatIs_133 (by decide) ?_
                          refine zc_iload (pc := 134) dX10_whatIs_134 rfl ?_
                          refine zc_ishl (pc := 136) dX10_whatIs_136 ?_
                          refine zc_ior (pc := 137) dX10_whatIs_137 ?_
                          refine zc_letI (fun v15 _ => ?_)
                          refine zc_istore (pc := 138) dX10_whatIs_138 (Nat.le_of_ble_eq_true rfl) rfl (Nat.le_of_ble_eq_true rfl) ?_
                          refine zc_sL (ls1 := [some (.ref 0), some (.int x1), some (.int x2), some (.int x3), none, some (.int v15), some (.int y4)]) rfl ?_
                          refine zc_iinc (pc := 140) (1 : Int32) dX10_whatIs_140 (by decide) rfl (Nat.le_of_ble_eq_true rfl) rfl ?_
                          refine zc_sL (ls1 := [some (.ref 0), some (.int x1), some (.int x2), some (.int x3), none, some (.int v15), some (.int (y4 + (1 : Int32)))]) rfl ?_
                          refine zc_goto (pc := 143) 43 dX10_whatIs_143 (by decide) ?_
                          exact ih21 v15 (y4 + (1 : Int32)) r14.2
                        · refine zc_iinc (pc := 140) (1 : Int32) dX10_whatIs_140 (by decide) rfl (Nat.le_of_ble_eq_true rfl) rfl ?_
                          refine zc_sL (ls1 := [some (.ref 0), some (.int x1), some (.int x2), some (.int x3), none, some (.int y3), some (.int (y4 + (1 : Int32)))]) rfl ?_
                          refine zc_goto (pc := 143) 43 dX10_whatIs_143 (by decide) ?_
                          exact ih21 y3 (y4 + (1 : Int32)) r14.2
                      · refine zc_if_ne (pc := 71) 96 dX10_whatIs_71 (by decide) (fun _ => ?_) (fun _ => ?_)
                        · refine zc_aload_n (pc := 74) dX10_whatIs_74 rfl rfl ?_
                          refine zc_getC (pc := 75) zF_X10_66 rfl dX10_whatIs_75 ?_
                          refine zc_iload_n (pc := 78) dX10_whatIs_78 rfl rfl ?_
                          refine zc_iload (pc := 79) dX10_whatIs_79 rfl ?_
                          refine zc_aload_n (pc := 81) dX10_whatIs_81 rfl rfl ?_
                          refine zc_getC (pc := 82) zF_X10_62 rfl dX10_whatIs_82 ?_
                          refine zc_getO (pc := 85) zF_X10_115 rfl dX10_whatIs_85 ?_
                          refine zc_iload_n (pc := 88) dX10_whatIs_88 rfl rfl ?_
                          refine zc_guard (fun g8 => ?_)
                          refine zc_aldi (pc := 89) rfl g8 dX10_whatIs_89 ?_
                          refine zc_callV (pc := 90) [.ref 25, .int x2, .int y4, .int (r7.1 (16 + 2) x2.toNatClampNeg)] rfl (zc_runV (ci := 7) (n0 := 0) (q := (RX7, TX7, 15)) zo_X7_dress ⟨Nat.le_of_ble_eq_true rfl, Nat.le_of_ble_eq_true rfl⟩ zw_666 zw_281 zw_282 rfl (by decide) rfl rfl dX10_whatIs_90) (Nat.le_of_ble_eq_true rfl) (fun _ hr => zt_X7_dress 25 rfl x2 y4 (r7.1 (16 + 2) x2.toNatClampNeg) r7 hr) (fun r9 => ?_)
                          refine zc_goto (pc := 93) 115 dX10_whatIs_93 (by decide) ?_
                          exact J23 r9
                        · refine zc_aload_n (pc := 96) dX10_whatIs_96 rfl rfl ?_
                          refine zc_getC (pc := 97) zF_X10_66 rfl dX10_whatIs_97 ?_
                          refine zc_iload_n (pc := 100) dX10_whatIs_100 rfl rfl ?_
                          refine zc_aload_n (pc := 101) dX10_whatIs_101 rfl rfl ?_
                          refine zc_getC (pc := 102) zF_X10_62 rfl dX10_whatIs_102 ?_
                          refine zc_getO (pc := 105) zF_X10_112 rfl dX10_whatIs_105 ?_
                          refine zc_iload_n (pc := 108) dX10_whatIs_108 rfl rfl ?_
                          refine zc_guard (fun g10 => ?_)
                          refine zc_aldi (pc := 109) rfl g10 dX10_whatIs_109 ?_
                          refine zc_iload (pc := 110) dX10_whatIs_110 rfl ?_
                          refine zc_callV (pc := 112) [.ref 25, .int x2, .int (r7.1 (16 + 1) x2.toNatClampNeg), .int y4] rfl (zc_runV (ci := 7) (n0 := 0) (q := (RX7, TX7, 15)) zo_X7_dress ⟨Nat.le_of_ble_eq_true rfl, Nat.le_of_ble_eq_true rfl⟩ zw_666 zw_281 zw_282 rfl (by decide) rfl rfl dX10_whatIs_112) (Nat.le_of_ble_eq_true rfl) (fun _ hr => zt_X7_dress 25 rfl x2 (r7.1 (16 + 1) x2.toNatClampNeg) y4 r7 hr) (fun r11 => ?_)
                          exact J23 r11
                  · refine zc_if_ne (pc := 46) 54 dX10_whatIs_46 (by decide) (fun _ => ?_) (fun _ => ?_)
                    · refine zc_bipush (pc := 49) (8 : Int32) dX10_whatIs_49 (by decide) ?_
                      refine zc_goto (pc := 51) 56 dX10_whatIs_51 (by decide) ?_
                      exact J22 (8 : Int32)
                    · refine zc_bipush (pc := 54) (10 : Int32) dX10_whatIs_54 (by decide) ?_
                      exact J22 (10 : Int32)
            exact L20 zFU (0 : Int32) (0 : Int32) h
        · refine zc_iload (pc := 34) dX10_whatIs_34 rfl ?_
          exact zc_iretK (pc := 36) dX10_whatIs_36 rfl ⟨_, rfl, rfl⟩
      · refine zc_iconst (pc := 20) (-1 : Int32) dX10_whatIs_20 (by decide) ?_
        exact zc_iretK (pc := 21) dX10_whatIs_21 rfl ⟨_, rfl, rfl⟩
def zf_X10_payPair (x1 : Int32) (x2 : Int32) (x3 : Int32) (x4 : Int32) (h : zHp) : Option zHp :=
  (((if (x4 >>> ((1 : Int32) &&& 31)) = 0 then some (1 : Int32) else some (0 : Int32)) : Option Int32).bind (fun v1 => (((if (x4 &&& (1 : Int32)) = 0 then some (1 : Int32) else some (0 : Int32)) : Option Int32).bind (fun v2 => ((zf_X7_become 25 16 h).bind (fun r3 => (((if v1 = 0 then some r3 else (if zc_ix x1 7 then ((some (zc_ui r3 (25 + 4) x1.toNatClampNeg x1) : Option zHp).bind (fun h5 => some h5)) else none)) : Option zHp).bind (fun v6 => (((if v2 = 0 then some v6 else (if zc_ix x2 7 then ((some (zc_ui v6 (25 + 4) x2.toNatClampNeg x2) : Option zHp).bind (fun h8 => some h8)) else none)) : Option zHp).bind (fun v9 => ((zf_X7_goDays 25 x3 v9).bind (fun r10 => (if zc_ix x1 7 then (((if v1 = 0 then some (0 : Int32) else some (5 : Int32)) : Option Int32).bind (fun v12 => (if zc_ix x4 4 then ((some (zc_ui r10 3 x4.toNatClampNeg ((r10.1 (25 + 5) x1.toNatClampNeg) + v12)) : Option zHp).bind (fun h14 => (if zc_ix x2 7 then (((if v2 = 0 then some (0 : Int32) else some (5 : Int32)) : Option Int32).bind (fun v16 => (if zc_ix x4 4 then ((some (zc_ui h14 4 x4.toNatClampNeg ((h14.1 (25 + 5) x2.toNatClampNeg) + v16)) : Option zHp).bind (fun h18 => some h18)) else none))) else none))) else none))) else none)))))))))))))
set_option maxRecDepth 100000 in
set_option maxHeartbeats 4000000 in
theorem zt_X10_payPair (x1 : Int32) (x2 : Int32) (x3 : Int32) (x4 : Int32) (h : zHp) {r : zHp} (hr : (zf_X10_payPair x1 x2 x3 x4 h) = some r) : zc_Cn zM_X10_payPair [.ref 0, .int x1, .int x2, .int x3, .int x4] h (zc_mV r) := by
  refine zc_meth (mk := zc_mV) (o := (zf_X10_payPair x1 x2 x3 x4 h)) (by decide +kernel) (Nat.le_of_ble_eq_true rfl) ?_ hr
  unfold zf_X10_payPair
  refine zc_sL (ls1 := [some (.ref 0), some (.int x1), some (.int x2), some (.int x3), some (.int x4), none, none]) rfl ?_
  refine zc_iload (pc := 0) dX10_payPair_0 rfl ?_
  refine zc_iconst (pc := 2) (1 : Int32) dX10_payPair_2 (by decide) ?_
  refine zc_ishr (pc := 3) dX10_payPair_3 ?_
  refine zc_join 12 (fun v1 => [some (.ref 0), some (.int x1), some (.int x2), some (.int x3), some (.int x4), none, none]) (fun v1 => [.int v1]) (fun v1 => h) (fun v1 => ?_) (fun J19 => ?_)
  · refine zc_istore (pc := 12) dX10_payPair_12 (Nat.le_of_ble_eq_true rfl) rfl (Nat.le_of_ble_eq_true rfl) ?_
    refine zc_sL (ls1 := [some (.ref 0), some (.int x1), some (.int x2), some (.int x3), some (.int x4), some (.int v1), none]) rfl ?_
    refine zc_iload (pc := 14) dX10_payPair_14 rfl ?_
    refine zc_iconst (pc := 16) (1 : Int32) dX10_payPair_16 (by decide) ?_
    refine zc_iand (pc := 17) dX10_payPair_17 ?_
    refine zc_join 26 (fun v2 => [some (.ref 0), some (.int x1), some (.int x2), some (.int x3), some (.int x4), some (.int v1), none]) (fun v2 => [.int v2]) (fun v2 => h) (fun v2 => ?_) (fun J20 => ?_)
    · refine zc_istore (pc := 26) dX10_payPair_26 (Nat.le_of_ble_eq_true rfl) rfl (Nat.le_of_ble_eq_true rfl) ?_
      refine zc_sL (ls1 := [some (.ref 0), some (.int x1), some (.int x2), some (.int x3), some (.int x4), some (.int v1), some (.int v2)]) rfl ?_
      refine zc_aload_n (pc := 28) dX10_payPair_28 rfl rfl ?_
      refine zc_getC (pc := 29) zF_X10_66 rfl dX10_payPair_29 ?_
      refine zc_aload_n (pc := 32) dX10_payPair_32 rfl rfl ?_
      refine zc_getC (pc := 33) zF_X10_62 rfl dX10_payPair_33 ?_
      refine zc_callV (pc := 36) [.ref 25, .ref 16] rfl (zc_runV (ci := 7) (n0 := 0) (q := (RX7, TX7, 15)) zo_X7_become ⟨Nat.le_of_ble_eq_true rfl, Nat.le_of_ble_eq_true rfl⟩ zw_244 zw_245 zw_246 rfl (by decide) rfl rfl dX10_payPair_36) (Nat.le_of_ble_eq_true rfl) (fun _ hr => zt_X7_become 25 rfl 16 rfl h hr) (fun r3 => ?_)
      refine zc_iload (pc := 39) dX10_payPair_39 rfl ?_
      refine zc_join 54 (fun v6 => [some (.ref 0), some (.int x1), some (.int x2), some (.int x3), some (.int x4), some (.int v1), some (.int v2)]) (fun v6 => []) (fun v6 => v6) (fun v6 => ?_) (fun J21 => ?_)
      · refine zc_iload (pc := 54) dX10_payPair_54 rfl ?_
        refine zc_join 69 (fun v9 => [some (.ref 0), some (.int x1), some (.int x2), some (.int x3), some (.int x4), some (.int v1), some (.int v2)]) (fun v9 => []) (fun v9 => v9) (fun v9 => ?_) (fun J22 => ?_)
        · refine zc_aload_n (pc := 69) dX10_payPair_69 rfl rfl ?_
          refine zc_getC (pc := 70) zF_X10_66 rfl dX10_payPair_70 ?_
          refine zc_iload_n (pc := 73) dX10_payPair_73 rfl rfl ?_
          refine zc_callV (pc := 74) [.ref 25, .int x3] rfl (zc_runV (ci := 7) (n0 := 0) (q := (RX7, TX7, 15)) zo_X7_goDays ⟨Nat.le_of_ble_eq_true rfl, Nat.le_of_ble_eq_true rfl⟩ zw_390 zw_391 zw_392 rfl (by decide) rfl rfl dX10_payPair_74) (Nat.le_of_ble_eq_true rfl) (fun _ hr => zt_X7_goDays 25 rfl x3 v9 hr) (fun r10 => ?_)
          refine zc_aload_n (pc := 77) dX10_payPair_77 rfl rfl ?_
          refine zc_getC (pc := 78) zF_X10_16 rfl dX10_payPair_78 ?_
          refine zc_iload (pc := 81) dX10_payPair_81 rfl ?_
          refine zc_aload_n (pc := 83) dX10_payPair_83 rfl rfl ?_
          refine zc_getC (pc := 84) zF_X10_66 rfl dX10_payPair_84 ?_
          refine zc_getO (pc := 87) zF_X10_124 rfl dX10_payPair_87 ?_
          refine zc_iload_n (pc := 90) dX10_payPair_90 rfl rfl ?_
          refine zc_guard (fun g11 => ?_)
          refine zc_aldi (pc := 91) rfl g11 dX10_payPair_91 ?_
          refine zc_iload (pc := 92) dX10_payPair_92 rfl ?_
          refine zc_join 102 (fun v12 => [some (.ref 0), none, some (.int x2), none, some (.int x4), none, some (.int v2)]) (fun v12 => [.int v12, .int (r10.1 (25 + 5) x1.toNatClampNeg), .int x4, .ref 3]) (fun v12 => r10) (fun v12 => ?_) (fun J23 => ?_)
          · refine zc_iadd (pc := 102) dX10_payPair_102 ?_
            refine zc_guard (fun g13 => ?_)
            refine zc_asti (pc := 103) rfl g13 dX10_payPair_103 ?_
            refine zc_letH (fun h14 _ => ?_)
            refine zc_aload_n (pc := 104) dX10_payPair_104 rfl rfl ?_
            refine zc_getC (pc := 105) zF_X10_19 rfl dX10_payPair_105 ?_
            refine zc_iload (pc := 108) dX10_payPair_108 rfl ?_
            refine zc_aload_n (pc := 110) dX10_payPair_110 rfl rfl ?_
            refine zc_getC (pc := 111) zF_X10_66 rfl dX10_payPair_111 ?_
            refine zc_getO (pc := 114) zF_X10_124 rfl dX10_payPair_114 ?_
            refine zc_iload_n (pc := 117) dX10_payPair_117 rfl rfl ?_
            refine zc_guard (fun g15 => ?_)
            refine zc_aldi (pc := 118) rfl g15 dX10_payPair_118 ?_
            refine zc_iload (pc := 119) dX10_payPair_119 rfl ?_
            refine zc_join 129 (fun v16 => [none, none, none, none, none, none, none]) (fun v16 => [.int v16, .int (h14.1 (25 + 5) x2.toNatClampNeg), .int x4, .ref 4]) (fun v16 => h14) (fun v16 => ?_) (fun J24 => ?_)
            · refine zc_iadd (pc := 129) dX10_payPair_129 ?_
              refine zc_guard (fun g17 => ?_)
              refine zc_asti (pc := 130) rfl g17 dX10_payPair_130 ?_
              refine zc_letH (fun h18 _ => ?_)
              exact zc_vretK (pc := 131) dX10_payPair_131 rfl ⟨_, rfl, rfl⟩
            · refine zc_if_eq (pc := 121) 128 dX10_payPair_121 (by decide) (fun _ => ?_) (fun _ => ?_)
              · refine zc_iconst (pc := 128) (0 : Int32) dX10_payPair_128 (by decide) ?_
                refine zc_drop 0 ?_
                refine zc_drop 2 ?_
                refine zc_drop 4 ?_
                refine zc_drop 6 ?_
                exact J24 (0 : Int32)
              · refine zc_iconst (pc := 124) (5 : Int32) dX10_payPair_124 (by decide) ?_
                refine zc_goto (pc := 125) 129 dX10_payPair_125 (by decide) ?_
                refine zc_drop 0 ?_
                refine zc_drop 2 ?_
                refine zc_drop 4 ?_
                refine zc_drop 6 ?_
                exact J24 (5 : Int32)
          · refine zc_if_eq (pc := 94) 101 dX10_payPair_94 (by decide) (fun _ => ?_) (fun _ => ?_)
            · refine zc_iconst (pc := 101) (0 : Int32) dX10_payPair_101 (by decide) ?_
              refine zc_drop 1 ?_
              refine zc_drop 3 ?_
              refine zc_drop 5 ?_
              exact J23 (0 : Int32)
            · refine zc_iconst (pc := 97) (5 : Int32) dX10_payPair_97 (by decide) ?_
              refine zc_goto (pc := 98) 102 dX10_payPair_98 (by decide) ?_
              refine zc_drop 1 ?_
              refine zc_drop 3 ?_
              refine zc_drop 5 ?_
              exact J23 (5 : Int32)
        · refine zc_if_eq (pc := 56) 69 dX10_payPair_56 (by decide) (fun _ => ?_) (fun _ => ?_)
          · exact J22 v6
          · refine zc_aload_n (pc := 59) dX10_payPair_59 rfl rfl ?_
            refine zc_getC (pc := 60) zF_X10_66 rfl dX10_payPair_60 ?_
            refine zc_getO (pc := 63) zF_X10_121 rfl dX10_payPair_63 ?_
            refine zc_iload_n (pc := 66) dX10_payPair_66 rfl rfl ?_
            refine zc_iload_n (pc := 67) dX10_payPair_67 rfl rfl ?_
            refine zc_guard (fun g7 => ?_)
            refine zc_asti (pc := 68) rfl g7 dX10_payPair_68 ?_
            refine zc_letH (fun h8 _ => ?_)
            exact J22 h8
      · refine zc_if_eq (pc := 41) 54 dX10_payPair_41 (by decide) (fun _ => ?_) (fun _ => ?_)
        · exact J21 r3
        · refine zc_aload_n (pc := 44) dX10_payPair_44 rfl rfl ?_
          refine zc_getC (pc := 45) zF_X10_66 rfl dX10_payPair_45 ?_
          refine zc_getO (pc := 48) zF_X10_121 rfl dX10_payPair_48 ?_
          refine zc_iload_n (pc := 51) dX10_payPair_51 rfl rfl ?_
          refine zc_iload_n (pc := 52) dX10_payPair_52 rfl rfl ?_
          refine zc_guard (fun g4 => ?_)
          refine zc_asti (pc := 53) rfl g4 dX10_payPair_53 ?_
          refine zc_letH (fun h5 _ => ?_)
          exact J21 h5
    · refine zc_if_ne (pc := 18) 25 dX10_payPair_18 (by decide) (fun _ => ?_) (fun _ => ?_)
      · refine zc_iconst (pc := 21) (1 : Int32) dX10_payPair_21 (by decide) ?_
        refine zc_goto (pc := 22) 26 dX10_payPair_22 (by decide) ?_
        exact J20 (1 : Int32)
      · refine zc_iconst (pc := 25) (0 : Int32) dX10_payPair_25 (by decide) ?_
        exact J20 (0 : Int32)
  · refine zc_if_ne (pc := 4) 11 dX10_payPair_4 (by decide) (fun _ => ?_) (fun _ => ?_)
    · refine zc_iconst (pc := 7) (1 : Int32) dX10_payPair_7 (by decide) ?_
      refine zc_goto (pc := 8) 12 dX10_payPair_8 (by decide) ?_
      exact J19 (1 : Int32)
    · refine zc_iconst (pc := 11) (0 : Int32) dX10_payPair_11 (by decide) ?_
      exact J19 (0 : Int32)
def zl_X10_two_42 (x1 : Int32) (x2 : Int32) (x3 : Int32) : Nat → Int32 → zHp → Option zHp
  | 0, _, _ => none
  | fu + 1, y3, h4 => (if (4 : Int32) ≤ y3 then some h4 else ((zf_X10_payPair x1 x2 x3 y3 h4).bind (fun r5 => zl_X10_two_42 x1 x2 x3 fu (y3 + (1 : Int32)) r5)))
def zl_X10_two_66 (v6 : zHp) : Nat → Int32 → Option ((Int32 × zHp) ⊕ Int32)
  | 0, _ => none
  | fu + 1, y7 => (if (4 : Int32) ≤ y7 then some (Sum.inl ((-4 : Int32), v6)) else (if zc_ix y7 4 then (if zc_ix (y7 ^^^ (2 : Int32)) 4 then (if (v6.1 3 y7.toNatClampNeg) < (v6.1 3 (y7 ^^^ (2 : Int32)).toNatClampNeg) then zl_X10_two_66 v6 fu (y7 + (1 : Int32)) else (if zc_ix y7 4 then (if zc_ix (y7 ^^^ (1 : Int32)) 4 then (if (v6.1 4 y7.toNatClampNeg) < (v6.1 4 (y7 ^^^ (1 : Int32)).toNatClampNeg) then zl_X10_two_66 v6 fu (y7 + (1 : Int32)) else some (Sum.inr y7)) else none) else none)) else none) else none))
def zf_X10_two (x1 : Int32) (x2 : Int32) (x3 : Int32) (h : zHp) : Option (Int32 × zHp) :=
  ((zf_X7_isThere 16 x1 h).bind (fun r1 => (if r1 = 0 then some ((-1 : Int32), h) else ((zf_X7_isThere 16 x2 h).bind (fun r2 => (if r2 = 0 then some ((-1 : Int32), h) else (if x1 = x2 then some ((-1 : Int32), h) else (if x3 < 0 then some ((-1 : Int32), h) else (if x3 ≤ (30 : Int32) then ((zl_X10_two_42 x1 x2 x3 zFU (0 : Int32) h).bind (fun v6 => ((zl_X10_two_66 v6 zFU (0 : Int32)).bind (Sum.elim (fun r => some r) (fun v12 => some ((((10 : Int32) * (v12 >>> ((1 : Int32) &&& 31))) + (v12 &&& (1 : Int32))), v6)))))) else some ((-1 : Int32), h))))))))))
set_option maxRecDepth 100000 in
set_option maxHeartbeats 4000000 in
theorem zt_X10_two (x1 : Int32) (x2 : Int32) (x3 : Int32) (h : zHp) {r : (Int32 × zHp)} (hr : (zf_X10_two x1 x2 x3 h) = some r) : zc_Cn zM_X10_two [.ref 0, .int x1, .int x2, .int x3] h (zc_mI r) := by
  refine zc_meth (mk := zc_mI) (o := (zf_X10_two x1 x2 x3 h)) (by decide +kernel) (Nat.le_of_ble_eq_true rfl) ?_ hr
  unfold zf_X10_two
  refine zc_sL (ls1 := [some (.ref 0), some (.int x1), some (.int x2), some (.int x3), none]) rfl ?_
  refine zc_aload_n (pc := 0) dX10_two_0 rfl rfl ?_
  refine zc_getC (pc := 1) zF_X10_62 rfl dX10_two_1 ?_
  refine zc_iload_n (pc := 4) dX10_two_4 rfl rfl ?_
  refine zc_callIp (pc := 5) [.ref 16, .int x1] rfl (zc_runV (ci := 7) (n0 := 0) (q := (RX7, TX7, 15)) zo_X7_isThere ⟨Nat.le_of_ble_eq_true rfl, Nat.le_of_ble_eq_true rfl⟩ zw_470 zw_379 zw_380 rfl (by decide) rfl rfl dX10_two_5) (Nat.le_of_ble_eq_true rfl) (fun _ hr => zt_X7_isThere 16 rfl x1 h hr) (fun r1 => ?_)
  refine zc_if_eq (pc := 8) 37 dX10_two_8 (by decide) (fun _ => ?_) (fun _ => ?_)
  · refine zc_iconst (pc := 37) (-1 : Int32) dX10_two_37 (by decide) ?_
    exact zc_iretK (pc := 38) dX10_two_38 rfl ⟨_, rfl, rfl⟩
  · refine zc_aload_n (pc := 11) dX10_two_11 rfl rfl ?_
    refine zc_getC (pc := 12) zF_X10_62 rfl dX10_two_12 ?_
    refine zc_iload_n (pc := 15) dX10_two_15 rfl rfl ?_
    refine zc_callIp (pc := 16) [.ref 16, .int x2] rfl (zc_runV (ci := 7) (n0 := 0) (q := (RX7, TX7, 15)) zo_X7_isThere ⟨Nat.le_of_ble_eq_true rfl, Nat.le_of_ble_eq_true rfl⟩ zw_470 zw_379 zw_380 rfl (by decide) rfl rfl dX10_two_16) (Nat.le_of_ble_eq_true rfl) (fun _ hr => zt_X7_isThere 16 rfl x2 h hr) (fun r2 => ?_)
    refine zc_if_eq (pc := 19) 37 dX10_two_19 (by decide) (fun _ => ?_) (fun _ => ?_)
    · refine zc_iconst (pc := 37) (-1 : Int32) dX10_two_37 (by decide) ?_
      exact zc_iretK (pc := 38) dX10_two_38 rfl ⟨_, rfl, rfl⟩
    · refine zc_iload_n (pc := 22) dX10_two_22 rfl rfl ?_
      refine zc_iload_n (pc := 23) dX10_two_23 rfl rfl ?_
      refine zc_icmp_eq (pc := 24) 37 dX10_two_24 (by decide) (fun _ => ?_) (fun _ => ?_)
      · refine zc_iconst (pc := 37) (-1 : Int32) dX10_two_37 (by decide) ?_
        exact zc_iretK (pc := 38) dX10_two_38 rfl ⟨_, rfl, rfl⟩
      · refine zc_iload_n (pc := 27) dX10_two_27 rfl rfl ?_
        refine zc_if_lt (pc := 28) 37 dX10_two_28 (by decide) (fun _ => ?_) (fun _ => ?_)
        · refine zc_iconst (pc := 37) (-1 : Int32) dX10_two_37 (by decide) ?_
          exact zc_iretK (pc := 38) dX10_two_38 rfl ⟨_, rfl, rfl⟩
        · refine zc_iload_n (pc := 31) dX10_two_31 rfl rfl ?_
          refine zc_bipush (pc := 32) (30 : Int32) dX10_two_32 (by decide) ?_
          refine zc_icmp_le (pc := 34) 39 dX10_two_34 (by decide) (fun _ => ?_) (fun _ => ?_)
          · refine zc_iconst (pc := 39) (0 : Int32) dX10_two_39 (by decide) ?_
            refine zc_istore (pc := 40) dX10_two_40 (Nat.le_of_ble_eq_true rfl) rfl (Nat.le_of_ble_eq_true rfl) ?_
            refine zc_sL (ls1 := [some (.ref 0), some (.int x1), some (.int x2), some (.int x3), some (.int (0 : Int32))]) rfl ?_
            refine zc_sL (ls1 := [some (.ref 0), some (.int x1), some (.int x2), some (.int x3), some (.int (0 : Int32))]) rfl ?_
            refine zc_loop 63 (fun v6 => [some (.ref 0), none, none, none, none]) (fun v6 => []) (fun v6 => v6) (fun v6 => ?_) (fun k14 J13 => ?_)
            · refine zc_iconst (pc := 63) (0 : Int32) dX10_two_63 (by decide) ?_
              refine zc_istore (pc := 64) dX10_two_64 (Nat.le_of_ble_eq_true rfl) rfl (Nat.le_of_ble_eq_true rfl) ?_
              refine zc_sL (ls1 := [some (.ref 0), none, none, none, some (.int (0 : Int32))]) rfl ?_
              refine zc_sL (ls1 := [some (.ref 0), none, none, none, some (.int (0 : Int32))]) rfl ?_
              refine zc_loopS zc_mI 110 (fun v12 => [none, none, none, none, some (.int v12)]) (fun v12 => []) (fun v12 => v6) (fun v12 => ?_) (fun z => ⟨_, rfl, rfl⟩) (fun k17 J16 K18 => ?_)
              · refine zc_bipush (pc := 110) (10 : Int32) dX10_two_110 (by decide) ?_
                refine zc_iload (pc := 112) dX10_two_112 rfl ?_
                refine zc_iconst (pc := 114) (1 : Int32) dX10_two_114 (by decide) ?_
                refine zc_ishr (pc := 115) dX10_two_115 ?_
                refine zc_imul (pc := 116) dX10_two_116 ?_
                refine zc_iload (pc := 117) dX10_two_117 rfl ?_
                refine zc_iconst (pc := 119) (1 : Int32) dX10_two_119 (by decide) ?_
                refine zc_iand (pc := 120) dX10_two_120 ?_
                refine zc_iadd (pc := 121) dX10_two_121 ?_
                exact zc_iretK (pc := 122) dX10_two_122 rfl ⟨_, rfl, rfl⟩
              · have L19 : ∀ (fu : Nat) (y7 : Int32), zc_G zM_X10_two zc_mI 66 [some (.ref 0), none, none, none, some (.int y7)] [] v6 ((zl_X10_two_66 v6 fu y7).bind k17) := by
                    intro fu
                    induction fu with
                    | zero => intros; exact zc_noneb
                    | succ fu ih20 =>
                      intro y7
                      unfold zl_X10_two_66
                      refine zc_iload (pc := 66) dX10_two_66 rfl ?_
                      refine zc_iconst (pc := 68) (4 : Int32) dX10_two_68 (by decide) ?_
                      refine zc_icmp_ge (pc := 69) 129 dX10_two_69 (by decide) (fun _ => ?_) (fun _ => ?_)
                      · refine zc_bipush (pc := 129) (-4 : Int32) dX10_two_129 (by decide) ?_
                        exact zc_iretK (pc := 131) dX10_two_131 rfl (K18 _)
                      · refine zc_aload_n (pc := 72) dX10_two_72 rfl rfl ?_
                        refine zc_getC (pc := 73) zF_X10_16 rfl dX10_two_73 ?_
                        refine zc_iload (pc := 76) dX10_two_76 rfl ?_
                        refine zc_guard (fun g8 => ?_)
                        refine zc_aldi (pc := 78) rfl g8 dX10_two_78 ?_
                        refine zc_aload_n (pc := 79) dX10_two_79 rfl rfl ?_
                        refine zc_getC (pc := 80) zF_X10_16 rfl dX10_two_80 ?_
                        refine zc_iload (pc := 83) dX10_two_83 rfl ?_
                        refine zc_iconst (pc := 85) (2 : Int32) dX10_two_85 (by decide) ?_
                        refine zc_ixor (pc := 86) dX10_two_86 ?_
                        refine zc_guard (fun g9 => ?_)
                        refine zc_aldi (pc := 87) rfl g9 dX10_two_87 ?_
                        refine zc_icmp_lt (pc := 88) 123 dX10_two_88 (by decide) (fun _ => ?_) (fun _ => ?_)
                        · refine zc_iinc (pc := 123) (1 : Int32) dX10_two_123 (by decide) rfl (Nat.le_of_ble_eq_true rfl) rfl ?_
                          refine zc_sL (ls1 := [some (.ref 0), none, none, none, some (.int (y7 + (1 : Int32)))]) rfl ?_
                          refine zc_goto (pc := 126) 66 dX10_two_126 (by decide) ?_
                          exact ih20 (y7 + (1 : Int32))
                        · refine zc_aload_n (pc := 91) dX10_two_91 rfl rfl ?_
                          refine zc_getC (pc := 92) zF_X10_19 rfl dX10_two_92 ?_
                          refine zc_iload (pc := 95) dX10_two_95 rfl ?_
                          refine zc_guard (fun g10 => ?_)
                          refine zc_aldi (pc := 97) rfl g10 dX10_two_97 ?_
                          refine zc_aload_n (pc := 98) dX10_two_98 rfl rfl ?_
                          refine zc_getC (pc := 99) zF_X10_19 rfl dX10_two_99 ?_
                          refine zc_iload (pc := 102) dX10_two_102 rfl ?_
                          refine zc_iconst (pc := 104) (1 : Int32) dX10_two_104 (by decide) ?_
                          refine zc_ixor (pc := 105) dX10_two_105 ?_
                          refine zc_guard (fun g11 => ?_)
                          refine zc_aldi (pc := 106) rfl g11 dX10_two_106 ?_
                          refine zc_icmp_lt (pc := 107) 123 dX10_two_107 (by decide) (fun _ => ?_) (fun _ => ?_)
                          · refine zc_iinc (pc := 123) (1 : Int32) dX10_two_123 (by decide) rfl (Nat.le_of_ble_eq_true rfl) rfl ?_
                            refine zc_sL (ls1 := [some (.ref 0), none, none, none, some (.int (y7 + (1 : Int32)))]) rfl ?_
                            refine zc_goto (pc := 126) 66 dX10_two_126 (by decide) ?_
                            exact ih20 (y7 + (1 : Int32))
                          · refine zc_drop 0 ?_
                            exact J16 y7
                exact L19 zFU (0 : Int32)
            · have L21 : ∀ (fu : Nat) (y3 : Int32) (h4 : zHp), zc_G zM_X10_two zc_mI 42 [some (.ref 0), some (.int x1), some (.int x2), some (.int x3), some (.int y3)] [] h4 ((zl_X10_two_42 x1 x2 x3 fu y3 h4).bind k14) := by
                  intro fu
                  induction fu with
                  | zero => intros; exact zc_noneb
                  | succ fu ih22 =>
                    intro y3 h4
                    unfold zl_X10_two_42
                    refine zc_iload (pc := 42) dX10_two_42 rfl ?_
                    refine zc_iconst (pc := 44) (4 : Int32) dX10_two_44 (by decide) ?_
                    refine zc_icmp_ge (pc := 45) 63 dX10_two_45 (by decide) (fun _ => ?_) (fun _ => ?_)
                    · refine zc_drop 1 ?_
                      refine zc_drop 2 ?_
                      refine zc_drop 3 ?_
                      refine zc_drop 4 ?_
                      exact J13 h4
                    · refine zc_aload_n (pc := 48) dX10_two_48 rfl rfl ?_
                      refine zc_iload_n (pc := 49) dX10_two_49 rfl rfl ?_
                      refine zc_iload_n (pc := 50) dX10_two_50 rfl rfl ?_
                      refine zc_iload_n (pc := 51) dX10_two_51 rfl rfl ?_
                      refine zc_iload (pc := 52) dX10_two_52 rfl ?_
                      refine zc_callV (pc := 54) [.ref 0, .int x1, .int x2, .int x3, .int y3] rfl (zc_runV (ci := 10) (n0 := 0) (q := (RX10, TX10, 12)) zo_X10_payPair ⟨Nat.le_of_ble_eq_true rfl, Nat.le_of_ble_eq_true rfl⟩ zw_675 zw_677 zs_14 rfl (by decide) rfl rfl dX10_two_54) (Nat.le_of_ble_eq_true rfl) (fun _ hr => zt_X10_payPair x1 x2 x3 y3 h4 hr) (fun r5 => ?_)
                      refine zc_iinc (pc := 57) (1 : Int32) dX10_two_57 (by decide) rfl (Nat.le_of_ble_eq_true rfl) rfl ?_
                      refine zc_sL (ls1 := [some (.ref 0), some (.int x1), some (.int x2), some (.int x3), some (.int (y3 + (1 : Int32)))]) rfl ?_
                      refine zc_goto (pc := 60) 42 dX10_two_60 (by decide) ?_
                      exact ih22 (y3 + (1 : Int32)) r5
              exact L21 zFU (0 : Int32) h
          · refine zc_iconst (pc := 37) (-1 : Int32) dX10_two_37 (by decide) ?_
            exact zc_iretK (pc := 38) dX10_two_38 rfl ⟨_, rfl, rfl⟩
def zf_X10_isPart (x0 : Int32) : Option Int32 :=
  (if x0 = 0 then some (1 : Int32) else (if x0 = (1 : Int32) then some (1 : Int32) else some (0 : Int32)))
set_option maxRecDepth 100000 in
set_option maxHeartbeats 4000000 in
theorem zt_X10_isPart (x0 : Int32) (h : zHp) {r : Int32} (hr : (zf_X10_isPart x0) = some r) : zc_Cn zM_X10_isPart [.int x0] h ((fun r => zc_mI (r, h)) r) := by
  refine zc_meth (mk := (fun r => zc_mI (r, h))) (o := (zf_X10_isPart x0)) (by decide +kernel) (Nat.le_of_ble_eq_true rfl) ?_ hr
  unfold zf_X10_isPart
  refine zc_sL (ls1 := [some (.int x0)]) rfl ?_
  refine zc_iload_n (pc := 0) dX10_isPart_0 rfl rfl ?_
  refine zc_if_eq (pc := 1) 9 dX10_isPart_1 (by decide) (fun _ => ?_) (fun _ => ?_)
  · refine zc_iconst (pc := 9) (1 : Int32) dX10_isPart_9 (by decide) ?_
    refine zc_goto (pc := 10) 14 dX10_isPart_10 (by decide) ?_
    exact zc_zretK (pc := 14) dX10_isPart_14 rfl (by decide) ⟨_, rfl, rfl⟩
  · refine zc_iload_n (pc := 4) dX10_isPart_4 rfl rfl ?_
    refine zc_iconst (pc := 5) (1 : Int32) dX10_isPart_5 (by decide) ?_
    refine zc_icmp_ne (pc := 6) 13 dX10_isPart_6 (by decide) (fun _ => ?_) (fun _ => ?_)
    · refine zc_iconst (pc := 9) (1 : Int32) dX10_isPart_9 (by decide) ?_
      refine zc_goto (pc := 10) 14 dX10_isPart_10 (by decide) ?_
      exact zc_zretK (pc := 14) dX10_isPart_14 rfl (by decide) ⟨_, rfl, rfl⟩
    · refine zc_iconst (pc := 13) (0 : Int32) dX10_isPart_13 (by decide) ?_
      exact zc_zretK (pc := 14) dX10_isPart_14 rfl (by decide) ⟨_, rfl, rfl⟩
def zl_X10_spreadOneDay_2 (x1 : Int32) : Nat → Int32 → zHp → Option zHp
  | 0, _, _ => none
  | fu + 1, y1, h2 => (if (12 : Int32) ≤ y1 then some h2 else ((some (((y1 + (12 : Int32)) - (h2.1 16 11)) - ((y1 + (12 : Int32)) - (h2.1 16 11)) / (12 : Int32) * (12 : Int32)) : Option Int32).bind (fun v3 => (if zc_ix y1 12 then (if zc_ix v3 12 then (if zc_ix y1 12 then ((some (zc_ul h2 6 y1.toNatClampNeg ((h2.2 5 y1.toNatClampNeg) + ((x1 - (1 : Int32)).toInt64 * (h2.2 5 v3.toNatClampNeg)))) : Option zHp).bind (fun h7 => zl_X10_spreadOneDay_2 x1 fu (y1 + (1 : Int32)) h7)) else none) else none) else none))))
def zf_X10_spreadOneDay (x1 : Int32) (h : zHp) : Option zHp :=
  ((zl_X10_spreadOneDay_2 x1 zFU (0 : Int32) h).bind (fun v8 => ((some (zc_rl v8 5 (va_cpy (v8.2 6) (v8.2 5) (0 : Int32).toNatClampNeg (0 : Int32).toNatClampNeg (12 : Int32).toNatClampNeg)) : Option zHp).bind (fun h9 => some h9))))
set_option maxRecDepth 100000 in
set_option maxHeartbeats 4000000 in
theorem zt_X10_spreadOneDay (x1 : Int32) (h : zHp) {r : zHp} (hr : (zf_X10_spreadOneDay x1 h) = some r) : zc_Cn zM_X10_spreadOneDay [.ref 0, .int x1] h (zc_mV r) := by
  refine zc_meth (mk := zc_mV) (o := (zf_X10_spreadOneDay x1 h)) (by decide +kernel) (Nat.le_of_ble_eq_true rfl) ?_ hr
  unfold zf_X10_spreadOneDay
  refine zc_sL (ls1 := [some (.ref 0), some (.int x1), none, none]) rfl ?_
  refine zc_iconst (pc := 0) (0 : Int32) dX10_spreadOneDay_0 (by decide) ?_
  refine zc_istore_n (pc := 1) dX10_spreadOneDay_1 rfl (Nat.le_of_ble_eq_true rfl) rfl (Nat.le_of_ble_eq_true rfl) ?_
  refine zc_sL (ls1 := [some (.ref 0), some (.int x1), some (.int (0 : Int32)), none]) rfl ?_
  refine zc_sL (ls1 := [some (.ref 0), some (.int x1), some (.int (0 : Int32)), none]) rfl ?_
  refine zc_loop 54 (fun v8 => [some (.ref 0), none, none, none]) (fun v8 => []) (fun v8 => v8) (fun v8 => ?_) (fun k11 J10 => ?_)
  · refine zc_aload_n (pc := 54) dX10_spreadOneDay_54 rfl rfl ?_
    refine zc_getC (pc := 55) zF_X10_26 rfl dX10_spreadOneDay_55 ?_
    refine zc_iconst (pc := 58) (0 : Int32) dX10_spreadOneDay_58 (by decide) ?_
    refine zc_aload_n (pc := 59) dX10_spreadOneDay_59 rfl rfl ?_
    refine zc_getC (pc := 60) zF_X10_22 rfl dX10_spreadOneDay_60 ?_
    refine zc_iconst (pc := 63) (0 : Int32) dX10_spreadOneDay_63 (by decide) ?_
    refine zc_bipush (pc := 64) (12 : Int32) dX10_spreadOneDay_64 (by decide) ?_
    refine zc_acpl (pc := 66) zw_698 zw_acn zw_acs zw_13 rfl rfl (by decide) (Nat.le_of_ble_eq_true rfl) ⟨Nat.le_of_ble_eq_true rfl, Nat.le_of_ble_eq_true rfl⟩ dX10_spreadOneDay_66 ?_
    refine zc_letH (fun h9 _ => ?_)
    exact zc_vretK (pc := 69) dX10_spreadOneDay_69 rfl ⟨_, rfl, rfl⟩
  · have L13 : ∀ (fu : Nat) (y1 : Int32) (h2 : zHp), zc_G zM_X10_spreadOneDay zc_mV 2 [some (.ref 0), some (.int x1), some (.int y1), none] [] h2 ((zl_X10_spreadOneDay_2 x1 fu y1 h2).bind k11) := by
        intro fu
        induction fu with
        | zero => intros; exact zc_noneb
        | succ fu ih14 =>
          intro y1 h2
          unfold zl_X10_spreadOneDay_2
          refine zc_iload_n (pc := 2) dX10_spreadOneDay_2 rfl rfl ?_
          refine zc_bipush (pc := 3) (12 : Int32) dX10_spreadOneDay_3 (by decide) ?_
          refine zc_icmp_ge (pc := 5) 54 dX10_spreadOneDay_5 (by decide) (fun _ => ?_) (fun _ => ?_)
          · refine zc_drop 1 ?_
            refine zc_drop 2 ?_
            exact J10 h2
          · refine zc_iload_n (pc := 8) dX10_spreadOneDay_8 rfl rfl ?_
            refine zc_bipush (pc := 9) (12 : Int32) dX10_spreadOneDay_9 (by decide) ?_
            refine zc_iadd (pc := 11) dX10_spreadOneDay_11 ?_
            refine zc_aload_n (pc := 12) dX10_spreadOneDay_12 rfl rfl ?_
            refine zc_getC (pc := 13) zF_X10_62 rfl dX10_spreadOneDay_13 ?_
            refine zc_getI (pc := 16) zF_X10_208 rfl dX10_spreadOneDay_16 ?_
            refine zc_isub (pc := 19) dX10_spreadOneDay_19 ?_
            refine zc_bipush (pc := 20) (12 : Int32) dX10_spreadOneDay_20 (by decide) ?_
            refine zc_irem (pc := 22) dX10_spreadOneDay_22 (by decide) ?_
            refine zc_letI (fun v3 _ => ?_)
            refine zc_istore_n (pc := 23) dX10_spreadOneDay_23 rfl (Nat.le_of_ble_eq_true rfl) rfl (Nat.le_of_ble_eq_true rfl) ?_
            refine zc_sL (ls1 := [some (.ref 0), some (.int x1), some (.int y1), some (.int v3)]) rfl ?_
            refine zc_aload_n (pc := 24) dX10_spreadOneDay_24 rfl rfl ?_
            refine zc_getC (pc := 25) zF_X10_26 rfl dX10_spreadOneDay_25 ?_
            refine zc_iload_n (pc := 28) dX10_spreadOneDay_28 rfl rfl ?_
            refine zc_aload_n (pc := 29) dX10_spreadOneDay_29 rfl rfl ?_
            refine zc_getC (pc := 30) zF_X10_22 rfl dX10_spreadOneDay_30 ?_
            refine zc_iload_n (pc := 33) dX10_spreadOneDay_33 rfl rfl ?_
            refine zc_guard (fun g4 => ?_)
            refine zc_aldl (pc := 34) rfl g4 dX10_spreadOneDay_34 ?_
            refine zc_iload_n (pc := 35) dX10_spreadOneDay_35 rfl rfl ?_
            refine zc_iconst (pc := 36) (1 : Int32) dX10_spreadOneDay_36 (by decide) ?_
            refine zc_isub (pc := 37) dX10_spreadOneDay_37 ?_
            refine zc_i2l (pc := 38) dX10_spreadOneDay_38 ?_
            refine zc_aload_n (pc := 39) dX10_spreadOneDay_39 rfl rfl ?_
            refine zc_getC (pc := 40) zF_X10_22 rfl dX10_spreadOneDay_40 ?_
            refine zc_iload_n (pc := 43) dX10_spreadOneDay_43 rfl rfl ?_
            refine zc_guard (fun g5 => ?_)
            refine zc_aldl (pc := 44) rfl g5 dX10_spreadOneDay_44 ?_
            refine zc_lmul (pc := 45) dX10_spreadOneDay_45 ?_
            refine zc_ladd (pc := 46) dX10_spreadOneDay_46 ?_
            refine zc_guard (fun g6 => ?_)
            refine zc_astl (pc := 47) rfl g6 dX10_spreadOneDay_47 ?_
            refine zc_letH (fun h7 _ => ?_)
            refine zc_iinc (pc := 48) (1 : Int32) dX10_spreadOneDay_48 (by decide) rfl (Nat.le_of_ble_eq_true rfl) rfl ?_
            refine zc_sL (ls1 := [some (.ref 0), some (.int x1), some (.int (y1 + (1 : Int32))), some (.int v3)]) rfl ?_
            refine zc_goto (pc := 51) 2 dX10_spreadOneDay_51 (by decide) ?_
            refine zc_drop 3 ?_
            exact ih14 (y1 + (1 : Int32)) h7
    exact L13 zFU (0 : Int32) h
def zl_X10_spreadChances_34 (x1 : Int32) (x2 : Int32) : Nat → Int64 → Int32 → zHp → Option (Int64 × zHp)
  | 0, _, _, _ => none
  | fu + 1, y5, y6, h7 => (if ((h7.1 16 14) + x1) < y6 then some (y5, h7) else (if (y6 - y6 / (12 : Int32) * (12 : Int32)) = 0 then ((zf_J7_fill_d0a16 5 12 (0 : Int64) h7).bind (fun r8 => (if zc_ix (r8.1 16 12) 12 then ((some (zc_ul r8 5 (r8.1 16 12).toNatClampNeg y5) : Option zHp).bind (fun h10 => zl_X10_spreadChances_34 x1 x2 fu y5 (y6 + (1 : Int32)) h10)) else none))) else ((zf_X10_spreadOneDay x2 h7).bind (fun r11 => zl_X10_spreadChances_34 x1 x2 fu (y5 * x2.toInt64) (y6 + (1 : Int32)) r11))))
def zf_X10_spreadChances (x1 : Int32) (x2 : Int32) (h : zHp) : Option (Int64 × zHp) :=
  ((zf_J7_fill_d0a16 5 12 (0 : Int64) h).bind (fun r1 => (if zc_ix (r1.1 16 10) 12 then ((some (zc_ul r1 5 (r1.1 16 10).toNatClampNeg (1 : Int64)) : Option zHp).bind (fun h3 => ((some ((h3.1 16 14) + (1 : Int32)) : Option Int32).bind (fun v4 => ((zl_X10_spreadChances_34 x1 x2 zFU (1 : Int64) v4 h3).bind (fun v12 => some (v12.1, v12.2))))))) else none)))
set_option maxRecDepth 100000 in
set_option maxHeartbeats 4000000 in
theorem zt_X10_spreadChances (x1 : Int32) (x2 : Int32) (h : zHp) {r : (Int64 × zHp)} (hr : (zf_X10_spreadChances x1 x2 h) = some r) : zc_Cn zM_X10_spreadChances [.ref 0, .int x1, .int x2] h (zc_mL r) := by
  refine zc_meth (mk := zc_mL) (o := (zf_X10_spreadChances x1 x2 h)) (by decide +kernel) (Nat.le_of_ble_eq_true rfl) ?_ hr
  unfold zf_X10_spreadChances
  refine zc_sL (ls1 := [some (.ref 0), some (.int x1), some (.int x2), none, none, none]) rfl ?_
  refine zc_aload_n (pc := 0) dX10_spreadChances_0 rfl rfl ?_
  refine zc_getC (pc := 1) zF_X10_22 rfl dX10_spreadChances_1 ?_
  refine zc_lconst (pc := 4) (0 : Int64) dX10_spreadChances_4 (by decide) ?_
  refine zc_callV (pc := 5) [.ref 5, .long (0 : Int64)] rfl (zc_runS zo_J7_fill_d0a16 ⟨Nat.le_of_ble_eq_true rfl, Nat.le_of_ble_eq_true rfl⟩ zw_691 zw_692 rfl dX10_spreadChances_5) (Nat.le_of_ble_eq_true rfl) (fun _ hr => zt_J7_fill_d0a16 5 12 rfl (0 : Int64) h hr) (fun r1 => ?_)
  refine zc_aload_n (pc := 8) dX10_spreadChances_8 rfl rfl ?_
  refine zc_getC (pc := 9) zF_X10_22 rfl dX10_spreadChances_9 ?_
  refine zc_aload_n (pc := 12) dX10_spreadChances_12 rfl rfl ?_
  refine zc_getC (pc := 13) zF_X10_62 rfl dX10_spreadChances_13 ?_
  refine zc_getI (pc := 16) zF_X10_186 rfl dX10_spreadChances_16 ?_
  refine zc_lconst (pc := 19) (1 : Int64) dX10_spreadChances_19 (by decide) ?_
  refine zc_guard (fun g2 => ?_)
  refine zc_astl (pc := 20) rfl g2 dX10_spreadChances_20 ?_
  refine zc_letH (fun h3 _ => ?_)
  refine zc_lconst (pc := 21) (1 : Int64) dX10_spreadChances_21 (by decide) ?_
  refine zc_lstore_n (pc := 22) dX10_spreadChances_22 rfl (Nat.le_of_ble_eq_true rfl) rfl (Nat.le_of_ble_eq_true rfl) ?_
  refine zc_sL (ls1 := [some (.ref 0), some (.int x1), some (.int x2), some (.long (1 : Int64)), none, none]) rfl ?_
  refine zc_aload_n (pc := 23) dX10_spreadChances_23 rfl rfl ?_
  refine zc_getC (pc := 24) zF_X10_62 rfl dX10_spreadChances_24 ?_
  refine zc_getI (pc := 27) zF_X10_268 rfl dX10_spreadChances_27 ?_
  refine zc_iconst (pc := 30) (1 : Int32) dX10_spreadChances_30 (by decide) ?_
  refine zc_iadd (pc := 31) dX10_spreadChances_31 ?_
  refine zc_letI (fun v4 _ => ?_)
  refine zc_istore (pc := 32) dX10_spreadChances_32 (Nat.le_of_ble_eq_true rfl) rfl (Nat.le_of_ble_eq_true rfl) ?_
  refine zc_sL (ls1 := [some (.ref 0), some (.int x1), some (.int x2), some (.long (1 : Int64)), none, some (.int v4)]) rfl ?_
  refine zc_sL (ls1 := [some (.ref 0), some (.int x1), some (.int x2), some (.long (1 : Int64)), none, some (.int v4)]) rfl ?_
  refine zc_loop 96 (fun v12 => [none, none, none, some (.long v12.1), none, none]) (fun v12 => []) (fun v12 => v12.2) (fun v12 => ?_) (fun k14 J13 => ?_)
  · refine zc_lload_n (pc := 96) dX10_spreadChances_96 rfl rfl ?_
    exact zc_lretK (pc := 97) dX10_spreadChances_97 rfl ⟨_, rfl, rfl⟩
  · have L16 : ∀ (fu : Nat) (y5 : Int64) (y6 : Int32) (h7 : zHp), zc_G zM_X10_spreadChances zc_mL 34 [some (.ref 0), some (.int x1), some (.int x2), some (.long y5), none, some (.int y6)] [] h7 ((zl_X10_spreadChances_34 x1 x2 fu y5 y6 h7).bind k14) := by
        intro fu
        induction fu with
        | zero => intros; exact zc_noneb
        | succ fu ih17 =>
          intro y5 y6 h7
          unfold zl_X10_spreadChances_34
          refine zc_iload (pc := 34) dX10_spreadChances_34 rfl ?_
          refine zc_aload_n (pc := 36) dX10_spreadChances_36 rfl rfl ?_
          refine zc_getC (pc := 37) zF_X10_62 rfl dX10_spreadChances_37 ?_
          refine zc_getI (pc := 40) zF_X10_268 rfl dX10_spreadChances_40 ?_
          refine zc_iload_n (pc := 43) dX10_spreadChances_43 rfl rfl ?_
          refine zc_iadd (pc := 44) dX10_spreadChances_44 ?_
          refine zc_icmp_gt (pc := 45) 96 dX10_spreadChances_45 (by decide) (fun _ => ?_) (fun _ => ?_)
          · refine zc_drop 0 ?_
            refine zc_drop 1 ?_
            refine zc_drop 2 ?_
            refine zc_drop 5 ?_
            exact J13 (y5, h7)
          · refine zc_iload (pc := 48) dX10_spreadChances_48 rfl ?_
            refine zc_bipush (pc := 50) (12 : Int32) dX10_spreadChances_50 (by decide) ?_
            refine zc_irem (pc := 52) dX10_spreadChances_52 (by decide) ?_
            refine zc_if_ne (pc := 53) 80 dX10_spreadChances_53 (by decide) (fun _ => ?_) (fun _ => ?_)
            · refine zc_aload_n (pc := 56) dX10_spreadChances_56 rfl rfl ?_
              refine zc_getC (pc := 57) zF_X10_22 rfl dX10_spreadChances_57 ?_
              refine zc_lconst (pc := 60) (0 : Int64) dX10_spreadChances_60 (by decide) ?_
              refine zc_callV (pc := 61) [.ref 5, .long (0 : Int64)] rfl (zc_runS zo_J7_fill_d0a16 ⟨Nat.le_of_ble_eq_true rfl, Nat.le_of_ble_eq_true rfl⟩ zw_691 zw_692 rfl dX10_spreadChances_61) (Nat.le_of_ble_eq_true rfl) (fun _ hr => zt_J7_fill_d0a16 5 12 rfl (0 : Int64) h7 hr) (fun r8 => ?_)
              refine zc_aload_n (pc := 64) dX10_spreadChances_64 rfl rfl ?_
              refine zc_getC (pc := 65) zF_X10_22 rfl dX10_spreadChances_65 ?_
              refine zc_aload_n (pc := 68) dX10_spreadChances_68 rfl rfl ?_
              refine zc_getC (pc := 69) zF_X10_62 rfl dX10_spreadChances_69 ?_
              refine zc_getI (pc := 72) zF_X10_285 rfl dX10_spreadChances_72 ?_
              refine zc_lload_n (pc := 75) dX10_spreadChances_75 rfl rfl ?_
              refine zc_guard (fun g9 => ?_)
              refine zc_astl (pc := 76) rfl g9 dX10_spreadChances_76 ?_
              refine zc_letH (fun h10 _ => ?_)
              refine zc_goto (pc := 77) 90 dX10_spreadChances_77 (by decide) ?_
              refine zc_iinc (pc := 90) (1 : Int32) dX10_spreadChances_90 (by decide) rfl (Nat.le_of_ble_eq_true rfl) rfl ?_
              refine zc_sL (ls1 := [some (.ref 0), some (.int x1), some (.int x2), some (.long y5), none, some (.int (y6 + (1 : Int32)))]) rfl ?_
              refine zc_goto (pc := 93) 34 dX10_spreadChances_93 (by decide) ?_
              exact ih17 y5 (y6 + (1 : Int32)) h10
            · refine zc_aload_n (pc := 80) dX10_spreadChances_80 rfl rfl ?_
              refine zc_iload_n (pc := 81) dX10_spreadChances_81 rfl rfl ?_
              refine zc_callV (pc := 82) [.ref 0, .int x2] rfl (zc_runV (ci := 10) (n0 := 0) (q := (RX10, TX10, 12)) zo_X10_spreadOneDay ⟨Nat.le_of_ble_eq_true rfl, Nat.le_of_ble_eq_true rfl⟩ zw_694 zw_696 zs_16 rfl (by decide) rfl rfl dX10_spreadChances_82) (Nat.le_of_ble_eq_true rfl) (fun _ hr => zt_X10_spreadOneDay x2 h7 hr) (fun r11 => ?_)
              refine zc_lload_n (pc := 85) dX10_spreadChances_85 rfl rfl ?_
              refine zc_iload_n (pc := 86) dX10_spreadChances_86 rfl rfl ?_
              refine zc_i2l (pc := 87) dX10_spreadChances_87 ?_
              refine zc_lmul (pc := 88) dX10_spreadChances_88 ?_
              refine zc_lstore_n (pc := 89) dX10_spreadChances_89 rfl (Nat.le_of_ble_eq_true rfl) rfl (Nat.le_of_ble_eq_true rfl) ?_
              refine zc_sL (ls1 := [some (.ref 0), some (.int x1), some (.int x2), some (.long (y5 * x2.toInt64)), none, some (.int y6)]) rfl ?_
              refine zc_iinc (pc := 90) (1 : Int32) dX10_spreadChances_90 (by decide) rfl (Nat.le_of_ble_eq_true rfl) rfl ?_
              refine zc_sL (ls1 := [some (.ref 0), some (.int x1), some (.int x2), some (.long (y5 * x2.toInt64)), none, some (.int (y6 + (1 : Int32)))]) rfl ?_
              refine zc_goto (pc := 93) 34 dX10_spreadChances_93 (by decide) ?_
              exact ih17 (y5 * x2.toInt64) (y6 + (1 : Int32)) r11
    exact L16 zFU (1 : Int64) v4 h3
def zl_X10_greatestDivisor_9  : Nat → Int64 → Int64 → Int32 → Option Int64
  | 0, _, _, _ => none
  | fu + 1, y1, y2, y3 => (if (60 : Int32) ≤ y3 then some y1 else (if (lg_cmp y2 (0 : Int64)) = 0 then some y1 else (if ¬ y2 = 0 then zl_X10_greatestDivisor_9 fu y2 (y1 - y1 / y2 * y2) (y3 + (1 : Int32)) else none)))
def zf_X10_greatestDivisor (x0 : Int64) (x2 : Int64) : Option Int64 :=
  ((zl_X10_greatestDivisor_9 zFU x0 x2 (0 : Int32)).bind (fun v5 => some v5))
set_option maxRecDepth 100000 in
set_option maxHeartbeats 4000000 in
theorem zt_X10_greatestDivisor (x0 : Int64) (x2 : Int64) (h : zHp) {r : Int64} (hr : (zf_X10_greatestDivisor x0 x2) = some r) : zc_Cn zM_X10_greatestDivisor [.long x0, .long x2] h ((fun r => zc_mL (r, h)) r) := by
  refine zc_meth (mk := (fun r => zc_mL (r, h))) (o := (zf_X10_greatestDivisor x0 x2)) (by decide +kernel) (Nat.le_of_ble_eq_true rfl) ?_ hr
  unfold zf_X10_greatestDivisor
  refine zc_sL (ls1 := [some (.long x0), none, some (.long x2), none, none, none, none, none, none, none, none]) rfl ?_
  refine zc_lload_n (pc := 0) dX10_greatestDivisor_0 rfl rfl ?_
  refine zc_lstore (pc := 1) dX10_greatestDivisor_1 (Nat.le_of_ble_eq_true rfl) rfl (Nat.le_of_ble_eq_true rfl) ?_
  refine zc_sL (ls1 := [some (.long x0), none, some (.long x2), none, some (.long x0), none, none, none, none, none, none]) rfl ?_
  refine zc_lload_n (pc := 3) dX10_greatestDivisor_3 rfl rfl ?_
  refine zc_lstore (pc := 4) dX10_greatestDivisor_4 (Nat.le_of_ble_eq_true rfl) rfl (Nat.le_of_ble_eq_true rfl) ?_
  refine zc_sL (ls1 := [some (.long x0), none, some (.long x2), none, some (.long x0), none, some (.long x2), none, none, none, none]) rfl ?_
  refine zc_iconst (pc := 6) (0 : Int32) dX10_greatestDivisor_6 (by decide) ?_
  refine zc_istore (pc := 7) dX10_greatestDivisor_7 (Nat.le_of_ble_eq_true rfl) rfl (Nat.le_of_ble_eq_true rfl) ?_
  refine zc_sL (ls1 := [some (.long x0), none, some (.long x2), none, some (.long x0), none, some (.long x2), none, some (.int (0 : Int32)), none, none]) rfl ?_
  refine zc_drop 0 ?_
  refine zc_drop 2 ?_
  refine zc_sL (ls1 := [none, none, none, none, some (.long x0), none, some (.long x2), none, some (.int (0 : Int32)), none, none]) rfl ?_
  refine zc_loop 44 (fun v5 => [none, none, none, none, some (.long v5), none, none, none, none, none, none]) (fun v5 => []) (fun v5 => h) (fun v5 => ?_) (fun k7 J6 => ?_)
  · refine zc_lload (pc := 44) dX10_greatestDivisor_44 rfl ?_
    exact zc_lretK (pc := 46) dX10_greatestDivisor_46 rfl ⟨_, rfl, rfl⟩
  · have L9 : ∀ (fu : Nat) (y1 : Int64) (y2 : Int64) (y3 : Int32), zc_G zM_X10_greatestDivisor (fun r => zc_mL (r, h)) 9 [none, none, none, none, some (.long y1), none, some (.long y2), none, some (.int y3), none, none] [] h ((zl_X10_greatestDivisor_9 fu y1 y2 y3).bind k7) := by
        intro fu
        induction fu with
        | zero => intros; exact zc_noneb
        | succ fu ih10 =>
          intro y1 y2 y3
          unfold zl_X10_greatestDivisor_9
          refine zc_iload (pc := 9) dX10_greatestDivisor_9 rfl ?_
          refine zc_bipush (pc := 11) (60 : Int32) dX10_greatestDivisor_11 (by decide) ?_
          refine zc_icmp_ge (pc := 13) 44 dX10_greatestDivisor_13 (by decide) (fun _ => ?_) (fun _ => ?_)
          · refine zc_drop 6 ?_
            refine zc_drop 8 ?_
            exact J6 y1
          · refine zc_lload (pc := 16) dX10_greatestDivisor_16 rfl ?_
            refine zc_lconst (pc := 18) (0 : Int64) dX10_greatestDivisor_18 (by decide) ?_
            refine zc_lcmp (pc := 19) dX10_greatestDivisor_19 ?_
            refine zc_if_eq (pc := 20) 44 dX10_greatestDivisor_20 (by decide) (fun _ => ?_) (fun _ => ?_)
            · refine zc_drop 6 ?_
              refine zc_drop 8 ?_
              exact J6 y1
            · refine zc_lload (pc := 23) dX10_greatestDivisor_23 rfl ?_
              refine zc_lload (pc := 25) dX10_greatestDivisor_25 rfl ?_
              refine zc_guard (fun g4 => ?_)
              refine zc_lrem (pc := 27) dX10_greatestDivisor_27 g4 ?_
              refine zc_lstore (pc := 28) dX10_greatestDivisor_28 (Nat.le_of_ble_eq_true rfl) rfl (Nat.le_of_ble_eq_true rfl) ?_
              refine zc_sL (ls1 := [none, none, none, none, some (.long y1), none, some (.long y2), none, some (.int y3), some (.long (y1 - y1 / y2 * y2)), none]) rfl ?_
              refine zc_lload (pc := 30) dX10_greatestDivisor_30 rfl ?_
              refine zc_lstore (pc := 32) dX10_greatestDivisor_32 (Nat.le_of_ble_eq_true rfl) rfl (Nat.le_of_ble_eq_true rfl) ?_
              refine zc_sL (ls1 := [none, none, none, none, some (.long y2), none, some (.long y2), none, some (.int y3), some (.long (y1 - y1 / y2 * y2)), none]) rfl ?_
              refine zc_lload (pc := 34) dX10_greatestDivisor_34 rfl ?_
              refine zc_lstore (pc := 36) dX10_greatestDivisor_36 (Nat.le_of_ble_eq_true rfl) rfl (Nat.le_of_ble_eq_true rfl) ?_
              refine zc_sL (ls1 := [none, none, none, none, some (.long y2), none, some (.long (y1 - y1 / y2 * y2)), none, some (.int y3), some (.long (y1 - y1 / y2 * y2)), none]) rfl ?_
              refine zc_iinc (pc := 38) (1 : Int32) dX10_greatestDivisor_38 (by decide) rfl (Nat.le_of_ble_eq_true rfl) rfl ?_
              refine zc_sL (ls1 := [none, none, none, none, some (.long y2), none, some (.long (y1 - y1 / y2 * y2)), none, some (.int (y3 + (1 : Int32))), some (.long (y1 - y1 / y2 * y2)), none]) rfl ?_
              refine zc_goto (pc := 41) 9 dX10_greatestDivisor_41 (by decide) ?_
              refine zc_drop 9 ?_
              exact ih10 y2 (y1 - y1 / y2 * y2) (y3 + (1 : Int32))
    exact L9 zFU x0 x2 (0 : Int32)
def zf_X10_partOf (x0 : Int64) (x2 : Int64) (x4 : Int32) : Option Int64 :=
  ((zf_X10_greatestDivisor x0 x2).bind (fun r1 => (if 0 ≤ (lg_cmp r1 (1 : Int64)) then (if x4 = 0 then (if ¬ r1 = 0 then some (x0 / r1) else none) else (if ¬ r1 = 0 then some (x2 / r1) else none)) else some (1000000001 : Int64))))
set_option maxRecDepth 100000 in
set_option maxHeartbeats 4000000 in
theorem zt_X10_partOf (x0 : Int64) (x2 : Int64) (x4 : Int32) (h : zHp) {r : Int64} (hr : (zf_X10_partOf x0 x2 x4) = some r) : zc_Cn zM_X10_partOf [.long x0, .long x2, .int x4] h ((fun r => zc_mL (r, h)) r) := by
  refine zc_meth (mk := (fun r => zc_mL (r, h))) (o := (zf_X10_partOf x0 x2 x4)) (by decide +kernel) (Nat.le_of_ble_eq_true rfl) ?_ hr
  unfold zf_X10_partOf
  refine zc_sL (ls1 := [some (.long x0), none, some (.long x2), none, some (.int x4), none, none]) rfl ?_
  refine zc_lload_n (pc := 0) dX10_partOf_0 rfl rfl ?_
  refine zc_lload_n (pc := 1) dX10_partOf_1 rfl rfl ?_
  refine zc_callLp (pc := 2) [.long x0, .long x2] rfl (zc_runS zo_X10_greatestDivisor ⟨Nat.le_of_ble_eq_true rfl, Nat.le_of_ble_eq_true rfl⟩ zw_702 zw_703 rfl dX10_partOf_2) (Nat.le_of_ble_eq_true rfl) (fun _ hr => zt_X10_greatestDivisor x0 x2 h hr) (fun r1 => ?_)
  refine zc_lstore (pc := 5) dX10_partOf_5 (Nat.le_of_ble_eq_true rfl) rfl (Nat.le_of_ble_eq_true rfl) ?_
  refine zc_sL (ls1 := [some (.long x0), none, some (.long x2), none, some (.int x4), some (.long r1), none]) rfl ?_
  refine zc_lload (pc := 7) dX10_partOf_7 rfl ?_
  refine zc_lconst (pc := 9) (1 : Int64) dX10_partOf_9 (by decide) ?_
  refine zc_lcmp (pc := 10) dX10_partOf_10 ?_
  refine zc_if_ge (pc := 11) 18 dX10_partOf_11 (by decide) (fun _ => ?_) (fun _ => ?_)
  · refine zc_iload (pc := 18) dX10_partOf_18 rfl ?_
    refine zc_if_ne (pc := 20) 30 dX10_partOf_20 (by decide) (fun _ => ?_) (fun _ => ?_)
    · refine zc_lload_n (pc := 23) dX10_partOf_23 rfl rfl ?_
      refine zc_lload (pc := 24) dX10_partOf_24 rfl ?_
      refine zc_guard (fun g2 => ?_)
      refine zc_ldiv (pc := 26) dX10_partOf_26 g2 ?_
      refine zc_goto (pc := 27) 34 dX10_partOf_27 (by decide) ?_
      exact zc_lretK (pc := 34) dX10_partOf_34 rfl ⟨_, rfl, rfl⟩
    · refine zc_lload_n (pc := 30) dX10_partOf_30 rfl rfl ?_
      refine zc_lload (pc := 31) dX10_partOf_31 rfl ?_
      refine zc_guard (fun g3 => ?_)
      refine zc_ldiv (pc := 33) dX10_partOf_33 g3 ?_
      exact zc_lretK (pc := 34) dX10_partOf_34 rfl ⟨_, rfl, rfl⟩
  · refine zc_ldc2 (pc := 14) dX10_partOf_14 zw_686 ?_
    exact zc_lretK (pc := 17) dX10_partOf_17 rfl ⟨_, rfl, rfl⟩
def zl_X10_rain_82 (x1 : Int32) : Nat → Int64 → Int32 → zHp → Option (Int64 × zHp)
  | 0, _, _, _ => none
  | fu + 1, y6, y7, h8 => (if (12 : Int32) ≤ y7 then some (y6, h8) else ((some (zc_ui h8 25 10 y7) : Option zHp).bind (fun h9 => ((zf_X7_isAble 25 x1 h9).bind (fun r10 => (if r10 = 0 then zl_X10_rain_82 x1 fu y6 (y7 + (1 : Int32)) h9 else (if zc_ix y7 12 then ((some (y6 + (h9.2 5 y7.toNatClampNeg)) : Option Int64).bind (fun v12 => zl_X10_rain_82 x1 fu v12 (y7 + (1 : Int32)) h9)) else none)))))))
def zf_X10_rain (x1 : Int32) (x2 : Int32) (x3 : Int32) (x4 : Int32) (h : zHp) : Option (Int64 × zHp) :=
  ((zf_X7_isThere 16 x1 h).bind (fun r1 => (if r1 = 0 then some ((1000000001 : Int64), h) else (if x2 < 0 then some ((1000000001 : Int64), h) else (if (7 : Int32) < x2 then some ((1000000001 : Int64), h) else (if x3 < (2 : Int32) then some ((1000000001 : Int64), h) else (if (20 : Int32) < x3 then some ((1000000001 : Int64), h) else ((zf_X10_isPart x4).bind (fun r2 => (if r2 = 0 then some ((1000000001 : Int64), h) else ((zf_X10_spreadChances x2 x3 h).bind (fun r3 => ((zf_X7_become 25 16 r3.2).bind (fun r4 => ((some (zc_ui r4 25 14 ((r4.1 25 14) + x2)) : Option zHp).bind (fun h5 => ((zl_X10_rain_82 x1 zFU (0 : Int64) (0 : Int32) h5).bind (fun v13 => ((zf_X10_partOf v13.1 r3.1 x4).bind (fun r14 => some (r14, v13.2)))))))))))))))))))))
set_option maxRecDepth 100000 in
set_option maxHeartbeats 4000000 in
theorem zt_X10_rain (x1 : Int32) (x2 : Int32) (x3 : Int32) (x4 : Int32) (h : zHp) {r : (Int64 × zHp)} (hr : (zf_X10_rain x1 x2 x3 x4 h) = some r) : zc_Cn zM_X10_rain [.ref 0, .int x1, .int x2, .int x3, .int x4] h (zc_mL r) := by
  refine zc_meth (mk := zc_mL) (o := (zf_X10_rain x1 x2 x3 x4 h)) (by decide +kernel) (Nat.le_of_ble_eq_true rfl) ?_ hr
  unfold zf_X10_rain
  refine zc_sL (ls1 := [some (.ref 0), some (.int x1), some (.int x2), some (.int x3), some (.int x4), none, none, none, none, none]) rfl ?_
  refine zc_aload_n (pc := 0) dX10_rain_0 rfl rfl ?_
  refine zc_getC (pc := 1) zF_X10_62 rfl dX10_rain_1 ?_
  refine zc_iload_n (pc := 4) dX10_rain_4 rfl rfl ?_
  refine zc_callIp (pc := 5) [.ref 16, .int x1] rfl (zc_runV (ci := 7) (n0 := 0) (q := (RX7, TX7, 15)) zo_X7_isThere ⟨Nat.le_of_ble_eq_true rfl, Nat.le_of_ble_eq_true rfl⟩ zw_470 zw_379 zw_380 rfl (by decide) rfl rfl dX10_rain_5) (Nat.le_of_ble_eq_true rfl) (fun _ hr => zt_X7_isThere 16 rfl x1 h hr) (fun r1 => ?_)
  refine zc_if_eq (pc := 8) 40 dX10_rain_8 (by decide) (fun _ => ?_) (fun _ => ?_)
  · refine zc_ldc2 (pc := 40) dX10_rain_40 zw_686 ?_
    exact zc_lretK (pc := 43) dX10_rain_43 rfl ⟨_, rfl, rfl⟩
  · refine zc_iload_n (pc := 11) dX10_rain_11 rfl rfl ?_
    refine zc_if_lt (pc := 12) 40 dX10_rain_12 (by decide) (fun _ => ?_) (fun _ => ?_)
    · refine zc_ldc2 (pc := 40) dX10_rain_40 zw_686 ?_
      exact zc_lretK (pc := 43) dX10_rain_43 rfl ⟨_, rfl, rfl⟩
    · refine zc_iload_n (pc := 15) dX10_rain_15 rfl rfl ?_
      refine zc_bipush (pc := 16) (7 : Int32) dX10_rain_16 (by decide) ?_
      refine zc_icmp_gt (pc := 18) 40 dX10_rain_18 (by decide) (fun _ => ?_) (fun _ => ?_)
      · refine zc_ldc2 (pc := 40) dX10_rain_40 zw_686 ?_
        exact zc_lretK (pc := 43) dX10_rain_43 rfl ⟨_, rfl, rfl⟩
      · refine zc_iload_n (pc := 21) dX10_rain_21 rfl rfl ?_
        refine zc_iconst (pc := 22) (2 : Int32) dX10_rain_22 (by decide) ?_
        refine zc_icmp_lt (pc := 23) 40 dX10_rain_23 (by decide) (fun _ => ?_) (fun _ => ?_)
        · refine zc_ldc2 (pc := 40) dX10_rain_40 zw_686 ?_
          exact zc_lretK (pc := 43) dX10_rain_43 rfl ⟨_, rfl, rfl⟩
        · refine zc_iload_n (pc := 26) dX10_rain_26 rfl rfl ?_
          refine zc_bipush (pc := 27) (20 : Int32) dX10_rain_27 (by decide) ?_
          refine zc_icmp_gt (pc := 29) 40 dX10_rain_29 (by decide) (fun _ => ?_) (fun _ => ?_)
          · refine zc_ldc2 (pc := 40) dX10_rain_40 zw_686 ?_
            exact zc_lretK (pc := 43) dX10_rain_43 rfl ⟨_, rfl, rfl⟩
          · refine zc_iload (pc := 32) dX10_rain_32 rfl ?_
            refine zc_callIp (pc := 34) [.int x4] rfl (zc_runS zo_X10_isPart ⟨Nat.le_of_ble_eq_true rfl, Nat.le_of_ble_eq_true rfl⟩ zw_683 zw_684 rfl dX10_rain_34) (Nat.le_of_ble_eq_true rfl) (fun _ hr => zt_X10_isPart x4 h hr) (fun r2 => ?_)
            refine zc_if_ne (pc := 37) 44 dX10_rain_37 (by decide) (fun _ => ?_) (fun _ => ?_)
            · refine zc_ldc2 (pc := 40) dX10_rain_40 zw_686 ?_
              exact zc_lretK (pc := 43) dX10_rain_43 rfl ⟨_, rfl, rfl⟩
            · refine zc_aload_n (pc := 44) dX10_rain_44 rfl rfl ?_
              refine zc_iload_n (pc := 45) dX10_rain_45 rfl rfl ?_
              refine zc_iload_n (pc := 46) dX10_rain_46 rfl rfl ?_
              refine zc_callL (pc := 47) [.ref 0, .int x2, .int x3] rfl (zc_runV (ci := 10) (n0 := 0) (q := (RX10, TX10, 12)) zo_X10_spreadChances ⟨Nat.le_of_ble_eq_true rfl, Nat.le_of_ble_eq_true rfl⟩ zw_687 zw_689 zs_15 rfl (by decide) rfl rfl dX10_rain_47) (Nat.le_of_ble_eq_true rfl) (fun _ hr => zt_X10_spreadChances x2 x3 h hr) (fun r3 => ?_)
              refine zc_lstore (pc := 50) dX10_rain_50 (Nat.le_of_ble_eq_true rfl) rfl (Nat.le_of_ble_eq_true rfl) ?_
              refine zc_sL (ls1 := [some (.ref 0), some (.int x1), some (.int x2), some (.int x3), some (.int x4), some (.long r3.1), none, none, none, none]) rfl ?_
              refine zc_aload_n (pc := 52) dX10_rain_52 rfl rfl ?_
              refine zc_getC (pc := 53) zF_X10_66 rfl dX10_rain_53 ?_
              refine zc_aload_n (pc := 56) dX10_rain_56 rfl rfl ?_
              refine zc_getC (pc := 57) zF_X10_62 rfl dX10_rain_57 ?_
              refine zc_callV (pc := 60) [.ref 25, .ref 16] rfl (zc_runV (ci := 7) (n0 := 0) (q := (RX7, TX7, 15)) zo_X7_become ⟨Nat.le_of_ble_eq_true rfl, Nat.le_of_ble_eq_true rfl⟩ zw_244 zw_245 zw_246 rfl (by decide) rfl rfl dX10_rain_60) (Nat.le_of_ble_eq_true rfl) (fun _ hr => zt_X7_become 25 rfl 16 rfl r3.2 hr) (fun r4 => ?_)
              refine zc_aload_n (pc := 63) dX10_rain_63 rfl rfl ?_
              refine zc_getC (pc := 64) zF_X10_66 rfl dX10_rain_64 ?_
              refine zc_dup (pc := 67) dX10_rain_67 rfl ?_
              refine zc_getI (pc := 68) zF_X10_268 rfl dX10_rain_68 ?_
              refine zc_iload_n (pc := 71) dX10_rain_71 rfl rfl ?_
              refine zc_iadd (pc := 72) dX10_rain_72 ?_
              refine zc_putI (pc := 73) zF_X10_268 rfl dX10_rain_73 ?_
              refine zc_letH (fun h5 _ => ?_)
              refine zc_lconst (pc := 76) (0 : Int64) dX10_rain_76 (by decide) ?_
              refine zc_lstore (pc := 77) dX10_rain_77 (Nat.le_of_ble_eq_true rfl) rfl (Nat.le_of_ble_eq_true rfl) ?_
              refine zc_sL (ls1 := [some (.ref 0), some (.int x1), some (.int x2), some (.int x3), some (.int x4), some (.long r3.1), none, some (.long (0 : Int64)), none, none]) rfl ?_
              refine zc_iconst (pc := 79) (0 : Int32) dX10_rain_79 (by decide) ?_
              refine zc_istore (pc := 80) dX10_rain_80 (Nat.le_of_ble_eq_true rfl) rfl (Nat.le_of_ble_eq_true rfl) ?_
              refine zc_sL (ls1 := [some (.ref 0), some (.int x1), some (.int x2), some (.int x3), some (.int x4), some (.long r3.1), none, some (.long (0 : Int64)), none, some (.int (0 : Int32))]) rfl ?_
              refine zc_drop 2 ?_
              refine zc_drop 3 ?_
              refine zc_sL (ls1 := [some (.ref 0), some (.int x1), none, none, some (.int x4), some (.long r3.1), none, some (.long (0 : Int64)), none, some (.int (0 : Int32))]) rfl ?_
              refine zc_loop 127 (fun v13 => [none, none, none, none, some (.int x4), some (.long r3.1), none, some (.long v13.1), none, none]) (fun v13 => []) (fun v13 => v13.2) (fun v13 => ?_) (fun k16 J15 => ?_)
              · refine zc_lload (pc := 127) dX10_rain_127 rfl ?_
                refine zc_lload (pc := 129) dX10_rain_129 rfl ?_
                refine zc_iload (pc := 131) dX10_rain_131 rfl ?_
                refine zc_callLp (pc := 133) [.long v13.1, .long r3.1, .int x4] rfl (zc_runS zo_X10_partOf ⟨Nat.le_of_ble_eq_true rfl, Nat.le_of_ble_eq_true rfl⟩ zw_699 zw_700 rfl dX10_rain_133) (Nat.le_of_ble_eq_true rfl) (fun _ hr => zt_X10_partOf v13.1 r3.1 x4 v13.2 hr) (fun r14 => ?_)
                exact zc_lretK (pc := 136) dX10_rain_136 rfl ⟨_, rfl, rfl⟩
              · have L18 : ∀ (fu : Nat) (y6 : Int64) (y7 : Int32) (h8 : zHp), zc_G zM_X10_rain zc_mL 82 [some (.ref 0), some (.int x1), none, none, some (.int x4), some (.long r3.1), none, some (.long y6), none, some (.int y7)] [] h8 ((zl_X10_rain_82 x1 fu y6 y7 h8).bind k16) := by
                    intro fu
                    induction fu with
                    | zero => intros; exact zc_noneb
                    | succ fu ih19 =>
                      intro y6 y7 h8
                      unfold zl_X10_rain_82
                      refine zc_iload (pc := 82) dX10_rain_82 rfl ?_
                      refine zc_bipush (pc := 84) (12 : Int32) dX10_rain_84 (by decide) ?_
                      refine zc_icmp_ge (pc := 86) 127 dX10_rain_86 (by decide) (fun _ => ?_) (fun _ => ?_)
                      · refine zc_drop 0 ?_
                        refine zc_drop 1 ?_
                        refine zc_drop 9 ?_
                        exact J15 (y6, h8)
                      · refine zc_aload_n (pc := 89) dX10_rain_89 rfl rfl ?_
                        refine zc_getC (pc := 90) zF_X10_66 rfl dX10_rain_90 ?_
                        refine zc_iload (pc := 93) dX10_rain_93 rfl ?_
                        refine zc_putI (pc := 95) zF_X10_186 rfl dX10_rain_95 ?_
                        refine zc_letH (fun h9 _ => ?_)
                        refine zc_aload_n (pc := 98) dX10_rain_98 rfl rfl ?_
                        refine zc_getC (pc := 99) zF_X10_66 rfl dX10_rain_99 ?_
                        refine zc_iload_n (pc := 102) dX10_rain_102 rfl rfl ?_
                        refine zc_callIp (pc := 103) [.ref 25, .int x1] rfl (zc_runV (ci := 7) (n0 := 0) (q := (RX7, TX7, 15)) zo_X7_isAble ⟨Nat.le_of_ble_eq_true rfl, Nat.le_of_ble_eq_true rfl⟩ zw_476 zw_399 zw_400 rfl (by decide) rfl rfl dX10_rain_103) (Nat.le_of_ble_eq_true rfl) (fun _ hr => zt_X7_isAble 25 rfl x1 h9 hr) (fun r10 => ?_)
                        refine zc_if_eq (pc := 106) 121 dX10_rain_106 (by decide) (fun _ => ?_) (fun _ => ?_)
                        · refine zc_iinc (pc := 121) (1 : Int32) dX10_rain_121 (by decide) rfl (Nat.le_of_ble_eq_true rfl) rfl ?_
                          refine zc_sL (ls1 := [some (.ref 0), some (.int x1), none, none, some (.int x4), some (.long r3.1), none, some (.long y6), none, some (.int (y7 + (1 : Int32)))]) rfl ?_
                          refine zc_goto (pc := 124) 82 dX10_rain_124 (by decide) ?_
                          exact ih19 y6 (y7 + (1 : Int32)) h9
                        · refine zc_lload (pc := 109) dX10_rain_109 rfl ?_
                          refine zc_aload_n (pc := 111) dX10_rain_111 rfl rfl ?_
                          refine zc_getC (pc := 112) zF_X10_22 rfl dX10_rain_112 ?_
                          refine zc_iload (pc := 115) dX10_rain_115 rfl ?_
                          refine zc_guard (fun g11 => ?_)
                          refine zc_aldl (pc := 117) rfl g11 dX10_rain_117 ?_
                          refine zc_ladd (pc := 118) dX10_rain_118 ?_
                          refine zc_letL (fun v12 _ => ?_)
                          refine zc_lstore (pc := 119) dX10_rain_119 (Nat.le_of_ble_eq_true rfl) rfl (Nat.le_of_ble_eq_true rfl) ?_
                          refine zc_sL (ls1 := [some (.ref 0), some (.int x1), none, none, some (.int x4), some (.long r3.1), none, some (.long v12), none, some (.int y7)]) rfl ?_
                          refine zc_iinc (pc := 121) (1 : Int32) dX10_rain_121 (by decide) rfl (Nat.le_of_ble_eq_true rfl) rfl ?_
                          refine zc_sL (ls1 := [some (.ref 0), some (.int x1), none, none, some (.int x4), some (.long r3.1), none, some (.long v12), none, some (.int (y7 + (1 : Int32)))]) rfl ?_
                          refine zc_goto (pc := 124) 82 dX10_rain_124 (by decide) ?_
                          exact ih19 v12 (y7 + (1 : Int32)) h9
                exact L18 zFU (0 : Int64) (0 : Int32) h5
def zf_X10_mean (x1 : Int32) (h : zHp) : Option Int64 :=
  ((zf_X10_isPart x1).bind (fun r1 => (if r1 = 0 then some (1000000001 : Int64) else ((zf_X7_allStock 16 h).bind (fun r2 => ((some (if (1 : Int32) < (h.1 16 9) then (h.1 16 9) else (1 : Int32)) : Option Int32).bind (fun v3 => ((zf_X10_partOf r2.toInt64 v3.toInt64 x1).bind (fun r4 => some r4)))))))))
set_option maxRecDepth 100000 in
set_option maxHeartbeats 4000000 in
theorem zt_X10_mean (x1 : Int32) (h : zHp) {r : Int64} (hr : (zf_X10_mean x1 h) = some r) : zc_Cn zM_X10_mean [.ref 0, .int x1] h ((fun r => zc_mL (r, h)) r) := by
  refine zc_meth (mk := (fun r => zc_mL (r, h))) (o := (zf_X10_mean x1 h)) (by decide +kernel) (Nat.le_of_ble_eq_true rfl) ?_ hr
  unfold zf_X10_mean
  refine zc_sL (ls1 := [some (.ref 0), some (.int x1)]) rfl ?_
  refine zc_iload_n (pc := 0) dX10_mean_0 rfl rfl ?_
  refine zc_callIp (pc := 1) [.int x1] rfl (zc_runS zo_X10_isPart ⟨Nat.le_of_ble_eq_true rfl, Nat.le_of_ble_eq_true rfl⟩ zw_683 zw_684 rfl dX10_mean_1) (Nat.le_of_ble_eq_true rfl) (fun _ hr => zt_X10_isPart x1 h hr) (fun r1 => ?_)
  refine zc_if_ne (pc := 4) 11 dX10_mean_4 (by decide) (fun _ => ?_) (fun _ => ?_)
  · refine zc_ldc2 (pc := 7) dX10_mean_7 zw_686 ?_
    exact zc_lretK (pc := 10) dX10_mean_10 rfl ⟨_, rfl, rfl⟩
  · refine zc_aload_n (pc := 11) dX10_mean_11 rfl rfl ?_
    refine zc_getC (pc := 12) zF_X10_62 rfl dX10_mean_12 ?_
    refine zc_callIp (pc := 15) [.ref 16] rfl (zc_runV (ci := 7) (n0 := 0) (q := (RX7, TX7, 15)) zo_X7_allStock ⟨Nat.le_of_ble_eq_true rfl, Nat.le_of_ble_eq_true rfl⟩ zw_510 zw_511 zw_512 rfl (by decide) rfl rfl dX10_mean_15) (Nat.le_of_ble_eq_true rfl) (fun _ hr => zt_X7_allStock 16 rfl h hr) (fun r2 => ?_)
    refine zc_i2l (pc := 18) dX10_mean_18 ?_
    refine zc_iconst (pc := 19) (1 : Int32) dX10_mean_19 (by decide) ?_
    refine zc_aload_n (pc := 20) dX10_mean_20 rfl rfl ?_
    refine zc_getC (pc := 21) zF_X10_62 rfl dX10_mean_21 ?_
    refine zc_getI (pc := 24) zF_X10_152 rfl dX10_mean_24 ?_
    refine zc_mmax (pc := 27) zw_644 zw_mmax_s zw_14 zw_mmax_c (Nat.le_of_ble_eq_true rfl) ⟨Nat.le_of_ble_eq_true rfl, Nat.le_of_ble_eq_true rfl⟩ dX10_mean_27 ?_
    refine zc_letI (fun v3 _ => ?_)
    refine zc_i2l (pc := 30) dX10_mean_30 ?_
    refine zc_iload_n (pc := 31) dX10_mean_31 rfl rfl ?_
    refine zc_callLp (pc := 32) [.long r2.toInt64, .long v3.toInt64, .int x1] rfl (zc_runS zo_X10_partOf ⟨Nat.le_of_ble_eq_true rfl, Nat.le_of_ble_eq_true rfl⟩ zw_699 zw_700 rfl dX10_mean_32) (Nat.le_of_ble_eq_true rfl) (fun _ hr => zt_X10_partOf r2.toInt64 v3.toInt64 x1 h hr) (fun r4 => ?_)
    exact zc_lretK (pc := 35) dX10_mean_35 rfl ⟨_, rfl, rfl⟩
def zl_X10_forged_22 (x1 : Int32) (h : zHp) : Nat → Int32 → Option (Int32 ⊕ Unit)
  | 0, _ => none
  | fu + 1, y3 => (if (h.1 (43 + 1 + 2 * x1.toNatClampNeg) 4) ≤ y3 then some (Sum.inr ()) else ((zf_X7_isThere 16 y3 h).bind (fun r4 => (if r4 = 0 then some (Sum.inl y3) else (if zc_ix y3 100 then (if zc_ix y3 7 then (if (h.1 ((43 + 1 + 2 * x1.toNatClampNeg) + 1) y3.toNatClampNeg) = (h.1 (16 + 3) y3.toNatClampNeg) then zl_X10_forged_22 x1 h fu (y3 + (1 : Int32)) else some (Sum.inl y3)) else none) else none)))))
def zf_X10_forged (x1 : Int32) (h : zHp) : Option Int32 :=
  ((zf_X10_refuseRow x1 h).bind (fun r1 => (if r1 = 0 then (if zc_ix x1 8 then ((zl_X10_forged_22 x1 h zFU (0 : Int32)).bind (Sum.elim (fun r => some r) (fun v7 => some (-4 : Int32)))) else none) else some r1)))
set_option maxRecDepth 100000 in
set_option maxHeartbeats 4000000 in
theorem zt_X10_forged (x1 : Int32) (h : zHp) {r : Int32} (hr : (zf_X10_forged x1 h) = some r) : zc_Cn zM_X10_forged [.ref 0, .int x1] h ((fun r => zc_mI (r, h)) r) := by
  refine zc_meth (mk := (fun r => zc_mI (r, h))) (o := (zf_X10_forged x1 h)) (by decide +kernel) (Nat.le_of_ble_eq_true rfl) ?_ hr
  unfold zf_X10_forged
  refine zc_sL (ls1 := [some (.ref 0), some (.int x1), none, none, none]) rfl ?_
  refine zc_aload_n (pc := 0) dX10_forged_0 rfl rfl ?_
  refine zc_iload_n (pc := 1) dX10_forged_1 rfl rfl ?_
  refine zc_callIp (pc := 2) [.ref 0, .int x1] rfl (zc_runV (ci := 10) (n0 := 0) (q := (RX10, TX10, 12)) zo_X10_refuseRow ⟨Nat.le_of_ble_eq_true rfl, Nat.le_of_ble_eq_true rfl⟩ zw_227 zw_229 zs_0 rfl (by decide) rfl rfl dX10_forged_2) (Nat.le_of_ble_eq_true rfl) (fun _ hr => zt_X10_refuseRow x1 h hr) (fun r1 => ?_)
  refine zc_istore_n (pc := 5) dX10_forged_5 rfl (Nat.le_of_ble_eq_true rfl) rfl (Nat.le_of_ble_eq_true rfl) ?_
  refine zc_sL (ls1 := [some (.ref 0), some (.int x1), some (.int r1), none, none]) rfl ?_
  refine zc_iload_n (pc := 6) dX10_forged_6 rfl rfl ?_
  refine zc_if_eq (pc := 7) 12 dX10_forged_7 (by decide) (fun _ => ?_) (fun _ => ?_)
  · refine zc_aload_n (pc := 12) dX10_forged_12 rfl rfl ?_
    refine zc_getC (pc := 13) zF_X10_74 rfl dX10_forged_13 ?_
    refine zc_iload_n (pc := 16) dX10_forged_16 rfl rfl ?_
    refine zc_guard (fun g2 => ?_)
    refine zc_aldS (pc := 17) rfl g2 dX10_forged_17 ?_
    refine zc_astore_n (pc := 18) dX10_forged_18 rfl (Nat.le_of_ble_eq_true rfl) rfl (Nat.le_of_ble_eq_true rfl) ?_
    refine zc_sL (ls1 := [some (.ref 0), some (.int x1), some (.int r1), some (.ref (43 + 1 + 2 * x1.toNatClampNeg)), none]) rfl ?_
    refine zc_iconst (pc := 19) (0 : Int32) dX10_forged_19 (by decide) ?_
    refine zc_istore (pc := 20) dX10_forged_20 (Nat.le_of_ble_eq_true rfl) rfl (Nat.le_of_ble_eq_true rfl) ?_
    refine zc_sL (ls1 := [some (.ref 0), some (.int x1), some (.int r1), some (.ref (43 + 1 + 2 * x1.toNatClampNeg)), some (.int (0 : Int32))]) rfl ?_
    refine zc_drop 1 ?_
    refine zc_drop 2 ?_
    refine zc_sL (ls1 := [some (.ref 0), none, none, some (.ref (43 + 1 + 2 * x1.toNatClampNeg)), some (.int (0 : Int32))]) rfl ?_
    refine zc_loopS (fun r => zc_mI (r, h)) 72 (fun v7 => [none, none, none, none, none]) (fun v7 => []) (fun v7 => h) (fun v7 => ?_) (fun z => ⟨_, rfl, rfl⟩) (fun k9 J8 K10 => ?_)
    · refine zc_bipush (pc := 72) (-4 : Int32) dX10_forged_72 (by decide) ?_
      exact zc_iretK (pc := 74) dX10_forged_74 rfl ⟨_, rfl, rfl⟩
    · have L11 : ∀ (fu : Nat) (y3 : Int32), zc_G zM_X10_forged (fun r => zc_mI (r, h)) 22 [some (.ref 0), none, none, some (.ref (43 + 1 + 2 * x1.toNatClampNeg)), some (.int y3)] [] h ((zl_X10_forged_22 x1 h fu y3).bind k9) := by
          intro fu
          induction fu with
          | zero => intros; exact zc_noneb
          | succ fu ih12 =>
            intro y3
            unfold zl_X10_forged_22
            refine zc_iload (pc := 22) dX10_forged_22 rfl ?_
            refine zc_aload_n (pc := 24) dX10_forged_24 rfl rfl ?_
            refine zc_getI (pc := 25) zF_X10_95 (zs_s g2) dX10_forged_25 ?_
            refine zc_icmp_ge (pc := 28) 72 dX10_forged_28 (by decide) (fun _ => ?_) (fun _ => ?_)
            · refine zc_drop 0 ?_
              refine zc_drop 3 ?_
              refine zc_drop 4 ?_
              exact J8 ()
            · refine zc_aload_n (pc := 31) dX10_forged_31 rfl rfl ?_
              refine zc_getC (pc := 32) zF_X10_62 rfl dX10_forged_32 ?_
              refine zc_iload (pc := 35) dX10_forged_35 rfl ?_
              refine zc_callIp (pc := 37) [.ref 16, .int y3] rfl (zc_runV (ci := 7) (n0 := 0) (q := (RX7, TX7, 15)) zo_X7_isThere ⟨Nat.le_of_ble_eq_true rfl, Nat.le_of_ble_eq_true rfl⟩ zw_470 zw_379 zw_380 rfl (by decide) rfl rfl dX10_forged_37) (Nat.le_of_ble_eq_true rfl) (fun _ hr => zt_X7_isThere 16 rfl y3 h hr) (fun r4 => ?_)
              refine zc_if_eq (pc := 40) 63 dX10_forged_40 (by decide) (fun _ => ?_) (fun _ => ?_)
              · refine zc_iload (pc := 63) dX10_forged_63 rfl ?_
                exact zc_iretK (pc := 65) dX10_forged_65 rfl (K10 _)
              · refine zc_aload_n (pc := 43) dX10_forged_43 rfl rfl ?_
                refine zc_getO (pc := 44) zF_X10_102 (zs_s g2) dX10_forged_44 ?_
                refine zc_iload (pc := 47) dX10_forged_47 rfl ?_
                refine zc_guard (fun g5 => ?_)
                refine zc_aldi (pc := 49) (zs_q (zs_s g2)) g5 dX10_forged_49 ?_
                refine zc_aload_n (pc := 50) dX10_forged_50 rfl rfl ?_
                refine zc_getC (pc := 51) zF_X10_62 rfl dX10_forged_51 ?_
                refine zc_getO (pc := 54) zF_X10_118 rfl dX10_forged_54 ?_
                refine zc_iload (pc := 57) dX10_forged_57 rfl ?_
                refine zc_guard (fun g6 => ?_)
                refine zc_aldi (pc := 59) rfl g6 dX10_forged_59 ?_
                refine zc_icmp_eq (pc := 60) 66 dX10_forged_60 (by decide) (fun _ => ?_) (fun _ => ?_)
                · refine zc_iinc (pc := 66) (1 : Int32) dX10_forged_66 (by decide) rfl (Nat.le_of_ble_eq_true rfl) rfl ?_
                  refine zc_sL (ls1 := [some (.ref 0), none, none, some (.ref (43 + 1 + 2 * x1.toNatClampNeg)), some (.int (y3 + (1 : Int32)))]) rfl ?_
                  refine zc_goto (pc := 69) 22 dX10_forged_69 (by decide) ?_
                  exact ih12 (y3 + (1 : Int32))
                · refine zc_iload (pc := 63) dX10_forged_63 rfl ?_
                  exact zc_iretK (pc := 65) dX10_forged_65 rfl (K10 _)
      exact L11 zFU (0 : Int32)
  · refine zc_iload_n (pc := 10) dX10_forged_10 rfl rfl ?_
    exact zc_iretK (pc := 11) dX10_forged_11 rfl ⟨_, rfl, rfl⟩
def zf_X10_judge (x1 : Int32) (h : zHp) : Option (Int32 × zHp) :=
  ((zf_X10_refuseRow x1 h).bind (fun r1 => (if r1 = 0 then ((zf_X7_become 25 16 h).bind (fun r2 => (if zc_ix x1 8 then ((zf_X10_firstUntrueStock (43 + 1 + 2 * x1.toNatClampNeg) (-1 : Int32) r2).bind (fun r4 => some (r4.1, r4.2))) else none))) else some (r1, h))))
set_option maxRecDepth 100000 in
set_option maxHeartbeats 4000000 in
theorem zt_X10_judge (x1 : Int32) (h : zHp) {r : (Int32 × zHp)} (hr : (zf_X10_judge x1 h) = some r) : zc_Cn zM_X10_judge [.ref 0, .int x1] h (zc_mI r) := by
  refine zc_meth (mk := zc_mI) (o := (zf_X10_judge x1 h)) (by decide +kernel) (Nat.le_of_ble_eq_true rfl) ?_ hr
  unfold zf_X10_judge
  refine zc_sL (ls1 := [some (.ref 0), some (.int x1), none]) rfl ?_
  refine zc_aload_n (pc := 0) dX10_judge_0 rfl rfl ?_
  refine zc_iload_n (pc := 1) dX10_judge_1 rfl rfl ?_
  refine zc_callIp (pc := 2) [.ref 0, .int x1] rfl (zc_runV (ci := 10) (n0 := 0) (q := (RX10, TX10, 12)) zo_X10_refuseRow ⟨Nat.le_of_ble_eq_true rfl, Nat.le_of_ble_eq_true rfl⟩ zw_227 zw_229 zs_0 rfl (by decide) rfl rfl dX10_judge_2) (Nat.le_of_ble_eq_true rfl) (fun _ hr => zt_X10_refuseRow x1 h hr) (fun r1 => ?_)
  refine zc_istore_n (pc := 5) dX10_judge_5 rfl (Nat.le_of_ble_eq_true rfl) rfl (Nat.le_of_ble_eq_true rfl) ?_
  refine zc_sL (ls1 := [some (.ref 0), some (.int x1), some (.int r1)]) rfl ?_
  refine zc_iload_n (pc := 6) dX10_judge_6 rfl rfl ?_
  refine zc_if_eq (pc := 7) 12 dX10_judge_7 (by decide) (fun _ => ?_) (fun _ => ?_)
  · refine zc_aload_n (pc := 12) dX10_judge_12 rfl rfl ?_
    refine zc_getC (pc := 13) zF_X10_66 rfl dX10_judge_13 ?_
    refine zc_aload_n (pc := 16) dX10_judge_16 rfl rfl ?_
    refine zc_getC (pc := 17) zF_X10_62 rfl dX10_judge_17 ?_
    refine zc_callV (pc := 20) [.ref 25, .ref 16] rfl (zc_runV (ci := 7) (n0 := 0) (q := (RX7, TX7, 15)) zo_X7_become ⟨Nat.le_of_ble_eq_true rfl, Nat.le_of_ble_eq_true rfl⟩ zw_244 zw_245 zw_246 rfl (by decide) rfl rfl dX10_judge_20) (Nat.le_of_ble_eq_true rfl) (fun _ hr => zt_X7_become 25 rfl 16 rfl h hr) (fun r2 => ?_)
    refine zc_aload_n (pc := 23) dX10_judge_23 rfl rfl ?_
    refine zc_aload_n (pc := 24) dX10_judge_24 rfl rfl ?_
    refine zc_getC (pc := 25) zF_X10_74 rfl dX10_judge_25 ?_
    refine zc_iload_n (pc := 28) dX10_judge_28 rfl rfl ?_
    refine zc_guard (fun g3 => ?_)
    refine zc_aldS (pc := 29) rfl g3 dX10_judge_29 ?_
    refine zc_iconst (pc := 30) (-1 : Int32) dX10_judge_30 (by decide) ?_
    refine zc_callI (pc := 31) [.ref 0, .ref (43 + 1 + 2 * x1.toNatClampNeg), .int (-1 : Int32)] rfl (zc_runV (ci := 10) (n0 := 0) (q := (RX10, TX10, 12)) zo_X10_firstUntrueStock ⟨Nat.le_of_ble_eq_true rfl, Nat.le_of_ble_eq_true rfl⟩ zw_667 zw_669 zs_13 rfl (by decide) rfl rfl dX10_judge_31) (Nat.le_of_ble_eq_true rfl) (fun _ hr => zt_X10_firstUntrueStock (43 + 1 + 2 * x1.toNatClampNeg) (zs_s g3) (-1 : Int32) r2 hr) (fun r4 => ?_)
    exact zc_iretK (pc := 34) dX10_judge_34 rfl ⟨_, rfl, rfl⟩
  · refine zc_iload_n (pc := 10) dX10_judge_10 rfl rfl ?_
    exact zc_iretK (pc := 11) dX10_judge_11 rfl ⟨_, rfl, rfl⟩
def zl_X10_years_54  : Nat → Int32 → Int32 → zHp → Option (Int32 × zHp)
  | 0, _, _, _ => none
  | fu + 1, y7, y8, h9 => (if (h9.1 25 9) ≤ y8 then some (y7, h9) else ((some ((y7 * (1103515245 : Int32)) + (12345 : Int32)) : Option Int32).bind (fun v10 => (if zc_ix y8 7 then ((some (zc_ui h9 (25 + 3) y8.toNatClampNeg (((v10 &&& (2147483647 : Int32)) / (65536 : Int32)) - ((v10 &&& (2147483647 : Int32)) / (65536 : Int32)) / (12 : Int32) * (12 : Int32))) : Option zHp).bind (fun h12 => zl_X10_years_54 fu v10 (y8 + (1 : Int32)) h12)) else none))))
def zl_X10_years_34 (x1 : Int32) : Nat → Int32 → Int32 → Int32 → Int32 → zHp → Option (Int32 × Int32 × zHp)
  | 0, _, _, _, _, _ => none
  | fu + 1, y1, y2, y3, y4, h5 => (if x1 ≤ y4 then some (y2, y3, h5) else ((zf_X7_become 25 16 h5).bind (fun r6 => ((zl_X10_years_54 zFU y1 (0 : Int32) r6).bind (fun v13 => ((zf_X7_goDays 25 (12 : Int32) v13.2).bind (fun r14 => ((zf_X7_allStock 25 r14).bind (fun r15 => ((some (y3 + ((r14.1 25 13) - (r14.1 16 13))) : Option Int32).bind (fun v16 => zl_X10_years_34 x1 fu v13.1 (y2 + r15) v16 (y4 + (1 : Int32)) r14)))))))))))
def zf_X10_years (x1 : Int32) (x2 : Int32) (x3 : Int32) (h : zHp) : Option (Int32 × zHp) :=
  (if x1 < (1 : Int32) then some ((-1 : Int32), h) else (if (20 : Int32) < x1 then some ((-1 : Int32), h) else (if x3 < 0 then some ((-1 : Int32), h) else (if x3 ≤ (1 : Int32) then ((zl_X10_years_34 x1 zFU x2 (0 : Int32) (0 : Int32) (0 : Int32) h).bind (fun v17 => (if x3 = 0 then some (v17.1, v17.2.2) else some (v17.2.1, v17.2.2)))) else some ((-1 : Int32), h)))))
set_option maxRecDepth 100000 in
set_option maxHeartbeats 4000000 in
theorem zt_X10_years (x1 : Int32) (x2 : Int32) (x3 : Int32) (h : zHp) {r : (Int32 × zHp)} (hr : (zf_X10_years x1 x2 x3 h) = some r) : zc_Cn zM_X10_years [.ref 0, .int x1, .int x2, .int x3] h (zc_mI r) := by
  refine zc_meth (mk := zc_mI) (o := (zf_X10_years x1 x2 x3 h)) (by decide +kernel) (Nat.le_of_ble_eq_true rfl) ?_ hr
  unfold zf_X10_years
  refine zc_sL (ls1 := [some (.ref 0), some (.int x1), some (.int x2), some (.int x3), none, none, none, none, none]) rfl ?_
  refine zc_iload_n (pc := 0) dX10_years_0 rfl rfl ?_
  refine zc_iconst (pc := 1) (1 : Int32) dX10_years_1 (by decide) ?_
  refine zc_icmp_lt (pc := 2) 20 dX10_years_2 (by decide) (fun _ => ?_) (fun _ => ?_)
  · refine zc_iconst (pc := 20) (-1 : Int32) dX10_years_20 (by decide) ?_
    exact zc_iretK (pc := 21) dX10_years_21 rfl ⟨_, rfl, rfl⟩
  · refine zc_iload_n (pc := 5) dX10_years_5 rfl rfl ?_
    refine zc_bipush (pc := 6) (20 : Int32) dX10_years_6 (by decide) ?_
    refine zc_icmp_gt (pc := 8) 20 dX10_years_8 (by decide) (fun _ => ?_) (fun _ => ?_)
    · refine zc_iconst (pc := 20) (-1 : Int32) dX10_years_20 (by decide) ?_
      exact zc_iretK (pc := 21) dX10_years_21 rfl ⟨_, rfl, rfl⟩
    · refine zc_iload_n (pc := 11) dX10_years_11 rfl rfl ?_
      refine zc_if_lt (pc := 12) 20 dX10_years_12 (by decide) (fun _ => ?_) (fun _ => ?_)
      · refine zc_iconst (pc := 20) (-1 : Int32) dX10_years_20 (by decide) ?_
        exact zc_iretK (pc := 21) dX10_years_21 rfl ⟨_, rfl, rfl⟩
      · refine zc_iload_n (pc := 15) dX10_years_15 rfl rfl ?_
        refine zc_iconst (pc := 16) (1 : Int32) dX10_years_16 (by decide) ?_
        refine zc_icmp_le (pc := 17) 22 dX10_years_17 (by decide) (fun _ => ?_) (fun _ => ?_)
        · refine zc_iload_n (pc := 22) dX10_years_22 rfl rfl ?_
          refine zc_istore (pc := 23) dX10_years_23 (Nat.le_of_ble_eq_true rfl) rfl (Nat.le_of_ble_eq_true rfl) ?_
          refine zc_sL (ls1 := [some (.ref 0), some (.int x1), some (.int x2), some (.int x3), some (.int x2), none, none, none, none]) rfl ?_
          refine zc_iconst (pc := 25) (0 : Int32) dX10_years_25 (by decide) ?_
          refine zc_istore (pc := 26) dX10_years_26 (Nat.le_of_ble_eq_true rfl) rfl (Nat.le_of_ble_eq_true rfl) ?_
          refine zc_sL (ls1 := [some (.ref 0), some (.int x1), some (.int x2), some (.int x3), some (.int x2), some (.int (0 : Int32)), none, none, none]) rfl ?_
          refine zc_iconst (pc := 28) (0 : Int32) dX10_years_28 (by decide) ?_
          refine zc_istore (pc := 29) dX10_years_29 (Nat.le_of_ble_eq_true rfl) rfl (Nat.le_of_ble_eq_true rfl) ?_
          refine zc_sL (ls1 := [some (.ref 0), some (.int x1), some (.int x2), some (.int x3), some (.int x2), some (.int (0 : Int32)), some (.int (0 : Int32)), none, none]) rfl ?_
          refine zc_iconst (pc := 31) (0 : Int32) dX10_years_31 (by decide) ?_
          refine zc_istore (pc := 32) dX10_years_32 (Nat.le_of_ble_eq_true rfl) rfl (Nat.le_of_ble_eq_true rfl) ?_
          refine zc_sL (ls1 := [some (.ref 0), some (.int x1), some (.int x2), some (.int x3), some (.int x2), some (.int (0 : Int32)), some (.int (0 : Int32)), some (.int (0 : Int32)), none]) rfl ?_
          refine zc_drop 2 ?_
          refine zc_sL (ls1 := [some (.ref 0), some (.int x1), none, some (.int x3), some (.int x2), some (.int (0 : Int32)), some (.int (0 : Int32)), some (.int (0 : Int32)), none]) rfl ?_
          refine zc_loop 154 (fun v17 => [none, none, none, some (.int x3), none, some (.int v17.1), some (.int v17.2.1), none, none]) (fun v17 => []) (fun v17 => v17.2.2) (fun v17 => ?_) (fun k19 J18 => ?_)
          · refine zc_iload_n (pc := 154) dX10_years_154 rfl rfl ?_
            refine zc_if_ne (pc := 155) 163 dX10_years_155 (by decide) (fun _ => ?_) (fun _ => ?_)
            · refine zc_iload (pc := 158) dX10_years_158 rfl ?_
              refine zc_goto (pc := 160) 165 dX10_years_160 (by decide) ?_
              exact zc_iretK (pc := 165) dX10_years_165 rfl ⟨_, rfl, rfl⟩
            · refine zc_iload (pc := 163) dX10_years_163 rfl ?_
              exact zc_iretK (pc := 165) dX10_years_165 rfl ⟨_, rfl, rfl⟩
          · have L21 : ∀ (fu : Nat) (y1 : Int32) (y2 : Int32) (y3 : Int32) (y4 : Int32) (h5 : zHp), zc_G zM_X10_years zc_mI 34 [some (.ref 0), some (.int x1), none, some (.int x3), some (.int y1), some (.int y2), some (.int y3), some (.int y4), none] [] h5 ((zl_X10_years_34 x1 fu y1 y2 y3 y4 h5).bind k19) := by
                intro fu
                induction fu with
                | zero => intros; exact zc_noneb
                | succ fu ih22 =>
                  intro y1 y2 y3 y4 h5
                  unfold zl_X10_years_34
                  refine zc_iload (pc := 34) dX10_years_34 rfl ?_
                  refine zc_iload_n (pc := 36) dX10_years_36 rfl rfl ?_
                  refine zc_icmp_ge (pc := 37) 154 dX10_years_37 (by decide) (fun _ => ?_) (fun _ => ?_)
                  · refine zc_drop 0 ?_
                    refine zc_drop 1 ?_
                    refine zc_drop 4 ?_
                    refine zc_drop 7 ?_
                    exact J18 (y2, y3, h5)
                  · refine zc_aload_n (pc := 40) dX10_years_40 rfl rfl ?_
                    refine zc_getC (pc := 41) zF_X10_66 rfl dX10_years_41 ?_
                    refine zc_aload_n (pc := 44) dX10_years_44 rfl rfl ?_
                    refine zc_getC (pc := 45) zF_X10_62 rfl dX10_years_45 ?_
                    refine zc_callV (pc := 48) [.ref 25, .ref 16] rfl (zc_runV (ci := 7) (n0 := 0) (q := (RX7, TX7, 15)) zo_X7_become ⟨Nat.le_of_ble_eq_true rfl, Nat.le_of_ble_eq_true rfl⟩ zw_244 zw_245 zw_246 rfl (by decide) rfl rfl dX10_years_48) (Nat.le_of_ble_eq_true rfl) (fun _ hr => zt_X7_become 25 rfl 16 rfl h5 hr) (fun r6 => ?_)
                    refine zc_iconst (pc := 51) (0 : Int32) dX10_years_51 (by decide) ?_
                    refine zc_istore (pc := 52) dX10_years_52 (Nat.le_of_ble_eq_true rfl) rfl (Nat.le_of_ble_eq_true rfl) ?_
                    refine zc_sL (ls1 := [some (.ref 0), some (.int x1), none, some (.int x3), some (.int y1), some (.int y2), some (.int y3), some (.int y4), some (.int (0 : Int32))]) rfl ?_
                    refine zc_sL (ls1 := [some (.ref 0), some (.int x1), none, some (.int x3), some (.int y1), some (.int y2), some (.int y3), some (.int y4), some (.int (0 : Int32))]) rfl ?_
                    refine zc_loop 107 (fun v13 => [some (.ref 0), some (.int x1), none, some (.int x3), some (.int v13.1), some (.int y2), some (.int y3), some (.int y4), none]) (fun v13 => []) (fun v13 => v13.2) (fun v13 => ?_) (fun k24 J23 => ?_)
                    · refine zc_aload_n (pc := 107) dX10_years_107 rfl rfl ?_
                      refine zc_getC (pc := 108) zF_X10_66 rfl dX10_years_108 ?_
                      refine zc_bipush (pc := 111) (12 : Int32) dX10_years_111 (by decide) ?_
                      refine zc_callV (pc := 113) [.ref 25, .int (12 : Int32)] rfl (zc_runV (ci := 7) (n0 := 0) (q := (RX7, TX7, 15)) zo_X7_goDays ⟨Nat.le_of_ble_eq_true rfl, Nat.le_of_ble_eq_true rfl⟩ zw_390 zw_391 zw_392 rfl (by decide) rfl rfl dX10_years_113) (Nat.le_of_ble_eq_true rfl) (fun _ hr => zt_X7_goDays 25 rfl (12 : Int32) v13.2 hr) (fun r14 => ?_)
                      refine zc_iload (pc := 116) dX10_years_116 rfl ?_
                      refine zc_aload_n (pc := 118) dX10_years_118 rfl rfl ?_
                      refine zc_getC (pc := 119) zF_X10_66 rfl dX10_years_119 ?_
                      refine zc_callIp (pc := 122) [.ref 25] rfl (zc_runV (ci := 7) (n0 := 0) (q := (RX7, TX7, 15)) zo_X7_allStock ⟨Nat.le_of_ble_eq_true rfl, Nat.le_of_ble_eq_true rfl⟩ zw_510 zw_511 zw_512 rfl (by decide) rfl rfl dX10_years_122) (Nat.le_of_ble_eq_true rfl) (fun _ hr => zt_X7_allStock 25 rfl r14 hr) (fun r15 => ?_)
                      refine zc_iadd (pc := 125) dX10_years_125 ?_
                      refine zc_istore (pc := 126) dX10_years_126 (Nat.le_of_ble_eq_true rfl) rfl (Nat.le_of_ble_eq_true rfl) ?_
                      refine zc_sL (ls1 := [some (.ref 0), some (.int x1), none, some (.int x3), some (.int v13.1), some (.int (y2 + r15)), some (.int y3), some (.int y4), none]) rfl ?_
                      refine zc_iload (pc := 128) dX10_years_128 rfl ?_
                      refine zc_aload_n (pc := 130) dX10_years_130 rfl rfl ?_
                      refine zc_getC (pc := 131) zF_X10_66 rfl dX10_years_131 ?_
                      refine zc_getI (pc := 134) zF_X10_189 rfl dX10_years_134 ?_
                      refine zc_aload_n (pc := 137) dX10_years_137 rfl rfl ?_
                      refine zc_getC (pc := 138) zF_X10_62 rfl dX10_years_138 ?_
                      refine zc_getI (pc := 141) zF_X10_189 rfl dX10_years_141 ?_
                      refine zc_isub (pc := 144) dX10_years_144 ?_
                      refine zc_iadd (pc := 145) dX10_years_145 ?_
                      refine zc_letI (fun v16 _ => ?_)
                      refine zc_istore (pc := 146) dX10_years_146 (Nat.le_of_ble_eq_true rfl) rfl (Nat.le_of_ble_eq_true rfl) ?_
                      refine zc_sL (ls1 := [some (.ref 0), some (.int x1), none, some (.int x3), some (.int v13.1), some (.int (y2 + r15)), some (.int v16), some (.int y4), none]) rfl ?_
                      refine zc_iinc (pc := 148) (1 : Int32) dX10_years_148 (by decide) rfl (Nat.le_of_ble_eq_true rfl) rfl ?_
                      refine zc_sL (ls1 := [some (.ref 0), some (.int x1), none, some (.int x3), some (.int v13.1), some (.int (y2 + r15)), some (.int v16), some (.int (y4 + (1 : Int32))), none]) rfl ?_
                      refine zc_goto (pc := 151) 34 dX10_years_151 (by decide) ?_
                      exact ih22 v13.1 (y2 + r15) v16 (y4 + (1 : Int32)) r14
                    · have L26 : ∀ (fu : Nat) (y7 : Int32) (y8 : Int32) (h9 : zHp), zc_G zM_X10_years zc_mI 54 [some (.ref 0), some (.int x1), none, some (.int x3), some (.int y7), some (.int y2), some (.int y3), some (.int y4), some (.int y8)] [] h9 ((zl_X10_years_54 fu y7 y8 h9).bind k24) := by
                          intro fu
                          induction fu with
                          | zero => intros; exact zc_noneb
                          | succ fu ih27 =>
                            intro y7 y8 h9
                            unfold zl_X10_years_54
                            refine zc_iload (pc := 54) dX10_years_54 rfl ?_
                            refine zc_aload_n (pc := 56) dX10_years_56 rfl rfl ?_
                            refine zc_getC (pc := 57) zF_X10_66 rfl dX10_years_57 ?_
                            refine zc_getI (pc := 60) zF_X10_152 rfl dX10_years_60 ?_
                            refine zc_icmp_ge (pc := 63) 107 dX10_years_63 (by decide) (fun _ => ?_) (fun _ => ?_)
                            · refine zc_drop 8 ?_
                              exact J23 (y7, h9)
                            · refine zc_iload (pc := 66) dX10_years_66 rfl ?_
                              refine zc_ldcw (pc := 68) dX10_years_68 zw_721 ?_
                              refine zc_imul (pc := 71) dX10_years_71 ?_
                              refine zc_sipush (pc := 72) (12345 : Int32) dX10_years_72 (by decide) ?_
                              refine zc_iadd (pc := 75) dX10_years_75 ?_
                              refine zc_letI (fun v10 _ => ?_)
                              refine zc_istore (pc := 76) dX10_years_76 (Nat.le_of_ble_eq_true rfl) rfl (Nat.le_of_ble_eq_true rfl) ?_
                              refine zc_sL (ls1 := [some (.ref 0), some (.int x1), none, some (.int x3), some (.int v10), some (.int y2), some (.int y3), some (.int y4), some (.int y8)]) rfl ?_
                              refine zc_aload_n (pc := 78) dX10_years_78 rfl rfl ?_
                              refine zc_getC (pc := 79) zF_X10_66 rfl dX10_years_79 ?_
                              refine zc_getO (pc := 82) zF_X10_118 rfl dX10_years_82 ?_
                              refine zc_iload (pc := 85) dX10_years_85 rfl ?_
                              refine zc_iload (pc := 87) dX10_years_87 rfl ?_
                              refine zc_ldcw (pc := 89) dX10_years_89 zw_722 ?_
                              refine zc_iand (pc := 92) dX10_years_92 ?_
                              refine zc_ldcw (pc := 93) dX10_years_93 zw_723 ?_
                              refine zc_idiv (pc := 96) dX10_years_96 (by decide) ?_
                              refine zc_bipush (pc := 97) (12 : Int32) dX10_years_97 (by decide) ?_
                              refine zc_irem (pc := 99) dX10_years_99 (by decide) ?_
                              refine zc_guard (fun g11 => ?_)
                              refine zc_asti (pc := 100) rfl g11 dX10_years_100 ?_
                              refine zc_letH (fun h12 _ => ?_)
                              refine zc_iinc (pc := 101) (1 : Int32) dX10_years_101 (by decide) rfl (Nat.le_of_ble_eq_true rfl) rfl ?_
                              refine zc_sL (ls1 := [some (.ref 0), some (.int x1), none, some (.int x3), some (.int v10), some (.int y2), some (.int y3), some (.int y4), some (.int (y8 + (1 : Int32)))]) rfl ?_
                              refine zc_goto (pc := 104) 54 dX10_years_104 (by decide) ?_
                              exact ih27 v10 (y8 + (1 : Int32)) h12
                      exact L26 zFU y1 (0 : Int32) r6
            exact L21 zFU x2 (0 : Int32) (0 : Int32) (0 : Int32) h
        · refine zc_iconst (pc := 20) (-1 : Int32) dX10_years_20 (by decide) ?_
          exact zc_iretK (pc := 21) dX10_years_21 rfl ⟨_, rfl, rfl⟩
def zf_X10_image (h : zHp) : Option (Int32 × zHp) :=
  ((zf_X7_become 34 16 h).bind (fun r1 => ((some (zc_ui r1 0 4 (1 : Int32)) : Option zHp).bind (fun h2 => some ((h2.1 16 14), h2)))))
set_option maxRecDepth 100000 in
set_option maxHeartbeats 4000000 in
theorem zt_X10_image (h : zHp) {r : (Int32 × zHp)} (hr : (zf_X10_image h) = some r) : zc_Cn zM_X10_image [.ref 0] h (zc_mI r) := by
  refine zc_meth (mk := zc_mI) (o := (zf_X10_image h)) (by decide +kernel) (Nat.le_of_ble_eq_true rfl) ?_ hr
  unfold zf_X10_image
  refine zc_sL (ls1 := [some (.ref 0)]) rfl ?_
  refine zc_aload_n (pc := 0) dX10_image_0 rfl rfl ?_
  refine zc_getC (pc := 1) zF_X10_69 rfl dX10_image_1 ?_
  refine zc_aload_n (pc := 4) dX10_image_4 rfl rfl ?_
  refine zc_getC (pc := 5) zF_X10_62 rfl dX10_image_5 ?_
  refine zc_callV (pc := 8) [.ref 34, .ref 16] rfl (zc_runV (ci := 7) (n0 := 0) (q := (RX7, TX7, 15)) zo_X7_become ⟨Nat.le_of_ble_eq_true rfl, Nat.le_of_ble_eq_true rfl⟩ zw_244 zw_245 zw_246 rfl (by decide) rfl rfl dX10_image_8) (Nat.le_of_ble_eq_true rfl) (fun _ hr => zt_X7_become 34 rfl 16 rfl h hr) (fun r1 => ?_)
  refine zc_aload_n (pc := 11) dX10_image_11 rfl rfl ?_
  refine zc_iconst (pc := 12) (1 : Int32) dX10_image_12 (by decide) ?_
  refine zc_putZ (pc := 13) zF_X10_281 rfl (by decide) dX10_image_13 ?_
  refine zc_letH (fun h2 _ => ?_)
  refine zc_aload_n (pc := 16) dX10_image_16 rfl rfl ?_
  refine zc_getC (pc := 17) zF_X10_62 rfl dX10_image_17 ?_
  refine zc_getI (pc := 20) zF_X10_268 rfl dX10_image_20 ?_
  exact zc_iretK (pc := 23) dX10_image_23 rfl ⟨_, rfl, rfl⟩
def zf_X10_restore (h : zHp) : Option (Int32 × zHp) :=
  (if (h.1 0 4) = 0 then some ((-3 : Int32), h) else ((zf_X7_become 16 34 h).bind (fun r1 => some ((r1.1 16 14), r1))))
set_option maxRecDepth 100000 in
set_option maxHeartbeats 4000000 in
theorem zt_X10_restore (h : zHp) {r : (Int32 × zHp)} (hr : (zf_X10_restore h) = some r) : zc_Cn zM_X10_restore [.ref 0] h (zc_mI r) := by
  refine zc_meth (mk := zc_mI) (o := (zf_X10_restore h)) (by decide +kernel) (Nat.le_of_ble_eq_true rfl) ?_ hr
  unfold zf_X10_restore
  refine zc_sL (ls1 := [some (.ref 0)]) rfl ?_
  refine zc_aload_n (pc := 0) dX10_restore_0 rfl rfl ?_
  refine zc_getI (pc := 1) zF_X10_281 rfl dX10_restore_1 ?_
  refine zc_if_ne (pc := 4) 10 dX10_restore_4 (by decide) (fun _ => ?_) (fun _ => ?_)
  · refine zc_bipush (pc := 7) (-3 : Int32) dX10_restore_7 (by decide) ?_
    exact zc_iretK (pc := 9) dX10_restore_9 rfl ⟨_, rfl, rfl⟩
  · refine zc_aload_n (pc := 10) dX10_restore_10 rfl rfl ?_
    refine zc_getC (pc := 11) zF_X10_62 rfl dX10_restore_11 ?_
    refine zc_aload_n (pc := 14) dX10_restore_14 rfl rfl ?_
    refine zc_getC (pc := 15) zF_X10_69 rfl dX10_restore_15 ?_
    refine zc_callV (pc := 18) [.ref 16, .ref 34] rfl (zc_runV (ci := 7) (n0 := 0) (q := (RX7, TX7, 15)) zo_X7_become ⟨Nat.le_of_ble_eq_true rfl, Nat.le_of_ble_eq_true rfl⟩ zw_244 zw_245 zw_246 rfl (by decide) rfl rfl dX10_restore_18) (Nat.le_of_ble_eq_true rfl) (fun _ hr => zt_X7_become 16 rfl 34 rfl h hr) (fun r1 => ?_)
    refine zc_aload_n (pc := 21) dX10_restore_21 rfl rfl ?_
    refine zc_getC (pc := 22) zF_X10_62 rfl dX10_restore_22 ?_
    refine zc_getI (pc := 25) zF_X10_268 rfl dX10_restore_25 ?_
    exact zc_iretK (pc := 28) dX10_restore_28 rfl ⟨_, rfl, rfl⟩
def zf_X10_count (x1 : Int32) (h : zHp) : Option Int32 :=
  (if x1 = (0 : Int32) then some (h.1 16 9) else (if x1 = (1 : Int32) then some (h.1 16 14) else (if x1 = (2 : Int32) then some (h.1 16 10) else (if x1 = (3 : Int32) then some (h.1 16 13) else (if x1 = (4 : Int32) then ((zf_X7_allStock 16 h).bind (fun r1 => some r1)) else (if x1 = (5 : Int32) then some (h.1 16 11) else (if x1 = (6 : Int32) then some (h.1 16 12) else some (-1 : Int32))))))))
set_option maxRecDepth 100000 in
set_option maxHeartbeats 4000000 in
theorem zt_X10_count (x1 : Int32) (h : zHp) {r : Int32} (hr : (zf_X10_count x1 h) = some r) : zc_Cn zM_X10_count [.ref 0, .int x1] h ((fun r => zc_mI (r, h)) r) := by
  refine zc_meth (mk := (fun r => zc_mI (r, h))) (o := (zf_X10_count x1 h)) (by decide +kernel) (Nat.le_of_ble_eq_true rfl) ?_ hr
  unfold zf_X10_count
  refine zc_sL (ls1 := [some (.ref 0), some (.int x1)]) rfl ?_
  refine zc_iload_n (pc := 0) dX10_count_0 rfl rfl ?_
  refine zc_sw (fun s2 => ?_) (fun s2 => ?_)
  · refine zc_tblIn (pc := 1) (off := 43) 44 s2 dX10_count_1 (by decide) ?_
    refine zc_aload_n (pc := 44) dX10_count_44 rfl rfl ?_
    refine zc_getC (pc := 45) zF_X10_62 rfl dX10_count_45 ?_
    refine zc_getI (pc := 48) zF_X10_152 rfl dX10_count_48 ?_
    exact zc_iretK (pc := 51) dX10_count_51 rfl ⟨_, rfl, rfl⟩
  refine zc_sw (fun s3 => ?_) (fun s3 => ?_)
  · refine zc_tblIn (pc := 1) (off := 51) 52 s3 dX10_count_1 (by decide) ?_
    refine zc_aload_n (pc := 52) dX10_count_52 rfl rfl ?_
    refine zc_getC (pc := 53) zF_X10_62 rfl dX10_count_53 ?_
    refine zc_getI (pc := 56) zF_X10_268 rfl dX10_count_56 ?_
    exact zc_iretK (pc := 59) dX10_count_59 rfl ⟨_, rfl, rfl⟩
  refine zc_sw (fun s4 => ?_) (fun s4 => ?_)
  · refine zc_tblIn (pc := 1) (off := 59) 60 s4 dX10_count_1 (by decide) ?_
    refine zc_aload_n (pc := 60) dX10_count_60 rfl rfl ?_
    refine zc_getC (pc := 61) zF_X10_62 rfl dX10_count_61 ?_
    refine zc_getI (pc := 64) zF_X10_186 rfl dX10_count_64 ?_
    exact zc_iretK (pc := 67) dX10_count_67 rfl ⟨_, rfl, rfl⟩
  refine zc_sw (fun s5 => ?_) (fun s5 => ?_)
  · refine zc_tblIn (pc := 1) (off := 67) 68 s5 dX10_count_1 (by decide) ?_
    refine zc_aload_n (pc := 68) dX10_count_68 rfl rfl ?_
    refine zc_getC (pc := 69) zF_X10_62 rfl dX10_count_69 ?_
    refine zc_getI (pc := 72) zF_X10_189 rfl dX10_count_72 ?_
    exact zc_iretK (pc := 75) dX10_count_75 rfl ⟨_, rfl, rfl⟩
  refine zc_sw (fun s6 => ?_) (fun s6 => ?_)
  · refine zc_tblIn (pc := 1) (off := 75) 76 s6 dX10_count_1 (by decide) ?_
    refine zc_aload_n (pc := 76) dX10_count_76 rfl rfl ?_
    refine zc_getC (pc := 77) zF_X10_62 rfl dX10_count_77 ?_
    refine zc_callIp (pc := 80) [.ref 16] rfl (zc_runV (ci := 7) (n0 := 0) (q := (RX7, TX7, 15)) zo_X7_allStock ⟨Nat.le_of_ble_eq_true rfl, Nat.le_of_ble_eq_true rfl⟩ zw_510 zw_511 zw_512 rfl (by decide) rfl rfl dX10_count_80) (Nat.le_of_ble_eq_true rfl) (fun _ hr => zt_X7_allStock 16 rfl h hr) (fun r1 => ?_)
    exact zc_iretK (pc := 83) dX10_count_83 rfl ⟨_, rfl, rfl⟩
  refine zc_sw (fun s7 => ?_) (fun s7 => ?_)
  · refine zc_tblIn (pc := 1) (off := 83) 84 s7 dX10_count_1 (by decide) ?_
    refine zc_aload_n (pc := 84) dX10_count_84 rfl rfl ?_
    refine zc_getC (pc := 85) zF_X10_62 rfl dX10_count_85 ?_
    refine zc_getI (pc := 88) zF_X10_208 rfl dX10_count_88 ?_
    exact zc_iretK (pc := 91) dX10_count_91 rfl ⟨_, rfl, rfl⟩
  refine zc_sw (fun s8 => ?_) (fun s8 => ?_)
  · refine zc_tblIn (pc := 1) (off := 91) 92 s8 dX10_count_1 (by decide) ?_
    refine zc_aload_n (pc := 92) dX10_count_92 rfl rfl ?_
    refine zc_getC (pc := 93) zF_X10_62 rfl dX10_count_93 ?_
    refine zc_getI (pc := 96) zF_X10_285 rfl dX10_count_96 ?_
    exact zc_iretK (pc := 99) dX10_count_99 rfl ⟨_, rfl, rfl⟩
  refine zc_tblD (pc := 1) 100 [0, 1, 2, 3, 4, 5, 6] dX10_count_1 (by decide) (List.forall_mem_cons.mpr ⟨zc_neJ s2 (by decide), (List.forall_mem_cons.mpr ⟨zc_neJ s3 (by decide), (List.forall_mem_cons.mpr ⟨zc_neJ s4 (by decide), (List.forall_mem_cons.mpr ⟨zc_neJ s5 (by decide), (List.forall_mem_cons.mpr ⟨zc_neJ s6 (by decide), (List.forall_mem_cons.mpr ⟨zc_neJ s7 (by decide), (List.forall_mem_cons.mpr ⟨zc_neJ s8 (by decide), (fun _ hm => nomatch hm)⟩)⟩)⟩)⟩)⟩)⟩)⟩) ?_
  refine zc_iconst (pc := 100) (-1 : Int32) dX10_count_100 (by decide) ?_
  exact zc_iretK (pc := 101) dX10_count_101 rfl ⟨_, rfl, rfl⟩
def zf_X10_keep (x1 : Int32) (x2 : Int32) (x3 : Int32) (x4 : Int32) (h : zHp) : Option (Int32 × zHp) :=
  ((zf_X10_isShelf x1).bind (fun r1 => (if r1 = 0 then some ((-1 : Int32), h) else (if x2 < 0 then some ((-1 : Int32), h) else (if x2 ≤ (1 : Int32) then (if x2 = 0 then (if zc_ix x1 8 then ((some (zc_ui h (43 + 1 + 2 * x1.toNatClampNeg) 0 (0 : Int32)) : Option zHp).bind (fun h3 => some ((0 : Int32), h3))) else none) else ((zf_X10_isKind x3).bind (fun r4 => (if r4 = 0 then some ((-1 : Int32), h) else ((zf_X10_isFigure x4).bind (fun r5 => (if r5 = 0 then some ((-1 : Int32), h) else (if zc_ix x1 8 then ((zf_X8_holdKind (43 + 1 + 2 * x1.toNatClampNeg) x3 x4 h).bind (fun r7 => some ((0 : Int32), r7))) else none)))))))) else some ((-1 : Int32), h))))))
set_option maxRecDepth 100000 in
set_option maxHeartbeats 4000000 in
theorem zt_X10_keep (x1 : Int32) (x2 : Int32) (x3 : Int32) (x4 : Int32) (h : zHp) {r : (Int32 × zHp)} (hr : (zf_X10_keep x1 x2 x3 x4 h) = some r) : zc_Cn zM_X10_keep [.ref 0, .int x1, .int x2, .int x3, .int x4] h (zc_mI r) := by
  refine zc_meth (mk := zc_mI) (o := (zf_X10_keep x1 x2 x3 x4 h)) (by decide +kernel) (Nat.le_of_ble_eq_true rfl) ?_ hr
  unfold zf_X10_keep
  refine zc_sL (ls1 := [some (.ref 0), some (.int x1), some (.int x2), some (.int x3), some (.int x4)]) rfl ?_
  refine zc_iload_n (pc := 0) dX10_keep_0 rfl rfl ?_
  refine zc_callIp (pc := 1) [.int x1] rfl (zc_runS zo_X10_isShelf ⟨Nat.le_of_ble_eq_true rfl, Nat.le_of_ble_eq_true rfl⟩ zw_235 zw_236 rfl dX10_keep_1) (Nat.le_of_ble_eq_true rfl) (fun _ hr => zt_X10_isShelf x1 h hr) (fun r1 => ?_)
  refine zc_if_eq (pc := 4) 16 dX10_keep_4 (by decide) (fun _ => ?_) (fun _ => ?_)
  · refine zc_iconst (pc := 16) (-1 : Int32) dX10_keep_16 (by decide) ?_
    exact zc_iretK (pc := 17) dX10_keep_17 rfl ⟨_, rfl, rfl⟩
  · refine zc_iload_n (pc := 7) dX10_keep_7 rfl rfl ?_
    refine zc_if_lt (pc := 8) 16 dX10_keep_8 (by decide) (fun _ => ?_) (fun _ => ?_)
    · refine zc_iconst (pc := 16) (-1 : Int32) dX10_keep_16 (by decide) ?_
      exact zc_iretK (pc := 17) dX10_keep_17 rfl ⟨_, rfl, rfl⟩
    · refine zc_iload_n (pc := 11) dX10_keep_11 rfl rfl ?_
      refine zc_iconst (pc := 12) (1 : Int32) dX10_keep_12 (by decide) ?_
      refine zc_icmp_le (pc := 13) 18 dX10_keep_13 (by decide) (fun _ => ?_) (fun _ => ?_)
      · refine zc_iload_n (pc := 18) dX10_keep_18 rfl rfl ?_
        refine zc_if_ne (pc := 19) 34 dX10_keep_19 (by decide) (fun _ => ?_) (fun _ => ?_)
        · refine zc_aload_n (pc := 22) dX10_keep_22 rfl rfl ?_
          refine zc_getC (pc := 23) zF_X10_74 rfl dX10_keep_23 ?_
          refine zc_iload_n (pc := 26) dX10_keep_26 rfl rfl ?_
          refine zc_guard (fun g2 => ?_)
          refine zc_aldS (pc := 27) rfl g2 dX10_keep_27 ?_
          refine zc_iconst (pc := 28) (0 : Int32) dX10_keep_28 (by decide) ?_
          refine zc_putI (pc := 29) zF_X10_288 (zs_s g2) dX10_keep_29 ?_
          refine zc_letH (fun h3 _ => ?_)
          refine zc_iconst (pc := 32) (0 : Int32) dX10_keep_32 (by decide) ?_
          exact zc_iretK (pc := 33) dX10_keep_33 rfl ⟨_, rfl, rfl⟩
        · refine zc_iload_n (pc := 34) dX10_keep_34 rfl rfl ?_
          refine zc_callIp (pc := 35) [.int x3] rfl (zc_runS zo_X10_isKind ⟨Nat.le_of_ble_eq_true rfl, Nat.le_of_ble_eq_true rfl⟩ zw_740 zw_269 rfl dX10_keep_35) (Nat.le_of_ble_eq_true rfl) (fun _ hr => zt_X10_isKind x3 h hr) (fun r4 => ?_)
          refine zc_if_eq (pc := 38) 49 dX10_keep_38 (by decide) (fun _ => ?_) (fun _ => ?_)
          · refine zc_iconst (pc := 49) (-1 : Int32) dX10_keep_49 (by decide) ?_
            exact zc_iretK (pc := 50) dX10_keep_50 rfl ⟨_, rfl, rfl⟩
          · refine zc_iload (pc := 41) dX10_keep_41 rfl ?_
            refine zc_callIp (pc := 43) [.int x4] rfl (zc_runS zo_X10_isFigure ⟨Nat.le_of_ble_eq_true rfl, Nat.le_of_ble_eq_true rfl⟩ zw_741 zw_272 rfl dX10_keep_43) (Nat.le_of_ble_eq_true rfl) (fun _ hr => zt_X10_isFigure x4 h hr) (fun r5 => ?_)
            refine zc_if_ne (pc := 46) 51 dX10_keep_46 (by decide) (fun _ => ?_) (fun _ => ?_)
            · refine zc_iconst (pc := 49) (-1 : Int32) dX10_keep_49 (by decide) ?_
              exact zc_iretK (pc := 50) dX10_keep_50 rfl ⟨_, rfl, rfl⟩
            · refine zc_aload_n (pc := 51) dX10_keep_51 rfl rfl ?_
              refine zc_getC (pc := 52) zF_X10_74 rfl dX10_keep_52 ?_
              refine zc_iload_n (pc := 55) dX10_keep_55 rfl rfl ?_
              refine zc_guard (fun g6 => ?_)
              refine zc_aldS (pc := 56) rfl g6 dX10_keep_56 ?_
              refine zc_iload_n (pc := 57) dX10_keep_57 rfl rfl ?_
              refine zc_iload (pc := 58) dX10_keep_58 rfl ?_
              refine zc_callV (pc := 60) [.ref (43 + 1 + 2 * x1.toNatClampNeg), .int x3, .int x4] rfl (zc_runV (ci := 8) (n0 := 0) (q := (RX8, TX8, 6)) zo_X8_holdKind ⟨Nat.le_of_ble_eq_true rfl, Nat.le_of_ble_eq_true rfl⟩ zw_742 zw_743 zw_744 (zs_s g6) (by decide) rfl rfl dX10_keep_60) (Nat.le_of_ble_eq_true rfl) (fun _ hr => zt_X8_holdKind (43 + 1 + 2 * x1.toNatClampNeg) (zs_s g6) x3 x4 h hr) (fun r7 => ?_)
              refine zc_iconst (pc := 63) (0 : Int32) dX10_keep_63 (by decide) ?_
              exact zc_iretK (pc := 64) dX10_keep_64 rfl ⟨_, rfl, rfl⟩
      · refine zc_iconst (pc := 16) (-1 : Int32) dX10_keep_16 (by decide) ?_
        exact zc_iretK (pc := 17) dX10_keep_17 rfl ⟨_, rfl, rfl⟩
def zf_X10_row (x1 : Int32) (x2 : Int32) (x3 : Int32) (h : zHp) : Option (Int32 × zHp) :=
  ((zf_X10_isShelf x1).bind (fun r1 => (if r1 = 0 then some ((-1 : Int32), h) else (if x2 < 0 then some ((-1 : Int32), h) else (if (3 : Int32) ≤ x2 then some ((-1 : Int32), h) else (if x3 ≤ (100 : Int32) then (if 0 ≤ x3 then (if zc_ix x1 8 then ((zf_X8_holdRow (43 + 1 + 2 * x1.toNatClampNeg) x2 x3 h).bind (fun r3 => some ((0 : Int32), r3))) else none) else some ((-14 : Int32), h)) else some ((-1 : Int32), h)))))))
set_option maxRecDepth 100000 in
set_option maxHeartbeats 4000000 in
theorem zt_X10_row (x1 : Int32) (x2 : Int32) (x3 : Int32) (h : zHp) {r : (Int32 × zHp)} (hr : (zf_X10_row x1 x2 x3 h) = some r) : zc_Cn zM_X10_row [.ref 0, .int x1, .int x2, .int x3] h (zc_mI r) := by
  refine zc_meth (mk := zc_mI) (o := (zf_X10_row x1 x2 x3 h)) (by decide +kernel) (Nat.le_of_ble_eq_true rfl) ?_ hr
  unfold zf_X10_row
  refine zc_sL (ls1 := [some (.ref 0), some (.int x1), some (.int x2), some (.int x3)]) rfl ?_
  refine zc_iload_n (pc := 0) dX10_row_0 rfl rfl ?_
  refine zc_callIp (pc := 1) [.int x1] rfl (zc_runS zo_X10_isShelf ⟨Nat.le_of_ble_eq_true rfl, Nat.le_of_ble_eq_true rfl⟩ zw_235 zw_236 rfl dX10_row_1) (Nat.le_of_ble_eq_true rfl) (fun _ hr => zt_X10_isShelf x1 h hr) (fun r1 => ?_)
  refine zc_if_eq (pc := 4) 22 dX10_row_4 (by decide) (fun _ => ?_) (fun _ => ?_)
  · refine zc_iconst (pc := 22) (-1 : Int32) dX10_row_22 (by decide) ?_
    exact zc_iretK (pc := 23) dX10_row_23 rfl ⟨_, rfl, rfl⟩
  · refine zc_iload_n (pc := 7) dX10_row_7 rfl rfl ?_
    refine zc_if_lt (pc := 8) 22 dX10_row_8 (by decide) (fun _ => ?_) (fun _ => ?_)
    · refine zc_iconst (pc := 22) (-1 : Int32) dX10_row_22 (by decide) ?_
      exact zc_iretK (pc := 23) dX10_row_23 rfl ⟨_, rfl, rfl⟩
    · refine zc_iload_n (pc := 11) dX10_row_11 rfl rfl ?_
      refine zc_iconst (pc := 12) (3 : Int32) dX10_row_12 (by decide) ?_
      refine zc_icmp_ge (pc := 13) 22 dX10_row_13 (by decide) (fun _ => ?_) (fun _ => ?_)
      · refine zc_iconst (pc := 22) (-1 : Int32) dX10_row_22 (by decide) ?_
        exact zc_iretK (pc := 23) dX10_row_23 rfl ⟨_, rfl, rfl⟩
      · refine zc_iload_n (pc := 16) dX10_row_16 rfl rfl ?_
        refine zc_bipush (pc := 17) (100 : Int32) dX10_row_17 (by decide) ?_
        refine zc_icmp_le (pc := 19) 24 dX10_row_19 (by decide) (fun _ => ?_) (fun _ => ?_)
        · refine zc_iload_n (pc := 24) dX10_row_24 rfl rfl ?_
          refine zc_if_ge (pc := 25) 31 dX10_row_25 (by decide) (fun _ => ?_) (fun _ => ?_)
          · refine zc_aload_n (pc := 31) dX10_row_31 rfl rfl ?_
            refine zc_getC (pc := 32) zF_X10_74 rfl dX10_row_32 ?_
            refine zc_iload_n (pc := 35) dX10_row_35 rfl rfl ?_
            refine zc_guard (fun g2 => ?_)
            refine zc_aldS (pc := 36) rfl g2 dX10_row_36 ?_
            refine zc_iload_n (pc := 37) dX10_row_37 rfl rfl ?_
            refine zc_iload_n (pc := 38) dX10_row_38 rfl rfl ?_
            refine zc_callV (pc := 39) [.ref (43 + 1 + 2 * x1.toNatClampNeg), .int x2, .int x3] rfl (zc_runV (ci := 8) (n0 := 0) (q := (RX8, TX8, 6)) zo_X8_holdRow ⟨Nat.le_of_ble_eq_true rfl, Nat.le_of_ble_eq_true rfl⟩ zw_750 zw_751 zw_752 (zs_s g2) (by decide) rfl rfl dX10_row_39) (Nat.le_of_ble_eq_true rfl) (fun _ hr => zt_X8_holdRow (43 + 1 + 2 * x1.toNatClampNeg) (zs_s g2) x2 x3 h hr) (fun r3 => ?_)
            refine zc_iconst (pc := 42) (0 : Int32) dX10_row_42 (by decide) ?_
            exact zc_iretK (pc := 43) dX10_row_43 rfl ⟨_, rfl, rfl⟩
          · refine zc_bipush (pc := 28) (-14 : Int32) dX10_row_28 (by decide) ?_
            exact zc_iretK (pc := 30) dX10_row_30 rfl ⟨_, rfl, rfl⟩
        · refine zc_iconst (pc := 22) (-1 : Int32) dX10_row_22 (by decide) ?_
          exact zc_iretK (pc := 23) dX10_row_23 rfl ⟨_, rfl, rfl⟩
def zf_X10_put (x1 : Int32) (x2 : Int32) (x3 : Int32) (h : zHp) : Option (Int32 × zHp) :=
  ((zf_X10_refuseRow x1 h).bind (fun r1 => (if r1 = 0 then (if zc_ix x1 8 then ((zf_X8_hasPlaces (43 + 1 + 2 * x1.toNatClampNeg) x2 (1 : Int32) h).bind (fun r3 => (if r3 = 0 then some ((-13 : Int32), h) else (if zc_ix x1 8 then ((zf_X8_set (43 + 1 + 2 * x1.toNatClampNeg) x2 x3 h).bind (fun r5 => some ((0 : Int32), r5))) else none)))) else none) else some (r1, h))))
set_option maxRecDepth 100000 in
set_option maxHeartbeats 4000000 in
theorem zt_X10_put (x1 : Int32) (x2 : Int32) (x3 : Int32) (h : zHp) {r : (Int32 × zHp)} (hr : (zf_X10_put x1 x2 x3 h) = some r) : zc_Cn zM_X10_put [.ref 0, .int x1, .int x2, .int x3] h (zc_mI r) := by
  refine zc_meth (mk := zc_mI) (o := (zf_X10_put x1 x2 x3 h)) (by decide +kernel) (Nat.le_of_ble_eq_true rfl) ?_ hr
  unfold zf_X10_put
  refine zc_sL (ls1 := [some (.ref 0), some (.int x1), some (.int x2), some (.int x3), none]) rfl ?_
  refine zc_aload_n (pc := 0) dX10_put_0 rfl rfl ?_
  refine zc_iload_n (pc := 1) dX10_put_1 rfl rfl ?_
  refine zc_callIp (pc := 2) [.ref 0, .int x1] rfl (zc_runV (ci := 10) (n0 := 0) (q := (RX10, TX10, 12)) zo_X10_refuseRow ⟨Nat.le_of_ble_eq_true rfl, Nat.le_of_ble_eq_true rfl⟩ zw_227 zw_229 zs_0 rfl (by decide) rfl rfl dX10_put_2) (Nat.le_of_ble_eq_true rfl) (fun _ hr => zt_X10_refuseRow x1 h hr) (fun r1 => ?_)
  refine zc_istore (pc := 5) dX10_put_5 (Nat.le_of_ble_eq_true rfl) rfl (Nat.le_of_ble_eq_true rfl) ?_
  refine zc_sL (ls1 := [some (.ref 0), some (.int x1), some (.int x2), some (.int x3), some (.int r1)]) rfl ?_
  refine zc_iload (pc := 7) dX10_put_7 rfl ?_
  refine zc_if_eq (pc := 9) 15 dX10_put_9 (by decide) (fun _ => ?_) (fun _ => ?_)
  · refine zc_aload_n (pc := 15) dX10_put_15 rfl rfl ?_
    refine zc_getC (pc := 16) zF_X10_74 rfl dX10_put_16 ?_
    refine zc_iload_n (pc := 19) dX10_put_19 rfl rfl ?_
    refine zc_guard (fun g2 => ?_)
    refine zc_aldS (pc := 20) rfl g2 dX10_put_20 ?_
    refine zc_iload_n (pc := 21) dX10_put_21 rfl rfl ?_
    refine zc_iconst (pc := 22) (1 : Int32) dX10_put_22 (by decide) ?_
    refine zc_callIp (pc := 23) [.ref (43 + 1 + 2 * x1.toNatClampNeg), .int x2, .int (1 : Int32)] rfl (zc_runV (ci := 8) (n0 := 0) (q := (RX8, TX8, 6)) zo_X8_hasPlaces ⟨Nat.le_of_ble_eq_true rfl, Nat.le_of_ble_eq_true rfl⟩ zw_761 zw_762 zw_763 (zs_s g2) (by decide) rfl rfl dX10_put_23) (Nat.le_of_ble_eq_true rfl) (fun _ hr => zt_X8_hasPlaces (43 + 1 + 2 * x1.toNatClampNeg) (zs_s g2) x2 (1 : Int32) h hr) (fun r3 => ?_)
    refine zc_if_ne (pc := 26) 32 dX10_put_26 (by decide) (fun _ => ?_) (fun _ => ?_)
    · refine zc_bipush (pc := 29) (-13 : Int32) dX10_put_29 (by decide) ?_
      exact zc_iretK (pc := 31) dX10_put_31 rfl ⟨_, rfl, rfl⟩
    · refine zc_aload_n (pc := 32) dX10_put_32 rfl rfl ?_
      refine zc_getC (pc := 33) zF_X10_74 rfl dX10_put_33 ?_
      refine zc_iload_n (pc := 36) dX10_put_36 rfl rfl ?_
      refine zc_guard (fun g4 => ?_)
      refine zc_aldS (pc := 37) rfl g4 dX10_put_37 ?_
      refine zc_iload_n (pc := 38) dX10_put_38 rfl rfl ?_
      refine zc_iload_n (pc := 39) dX10_put_39 rfl rfl ?_
      refine zc_callV (pc := 40) [.ref (43 + 1 + 2 * x1.toNatClampNeg), .int x2, .int x3] rfl (zc_runV (ci := 8) (n0 := 0) (q := (RX8, TX8, 6)) zo_X8_set ⟨Nat.le_of_ble_eq_true rfl, Nat.le_of_ble_eq_true rfl⟩ zw_765 zw_766 zw_767 (zs_s g4) (by decide) rfl rfl dX10_put_40) (Nat.le_of_ble_eq_true rfl) (fun _ hr => zt_X8_set (43 + 1 + 2 * x1.toNatClampNeg) (zs_s g4) x2 x3 h hr) (fun r5 => ?_)
      refine zc_iconst (pc := 43) (0 : Int32) dX10_put_43 (by decide) ?_
      exact zc_iretK (pc := 44) dX10_put_44 rfl ⟨_, rfl, rfl⟩
  · refine zc_iload (pc := 12) dX10_put_12 rfl ?_
    exact zc_iretK (pc := 14) dX10_put_14 rfl ⟨_, rfl, rfl⟩
def zf_X10_copy (x1 : Int32) (x2 : Int32) (x3 : Int32) (x4 : Int32) (x5 : Int32) (h : zHp) : Option (Int32 × zHp) :=
  ((zf_X10_isShelf x1).bind (fun r1 => (if r1 = 0 then some ((-1 : Int32), h) else ((zf_X10_isShelf x3).bind (fun r2 => (if r2 = 0 then some ((-1 : Int32), h) else (if zc_ix x1 8 then (if (h.1 (43 + 1 + 2 * x1.toNatClampNeg) 0) = 0 then some ((-11 : Int32), h) else (if zc_ix x3 8 then (if (h.1 (43 + 1 + 2 * x3.toNatClampNeg) 0) = 0 then some ((-11 : Int32), h) else ((zf_X10_refuseRow x1 h).bind (fun r5 => (if r5 = 0 then ((zf_X10_refuseRow x3 h).bind (fun r6 => (if r6 = 0 then (if zc_ix x1 8 then (if zc_ix x3 8 then (if (h.1 (43 + 1 + 2 * x1.toNatClampNeg) 3) = (h.1 (43 + 1 + 2 * x3.toNatClampNeg) 3) then (if zc_ix x1 8 then ((zf_X8_hasPlaces (43 + 1 + 2 * x1.toNatClampNeg) x2 x5 h).bind (fun r10 => (if r10 = 0 then some ((-13 : Int32), h) else (if zc_ix x3 8 then ((zf_X8_hasPlaces (43 + 1 + 2 * x3.toNatClampNeg) x4 x5 h).bind (fun r12 => (if r12 = 0 then some ((-13 : Int32), h) else (if zc_ix x1 8 then (if zc_ix x3 8 then (if zc_cp x2 x4 x5 100 100 then ((some (zc_ri h ((43 + 1 + 2 * x3.toNatClampNeg) + 1) (va_cpy (h.1 ((43 + 1 + 2 * x1.toNatClampNeg) + 1)) (h.1 ((43 + 1 + 2 * x3.toNatClampNeg) + 1)) x2.toNatClampNeg x4.toNatClampNeg x5.toNatClampNeg)) : Option zHp).bind (fun h16 => some (x5, h16))) else none) else none) else none)))) else none)))) else none) else some ((-12 : Int32), h)) else none) else none) else some ((-12 : Int32), h)))) else some ((-12 : Int32), h))))) else none)) else none)))))))
set_option maxRecDepth 100000 in
set_option maxHeartbeats 4000000 in
theorem zt_X10_copy (x1 : Int32) (x2 : Int32) (x3 : Int32) (x4 : Int32) (x5 : Int32) (h : zHp) {r : (Int32 × zHp)} (hr : (zf_X10_copy x1 x2 x3 x4 x5 h) = some r) : zc_Cn zM_X10_copy [.ref 0, .int x1, .int x2, .int x3, .int x4, .int x5] h (zc_mI r) := by
  refine zc_meth (mk := zc_mI) (o := (zf_X10_copy x1 x2 x3 x4 x5 h)) (by decide +kernel) (Nat.le_of_ble_eq_true rfl) ?_ hr
  unfold zf_X10_copy
  refine zc_sL (ls1 := [some (.ref 0), some (.int x1), some (.int x2), some (.int x3), some (.int x4), some (.int x5)]) rfl ?_
  refine zc_iload_n (pc := 0) dX10_copy_0 rfl rfl ?_
  refine zc_callIp (pc := 1) [.int x1] rfl (zc_runS zo_X10_isShelf ⟨Nat.le_of_ble_eq_true rfl, Nat.le_of_ble_eq_true rfl⟩ zw_235 zw_236 rfl dX10_copy_1) (Nat.le_of_ble_eq_true rfl) (fun _ hr => zt_X10_isShelf x1 h hr) (fun r1 => ?_)
  refine zc_if_eq (pc := 4) 14 dX10_copy_4 (by decide) (fun _ => ?_) (fun _ => ?_)
  · refine zc_iconst (pc := 14) (-1 : Int32) dX10_copy_14 (by decide) ?_
    exact zc_iretK (pc := 15) dX10_copy_15 rfl ⟨_, rfl, rfl⟩
  · refine zc_iload_n (pc := 7) dX10_copy_7 rfl rfl ?_
    refine zc_callIp (pc := 8) [.int x3] rfl (zc_runS zo_X10_isShelf ⟨Nat.le_of_ble_eq_true rfl, Nat.le_of_ble_eq_true rfl⟩ zw_235 zw_236 rfl dX10_copy_8) (Nat.le_of_ble_eq_true rfl) (fun _ hr => zt_X10_isShelf x3 h hr) (fun r2 => ?_)
    refine zc_if_ne (pc := 11) 16 dX10_copy_11 (by decide) (fun _ => ?_) (fun _ => ?_)
    · refine zc_iconst (pc := 14) (-1 : Int32) dX10_copy_14 (by decide) ?_
      exact zc_iretK (pc := 15) dX10_copy_15 rfl ⟨_, rfl, rfl⟩
    · refine zc_aload_n (pc := 16) dX10_copy_16 rfl rfl ?_
      refine zc_getC (pc := 17) zF_X10_74 rfl dX10_copy_17 ?_
      refine zc_iload_n (pc := 20) dX10_copy_20 rfl rfl ?_
      refine zc_guard (fun g3 => ?_)
      refine zc_aldS (pc := 21) rfl g3 dX10_copy_21 ?_
      refine zc_getI (pc := 22) zF_X10_288 (zs_s g3) dX10_copy_22 ?_
      refine zc_if_eq (pc := 25) 40 dX10_copy_25 (by decide) (fun _ => ?_) (fun _ => ?_)
      · refine zc_bipush (pc := 40) (-11 : Int32) dX10_copy_40 (by decide) ?_
        exact zc_iretK (pc := 42) dX10_copy_42 rfl ⟨_, rfl, rfl⟩
      · refine zc_aload_n (pc := 28) dX10_copy_28 rfl rfl ?_
        refine zc_getC (pc := 29) zF_X10_74 rfl dX10_copy_29 ?_
        refine zc_iload_n (pc := 32) dX10_copy_32 rfl rfl ?_
        refine zc_guard (fun g4 => ?_)
        refine zc_aldS (pc := 33) rfl g4 dX10_copy_33 ?_
        refine zc_getI (pc := 34) zF_X10_288 (zs_s g4) dX10_copy_34 ?_
        refine zc_if_ne (pc := 37) 43 dX10_copy_37 (by decide) (fun _ => ?_) (fun _ => ?_)
        · refine zc_bipush (pc := 40) (-11 : Int32) dX10_copy_40 (by decide) ?_
          exact zc_iretK (pc := 42) dX10_copy_42 rfl ⟨_, rfl, rfl⟩
        · refine zc_aload_n (pc := 43) dX10_copy_43 rfl rfl ?_
          refine zc_iload_n (pc := 44) dX10_copy_44 rfl rfl ?_
          refine zc_callIp (pc := 45) [.ref 0, .int x1] rfl (zc_runV (ci := 10) (n0 := 0) (q := (RX10, TX10, 12)) zo_X10_refuseRow ⟨Nat.le_of_ble_eq_true rfl, Nat.le_of_ble_eq_true rfl⟩ zw_227 zw_229 zs_0 rfl (by decide) rfl rfl dX10_copy_45) (Nat.le_of_ble_eq_true rfl) (fun _ hr => zt_X10_refuseRow x1 h hr) (fun r5 => ?_)
          refine zc_if_ne (pc := 48) 80 dX10_copy_48 (by decide) (fun _ => ?_) (fun _ => ?_)
          · refine zc_aload_n (pc := 51) dX10_copy_51 rfl rfl ?_
            refine zc_iload_n (pc := 52) dX10_copy_52 rfl rfl ?_
            refine zc_callIp (pc := 53) [.ref 0, .int x3] rfl (zc_runV (ci := 10) (n0 := 0) (q := (RX10, TX10, 12)) zo_X10_refuseRow ⟨Nat.le_of_ble_eq_true rfl, Nat.le_of_ble_eq_true rfl⟩ zw_227 zw_229 zs_0 rfl (by decide) rfl rfl dX10_copy_53) (Nat.le_of_ble_eq_true rfl) (fun _ hr => zt_X10_refuseRow x3 h hr) (fun r6 => ?_)
            refine zc_if_ne (pc := 56) 80 dX10_copy_56 (by decide) (fun _ => ?_) (fun _ => ?_)
            · refine zc_aload_n (pc := 59) dX10_copy_59 rfl rfl ?_
              refine zc_getC (pc := 60) zF_X10_74 rfl dX10_copy_60 ?_
              refine zc_iload_n (pc := 63) dX10_copy_63 rfl rfl ?_
              refine zc_guard (fun g7 => ?_)
              refine zc_aldS (pc := 64) rfl g7 dX10_copy_64 ?_
              refine zc_getI (pc := 65) zF_X10_83 (zs_s g7) dX10_copy_65 ?_
              refine zc_aload_n (pc := 68) dX10_copy_68 rfl rfl ?_
              refine zc_getC (pc := 69) zF_X10_74 rfl dX10_copy_69 ?_
              refine zc_iload_n (pc := 72) dX10_copy_72 rfl rfl ?_
              refine zc_guard (fun g8 => ?_)
              refine zc_aldS (pc := 73) rfl g8 dX10_copy_73 ?_
              refine zc_getI (pc := 74) zF_X10_83 (zs_s g8) dX10_copy_74 ?_
              refine zc_icmp_eq (pc := 77) 83 dX10_copy_77 (by decide) (fun _ => ?_) (fun _ => ?_)
              · refine zc_aload_n (pc := 83) dX10_copy_83 rfl rfl ?_
                refine zc_getC (pc := 84) zF_X10_74 rfl dX10_copy_84 ?_
                refine zc_iload_n (pc := 87) dX10_copy_87 rfl rfl ?_
                refine zc_guard (fun g9 => ?_)
                refine zc_aldS (pc := 88) rfl g9 dX10_copy_88 ?_
                refine zc_iload_n (pc := 89) dX10_copy_89 rfl rfl ?_
                refine zc_iload (pc := 90) dX10_copy_90 rfl ?_
                refine zc_callIp (pc := 92) [.ref (43 + 1 + 2 * x1.toNatClampNeg), .int x2, .int x5] rfl (zc_runV (ci := 8) (n0 := 0) (q := (RX8, TX8, 6)) zo_X8_hasPlaces ⟨Nat.le_of_ble_eq_true rfl, Nat.le_of_ble_eq_true rfl⟩ zw_761 zw_762 zw_763 (zs_s g9) (by decide) rfl rfl dX10_copy_92) (Nat.le_of_ble_eq_true rfl) (fun _ hr => zt_X8_hasPlaces (43 + 1 + 2 * x1.toNatClampNeg) (zs_s g9) x2 x5 h hr) (fun r10 => ?_)
                refine zc_if_eq (pc := 95) 114 dX10_copy_95 (by decide) (fun _ => ?_) (fun _ => ?_)
                · refine zc_bipush (pc := 114) (-13 : Int32) dX10_copy_114 (by decide) ?_
                  exact zc_iretK (pc := 116) dX10_copy_116 rfl ⟨_, rfl, rfl⟩
                · refine zc_aload_n (pc := 98) dX10_copy_98 rfl rfl ?_
                  refine zc_getC (pc := 99) zF_X10_74 rfl dX10_copy_99 ?_
                  refine zc_iload_n (pc := 102) dX10_copy_102 rfl rfl ?_
                  refine zc_guard (fun g11 => ?_)
                  refine zc_aldS (pc := 103) rfl g11 dX10_copy_103 ?_
                  refine zc_iload (pc := 104) dX10_copy_104 rfl ?_
                  refine zc_iload (pc := 106) dX10_copy_106 rfl ?_
                  refine zc_callIp (pc := 108) [.ref (43 + 1 + 2 * x3.toNatClampNeg), .int x4, .int x5] rfl (zc_runV (ci := 8) (n0 := 0) (q := (RX8, TX8, 6)) zo_X8_hasPlaces ⟨Nat.le_of_ble_eq_true rfl, Nat.le_of_ble_eq_true rfl⟩ zw_761 zw_762 zw_763 (zs_s g11) (by decide) rfl rfl dX10_copy_108) (Nat.le_of_ble_eq_true rfl) (fun _ hr => zt_X8_hasPlaces (43 + 1 + 2 * x3.toNatClampNeg) (zs_s g11) x4 x5 h hr) (fun r12 => ?_)
                  refine zc_if_ne (pc := 111) 117 dX10_copy_111 (by decide) (fun _ => ?_) (fun _ => ?_)
                  · refine zc_bipush (pc := 114) (-13 : Int32) dX10_copy_114 (by decide) ?_
                    exact zc_iretK (pc := 116) dX10_copy_116 rfl ⟨_, rfl, rfl⟩
                  · refine zc_aload_n (pc := 117) dX10_copy_117 rfl rfl ?_
                    refine zc_getC (pc := 118) zF_X10_74 rfl dX10_copy_118 ?_
                    refine zc_iload_n (pc := 121) dX10_copy_121 rfl rfl ?_
                    refine zc_guard (fun g13 => ?_)
                    refine zc_aldS (pc := 122) rfl g13 dX10_copy_122 ?_
                    refine zc_getO (pc := 123) zF_X10_102 (zs_s g13) dX10_copy_123 ?_
                    refine zc_iload_n (pc := 126) dX10_copy_126 rfl rfl ?_
                    refine zc_aload_n (pc := 127) dX10_copy_127 rfl rfl ?_
                    refine zc_getC (pc := 128) zF_X10_74 rfl dX10_copy_128 ?_
                    refine zc_iload_n (pc := 131) dX10_copy_131 rfl rfl ?_
                    refine zc_guard (fun g14 => ?_)
                    refine zc_aldS (pc := 132) rfl g14 dX10_copy_132 ?_
                    refine zc_getO (pc := 133) zF_X10_102 (zs_s g14) dX10_copy_133 ?_
                    refine zc_iload (pc := 136) dX10_copy_136 rfl ?_
                    refine zc_iload (pc := 138) dX10_copy_138 rfl ?_
                    refine zc_guard (fun g15 => ?_)
                    refine zc_acpi (pc := 140) zw_698 zw_acn zw_acs zw_13 (zs_q (zs_s g13)) (zs_q (zs_s g14)) g15 (Nat.le_of_ble_eq_true rfl) ⟨Nat.le_of_ble_eq_true rfl, Nat.le_of_ble_eq_true rfl⟩ dX10_copy_140 ?_
                    refine zc_letH (fun h16 _ => ?_)
                    refine zc_iload (pc := 143) dX10_copy_143 rfl ?_
                    exact zc_iretK (pc := 145) dX10_copy_145 rfl ⟨_, rfl, rfl⟩
              · refine zc_bipush (pc := 80) (-12 : Int32) dX10_copy_80 (by decide) ?_
                exact zc_iretK (pc := 82) dX10_copy_82 rfl ⟨_, rfl, rfl⟩
            · refine zc_bipush (pc := 80) (-12 : Int32) dX10_copy_80 (by decide) ?_
              exact zc_iretK (pc := 82) dX10_copy_82 rfl ⟨_, rfl, rfl⟩
          · refine zc_bipush (pc := 80) (-12 : Int32) dX10_copy_80 (by decide) ?_
            exact zc_iretK (pc := 82) dX10_copy_82 rfl ⟨_, rfl, rfl⟩
def zf_X10_cost (x1 : Int32) (h : zHp) : Option Int32 :=
  ((zf_X10_refuseKind x1 h).bind (fun r1 => (if r1 = 0 then (if zc_ix x1 8 then (if zc_ix (h.1 (43 + 1 + 2 * x1.toNatClampNeg) 1) 8 then (if zc_ix x1 8 then ((zv_costs (h.1 (43 + 1 + 2 * x1.toNatClampNeg) 1).toNatClampNeg (h.1 (43 + 1 + 2 * x1.toNatClampNeg) 2)).bind (fun r5 => some r5)) else none) else none) else none) else some r1)))
theorem zr_X10_cost_35 (h : zHp) (y0 : Int32) : ∀ j, j < 8 → ∃ z : zMI, zc_Run zM_X10_cost z 35 (.ref (8 + j) :: [.int y0]) h ∧ ∀ r, zv_costs j y0 = some r → zc_Cn z (.ref (8 + j) :: [.int y0]) h (zc_mI (r, h)) := by
  intro j hj
  match j, hj with
  | 0, _ => exact ⟨zM_X9_costs, zc_runO (z := zM_X9_costs) (n := 1) (ci := 9) (n0 := 0) (q := (RX9, TX9, 0)) zo_X9_costs ⟨Nat.le_of_ble_eq_true rfl, Nat.le_of_ble_eq_true rfl⟩ zw_777 zw_780 zw_778 zw_806 (by decide +kernel) zw_778 zw_779 rfl (by decide) rfl rfl dX10_cost_35, fun r hr => zt_X9_costs 8 rfl (by decide) (vc := (RX9, TX9, 0)) rfl y0 h hr⟩
  | 1, _ => exact ⟨zM_X1_costs, zc_runO (z := zM_X1_costs) (n := 1) (ci := 1) (n0 := 0) (q := (RX1, TX1, 0)) zo_X1_costs ⟨Nat.le_of_ble_eq_true rfl, Nat.le_of_ble_eq_true rfl⟩ zw_777 zw_780 zw_778 zw_806 (by decide +kernel) zw_788 zw_791 rfl (by decide) rfl rfl dX10_cost_35, fun r hr => zt_X1_costs 9 rfl (by decide) (vc := (RX1, TX1, 0)) rfl y0 h hr⟩
  | 2, _ => exact ⟨zM_X3_costs, zc_runO (z := zM_X3_costs) (n := 1) (ci := 3) (n0 := 0) (q := (RX3, TX3, 0)) zo_X3_costs ⟨Nat.le_of_ble_eq_true rfl, Nat.le_of_ble_eq_true rfl⟩ zw_777 zw_780 zw_778 zw_806 (by decide +kernel) zw_794 zw_793 rfl (by decide) rfl rfl dX10_cost_35, fun r hr => zt_X3_costs 10 rfl (by decide) (vc := (RX3, TX3, 0)) rfl y0 h hr⟩
  | 3, _ => exact ⟨zM_X4_costs, zc_runO (z := zM_X4_costs) (n := 1) (ci := 4) (n0 := 0) (q := (RX4, TX4, 0)) zo_X4_costs ⟨Nat.le_of_ble_eq_true rfl, Nat.le_of_ble_eq_true rfl⟩ zw_777 zw_780 zw_778 zw_806 (by decide +kernel) zw_797 zw_796 rfl (by decide) rfl rfl dX10_cost_35, fun r hr => zt_X4_costs 11 rfl (by decide) (vc := (RX4, TX4, 0)) rfl y0 h hr⟩
  | 4, _ => exact ⟨zM_X2_costs, zc_runO (z := zM_X2_costs) (n := 1) (ci := 2) (n0 := 0) (q := (RX2, TX2, 0)) zo_X2_costs ⟨Nat.le_of_ble_eq_true rfl, Nat.le_of_ble_eq_true rfl⟩ zw_777 zw_780 zw_778 zw_806 (by decide +kernel) zw_785 zw_792 rfl (by decide) rfl rfl dX10_cost_35, fun r hr => zt_X2_costs 12 rfl (by decide) (vc := (RX2, TX2, 0)) rfl y0 h hr⟩
  | 5, _ => exact ⟨zM_X6_costs, zc_runO (z := zM_X6_costs) (n := 1) (ci := 6) (n0 := 0) (q := (RX6, TX6, 0)) zo_X6_costs ⟨Nat.le_of_ble_eq_true rfl, Nat.le_of_ble_eq_true rfl⟩ zw_777 zw_780 zw_778 zw_806 (by decide +kernel) zw_804 zw_803 rfl (by decide) rfl rfl dX10_cost_35, fun r hr => zt_X6_costs 13 rfl (by decide) (vc := (RX6, TX6, 0)) rfl y0 h hr⟩
  | 6, _ => exact ⟨zM_X0_costs, zc_runO (z := zM_X0_costs) (n := 1) (ci := 0) (n0 := 0) (q := (RX0, TX0, 0)) zo_X0_costs ⟨Nat.le_of_ble_eq_true rfl, Nat.le_of_ble_eq_true rfl⟩ zw_777 zw_780 zw_778 zw_806 (by decide +kernel) zw_782 zw_781 rfl (by decide) rfl rfl dX10_cost_35, fun r hr => zt_X0_costs 14 rfl (by decide) (vc := (RX0, TX0, 0)) rfl y0 h hr⟩
  | 7, _ => exact ⟨zM_X5_costs, zc_runO (z := zM_X5_costs) (n := 1) (ci := 5) (n0 := 0) (q := (RX5, TX5, 0)) zo_X5_costs ⟨Nat.le_of_ble_eq_true rfl, Nat.le_of_ble_eq_true rfl⟩ zw_777 zw_780 zw_778 zw_806 (by decide +kernel) zw_801 zw_800 rfl (by decide) rfl rfl dX10_cost_35, fun r hr => zt_X5_costs 15 rfl (by decide) (vc := (RX5, TX5, 0)) rfl y0 h hr⟩
  | j + 8, hj => exact absurd hj (Nat.not_lt_of_le (Nat.le_add_left 8 j))
set_option maxRecDepth 100000 in
set_option maxHeartbeats 4000000 in
theorem zt_X10_cost (x1 : Int32) (h : zHp) {r : Int32} (hr : (zf_X10_cost x1 h) = some r) : zc_Cn zM_X10_cost [.ref 0, .int x1] h ((fun r => zc_mI (r, h)) r) := by
  refine zc_meth (mk := (fun r => zc_mI (r, h))) (o := (zf_X10_cost x1 h)) (by decide +kernel) (Nat.le_of_ble_eq_true rfl) ?_ hr
  unfold zf_X10_cost
  refine zc_sL (ls1 := [some (.ref 0), some (.int x1), none]) rfl ?_
  refine zc_aload_n (pc := 0) dX10_cost_0 rfl rfl ?_
  refine zc_iload_n (pc := 1) dX10_cost_1 rfl rfl ?_
  refine zc_callIp (pc := 2) [.ref 0, .int x1] rfl (zc_runV (ci := 10) (n0 := 0) (q := (RX10, TX10, 12)) zo_X10_refuseKind ⟨Nat.le_of_ble_eq_true rfl, Nat.le_of_ble_eq_true rfl⟩ zw_482 zw_484 zs_4 rfl (by decide) rfl rfl dX10_cost_2) (Nat.le_of_ble_eq_true rfl) (fun _ hr => zt_X10_refuseKind x1 h hr) (fun r1 => ?_)
  refine zc_istore_n (pc := 5) dX10_cost_5 rfl (Nat.le_of_ble_eq_true rfl) rfl (Nat.le_of_ble_eq_true rfl) ?_
  refine zc_sL (ls1 := [some (.ref 0), some (.int x1), some (.int r1)]) rfl ?_
  refine zc_iload_n (pc := 6) dX10_cost_6 rfl rfl ?_
  refine zc_if_eq (pc := 7) 12 dX10_cost_7 (by decide) (fun _ => ?_) (fun _ => ?_)
  · refine zc_aload_n (pc := 12) dX10_cost_12 rfl rfl ?_
    refine zc_getC (pc := 13) zF_X10_53 rfl dX10_cost_13 ?_
    refine zc_aload_n (pc := 16) dX10_cost_16 rfl rfl ?_
    refine zc_getC (pc := 17) zF_X10_74 rfl dX10_cost_17 ?_
    refine zc_iload_n (pc := 20) dX10_cost_20 rfl rfl ?_
    refine zc_guard (fun g2 => ?_)
    refine zc_aldS (pc := 21) rfl g2 dX10_cost_21 ?_
    refine zc_getI (pc := 22) zF_X10_148 (zs_s g2) dX10_cost_22 ?_
    refine zc_guard (fun g3 => ?_)
    refine zc_aldV (pc := 25) rfl g3 dX10_cost_25 ?_
    refine zc_aload_n (pc := 26) dX10_cost_26 rfl rfl ?_
    refine zc_getC (pc := 27) zF_X10_74 rfl dX10_cost_27 ?_
    refine zc_iload_n (pc := 30) dX10_cost_30 rfl rfl ?_
    refine zc_guard (fun g4 => ?_)
    refine zc_aldS (pc := 31) rfl g4 dX10_cost_31 ?_
    refine zc_getI (pc := 32) zF_X10_150 (zs_s g4) dX10_cost_32 ?_
    refine zc_virt (pc := 35) (oc := fun j => zv_costs j (h.1 (43 + 1 + 2 * x1.toNatClampNeg) 2)) [.int (h.1 (43 + 1 + 2 * x1.toNatClampNeg) 2)] rfl (zr_X10_cost_35 _ (h.1 (43 + 1 + 2 * x1.toNatClampNeg) 2)) (Nat.le_of_ble_eq_true rfl) g3 (fun r5 => ?_)
    exact zc_iretK (pc := 38) dX10_cost_38 rfl ⟨_, rfl, rfl⟩
  · refine zc_iload_n (pc := 10) dX10_cost_10 rfl rfl ?_
    exact zc_iretK (pc := 11) dX10_cost_11 rfl ⟨_, rfl, rfl⟩

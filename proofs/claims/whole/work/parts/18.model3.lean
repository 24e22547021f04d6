def zl_X11_frontierTwos_16 (h : zHp) (y2 : Int32) : Nat → Int32 → Int32 → Option Int32
  | 0, _, _ => none
  | fu + 1, y3, y4 => (if (h.1 60 3) ≤ y4 then some y3 else (if zc_ix y2 7 then (if zc_ix y4 7 then ((zf_X11_farOf (h.1 63 y2.toNatClampNeg) (h.1 63 y4.toNatClampNeg)).bind (fun r7 => (((if r7 = (6 : Int32) then some (0 : Int32) else (if zc_ix y2 7 then ((zf_X11_farOf (h.1 63 y2.toNatClampNeg) (h.1 60 0)).bind (fun r9 => (if zc_ix y4 7 then ((zf_X11_farOf (h.1 60 0) (h.1 63 y4.toNatClampNeg)).bind (fun r11 => (if (r9 + r11) = r7 then some (1 : Int32) else some (0 : Int32)))) else none))) else none)) : Option Int32).bind (fun v12 => zl_X11_frontierTwos_16 h y2 fu (y3 + v12) (y4 + (1 : Int32)))))) else none) else none))
def zl_X11_frontierTwos_4 (h : zHp) : Nat → Int32 → Int32 → Option Int32
  | 0, _, _ => none
  | fu + 1, y1, y2 => (if (h.1 60 3) ≤ y2 then some y1 else ((zl_X11_frontierTwos_16 h y2 zFU y1 (y2 + (1 : Int32))).bind (fun v13 => zl_X11_frontierTwos_4 h fu v13 (y2 + (1 : Int32)))))
def zf_X11_frontierTwos (h : zHp) : Option Int32 :=
  ((zl_X11_frontierTwos_4 h zFU (0 : Int32) (0 : Int32)).bind (fun v14 => some v14))
set_option maxRecDepth 100000 in
set_option maxHeartbeats 4000000 in
theorem zt_X11_frontierTwos (h : zHp) {r : Int32} (hr : (zf_X11_frontierTwos h) = some r) : zc_Cn zM_X11_frontierTwos [.ref 60] h ((fun r => zc_mI (r, h)) r) := by
  refine zc_meth (mk := (fun r => zc_mI (r, h))) (o := (zf_X11_frontierTwos h)) (by decide +kernel) (Nat.le_of_ble_eq_true rfl) ?_ hr
  unfold zf_X11_frontierTwos
  refine zc_sL (ls1 := [some (.ref 60), none, none, none, none]) rfl ?_
  refine zc_iconst (pc := 0) (0 : Int32) dX11_frontierTwos_0 (by decide) ?_
  refine zc_istore_n (pc := 1) dX11_frontierTwos_1 rfl (Nat.le_of_ble_eq_true rfl) rfl (Nat.le_of_ble_eq_true rfl) ?_
  refine zc_sL (ls1 := [some (.ref 60), some (.int (0 : Int32)), none, none, none]) rfl ?_
  refine zc_iconst (pc := 2) (0 : Int32) dX11_frontierTwos_2 (by decide) ?_
  refine zc_istore_n (pc := 3) dX11_frontierTwos_3 rfl (Nat.le_of_ble_eq_true rfl) rfl (Nat.le_of_ble_eq_true rfl) ?_
  refine zc_sL (ls1 := [some (.ref 60), some (.int (0 : Int32)), some (.int (0 : Int32)), none, none]) rfl ?_
  refine zc_sL (ls1 := [some (.ref 60), some (.int (0 : Int32)), some (.int (0 : Int32)), none, none]) rfl ?_
  refine zc_loop 100 (fun v14 => [none, some (.int v14), none, none, none]) (fun v14 => []) (fun v14 => h) (fun v14 => ?_) (fun k16 J15 => ?_)
  · refine zc_iload_n (pc := 100) dX11_frontierTwos_100 rfl rfl ?_
    exact zc_iretK (pc := 101) dX11_frontierTwos_101 rfl ⟨_, rfl, rfl⟩
  · have L18 : ∀ (fu : Nat) (y1 : Int32) (y2 : Int32), zc_G zM_X11_frontierTwos (fun r => zc_mI (r, h)) 4 [some (.ref 60), some (.int y1), some (.int y2), none, none] [] h ((zl_X11_frontierTwos_4 h fu y1 y2).bind k16) := by
        intro fu
        induction fu with
        | zero => intros; exact zc_noneb
        | succ fu ih19 =>
          intro y1 y2
          unfold zl_X11_frontierTwos_4
          refine zc_iload_n (pc := 4) dX11_frontierTwos_4 rfl rfl ?_
          refine zc_aload_n (pc := 5) dX11_frontierTwos_5 rfl rfl ?_
          refine zc_getI (pc := 6) zF_X11_84 rfl dX11_frontierTwos_6 ?_
          refine zc_icmp_ge (pc := 9) 100 dX11_frontierTwos_9 (by decide) (fun _ => ?_) (fun _ => ?_)
          · refine zc_drop 0 ?_
            refine zc_drop 2 ?_
            exact J15 y1
          · refine zc_iload_n (pc := 12) dX11_frontierTwos_12 rfl rfl ?_
            refine zc_iconst (pc := 13) (1 : Int32) dX11_frontierTwos_13 (by decide) ?_
            refine zc_iadd (pc := 14) dX11_frontierTwos_14 ?_
            refine zc_istore_n (pc := 15) dX11_frontierTwos_15 rfl (Nat.le_of_ble_eq_true rfl) rfl (Nat.le_of_ble_eq_true rfl) ?_
            refine zc_sL (ls1 := [some (.ref 60), some (.int y1), some (.int y2), some (.int (y2 + (1 : Int32))), none]) rfl ?_
            refine zc_sL (ls1 := [some (.ref 60), some (.int y1), some (.int y2), some (.int (y2 + (1 : Int32))), none]) rfl ?_
            refine zc_loop 94 (fun v13 => [some (.ref 60), some (.int v13), some (.int y2), none, none]) (fun v13 => []) (fun v13 => h) (fun v13 => ?_) (fun k21 J20 => ?_)
            · refine zc_iinc (pc := 94) (1 : Int32) dX11_frontierTwos_94 (by decide) rfl (Nat.le_of_ble_eq_true rfl) rfl ?_
              refine zc_sL (ls1 := [some (.ref 60), some (.int v13), some (.int (y2 + (1 : Int32))), none, none]) rfl ?_
              refine zc_goto (pc := 97) 4 dX11_frontierTwos_97 (by decide) ?_
              exact ih19 v13 (y2 + (1 : Int32))
            · have L23 : ∀ (fu : Nat) (y3 : Int32) (y4 : Int32), zc_G zM_X11_frontierTwos (fun r => zc_mI (r, h)) 16 [some (.ref 60), some (.int y3), some (.int y2), some (.int y4), none] [] h ((zl_X11_frontierTwos_16 h y2 fu y3 y4).bind k21) := by
                  intro fu
                  induction fu with
                  | zero => intros; exact zc_noneb
                  | succ fu ih24 =>
                    intro y3 y4
                    unfold zl_X11_frontierTwos_16
                    refine zc_iload_n (pc := 16) dX11_frontierTwos_16 rfl rfl ?_
                    refine zc_aload_n (pc := 17) dX11_frontierTwos_17 rfl rfl ?_
                    refine zc_getI (pc := 18) zF_X11_84 rfl dX11_frontierTwos_18 ?_
                    refine zc_icmp_ge (pc := 21) 94 dX11_frontierTwos_21 (by decide) (fun _ => ?_) (fun _ => ?_)
                    · refine zc_drop 3 ?_
                      exact J20 y3
                    · refine zc_aload_n (pc := 24) dX11_frontierTwos_24 rfl rfl ?_
                      refine zc_getC (pc := 25) zF_X11_16 rfl dX11_frontierTwos_25 ?_
                      refine zc_iload_n (pc := 28) dX11_frontierTwos_28 rfl rfl ?_
                      refine zc_guard (fun g5 => ?_)
                      refine zc_aldi (pc := 29) rfl g5 dX11_frontierTwos_29 ?_
                      refine zc_aload_n (pc := 30) dX11_frontierTwos_30 rfl rfl ?_
                      refine zc_getC (pc := 31) zF_X11_16 rfl dX11_frontierTwos_31 ?_
                      refine zc_iload_n (pc := 34) dX11_frontierTwos_34 rfl rfl ?_
                      refine zc_guard (fun g6 => ?_)
                      refine zc_aldi (pc := 35) rfl g6 dX11_frontierTwos_35 ?_
                      refine zc_callIp (pc := 36) [.int (h.1 63 y2.toNatClampNeg), .int (h.1 63 y4.toNatClampNeg)] rfl (zc_runS zo_X11_farOf ⟨Nat.le_of_ble_eq_true rfl, Nat.le_of_ble_eq_true rfl⟩ zw_1148 zw_1149 rfl dX11_frontierTwos_36) (Nat.le_of_ble_eq_true rfl) (fun _ hr => zt_X11_farOf (h.1 63 y2.toNatClampNeg) (h.1 63 y4.toNatClampNeg) h hr) (fun r7 => ?_)
                      refine zc_istore (pc := 39) dX11_frontierTwos_39 (Nat.le_of_ble_eq_true rfl) rfl (Nat.le_of_ble_eq_true rfl) ?_
                      refine zc_sL (ls1 := [some (.ref 60), some (.int y3), some (.int y2), some (.int y4), some (.int r7)]) rfl ?_
                      refine zc_iload_n (pc := 41) dX11_frontierTwos_41 rfl rfl ?_
                      refine zc_iload (pc := 42) dX11_frontierTwos_42 rfl ?_
                      refine zc_bipush (pc := 44) (6 : Int32) dX11_frontierTwos_44 (by decide) ?_
                      refine zc_join 86 (fun v12 => [some (.ref 60), none, some (.int y2), some (.int y4), none]) (fun v12 => [.int v12, .int y3]) (fun v12 => h) (fun v12 => ?_) (fun J25 => ?_)
                      · refine zc_iadd (pc := 86) dX11_frontierTwos_86 ?_
                        refine zc_istore_n (pc := 87) dX11_frontierTwos_87 rfl (Nat.le_of_ble_eq_true rfl) rfl (Nat.le_of_ble_eq_true rfl) ?_
                        refine zc_sL (ls1 := [some (.ref 60), some (.int (y3 + v12)), some (.int y2), some (.int y4), none]) rfl ?_
                        refine zc_iinc (pc := 88) (1 : Int32) dX11_frontierTwos_88 (by decide) rfl (Nat.le_of_ble_eq_true rfl) rfl ?_
                        refine zc_sL (ls1 := [some (.ref 60), some (.int (y3 + v12)), some (.int y2), some (.int (y4 + (1 : Int32))), none]) rfl ?_
                        refine zc_goto (pc := 91) 16 dX11_frontierTwos_91 (by decide) ?_
                        exact ih24 (y3 + v12) (y4 + (1 : Int32))
                      · refine zc_icmp_eq (pc := 46) 85 dX11_frontierTwos_46 (by decide) (fun _ => ?_) (fun _ => ?_)
                        · refine zc_iconst (pc := 85) (0 : Int32) dX11_frontierTwos_85 (by decide) ?_
                          refine zc_drop 1 ?_
                          refine zc_drop 4 ?_
                          exact J25 (0 : Int32)
                        · refine zc_aload_n (pc := 49) dX11_frontierTwos_49 rfl rfl ?_
                          refine zc_getC (pc := 50) zF_X11_16 rfl dX11_frontierTwos_50 ?_
                          refine zc_iload_n (pc := 53) dX11_frontierTwos_53 rfl rfl ?_
                          refine zc_guard (fun g8 => ?_)
                          refine zc_aldi (pc := 54) rfl g8 dX11_frontierTwos_54 ?_
                          refine zc_aload_n (pc := 55) dX11_frontierTwos_55 rfl rfl ?_
                          refine zc_getI (pc := 56) zF_X11_91 rfl dX11_frontierTwos_56 ?_
                          refine zc_callIp (pc := 59) [.int (h.1 63 y2.toNatClampNeg), .int (h.1 60 0)] rfl (zc_runS zo_X11_farOf ⟨Nat.le_of_ble_eq_true rfl, Nat.le_of_ble_eq_true rfl⟩ zw_1148 zw_1149 rfl dX11_frontierTwos_59) (Nat.le_of_ble_eq_true rfl) (fun _ hr => zt_X11_farOf (h.1 63 y2.toNatClampNeg) (h.1 60 0) h hr) (fun r9 => ?_)
                          refine zc_aload_n (pc := 62) dX11_frontierTwos_62 rfl rfl ?_
                          refine zc_getI (pc := 63) zF_X11_91 rfl dX11_frontierTwos_63 ?_
                          refine zc_aload_n (pc := 66) dX11_frontierTwos_66 rfl rfl ?_
                          refine zc_getC (pc := 67) zF_X11_16 rfl dX11_frontierTwos_67 ?_
                          refine zc_iload_n (pc := 70) dX11_frontierTwos_70 rfl rfl ?_
                          refine zc_guard (fun g10 => ?_)
                          refine zc_aldi (pc := 71) rfl g10 dX11_frontierTwos_71 ?_
                          refine zc_callIp (pc := 72) [.int (h.1 60 0), .int (h.1 63 y4.toNatClampNeg)] rfl (zc_runS zo_X11_farOf ⟨Nat.le_of_ble_eq_true rfl, Nat.le_of_ble_eq_true rfl⟩ zw_1148 zw_1149 rfl dX11_frontierTwos_72) (Nat.le_of_ble_eq_true rfl) (fun _ hr => zt_X11_farOf (h.1 60 0) (h.1 63 y4.toNatClampNeg) h hr) (fun r11 => ?_)
                          refine zc_iadd (pc := 75) dX11_frontierTwos_75 ?_
                          refine zc_iload (pc := 76) dX11_frontierTwos_76 rfl ?_
                          refine zc_icmp_ne (pc := 78) 85 dX11_frontierTwos_78 (by decide) (fun _ => ?_) (fun _ => ?_)
                          · refine zc_iconst (pc := 81) (1 : Int32) dX11_frontierTwos_81 (by decide) ?_
                            refine zc_goto (pc := 82) 86 dX11_frontierTwos_82 (by decide) ?_
                            refine zc_drop 1 ?_
                            refine zc_drop 4 ?_
                            exact J25 (1 : Int32)
                          · refine zc_iconst (pc := 85) (0 : Int32) dX11_frontierTwos_85 (by decide) ?_
                            refine zc_drop 1 ?_
                            refine zc_drop 4 ?_
                            exact J25 (0 : Int32)
              exact L23 zFU y1 (y2 + (1 : Int32))
    exact L18 zFU (0 : Int32) (0 : Int32)
def zl_X11_chainOf_7 (h : zHp) : Nat → Int32 → Int32 → Int32 → Option Int32
  | 0, _, _, _ => none
  | fu + 1, y1, y2, y3 => (if (h.1 60 3) ≤ y3 then some y2 else ((zf_X11_hasBit y1 y3).bind (fun r4 => (if r4 = 0 then ((some (y1 ||| ((1 : Int32) <<< (y3 &&& 31))) : Option Int32).bind (fun v5 => (if zc_ix y3 7 then ((some (h.1 64 y3.toNatClampNeg) : Option Int32).bind (fun v7 => zl_X11_chainOf_7 h fu v5 (y2 + (1 : Int32)) v7)) else none))) else some y2))))
def zf_X11_chainOf (x1 : Int32) (h : zHp) : Option Int32 :=
  ((zl_X11_chainOf_7 h zFU (0 : Int32) (0 : Int32) x1).bind (fun v8 => some v8))
set_option maxRecDepth 100000 in
set_option maxHeartbeats 4000000 in
theorem zt_X11_chainOf (x1 : Int32) (h : zHp) {r : Int32} (hr : (zf_X11_chainOf x1 h) = some r) : zc_Cn zM_X11_chainOf [.ref 60, .int x1] h ((fun r => zc_mI (r, h)) r) := by
  refine zc_meth (mk := (fun r => zc_mI (r, h))) (o := (zf_X11_chainOf x1 h)) (by decide +kernel) (Nat.le_of_ble_eq_true rfl) ?_ hr
  unfold zf_X11_chainOf
  refine zc_sL (ls1 := [some (.ref 60), some (.int x1), none, none, none]) rfl ?_
  refine zc_iconst (pc := 0) (0 : Int32) dX11_chainOf_0 (by decide) ?_
  refine zc_istore_n (pc := 1) dX11_chainOf_1 rfl (Nat.le_of_ble_eq_true rfl) rfl (Nat.le_of_ble_eq_true rfl) ?_
  refine zc_sL (ls1 := [some (.ref 60), some (.int x1), some (.int (0 : Int32)), none, none]) rfl ?_
  refine zc_iconst (pc := 2) (0 : Int32) dX11_chainOf_2 (by decide) ?_
  refine zc_istore_n (pc := 3) dX11_chainOf_3 rfl (Nat.le_of_ble_eq_true rfl) rfl (Nat.le_of_ble_eq_true rfl) ?_
  refine zc_sL (ls1 := [some (.ref 60), some (.int x1), some (.int (0 : Int32)), some (.int (0 : Int32)), none]) rfl ?_
  refine zc_iload_n (pc := 4) dX11_chainOf_4 rfl rfl ?_
  refine zc_istore (pc := 5) dX11_chainOf_5 (Nat.le_of_ble_eq_true rfl) rfl (Nat.le_of_ble_eq_true rfl) ?_
  refine zc_sL (ls1 := [some (.ref 60), some (.int x1), some (.int (0 : Int32)), some (.int (0 : Int32)), some (.int x1)]) rfl ?_
  refine zc_drop 1 ?_
  refine zc_sL (ls1 := [some (.ref 60), none, some (.int (0 : Int32)), some (.int (0 : Int32)), some (.int x1)]) rfl ?_
  refine zc_loop 47 (fun v8 => [none, none, none, some (.int v8), none]) (fun v8 => []) (fun v8 => h) (fun v8 => ?_) (fun k10 J9 => ?_)
  · refine zc_iload_n (pc := 47) dX11_chainOf_47 rfl rfl ?_
    exact zc_iretK (pc := 48) dX11_chainOf_48 rfl ⟨_, rfl, rfl⟩
  · have L12 : ∀ (fu : Nat) (y1 : Int32) (y2 : Int32) (y3 : Int32), zc_G zM_X11_chainOf (fun r => zc_mI (r, h)) 7 [some (.ref 60), none, some (.int y1), some (.int y2), some (.int y3)] [] h ((zl_X11_chainOf_7 h fu y1 y2 y3).bind k10) := by
        intro fu
        induction fu with
        | zero => intros; exact zc_noneb
        | succ fu ih13 =>
          intro y1 y2 y3
          unfold zl_X11_chainOf_7
          refine zc_iload (pc := 7) dX11_chainOf_7 rfl ?_
          refine zc_aload_n (pc := 9) dX11_chainOf_9 rfl rfl ?_
          refine zc_getI (pc := 10) zF_X11_84 rfl dX11_chainOf_10 ?_
          refine zc_icmp_ge (pc := 13) 47 dX11_chainOf_13 (by decide) (fun _ => ?_) (fun _ => ?_)
          · refine zc_drop 0 ?_
            refine zc_drop 2 ?_
            refine zc_drop 4 ?_
            exact J9 y2
          · refine zc_iload_n (pc := 16) dX11_chainOf_16 rfl rfl ?_
            refine zc_iload (pc := 17) dX11_chainOf_17 rfl ?_
            refine zc_callIp (pc := 19) [.int y1, .int y3] rfl (zc_runS zo_X11_hasBit ⟨Nat.le_of_ble_eq_true rfl, Nat.le_of_ble_eq_true rfl⟩ zw_1292 zw_1293 rfl dX11_chainOf_19) (Nat.le_of_ble_eq_true rfl) (fun _ hr => zt_X11_hasBit y1 y3 h hr) (fun r4 => ?_)
            refine zc_if_ne (pc := 22) 47 dX11_chainOf_22 (by decide) (fun _ => ?_) (fun _ => ?_)
            · refine zc_iload_n (pc := 25) dX11_chainOf_25 rfl rfl ?_
              refine zc_iconst (pc := 26) (1 : Int32) dX11_chainOf_26 (by decide) ?_
              refine zc_iload (pc := 27) dX11_chainOf_27 rfl ?_
              refine zc_ishl (pc := 29) dX11_chainOf_29 ?_
              refine zc_ior (pc := 30) dX11_chainOf_30 ?_
              refine zc_letI (fun v5 _ => ?_)
              refine zc_istore_n (pc := 31) dX11_chainOf_31 rfl (Nat.le_of_ble_eq_true rfl) rfl (Nat.le_of_ble_eq_true rfl) ?_
              refine zc_sL (ls1 := [some (.ref 60), none, some (.int v5), some (.int y2), some (.int y3)]) rfl ?_
              refine zc_iinc (pc := 32) (1 : Int32) dX11_chainOf_32 (by decide) rfl (Nat.le_of_ble_eq_true rfl) rfl ?_
              refine zc_sL (ls1 := [some (.ref 60), none, some (.int v5), some (.int (y2 + (1 : Int32))), some (.int y3)]) rfl ?_
              refine zc_aload_n (pc := 35) dX11_chainOf_35 rfl rfl ?_
              refine zc_getC (pc := 36) zF_X11_19 rfl dX11_chainOf_36 ?_
              refine zc_iload (pc := 39) dX11_chainOf_39 rfl ?_
              refine zc_guard (fun g6 => ?_)
              refine zc_aldi (pc := 41) rfl g6 dX11_chainOf_41 ?_
              refine zc_letI (fun v7 _ => ?_)
              refine zc_istore (pc := 42) dX11_chainOf_42 (Nat.le_of_ble_eq_true rfl) rfl (Nat.le_of_ble_eq_true rfl) ?_
              refine zc_sL (ls1 := [some (.ref 60), none, some (.int v5), some (.int (y2 + (1 : Int32))), some (.int v7)]) rfl ?_
              refine zc_goto (pc := 44) 7 dX11_chainOf_44 (by decide) ?_
              exact ih13 v5 (y2 + (1 : Int32)) v7
            · refine zc_drop 0 ?_
              refine zc_drop 2 ?_
              refine zc_drop 4 ?_
              exact J9 y2
    exact L12 zFU (0 : Int32) (0 : Int32) x1
def zl_X11_jam_12 (h1 : zHp) : Nat → Int32 → Int32 → Int32 → Option (Int32 × Int32)
  | 0, _, _, _ => none
  | fu + 1, y2, y3, y4 => (if (h1.1 60 3) ≤ y4 then some (y2, y3) else ((zf_X11_isAble y4 h1).bind (fun r5 => (((if r5 = 0 then some (0 : Int32) else ((zf_X11_isNodding y4 h1).bind (fun r6 => (if r6 = 0 then some (0 : Int32) else some (1 : Int32))))) : Option Int32).bind (fun v7 => ((zf_X11_chainOf y4 h1).bind (fun r8 => (if r8 ≤ y3 then zl_X11_jam_12 h1 fu (y2 + v7) y3 (y4 + (1 : Int32)) else ((zf_X11_chainOf y4 h1).bind (fun r9 => zl_X11_jam_12 h1 fu (y2 + v7) r9 (y4 + (1 : Int32))))))))))))
def zf_X11_jam (x1 : Int32) (h : zHp) : Option (Int32 × zHp) :=
  ((some (zc_ui h 60 17 (0 : Int32)) : Option zHp).bind (fun h1 => ((zl_X11_jam_12 h1 zFU (0 : Int32) (0 : Int32) (0 : Int32)).bind (fun v10 => (if x1 = 0 then some (v10.1, h1) else (if x1 = (1 : Int32) then ((zf_X11_frontierTwos h1).bind (fun r11 => some (r11, h1))) else (if x1 = (2 : Int32) then some (v10.2, h1) else some ((-1 : Int32), h1))))))))
set_option maxRecDepth 100000 in
set_option maxHeartbeats 4000000 in
theorem zt_X11_jam (x1 : Int32) (h : zHp) {r : (Int32 × zHp)} (hr : (zf_X11_jam x1 h) = some r) : zc_Cn zM_X11_jam [.ref 60, .int x1] h (zc_mI r) := by
  refine zc_meth (mk := zc_mI) (o := (zf_X11_jam x1 h)) (by decide +kernel) (Nat.le_of_ble_eq_true rfl) ?_ hr
  unfold zf_X11_jam
  refine zc_sL (ls1 := [some (.ref 60), some (.int x1), none, none, none]) rfl ?_
  refine zc_aload_n (pc := 0) dX11_jam_0 rfl rfl ?_
  refine zc_iconst (pc := 1) (0 : Int32) dX11_jam_1 (by decide) ?_
  refine zc_putI (pc := 2) zF_X11_68 rfl dX11_jam_2 ?_
  refine zc_letH (fun h1 _ => ?_)
  refine zc_iconst (pc := 5) (0 : Int32) dX11_jam_5 (by decide) ?_
  refine zc_istore_n (pc := 6) dX11_jam_6 rfl (Nat.le_of_ble_eq_true rfl) rfl (Nat.le_of_ble_eq_true rfl) ?_
  refine zc_sL (ls1 := [some (.ref 60), some (.int x1), some (.int (0 : Int32)), none, none]) rfl ?_
  refine zc_iconst (pc := 7) (0 : Int32) dX11_jam_7 (by decide) ?_
  refine zc_istore_n (pc := 8) dX11_jam_8 rfl (Nat.le_of_ble_eq_true rfl) rfl (Nat.le_of_ble_eq_true rfl) ?_
  refine zc_sL (ls1 := [some (.ref 60), some (.int x1), some (.int (0 : Int32)), some (.int (0 : Int32)), none]) rfl ?_
  refine zc_iconst (pc := 9) (0 : Int32) dX11_jam_9 (by decide) ?_
  refine zc_istore (pc := 10) dX11_jam_10 (Nat.le_of_ble_eq_true rfl) rfl (Nat.le_of_ble_eq_true rfl) ?_
  refine zc_sL (ls1 := [some (.ref 60), some (.int x1), some (.int (0 : Int32)), some (.int (0 : Int32)), some (.int (0 : Int32))]) rfl ?_
  refine zc_sL (ls1 := [some (.ref 60), some (.int x1), some (.int (0 : Int32)), some (.int (0 : Int32)), some (.int (0 : Int32))]) rfl ?_
  refine zc_loop 74 (fun v10 => [some (.ref 60), some (.int x1), some (.int v10.1), some (.int v10.2), none]) (fun v10 => []) (fun v10 => h1) (fun v10 => ?_) (fun k13 J12 => ?_)
  · refine zc_iload_n (pc := 74) dX11_jam_74 rfl rfl ?_
    refine zc_if_ne (pc := 75) 82 dX11_jam_75 (by decide) (fun _ => ?_) (fun _ => ?_)
    · refine zc_iload_n (pc := 78) dX11_jam_78 rfl rfl ?_
      refine zc_goto (pc := 79) 104 dX11_jam_79 (by decide) ?_
      exact zc_iretK (pc := 104) dX11_jam_104 rfl ⟨_, rfl, rfl⟩
    · refine zc_iload_n (pc := 82) dX11_jam_82 rfl rfl ?_
      refine zc_iconst (pc := 83) (1 : Int32) dX11_jam_83 (by decide) ?_
      refine zc_icmp_ne (pc := 84) 94 dX11_jam_84 (by decide) (fun _ => ?_) (fun _ => ?_)
      · refine zc_aload_n (pc := 87) dX11_jam_87 rfl rfl ?_
        refine zc_callIp (pc := 88) [.ref 60] rfl (zc_runV (ci := 11) (n0 := 0) (q := (RX11, TX11, 35)) zo_X11_frontierTwos ⟨Nat.le_of_ble_eq_true rfl, Nat.le_of_ble_eq_true rfl⟩ zw_1319 zw_1321 zs_49 rfl (by decide) rfl rfl dX11_jam_88) (Nat.le_of_ble_eq_true rfl) (fun _ hr => zt_X11_frontierTwos h1 hr) (fun r11 => ?_)
        refine zc_goto (pc := 91) 104 dX11_jam_91 (by decide) ?_
        exact zc_iretK (pc := 104) dX11_jam_104 rfl ⟨_, rfl, rfl⟩
      · refine zc_iload_n (pc := 94) dX11_jam_94 rfl rfl ?_
        refine zc_iconst (pc := 95) (2 : Int32) dX11_jam_95 (by decide) ?_
        refine zc_icmp_ne (pc := 96) 103 dX11_jam_96 (by decide) (fun _ => ?_) (fun _ => ?_)
        · refine zc_iload_n (pc := 99) dX11_jam_99 rfl rfl ?_
          refine zc_goto (pc := 100) 104 dX11_jam_100 (by decide) ?_
          exact zc_iretK (pc := 104) dX11_jam_104 rfl ⟨_, rfl, rfl⟩
        · refine zc_iconst (pc := 103) (-1 : Int32) dX11_jam_103 (by decide) ?_
          exact zc_iretK (pc := 104) dX11_jam_104 rfl ⟨_, rfl, rfl⟩
  · have L15 : ∀ (fu : Nat) (y2 : Int32) (y3 : Int32) (y4 : Int32), zc_G zM_X11_jam zc_mI 12 [some (.ref 60), some (.int x1), some (.int y2), some (.int y3), some (.int y4)] [] h1 ((zl_X11_jam_12 h1 fu y2 y3 y4).bind k13) := by
        intro fu
        induction fu with
        | zero => intros; exact zc_noneb
        | succ fu ih16 =>
          intro y2 y3 y4
          unfold zl_X11_jam_12
          refine zc_iload (pc := 12) dX11_jam_12 rfl ?_
          refine zc_aload_n (pc := 14) dX11_jam_14 rfl rfl ?_
          refine zc_getI (pc := 15) zF_X11_84 rfl dX11_jam_15 ?_
          refine zc_icmp_ge (pc := 18) 74 dX11_jam_18 (by decide) (fun _ => ?_) (fun _ => ?_)
          · refine zc_drop 4 ?_
            exact J12 (y2, y3)
          · refine zc_iload_n (pc := 21) dX11_jam_21 rfl rfl ?_
            refine zc_aload_n (pc := 22) dX11_jam_22 rfl rfl ?_
            refine zc_iload (pc := 23) dX11_jam_23 rfl ?_
            refine zc_callIp (pc := 25) [.ref 60, .int y4] rfl (zc_runV (ci := 11) (n0 := 0) (q := (RX11, TX11, 35)) zo_X11_isAble ⟨Nat.le_of_ble_eq_true rfl, Nat.le_of_ble_eq_true rfl⟩ zw_1136 zw_1138 zs_32 rfl (by decide) rfl rfl dX11_jam_25) (Nat.le_of_ble_eq_true rfl) (fun _ hr => zt_X11_isAble y4 h1 hr) (fun r5 => ?_)
            refine zc_join 45 (fun v7 => [some (.ref 60), some (.int x1), none, some (.int y3), some (.int y4)]) (fun v7 => [.int v7, .int y2]) (fun v7 => h1) (fun v7 => ?_) (fun J17 => ?_)
            · refine zc_iadd (pc := 45) dX11_jam_45 ?_
              refine zc_istore_n (pc := 46) dX11_jam_46 rfl (Nat.le_of_ble_eq_true rfl) rfl (Nat.le_of_ble_eq_true rfl) ?_
              refine zc_sL (ls1 := [some (.ref 60), some (.int x1), some (.int (y2 + v7)), some (.int y3), some (.int y4)]) rfl ?_
              refine zc_aload_n (pc := 47) dX11_jam_47 rfl rfl ?_
              refine zc_iload (pc := 48) dX11_jam_48 rfl ?_
              refine zc_callIp (pc := 50) [.ref 60, .int y4] rfl (zc_runV (ci := 11) (n0 := 0) (q := (RX11, TX11, 35)) zo_X11_chainOf ⟨Nat.le_of_ble_eq_true rfl, Nat.le_of_ble_eq_true rfl⟩ zw_1315 zw_1317 zs_48 rfl (by decide) rfl rfl dX11_jam_50) (Nat.le_of_ble_eq_true rfl) (fun _ hr => zt_X11_chainOf y4 h1 hr) (fun r8 => ?_)
              refine zc_iload_n (pc := 53) dX11_jam_53 rfl rfl ?_
              refine zc_icmp_le (pc := 54) 66 dX11_jam_54 (by decide) (fun _ => ?_) (fun _ => ?_)
              · refine zc_iload_n (pc := 66) dX11_jam_66 rfl rfl ?_
                refine zc_istore_n (pc := 67) dX11_jam_67 rfl (Nat.le_of_ble_eq_true rfl) rfl (Nat.le_of_ble_eq_true rfl) ?_
                refine zc_sL (ls1 := [some (.ref 60), some (.int x1), some (.int (y2 + v7)), some (.int y3), some (.int y4)]) rfl ?_
                refine zc_iinc (pc := 68) (1 : Int32) dX11_jam_68 (by decide) rfl (Nat.le_of_ble_eq_true rfl) rfl ?_
                refine zc_sL (ls1 := [some (.ref 60), some (.int x1), some (.int (y2 + v7)), some (.int y3), some (.int (y4 + (1 : Int32)))]) rfl ?_
                refine zc_goto (pc := 71) 12 dX11_jam_71 (by decide) ?_
                exact ih16 (y2 + v7) y3 (y4 + (1 : Int32))
              · refine zc_aload_n (pc := 57) dX11_jam_57 rfl rfl ?_
                refine zc_iload (pc := 58) dX11_jam_58 rfl ?_
                refine zc_callIp (pc := 60) [.ref 60, .int y4] rfl (zc_runV (ci := 11) (n0 := 0) (q := (RX11, TX11, 35)) zo_X11_chainOf ⟨Nat.le_of_ble_eq_true rfl, Nat.le_of_ble_eq_true rfl⟩ zw_1315 zw_1317 zs_48 rfl (by decide) rfl rfl dX11_jam_60) (Nat.le_of_ble_eq_true rfl) (fun _ hr => zt_X11_chainOf y4 h1 hr) (fun r9 => ?_)
                refine zc_goto (pc := 63) 67 dX11_jam_63 (by decide) ?_
                refine zc_istore_n (pc := 67) dX11_jam_67 rfl (Nat.le_of_ble_eq_true rfl) rfl (Nat.le_of_ble_eq_true rfl) ?_
                refine zc_sL (ls1 := [some (.ref 60), some (.int x1), some (.int (y2 + v7)), some (.int r9), some (.int y4)]) rfl ?_
                refine zc_iinc (pc := 68) (1 : Int32) dX11_jam_68 (by decide) rfl (Nat.le_of_ble_eq_true rfl) rfl ?_
                refine zc_sL (ls1 := [some (.ref 60), some (.int x1), some (.int (y2 + v7)), some (.int r9), some (.int (y4 + (1 : Int32)))]) rfl ?_
                refine zc_goto (pc := 71) 12 dX11_jam_71 (by decide) ?_
                exact ih16 (y2 + v7) r9 (y4 + (1 : Int32))
            · refine zc_if_eq (pc := 28) 44 dX11_jam_28 (by decide) (fun _ => ?_) (fun _ => ?_)
              · refine zc_iconst (pc := 44) (0 : Int32) dX11_jam_44 (by decide) ?_
                refine zc_drop 2 ?_
                exact J17 (0 : Int32)
              · refine zc_aload_n (pc := 31) dX11_jam_31 rfl rfl ?_
                refine zc_iload (pc := 32) dX11_jam_32 rfl ?_
                refine zc_callIp (pc := 34) [.ref 60, .int y4] rfl (zc_runV (ci := 11) (n0 := 0) (q := (RX11, TX11, 35)) zo_X11_isNodding ⟨Nat.le_of_ble_eq_true rfl, Nat.le_of_ble_eq_true rfl⟩ zw_1162 zw_1164 zs_37 rfl (by decide) rfl rfl dX11_jam_34) (Nat.le_of_ble_eq_true rfl) (fun _ hr => zt_X11_isNodding y4 h1 hr) (fun r6 => ?_)
                refine zc_if_eq (pc := 37) 44 dX11_jam_37 (by decide) (fun _ => ?_) (fun _ => ?_)
                · refine zc_iconst (pc := 44) (0 : Int32) dX11_jam_44 (by decide) ?_
                  refine zc_drop 2 ?_
                  exact J17 (0 : Int32)
                · refine zc_iconst (pc := 40) (1 : Int32) dX11_jam_40 (by decide) ?_
                  refine zc_goto (pc := 41) 45 dX11_jam_41 (by decide) ?_
                  refine zc_drop 2 ?_
                  exact J17 (1 : Int32)
    exact L15 zFU (0 : Int32) (0 : Int32) (0 : Int32)
def zf_X11_chain (x1 : Int32) (h : zHp) : Option (Int32 × zHp) :=
  ((some (zc_ui h 60 17 (0 : Int32)) : Option zHp).bind (fun h1 => ((zf_X11_isOne x1 h1).bind (fun r2 => (if r2 = 0 then some ((-1 : Int32), h1) else ((zf_X11_chainOf x1 h1).bind (fun r3 => some (r3, h1))))))))
set_option maxRecDepth 100000 in
set_option maxHeartbeats 4000000 in
theorem zt_X11_chain (x1 : Int32) (h : zHp) {r : (Int32 × zHp)} (hr : (zf_X11_chain x1 h) = some r) : zc_Cn zM_X11_chain [.ref 60, .int x1] h (zc_mI r) := by
  refine zc_meth (mk := zc_mI) (o := (zf_X11_chain x1 h)) (by decide +kernel) (Nat.le_of_ble_eq_true rfl) ?_ hr
  unfold zf_X11_chain
  refine zc_sL (ls1 := [some (.ref 60), some (.int x1)]) rfl ?_
  refine zc_aload_n (pc := 0) dX11_chain_0 rfl rfl ?_
  refine zc_iconst (pc := 1) (0 : Int32) dX11_chain_1 (by decide) ?_
  refine zc_putI (pc := 2) zF_X11_68 rfl dX11_chain_2 ?_
  refine zc_letH (fun h1 _ => ?_)
  refine zc_aload_n (pc := 5) dX11_chain_5 rfl rfl ?_
  refine zc_iload_n (pc := 6) dX11_chain_6 rfl rfl ?_
  refine zc_callIp (pc := 7) [.ref 60, .int x1] rfl (zc_runV (ci := 11) (n0 := 0) (q := (RX11, TX11, 35)) zo_X11_isOne ⟨Nat.le_of_ble_eq_true rfl, Nat.le_of_ble_eq_true rfl⟩ zw_1119 zw_1121 zs_28 rfl (by decide) rfl rfl dX11_chain_7) (Nat.le_of_ble_eq_true rfl) (fun _ hr => zt_X11_isOne x1 h1 hr) (fun r2 => ?_)
  refine zc_if_eq (pc := 10) 21 dX11_chain_10 (by decide) (fun _ => ?_) (fun _ => ?_)
  · refine zc_iconst (pc := 21) (-1 : Int32) dX11_chain_21 (by decide) ?_
    exact zc_iretK (pc := 22) dX11_chain_22 rfl ⟨_, rfl, rfl⟩
  · refine zc_aload_n (pc := 13) dX11_chain_13 rfl rfl ?_
    refine zc_iload_n (pc := 14) dX11_chain_14 rfl rfl ?_
    refine zc_callIp (pc := 15) [.ref 60, .int x1] rfl (zc_runV (ci := 11) (n0 := 0) (q := (RX11, TX11, 35)) zo_X11_chainOf ⟨Nat.le_of_ble_eq_true rfl, Nat.le_of_ble_eq_true rfl⟩ zw_1315 zw_1317 zs_48 rfl (by decide) rfl rfl dX11_chain_15) (Nat.le_of_ble_eq_true rfl) (fun _ hr => zt_X11_chainOf x1 h1 hr) (fun r3 => ?_)
    refine zc_goto (pc := 18) 22 dX11_chain_18 (by decide) ?_
    exact zc_iretK (pc := 22) dX11_chain_22 rfl ⟨_, rfl, rfl⟩
def zf_X11_leastOf (x0 : Int32) : Option Int64 :=
  (if x0 = 0 then some (-128 : Int64) else (if x0 = (1 : Int32) then some (-32768 : Int64) else some (-2147483648 : Int64)))
set_option maxRecDepth 100000 in
set_option maxHeartbeats 4000000 in
theorem zt_X11_leastOf (x0 : Int32) (h : zHp) {r : Int64} (hr : (zf_X11_leastOf x0) = some r) : zc_Cn zM_X11_leastOf [.int x0] h ((fun r => zc_mL (r, h)) r) := by
  refine zc_meth (mk := (fun r => zc_mL (r, h))) (o := (zf_X11_leastOf x0)) (by decide +kernel) (Nat.le_of_ble_eq_true rfl) ?_ hr
  unfold zf_X11_leastOf
  refine zc_sL (ls1 := [some (.int x0)]) rfl ?_
  refine zc_iload_n (pc := 0) dX11_leastOf_0 rfl rfl ?_
  refine zc_if_ne (pc := 1) 10 dX11_leastOf_1 (by decide) (fun _ => ?_) (fun _ => ?_)
  · refine zc_ldc2 (pc := 4) dX11_leastOf_4 zw_1343 ?_
    refine zc_goto (pc := 7) 24 dX11_leastOf_7 (by decide) ?_
    exact zc_lretK (pc := 24) dX11_leastOf_24 rfl ⟨_, rfl, rfl⟩
  · refine zc_iload_n (pc := 10) dX11_leastOf_10 rfl rfl ?_
    refine zc_iconst (pc := 11) (1 : Int32) dX11_leastOf_11 (by decide) ?_
    refine zc_icmp_ne (pc := 12) 21 dX11_leastOf_12 (by decide) (fun _ => ?_) (fun _ => ?_)
    · refine zc_ldc2 (pc := 15) dX11_leastOf_15 zw_1344 ?_
      refine zc_goto (pc := 18) 24 dX11_leastOf_18 (by decide) ?_
      exact zc_lretK (pc := 24) dX11_leastOf_24 rfl ⟨_, rfl, rfl⟩
    · refine zc_ldc2 (pc := 21) dX11_leastOf_21 zw_1345 ?_
      exact zc_lretK (pc := 24) dX11_leastOf_24 rfl ⟨_, rfl, rfl⟩
def zf_X11_isSkipped (x1 : Int32) (x2 : Int32) (h : zHp) : Option Int32 :=
  (if zc_ix (((100 : Int32) * x1) + x2) 800 then (if zc_ix x1 8 then ((zf_X11_leastOf (h.1 69 x1.toNatClampNeg)).bind (fun r3 => (if (lg_cmp (h.2 71 (((100 : Int32) * x1) + x2).toNatClampNeg) r3) = 0 then some (1 : Int32) else some (0 : Int32)))) else none) else none)
set_option maxRecDepth 100000 in
set_option maxHeartbeats 4000000 in
theorem zt_X11_isSkipped (x1 : Int32) (x2 : Int32) (h : zHp) {r : Int32} (hr : (zf_X11_isSkipped x1 x2 h) = some r) : zc_Cn zM_X11_isSkipped [.ref 60, .int x1, .int x2] h ((fun r => zc_mI (r, h)) r) := by
  refine zc_meth (mk := (fun r => zc_mI (r, h))) (o := (zf_X11_isSkipped x1 x2 h)) (by decide +kernel) (Nat.le_of_ble_eq_true rfl) ?_ hr
  unfold zf_X11_isSkipped
  refine zc_sL (ls1 := [some (.ref 60), some (.int x1), some (.int x2)]) rfl ?_
  refine zc_aload_n (pc := 0) dX11_isSkipped_0 rfl rfl ?_
  refine zc_getC (pc := 1) zF_X11_40 rfl dX11_isSkipped_1 ?_
  refine zc_bipush (pc := 4) (100 : Int32) dX11_isSkipped_4 (by decide) ?_
  refine zc_iload_n (pc := 6) dX11_isSkipped_6 rfl rfl ?_
  refine zc_imul (pc := 7) dX11_isSkipped_7 ?_
  refine zc_iload_n (pc := 8) dX11_isSkipped_8 rfl rfl ?_
  refine zc_iadd (pc := 9) dX11_isSkipped_9 ?_
  refine zc_guard (fun g1 => ?_)
  refine zc_aldl (pc := 10) rfl g1 dX11_isSkipped_10 ?_
  refine zc_aload_n (pc := 11) dX11_isSkipped_11 rfl rfl ?_
  refine zc_getC (pc := 12) zF_X11_34 rfl dX11_isSkipped_12 ?_
  refine zc_iload_n (pc := 15) dX11_isSkipped_15 rfl rfl ?_
  refine zc_guard (fun g2 => ?_)
  refine zc_aldi (pc := 16) rfl g2 dX11_isSkipped_16 ?_
  refine zc_callLp (pc := 17) [.int (h.1 69 x1.toNatClampNeg)] rfl (zc_runS zo_X11_leastOf ⟨Nat.le_of_ble_eq_true rfl, Nat.le_of_ble_eq_true rfl⟩ zw_1340 zw_1341 rfl dX11_isSkipped_17) (Nat.le_of_ble_eq_true rfl) (fun _ hr => zt_X11_leastOf (h.1 69 x1.toNatClampNeg) h hr) (fun r3 => ?_)
  refine zc_lcmp (pc := 20) dX11_isSkipped_20 ?_
  refine zc_if_ne (pc := 21) 28 dX11_isSkipped_21 (by decide) (fun _ => ?_) (fun _ => ?_)
  · refine zc_iconst (pc := 24) (1 : Int32) dX11_isSkipped_24 (by decide) ?_
    refine zc_goto (pc := 25) 29 dX11_isSkipped_25 (by decide) ?_
    exact zc_zretK (pc := 29) dX11_isSkipped_29 rfl (by decide) ⟨_, rfl, rfl⟩
  · refine zc_iconst (pc := 28) (0 : Int32) dX11_isSkipped_28 (by decide) ?_
    exact zc_zretK (pc := 29) dX11_isSkipped_29 rfl (by decide) ⟨_, rfl, rfl⟩
def zl_X11_isRow_5 (x1 : Int32) (x2 : Int32) : Nat → Int32 → Int32 → zHp → Option (Int32 × zHp)
  | 0, _, _, _ => none
  | fu + 1, y1, y2, h3 => (if zc_ix x1 8 then (if (h3.1 70 x1.toNatClampNeg) ≤ y2 then some (y1, h3) else (if y1 = 0 then some (y1, h3) else (((if 0 ≤ x2 then (if x2 = (7 : Int32) then ((zf_X11_allStock h3).bind (fun r5 => some r5)) else (if zc_ix x2 7 then some (h3.1 65 x2.toNatClampNeg) else none)) else some (h3.1 60 0)) : Option Int32).bind (fun v7 => ((zf_X11_isSkipped x1 y2 h3).bind (fun r8 => (((if r8 = 0 then (if zc_ix (((100 : Int32) * x1) + y2) 800 then (if (lg_cmp (h3.2 71 (((100 : Int32) * x1) + y2).toNatClampNeg) v7.toInt64) = 0 then some (1 : Int32) else some (0 : Int32)) else none) else some (1 : Int32)) : Option Int32).bind (fun v10 => ((zf_X11_dayBy (0 : Int32) h3).bind (fun r11 => zl_X11_isRow_5 x1 x2 fu v10 (y2 + (1 : Int32)) r11)))))))))) else none)
def zf_X11_isRow (x1 : Int32) (x2 : Int32) (h : zHp) : Option (Int32 × zHp) :=
  ((zl_X11_isRow_5 x1 x2 zFU (1 : Int32) (0 : Int32) h).bind (fun v12 => ((zf_X11_again v12.2).bind (fun r13 => (if zc_bo v12.1 then some (v12.1, r13) else none)))))
set_option maxRecDepth 100000 in
set_option maxHeartbeats 4000000 in
theorem zt_X11_isRow (x1 : Int32) (x2 : Int32) (h : zHp) {r : (Int32 × zHp)} (hr : (zf_X11_isRow x1 x2 h) = some r) : zc_Cn zM_X11_isRow [.ref 60, .int x1, .int x2] h (zc_mI r) := by
  refine zc_meth (mk := zc_mI) (o := (zf_X11_isRow x1 x2 h)) (by decide +kernel) (Nat.le_of_ble_eq_true rfl) ?_ hr
  unfold zf_X11_isRow
  refine zc_sL (ls1 := [some (.ref 60), some (.int x1), some (.int x2), none, none, none]) rfl ?_
  refine zc_iconst (pc := 0) (1 : Int32) dX11_isRow_0 (by decide) ?_
  refine zc_istore_n (pc := 1) dX11_isRow_1 rfl (Nat.le_of_ble_eq_true rfl) rfl (Nat.le_of_ble_eq_true rfl) ?_
  refine zc_sL (ls1 := [some (.ref 60), some (.int x1), some (.int x2), some (.int (1 : Int32)), none, none]) rfl ?_
  refine zc_iconst (pc := 2) (0 : Int32) dX11_isRow_2 (by decide) ?_
  refine zc_istore (pc := 3) dX11_isRow_3 (Nat.le_of_ble_eq_true rfl) rfl (Nat.le_of_ble_eq_true rfl) ?_
  refine zc_sL (ls1 := [some (.ref 60), some (.int x1), some (.int x2), some (.int (1 : Int32)), some (.int (0 : Int32)), none]) rfl ?_
  refine zc_sL (ls1 := [some (.ref 60), some (.int x1), some (.int x2), some (.int (1 : Int32)), some (.int (0 : Int32)), none]) rfl ?_
  refine zc_loop 98 (fun v12 => [some (.ref 60), none, none, some (.int v12.1), none, none]) (fun v12 => []) (fun v12 => v12.2) (fun v12 => ?_) (fun k15 J14 => ?_)
  · refine zc_aload_n (pc := 98) dX11_isRow_98 rfl rfl ?_
    refine zc_callV (pc := 99) [.ref 60] rfl (zc_runV (ci := 11) (n0 := 0) (q := (RX11, TX11, 35)) zo_X11_again ⟨Nat.le_of_ble_eq_true rfl, Nat.le_of_ble_eq_true rfl⟩ zw_1170 zw_1172 zs_39 rfl (by decide) rfl rfl dX11_isRow_99) (Nat.le_of_ble_eq_true rfl) (fun _ hr => zt_X11_again v12.2 hr) (fun r13 => ?_)
    refine zc_iload_n (pc := 102) dX11_isRow_102 rfl rfl ?_
    refine zc_guard (fun gz => ?_)
    exact zc_zretK (pc := 103) dX11_isRow_103 rfl (zc_bo_and gz) ⟨_, rfl, rfl⟩
  · have L17 : ∀ (fu : Nat) (y1 : Int32) (y2 : Int32) (h3 : zHp), zc_G zM_X11_isRow zc_mI 5 [some (.ref 60), some (.int x1), some (.int x2), some (.int y1), some (.int y2), none] [] h3 ((zl_X11_isRow_5 x1 x2 fu y1 y2 h3).bind k15) := by
        intro fu
        induction fu with
        | zero => intros; exact zc_noneb
        | succ fu ih18 =>
          intro y1 y2 h3
          unfold zl_X11_isRow_5
          refine zc_iload (pc := 5) dX11_isRow_5 rfl ?_
          refine zc_aload_n (pc := 7) dX11_isRow_7 rfl rfl ?_
          refine zc_getC (pc := 8) zF_X11_37 rfl dX11_isRow_8 ?_
          refine zc_iload_n (pc := 11) dX11_isRow_11 rfl rfl ?_
          refine zc_guard (fun g4 => ?_)
          refine zc_aldi (pc := 12) rfl g4 dX11_isRow_12 ?_
          refine zc_icmp_ge (pc := 13) 98 dX11_isRow_13 (by decide) (fun _ => ?_) (fun _ => ?_)
          · refine zc_drop 1 ?_
            refine zc_drop 2 ?_
            refine zc_drop 4 ?_
            exact J14 (y1, h3)
          · refine zc_iload_n (pc := 16) dX11_isRow_16 rfl rfl ?_
            refine zc_if_eq (pc := 17) 98 dX11_isRow_17 (by decide) (fun _ => ?_) (fun _ => ?_)
            · refine zc_drop 1 ?_
              refine zc_drop 2 ?_
              refine zc_drop 4 ?_
              exact J14 (y1, h3)
            · refine zc_iload_n (pc := 20) dX11_isRow_20 rfl rfl ?_
              refine zc_join 50 (fun v7 => [some (.ref 60), some (.int x1), some (.int x2), none, some (.int y2), none]) (fun v7 => [.int v7]) (fun v7 => h3) (fun v7 => ?_) (fun J19 => ?_)
              · refine zc_istore (pc := 50) dX11_isRow_50 (Nat.le_of_ble_eq_true rfl) rfl (Nat.le_of_ble_eq_true rfl) ?_
                refine zc_sL (ls1 := [some (.ref 60), some (.int x1), some (.int x2), none, some (.int y2), some (.int v7)]) rfl ?_
                refine zc_aload_n (pc := 52) dX11_isRow_52 rfl rfl ?_
                refine zc_iload_n (pc := 53) dX11_isRow_53 rfl rfl ?_
                refine zc_iload (pc := 54) dX11_isRow_54 rfl ?_
                refine zc_callIp (pc := 56) [.ref 60, .int x1, .int y2] rfl (zc_runV (ci := 11) (n0 := 0) (q := (RX11, TX11, 35)) zo_X11_isSkipped ⟨Nat.le_of_ble_eq_true rfl, Nat.le_of_ble_eq_true rfl⟩ zw_1336 zw_1338 zs_51 rfl (by decide) rfl rfl dX11_isRow_56) (Nat.le_of_ble_eq_true rfl) (fun _ hr => zt_X11_isSkipped x1 y2 h3 hr) (fun r8 => ?_)
                refine zc_join 86 (fun v10 => [some (.ref 60), some (.int x1), some (.int x2), none, some (.int y2), none]) (fun v10 => [.int v10]) (fun v10 => h3) (fun v10 => ?_) (fun J20 => ?_)
                · refine zc_istore_n (pc := 86) dX11_isRow_86 rfl (Nat.le_of_ble_eq_true rfl) rfl (Nat.le_of_ble_eq_true rfl) ?_
                  refine zc_sL (ls1 := [some (.ref 60), some (.int x1), some (.int x2), some (.int v10), some (.int y2), none]) rfl ?_
                  refine zc_aload_n (pc := 87) dX11_isRow_87 rfl rfl ?_
                  refine zc_iconst (pc := 88) (0 : Int32) dX11_isRow_88 (by decide) ?_
                  refine zc_callV (pc := 89) [.ref 60, .int (0 : Int32)] rfl (zc_runV (ci := 11) (n0 := 0) (q := (RX11, TX11, 35)) zo_X11_dayBy ⟨Nat.le_of_ble_eq_true rfl, Nat.le_of_ble_eq_true rfl⟩ zw_1132 zw_1134 zs_31 rfl (by decide) rfl rfl dX11_isRow_89) (Nat.le_of_ble_eq_true rfl) (fun _ hr => zt_X11_dayBy (0 : Int32) h3 hr) (fun r11 => ?_)
                  refine zc_iinc (pc := 92) (1 : Int32) dX11_isRow_92 (by decide) rfl (Nat.le_of_ble_eq_true rfl) rfl ?_
                  refine zc_sL (ls1 := [some (.ref 60), some (.int x1), some (.int x2), some (.int v10), some (.int (y2 + (1 : Int32))), none]) rfl ?_
                  refine zc_goto (pc := 95) 5 dX11_isRow_95 (by decide) ?_
                  exact ih18 v10 (y2 + (1 : Int32)) r11
                · refine zc_if_ne (pc := 59) 81 dX11_isRow_59 (by decide) (fun _ => ?_) (fun _ => ?_)
                  · refine zc_aload_n (pc := 62) dX11_isRow_62 rfl rfl ?_
                    refine zc_getC (pc := 63) zF_X11_40 rfl dX11_isRow_63 ?_
                    refine zc_bipush (pc := 66) (100 : Int32) dX11_isRow_66 (by decide) ?_
                    refine zc_iload_n (pc := 68) dX11_isRow_68 rfl rfl ?_
                    refine zc_imul (pc := 69) dX11_isRow_69 ?_
                    refine zc_iload (pc := 70) dX11_isRow_70 rfl ?_
                    refine zc_iadd (pc := 72) dX11_isRow_72 ?_
                    refine zc_guard (fun g9 => ?_)
                    refine zc_aldl (pc := 73) rfl g9 dX11_isRow_73 ?_
                    refine zc_iload (pc := 74) dX11_isRow_74 rfl ?_
                    refine zc_i2l (pc := 76) dX11_isRow_76 ?_
                    refine zc_lcmp (pc := 77) dX11_isRow_77 ?_
                    refine zc_if_ne (pc := 78) 85 dX11_isRow_78 (by decide) (fun _ => ?_) (fun _ => ?_)
                    · refine zc_iconst (pc := 81) (1 : Int32) dX11_isRow_81 (by decide) ?_
                      refine zc_goto (pc := 82) 86 dX11_isRow_82 (by decide) ?_
                      refine zc_drop 5 ?_
                      exact J20 (1 : Int32)
                    · refine zc_iconst (pc := 85) (0 : Int32) dX11_isRow_85 (by decide) ?_
                      refine zc_drop 5 ?_
                      exact J20 (0 : Int32)
                  · refine zc_iconst (pc := 81) (1 : Int32) dX11_isRow_81 (by decide) ?_
                    refine zc_goto (pc := 82) 86 dX11_isRow_82 (by decide) ?_
                    refine zc_drop 5 ?_
                    exact J20 (1 : Int32)
              · refine zc_if_ge (pc := 21) 31 dX11_isRow_21 (by decide) (fun _ => ?_) (fun _ => ?_)
                · refine zc_iload_n (pc := 31) dX11_isRow_31 rfl rfl ?_
                  refine zc_bipush (pc := 32) (7 : Int32) dX11_isRow_32 (by decide) ?_
                  refine zc_icmp_ne (pc := 34) 44 dX11_isRow_34 (by decide) (fun _ => ?_) (fun _ => ?_)
                  · refine zc_aload_n (pc := 37) dX11_isRow_37 rfl rfl ?_
                    refine zc_callIp (pc := 38) [.ref 60] rfl (zc_runV (ci := 11) (n0 := 0) (q := (RX11, TX11, 35)) zo_X11_allStock ⟨Nat.le_of_ble_eq_true rfl, Nat.le_of_ble_eq_true rfl⟩ zw_1221 zw_1223 zs_41 rfl (by decide) rfl rfl dX11_isRow_38) (Nat.le_of_ble_eq_true rfl) (fun _ hr => zt_X11_allStock h3 hr) (fun r5 => ?_)
                    refine zc_goto (pc := 41) 50 dX11_isRow_41 (by decide) ?_
                    refine zc_drop 3 ?_
                    exact J19 r5
                  · refine zc_aload_n (pc := 44) dX11_isRow_44 rfl rfl ?_
                    refine zc_getC (pc := 45) zF_X11_22 rfl dX11_isRow_45 ?_
                    refine zc_iload_n (pc := 48) dX11_isRow_48 rfl rfl ?_
                    refine zc_guard (fun g6 => ?_)
                    refine zc_aldi (pc := 49) rfl g6 dX11_isRow_49 ?_
                    refine zc_drop 3 ?_
                    exact J19 (h3.1 65 x2.toNatClampNeg)
                · refine zc_aload_n (pc := 24) dX11_isRow_24 rfl rfl ?_
                  refine zc_getI (pc := 25) zF_X11_91 rfl dX11_isRow_25 ?_
                  refine zc_goto (pc := 28) 50 dX11_isRow_28 (by decide) ?_
                  refine zc_drop 3 ?_
                  exact J19 (h3.1 60 0)
    exact L17 zFU (1 : Int32) (0 : Int32) h
def zl_X11_whereSat_61 (x1 : Int32) (y9 : Int32) : Nat → Int32 → Int32 → Int32 → Int32 → zHp → Option (Int32 × Int32 × Int32 × zHp)
  | 0, _, _, _, _, _ => none
  | fu + 1, y11, y12, y13, y14, h15 => (if (12 : Int32) ≤ y14 then some (y11, y12, y13, h15) else ((some (zc_ui h15 60 1 y9) : Option zHp).bind (fun h16 => ((some (zc_ui h16 60 2 y14) : Option zHp).bind (fun h17 => ((zf_X11_isRow x1 (-1 : Int32) h17).bind (fun r18 => (if r18.1 = 0 then zl_X11_whereSat_61 x1 y9 fu y11 y12 y13 (y14 + (1 : Int32)) r18.2 else (((if 0 ≤ y12 then some y12 else some (((100 : Int32) * y9) + y14)) : Option Int32).bind (fun v19 => ((some (((100 : Int32) * y9) + y14) : Option Int32).bind (fun v20 => zl_X11_whereSat_61 x1 y9 fu (y11 + (1 : Int32)) v19 v20 (y14 + (1 : Int32)) r18.2))))))))))))
def zl_X11_whereSat_51 (x1 : Int32) : Nat → Int32 → Int32 → Int32 → Int32 → zHp → Option (Int32 × Int32 × Int32 × zHp)
  | 0, _, _, _, _, _ => none
  | fu + 1, y6, y7, y8, y9, h10 => (if (6 : Int32) ≤ y9 then some (y6, y7, y8, h10) else ((zl_X11_whereSat_61 x1 y9 zFU y6 y7 y8 (0 : Int32) h10).bind (fun v21 => zl_X11_whereSat_51 x1 fu v21.1 v21.2.1 v21.2.2.1 (y9 + (1 : Int32)) v21.2.2.2)))
def zf_X11_whereSat (x1 : Int32) (x2 : Int32) (h : zHp) : Option (Int32 × zHp) :=
  ((some (zc_ui h 60 17 (0 : Int32)) : Option zHp).bind (fun h1 => ((zf_X11_in x2.toInt64 (0 : Int64) (2 : Int64)).bind (fun r2 => (((if r2 = 0 then some (-1 : Int32) else ((zf_X11_wrongRow x1 h1).bind (fun r3 => some r3))) : Option Int32).bind (fun v4 => (if 0 ≤ v4 then ((zf_X11_think h1).bind (fun r5 => ((zl_X11_whereSat_51 x1 zFU (0 : Int32) (-4 : Int32) (-4 : Int32) (0 : Int32) r5).bind (fun v22 => (if x2 = 0 then some (v22.1, v22.2.2.2) else (if x2 = (1 : Int32) then some (v22.2.1, v22.2.2.2) else some (v22.2.2.1, v22.2.2.2))))))) else some (v4, h1))))))))
set_option maxRecDepth 100000 in
set_option maxHeartbeats 4000000 in
theorem zt_X11_whereSat (x1 : Int32) (x2 : Int32) (h : zHp) {r : (Int32 × zHp)} (hr : (zf_X11_whereSat x1 x2 h) = some r) : zc_Cn zM_X11_whereSat [.ref 60, .int x1, .int x2] h (zc_mI r) := by
  refine zc_meth (mk := zc_mI) (o := (zf_X11_whereSat x1 x2 h)) (by decide +kernel) (Nat.le_of_ble_eq_true rfl) ?_ hr
  unfold zf_X11_whereSat
  refine zc_sL (ls1 := [some (.ref 60), some (.int x1), some (.int x2), none, none, none, none, none, none]) rfl ?_
  refine zc_aload_n (pc := 0) dX11_whereSat_0 rfl rfl ?_
  refine zc_iconst (pc := 1) (0 : Int32) dX11_whereSat_1 (by decide) ?_
  refine zc_putI (pc := 2) zF_X11_68 rfl dX11_whereSat_2 ?_
  refine zc_letH (fun h1 _ => ?_)
  refine zc_iload_n (pc := 5) dX11_whereSat_5 rfl rfl ?_
  refine zc_i2l (pc := 6) dX11_whereSat_6 ?_
  refine zc_lconst (pc := 7) (0 : Int64) dX11_whereSat_7 (by decide) ?_
  refine zc_ldc2 (pc := 8) dX11_whereSat_8 zw_1331 ?_
  refine zc_callIp (pc := 11) [.long x2.toInt64, .long (0 : Int64), .long (2 : Int64)] rfl (zc_runS zo_X11_in ⟨Nat.le_of_ble_eq_true rfl, Nat.le_of_ble_eq_true rfl⟩ zw_1071 zw_1072 rfl dX11_whereSat_11) (Nat.le_of_ble_eq_true rfl) (fun _ hr => zt_X11_in x2.toInt64 (0 : Int64) (2 : Int64) h1 hr) (fun r2 => ?_)
  refine zc_join 26 (fun v4 => [some (.ref 60), some (.int x1), some (.int x2), none, none, none, none, none, none]) (fun v4 => [.int v4]) (fun v4 => h1) (fun v4 => ?_) (fun J23 => ?_)
  · refine zc_istore_n (pc := 26) dX11_whereSat_26 rfl (Nat.le_of_ble_eq_true rfl) rfl (Nat.le_of_ble_eq_true rfl) ?_
    refine zc_sL (ls1 := [some (.ref 60), some (.int x1), some (.int x2), some (.int v4), none, none, none, none, none]) rfl ?_
    refine zc_iload_n (pc := 27) dX11_whereSat_27 rfl rfl ?_
    refine zc_if_ge (pc := 28) 33 dX11_whereSat_28 (by decide) (fun _ => ?_) (fun _ => ?_)
    · refine zc_iconst (pc := 33) (0 : Int32) dX11_whereSat_33 (by decide) ?_
      refine zc_istore (pc := 34) dX11_whereSat_34 (Nat.le_of_ble_eq_true rfl) rfl (Nat.le_of_ble_eq_true rfl) ?_
      refine zc_sL (ls1 := [some (.ref 60), some (.int x1), some (.int x2), some (.int v4), some (.int (0 : Int32)), none, none, none, none]) rfl ?_
      refine zc_bipush (pc := 36) (-4 : Int32) dX11_whereSat_36 (by decide) ?_
      refine zc_istore (pc := 38) dX11_whereSat_38 (Nat.le_of_ble_eq_true rfl) rfl (Nat.le_of_ble_eq_true rfl) ?_
      refine zc_sL (ls1 := [some (.ref 60), some (.int x1), some (.int x2), some (.int v4), some (.int (0 : Int32)), some (.int (-4 : Int32)), none, none, none]) rfl ?_
      refine zc_bipush (pc := 40) (-4 : Int32) dX11_whereSat_40 (by decide) ?_
      refine zc_istore (pc := 42) dX11_whereSat_42 (Nat.le_of_ble_eq_true rfl) rfl (Nat.le_of_ble_eq_true rfl) ?_
      refine zc_sL (ls1 := [some (.ref 60), some (.int x1), some (.int x2), some (.int v4), some (.int (0 : Int32)), some (.int (-4 : Int32)), some (.int (-4 : Int32)), none, none]) rfl ?_
      refine zc_aload_n (pc := 44) dX11_whereSat_44 rfl rfl ?_
      refine zc_callV (pc := 45) [.ref 60] rfl (zc_runV (ci := 11) (n0 := 0) (q := (RX11, TX11, 35)) zo_X11_think ⟨Nat.le_of_ble_eq_true rfl, Nat.le_of_ble_eq_true rfl⟩ zw_1095 zw_1097 zs_23 rfl (by decide) rfl rfl dX11_whereSat_45) (Nat.le_of_ble_eq_true rfl) (fun _ hr => zt_X11_think h1 hr) (fun r5 => ?_)
      refine zc_iconst (pc := 48) (0 : Int32) dX11_whereSat_48 (by decide) ?_
      refine zc_istore (pc := 49) dX11_whereSat_49 (Nat.le_of_ble_eq_true rfl) rfl (Nat.le_of_ble_eq_true rfl) ?_
      refine zc_sL (ls1 := [some (.ref 60), some (.int x1), some (.int x2), some (.int v4), some (.int (0 : Int32)), some (.int (-4 : Int32)), some (.int (-4 : Int32)), some (.int (0 : Int32)), none]) rfl ?_
      refine zc_drop 3 ?_
      refine zc_sL (ls1 := [some (.ref 60), some (.int x1), some (.int x2), none, some (.int (0 : Int32)), some (.int (-4 : Int32)), some (.int (-4 : Int32)), some (.int (0 : Int32)), none]) rfl ?_
      refine zc_loop 134 (fun v22 => [none, none, some (.int x2), none, some (.int v22.1), some (.int v22.2.1), some (.int v22.2.2.1), none, none]) (fun v22 => []) (fun v22 => v22.2.2.2) (fun v22 => ?_) (fun k25 J24 => ?_)
      · refine zc_iload_n (pc := 134) dX11_whereSat_134 rfl rfl ?_
        refine zc_if_ne (pc := 135) 143 dX11_whereSat_135 (by decide) (fun _ => ?_) (fun _ => ?_)
        · refine zc_iload (pc := 138) dX11_whereSat_138 rfl ?_
          refine zc_goto (pc := 140) 155 dX11_whereSat_140 (by decide) ?_
          exact zc_iretK (pc := 155) dX11_whereSat_155 rfl ⟨_, rfl, rfl⟩
        · refine zc_iload_n (pc := 143) dX11_whereSat_143 rfl rfl ?_
          refine zc_iconst (pc := 144) (1 : Int32) dX11_whereSat_144 (by decide) ?_
          refine zc_icmp_ne (pc := 145) 153 dX11_whereSat_145 (by decide) (fun _ => ?_) (fun _ => ?_)
          · refine zc_iload (pc := 148) dX11_whereSat_148 rfl ?_
            refine zc_goto (pc := 150) 155 dX11_whereSat_150 (by decide) ?_
            exact zc_iretK (pc := 155) dX11_whereSat_155 rfl ⟨_, rfl, rfl⟩
          · refine zc_iload (pc := 153) dX11_whereSat_153 rfl ?_
            exact zc_iretK (pc := 155) dX11_whereSat_155 rfl ⟨_, rfl, rfl⟩
      · have L27 : ∀ (fu : Nat) (y6 : Int32) (y7 : Int32) (y8 : Int32) (y9 : Int32) (h10 : zHp), zc_G zM_X11_whereSat zc_mI 51 [some (.ref 60), some (.int x1), some (.int x2), none, some (.int y6), some (.int y7), some (.int y8), some (.int y9), none] [] h10 ((zl_X11_whereSat_51 x1 fu y6 y7 y8 y9 h10).bind k25) := by
            intro fu
            induction fu with
            | zero => intros; exact zc_noneb
            | succ fu ih28 =>
              intro y6 y7 y8 y9 h10
              unfold zl_X11_whereSat_51
              refine zc_iload (pc := 51) dX11_whereSat_51 rfl ?_
              refine zc_bipush (pc := 53) (6 : Int32) dX11_whereSat_53 (by decide) ?_
              refine zc_icmp_ge (pc := 55) 134 dX11_whereSat_55 (by decide) (fun _ => ?_) (fun _ => ?_)
              · refine zc_drop 0 ?_
                refine zc_drop 1 ?_
                refine zc_drop 7 ?_
                exact J24 (y6, y7, y8, h10)
              · refine zc_iconst (pc := 58) (0 : Int32) dX11_whereSat_58 (by decide) ?_
                refine zc_istore (pc := 59) dX11_whereSat_59 (Nat.le_of_ble_eq_true rfl) rfl (Nat.le_of_ble_eq_true rfl) ?_
                refine zc_sL (ls1 := [some (.ref 60), some (.int x1), some (.int x2), none, some (.int y6), some (.int y7), some (.int y8), some (.int y9), some (.int (0 : Int32))]) rfl ?_
                refine zc_sL (ls1 := [some (.ref 60), some (.int x1), some (.int x2), none, some (.int y6), some (.int y7), some (.int y8), some (.int y9), some (.int (0 : Int32))]) rfl ?_
                refine zc_loop 128 (fun v21 => [some (.ref 60), some (.int x1), some (.int x2), none, some (.int v21.1), some (.int v21.2.1), some (.int v21.2.2.1), some (.int y9), none]) (fun v21 => []) (fun v21 => v21.2.2.2) (fun v21 => ?_) (fun k30 J29 => ?_)
                · refine zc_iinc (pc := 128) (1 : Int32) dX11_whereSat_128 (by decide) rfl (Nat.le_of_ble_eq_true rfl) rfl ?_
                  refine zc_sL (ls1 := [some (.ref 60), some (.int x1), some (.int x2), none, some (.int v21.1), some (.int v21.2.1), some (.int v21.2.2.1), some (.int (y9 + (1 : Int32))), none]) rfl ?_
                  refine zc_goto (pc := 131) 51 dX11_whereSat_131 (by decide) ?_
                  exact ih28 v21.1 v21.2.1 v21.2.2.1 (y9 + (1 : Int32)) v21.2.2.2
                · have L32 : ∀ (fu : Nat) (y11 : Int32) (y12 : Int32) (y13 : Int32) (y14 : Int32) (h15 : zHp), zc_G zM_X11_whereSat zc_mI 61 [some (.ref 60), some (.int x1), some (.int x2), none, some (.int y11), some (.int y12), some (.int y13), some (.int y9), some (.int y14)] [] h15 ((zl_X11_whereSat_61 x1 y9 fu y11 y12 y13 y14 h15).bind k30) := by
                      intro fu
                      induction fu with
                      | zero => intros; exact zc_noneb
                      | succ fu ih33 =>
                        intro y11 y12 y13 y14 h15
                        unfold zl_X11_whereSat_61
                        refine zc_iload (pc := 61) dX11_whereSat_61 rfl ?_
                        refine zc_bipush (pc := 63) (12 : Int32) dX11_whereSat_63 (by decide) ?_
                        refine zc_icmp_ge (pc := 65) 128 dX11_whereSat_65 (by decide) (fun _ => ?_) (fun _ => ?_)
                        · refine zc_drop 8 ?_
                          exact J29 (y11, y12, y13, h15)
                        · refine zc_aload_n (pc := 68) dX11_whereSat_68 rfl rfl ?_
                          refine zc_iload (pc := 69) dX11_whereSat_69 rfl ?_
                          refine zc_putI (pc := 71) zF_X11_72 rfl dX11_whereSat_71 ?_
                          refine zc_letH (fun h16 _ => ?_)
                          refine zc_aload_n (pc := 74) dX11_whereSat_74 rfl rfl ?_
                          refine zc_iload (pc := 75) dX11_whereSat_75 rfl ?_
                          refine zc_putI (pc := 77) zF_X11_75 rfl dX11_whereSat_77 ?_
                          refine zc_letH (fun h17 _ => ?_)
                          refine zc_aload_n (pc := 80) dX11_whereSat_80 rfl rfl ?_
                          refine zc_iload_n (pc := 81) dX11_whereSat_81 rfl rfl ?_
                          refine zc_iconst (pc := 82) (-1 : Int32) dX11_whereSat_82 (by decide) ?_
                          refine zc_callI (pc := 83) [.ref 60, .int x1, .int (-1 : Int32)] rfl (zc_runV (ci := 11) (n0 := 0) (q := (RX11, TX11, 35)) zo_X11_isRow ⟨Nat.le_of_ble_eq_true rfl, Nat.le_of_ble_eq_true rfl⟩ zw_1332 zw_1334 zs_50 rfl (by decide) rfl rfl dX11_whereSat_83) (Nat.le_of_ble_eq_true rfl) (fun _ hr => zt_X11_isRow x1 (-1 : Int32) h17 hr) (fun r18 => ?_)
                          refine zc_if_eq (pc := 86) 122 dX11_whereSat_86 (by decide) (fun _ => ?_) (fun _ => ?_)
                          · refine zc_iinc (pc := 122) (1 : Int32) dX11_whereSat_122 (by decide) rfl (Nat.le_of_ble_eq_true rfl) rfl ?_
                            refine zc_sL (ls1 := [some (.ref 60), some (.int x1), some (.int x2), none, some (.int y11), some (.int y12), some (.int y13), some (.int y9), some (.int (y14 + (1 : Int32)))]) rfl ?_
                            refine zc_goto (pc := 125) 61 dX11_whereSat_125 (by decide) ?_
                            exact ih33 y11 y12 y13 (y14 + (1 : Int32)) r18.2
                          · refine zc_iinc (pc := 89) (1 : Int32) dX11_whereSat_89 (by decide) rfl (Nat.le_of_ble_eq_true rfl) rfl ?_
                            refine zc_sL (ls1 := [some (.ref 60), some (.int x1), some (.int x2), none, some (.int (y11 + (1 : Int32))), some (.int y12), some (.int y13), some (.int y9), some (.int y14)]) rfl ?_
                            refine zc_iload (pc := 92) dX11_whereSat_92 rfl ?_
                            refine zc_join 110 (fun v19 => [some (.ref 60), some (.int x1), some (.int x2), none, some (.int (y11 + (1 : Int32))), none, none, some (.int y9), some (.int y14)]) (fun v19 => [.int v19]) (fun v19 => r18.2) (fun v19 => ?_) (fun J34 => ?_)
                            · refine zc_istore (pc := 110) dX11_whereSat_110 (Nat.le_of_ble_eq_true rfl) rfl (Nat.le_of_ble_eq_true rfl) ?_
                              refine zc_sL (ls1 := [some (.ref 60), some (.int x1), some (.int x2), none, some (.int (y11 + (1 : Int32))), some (.int v19), none, some (.int y9), some (.int y14)]) rfl ?_
                              refine zc_bipush (pc := 112) (100 : Int32) dX11_whereSat_112 (by decide) ?_
                              refine zc_iload (pc := 114) dX11_whereSat_114 rfl ?_
                              refine zc_imul (pc := 116) dX11_whereSat_116 ?_
                              refine zc_iload (pc := 117) dX11_whereSat_117 rfl ?_
                              refine zc_iadd (pc := 119) dX11_whereSat_119 ?_
                              refine zc_letI (fun v20 _ => ?_)
                              refine zc_istore (pc := 120) dX11_whereSat_120 (Nat.le_of_ble_eq_true rfl) rfl (Nat.le_of_ble_eq_true rfl) ?_
                              refine zc_sL (ls1 := [some (.ref 60), some (.int x1), some (.int x2), none, some (.int (y11 + (1 : Int32))), some (.int v19), some (.int v20), some (.int y9), some (.int y14)]) rfl ?_
                              refine zc_iinc (pc := 122) (1 : Int32) dX11_whereSat_122 (by decide) rfl (Nat.le_of_ble_eq_true rfl) rfl ?_
                              refine zc_sL (ls1 := [some (.ref 60), some (.int x1), some (.int x2), none, some (.int (y11 + (1 : Int32))), some (.int v19), some (.int v20), some (.int y9), some (.int (y14 + (1 : Int32)))]) rfl ?_
                              refine zc_goto (pc := 125) 61 dX11_whereSat_125 (by decide) ?_
                              exact ih33 (y11 + (1 : Int32)) v19 v20 (y14 + (1 : Int32)) r18.2
                            · refine zc_if_ge (pc := 94) 108 dX11_whereSat_94 (by decide) (fun _ => ?_) (fun _ => ?_)
                              · refine zc_iload (pc := 108) dX11_whereSat_108 rfl ?_
                                refine zc_drop 5 ?_
                                refine zc_drop 6 ?_
                                exact J34 y12
                              · refine zc_bipush (pc := 97) (100 : Int32) dX11_whereSat_97 (by decide) ?_
                                refine zc_iload (pc := 99) dX11_whereSat_99 rfl ?_
                                refine zc_imul (pc := 101) dX11_whereSat_101 ?_
                                refine zc_iload (pc := 102) dX11_whereSat_102 rfl ?_
                                refine zc_iadd (pc := 104) dX11_whereSat_104 ?_
                                refine zc_goto (pc := 105) 110 dX11_whereSat_105 (by decide) ?_
                                refine zc_drop 5 ?_
                                refine zc_drop 6 ?_
                                exact J34 (((100 : Int32) * y9) + y14)
                  exact L32 zFU y6 y7 y8 (0 : Int32) h10
        exact L27 zFU (0 : Int32) (-4 : Int32) (-4 : Int32) (0 : Int32) r5
    · refine zc_iload_n (pc := 31) dX11_whereSat_31 rfl rfl ?_
      exact zc_iretK (pc := 32) dX11_whereSat_32 rfl ⟨_, rfl, rfl⟩
  · refine zc_if_eq (pc := 14) 25 dX11_whereSat_14 (by decide) (fun _ => ?_) (fun _ => ?_)
    · refine zc_iconst (pc := 25) (-1 : Int32) dX11_whereSat_25 (by decide) ?_
      exact J23 (-1 : Int32)
    · refine zc_aload_n (pc := 17) dX11_whereSat_17 rfl rfl ?_
      refine zc_iload_n (pc := 18) dX11_whereSat_18 rfl rfl ?_
      refine zc_callIp (pc := 19) [.ref 60, .int x1] rfl (zc_runV (ci := 11) (n0 := 0) (q := (RX11, TX11, 35)) zo_X11_wrongRow ⟨Nat.le_of_ble_eq_true rfl, Nat.le_of_ble_eq_true rfl⟩ zw_1066 zw_1068 zs_18 rfl (by decide) rfl rfl dX11_whereSat_19) (Nat.le_of_ble_eq_true rfl) (fun _ hr => zt_X11_wrongRow x1 h1 hr) (fun r3 => ?_)
      refine zc_goto (pc := 22) 26 dX11_whereSat_22 (by decide) ?_
      exact J23 r3
def zl_X11_whatIs_52 (x1 : Int32) (x2 : Int32) (x3 : Int32) : Nat → Int32 → Int32 → zHp → Option (Int32 × zHp)
  | 0, _, _, _ => none
  | fu + 1, y7, y8, h9 => (((if x3 = 0 then some (8 : Int32) else some (10 : Int32)) : Option Int32).bind (fun v10 => (if v10 ≤ y8 then some (y7, h9) else (((if x3 = 0 then some y8 else (if zc_ix x2 7 then some (h9.1 61 x2.toNatClampNeg) else none)) : Option Int32).bind (fun v12 => (if zc_ix x2 7 then ((some (zc_ui h9 61 x2.toNatClampNeg v12) : Option zHp).bind (fun h14 => (((if x3 = (1 : Int32) then some y8 else (if zc_ix x2 7 then some (h14.1 62 x2.toNatClampNeg) else none)) : Option Int32).bind (fun v16 => (if zc_ix x2 7 then ((some (zc_ui h14 62 x2.toNatClampNeg v16) : Option zHp).bind (fun h18 => ((zf_X11_isRow x1 x2 h18).bind (fun r19 => (((if r19.1 = 0 then some (0 : Int32) else some ((1 : Int32) <<< (y8 &&& 31))) : Option Int32).bind (fun v20 => zl_X11_whatIs_52 x1 x2 x3 fu (y7 ||| v20) (y8 + (1 : Int32)) r19.2)))))) else none))))) else none))))))
def zf_X11_whatIs (x1 : Int32) (x2 : Int32) (x3 : Int32) (h : zHp) : Option (Int32 × zHp) :=
  ((some (zc_ui h 60 17 (0 : Int32)) : Option zHp).bind (fun h1 => ((zf_X11_isOne x2 h1).bind (fun r2 => (((if r2 = 0 then some (-1 : Int32) else ((zf_X11_in x3.toInt64 (0 : Int64) (1 : Int64)).bind (fun r3 => (if r3 = 0 then some (-1 : Int32) else ((zf_X11_wrongRow x1 h1).bind (fun r4 => some r4)))))) : Option Int32).bind (fun v5 => (if 0 ≤ v5 then ((zf_X11_think h1).bind (fun r6 => ((zl_X11_whatIs_52 x1 x2 x3 zFU (0 : Int32) (0 : Int32) r6).bind (fun v21 => some (v21.1, v21.2))))) else some (v5, h1))))))))
set_option maxRecDepth 100000 in
set_option maxHeartbeats 4000000 in
theorem zt_X11_whatIs (x1 : Int32) (x2 : Int32) (x3 : Int32) (h : zHp) {r : (Int32 × zHp)} (hr : (zf_X11_whatIs x1 x2 x3 h) = some r) : zc_Cn zM_X11_whatIs [.ref 60, .int x1, .int x2, .int x3] h (zc_mI r) := by
  refine zc_meth (mk := zc_mI) (o := (zf_X11_whatIs x1 x2 x3 h)) (by decide +kernel) (Nat.le_of_ble_eq_true rfl) ?_ hr
  unfold zf_X11_whatIs
  refine zc_sL (ls1 := [some (.ref 60), some (.int x1), some (.int x2), some (.int x3), none, none, none]) rfl ?_
  refine zc_aload_n (pc := 0) dX11_whatIs_0 rfl rfl ?_
  refine zc_iconst (pc := 1) (0 : Int32) dX11_whatIs_1 (by decide) ?_
  refine zc_putI (pc := 2) zF_X11_68 rfl dX11_whatIs_2 ?_
  refine zc_letH (fun h1 _ => ?_)
  refine zc_aload_n (pc := 5) dX11_whatIs_5 rfl rfl ?_
  refine zc_iload_n (pc := 6) dX11_whatIs_6 rfl rfl ?_
  refine zc_callIp (pc := 7) [.ref 60, .int x2] rfl (zc_runV (ci := 11) (n0 := 0) (q := (RX11, TX11, 35)) zo_X11_isOne ⟨Nat.le_of_ble_eq_true rfl, Nat.le_of_ble_eq_true rfl⟩ zw_1119 zw_1121 zs_28 rfl (by decide) rfl rfl dX11_whatIs_7) (Nat.le_of_ble_eq_true rfl) (fun _ hr => zt_X11_isOne x2 h1 hr) (fun r2 => ?_)
  refine zc_join 32 (fun v5 => [some (.ref 60), some (.int x1), some (.int x2), some (.int x3), none, none, none]) (fun v5 => [.int v5]) (fun v5 => h1) (fun v5 => ?_) (fun J22 => ?_)
  · refine zc_istore (pc := 32) dX11_whatIs_32 (Nat.le_of_ble_eq_true rfl) rfl (Nat.le_of_ble_eq_true rfl) ?_
    refine zc_sL (ls1 := [some (.ref 60), some (.int x1), some (.int x2), some (.int x3), some (.int v5), none, none]) rfl ?_
    refine zc_iload (pc := 34) dX11_whatIs_34 rfl ?_
    refine zc_if_ge (pc := 36) 42 dX11_whatIs_36 (by decide) (fun _ => ?_) (fun _ => ?_)
    · refine zc_iconst (pc := 42) (0 : Int32) dX11_whatIs_42 (by decide) ?_
      refine zc_istore (pc := 43) dX11_whatIs_43 (Nat.le_of_ble_eq_true rfl) rfl (Nat.le_of_ble_eq_true rfl) ?_
      refine zc_sL (ls1 := [some (.ref 60), some (.int x1), some (.int x2), some (.int x3), some (.int v5), some (.int (0 : Int32)), none]) rfl ?_
      refine zc_aload_n (pc := 45) dX11_whatIs_45 rfl rfl ?_
      refine zc_callV (pc := 46) [.ref 60] rfl (zc_runV (ci := 11) (n0 := 0) (q := (RX11, TX11, 35)) zo_X11_think ⟨Nat.le_of_ble_eq_true rfl, Nat.le_of_ble_eq_true rfl⟩ zw_1095 zw_1097 zs_23 rfl (by decide) rfl rfl dX11_whatIs_46) (Nat.le_of_ble_eq_true rfl) (fun _ hr => zt_X11_think h1 hr) (fun r6 => ?_)
      refine zc_iconst (pc := 49) (0 : Int32) dX11_whatIs_49 (by decide) ?_
      refine zc_istore (pc := 50) dX11_whatIs_50 (Nat.le_of_ble_eq_true rfl) rfl (Nat.le_of_ble_eq_true rfl) ?_
      refine zc_sL (ls1 := [some (.ref 60), some (.int x1), some (.int x2), some (.int x3), some (.int v5), some (.int (0 : Int32)), some (.int (0 : Int32))]) rfl ?_
      refine zc_drop 4 ?_
      refine zc_sL (ls1 := [some (.ref 60), some (.int x1), some (.int x2), some (.int x3), none, some (.int (0 : Int32)), some (.int (0 : Int32))]) rfl ?_
      refine zc_loop 139 (fun v21 => [none, none, none, none, none, some (.int v21.1), none]) (fun v21 => []) (fun v21 => v21.2) (fun v21 => ?_) (fun k24 J23 => ?_)
      · refine zc_iload (pc := 139) dX11_whatIs_139 rfl ?_
        exact zc_iretK (pc := 141) dX11_whatIs_141 rfl ⟨_, rfl, rfl⟩
      · have L26 : ∀ (fu : Nat) (y7 : Int32) (y8 : Int32) (h9 : zHp), zc_G zM_X11_whatIs zc_mI 52 [some (.ref 60), some (.int x1), some (.int x2), some (.int x3), none, some (.int y7), some (.int y8)] [] h9 ((zl_X11_whatIs_52 x1 x2 x3 fu y7 y8 h9).bind k24) := by
            intro fu
            induction fu with
            | zero => intros; exact zc_noneb
            | succ fu ih27 =>
              intro y7 y8 h9
              unfold zl_X11_whatIs_52
              refine zc_iload (pc := 52) dX11_whatIs_52 rfl ?_
              refine zc_iload_n (pc := 54) dX11_whatIs_54 rfl rfl ?_
              refine zc_join 65 (fun v10 => [some (.ref 60), some (.int x1), some (.int x2), some (.int x3), none, some (.int y7), some (.int y8)]) (fun v10 => [.int v10, .int y8]) (fun v10 => h9) (fun v10 => ?_) (fun J28 => ?_)
              · refine zc_icmp_ge (pc := 65) 139 dX11_whatIs_65 (by decide) (fun _ => ?_) (fun _ => ?_)
                · refine zc_drop 0 ?_
                  refine zc_drop 1 ?_
                  refine zc_drop 2 ?_
                  refine zc_drop 3 ?_
                  refine zc_drop 6 ?_
                  exact J23 (y7, h9)
                · refine zc_aload_n (pc := 68) dX11_whatIs_68 rfl rfl ?_
                  refine zc_getC (pc := 69) zF_X11_7 rfl dX11_whatIs_69 ?_
                  refine zc_iload_n (pc := 72) dX11_whatIs_72 rfl rfl ?_
                  refine zc_iload_n (pc := 73) dX11_whatIs_73 rfl rfl ?_
                  refine zc_join 88 (fun v12 => [some (.ref 60), some (.int x1), some (.int x2), some (.int x3), none, some (.int y7), some (.int y8)]) (fun v12 => [.int v12, .int x2, .ref 61]) (fun v12 => h9) (fun v12 => ?_) (fun J29 => ?_)
                  · refine zc_guard (fun g13 => ?_)
                    refine zc_asti (pc := 88) rfl g13 dX11_whatIs_88 ?_
                    refine zc_letH (fun h14 _ => ?_)
                    refine zc_aload_n (pc := 89) dX11_whatIs_89 rfl rfl ?_
                    refine zc_getC (pc := 90) zF_X11_13 rfl dX11_whatIs_90 ?_
                    refine zc_iload_n (pc := 93) dX11_whatIs_93 rfl rfl ?_
                    refine zc_iload_n (pc := 94) dX11_whatIs_94 rfl rfl ?_
                    refine zc_iconst (pc := 95) (1 : Int32) dX11_whatIs_95 (by decide) ?_
                    refine zc_join 110 (fun v16 => [some (.ref 60), some (.int x1), some (.int x2), some (.int x3), none, some (.int y7), some (.int y8)]) (fun v16 => [.int v16, .int x2, .ref 62]) (fun v16 => h14) (fun v16 => ?_) (fun J30 => ?_)
                    · refine zc_guard (fun g17 => ?_)
                      refine zc_asti (pc := 110) rfl g17 dX11_whatIs_110 ?_
                      refine zc_letH (fun h18 _ => ?_)
                      refine zc_iload (pc := 111) dX11_whatIs_111 rfl ?_
                      refine zc_aload_n (pc := 113) dX11_whatIs_113 rfl rfl ?_
                      refine zc_iload_n (pc := 114) dX11_whatIs_114 rfl rfl ?_
                      refine zc_iload_n (pc := 115) dX11_whatIs_115 rfl rfl ?_
                      refine zc_callI (pc := 116) [.ref 60, .int x1, .int x2] rfl (zc_runV (ci := 11) (n0 := 0) (q := (RX11, TX11, 35)) zo_X11_isRow ⟨Nat.le_of_ble_eq_true rfl, Nat.le_of_ble_eq_true rfl⟩ zw_1332 zw_1334 zs_50 rfl (by decide) rfl rfl dX11_whatIs_116) (Nat.le_of_ble_eq_true rfl) (fun _ hr => zt_X11_isRow x1 x2 h18 hr) (fun r19 => ?_)
                      refine zc_join 130 (fun v20 => [some (.ref 60), some (.int x1), some (.int x2), some (.int x3), none, none, some (.int y8)]) (fun v20 => [.int v20, .int y7]) (fun v20 => r19.2) (fun v20 => ?_) (fun J31 => ?_)
                      · refine zc_ior (pc := 130) dX11_whatIs_130 ?_
                        refine zc_istore (pc := 131) dX11_whatIs_131 (Nat.le_of_ble_eq_true rfl) rfl (Nat.le_of_ble_eq_true rfl) ?_
                        refine zc_sL (ls1 := [some (.ref 60), some (.int x1), some (.int x2), some (.int x3), none, some (.int (y7 ||| v20)), some (.int y8)]) rfl ?_
                        refine zc_iinc (pc := 133) (1 : Int32) dX11_whatIs_133 (by decide) rfl (Nat.le_of_ble_eq_true rfl) rfl ?_
                        refine zc_sL (ls1 := [some (.ref 60), some (.int x1), some (.int x2), some (.int x3), none, some (.int (y7 ||| v20)), some (.int (y8 + (1 : Int32)))]) rfl ?_
                        refine zc_goto (pc := 136) 52 dX11_whatIs_136 (by decide) ?_
                        exact ih27 (y7 ||| v20) (y8 + (1 : Int32)) r19.2
                      · refine zc_if_eq (pc := 119) 129 dX11_whatIs_119 (by decide) (fun _ => ?_) (fun _ => ?_)
                        · refine zc_iconst (pc := 129) (0 : Int32) dX11_whatIs_129 (by decide) ?_
                          refine zc_drop 5 ?_
                          exact J31 (0 : Int32)
                        · refine zc_iconst (pc := 122) (1 : Int32) dX11_whatIs_122 (by decide) ?_
                          refine zc_iload (pc := 123) dX11_whatIs_123 rfl ?_
                          refine zc_ishl (pc := 125) dX11_whatIs_125 ?_
                          refine zc_goto (pc := 126) 130 dX11_whatIs_126 (by decide) ?_
                          refine zc_drop 5 ?_
                          exact J31 ((1 : Int32) <<< (y8 &&& 31))
                    · refine zc_icmp_ne (pc := 96) 104 dX11_whatIs_96 (by decide) (fun _ => ?_) (fun _ => ?_)
                      · refine zc_iload (pc := 99) dX11_whatIs_99 rfl ?_
                        refine zc_goto (pc := 101) 110 dX11_whatIs_101 (by decide) ?_
                        exact J30 y8
                      · refine zc_aload_n (pc := 104) dX11_whatIs_104 rfl rfl ?_
                        refine zc_getC (pc := 105) zF_X11_13 rfl dX11_whatIs_105 ?_
                        refine zc_iload_n (pc := 108) dX11_whatIs_108 rfl rfl ?_
                        refine zc_guard (fun g15 => ?_)
                        refine zc_aldi (pc := 109) rfl g15 dX11_whatIs_109 ?_
                        exact J30 (h14.1 62 x2.toNatClampNeg)
                  · refine zc_if_ne (pc := 74) 82 dX11_whatIs_74 (by decide) (fun _ => ?_) (fun _ => ?_)
                    · refine zc_iload (pc := 77) dX11_whatIs_77 rfl ?_
                      refine zc_goto (pc := 79) 88 dX11_whatIs_79 (by decide) ?_
                      exact J29 y8
                    · refine zc_aload_n (pc := 82) dX11_whatIs_82 rfl rfl ?_
                      refine zc_getC (pc := 83) zF_X11_7 rfl dX11_whatIs_83 ?_
                      refine zc_iload_n (pc := 86) dX11_whatIs_86 rfl rfl ?_
                      refine zc_guard (fun g11 => ?_)
                      refine zc_aldi (pc := 87) rfl g11 dX11_whatIs_87 ?_
                      exact J29 (h9.1 61 x2.toNatClampNeg)
              · refine zc_if_ne (pc := 55) 63 dX11_whatIs_55 (by decide) (fun _ => ?_) (fun _ => ?_)
                · refine zc_bipush (pc := 58) (8 : Int32) dX11_whatIs_58 (by decide) ?_
                  refine zc_goto (pc := 60) 65 dX11_whatIs_60 (by decide) ?_
                  exact J28 (8 : Int32)
                · refine zc_bipush (pc := 63) (10 : Int32) dX11_whatIs_63 (by decide) ?_
                  exact J28 (10 : Int32)
        exact L26 zFU (0 : Int32) (0 : Int32) r6
    · refine zc_iload (pc := 39) dX11_whatIs_39 rfl ?_
      exact zc_iretK (pc := 41) dX11_whatIs_41 rfl ⟨_, rfl, rfl⟩
  · refine zc_if_eq (pc := 10) 31 dX11_whatIs_10 (by decide) (fun _ => ?_) (fun _ => ?_)
    · refine zc_iconst (pc := 31) (-1 : Int32) dX11_whatIs_31 (by decide) ?_
      exact J22 (-1 : Int32)
    · refine zc_iload_n (pc := 13) dX11_whatIs_13 rfl rfl ?_
      refine zc_i2l (pc := 14) dX11_whatIs_14 ?_
      refine zc_lconst (pc := 15) (0 : Int64) dX11_whatIs_15 (by decide) ?_
      refine zc_lconst (pc := 16) (1 : Int64) dX11_whatIs_16 (by decide) ?_
      refine zc_callIp (pc := 17) [.long x3.toInt64, .long (0 : Int64), .long (1 : Int64)] rfl (zc_runS zo_X11_in ⟨Nat.le_of_ble_eq_true rfl, Nat.le_of_ble_eq_true rfl⟩ zw_1071 zw_1072 rfl dX11_whatIs_17) (Nat.le_of_ble_eq_true rfl) (fun _ hr => zt_X11_in x3.toInt64 (0 : Int64) (1 : Int64) h1 hr) (fun r3 => ?_)
      refine zc_if_eq (pc := 20) 31 dX11_whatIs_20 (by decide) (fun _ => ?_) (fun _ => ?_)
      · refine zc_iconst (pc := 31) (-1 : Int32) dX11_whatIs_31 (by decide) ?_
        exact J22 (-1 : Int32)
      · refine zc_aload_n (pc := 23) dX11_whatIs_23 rfl rfl ?_
        refine zc_iload_n (pc := 24) dX11_whatIs_24 rfl rfl ?_
        refine zc_callIp (pc := 25) [.ref 60, .int x1] rfl (zc_runV (ci := 11) (n0 := 0) (q := (RX11, TX11, 35)) zo_X11_wrongRow ⟨Nat.le_of_ble_eq_true rfl, Nat.le_of_ble_eq_true rfl⟩ zw_1066 zw_1068 zs_18 rfl (by decide) rfl rfl dX11_whatIs_25) (Nat.le_of_ble_eq_true rfl) (fun _ hr => zt_X11_wrongRow x1 h1 hr) (fun r4 => ?_)
        refine zc_goto (pc := 28) 32 dX11_whatIs_28 (by decide) ?_
        exact J22 r4
def zl_X11_two_47 (x1 : Int32) (x2 : Int32) (x3 : Int32) : Nat → Int32 → zHp → Option zHp
  | 0, _, _ => none
  | fu + 1, y6, h7 => (if (4 : Int32) ≤ y6 then some h7 else (((if (y6 / (2 : Int32)) = (1 : Int32) then (if zc_ix x1 7 then some (h7.1 64 x1.toNatClampNeg) else none) else some x1) : Option Int32).bind (fun v9 => (if zc_ix x1 7 then ((some (zc_ui h7 64 x1.toNatClampNeg v9) : Option zHp).bind (fun h11 => (((if (y6 - y6 / (2 : Int32) * (2 : Int32)) = (1 : Int32) then (if zc_ix x2 7 then some (h11.1 64 x2.toNatClampNeg) else none) else some x2) : Option Int32).bind (fun v13 => (if zc_ix x2 7 then ((some (zc_ui h11 64 x2.toNatClampNeg v13) : Option zHp).bind (fun h15 => ((zf_X11_goDays x3 h15).bind (fun r16 => (if zc_ix x1 7 then (if zc_ix ((2 : Int32) * y6) 8 then ((some (zc_ui r16 78 ((2 : Int32) * y6).toNatClampNeg ((r16.1 65 x1.toNatClampNeg) + ((5 : Int32) * ((1 : Int32) - (y6 / (2 : Int32)))))) : Option zHp).bind (fun h19 => (if zc_ix x2 7 then (if zc_ix (((2 : Int32) * y6) + (1 : Int32)) 8 then ((some (zc_ui h19 78 (((2 : Int32) * y6) + (1 : Int32)).toNatClampNeg ((h19.1 65 x2.toNatClampNeg) + ((5 : Int32) * ((1 : Int32) - (y6 - y6 / (2 : Int32) * (2 : Int32)))))) : Option zHp).bind (fun h22 => ((zf_X11_again h22).bind (fun r23 => zl_X11_two_47 x1 x2 x3 fu (y6 + (1 : Int32)) r23)))) else none) else none))) else none) else none))))) else none))))) else none))))
def zl_X11_two_169 (v24 : zHp) : Nat → Int32 → Option ((Int32 × zHp) ⊕ Int32)
  | 0, _ => none
  | fu + 1, y25 => (if (4 : Int32) ≤ y25 then some (Sum.inl ((-4 : Int32), v24)) else ((some (((2 : Int32) * ((1 : Int32) - (y25 / (2 : Int32)))) + (y25 - y25 / (2 : Int32) * (2 : Int32))) : Option Int32).bind (fun v26 => ((some ((((2 : Int32) * (y25 / (2 : Int32))) + (1 : Int32)) - (y25 - y25 / (2 : Int32) * (2 : Int32))) : Option Int32).bind (fun v27 => (if zc_ix ((2 : Int32) * y25) 8 then (if zc_ix ((2 : Int32) * v26) 8 then (if (v24.1 78 ((2 : Int32) * y25).toNatClampNeg) < (v24.1 78 ((2 : Int32) * v26).toNatClampNeg) then zl_X11_two_169 v24 fu (y25 + (1 : Int32)) else (if zc_ix (((2 : Int32) * y25) + (1 : Int32)) 8 then (if zc_ix (((2 : Int32) * v27) + (1 : Int32)) 8 then (if (v24.1 78 (((2 : Int32) * y25) + (1 : Int32)).toNatClampNeg) < (v24.1 78 (((2 : Int32) * v27) + (1 : Int32)).toNatClampNeg) then zl_X11_two_169 v24 fu (y25 + (1 : Int32)) else some (Sum.inr y25)) else none) else none)) else none) else none))))))
def zf_X11_two (x1 : Int32) (x2 : Int32) (x3 : Int32) (h : zHp) : Option (Int32 × zHp) :=
  ((some (zc_ui h 60 17 (0 : Int32)) : Option zHp).bind (fun h1 => ((zf_X11_isOne x1 h1).bind (fun r2 => (if r2 = 0 then some ((-1 : Int32), h1) else ((zf_X11_isOne x2 h1).bind (fun r3 => (if r3 = 0 then some ((-1 : Int32), h1) else (if x1 = x2 then some ((-1 : Int32), h1) else ((zf_X11_in x3.toInt64 (0 : Int64) (30 : Int64)).bind (fun r4 => (if r4 = 0 then some ((-1 : Int32), h1) else ((zf_X11_think h1).bind (fun r5 => ((zl_X11_two_47 x1 x2 x3 zFU (0 : Int32) r5).bind (fun v24 => ((zl_X11_two_169 v24 zFU (0 : Int32)).bind (Sum.elim (fun r => some r) (fun v32 => some ((((10 : Int32) * (v32 / (2 : Int32))) + (v32 - v32 / (2 : Int32) * (2 : Int32))), v24))))))))))))))))))))
set_option maxRecDepth 100000 in
set_option maxHeartbeats 4000000 in
theorem zt_X11_two (x1 : Int32) (x2 : Int32) (x3 : Int32) (h : zHp) {r : (Int32 × zHp)} (hr : (zf_X11_two x1 x2 x3 h) = some r) : zc_Cn zM_X11_two [.ref 60, .int x1, .int x2, .int x3] h (zc_mI r) := by
  refine zc_meth (mk := zc_mI) (o := (zf_X11_two x1 x2 x3 h)) (by decide +kernel) (Nat.le_of_ble_eq_true rfl) ?_ hr
  unfold zf_X11_two
  refine zc_sL (ls1 := [some (.ref 60), some (.int x1), some (.int x2), some (.int x3), none, none, none]) rfl ?_
  refine zc_aload_n (pc := 0) dX11_two_0 rfl rfl ?_
  refine zc_iconst (pc := 1) (0 : Int32) dX11_two_1 (by decide) ?_
  refine zc_putI (pc := 2) zF_X11_68 rfl dX11_two_2 ?_
  refine zc_letH (fun h1 _ => ?_)
  refine zc_aload_n (pc := 5) dX11_two_5 rfl rfl ?_
  refine zc_iload_n (pc := 6) dX11_two_6 rfl rfl ?_
  refine zc_callIp (pc := 7) [.ref 60, .int x1] rfl (zc_runV (ci := 11) (n0 := 0) (q := (RX11, TX11, 35)) zo_X11_isOne ⟨Nat.le_of_ble_eq_true rfl, Nat.le_of_ble_eq_true rfl⟩ zw_1119 zw_1121 zs_28 rfl (by decide) rfl rfl dX11_two_7) (Nat.le_of_ble_eq_true rfl) (fun _ hr => zt_X11_isOne x1 h1 hr) (fun r2 => ?_)
  refine zc_if_eq (pc := 10) 38 dX11_two_10 (by decide) (fun _ => ?_) (fun _ => ?_)
  · refine zc_iconst (pc := 38) (-1 : Int32) dX11_two_38 (by decide) ?_
    exact zc_iretK (pc := 39) dX11_two_39 rfl ⟨_, rfl, rfl⟩
  · refine zc_aload_n (pc := 13) dX11_two_13 rfl rfl ?_
    refine zc_iload_n (pc := 14) dX11_two_14 rfl rfl ?_
    refine zc_callIp (pc := 15) [.ref 60, .int x2] rfl (zc_runV (ci := 11) (n0 := 0) (q := (RX11, TX11, 35)) zo_X11_isOne ⟨Nat.le_of_ble_eq_true rfl, Nat.le_of_ble_eq_true rfl⟩ zw_1119 zw_1121 zs_28 rfl (by decide) rfl rfl dX11_two_15) (Nat.le_of_ble_eq_true rfl) (fun _ hr => zt_X11_isOne x2 h1 hr) (fun r3 => ?_)
    refine zc_if_eq (pc := 18) 38 dX11_two_18 (by decide) (fun _ => ?_) (fun _ => ?_)
    · refine zc_iconst (pc := 38) (-1 : Int32) dX11_two_38 (by decide) ?_
      exact zc_iretK (pc := 39) dX11_two_39 rfl ⟨_, rfl, rfl⟩
    · refine zc_iload_n (pc := 21) dX11_two_21 rfl rfl ?_
      refine zc_iload_n (pc := 22) dX11_two_22 rfl rfl ?_
      refine zc_icmp_eq (pc := 23) 38 dX11_two_23 (by decide) (fun _ => ?_) (fun _ => ?_)
      · refine zc_iconst (pc := 38) (-1 : Int32) dX11_two_38 (by decide) ?_
        exact zc_iretK (pc := 39) dX11_two_39 rfl ⟨_, rfl, rfl⟩
      · refine zc_iload_n (pc := 26) dX11_two_26 rfl rfl ?_
        refine zc_i2l (pc := 27) dX11_two_27 ?_
        refine zc_lconst (pc := 28) (0 : Int64) dX11_two_28 (by decide) ?_
        refine zc_ldc2 (pc := 29) dX11_two_29 zw_1354 ?_
        refine zc_callIp (pc := 32) [.long x3.toInt64, .long (0 : Int64), .long (30 : Int64)] rfl (zc_runS zo_X11_in ⟨Nat.le_of_ble_eq_true rfl, Nat.le_of_ble_eq_true rfl⟩ zw_1071 zw_1072 rfl dX11_two_32) (Nat.le_of_ble_eq_true rfl) (fun _ hr => zt_X11_in x3.toInt64 (0 : Int64) (30 : Int64) h1 hr) (fun r4 => ?_)
        refine zc_if_ne (pc := 35) 40 dX11_two_35 (by decide) (fun _ => ?_) (fun _ => ?_)
        · refine zc_iconst (pc := 38) (-1 : Int32) dX11_two_38 (by decide) ?_
          exact zc_iretK (pc := 39) dX11_two_39 rfl ⟨_, rfl, rfl⟩
        · refine zc_aload_n (pc := 40) dX11_two_40 rfl rfl ?_
          refine zc_callV (pc := 41) [.ref 60] rfl (zc_runV (ci := 11) (n0 := 0) (q := (RX11, TX11, 35)) zo_X11_think ⟨Nat.le_of_ble_eq_true rfl, Nat.le_of_ble_eq_true rfl⟩ zw_1095 zw_1097 zs_23 rfl (by decide) rfl rfl dX11_two_41) (Nat.le_of_ble_eq_true rfl) (fun _ hr => zt_X11_think h1 hr) (fun r5 => ?_)
          refine zc_iconst (pc := 44) (0 : Int32) dX11_two_44 (by decide) ?_
          refine zc_istore (pc := 45) dX11_two_45 (Nat.le_of_ble_eq_true rfl) rfl (Nat.le_of_ble_eq_true rfl) ?_
          refine zc_sL (ls1 := [some (.ref 60), some (.int x1), some (.int x2), some (.int x3), some (.int (0 : Int32)), none, none]) rfl ?_
          refine zc_sL (ls1 := [some (.ref 60), some (.int x1), some (.int x2), some (.int x3), some (.int (0 : Int32)), none, none]) rfl ?_
          refine zc_loop 166 (fun v24 => [some (.ref 60), none, none, none, none, none, none]) (fun v24 => []) (fun v24 => v24) (fun v24 => ?_) (fun k34 J33 => ?_)
          · refine zc_iconst (pc := 166) (0 : Int32) dX11_two_166 (by decide) ?_
            refine zc_istore (pc := 167) dX11_two_167 (Nat.le_of_ble_eq_true rfl) rfl (Nat.le_of_ble_eq_true rfl) ?_
            refine zc_sL (ls1 := [some (.ref 60), none, none, none, some (.int (0 : Int32)), none, none]) rfl ?_
            refine zc_sL (ls1 := [some (.ref 60), none, none, none, some (.int (0 : Int32)), none, none]) rfl ?_
            refine zc_loopS zc_mI 251 (fun v32 => [none, none, none, none, some (.int v32), none, none]) (fun v32 => []) (fun v32 => v24) (fun v32 => ?_) (fun z => ⟨_, rfl, rfl⟩) (fun k37 J36 K38 => ?_)
            · refine zc_bipush (pc := 251) (10 : Int32) dX11_two_251 (by decide) ?_
              refine zc_iload (pc := 253) dX11_two_253 rfl ?_
              refine zc_iconst (pc := 255) (2 : Int32) dX11_two_255 (by decide) ?_
              refine zc_idiv (pc := 256) dX11_two_256 (by decide) ?_
              refine zc_imul (pc := 257) dX11_two_257 ?_
              refine zc_iload (pc := 258) dX11_two_258 rfl ?_
              refine zc_iconst (pc := 260) (2 : Int32) dX11_two_260 (by decide) ?_
              refine zc_irem (pc := 261) dX11_two_261 (by decide) ?_
              refine zc_iadd (pc := 262) dX11_two_262 ?_
              exact zc_iretK (pc := 263) dX11_two_263 rfl ⟨_, rfl, rfl⟩
            · have L39 : ∀ (fu : Nat) (y25 : Int32), zc_G zM_X11_two zc_mI 169 [some (.ref 60), none, none, none, some (.int y25), none, none] [] v24 ((zl_X11_two_169 v24 fu y25).bind k37) := by
                  intro fu
                  induction fu with
                  | zero => intros; exact zc_noneb
                  | succ fu ih40 =>
                    intro y25
                    unfold zl_X11_two_169
                    refine zc_iload (pc := 169) dX11_two_169 rfl ?_
                    refine zc_iconst (pc := 171) (4 : Int32) dX11_two_171 (by decide) ?_
                    refine zc_icmp_ge (pc := 172) 270 dX11_two_172 (by decide) (fun _ => ?_) (fun _ => ?_)
                    · refine zc_bipush (pc := 270) (-4 : Int32) dX11_two_270 (by decide) ?_
                      exact zc_iretK (pc := 272) dX11_two_272 rfl (K38 _)
                    · refine zc_iconst (pc := 175) (2 : Int32) dX11_two_175 (by decide) ?_
                      refine zc_iconst (pc := 176) (1 : Int32) dX11_two_176 (by decide) ?_
                      refine zc_iload (pc := 177) dX11_two_177 rfl ?_
                      refine zc_iconst (pc := 179) (2 : Int32) dX11_two_179 (by decide) ?_
                      refine zc_idiv (pc := 180) dX11_two_180 (by decide) ?_
                      refine zc_isub (pc := 181) dX11_two_181 ?_
                      refine zc_imul (pc := 182) dX11_two_182 ?_
                      refine zc_iload (pc := 183) dX11_two_183 rfl ?_
                      refine zc_iconst (pc := 185) (2 : Int32) dX11_two_185 (by decide) ?_
                      refine zc_irem (pc := 186) dX11_two_186 (by decide) ?_
                      refine zc_iadd (pc := 187) dX11_two_187 ?_
                      refine zc_letI (fun v26 _ => ?_)
                      refine zc_istore (pc := 188) dX11_two_188 (Nat.le_of_ble_eq_true rfl) rfl (Nat.le_of_ble_eq_true rfl) ?_
                      refine zc_sL (ls1 := [some (.ref 60), none, none, none, some (.int y25), some (.int v26), none]) rfl ?_
                      refine zc_iconst (pc := 190) (2 : Int32) dX11_two_190 (by decide) ?_
                      refine zc_iload (pc := 191) dX11_two_191 rfl ?_
                      refine zc_iconst (pc := 193) (2 : Int32) dX11_two_193 (by decide) ?_
                      refine zc_idiv (pc := 194) dX11_two_194 (by decide) ?_
                      refine zc_imul (pc := 195) dX11_two_195 ?_
                      refine zc_iconst (pc := 196) (1 : Int32) dX11_two_196 (by decide) ?_
                      refine zc_iadd (pc := 197) dX11_two_197 ?_
                      refine zc_iload (pc := 198) dX11_two_198 rfl ?_
                      refine zc_iconst (pc := 200) (2 : Int32) dX11_two_200 (by decide) ?_
                      refine zc_irem (pc := 201) dX11_two_201 (by decide) ?_
                      refine zc_isub (pc := 202) dX11_two_202 ?_
                      refine zc_letI (fun v27 _ => ?_)
                      refine zc_istore (pc := 203) dX11_two_203 (Nat.le_of_ble_eq_true rfl) rfl (Nat.le_of_ble_eq_true rfl) ?_
                      refine zc_sL (ls1 := [some (.ref 60), none, none, none, some (.int y25), some (.int v26), some (.int v27)]) rfl ?_
                      refine zc_aload_n (pc := 205) dX11_two_205 rfl rfl ?_
                      refine zc_getC (pc := 206) zF_X11_62 rfl dX11_two_206 ?_
                      refine zc_iconst (pc := 209) (2 : Int32) dX11_two_209 (by decide) ?_
                      refine zc_iload (pc := 210) dX11_two_210 rfl ?_
                      refine zc_imul (pc := 212) dX11_two_212 ?_
                      refine zc_guard (fun g28 => ?_)
                      refine zc_aldi (pc := 213) rfl g28 dX11_two_213 ?_
                      refine zc_aload_n (pc := 214) dX11_two_214 rfl rfl ?_
                      refine zc_getC (pc := 215) zF_X11_62 rfl dX11_two_215 ?_
                      refine zc_iconst (pc := 218) (2 : Int32) dX11_two_218 (by decide) ?_
                      refine zc_iload (pc := 219) dX11_two_219 rfl ?_
                      refine zc_imul (pc := 221) dX11_two_221 ?_
                      refine zc_guard (fun g29 => ?_)
                      refine zc_aldi (pc := 222) rfl g29 dX11_two_222 ?_
                      refine zc_icmp_lt (pc := 223) 264 dX11_two_223 (by decide) (fun _ => ?_) (fun _ => ?_)
                      · refine zc_iinc (pc := 264) (1 : Int32) dX11_two_264 (by decide) rfl (Nat.le_of_ble_eq_true rfl) rfl ?_
                        refine zc_sL (ls1 := [some (.ref 60), none, none, none, some (.int (y25 + (1 : Int32))), some (.int v26), some (.int v27)]) rfl ?_
                        refine zc_goto (pc := 267) 169 dX11_two_267 (by decide) ?_
                        refine zc_drop 5 ?_
                        refine zc_drop 6 ?_
                        exact ih40 (y25 + (1 : Int32))
                      · refine zc_aload_n (pc := 226) dX11_two_226 rfl rfl ?_
                        refine zc_getC (pc := 227) zF_X11_62 rfl dX11_two_227 ?_
                        refine zc_iconst (pc := 230) (2 : Int32) dX11_two_230 (by decide) ?_
                        refine zc_iload (pc := 231) dX11_two_231 rfl ?_
                        refine zc_imul (pc := 233) dX11_two_233 ?_
                        refine zc_iconst (pc := 234) (1 : Int32) dX11_two_234 (by decide) ?_
                        refine zc_iadd (pc := 235) dX11_two_235 ?_
                        refine zc_guard (fun g30 => ?_)
                        refine zc_aldi (pc := 236) rfl g30 dX11_two_236 ?_
                        refine zc_aload_n (pc := 237) dX11_two_237 rfl rfl ?_
                        refine zc_getC (pc := 238) zF_X11_62 rfl dX11_two_238 ?_
                        refine zc_iconst (pc := 241) (2 : Int32) dX11_two_241 (by decide) ?_
                        refine zc_iload (pc := 242) dX11_two_242 rfl ?_
                        refine zc_imul (pc := 244) dX11_two_244 ?_
                        refine zc_iconst (pc := 245) (1 : Int32) dX11_two_245 (by decide) ?_
                        refine zc_iadd (pc := 246) dX11_two_246 ?_
                        refine zc_guard (fun g31 => ?_)
                        refine zc_aldi (pc := 247) rfl g31 dX11_two_247 ?_
                        refine zc_icmp_lt (pc := 248) 264 dX11_two_248 (by decide) (fun _ => ?_) (fun _ => ?_)
                        · refine zc_iinc (pc := 264) (1 : Int32) dX11_two_264 (by decide) rfl (Nat.le_of_ble_eq_true rfl) rfl ?_
                          refine zc_sL (ls1 := [some (.ref 60), none, none, none, some (.int (y25 + (1 : Int32))), some (.int v26), some (.int v27)]) rfl ?_
                          refine zc_goto (pc := 267) 169 dX11_two_267 (by decide) ?_
                          refine zc_drop 5 ?_
                          refine zc_drop 6 ?_
                          exact ih40 (y25 + (1 : Int32))
                        · refine zc_drop 0 ?_
                          refine zc_drop 5 ?_
                          refine zc_drop 6 ?_
                          exact J36 y25
              exact L39 zFU (0 : Int32)
          · have L41 : ∀ (fu : Nat) (y6 : Int32) (h7 : zHp), zc_G zM_X11_two zc_mI 47 [some (.ref 60), some (.int x1), some (.int x2), some (.int x3), some (.int y6), none, none] [] h7 ((zl_X11_two_47 x1 x2 x3 fu y6 h7).bind k34) := by
                intro fu
                induction fu with
                | zero => intros; exact zc_noneb
                | succ fu ih42 =>
                  intro y6 h7
                  unfold zl_X11_two_47
                  refine zc_iload (pc := 47) dX11_two_47 rfl ?_
                  refine zc_iconst (pc := 49) (4 : Int32) dX11_two_49 (by decide) ?_
                  refine zc_icmp_ge (pc := 50) 166 dX11_two_50 (by decide) (fun _ => ?_) (fun _ => ?_)
                  · refine zc_drop 1 ?_
                    refine zc_drop 2 ?_
                    refine zc_drop 3 ?_
                    refine zc_drop 4 ?_
                    exact J33 h7
                  · refine zc_aload_n (pc := 53) dX11_two_53 rfl rfl ?_
                    refine zc_getC (pc := 54) zF_X11_19 rfl dX11_two_54 ?_
                    refine zc_iload_n (pc := 57) dX11_two_57 rfl rfl ?_
                    refine zc_iload (pc := 58) dX11_two_58 rfl ?_
                    refine zc_iconst (pc := 60) (2 : Int32) dX11_two_60 (by decide) ?_
                    refine zc_idiv (pc := 61) dX11_two_61 (by decide) ?_
                    refine zc_iconst (pc := 62) (1 : Int32) dX11_two_62 (by decide) ?_
                    refine zc_join 76 (fun v9 => [some (.ref 60), some (.int x1), some (.int x2), some (.int x3), some (.int y6), none, none]) (fun v9 => [.int v9, .int x1, .ref 64]) (fun v9 => h7) (fun v9 => ?_) (fun J43 => ?_)
                    · refine zc_guard (fun g10 => ?_)
                      refine zc_asti (pc := 76) rfl g10 dX11_two_76 ?_
                      refine zc_letH (fun h11 _ => ?_)
                      refine zc_aload_n (pc := 77) dX11_two_77 rfl rfl ?_
                      refine zc_getC (pc := 78) zF_X11_19 rfl dX11_two_78 ?_
                      refine zc_iload_n (pc := 81) dX11_two_81 rfl rfl ?_
                      refine zc_iload (pc := 82) dX11_two_82 rfl ?_
                      refine zc_iconst (pc := 84) (2 : Int32) dX11_two_84 (by decide) ?_
                      refine zc_irem (pc := 85) dX11_two_85 (by decide) ?_
                      refine zc_iconst (pc := 86) (1 : Int32) dX11_two_86 (by decide) ?_
                      refine zc_join 100 (fun v13 => [some (.ref 60), some (.int x1), some (.int x2), some (.int x3), some (.int y6), none, none]) (fun v13 => [.int v13, .int x2, .ref 64]) (fun v13 => h11) (fun v13 => ?_) (fun J44 => ?_)
                      · refine zc_guard (fun g14 => ?_)
                        refine zc_asti (pc := 100) rfl g14 dX11_two_100 ?_
                        refine zc_letH (fun h15 _ => ?_)
                        refine zc_aload_n (pc := 101) dX11_two_101 rfl rfl ?_
                        refine zc_iload_n (pc := 102) dX11_two_102 rfl rfl ?_
                        refine zc_callV (pc := 103) [.ref 60, .int x3] rfl (zc_runV (ci := 11) (n0 := 0) (q := (RX11, TX11, 35)) zo_X11_goDays ⟨Nat.le_of_ble_eq_true rfl, Nat.le_of_ble_eq_true rfl⟩ zw_1128 zw_1130 zs_30 rfl (by decide) rfl rfl dX11_two_103) (Nat.le_of_ble_eq_true rfl) (fun _ hr => zt_X11_goDays x3 h15 hr) (fun r16 => ?_)
                        refine zc_aload_n (pc := 106) dX11_two_106 rfl rfl ?_
                        refine zc_getC (pc := 107) zF_X11_62 rfl dX11_two_107 ?_
                        refine zc_iconst (pc := 110) (2 : Int32) dX11_two_110 (by decide) ?_
                        refine zc_iload (pc := 111) dX11_two_111 rfl ?_
                        refine zc_imul (pc := 113) dX11_two_113 ?_
                        refine zc_aload_n (pc := 114) dX11_two_114 rfl rfl ?_
                        refine zc_getC (pc := 115) zF_X11_22 rfl dX11_two_115 ?_
                        refine zc_iload_n (pc := 118) dX11_two_118 rfl rfl ?_
                        refine zc_guard (fun g17 => ?_)
                        refine zc_aldi (pc := 119) rfl g17 dX11_two_119 ?_
                        refine zc_iconst (pc := 120) (5 : Int32) dX11_two_120 (by decide) ?_
                        refine zc_iconst (pc := 121) (1 : Int32) dX11_two_121 (by decide) ?_
                        refine zc_iload (pc := 122) dX11_two_122 rfl ?_
                        refine zc_iconst (pc := 124) (2 : Int32) dX11_two_124 (by decide) ?_
                        refine zc_idiv (pc := 125) dX11_two_125 (by decide) ?_
                        refine zc_isub (pc := 126) dX11_two_126 ?_
                        refine zc_imul (pc := 127) dX11_two_127 ?_
                        refine zc_iadd (pc := 128) dX11_two_128 ?_
                        refine zc_guard (fun g18 => ?_)
                        refine zc_asti (pc := 129) rfl g18 dX11_two_129 ?_
                        refine zc_letH (fun h19 _ => ?_)
                        refine zc_aload_n (pc := 130) dX11_two_130 rfl rfl ?_
                        refine zc_getC (pc := 131) zF_X11_62 rfl dX11_two_131 ?_
                        refine zc_iconst (pc := 134) (2 : Int32) dX11_two_134 (by decide) ?_
                        refine zc_iload (pc := 135) dX11_two_135 rfl ?_
                        refine zc_imul (pc := 137) dX11_two_137 ?_
                        refine zc_iconst (pc := 138) (1 : Int32) dX11_two_138 (by decide) ?_
                        refine zc_iadd (pc := 139) dX11_two_139 ?_
                        refine zc_aload_n (pc := 140) dX11_two_140 rfl rfl ?_
                        refine zc_getC (pc := 141) zF_X11_22 rfl dX11_two_141 ?_
                        refine zc_iload_n (pc := 144) dX11_two_144 rfl rfl ?_
                        refine zc_guard (fun g20 => ?_)
                        refine zc_aldi (pc := 145) rfl g20 dX11_two_145 ?_
                        refine zc_iconst (pc := 146) (5 : Int32) dX11_two_146 (by decide) ?_
                        refine zc_iconst (pc := 147) (1 : Int32) dX11_two_147 (by decide) ?_
                        refine zc_iload (pc := 148) dX11_two_148 rfl ?_
                        refine zc_iconst (pc := 150) (2 : Int32) dX11_two_150 (by decide) ?_
                        refine zc_irem (pc := 151) dX11_two_151 (by decide) ?_
                        refine zc_isub (pc := 152) dX11_two_152 ?_
                        refine zc_imul (pc := 153) dX11_two_153 ?_
                        refine zc_iadd (pc := 154) dX11_two_154 ?_
                        refine zc_guard (fun g21 => ?_)
                        refine zc_asti (pc := 155) rfl g21 dX11_two_155 ?_
                        refine zc_letH (fun h22 _ => ?_)
                        refine zc_aload_n (pc := 156) dX11_two_156 rfl rfl ?_
                        refine zc_callV (pc := 157) [.ref 60] rfl (zc_runV (ci := 11) (n0 := 0) (q := (RX11, TX11, 35)) zo_X11_again ⟨Nat.le_of_ble_eq_true rfl, Nat.le_of_ble_eq_true rfl⟩ zw_1170 zw_1172 zs_39 rfl (by decide) rfl rfl dX11_two_157) (Nat.le_of_ble_eq_true rfl) (fun _ hr => zt_X11_again h22 hr) (fun r23 => ?_)
                        refine zc_iinc (pc := 160) (1 : Int32) dX11_two_160 (by decide) rfl (Nat.le_of_ble_eq_true rfl) rfl ?_
                        refine zc_sL (ls1 := [some (.ref 60), some (.int x1), some (.int x2), some (.int x3), some (.int (y6 + (1 : Int32))), none, none]) rfl ?_
                        refine zc_goto (pc := 163) 47 dX11_two_163 (by decide) ?_
                        exact ih42 (y6 + (1 : Int32)) r23
                      · refine zc_icmp_ne (pc := 87) 99 dX11_two_87 (by decide) (fun _ => ?_) (fun _ => ?_)
                        · refine zc_aload_n (pc := 90) dX11_two_90 rfl rfl ?_
                          refine zc_getC (pc := 91) zF_X11_19 rfl dX11_two_91 ?_
                          refine zc_iload_n (pc := 94) dX11_two_94 rfl rfl ?_
                          refine zc_guard (fun g12 => ?_)
                          refine zc_aldi (pc := 95) rfl g12 dX11_two_95 ?_
                          refine zc_goto (pc := 96) 100 dX11_two_96 (by decide) ?_
                          exact J44 (h11.1 64 x2.toNatClampNeg)
                        · refine zc_iload_n (pc := 99) dX11_two_99 rfl rfl ?_
                          exact J44 x2
                    · refine zc_icmp_ne (pc := 63) 75 dX11_two_63 (by decide) (fun _ => ?_) (fun _ => ?_)
                      · refine zc_aload_n (pc := 66) dX11_two_66 rfl rfl ?_
                        refine zc_getC (pc := 67) zF_X11_19 rfl dX11_two_67 ?_
                        refine zc_iload_n (pc := 70) dX11_two_70 rfl rfl ?_
                        refine zc_guard (fun g8 => ?_)
                        refine zc_aldi (pc := 71) rfl g8 dX11_two_71 ?_
                        refine zc_goto (pc := 72) 76 dX11_two_72 (by decide) ?_
                        exact J43 (h7.1 64 x1.toNatClampNeg)
                      · refine zc_iload_n (pc := 75) dX11_two_75 rfl rfl ?_
                        exact J43 x1
            exact L41 zFU (0 : Int32) r5
def zl_X11_divisor_6  : Nat → Int64 → Int64 → Option Int64
  | 0, _, _ => none
  | fu + 1, y1, y2 => (if (lg_cmp y2 (0 : Int64)) = 0 then some y1 else (if ¬ y2 = 0 then zl_X11_divisor_6 fu y2 (y1 - y1 / y2 * y2) else none))
def zf_X11_divisor (x0 : Int64) (x2 : Int64) : Option Int64 :=
  ((zl_X11_divisor_6 zFU x0 x2).bind (fun v4 => some v4))
set_option maxRecDepth 100000 in
set_option maxHeartbeats 4000000 in
theorem zt_X11_divisor (x0 : Int64) (x2 : Int64) (h : zHp) {r : Int64} (hr : (zf_X11_divisor x0 x2) = some r) : zc_Cn zM_X11_divisor [.long x0, .long x2] h ((fun r => zc_mL (r, h)) r) := by
  refine zc_meth (mk := (fun r => zc_mL (r, h))) (o := (zf_X11_divisor x0 x2)) (by decide +kernel) (Nat.le_of_ble_eq_true rfl) ?_ hr
  unfold zf_X11_divisor
  refine zc_sL (ls1 := [some (.long x0), none, some (.long x2), none, none, none, none, none, none, none]) rfl ?_
  refine zc_lload_n (pc := 0) dX11_divisor_0 rfl rfl ?_
  refine zc_lstore (pc := 1) dX11_divisor_1 (Nat.le_of_ble_eq_true rfl) rfl (Nat.le_of_ble_eq_true rfl) ?_
  refine zc_sL (ls1 := [some (.long x0), none, some (.long x2), none, some (.long x0), none, none, none, none, none]) rfl ?_
  refine zc_lload_n (pc := 3) dX11_divisor_3 rfl rfl ?_
  refine zc_lstore (pc := 4) dX11_divisor_4 (Nat.le_of_ble_eq_true rfl) rfl (Nat.le_of_ble_eq_true rfl) ?_
  refine zc_sL (ls1 := [some (.long x0), none, some (.long x2), none, some (.long x0), none, some (.long x2), none, none, none]) rfl ?_
  refine zc_drop 0 ?_
  refine zc_drop 2 ?_
  refine zc_sL (ls1 := [none, none, none, none, some (.long x0), none, some (.long x2), none, none, none]) rfl ?_
  refine zc_loop 31 (fun v4 => [none, none, none, none, some (.long v4), none, none, none, none, none]) (fun v4 => []) (fun v4 => h) (fun v4 => ?_) (fun k6 J5 => ?_)
  · refine zc_lload (pc := 31) dX11_divisor_31 rfl ?_
    exact zc_lretK (pc := 33) dX11_divisor_33 rfl ⟨_, rfl, rfl⟩
  · have L8 : ∀ (fu : Nat) (y1 : Int64) (y2 : Int64), zc_G zM_X11_divisor (fun r => zc_mL (r, h)) 6 [none, none, none, none, some (.long y1), none, some (.long y2), none, none, none] [] h ((zl_X11_divisor_6 fu y1 y2).bind k6) := by
        intro fu
        induction fu with
        | zero => intros; exact zc_noneb
        | succ fu ih9 =>
          intro y1 y2
          unfold zl_X11_divisor_6
          refine zc_lload (pc := 6) dX11_divisor_6 rfl ?_
          refine zc_lconst (pc := 8) (0 : Int64) dX11_divisor_8 (by decide) ?_
          refine zc_lcmp (pc := 9) dX11_divisor_9 ?_
          refine zc_if_eq (pc := 10) 31 dX11_divisor_10 (by decide) (fun _ => ?_) (fun _ => ?_)
          · refine zc_drop 6 ?_
            exact J5 y1
          · refine zc_lload (pc := 13) dX11_divisor_13 rfl ?_
            refine zc_lload (pc := 15) dX11_divisor_15 rfl ?_
            refine zc_guard (fun g3 => ?_)
            refine zc_lrem (pc := 17) dX11_divisor_17 g3 ?_
            refine zc_lstore (pc := 18) dX11_divisor_18 (Nat.le_of_ble_eq_true rfl) rfl (Nat.le_of_ble_eq_true rfl) ?_
            refine zc_sL (ls1 := [none, none, none, none, some (.long y1), none, some (.long y2), none, some (.long (y1 - y1 / y2 * y2)), none]) rfl ?_
            refine zc_lload (pc := 20) dX11_divisor_20 rfl ?_
            refine zc_lstore (pc := 22) dX11_divisor_22 (Nat.le_of_ble_eq_true rfl) rfl (Nat.le_of_ble_eq_true rfl) ?_
            refine zc_sL (ls1 := [none, none, none, none, some (.long y2), none, some (.long y2), none, some (.long (y1 - y1 / y2 * y2)), none]) rfl ?_
            refine zc_lload (pc := 24) dX11_divisor_24 rfl ?_
            refine zc_lstore (pc := 26) dX11_divisor_26 (Nat.le_of_ble_eq_true rfl) rfl (Nat.le_of_ble_eq_true rfl) ?_
            refine zc_sL (ls1 := [none, none, none, none, some (.long y2), none, some (.long (y1 - y1 / y2 * y2)), none, some (.long (y1 - y1 / y2 * y2)), none]) rfl ?_
            refine zc_goto (pc := 28) 6 dX11_divisor_28 (by decide) ?_
            refine zc_drop 8 ?_
            exact ih9 y2 (y1 - y1 / y2 * y2)
    exact L8 zFU x0 x2
def zf_X11_partOf (x0 : Int64) (x2 : Int64) (x4 : Int32) : Option Int64 :=
  (if (lg_cmp x0 (0 : Int64)) = 0 then some x4.toInt64 else ((zf_X11_divisor x0 x2).bind (fun r1 => (if x4 = 0 then (if ¬ r1 = 0 then some (x0 / r1) else none) else (if ¬ r1 = 0 then some (x2 / r1) else none)))))
set_option maxRecDepth 100000 in
set_option maxHeartbeats 4000000 in
theorem zt_X11_partOf (x0 : Int64) (x2 : Int64) (x4 : Int32) (h : zHp) {r : Int64} (hr : (zf_X11_partOf x0 x2 x4) = some r) : zc_Cn zM_X11_partOf [.long x0, .long x2, .int x4] h ((fun r => zc_mL (r, h)) r) := by
  refine zc_meth (mk := (fun r => zc_mL (r, h))) (o := (zf_X11_partOf x0 x2 x4)) (by decide +kernel) (Nat.le_of_ble_eq_true rfl) ?_ hr
  unfold zf_X11_partOf
  refine zc_sL (ls1 := [some (.long x0), none, some (.long x2), none, some (.int x4), none, none]) rfl ?_
  refine zc_lload_n (pc := 0) dX11_partOf_0 rfl rfl ?_
  refine zc_lconst (pc := 1) (0 : Int64) dX11_partOf_1 (by decide) ?_
  refine zc_lcmp (pc := 2) dX11_partOf_2 ?_
  refine zc_if_ne (pc := 3) 10 dX11_partOf_3 (by decide) (fun _ => ?_) (fun _ => ?_)
  · refine zc_iload (pc := 6) dX11_partOf_6 rfl ?_
    refine zc_i2l (pc := 8) dX11_partOf_8 ?_
    exact zc_lretK (pc := 9) dX11_partOf_9 rfl ⟨_, rfl, rfl⟩
  · refine zc_lload_n (pc := 10) dX11_partOf_10 rfl rfl ?_
    refine zc_lload_n (pc := 11) dX11_partOf_11 rfl rfl ?_
    refine zc_callLp (pc := 12) [.long x0, .long x2] rfl (zc_runS zo_X11_divisor ⟨Nat.le_of_ble_eq_true rfl, Nat.le_of_ble_eq_true rfl⟩ zw_1364 zw_1365 rfl dX11_partOf_12) (Nat.le_of_ble_eq_true rfl) (fun _ hr => zt_X11_divisor x0 x2 h hr) (fun r1 => ?_)
    refine zc_lstore (pc := 15) dX11_partOf_15 (Nat.le_of_ble_eq_true rfl) rfl (Nat.le_of_ble_eq_true rfl) ?_
    refine zc_sL (ls1 := [some (.long x0), none, some (.long x2), none, some (.int x4), some (.long r1), none]) rfl ?_
    refine zc_iload (pc := 17) dX11_partOf_17 rfl ?_
    refine zc_if_ne (pc := 19) 29 dX11_partOf_19 (by decide) (fun _ => ?_) (fun _ => ?_)
    · refine zc_lload_n (pc := 22) dX11_partOf_22 rfl rfl ?_
      refine zc_lload (pc := 23) dX11_partOf_23 rfl ?_
      refine zc_guard (fun g2 => ?_)
      refine zc_ldiv (pc := 25) dX11_partOf_25 g2 ?_
      refine zc_goto (pc := 26) 33 dX11_partOf_26 (by decide) ?_
      exact zc_lretK (pc := 33) dX11_partOf_33 rfl ⟨_, rfl, rfl⟩
    · refine zc_lload_n (pc := 29) dX11_partOf_29 rfl rfl ?_
      refine zc_lload (pc := 30) dX11_partOf_30 rfl ?_
      refine zc_guard (fun g3 => ?_)
      refine zc_ldiv (pc := 32) dX11_partOf_32 g3 ?_
      exact zc_lretK (pc := 33) dX11_partOf_33 rfl ⟨_, rfl, rfl⟩
def zl_X11_rain_63 (x2 : Int32) (x3 : Int32) : Nat → Int64 → Int32 → Option Int64
  | 0, _, _ => none
  | fu + 1, y6, y7 => (if x2 ≤ y7 then some y6 else zl_X11_rain_63 x2 x3 fu (y6 * x3.toInt64) (y7 + (1 : Int32)))
def zl_X11_rain_103 (x2 : Int32) (x3 : Int32) (y11 : Int32) : Nat → Int64 → Int32 → zHp → Option (Int64 × zHp)
  | 0, _, _, _ => none
  | fu + 1, y13, y14, h15 => (if x2 ≤ y14 then some (y13, h15) else ((zf_X11_hasBit y11 y14).bind (fun r16 => (((if r16 = 0 then some ((x3 - (1 : Int32)).toInt64) else some (1 : Int64)) : Option Int64).bind (fun v17 => ((zf_X11_hasBit y11 y14).bind (fun r18 => ((zf_X11_dayBy r18 h15).bind (fun r19 => zl_X11_rain_103 x2 x3 y11 fu (y13 * v17) (y14 + (1 : Int32)) r19)))))))))
def zl_X11_rain_89 (x1 : Int32) (x2 : Int32) (x3 : Int32) : Nat → Int64 → Int32 → zHp → Option (Int64 × zHp)
  | 0, _, _, _ => none
  | fu + 1, y10, y11, h12 => (if ((1 : Int32) <<< (x2 &&& 31)) ≤ y11 then some (y10, h12) else ((zl_X11_rain_103 x2 x3 y11 zFU (1 : Int64) (0 : Int32) h12).bind (fun v20 => ((zf_X11_isAble x1 v20.2).bind (fun r21 => (((if r21 = 0 then some (0 : Int64) else some v20.1) : Option Int64).bind (fun v22 => ((zf_X11_again v20.2).bind (fun r23 => zl_X11_rain_89 x1 x2 x3 fu (y10 + v22) (y11 + (1 : Int32)) r23)))))))))
def zf_X11_rain (x1 : Int32) (x2 : Int32) (x3 : Int32) (x4 : Int32) (h : zHp) : Option (Int64 × zHp) :=
  ((some (zc_ui h 60 17 (0 : Int32)) : Option zHp).bind (fun h1 => ((zf_X11_isOne x1 h1).bind (fun r2 => (if r2 = 0 then some ((1000000001 : Int64), h1) else ((zf_X11_in x2.toInt64 (0 : Int64) (7 : Int64)).bind (fun r3 => (if r3 = 0 then some ((1000000001 : Int64), h1) else ((zf_X11_in x3.toInt64 (2 : Int64) (20 : Int64)).bind (fun r4 => (if r4 = 0 then some ((1000000001 : Int64), h1) else ((zf_X11_in x4.toInt64 (0 : Int64) (1 : Int64)).bind (fun r5 => (if r5 = 0 then some ((1000000001 : Int64), h1) else ((zl_X11_rain_63 x2 x3 zFU (1 : Int64) (0 : Int32)).bind (fun v8 => ((zf_X11_think h1).bind (fun r9 => ((zl_X11_rain_89 x1 x2 x3 zFU (0 : Int64) (0 : Int32) r9).bind (fun v24 => ((zf_X11_partOf v24.1 v8 x4).bind (fun r25 => some (r25, v24.2)))))))))))))))))))))))
set_option maxRecDepth 100000 in
set_option maxHeartbeats 4000000 in
theorem zt_X11_rain (x1 : Int32) (x2 : Int32) (x3 : Int32) (x4 : Int32) (h : zHp) {r : (Int64 × zHp)} (hr : (zf_X11_rain x1 x2 x3 x4 h) = some r) : zc_Cn zM_X11_rain [.ref 60, .int x1, .int x2, .int x3, .int x4] h (zc_mL r) := by
  refine zc_meth (mk := zc_mL) (o := (zf_X11_rain x1 x2 x3 x4 h)) (by decide +kernel) (Nat.le_of_ble_eq_true rfl) ?_ hr
  unfold zf_X11_rain
  refine zc_sL (ls1 := [some (.ref 60), some (.int x1), some (.int x2), some (.int x3), some (.int x4), none, none, none, none, none, none, none, none]) rfl ?_
  refine zc_aload_n (pc := 0) dX11_rain_0 rfl rfl ?_
  refine zc_iconst (pc := 1) (0 : Int32) dX11_rain_1 (by decide) ?_
  refine zc_putI (pc := 2) zF_X11_68 rfl dX11_rain_2 ?_
  refine zc_letH (fun h1 _ => ?_)
  refine zc_aload_n (pc := 5) dX11_rain_5 rfl rfl ?_
  refine zc_iload_n (pc := 6) dX11_rain_6 rfl rfl ?_
  refine zc_callIp (pc := 7) [.ref 60, .int x1] rfl (zc_runV (ci := 11) (n0 := 0) (q := (RX11, TX11, 35)) zo_X11_isOne ⟨Nat.le_of_ble_eq_true rfl, Nat.le_of_ble_eq_true rfl⟩ zw_1119 zw_1121 zs_28 rfl (by decide) rfl rfl dX11_rain_7) (Nat.le_of_ble_eq_true rfl) (fun _ hr => zt_X11_isOne x1 h1 hr) (fun r2 => ?_)
  refine zc_if_eq (pc := 10) 50 dX11_rain_10 (by decide) (fun _ => ?_) (fun _ => ?_)
  · refine zc_ldc2 (pc := 50) dX11_rain_50 zw_1360 ?_
    exact zc_lretK (pc := 53) dX11_rain_53 rfl ⟨_, rfl, rfl⟩
  · refine zc_iload_n (pc := 13) dX11_rain_13 rfl rfl ?_
    refine zc_i2l (pc := 14) dX11_rain_14 ?_
    refine zc_lconst (pc := 15) (0 : Int64) dX11_rain_15 (by decide) ?_
    refine zc_ldc2 (pc := 16) dX11_rain_16 zw_1070 ?_
    refine zc_callIp (pc := 19) [.long x2.toInt64, .long (0 : Int64), .long (7 : Int64)] rfl (zc_runS zo_X11_in ⟨Nat.le_of_ble_eq_true rfl, Nat.le_of_ble_eq_true rfl⟩ zw_1071 zw_1072 rfl dX11_rain_19) (Nat.le_of_ble_eq_true rfl) (fun _ hr => zt_X11_in x2.toInt64 (0 : Int64) (7 : Int64) h1 hr) (fun r3 => ?_)
    refine zc_if_eq (pc := 22) 50 dX11_rain_22 (by decide) (fun _ => ?_) (fun _ => ?_)
    · refine zc_ldc2 (pc := 50) dX11_rain_50 zw_1360 ?_
      exact zc_lretK (pc := 53) dX11_rain_53 rfl ⟨_, rfl, rfl⟩
    · refine zc_iload_n (pc := 25) dX11_rain_25 rfl rfl ?_
      refine zc_i2l (pc := 26) dX11_rain_26 ?_
      refine zc_ldc2 (pc := 27) dX11_rain_27 zw_1331 ?_
      refine zc_ldc2 (pc := 30) dX11_rain_30 zw_1359 ?_
      refine zc_callIp (pc := 33) [.long x3.toInt64, .long (2 : Int64), .long (20 : Int64)] rfl (zc_runS zo_X11_in ⟨Nat.le_of_ble_eq_true rfl, Nat.le_of_ble_eq_true rfl⟩ zw_1071 zw_1072 rfl dX11_rain_33) (Nat.le_of_ble_eq_true rfl) (fun _ hr => zt_X11_in x3.toInt64 (2 : Int64) (20 : Int64) h1 hr) (fun r4 => ?_)
      refine zc_if_eq (pc := 36) 50 dX11_rain_36 (by decide) (fun _ => ?_) (fun _ => ?_)
      · refine zc_ldc2 (pc := 50) dX11_rain_50 zw_1360 ?_
        exact zc_lretK (pc := 53) dX11_rain_53 rfl ⟨_, rfl, rfl⟩
      · refine zc_iload (pc := 39) dX11_rain_39 rfl ?_
        refine zc_i2l (pc := 41) dX11_rain_41 ?_
        refine zc_lconst (pc := 42) (0 : Int64) dX11_rain_42 (by decide) ?_
        refine zc_lconst (pc := 43) (1 : Int64) dX11_rain_43 (by decide) ?_
        refine zc_callIp (pc := 44) [.long x4.toInt64, .long (0 : Int64), .long (1 : Int64)] rfl (zc_runS zo_X11_in ⟨Nat.le_of_ble_eq_true rfl, Nat.le_of_ble_eq_true rfl⟩ zw_1071 zw_1072 rfl dX11_rain_44) (Nat.le_of_ble_eq_true rfl) (fun _ hr => zt_X11_in x4.toInt64 (0 : Int64) (1 : Int64) h1 hr) (fun r5 => ?_)
        refine zc_if_ne (pc := 47) 54 dX11_rain_47 (by decide) (fun _ => ?_) (fun _ => ?_)
        · refine zc_ldc2 (pc := 50) dX11_rain_50 zw_1360 ?_
          exact zc_lretK (pc := 53) dX11_rain_53 rfl ⟨_, rfl, rfl⟩
        · refine zc_lconst (pc := 54) (0 : Int64) dX11_rain_54 (by decide) ?_
          refine zc_lstore (pc := 55) dX11_rain_55 (Nat.le_of_ble_eq_true rfl) rfl (Nat.le_of_ble_eq_true rfl) ?_
          refine zc_sL (ls1 := [some (.ref 60), some (.int x1), some (.int x2), some (.int x3), some (.int x4), some (.long (0 : Int64)), none, none, none, none, none, none, none]) rfl ?_
          refine zc_lconst (pc := 57) (1 : Int64) dX11_rain_57 (by decide) ?_
          refine zc_lstore (pc := 58) dX11_rain_58 (Nat.le_of_ble_eq_true rfl) rfl (Nat.le_of_ble_eq_true rfl) ?_
          refine zc_sL (ls1 := [some (.ref 60), some (.int x1), some (.int x2), some (.int x3), some (.int x4), some (.long (0 : Int64)), none, some (.long (1 : Int64)), none, none, none, none, none]) rfl ?_
          refine zc_iconst (pc := 60) (0 : Int32) dX11_rain_60 (by decide) ?_
          refine zc_istore (pc := 61) dX11_rain_61 (Nat.le_of_ble_eq_true rfl) rfl (Nat.le_of_ble_eq_true rfl) ?_
          refine zc_sL (ls1 := [some (.ref 60), some (.int x1), some (.int x2), some (.int x3), some (.int x4), some (.long (0 : Int64)), none, some (.long (1 : Int64)), none, some (.int (0 : Int32)), none, none, none]) rfl ?_
          refine zc_sL (ls1 := [some (.ref 60), some (.int x1), some (.int x2), some (.int x3), some (.int x4), some (.long (0 : Int64)), none, some (.long (1 : Int64)), none, some (.int (0 : Int32)), none, none, none]) rfl ?_
          refine zc_loop 82 (fun v8 => [some (.ref 60), some (.int x1), some (.int x2), some (.int x3), some (.int x4), some (.long (0 : Int64)), none, some (.long v8), none, none, none, none, none]) (fun v8 => []) (fun v8 => h1) (fun v8 => ?_) (fun k27 J26 => ?_)
          · refine zc_aload_n (pc := 82) dX11_rain_82 rfl rfl ?_
            refine zc_callV (pc := 83) [.ref 60] rfl (zc_runV (ci := 11) (n0 := 0) (q := (RX11, TX11, 35)) zo_X11_think ⟨Nat.le_of_ble_eq_true rfl, Nat.le_of_ble_eq_true rfl⟩ zw_1095 zw_1097 zs_23 rfl (by decide) rfl rfl dX11_rain_83) (Nat.le_of_ble_eq_true rfl) (fun _ hr => zt_X11_think h1 hr) (fun r9 => ?_)
            refine zc_iconst (pc := 86) (0 : Int32) dX11_rain_86 (by decide) ?_
            refine zc_istore (pc := 87) dX11_rain_87 (Nat.le_of_ble_eq_true rfl) rfl (Nat.le_of_ble_eq_true rfl) ?_
            refine zc_sL (ls1 := [some (.ref 60), some (.int x1), some (.int x2), some (.int x3), some (.int x4), some (.long (0 : Int64)), none, some (.long v8), none, some (.int (0 : Int32)), none, none, none]) rfl ?_
            refine zc_sL (ls1 := [some (.ref 60), some (.int x1), some (.int x2), some (.int x3), some (.int x4), some (.long (0 : Int64)), none, some (.long v8), none, some (.int (0 : Int32)), none, none, none]) rfl ?_
            refine zc_loop 178 (fun v24 => [none, none, none, none, some (.int x4), some (.long v24.1), none, some (.long v8), none, none, none, none, none]) (fun v24 => []) (fun v24 => v24.2) (fun v24 => ?_) (fun k30 J29 => ?_)
            · refine zc_lload (pc := 178) dX11_rain_178 rfl ?_
              refine zc_lload (pc := 180) dX11_rain_180 rfl ?_
              refine zc_iload (pc := 182) dX11_rain_182 rfl ?_
              refine zc_callLp (pc := 184) [.long v24.1, .long v8, .int x4] rfl (zc_runS zo_X11_partOf ⟨Nat.le_of_ble_eq_true rfl, Nat.le_of_ble_eq_true rfl⟩ zw_1361 zw_1362 rfl dX11_rain_184) (Nat.le_of_ble_eq_true rfl) (fun _ hr => zt_X11_partOf v24.1 v8 x4 v24.2 hr) (fun r25 => ?_)
              exact zc_lretK (pc := 187) dX11_rain_187 rfl ⟨_, rfl, rfl⟩
            · have L32 : ∀ (fu : Nat) (y10 : Int64) (y11 : Int32) (h12 : zHp), zc_G zM_X11_rain zc_mL 89 [some (.ref 60), some (.int x1), some (.int x2), some (.int x3), some (.int x4), some (.long y10), none, some (.long v8), none, some (.int y11), none, none, none] [] h12 ((zl_X11_rain_89 x1 x2 x3 fu y10 y11 h12).bind k30) := by
                  intro fu
                  induction fu with
                  | zero => intros; exact zc_noneb
                  | succ fu ih33 =>
                    intro y10 y11 h12
                    unfold zl_X11_rain_89
                    refine zc_iload (pc := 89) dX11_rain_89 rfl ?_
                    refine zc_iconst (pc := 91) (1 : Int32) dX11_rain_91 (by decide) ?_
                    refine zc_iload_n (pc := 92) dX11_rain_92 rfl rfl ?_
                    refine zc_ishl (pc := 93) dX11_rain_93 ?_
                    refine zc_icmp_ge (pc := 94) 178 dX11_rain_94 (by decide) (fun _ => ?_) (fun _ => ?_)
                    · refine zc_drop 0 ?_
                      refine zc_drop 1 ?_
                      refine zc_drop 2 ?_
                      refine zc_drop 3 ?_
                      refine zc_drop 9 ?_
                      exact J29 (y10, h12)
                    · refine zc_lconst (pc := 97) (1 : Int64) dX11_rain_97 (by decide) ?_
                      refine zc_lstore (pc := 98) dX11_rain_98 (Nat.le_of_ble_eq_true rfl) rfl (Nat.le_of_ble_eq_true rfl) ?_
                      refine zc_sL (ls1 := [some (.ref 60), some (.int x1), some (.int x2), some (.int x3), some (.int x4), some (.long y10), none, some (.long v8), none, some (.int y11), some (.long (1 : Int64)), none, none]) rfl ?_
                      refine zc_iconst (pc := 100) (0 : Int32) dX11_rain_100 (by decide) ?_
                      refine zc_istore (pc := 101) dX11_rain_101 (Nat.le_of_ble_eq_true rfl) rfl (Nat.le_of_ble_eq_true rfl) ?_
                      refine zc_sL (ls1 := [some (.ref 60), some (.int x1), some (.int x2), some (.int x3), some (.int x4), some (.long y10), none, some (.long v8), none, some (.int y11), some (.long (1 : Int64)), none, some (.int (0 : Int32))]) rfl ?_
                      refine zc_sL (ls1 := [some (.ref 60), some (.int x1), some (.int x2), some (.int x3), some (.int x4), some (.long y10), none, some (.long v8), none, some (.int y11), some (.long (1 : Int64)), none, some (.int (0 : Int32))]) rfl ?_
                      refine zc_loop 149 (fun v20 => [some (.ref 60), some (.int x1), some (.int x2), some (.int x3), some (.int x4), some (.long y10), none, some (.long v8), none, some (.int y11), some (.long v20.1), none, none]) (fun v20 => []) (fun v20 => v20.2) (fun v20 => ?_) (fun k35 J34 => ?_)
                      · refine zc_lload (pc := 149) dX11_rain_149 rfl ?_
                        refine zc_aload_n (pc := 151) dX11_rain_151 rfl rfl ?_
                        refine zc_iload_n (pc := 152) dX11_rain_152 rfl rfl ?_
                        refine zc_callIp (pc := 153) [.ref 60, .int x1] rfl (zc_runV (ci := 11) (n0 := 0) (q := (RX11, TX11, 35)) zo_X11_isAble ⟨Nat.le_of_ble_eq_true rfl, Nat.le_of_ble_eq_true rfl⟩ zw_1136 zw_1138 zs_32 rfl (by decide) rfl rfl dX11_rain_153) (Nat.le_of_ble_eq_true rfl) (fun _ hr => zt_X11_isAble x1 v20.2 hr) (fun r21 => ?_)
                        refine zc_join 165 (fun v22 => [some (.ref 60), some (.int x1), some (.int x2), some (.int x3), some (.int x4), none, none, some (.long v8), none, some (.int y11), none, none, none]) (fun v22 => [.long v22, .long y10]) (fun v22 => v20.2) (fun v22 => ?_) (fun J37 => ?_)
                        · refine zc_ladd (pc := 165) dX11_rain_165 ?_
                          refine zc_lstore (pc := 166) dX11_rain_166 (Nat.le_of_ble_eq_true rfl) rfl (Nat.le_of_ble_eq_true rfl) ?_
                          refine zc_sL (ls1 := [some (.ref 60), some (.int x1), some (.int x2), some (.int x3), some (.int x4), some (.long (y10 + v22)), none, some (.long v8), none, some (.int y11), none, none, none]) rfl ?_
                          refine zc_aload_n (pc := 168) dX11_rain_168 rfl rfl ?_
                          refine zc_callV (pc := 169) [.ref 60] rfl (zc_runV (ci := 11) (n0 := 0) (q := (RX11, TX11, 35)) zo_X11_again ⟨Nat.le_of_ble_eq_true rfl, Nat.le_of_ble_eq_true rfl⟩ zw_1170 zw_1172 zs_39 rfl (by decide) rfl rfl dX11_rain_169) (Nat.le_of_ble_eq_true rfl) (fun _ hr => zt_X11_again v20.2 hr) (fun r23 => ?_)
                          refine zc_iinc (pc := 172) (1 : Int32) dX11_rain_172 (by decide) rfl (Nat.le_of_ble_eq_true rfl) rfl ?_
                          refine zc_sL (ls1 := [some (.ref 60), some (.int x1), some (.int x2), some (.int x3), some (.int x4), some (.long (y10 + v22)), none, some (.long v8), none, some (.int (y11 + (1 : Int32))), none, none, none]) rfl ?_
                          refine zc_goto (pc := 175) 89 dX11_rain_175 (by decide) ?_
                          exact ih33 (y10 + v22) (y11 + (1 : Int32)) r23
                        · refine zc_if_eq (pc := 156) 164 dX11_rain_156 (by decide) (fun _ => ?_) (fun _ => ?_)
                          · refine zc_lconst (pc := 164) (0 : Int64) dX11_rain_164 (by decide) ?_
                            refine zc_drop 5 ?_
                            refine zc_drop 10 ?_
                            exact J37 (0 : Int64)
                          · refine zc_lload (pc := 159) dX11_rain_159 rfl ?_
                            refine zc_goto (pc := 161) 165 dX11_rain_161 (by decide) ?_
                            refine zc_drop 5 ?_
                            refine zc_drop 10 ?_
                            exact J37 v20.1
                      · have L38 : ∀ (fu : Nat) (y13 : Int64) (y14 : Int32) (h15 : zHp), zc_G zM_X11_rain zc_mL 103 [some (.ref 60), some (.int x1), some (.int x2), some (.int x3), some (.int x4), some (.long y10), none, some (.long v8), none, some (.int y11), some (.long y13), none, some (.int y14)] [] h15 ((zl_X11_rain_103 x2 x3 y11 fu y13 y14 h15).bind k35) := by
                            intro fu
                            induction fu with
                            | zero => intros; exact zc_noneb
                            | succ fu ih39 =>
                              intro y13 y14 h15
                              unfold zl_X11_rain_103
                              refine zc_iload (pc := 103) dX11_rain_103 rfl ?_
                              refine zc_iload_n (pc := 105) dX11_rain_105 rfl rfl ?_
                              refine zc_icmp_ge (pc := 106) 149 dX11_rain_106 (by decide) (fun _ => ?_) (fun _ => ?_)
                              · refine zc_drop 12 ?_
                                exact J34 (y13, h15)
                              · refine zc_lload (pc := 109) dX11_rain_109 rfl ?_
                                refine zc_iload (pc := 111) dX11_rain_111 rfl ?_
                                refine zc_iload (pc := 113) dX11_rain_113 rfl ?_
                                refine zc_callIp (pc := 115) [.int y11, .int y14] rfl (zc_runS zo_X11_hasBit ⟨Nat.le_of_ble_eq_true rfl, Nat.le_of_ble_eq_true rfl⟩ zw_1292 zw_1293 rfl dX11_rain_115) (Nat.le_of_ble_eq_true rfl) (fun _ hr => zt_X11_hasBit y11 y14 h15 hr) (fun r16 => ?_)
                                refine zc_join 129 (fun v17 => [some (.ref 60), some (.int x1), some (.int x2), some (.int x3), some (.int x4), some (.long y10), none, some (.long v8), none, some (.int y11), none, none, some (.int y14)]) (fun v17 => [.long v17, .long y13]) (fun v17 => h15) (fun v17 => ?_) (fun J40 => ?_)
                                · refine zc_lmul (pc := 129) dX11_rain_129 ?_
                                  refine zc_lstore (pc := 130) dX11_rain_130 (Nat.le_of_ble_eq_true rfl) rfl (Nat.le_of_ble_eq_true rfl) ?_
                                  refine zc_sL (ls1 := [some (.ref 60), some (.int x1), some (.int x2), some (.int x3), some (.int x4), some (.long y10), none, some (.long v8), none, some (.int y11), some (.long (y13 * v17)), none, some (.int y14)]) rfl ?_
                                  refine zc_aload_n (pc := 132) dX11_rain_132 rfl rfl ?_
                                  refine zc_iload (pc := 133) dX11_rain_133 rfl ?_
                                  refine zc_iload (pc := 135) dX11_rain_135 rfl ?_
                                  refine zc_callIp (pc := 137) [.int y11, .int y14] rfl (zc_runS zo_X11_hasBit ⟨Nat.le_of_ble_eq_true rfl, Nat.le_of_ble_eq_true rfl⟩ zw_1292 zw_1293 rfl dX11_rain_137) (Nat.le_of_ble_eq_true rfl) (fun _ hr => zt_X11_hasBit y11 y14 h15 hr) (fun r18 => ?_)
                                  refine zc_callV (pc := 140) [.ref 60, .int r18] rfl (zc_runV (ci := 11) (n0 := 0) (q := (RX11, TX11, 35)) zo_X11_dayBy ⟨Nat.le_of_ble_eq_true rfl, Nat.le_of_ble_eq_true rfl⟩ zw_1132 zw_1134 zs_31 rfl (by decide) rfl rfl dX11_rain_140) (Nat.le_of_ble_eq_true rfl) (fun _ hr => zt_X11_dayBy r18 h15 hr) (fun r19 => ?_)
                                  refine zc_iinc (pc := 143) (1 : Int32) dX11_rain_143 (by decide) rfl (Nat.le_of_ble_eq_true rfl) rfl ?_
                                  refine zc_sL (ls1 := [some (.ref 60), some (.int x1), some (.int x2), some (.int x3), some (.int x4), some (.long y10), none, some (.long v8), none, some (.int y11), some (.long (y13 * v17)), none, some (.int (y14 + (1 : Int32)))]) rfl ?_
                                  refine zc_goto (pc := 146) 103 dX11_rain_146 (by decide) ?_
                                  exact ih39 (y13 * v17) (y14 + (1 : Int32)) r19
                                · refine zc_if_eq (pc := 118) 125 dX11_rain_118 (by decide) (fun _ => ?_) (fun _ => ?_)
                                  · refine zc_iload_n (pc := 125) dX11_rain_125 rfl rfl ?_
                                    refine zc_iconst (pc := 126) (1 : Int32) dX11_rain_126 (by decide) ?_
                                    refine zc_isub (pc := 127) dX11_rain_127 ?_
                                    refine zc_i2l (pc := 128) dX11_rain_128 ?_
                                    refine zc_drop 10 ?_
                                    exact J40 ((x3 - (1 : Int32)).toInt64)
                                  · refine zc_lconst (pc := 121) (1 : Int64) dX11_rain_121 (by decide) ?_
                                    refine zc_goto (pc := 122) 129 dX11_rain_122 (by decide) ?_
                                    refine zc_drop 10 ?_
                                    exact J40 (1 : Int64)
                        exact L38 zFU (1 : Int64) (0 : Int32) h12
              exact L32 zFU (0 : Int64) (0 : Int32) r9
          · have L41 : ∀ (fu : Nat) (y6 : Int64) (y7 : Int32), zc_G zM_X11_rain zc_mL 63 [some (.ref 60), some (.int x1), some (.int x2), some (.int x3), some (.int x4), some (.long (0 : Int64)), none, some (.long y6), none, some (.int y7), none, none, none] [] h1 ((zl_X11_rain_63 x2 x3 fu y6 y7).bind k27) := by
                intro fu
                induction fu with
                | zero => intros; exact zc_noneb
                | succ fu ih42 =>
                  intro y6 y7
                  unfold zl_X11_rain_63
                  refine zc_iload (pc := 63) dX11_rain_63 rfl ?_
                  refine zc_iload_n (pc := 65) dX11_rain_65 rfl rfl ?_
                  refine zc_icmp_ge (pc := 66) 82 dX11_rain_66 (by decide) (fun _ => ?_) (fun _ => ?_)
                  · refine zc_drop 9 ?_
                    exact J26 y6
                  · refine zc_lload (pc := 69) dX11_rain_69 rfl ?_
                    refine zc_iload_n (pc := 71) dX11_rain_71 rfl rfl ?_
                    refine zc_i2l (pc := 72) dX11_rain_72 ?_
                    refine zc_lmul (pc := 73) dX11_rain_73 ?_
                    refine zc_lstore (pc := 74) dX11_rain_74 (Nat.le_of_ble_eq_true rfl) rfl (Nat.le_of_ble_eq_true rfl) ?_
                    refine zc_sL (ls1 := [some (.ref 60), some (.int x1), some (.int x2), some (.int x3), some (.int x4), some (.long (0 : Int64)), none, some (.long (y6 * x3.toInt64)), none, some (.int y7), none, none, none]) rfl ?_
                    refine zc_iinc (pc := 76) (1 : Int32) dX11_rain_76 (by decide) rfl (Nat.le_of_ble_eq_true rfl) rfl ?_
                    refine zc_sL (ls1 := [some (.ref 60), some (.int x1), some (.int x2), some (.int x3), some (.int x4), some (.long (0 : Int64)), none, some (.long (y6 * x3.toInt64)), none, some (.int (y7 + (1 : Int32))), none, none, none]) rfl ?_
                    refine zc_goto (pc := 79) 63 dX11_rain_79 (by decide) ?_
                    exact ih42 (y6 * x3.toInt64) (y7 + (1 : Int32))
            exact L41 zFU (1 : Int64) (0 : Int32)
def zf_X11_mean (x1 : Int32) (h : zHp) : Option (Int64 × zHp) :=
  ((some (zc_ui h 60 17 (0 : Int32)) : Option zHp).bind (fun h1 => ((zf_X11_in x1.toInt64 (0 : Int64) (1 : Int64)).bind (fun r2 => (if r2 = 0 then some ((1000000001 : Int64), h1) else ((zf_X11_allStock h1).bind (fun r3 => ((zf_X11_partOf r3.toInt64 ((h1.1 60 3).toInt64) x1).bind (fun r4 => some (r4, h1))))))))))
set_option maxRecDepth 100000 in
set_option maxHeartbeats 4000000 in
theorem zt_X11_mean (x1 : Int32) (h : zHp) {r : (Int64 × zHp)} (hr : (zf_X11_mean x1 h) = some r) : zc_Cn zM_X11_mean [.ref 60, .int x1] h (zc_mL r) := by
  refine zc_meth (mk := zc_mL) (o := (zf_X11_mean x1 h)) (by decide +kernel) (Nat.le_of_ble_eq_true rfl) ?_ hr
  unfold zf_X11_mean
  refine zc_sL (ls1 := [some (.ref 60), some (.int x1)]) rfl ?_
  refine zc_aload_n (pc := 0) dX11_mean_0 rfl rfl ?_
  refine zc_iconst (pc := 1) (0 : Int32) dX11_mean_1 (by decide) ?_
  refine zc_putI (pc := 2) zF_X11_68 rfl dX11_mean_2 ?_
  refine zc_letH (fun h1 _ => ?_)
  refine zc_iload_n (pc := 5) dX11_mean_5 rfl rfl ?_
  refine zc_i2l (pc := 6) dX11_mean_6 ?_
  refine zc_lconst (pc := 7) (0 : Int64) dX11_mean_7 (by decide) ?_
  refine zc_lconst (pc := 8) (1 : Int64) dX11_mean_8 (by decide) ?_
  refine zc_callIp (pc := 9) [.long x1.toInt64, .long (0 : Int64), .long (1 : Int64)] rfl (zc_runS zo_X11_in ⟨Nat.le_of_ble_eq_true rfl, Nat.le_of_ble_eq_true rfl⟩ zw_1071 zw_1072 rfl dX11_mean_9) (Nat.le_of_ble_eq_true rfl) (fun _ hr => zt_X11_in x1.toInt64 (0 : Int64) (1 : Int64) h1 hr) (fun r2 => ?_)
  refine zc_if_eq (pc := 12) 32 dX11_mean_12 (by decide) (fun _ => ?_) (fun _ => ?_)
  · refine zc_ldc2 (pc := 32) dX11_mean_32 zw_1360 ?_
    exact zc_lretK (pc := 35) dX11_mean_35 rfl ⟨_, rfl, rfl⟩
  · refine zc_aload_n (pc := 15) dX11_mean_15 rfl rfl ?_
    refine zc_callIp (pc := 16) [.ref 60] rfl (zc_runV (ci := 11) (n0 := 0) (q := (RX11, TX11, 35)) zo_X11_allStock ⟨Nat.le_of_ble_eq_true rfl, Nat.le_of_ble_eq_true rfl⟩ zw_1221 zw_1223 zs_41 rfl (by decide) rfl rfl dX11_mean_16) (Nat.le_of_ble_eq_true rfl) (fun _ hr => zt_X11_allStock h1 hr) (fun r3 => ?_)
    refine zc_i2l (pc := 19) dX11_mean_19 ?_
    refine zc_aload_n (pc := 20) dX11_mean_20 rfl rfl ?_
    refine zc_getI (pc := 21) zF_X11_84 rfl dX11_mean_21 ?_
    refine zc_i2l (pc := 24) dX11_mean_24 ?_
    refine zc_iload_n (pc := 25) dX11_mean_25 rfl rfl ?_
    refine zc_callLp (pc := 26) [.long r3.toInt64, .long ((h1.1 60 3).toInt64), .int x1] rfl (zc_runS zo_X11_partOf ⟨Nat.le_of_ble_eq_true rfl, Nat.le_of_ble_eq_true rfl⟩ zw_1361 zw_1362 rfl dX11_mean_26) (Nat.le_of_ble_eq_true rfl) (fun _ hr => zt_X11_partOf r3.toInt64 ((h1.1 60 3).toInt64) x1 h1 hr) (fun r4 => ?_)
    refine zc_goto (pc := 29) 35 dX11_mean_29 (by decide) ?_
    exact zc_lretK (pc := 35) dX11_mean_35 rfl ⟨_, rfl, rfl⟩
def zl_X11_forged_19 (x1 : Int32) (h1 : zHp) : Nat → Int32 → Option ((Int32 × zHp) ⊕ Unit)
  | 0, _ => none
  | fu + 1, y3 => (if zc_ix x1 8 then (if (h1.1 70 x1.toNatClampNeg) ≤ y3 then some (Sum.inr ()) else (if (h1.1 60 3) ≤ y3 then some (Sum.inl (y3, h1)) else (if zc_ix (((100 : Int32) * x1) + y3) 800 then (if zc_ix y3 7 then (if (lg_cmp (h1.2 71 (((100 : Int32) * x1) + y3).toNatClampNeg) ((h1.1 63 y3.toNatClampNeg).toInt64)) = 0 then zl_X11_forged_19 x1 h1 fu (y3 + (1 : Int32)) else some (Sum.inl (y3, h1))) else none) else none))) else none)
def zf_X11_forged (x1 : Int32) (h : zHp) : Option (Int32 × zHp) :=
  ((some (zc_ui h 60 17 (0 : Int32)) : Option zHp).bind (fun h1 => ((zf_X11_wrongRow x1 h1).bind (fun r2 => (if 0 ≤ r2 then ((zl_X11_forged_19 x1 h1 zFU (0 : Int32)).bind (Sum.elim (fun r => some r) (fun v7 => some ((-4 : Int32), h1)))) else some (r2, h1))))))
set_option maxRecDepth 100000 in
set_option maxHeartbeats 4000000 in
theorem zt_X11_forged (x1 : Int32) (h : zHp) {r : (Int32 × zHp)} (hr : (zf_X11_forged x1 h) = some r) : zc_Cn zM_X11_forged [.ref 60, .int x1] h (zc_mI r) := by
  refine zc_meth (mk := zc_mI) (o := (zf_X11_forged x1 h)) (by decide +kernel) (Nat.le_of_ble_eq_true rfl) ?_ hr
  unfold zf_X11_forged
  refine zc_sL (ls1 := [some (.ref 60), some (.int x1), none, none]) rfl ?_
  refine zc_aload_n (pc := 0) dX11_forged_0 rfl rfl ?_
  refine zc_iconst (pc := 1) (0 : Int32) dX11_forged_1 (by decide) ?_
  refine zc_putI (pc := 2) zF_X11_68 rfl dX11_forged_2 ?_
  refine zc_letH (fun h1 _ => ?_)
  refine zc_aload_n (pc := 5) dX11_forged_5 rfl rfl ?_
  refine zc_iload_n (pc := 6) dX11_forged_6 rfl rfl ?_
  refine zc_callIp (pc := 7) [.ref 60, .int x1] rfl (zc_runV (ci := 11) (n0 := 0) (q := (RX11, TX11, 35)) zo_X11_wrongRow ⟨Nat.le_of_ble_eq_true rfl, Nat.le_of_ble_eq_true rfl⟩ zw_1066 zw_1068 zs_18 rfl (by decide) rfl rfl dX11_forged_7) (Nat.le_of_ble_eq_true rfl) (fun _ hr => zt_X11_wrongRow x1 h1 hr) (fun r2 => ?_)
  refine zc_istore_n (pc := 10) dX11_forged_10 rfl (Nat.le_of_ble_eq_true rfl) rfl (Nat.le_of_ble_eq_true rfl) ?_
  refine zc_sL (ls1 := [some (.ref 60), some (.int x1), some (.int r2), none]) rfl ?_
  refine zc_iload_n (pc := 11) dX11_forged_11 rfl rfl ?_
  refine zc_if_ge (pc := 12) 17 dX11_forged_12 (by decide) (fun _ => ?_) (fun _ => ?_)
  · refine zc_iconst (pc := 17) (0 : Int32) dX11_forged_17 (by decide) ?_
    refine zc_istore_n (pc := 18) dX11_forged_18 rfl (Nat.le_of_ble_eq_true rfl) rfl (Nat.le_of_ble_eq_true rfl) ?_
    refine zc_sL (ls1 := [some (.ref 60), some (.int x1), some (.int r2), some (.int (0 : Int32))]) rfl ?_
    refine zc_drop 2 ?_
    refine zc_sL (ls1 := [some (.ref 60), some (.int x1), none, some (.int (0 : Int32))]) rfl ?_
    refine zc_loopS zc_mI 67 (fun v7 => [none, none, none, none]) (fun v7 => []) (fun v7 => h1) (fun v7 => ?_) (fun z => ⟨_, rfl, rfl⟩) (fun k9 J8 K10 => ?_)
    · refine zc_bipush (pc := 67) (-4 : Int32) dX11_forged_67 (by decide) ?_
      exact zc_iretK (pc := 69) dX11_forged_69 rfl ⟨_, rfl, rfl⟩
    · have L11 : ∀ (fu : Nat) (y3 : Int32), zc_G zM_X11_forged zc_mI 19 [some (.ref 60), some (.int x1), none, some (.int y3)] [] h1 ((zl_X11_forged_19 x1 h1 fu y3).bind k9) := by
          intro fu
          induction fu with
          | zero => intros; exact zc_noneb
          | succ fu ih12 =>
            intro y3
            unfold zl_X11_forged_19
            refine zc_iload_n (pc := 19) dX11_forged_19 rfl rfl ?_
            refine zc_aload_n (pc := 20) dX11_forged_20 rfl rfl ?_
            refine zc_getC (pc := 21) zF_X11_37 rfl dX11_forged_21 ?_
            refine zc_iload_n (pc := 24) dX11_forged_24 rfl rfl ?_
            refine zc_guard (fun g4 => ?_)
            refine zc_aldi (pc := 25) rfl g4 dX11_forged_25 ?_
            refine zc_icmp_ge (pc := 26) 67 dX11_forged_26 (by decide) (fun _ => ?_) (fun _ => ?_)
            · refine zc_drop 0 ?_
              refine zc_drop 1 ?_
              refine zc_drop 3 ?_
              exact J8 ()
            · refine zc_iload_n (pc := 29) dX11_forged_29 rfl rfl ?_
              refine zc_aload_n (pc := 30) dX11_forged_30 rfl rfl ?_
              refine zc_getI (pc := 31) zF_X11_84 rfl dX11_forged_31 ?_
              refine zc_icmp_ge (pc := 34) 59 dX11_forged_34 (by decide) (fun _ => ?_) (fun _ => ?_)
              · refine zc_iload_n (pc := 59) dX11_forged_59 rfl rfl ?_
                exact zc_iretK (pc := 60) dX11_forged_60 rfl (K10 _)
              · refine zc_aload_n (pc := 37) dX11_forged_37 rfl rfl ?_
                refine zc_getC (pc := 38) zF_X11_40 rfl dX11_forged_38 ?_
                refine zc_bipush (pc := 41) (100 : Int32) dX11_forged_41 (by decide) ?_
                refine zc_iload_n (pc := 43) dX11_forged_43 rfl rfl ?_
                refine zc_imul (pc := 44) dX11_forged_44 ?_
                refine zc_iload_n (pc := 45) dX11_forged_45 rfl rfl ?_
                refine zc_iadd (pc := 46) dX11_forged_46 ?_
                refine zc_guard (fun g5 => ?_)
                refine zc_aldl (pc := 47) rfl g5 dX11_forged_47 ?_
                refine zc_aload_n (pc := 48) dX11_forged_48 rfl rfl ?_
                refine zc_getC (pc := 49) zF_X11_16 rfl dX11_forged_49 ?_
                refine zc_iload_n (pc := 52) dX11_forged_52 rfl rfl ?_
                refine zc_guard (fun g6 => ?_)
                refine zc_aldi (pc := 53) rfl g6 dX11_forged_53 ?_
                refine zc_i2l (pc := 54) dX11_forged_54 ?_
                refine zc_lcmp (pc := 55) dX11_forged_55 ?_
                refine zc_if_eq (pc := 56) 61 dX11_forged_56 (by decide) (fun _ => ?_) (fun _ => ?_)
                · refine zc_iinc (pc := 61) (1 : Int32) dX11_forged_61 (by decide) rfl (Nat.le_of_ble_eq_true rfl) rfl ?_
                  refine zc_sL (ls1 := [some (.ref 60), some (.int x1), none, some (.int (y3 + (1 : Int32)))]) rfl ?_
                  refine zc_goto (pc := 64) 19 dX11_forged_64 (by decide) ?_
                  exact ih12 (y3 + (1 : Int32))
                · refine zc_iload_n (pc := 59) dX11_forged_59 rfl rfl ?_
                  exact zc_iretK (pc := 60) dX11_forged_60 rfl (K10 _)
      exact L11 zFU (0 : Int32)
  · refine zc_iload_n (pc := 15) dX11_forged_15 rfl rfl ?_
    exact zc_iretK (pc := 16) dX11_forged_16 rfl ⟨_, rfl, rfl⟩
def zl_X11_judge_27 (x1 : Int32) : Nat → Int32 → Int32 → zHp → Option (Int32 × zHp)
  | 0, _, _, _ => none
  | fu + 1, y4, y5, h6 => (if zc_ix x1 8 then (if (h6.1 70 x1.toNatClampNeg) ≤ y5 then some (y4, h6) else (if 0 ≤ y4 then some (y4, h6) else ((zf_X11_isSkipped x1 y5 h6).bind (fun r8 => (((if r8 = 0 then (if zc_ix (((100 : Int32) * x1) + y5) 800 then ((zf_X11_allStock h6).bind (fun r10 => (if (lg_cmp (h6.2 71 (((100 : Int32) * x1) + y5).toNatClampNeg) r10.toInt64) = 0 then some (-4 : Int32) else some y5))) else none) else some (-4 : Int32)) : Option Int32).bind (fun v11 => ((zf_X11_dayBy (0 : Int32) h6).bind (fun r12 => zl_X11_judge_27 x1 fu v11 (y5 + (1 : Int32)) r12)))))))) else none)
def zf_X11_judge (x1 : Int32) (h : zHp) : Option (Int32 × zHp) :=
  ((some (zc_ui h 60 17 (0 : Int32)) : Option zHp).bind (fun h1 => ((zf_X11_wrongRow x1 h1).bind (fun r2 => (if 0 ≤ r2 then ((zf_X11_think h1).bind (fun r3 => ((zl_X11_judge_27 x1 zFU (-4 : Int32) (0 : Int32) r3).bind (fun v13 => ((zf_X11_again v13.2).bind (fun r14 => some (v13.1, r14))))))) else some (r2, h1))))))
set_option maxRecDepth 100000 in
set_option maxHeartbeats 4000000 in
theorem zt_X11_judge (x1 : Int32) (h : zHp) {r : (Int32 × zHp)} (hr : (zf_X11_judge x1 h) = some r) : zc_Cn zM_X11_judge [.ref 60, .int x1] h (zc_mI r) := by
  refine zc_meth (mk := zc_mI) (o := (zf_X11_judge x1 h)) (by decide +kernel) (Nat.le_of_ble_eq_true rfl) ?_ hr
  unfold zf_X11_judge
  refine zc_sL (ls1 := [some (.ref 60), some (.int x1), none, none, none]) rfl ?_
  refine zc_aload_n (pc := 0) dX11_judge_0 rfl rfl ?_
  refine zc_iconst (pc := 1) (0 : Int32) dX11_judge_1 (by decide) ?_
  refine zc_putI (pc := 2) zF_X11_68 rfl dX11_judge_2 ?_
  refine zc_letH (fun h1 _ => ?_)
  refine zc_aload_n (pc := 5) dX11_judge_5 rfl rfl ?_
  refine zc_iload_n (pc := 6) dX11_judge_6 rfl rfl ?_
  refine zc_callIp (pc := 7) [.ref 60, .int x1] rfl (zc_runV (ci := 11) (n0 := 0) (q := (RX11, TX11, 35)) zo_X11_wrongRow ⟨Nat.le_of_ble_eq_true rfl, Nat.le_of_ble_eq_true rfl⟩ zw_1066 zw_1068 zs_18 rfl (by decide) rfl rfl dX11_judge_7) (Nat.le_of_ble_eq_true rfl) (fun _ hr => zt_X11_wrongRow x1 h1 hr) (fun r2 => ?_)
  refine zc_istore_n (pc := 10) dX11_judge_10 rfl (Nat.le_of_ble_eq_true rfl) rfl (Nat.le_of_ble_eq_true rfl) ?_
  refine zc_sL (ls1 := [some (.ref 60), some (.int x1), some (.int r2), none, none]) rfl ?_
  refine zc_iload_n (pc := 11) dX11_judge_11 rfl rfl ?_
  refine zc_if_ge (pc := 12) 17 dX11_judge_12 (by decide) (fun _ => ?_) (fun _ => ?_)
  · refine zc_bipush (pc := 17) (-4 : Int32) dX11_judge_17 (by decide) ?_
    refine zc_istore_n (pc := 19) dX11_judge_19 rfl (Nat.le_of_ble_eq_true rfl) rfl (Nat.le_of_ble_eq_true rfl) ?_
    refine zc_sL (ls1 := [some (.ref 60), some (.int x1), some (.int r2), some (.int (-4 : Int32)), none]) rfl ?_
    refine zc_aload_n (pc := 20) dX11_judge_20 rfl rfl ?_
    refine zc_callV (pc := 21) [.ref 60] rfl (zc_runV (ci := 11) (n0 := 0) (q := (RX11, TX11, 35)) zo_X11_think ⟨Nat.le_of_ble_eq_true rfl, Nat.le_of_ble_eq_true rfl⟩ zw_1095 zw_1097 zs_23 rfl (by decide) rfl rfl dX11_judge_21) (Nat.le_of_ble_eq_true rfl) (fun _ hr => zt_X11_think h1 hr) (fun r3 => ?_)
    refine zc_iconst (pc := 24) (0 : Int32) dX11_judge_24 (by decide) ?_
    refine zc_istore (pc := 25) dX11_judge_25 (Nat.le_of_ble_eq_true rfl) rfl (Nat.le_of_ble_eq_true rfl) ?_
    refine zc_sL (ls1 := [some (.ref 60), some (.int x1), some (.int r2), some (.int (-4 : Int32)), some (.int (0 : Int32))]) rfl ?_
    refine zc_drop 2 ?_
    refine zc_sL (ls1 := [some (.ref 60), some (.int x1), none, some (.int (-4 : Int32)), some (.int (0 : Int32))]) rfl ?_
    refine zc_loop 92 (fun v13 => [some (.ref 60), none, none, some (.int v13.1), none]) (fun v13 => []) (fun v13 => v13.2) (fun v13 => ?_) (fun k16 J15 => ?_)
    · refine zc_aload_n (pc := 92) dX11_judge_92 rfl rfl ?_
      refine zc_callV (pc := 93) [.ref 60] rfl (zc_runV (ci := 11) (n0 := 0) (q := (RX11, TX11, 35)) zo_X11_again ⟨Nat.le_of_ble_eq_true rfl, Nat.le_of_ble_eq_true rfl⟩ zw_1170 zw_1172 zs_39 rfl (by decide) rfl rfl dX11_judge_93) (Nat.le_of_ble_eq_true rfl) (fun _ hr => zt_X11_again v13.2 hr) (fun r14 => ?_)
      refine zc_iload_n (pc := 96) dX11_judge_96 rfl rfl ?_
      exact zc_iretK (pc := 97) dX11_judge_97 rfl ⟨_, rfl, rfl⟩
    · have L18 : ∀ (fu : Nat) (y4 : Int32) (y5 : Int32) (h6 : zHp), zc_G zM_X11_judge zc_mI 27 [some (.ref 60), some (.int x1), none, some (.int y4), some (.int y5)] [] h6 ((zl_X11_judge_27 x1 fu y4 y5 h6).bind k16) := by
          intro fu
          induction fu with
          | zero => intros; exact zc_noneb
          | succ fu ih19 =>
            intro y4 y5 h6
            unfold zl_X11_judge_27
            refine zc_iload (pc := 27) dX11_judge_27 rfl ?_
            refine zc_aload_n (pc := 29) dX11_judge_29 rfl rfl ?_
            refine zc_getC (pc := 30) zF_X11_37 rfl dX11_judge_30 ?_
            refine zc_iload_n (pc := 33) dX11_judge_33 rfl rfl ?_
            refine zc_guard (fun g7 => ?_)
            refine zc_aldi (pc := 34) rfl g7 dX11_judge_34 ?_
            refine zc_icmp_ge (pc := 35) 92 dX11_judge_35 (by decide) (fun _ => ?_) (fun _ => ?_)
            · refine zc_drop 1 ?_
              refine zc_drop 4 ?_
              exact J15 (y4, h6)
            · refine zc_iload_n (pc := 38) dX11_judge_38 rfl rfl ?_
              refine zc_if_ge (pc := 39) 92 dX11_judge_39 (by decide) (fun _ => ?_) (fun _ => ?_)
              · refine zc_drop 1 ?_
                refine zc_drop 4 ?_
                exact J15 (y4, h6)
              · refine zc_aload_n (pc := 42) dX11_judge_42 rfl rfl ?_
                refine zc_iload_n (pc := 43) dX11_judge_43 rfl rfl ?_
                refine zc_iload (pc := 44) dX11_judge_44 rfl ?_
                refine zc_callIp (pc := 46) [.ref 60, .int x1, .int y5] rfl (zc_runV (ci := 11) (n0 := 0) (q := (RX11, TX11, 35)) zo_X11_isSkipped ⟨Nat.le_of_ble_eq_true rfl, Nat.le_of_ble_eq_true rfl⟩ zw_1336 zw_1338 zs_51 rfl (by decide) rfl rfl dX11_judge_46) (Nat.le_of_ble_eq_true rfl) (fun _ hr => zt_X11_isSkipped x1 y5 h6 hr) (fun r8 => ?_)
                refine zc_join 80 (fun v11 => [some (.ref 60), some (.int x1), none, none, some (.int y5)]) (fun v11 => [.int v11]) (fun v11 => h6) (fun v11 => ?_) (fun J20 => ?_)
                · refine zc_istore_n (pc := 80) dX11_judge_80 rfl (Nat.le_of_ble_eq_true rfl) rfl (Nat.le_of_ble_eq_true rfl) ?_
                  refine zc_sL (ls1 := [some (.ref 60), some (.int x1), none, some (.int v11), some (.int y5)]) rfl ?_
                  refine zc_aload_n (pc := 81) dX11_judge_81 rfl rfl ?_
                  refine zc_iconst (pc := 82) (0 : Int32) dX11_judge_82 (by decide) ?_
                  refine zc_callV (pc := 83) [.ref 60, .int (0 : Int32)] rfl (zc_runV (ci := 11) (n0 := 0) (q := (RX11, TX11, 35)) zo_X11_dayBy ⟨Nat.le_of_ble_eq_true rfl, Nat.le_of_ble_eq_true rfl⟩ zw_1132 zw_1134 zs_31 rfl (by decide) rfl rfl dX11_judge_83) (Nat.le_of_ble_eq_true rfl) (fun _ hr => zt_X11_dayBy (0 : Int32) h6 hr) (fun r12 => ?_)
                  refine zc_iinc (pc := 86) (1 : Int32) dX11_judge_86 (by decide) rfl (Nat.le_of_ble_eq_true rfl) rfl ?_
                  refine zc_sL (ls1 := [some (.ref 60), some (.int x1), none, some (.int v11), some (.int (y5 + (1 : Int32)))]) rfl ?_
                  refine zc_goto (pc := 89) 27 dX11_judge_89 (by decide) ?_
                  exact ih19 v11 (y5 + (1 : Int32)) r12
                · refine zc_if_ne (pc := 49) 78 dX11_judge_49 (by decide) (fun _ => ?_) (fun _ => ?_)
                  · refine zc_aload_n (pc := 52) dX11_judge_52 rfl rfl ?_
                    refine zc_getC (pc := 53) zF_X11_40 rfl dX11_judge_53 ?_
                    refine zc_bipush (pc := 56) (100 : Int32) dX11_judge_56 (by decide) ?_
                    refine zc_iload_n (pc := 58) dX11_judge_58 rfl rfl ?_
                    refine zc_imul (pc := 59) dX11_judge_59 ?_
                    refine zc_iload (pc := 60) dX11_judge_60 rfl ?_
                    refine zc_iadd (pc := 62) dX11_judge_62 ?_
                    refine zc_guard (fun g9 => ?_)
                    refine zc_aldl (pc := 63) rfl g9 dX11_judge_63 ?_
                    refine zc_aload_n (pc := 64) dX11_judge_64 rfl rfl ?_
                    refine zc_callIp (pc := 65) [.ref 60] rfl (zc_runV (ci := 11) (n0 := 0) (q := (RX11, TX11, 35)) zo_X11_allStock ⟨Nat.le_of_ble_eq_true rfl, Nat.le_of_ble_eq_true rfl⟩ zw_1221 zw_1223 zs_41 rfl (by decide) rfl rfl dX11_judge_65) (Nat.le_of_ble_eq_true rfl) (fun _ hr => zt_X11_allStock h6 hr) (fun r10 => ?_)
                    refine zc_i2l (pc := 68) dX11_judge_68 ?_
                    refine zc_lcmp (pc := 69) dX11_judge_69 ?_
                    refine zc_if_eq (pc := 70) 78 dX11_judge_70 (by decide) (fun _ => ?_) (fun _ => ?_)
                    · refine zc_bipush (pc := 78) (-4 : Int32) dX11_judge_78 (by decide) ?_
                      refine zc_drop 3 ?_
                      exact J20 (-4 : Int32)
                    · refine zc_iload (pc := 73) dX11_judge_73 rfl ?_
                      refine zc_goto (pc := 75) 80 dX11_judge_75 (by decide) ?_
                      refine zc_drop 3 ?_
                      exact J20 y5
                  · refine zc_bipush (pc := 78) (-4 : Int32) dX11_judge_78 (by decide) ?_
                    refine zc_drop 3 ?_
                    exact J20 (-4 : Int32)
      exact L18 zFU (-4 : Int32) (0 : Int32) r3
  · refine zc_iload_n (pc := 15) dX11_judge_15 rfl rfl ?_
    exact zc_iretK (pc := 16) dX11_judge_16 rfl ⟨_, rfl, rfl⟩
def zf_X11_drawBelow (x1 : Int32) (h : zHp) : Option (Int32 × zHp) :=
  ((some (zc_ui h 60 33 (((h.1 60 33) * (1103515245 : Int32)) + (12345 : Int32))) : Option zHp).bind (fun h1 => (if ¬ x1 = 0 then some (((((h1.1 60 33) &&& (2147483647 : Int32)) / (65536 : Int32)) - (((h1.1 60 33) &&& (2147483647 : Int32)) / (65536 : Int32)) / x1 * x1), h1) else none)))
set_option maxRecDepth 100000 in
set_option maxHeartbeats 4000000 in
theorem zt_X11_drawBelow (x1 : Int32) (h : zHp) {r : (Int32 × zHp)} (hr : (zf_X11_drawBelow x1 h) = some r) : zc_Cn zM_X11_drawBelow [.ref 60, .int x1] h (zc_mI r) := by
  refine zc_meth (mk := zc_mI) (o := (zf_X11_drawBelow x1 h)) (by decide +kernel) (Nat.le_of_ble_eq_true rfl) ?_ hr
  unfold zf_X11_drawBelow
  refine zc_sL (ls1 := [some (.ref 60), some (.int x1)]) rfl ?_
  refine zc_aload_n (pc := 0) dX11_drawBelow_0 rfl rfl ?_
  refine zc_aload_n (pc := 1) dX11_drawBelow_1 rfl rfl ?_
  refine zc_getI (pc := 2) zF_X11_293 rfl dX11_drawBelow_2 ?_
  refine zc_ldcw (pc := 5) dX11_drawBelow_5 zw_1387 ?_
  refine zc_imul (pc := 8) dX11_drawBelow_8 ?_
  refine zc_sipush (pc := 9) (12345 : Int32) dX11_drawBelow_9 (by decide) ?_
  refine zc_iadd (pc := 12) dX11_drawBelow_12 ?_
  refine zc_putI (pc := 13) zF_X11_293 rfl dX11_drawBelow_13 ?_
  refine zc_letH (fun h1 _ => ?_)
  refine zc_aload_n (pc := 16) dX11_drawBelow_16 rfl rfl ?_
  refine zc_getI (pc := 17) zF_X11_293 rfl dX11_drawBelow_17 ?_
  refine zc_ldcw (pc := 20) dX11_drawBelow_20 zw_1388 ?_
  refine zc_iand (pc := 23) dX11_drawBelow_23 ?_
  refine zc_ldcw (pc := 24) dX11_drawBelow_24 zw_1389 ?_
  refine zc_idiv (pc := 27) dX11_drawBelow_27 (by decide) ?_
  refine zc_iload_n (pc := 28) dX11_drawBelow_28 rfl rfl ?_
  refine zc_guard (fun g2 => ?_)
  refine zc_irem (pc := 29) dX11_drawBelow_29 g2 ?_
  exact zc_iretK (pc := 30) dX11_drawBelow_30 rfl ⟨_, rfl, rfl⟩
def zl_X11_years_59  : Nat → Int32 → zHp → Option zHp
  | 0, _, _ => none
  | fu + 1, y9, h10 => (if (h10.1 60 3) ≤ y9 then some h10 else ((zf_X11_drawBelow (12 : Int32) h10).bind (fun r11 => (if zc_ix y9 7 then ((some (zc_ui r11.2 63 y9.toNatClampNeg r11.1) : Option zHp).bind (fun h13 => zl_X11_years_59 fu (y9 + (1 : Int32)) h13)) else none))))
def zl_X11_years_50 (x1 : Int32) (x3 : Int32) (h4 : zHp) : Nat → Int32 → Int32 → zHp → Option (Int32 × zHp)
  | 0, _, _, _ => none
  | fu + 1, y6, y7, h8 => (if x1 ≤ y7 then some (y6, h8) else ((zl_X11_years_59 zFU (0 : Int32) h8).bind (fun v14 => ((zf_X11_goDays (12 : Int32) v14).bind (fun r15 => (((if x3 = 0 then ((zf_X11_allStock r15).bind (fun r16 => some r16)) else some ((r15.1 60 9) - (h4.1 60 9))) : Option Int32).bind (fun v17 => ((zf_X11_again r15).bind (fun r18 => zl_X11_years_50 x1 x3 h4 fu (y6 + v17) (y7 + (1 : Int32)) r18)))))))))
def zf_X11_years (x1 : Int32) (x2 : Int32) (x3 : Int32) (h : zHp) : Option (Int32 × zHp) :=
  ((some (zc_ui h 60 17 (0 : Int32)) : Option zHp).bind (fun h1 => ((zf_X11_in x1.toInt64 (1 : Int64) (20 : Int64)).bind (fun r2 => (if r2 = 0 then some ((-1 : Int32), h1) else ((zf_X11_in x3.toInt64 (0 : Int64) (1 : Int64)).bind (fun r3 => (if r3 = 0 then some ((-1 : Int32), h1) else ((some (zc_ui h1 60 33 x2) : Option zHp).bind (fun h4 => ((zf_X11_think h4).bind (fun r5 => ((zl_X11_years_50 x1 x3 h4 zFU (0 : Int32) (0 : Int32) r5).bind (fun v19 => some (v19.1, v19.2)))))))))))))))
set_option maxRecDepth 100000 in
set_option maxHeartbeats 4000000 in
theorem zt_X11_years (x1 : Int32) (x2 : Int32) (x3 : Int32) (h : zHp) {r : (Int32 × zHp)} (hr : (zf_X11_years x1 x2 x3 h) = some r) : zc_Cn zM_X11_years [.ref 60, .int x1, .int x2, .int x3] h (zc_mI r) := by
  refine zc_meth (mk := zc_mI) (o := (zf_X11_years x1 x2 x3 h)) (by decide +kernel) (Nat.le_of_ble_eq_true rfl) ?_ hr
  unfold zf_X11_years
  refine zc_sL (ls1 := [some (.ref 60), some (.int x1), some (.int x2), some (.int x3), none, none, none, none]) rfl ?_
  refine zc_aload_n (pc := 0) dX11_years_0 rfl rfl ?_
  refine zc_iconst (pc := 1) (0 : Int32) dX11_years_1 (by decide) ?_
  refine zc_putI (pc := 2) zF_X11_68 rfl dX11_years_2 ?_
  refine zc_letH (fun h1 _ => ?_)
  refine zc_iload_n (pc := 5) dX11_years_5 rfl rfl ?_
  refine zc_i2l (pc := 6) dX11_years_6 ?_
  refine zc_lconst (pc := 7) (1 : Int64) dX11_years_7 (by decide) ?_
  refine zc_ldc2 (pc := 8) dX11_years_8 zw_1359 ?_
  refine zc_callIp (pc := 11) [.long x1.toInt64, .long (1 : Int64), .long (20 : Int64)] rfl (zc_runS zo_X11_in ⟨Nat.le_of_ble_eq_true rfl, Nat.le_of_ble_eq_true rfl⟩ zw_1071 zw_1072 rfl dX11_years_11) (Nat.le_of_ble_eq_true rfl) (fun _ hr => zt_X11_in x1.toInt64 (1 : Int64) (20 : Int64) h1 hr) (fun r2 => ?_)
  refine zc_if_eq (pc := 14) 27 dX11_years_14 (by decide) (fun _ => ?_) (fun _ => ?_)
  · refine zc_iconst (pc := 27) (-1 : Int32) dX11_years_27 (by decide) ?_
    exact zc_iretK (pc := 28) dX11_years_28 rfl ⟨_, rfl, rfl⟩
  · refine zc_iload_n (pc := 17) dX11_years_17 rfl rfl ?_
    refine zc_i2l (pc := 18) dX11_years_18 ?_
    refine zc_lconst (pc := 19) (0 : Int64) dX11_years_19 (by decide) ?_
    refine zc_lconst (pc := 20) (1 : Int64) dX11_years_20 (by decide) ?_
    refine zc_callIp (pc := 21) [.long x3.toInt64, .long (0 : Int64), .long (1 : Int64)] rfl (zc_runS zo_X11_in ⟨Nat.le_of_ble_eq_true rfl, Nat.le_of_ble_eq_true rfl⟩ zw_1071 zw_1072 rfl dX11_years_21) (Nat.le_of_ble_eq_true rfl) (fun _ hr => zt_X11_in x3.toInt64 (0 : Int64) (1 : Int64) h1 hr) (fun r3 => ?_)
    refine zc_if_ne (pc := 24) 29 dX11_years_24 (by decide) (fun _ => ?_) (fun _ => ?_)
    · refine zc_iconst (pc := 27) (-1 : Int32) dX11_years_27 (by decide) ?_
      exact zc_iretK (pc := 28) dX11_years_28 rfl ⟨_, rfl, rfl⟩
    · refine zc_aload_n (pc := 29) dX11_years_29 rfl rfl ?_
      refine zc_iload_n (pc := 30) dX11_years_30 rfl rfl ?_
      refine zc_putI (pc := 31) zF_X11_293 rfl dX11_years_31 ?_
      refine zc_letH (fun h4 _ => ?_)
      refine zc_iconst (pc := 34) (0 : Int32) dX11_years_34 (by decide) ?_
      refine zc_istore (pc := 35) dX11_years_35 (Nat.le_of_ble_eq_true rfl) rfl (Nat.le_of_ble_eq_true rfl) ?_
      refine zc_sL (ls1 := [some (.ref 60), some (.int x1), some (.int x2), some (.int x3), some (.int (0 : Int32)), none, none, none]) rfl ?_
      refine zc_aload_n (pc := 37) dX11_years_37 rfl rfl ?_
      refine zc_getI (pc := 38) zF_X11_117 rfl dX11_years_38 ?_
      refine zc_istore (pc := 41) dX11_years_41 (Nat.le_of_ble_eq_true rfl) rfl (Nat.le_of_ble_eq_true rfl) ?_
      refine zc_sL (ls1 := [some (.ref 60), some (.int x1), some (.int x2), some (.int x3), some (.int (0 : Int32)), some (.int (h4.1 60 9)), none, none]) rfl ?_
      refine zc_aload_n (pc := 43) dX11_years_43 rfl rfl ?_
      refine zc_callV (pc := 44) [.ref 60] rfl (zc_runV (ci := 11) (n0 := 0) (q := (RX11, TX11, 35)) zo_X11_think ⟨Nat.le_of_ble_eq_true rfl, Nat.le_of_ble_eq_true rfl⟩ zw_1095 zw_1097 zs_23 rfl (by decide) rfl rfl dX11_years_44) (Nat.le_of_ble_eq_true rfl) (fun _ hr => zt_X11_think h4 hr) (fun r5 => ?_)
      refine zc_iconst (pc := 47) (0 : Int32) dX11_years_47 (by decide) ?_
      refine zc_istore (pc := 48) dX11_years_48 (Nat.le_of_ble_eq_true rfl) rfl (Nat.le_of_ble_eq_true rfl) ?_
      refine zc_sL (ls1 := [some (.ref 60), some (.int x1), some (.int x2), some (.int x3), some (.int (0 : Int32)), some (.int (h4.1 60 9)), some (.int (0 : Int32)), none]) rfl ?_
      refine zc_drop 2 ?_
      refine zc_sL (ls1 := [some (.ref 60), some (.int x1), none, some (.int x3), some (.int (0 : Int32)), some (.int (h4.1 60 9)), some (.int (0 : Int32)), none]) rfl ?_
      refine zc_loop 126 (fun v19 => [none, none, none, none, some (.int v19.1), none, none, none]) (fun v19 => []) (fun v19 => v19.2) (fun v19 => ?_) (fun k21 J20 => ?_)
      · refine zc_iload (pc := 126) dX11_years_126 rfl ?_
        exact zc_iretK (pc := 128) dX11_years_128 rfl ⟨_, rfl, rfl⟩
      · have L23 : ∀ (fu : Nat) (y6 : Int32) (y7 : Int32) (h8 : zHp), zc_G zM_X11_years zc_mI 50 [some (.ref 60), some (.int x1), none, some (.int x3), some (.int y6), some (.int (h4.1 60 9)), some (.int y7), none] [] h8 ((zl_X11_years_50 x1 x3 h4 fu y6 y7 h8).bind k21) := by
            intro fu
            induction fu with
            | zero => intros; exact zc_noneb
            | succ fu ih24 =>
              intro y6 y7 h8
              unfold zl_X11_years_50
              refine zc_iload (pc := 50) dX11_years_50 rfl ?_
              refine zc_iload_n (pc := 52) dX11_years_52 rfl rfl ?_
              refine zc_icmp_ge (pc := 53) 126 dX11_years_53 (by decide) (fun _ => ?_) (fun _ => ?_)
              · refine zc_drop 0 ?_
                refine zc_drop 1 ?_
                refine zc_drop 3 ?_
                refine zc_drop 5 ?_
                refine zc_drop 6 ?_
                exact J20 (y6, h8)
              · refine zc_iconst (pc := 56) (0 : Int32) dX11_years_56 (by decide) ?_
                refine zc_istore (pc := 57) dX11_years_57 (Nat.le_of_ble_eq_true rfl) rfl (Nat.le_of_ble_eq_true rfl) ?_
                refine zc_sL (ls1 := [some (.ref 60), some (.int x1), none, some (.int x3), some (.int y6), some (.int (h4.1 60 9)), some (.int y7), some (.int (0 : Int32))]) rfl ?_
                refine zc_sL (ls1 := [some (.ref 60), some (.int x1), none, some (.int x3), some (.int y6), some (.int (h4.1 60 9)), some (.int y7), some (.int (0 : Int32))]) rfl ?_
                refine zc_loop 87 (fun v14 => [some (.ref 60), some (.int x1), none, some (.int x3), some (.int y6), some (.int (h4.1 60 9)), some (.int y7), none]) (fun v14 => []) (fun v14 => v14) (fun v14 => ?_) (fun k26 J25 => ?_)
                · refine zc_aload_n (pc := 87) dX11_years_87 rfl rfl ?_
                  refine zc_bipush (pc := 88) (12 : Int32) dX11_years_88 (by decide) ?_
                  refine zc_callV (pc := 90) [.ref 60, .int (12 : Int32)] rfl (zc_runV (ci := 11) (n0 := 0) (q := (RX11, TX11, 35)) zo_X11_goDays ⟨Nat.le_of_ble_eq_true rfl, Nat.le_of_ble_eq_true rfl⟩ zw_1128 zw_1130 zs_30 rfl (by decide) rfl rfl dX11_years_90) (Nat.le_of_ble_eq_true rfl) (fun _ hr => zt_X11_goDays (12 : Int32) v14 hr) (fun r15 => ?_)
                  refine zc_iload (pc := 93) dX11_years_93 rfl ?_
                  refine zc_iload_n (pc := 95) dX11_years_95 rfl rfl ?_
                  refine zc_join 113 (fun v17 => [some (.ref 60), some (.int x1), none, some (.int x3), none, some (.int (h4.1 60 9)), some (.int y7), none]) (fun v17 => [.int v17, .int y6]) (fun v17 => r15) (fun v17 => ?_) (fun J28 => ?_)
                  · refine zc_iadd (pc := 113) dX11_years_113 ?_
                    refine zc_istore (pc := 114) dX11_years_114 (Nat.le_of_ble_eq_true rfl) rfl (Nat.le_of_ble_eq_true rfl) ?_
                    refine zc_sL (ls1 := [some (.ref 60), some (.int x1), none, some (.int x3), some (.int (y6 + v17)), some (.int (h4.1 60 9)), some (.int y7), none]) rfl ?_
                    refine zc_aload_n (pc := 116) dX11_years_116 rfl rfl ?_
                    refine zc_callV (pc := 117) [.ref 60] rfl (zc_runV (ci := 11) (n0 := 0) (q := (RX11, TX11, 35)) zo_X11_again ⟨Nat.le_of_ble_eq_true rfl, Nat.le_of_ble_eq_true rfl⟩ zw_1170 zw_1172 zs_39 rfl (by decide) rfl rfl dX11_years_117) (Nat.le_of_ble_eq_true rfl) (fun _ hr => zt_X11_again r15 hr) (fun r18 => ?_)
                    refine zc_iinc (pc := 120) (1 : Int32) dX11_years_120 (by decide) rfl (Nat.le_of_ble_eq_true rfl) rfl ?_
                    refine zc_sL (ls1 := [some (.ref 60), some (.int x1), none, some (.int x3), some (.int (y6 + v17)), some (.int (h4.1 60 9)), some (.int (y7 + (1 : Int32))), none]) rfl ?_
                    refine zc_goto (pc := 123) 50 dX11_years_123 (by decide) ?_
                    exact ih24 (y6 + v17) (y7 + (1 : Int32)) r18
                  · refine zc_if_ne (pc := 96) 106 dX11_years_96 (by decide) (fun _ => ?_) (fun _ => ?_)
                    · refine zc_aload_n (pc := 99) dX11_years_99 rfl rfl ?_
                      refine zc_callIp (pc := 100) [.ref 60] rfl (zc_runV (ci := 11) (n0 := 0) (q := (RX11, TX11, 35)) zo_X11_allStock ⟨Nat.le_of_ble_eq_true rfl, Nat.le_of_ble_eq_true rfl⟩ zw_1221 zw_1223 zs_41 rfl (by decide) rfl rfl dX11_years_100) (Nat.le_of_ble_eq_true rfl) (fun _ hr => zt_X11_allStock r15 hr) (fun r16 => ?_)
                      refine zc_goto (pc := 103) 113 dX11_years_103 (by decide) ?_
                      refine zc_drop 4 ?_
                      exact J28 r16
                    · refine zc_aload_n (pc := 106) dX11_years_106 rfl rfl ?_
                      refine zc_getI (pc := 107) zF_X11_117 rfl dX11_years_107 ?_
                      refine zc_iload (pc := 110) dX11_years_110 rfl ?_
                      refine zc_isub (pc := 112) dX11_years_112 ?_
                      refine zc_drop 4 ?_
                      exact J28 ((r15.1 60 9) - (h4.1 60 9))
                · have L29 : ∀ (fu : Nat) (y9 : Int32) (h10 : zHp), zc_G zM_X11_years zc_mI 59 [some (.ref 60), some (.int x1), none, some (.int x3), some (.int y6), some (.int (h4.1 60 9)), some (.int y7), some (.int y9)] [] h10 ((zl_X11_years_59 fu y9 h10).bind k26) := by
                      intro fu
                      induction fu with
                      | zero => intros; exact zc_noneb
                      | succ fu ih30 =>
                        intro y9 h10
                        unfold zl_X11_years_59
                        refine zc_iload (pc := 59) dX11_years_59 rfl ?_
                        refine zc_aload_n (pc := 61) dX11_years_61 rfl rfl ?_
                        refine zc_getI (pc := 62) zF_X11_84 rfl dX11_years_62 ?_
                        refine zc_icmp_ge (pc := 65) 87 dX11_years_65 (by decide) (fun _ => ?_) (fun _ => ?_)
                        · refine zc_drop 7 ?_
                          exact J25 h10
                        · refine zc_aload_n (pc := 68) dX11_years_68 rfl rfl ?_
                          refine zc_getC (pc := 69) zF_X11_16 rfl dX11_years_69 ?_
                          refine zc_iload (pc := 72) dX11_years_72 rfl ?_
                          refine zc_aload_n (pc := 74) dX11_years_74 rfl rfl ?_
                          refine zc_bipush (pc := 75) (12 : Int32) dX11_years_75 (by decide) ?_
                          refine zc_callI (pc := 77) [.ref 60, .int (12 : Int32)] rfl (zc_runV (ci := 11) (n0 := 0) (q := (RX11, TX11, 35)) zo_X11_drawBelow ⟨Nat.le_of_ble_eq_true rfl, Nat.le_of_ble_eq_true rfl⟩ zw_1383 zw_1385 zs_52 rfl (by decide) rfl rfl dX11_years_77) (Nat.le_of_ble_eq_true rfl) (fun _ hr => zt_X11_drawBelow (12 : Int32) h10 hr) (fun r11 => ?_)
                          refine zc_guard (fun g12 => ?_)
                          refine zc_asti (pc := 80) rfl g12 dX11_years_80 ?_
                          refine zc_letH (fun h13 _ => ?_)
                          refine zc_iinc (pc := 81) (1 : Int32) dX11_years_81 (by decide) rfl (Nat.le_of_ble_eq_true rfl) rfl ?_
                          refine zc_sL (ls1 := [some (.ref 60), some (.int x1), none, some (.int x3), some (.int y6), some (.int (h4.1 60 9)), some (.int y7), some (.int (y9 + (1 : Int32)))]) rfl ?_
                          refine zc_goto (pc := 84) 59 dX11_years_84 (by decide) ?_
                          exact ih30 (y9 + (1 : Int32)) h13
                  exact L29 zFU (0 : Int32) h8
        exact L23 zFU (0 : Int32) (0 : Int32) r5
def zf_X11_count (x1 : Int32) (h : zHp) : Option (Int32 × zHp) :=
  ((some (zc_ui h 60 17 (0 : Int32)) : Option zHp).bind (fun h1 => (if x1 = (0 : Int32) then some ((h1.1 60 3), h1) else (if x1 = (1 : Int32) then some ((h1.1 60 10), h1) else (if x1 = (2 : Int32) then some ((h1.1 60 0), h1) else (if x1 = (3 : Int32) then some ((h1.1 60 9), h1) else (if x1 = (4 : Int32) then ((zf_X11_allStock h1).bind (fun r2 => some (r2, h1))) else (if x1 = (5 : Int32) then some ((h1.1 60 1), h1) else (if x1 = (6 : Int32) then some ((h1.1 60 2), h1) else some ((-1 : Int32), h1))))))))))
set_option maxRecDepth 100000 in
set_option maxHeartbeats 4000000 in
theorem zt_X11_count (x1 : Int32) (h : zHp) {r : (Int32 × zHp)} (hr : (zf_X11_count x1 h) = some r) : zc_Cn zM_X11_count [.ref 60, .int x1] h (zc_mI r) := by
  refine zc_meth (mk := zc_mI) (o := (zf_X11_count x1 h)) (by decide +kernel) (Nat.le_of_ble_eq_true rfl) ?_ hr
  unfold zf_X11_count
  refine zc_sL (ls1 := [some (.ref 60), some (.int x1)]) rfl ?_
  refine zc_aload_n (pc := 0) dX11_count_0 rfl rfl ?_
  refine zc_iconst (pc := 1) (0 : Int32) dX11_count_1 (by decide) ?_
  refine zc_putI (pc := 2) zF_X11_68 rfl dX11_count_2 ?_
  refine zc_letH (fun h1 _ => ?_)
  refine zc_iload_n (pc := 5) dX11_count_5 rfl rfl ?_
  refine zc_sw (fun s3 => ?_) (fun s3 => ?_)
  · refine zc_tblIn (pc := 6) (off := 42) 48 s3 dX11_count_6 (by decide) ?_
    refine zc_aload_n (pc := 48) dX11_count_48 rfl rfl ?_
    refine zc_getI (pc := 49) zF_X11_84 rfl dX11_count_49 ?_
    exact zc_iretK (pc := 52) dX11_count_52 rfl ⟨_, rfl, rfl⟩
  refine zc_sw (fun s4 => ?_) (fun s4 => ?_)
  · refine zc_tblIn (pc := 6) (off := 47) 53 s4 dX11_count_6 (by decide) ?_
    refine zc_aload_n (pc := 53) dX11_count_53 rfl rfl ?_
    refine zc_getI (pc := 54) zF_X11_97 rfl dX11_count_54 ?_
    exact zc_iretK (pc := 57) dX11_count_57 rfl ⟨_, rfl, rfl⟩
  refine zc_sw (fun s5 => ?_) (fun s5 => ?_)
  · refine zc_tblIn (pc := 6) (off := 52) 58 s5 dX11_count_6 (by decide) ?_
    refine zc_aload_n (pc := 58) dX11_count_58 rfl rfl ?_
    refine zc_getI (pc := 59) zF_X11_91 rfl dX11_count_59 ?_
    exact zc_iretK (pc := 62) dX11_count_62 rfl ⟨_, rfl, rfl⟩
  refine zc_sw (fun s6 => ?_) (fun s6 => ?_)
  · refine zc_tblIn (pc := 6) (off := 57) 63 s6 dX11_count_6 (by decide) ?_
    refine zc_aload_n (pc := 63) dX11_count_63 rfl rfl ?_
    refine zc_getI (pc := 64) zF_X11_117 rfl dX11_count_64 ?_
    exact zc_iretK (pc := 67) dX11_count_67 rfl ⟨_, rfl, rfl⟩
  refine zc_sw (fun s7 => ?_) (fun s7 => ?_)
  · refine zc_tblIn (pc := 6) (off := 62) 68 s7 dX11_count_6 (by decide) ?_
    refine zc_aload_n (pc := 68) dX11_count_68 rfl rfl ?_
    refine zc_callIp (pc := 69) [.ref 60] rfl (zc_runV (ci := 11) (n0 := 0) (q := (RX11, TX11, 35)) zo_X11_allStock ⟨Nat.le_of_ble_eq_true rfl, Nat.le_of_ble_eq_true rfl⟩ zw_1221 zw_1223 zs_41 rfl (by decide) rfl rfl dX11_count_69) (Nat.le_of_ble_eq_true rfl) (fun _ hr => zt_X11_allStock h1 hr) (fun r2 => ?_)
    exact zc_iretK (pc := 72) dX11_count_72 rfl ⟨_, rfl, rfl⟩
  refine zc_sw (fun s8 => ?_) (fun s8 => ?_)
  · refine zc_tblIn (pc := 6) (off := 67) 73 s8 dX11_count_6 (by decide) ?_
    refine zc_aload_n (pc := 73) dX11_count_73 rfl rfl ?_
    refine zc_getI (pc := 74) zF_X11_72 rfl dX11_count_74 ?_
    exact zc_iretK (pc := 77) dX11_count_77 rfl ⟨_, rfl, rfl⟩
  refine zc_sw (fun s9 => ?_) (fun s9 => ?_)
  · refine zc_tblIn (pc := 6) (off := 72) 78 s9 dX11_count_6 (by decide) ?_
    refine zc_aload_n (pc := 78) dX11_count_78 rfl rfl ?_
    refine zc_getI (pc := 79) zF_X11_75 rfl dX11_count_79 ?_
    exact zc_iretK (pc := 82) dX11_count_82 rfl ⟨_, rfl, rfl⟩
  refine zc_tblD (pc := 6) 83 [0, 1, 2, 3, 4, 5, 6] dX11_count_6 (by decide) (List.forall_mem_cons.mpr ⟨zc_neJ s3 (by decide), (List.forall_mem_cons.mpr ⟨zc_neJ s4 (by decide), (List.forall_mem_cons.mpr ⟨zc_neJ s5 (by decide), (List.forall_mem_cons.mpr ⟨zc_neJ s6 (by decide), (List.forall_mem_cons.mpr ⟨zc_neJ s7 (by decide), (List.forall_mem_cons.mpr ⟨zc_neJ s8 (by decide), (List.forall_mem_cons.mpr ⟨zc_neJ s9 (by decide), (fun _ hm => nomatch hm)⟩)⟩)⟩)⟩)⟩)⟩)⟩) ?_
  refine zc_iconst (pc := 83) (-1 : Int32) dX11_count_83 (by decide) ?_
  exact zc_iretK (pc := 84) dX11_count_84 rfl ⟨_, rfl, rfl⟩
def zf_X11_keep (x1 : Int32) (x2 : Int32) (x3 : Int32) (x4 : Int32) (h : zHp) : Option (Int32 × zHp) :=
  ((some (zc_ui h 60 17 (0 : Int32)) : Option zHp).bind (fun h1 => ((zf_X11_in x1.toInt64 (0 : Int64) (7 : Int64)).bind (fun r2 => (if r2 = 0 then some ((-1 : Int32), h1) else ((zf_X11_in x2.toInt64 (0 : Int64) (1 : Int64)).bind (fun r3 => (if r3 = 0 then some ((-1 : Int32), h1) else (((if x2 = (1 : Int32) then ((zf_X11_in x3.toInt64 (0 : Int64) (7 : Int64)).bind (fun r4 => (if r4 = 0 then some (Sum.inl (some ((-1 : Int32), h1))) else ((zf_X11_in x4.toInt64 (0 : Int64) (9 : Int64)).bind (fun r5 => (if r5 = 0 then some (Sum.inl (some ((-1 : Int32), h1))) else some (Sum.inr ()))))))) else some (Sum.inr ())) : Option (Option (Int32 × zHp) ⊕ Unit)).bind (Sum.elim (fun o => o) (fun v6 => (if zc_ix x1 8 then ((some (zc_ui h1 66 x1.toNatClampNeg x2) : Option zHp).bind (fun h8 => (((if x2 = (1 : Int32) then some x3 else some (0 : Int32)) : Option Int32).bind (fun v9 => (if zc_ix x1 8 then ((some (zc_ui h8 67 x1.toNatClampNeg v9) : Option zHp).bind (fun h11 => (((if x2 = (1 : Int32) then some x4 else some (0 : Int32)) : Option Int32).bind (fun v12 => (if zc_ix x1 8 then ((some (zc_ui h11 68 x1.toNatClampNeg v12) : Option zHp).bind (fun h14 => some ((0 : Int32), h14))) else none))))) else none))))) else none))))))))))))
set_option maxRecDepth 100000 in
set_option maxHeartbeats 4000000 in
theorem zt_X11_keep (x1 : Int32) (x2 : Int32) (x3 : Int32) (x4 : Int32) (h : zHp) {r : (Int32 × zHp)} (hr : (zf_X11_keep x1 x2 x3 x4 h) = some r) : zc_Cn zM_X11_keep [.ref 60, .int x1, .int x2, .int x3, .int x4] h (zc_mI r) := by
  refine zc_meth (mk := zc_mI) (o := (zf_X11_keep x1 x2 x3 x4 h)) (by decide +kernel) (Nat.le_of_ble_eq_true rfl) ?_ hr
  unfold zf_X11_keep
  refine zc_sL (ls1 := [some (.ref 60), some (.int x1), some (.int x2), some (.int x3), some (.int x4)]) rfl ?_
  refine zc_aload_n (pc := 0) dX11_keep_0 rfl rfl ?_
  refine zc_iconst (pc := 1) (0 : Int32) dX11_keep_1 (by decide) ?_
  refine zc_putI (pc := 2) zF_X11_68 rfl dX11_keep_2 ?_
  refine zc_letH (fun h1 _ => ?_)
  refine zc_iload_n (pc := 5) dX11_keep_5 rfl rfl ?_
  refine zc_i2l (pc := 6) dX11_keep_6 ?_
  refine zc_lconst (pc := 7) (0 : Int64) dX11_keep_7 (by decide) ?_
  refine zc_ldc2 (pc := 8) dX11_keep_8 zw_1070 ?_
  refine zc_callIp (pc := 11) [.long x1.toInt64, .long (0 : Int64), .long (7 : Int64)] rfl (zc_runS zo_X11_in ⟨Nat.le_of_ble_eq_true rfl, Nat.le_of_ble_eq_true rfl⟩ zw_1071 zw_1072 rfl dX11_keep_11) (Nat.le_of_ble_eq_true rfl) (fun _ hr => zt_X11_in x1.toInt64 (0 : Int64) (7 : Int64) h1 hr) (fun r2 => ?_)
  refine zc_if_eq (pc := 14) 57 dX11_keep_14 (by decide) (fun _ => ?_) (fun _ => ?_)
  · refine zc_iconst (pc := 57) (-1 : Int32) dX11_keep_57 (by decide) ?_
    exact zc_iretK (pc := 58) dX11_keep_58 rfl ⟨_, rfl, rfl⟩
  · refine zc_iload_n (pc := 17) dX11_keep_17 rfl rfl ?_
    refine zc_i2l (pc := 18) dX11_keep_18 ?_
    refine zc_lconst (pc := 19) (0 : Int64) dX11_keep_19 (by decide) ?_
    refine zc_lconst (pc := 20) (1 : Int64) dX11_keep_20 (by decide) ?_
    refine zc_callIp (pc := 21) [.long x2.toInt64, .long (0 : Int64), .long (1 : Int64)] rfl (zc_runS zo_X11_in ⟨Nat.le_of_ble_eq_true rfl, Nat.le_of_ble_eq_true rfl⟩ zw_1071 zw_1072 rfl dX11_keep_21) (Nat.le_of_ble_eq_true rfl) (fun _ hr => zt_X11_in x2.toInt64 (0 : Int64) (1 : Int64) h1 hr) (fun r3 => ?_)
    refine zc_if_eq (pc := 24) 57 dX11_keep_24 (by decide) (fun _ => ?_) (fun _ => ?_)
    · refine zc_iconst (pc := 57) (-1 : Int32) dX11_keep_57 (by decide) ?_
      exact zc_iretK (pc := 58) dX11_keep_58 rfl ⟨_, rfl, rfl⟩
    · refine zc_iload_n (pc := 27) dX11_keep_27 rfl rfl ?_
      refine zc_iconst (pc := 28) (1 : Int32) dX11_keep_28 (by decide) ?_
      refine zc_joinS 59 (fun v6 => [some (.ref 60), some (.int x1), some (.int x2), some (.int x3), some (.int x4)]) (fun v6 => []) (fun v6 => h1) (fun v6 => ?_) (fun J15 => ?_)
      · refine zc_aload_n (pc := 59) dX11_keep_59 rfl rfl ?_
        refine zc_getC (pc := 60) zF_X11_25 rfl dX11_keep_60 ?_
        refine zc_iload_n (pc := 63) dX11_keep_63 rfl rfl ?_
        refine zc_iload_n (pc := 64) dX11_keep_64 rfl rfl ?_
        refine zc_guard (fun g7 => ?_)
        refine zc_asti (pc := 65) rfl g7 dX11_keep_65 ?_
        refine zc_letH (fun h8 _ => ?_)
        refine zc_aload_n (pc := 66) dX11_keep_66 rfl rfl ?_
        refine zc_getC (pc := 67) zF_X11_28 rfl dX11_keep_67 ?_
        refine zc_iload_n (pc := 70) dX11_keep_70 rfl rfl ?_
        refine zc_iload_n (pc := 71) dX11_keep_71 rfl rfl ?_
        refine zc_iconst (pc := 72) (1 : Int32) dX11_keep_72 (by decide) ?_
        refine zc_join 81 (fun v9 => [some (.ref 60), some (.int x1), some (.int x2), none, some (.int x4)]) (fun v9 => [.int v9, .int x1, .ref 67]) (fun v9 => h8) (fun v9 => ?_) (fun J16 => ?_)
        · refine zc_guard (fun g10 => ?_)
          refine zc_asti (pc := 81) rfl g10 dX11_keep_81 ?_
          refine zc_letH (fun h11 _ => ?_)
          refine zc_aload_n (pc := 82) dX11_keep_82 rfl rfl ?_
          refine zc_getC (pc := 83) zF_X11_31 rfl dX11_keep_83 ?_
          refine zc_iload_n (pc := 86) dX11_keep_86 rfl rfl ?_
          refine zc_iload_n (pc := 87) dX11_keep_87 rfl rfl ?_
          refine zc_iconst (pc := 88) (1 : Int32) dX11_keep_88 (by decide) ?_
          refine zc_join 98 (fun v12 => [none, none, none, none, none]) (fun v12 => [.int v12, .int x1, .ref 68]) (fun v12 => h11) (fun v12 => ?_) (fun J17 => ?_)
          · refine zc_guard (fun g13 => ?_)
            refine zc_asti (pc := 98) rfl g13 dX11_keep_98 ?_
            refine zc_letH (fun h14 _ => ?_)
            refine zc_iconst (pc := 99) (0 : Int32) dX11_keep_99 (by decide) ?_
            exact zc_iretK (pc := 100) dX11_keep_100 rfl ⟨_, rfl, rfl⟩
          · refine zc_icmp_ne (pc := 89) 97 dX11_keep_89 (by decide) (fun _ => ?_) (fun _ => ?_)
            · refine zc_iload (pc := 92) dX11_keep_92 rfl ?_
              refine zc_goto (pc := 94) 98 dX11_keep_94 (by decide) ?_
              refine zc_drop 0 ?_
              refine zc_drop 1 ?_
              refine zc_drop 2 ?_
              refine zc_drop 4 ?_
              exact J17 x4
            · refine zc_iconst (pc := 97) (0 : Int32) dX11_keep_97 (by decide) ?_
              refine zc_drop 0 ?_
              refine zc_drop 1 ?_
              refine zc_drop 2 ?_
              refine zc_drop 4 ?_
              exact J17 (0 : Int32)
        · refine zc_icmp_ne (pc := 73) 80 dX11_keep_73 (by decide) (fun _ => ?_) (fun _ => ?_)
          · refine zc_iload_n (pc := 76) dX11_keep_76 rfl rfl ?_
            refine zc_goto (pc := 77) 81 dX11_keep_77 (by decide) ?_
            refine zc_drop 3 ?_
            exact J16 x3
          · refine zc_iconst (pc := 80) (0 : Int32) dX11_keep_80 (by decide) ?_
            refine zc_drop 3 ?_
            exact J16 (0 : Int32)
      · refine zc_icmp_ne (pc := 29) 59 dX11_keep_29 (by decide) (fun _ => ?_) (fun _ => ?_)
        · refine zc_iload_n (pc := 32) dX11_keep_32 rfl rfl ?_
          refine zc_i2l (pc := 33) dX11_keep_33 ?_
          refine zc_lconst (pc := 34) (0 : Int64) dX11_keep_34 (by decide) ?_
          refine zc_ldc2 (pc := 35) dX11_keep_35 zw_1070 ?_
          refine zc_callIp (pc := 38) [.long x3.toInt64, .long (0 : Int64), .long (7 : Int64)] rfl (zc_runS zo_X11_in ⟨Nat.le_of_ble_eq_true rfl, Nat.le_of_ble_eq_true rfl⟩ zw_1071 zw_1072 rfl dX11_keep_38) (Nat.le_of_ble_eq_true rfl) (fun _ hr => zt_X11_in x3.toInt64 (0 : Int64) (7 : Int64) h1 hr) (fun r4 => ?_)
          refine zc_if_eq (pc := 41) 57 dX11_keep_41 (by decide) (fun _ => ?_) (fun _ => ?_)
          · refine zc_iconst (pc := 57) (-1 : Int32) dX11_keep_57 (by decide) ?_
            exact zc_iretK (pc := 58) dX11_keep_58 rfl ⟨_, rfl, rfl⟩
          · refine zc_iload (pc := 44) dX11_keep_44 rfl ?_
            refine zc_i2l (pc := 46) dX11_keep_46 ?_
            refine zc_lconst (pc := 47) (0 : Int64) dX11_keep_47 (by decide) ?_
            refine zc_ldc2 (pc := 48) dX11_keep_48 zw_1398 ?_
            refine zc_callIp (pc := 51) [.long x4.toInt64, .long (0 : Int64), .long (9 : Int64)] rfl (zc_runS zo_X11_in ⟨Nat.le_of_ble_eq_true rfl, Nat.le_of_ble_eq_true rfl⟩ zw_1071 zw_1072 rfl dX11_keep_51) (Nat.le_of_ble_eq_true rfl) (fun _ hr => zt_X11_in x4.toInt64 (0 : Int64) (9 : Int64) h1 hr) (fun r5 => ?_)
            refine zc_if_ne (pc := 54) 59 dX11_keep_54 (by decide) (fun _ => ?_) (fun _ => ?_)
            · refine zc_iconst (pc := 57) (-1 : Int32) dX11_keep_57 (by decide) ?_
              exact zc_iretK (pc := 58) dX11_keep_58 rfl ⟨_, rfl, rfl⟩
            · exact J15 ()
        · exact J15 ()
def zf_X11_narrowed (x0 : Int32) (x1 : Int32) : Option Int64 :=
  (if x1 = 0 then some x0.toInt8.toInt32.toInt64 else (if x1 = (1 : Int32) then some x0.toInt16.toInt32.toInt64 else some x0.toInt64))
set_option maxRecDepth 100000 in
set_option maxHeartbeats 4000000 in
theorem zt_X11_narrowed (x0 : Int32) (x1 : Int32) (h : zHp) {r : Int64} (hr : (zf_X11_narrowed x0 x1) = some r) : zc_Cn zM_X11_narrowed [.int x0, .int x1] h ((fun r => zc_mL (r, h)) r) := by
  refine zc_meth (mk := (fun r => zc_mL (r, h))) (o := (zf_X11_narrowed x0 x1)) (by decide +kernel) (Nat.le_of_ble_eq_true rfl) ?_ hr
  unfold zf_X11_narrowed
  refine zc_sL (ls1 := [some (.int x0), some (.int x1)]) rfl ?_
  refine zc_iload_n (pc := 0) dX11_narrowed_0 rfl rfl ?_
  refine zc_if_ne (pc := 1) 10 dX11_narrowed_1 (by decide) (fun _ => ?_) (fun _ => ?_)
  · refine zc_iload_n (pc := 4) dX11_narrowed_4 rfl rfl ?_
    refine zc_i2b (pc := 5) dX11_narrowed_5 ?_
    refine zc_i2l (pc := 6) dX11_narrowed_6 ?_
    refine zc_goto (pc := 7) 23 dX11_narrowed_7 (by decide) ?_
    exact zc_lretK (pc := 23) dX11_narrowed_23 rfl ⟨_, rfl, rfl⟩
  · refine zc_iload_n (pc := 10) dX11_narrowed_10 rfl rfl ?_
    refine zc_iconst (pc := 11) (1 : Int32) dX11_narrowed_11 (by decide) ?_
    refine zc_icmp_ne (pc := 12) 21 dX11_narrowed_12 (by decide) (fun _ => ?_) (fun _ => ?_)
    · refine zc_iload_n (pc := 15) dX11_narrowed_15 rfl rfl ?_
      refine zc_i2s (pc := 16) dX11_narrowed_16 ?_
      refine zc_i2l (pc := 17) dX11_narrowed_17 ?_
      refine zc_goto (pc := 18) 23 dX11_narrowed_18 (by decide) ?_
      exact zc_lretK (pc := 23) dX11_narrowed_23 rfl ⟨_, rfl, rfl⟩
    · refine zc_iload_n (pc := 21) dX11_narrowed_21 rfl rfl ?_
      refine zc_i2l (pc := 22) dX11_narrowed_22 ?_
      exact zc_lretK (pc := 23) dX11_narrowed_23 rfl ⟨_, rfl, rfl⟩
def zl_X11_row_68 (x1 : Int32) : Nat → Int32 → zHp → Option zHp
  | 0, _, _ => none
  | fu + 1, y10, h11 => (if (100 : Int32) ≤ y10 then some h11 else (if zc_ix (((100 : Int32) * x1) + y10) 800 then ((some (zc_ul h11 71 (((100 : Int32) * x1) + y10).toNatClampNeg (0 : Int64)) : Option zHp).bind (fun h13 => zl_X11_row_68 x1 fu (y10 + (1 : Int32)) h13)) else none))
def zf_X11_row (x1 : Int32) (x2 : Int32) (x3 : Int32) (h : zHp) : Option (Int32 × zHp) :=
  ((some (zc_ui h 60 17 (0 : Int32)) : Option zHp).bind (fun h1 => ((zf_X11_in x1.toInt64 (0 : Int64) (7 : Int64)).bind (fun r2 => (if r2 = 0 then some ((-1 : Int32), h1) else ((zf_X11_in x2.toInt64 (0 : Int64) (2 : Int64)).bind (fun r3 => (if r3 = 0 then some ((-1 : Int32), h1) else (if x3 ≤ (100 : Int32) then (if 0 ≤ x3 then (if zc_ix x1 8 then ((some (zc_ui h1 66 x1.toNatClampNeg (2 : Int32)) : Option zHp).bind (fun h5 => (if zc_ix x1 8 then ((some (zc_ui h5 69 x1.toNatClampNeg x2) : Option zHp).bind (fun h7 => (if zc_ix x1 8 then ((some (zc_ui h7 70 x1.toNatClampNeg x3) : Option zHp).bind (fun h9 => ((zl_X11_row_68 x1 zFU (0 : Int32) h9).bind (fun v14 => some ((0 : Int32), v14))))) else none))) else none))) else none) else some ((-14 : Int32), h1)) else some ((-1 : Int32), h1))))))))))
set_option maxRecDepth 100000 in
set_option maxHeartbeats 4000000 in
theorem zt_X11_row (x1 : Int32) (x2 : Int32) (x3 : Int32) (h : zHp) {r : (Int32 × zHp)} (hr : (zf_X11_row x1 x2 x3 h) = some r) : zc_Cn zM_X11_row [.ref 60, .int x1, .int x2, .int x3] h (zc_mI r) := by
  refine zc_meth (mk := zc_mI) (o := (zf_X11_row x1 x2 x3 h)) (by decide +kernel) (Nat.le_of_ble_eq_true rfl) ?_ hr
  unfold zf_X11_row
  refine zc_sL (ls1 := [some (.ref 60), some (.int x1), some (.int x2), some (.int x3), none]) rfl ?_
  refine zc_aload_n (pc := 0) dX11_row_0 rfl rfl ?_
  refine zc_iconst (pc := 1) (0 : Int32) dX11_row_1 (by decide) ?_
  refine zc_putI (pc := 2) zF_X11_68 rfl dX11_row_2 ?_
  refine zc_letH (fun h1 _ => ?_)
  refine zc_iload_n (pc := 5) dX11_row_5 rfl rfl ?_
  refine zc_i2l (pc := 6) dX11_row_6 ?_
  refine zc_lconst (pc := 7) (0 : Int64) dX11_row_7 (by decide) ?_
  refine zc_ldc2 (pc := 8) dX11_row_8 zw_1070 ?_
  refine zc_callIp (pc := 11) [.long x1.toInt64, .long (0 : Int64), .long (7 : Int64)] rfl (zc_runS zo_X11_in ⟨Nat.le_of_ble_eq_true rfl, Nat.le_of_ble_eq_true rfl⟩ zw_1071 zw_1072 rfl dX11_row_11) (Nat.le_of_ble_eq_true rfl) (fun _ hr => zt_X11_in x1.toInt64 (0 : Int64) (7 : Int64) h1 hr) (fun r2 => ?_)
  refine zc_if_eq (pc := 14) 35 dX11_row_14 (by decide) (fun _ => ?_) (fun _ => ?_)
  · refine zc_iconst (pc := 35) (-1 : Int32) dX11_row_35 (by decide) ?_
    exact zc_iretK (pc := 36) dX11_row_36 rfl ⟨_, rfl, rfl⟩
  · refine zc_iload_n (pc := 17) dX11_row_17 rfl rfl ?_
    refine zc_i2l (pc := 18) dX11_row_18 ?_
    refine zc_lconst (pc := 19) (0 : Int64) dX11_row_19 (by decide) ?_
    refine zc_ldc2 (pc := 20) dX11_row_20 zw_1331 ?_
    refine zc_callIp (pc := 23) [.long x2.toInt64, .long (0 : Int64), .long (2 : Int64)] rfl (zc_runS zo_X11_in ⟨Nat.le_of_ble_eq_true rfl, Nat.le_of_ble_eq_true rfl⟩ zw_1071 zw_1072 rfl dX11_row_23) (Nat.le_of_ble_eq_true rfl) (fun _ hr => zt_X11_in x2.toInt64 (0 : Int64) (2 : Int64) h1 hr) (fun r3 => ?_)
    refine zc_if_eq (pc := 26) 35 dX11_row_26 (by decide) (fun _ => ?_) (fun _ => ?_)
    · refine zc_iconst (pc := 35) (-1 : Int32) dX11_row_35 (by decide) ?_
      exact zc_iretK (pc := 36) dX11_row_36 rfl ⟨_, rfl, rfl⟩
    · refine zc_iload_n (pc := 29) dX11_row_29 rfl rfl ?_
      refine zc_bipush (pc := 30) (100 : Int32) dX11_row_30 (by decide) ?_
      refine zc_icmp_le (pc := 32) 37 dX11_row_32 (by decide) (fun _ => ?_) (fun _ => ?_)
      · refine zc_iload_n (pc := 37) dX11_row_37 rfl rfl ?_
        refine zc_if_ge (pc := 38) 44 dX11_row_38 (by decide) (fun _ => ?_) (fun _ => ?_)
        · refine zc_aload_n (pc := 44) dX11_row_44 rfl rfl ?_
          refine zc_getC (pc := 45) zF_X11_25 rfl dX11_row_45 ?_
          refine zc_iload_n (pc := 48) dX11_row_48 rfl rfl ?_
          refine zc_iconst (pc := 49) (2 : Int32) dX11_row_49 (by decide) ?_
          refine zc_guard (fun g4 => ?_)
          refine zc_asti (pc := 50) rfl g4 dX11_row_50 ?_
          refine zc_letH (fun h5 _ => ?_)
          refine zc_aload_n (pc := 51) dX11_row_51 rfl rfl ?_
          refine zc_getC (pc := 52) zF_X11_34 rfl dX11_row_52 ?_
          refine zc_iload_n (pc := 55) dX11_row_55 rfl rfl ?_
          refine zc_iload_n (pc := 56) dX11_row_56 rfl rfl ?_
          refine zc_guard (fun g6 => ?_)
          refine zc_asti (pc := 57) rfl g6 dX11_row_57 ?_
          refine zc_letH (fun h7 _ => ?_)
          refine zc_aload_n (pc := 58) dX11_row_58 rfl rfl ?_
          refine zc_getC (pc := 59) zF_X11_37 rfl dX11_row_59 ?_
          refine zc_iload_n (pc := 62) dX11_row_62 rfl rfl ?_
          refine zc_iload_n (pc := 63) dX11_row_63 rfl rfl ?_
          refine zc_guard (fun g8 => ?_)
          refine zc_asti (pc := 64) rfl g8 dX11_row_64 ?_
          refine zc_letH (fun h9 _ => ?_)
          refine zc_iconst (pc := 65) (0 : Int32) dX11_row_65 (by decide) ?_
          refine zc_istore (pc := 66) dX11_row_66 (Nat.le_of_ble_eq_true rfl) rfl (Nat.le_of_ble_eq_true rfl) ?_
          refine zc_sL (ls1 := [some (.ref 60), some (.int x1), some (.int x2), some (.int x3), some (.int (0 : Int32))]) rfl ?_
          refine zc_drop 2 ?_
          refine zc_drop 3 ?_
          refine zc_sL (ls1 := [some (.ref 60), some (.int x1), none, none, some (.int (0 : Int32))]) rfl ?_
          refine zc_loop 94 (fun v14 => [none, none, none, none, none]) (fun v14 => []) (fun v14 => v14) (fun v14 => ?_) (fun k16 J15 => ?_)
          · refine zc_iconst (pc := 94) (0 : Int32) dX11_row_94 (by decide) ?_
            exact zc_iretK (pc := 95) dX11_row_95 rfl ⟨_, rfl, rfl⟩
          · have L18 : ∀ (fu : Nat) (y10 : Int32) (h11 : zHp), zc_G zM_X11_row zc_mI 68 [some (.ref 60), some (.int x1), none, none, some (.int y10)] [] h11 ((zl_X11_row_68 x1 fu y10 h11).bind k16) := by
                intro fu
                induction fu with
                | zero => intros; exact zc_noneb
                | succ fu ih19 =>
                  intro y10 h11
                  unfold zl_X11_row_68
                  refine zc_iload (pc := 68) dX11_row_68 rfl ?_
                  refine zc_bipush (pc := 70) (100 : Int32) dX11_row_70 (by decide) ?_
                  refine zc_icmp_ge (pc := 72) 94 dX11_row_72 (by decide) (fun _ => ?_) (fun _ => ?_)
                  · refine zc_drop 0 ?_
                    refine zc_drop 1 ?_
                    refine zc_drop 4 ?_
                    exact J15 h11
                  · refine zc_aload_n (pc := 75) dX11_row_75 rfl rfl ?_
                    refine zc_getC (pc := 76) zF_X11_40 rfl dX11_row_76 ?_
                    refine zc_bipush (pc := 79) (100 : Int32) dX11_row_79 (by decide) ?_
                    refine zc_iload_n (pc := 81) dX11_row_81 rfl rfl ?_
                    refine zc_imul (pc := 82) dX11_row_82 ?_
                    refine zc_iload (pc := 83) dX11_row_83 rfl ?_
                    refine zc_iadd (pc := 85) dX11_row_85 ?_
                    refine zc_lconst (pc := 86) (0 : Int64) dX11_row_86 (by decide) ?_
                    refine zc_guard (fun g12 => ?_)
                    refine zc_astl (pc := 87) rfl g12 dX11_row_87 ?_
                    refine zc_letH (fun h13 _ => ?_)
                    refine zc_iinc (pc := 88) (1 : Int32) dX11_row_88 (by decide) rfl (Nat.le_of_ble_eq_true rfl) rfl ?_
                    refine zc_sL (ls1 := [some (.ref 60), some (.int x1), none, none, some (.int (y10 + (1 : Int32)))]) rfl ?_
                    refine zc_goto (pc := 91) 68 dX11_row_91 (by decide) ?_
                    exact ih19 (y10 + (1 : Int32)) h13
            exact L18 zFU (0 : Int32) h9
        · refine zc_bipush (pc := 41) (-14 : Int32) dX11_row_41 (by decide) ?_
          exact zc_iretK (pc := 43) dX11_row_43 rfl ⟨_, rfl, rfl⟩
      · refine zc_iconst (pc := 35) (-1 : Int32) dX11_row_35 (by decide) ?_
        exact zc_iretK (pc := 36) dX11_row_36 rfl ⟨_, rfl, rfl⟩
def zf_X11_put (x1 : Int32) (x2 : Int32) (x3 : Int32) (h : zHp) : Option (Int32 × zHp) :=
  ((some (zc_ui h 60 17 (0 : Int32)) : Option zHp).bind (fun h1 => ((zf_X11_wrongRow x1 h1).bind (fun r2 => (if 0 ≤ r2 then (if zc_ix x1 8 then ((zf_X11_in x2.toInt64 (0 : Int64) (((h1.1 70 x1.toNatClampNeg) - (1 : Int32)).toInt64)).bind (fun r4 => (if r4 = 0 then some ((-13 : Int32), h1) else (if zc_ix x1 8 then ((zf_X11_narrowed x3 (h1.1 69 x1.toNatClampNeg)).bind (fun r6 => (if zc_ix (((100 : Int32) * x1) + x2) 800 then ((some (zc_ul h1 71 (((100 : Int32) * x1) + x2).toNatClampNeg r6) : Option zHp).bind (fun h8 => some ((0 : Int32), h8))) else none))) else none)))) else none) else some (r2, h1))))))
set_option maxRecDepth 100000 in
set_option maxHeartbeats 4000000 in
theorem zt_X11_put (x1 : Int32) (x2 : Int32) (x3 : Int32) (h : zHp) {r : (Int32 × zHp)} (hr : (zf_X11_put x1 x2 x3 h) = some r) : zc_Cn zM_X11_put [.ref 60, .int x1, .int x2, .int x3] h (zc_mI r) := by
  refine zc_meth (mk := zc_mI) (o := (zf_X11_put x1 x2 x3 h)) (by decide +kernel) (Nat.le_of_ble_eq_true rfl) ?_ hr
  unfold zf_X11_put
  refine zc_sL (ls1 := [some (.ref 60), some (.int x1), some (.int x2), some (.int x3), none]) rfl ?_
  refine zc_aload_n (pc := 0) dX11_put_0 rfl rfl ?_
  refine zc_iconst (pc := 1) (0 : Int32) dX11_put_1 (by decide) ?_
  refine zc_putI (pc := 2) zF_X11_68 rfl dX11_put_2 ?_
  refine zc_letH (fun h1 _ => ?_)
  refine zc_aload_n (pc := 5) dX11_put_5 rfl rfl ?_
  refine zc_iload_n (pc := 6) dX11_put_6 rfl rfl ?_
  refine zc_callIp (pc := 7) [.ref 60, .int x1] rfl (zc_runV (ci := 11) (n0 := 0) (q := (RX11, TX11, 35)) zo_X11_wrongRow ⟨Nat.le_of_ble_eq_true rfl, Nat.le_of_ble_eq_true rfl⟩ zw_1066 zw_1068 zs_18 rfl (by decide) rfl rfl dX11_put_7) (Nat.le_of_ble_eq_true rfl) (fun _ hr => zt_X11_wrongRow x1 h1 hr) (fun r2 => ?_)
  refine zc_istore (pc := 10) dX11_put_10 (Nat.le_of_ble_eq_true rfl) rfl (Nat.le_of_ble_eq_true rfl) ?_
  refine zc_sL (ls1 := [some (.ref 60), some (.int x1), some (.int x2), some (.int x3), some (.int r2)]) rfl ?_
  refine zc_iload (pc := 12) dX11_put_12 rfl ?_
  refine zc_if_ge (pc := 14) 20 dX11_put_14 (by decide) (fun _ => ?_) (fun _ => ?_)
  · refine zc_iload_n (pc := 20) dX11_put_20 rfl rfl ?_
    refine zc_i2l (pc := 21) dX11_put_21 ?_
    refine zc_lconst (pc := 22) (0 : Int64) dX11_put_22 (by decide) ?_
    refine zc_aload_n (pc := 23) dX11_put_23 rfl rfl ?_
    refine zc_getC (pc := 24) zF_X11_37 rfl dX11_put_24 ?_
    refine zc_iload_n (pc := 27) dX11_put_27 rfl rfl ?_
    refine zc_guard (fun g3 => ?_)
    refine zc_aldi (pc := 28) rfl g3 dX11_put_28 ?_
    refine zc_iconst (pc := 29) (1 : Int32) dX11_put_29 (by decide) ?_
    refine zc_isub (pc := 30) dX11_put_30 ?_
    refine zc_i2l (pc := 31) dX11_put_31 ?_
    refine zc_callIp (pc := 32) [.long x2.toInt64, .long (0 : Int64), .long (((h1.1 70 x1.toNatClampNeg) - (1 : Int32)).toInt64)] rfl (zc_runS zo_X11_in ⟨Nat.le_of_ble_eq_true rfl, Nat.le_of_ble_eq_true rfl⟩ zw_1071 zw_1072 rfl dX11_put_32) (Nat.le_of_ble_eq_true rfl) (fun _ hr => zt_X11_in x2.toInt64 (0 : Int64) (((h1.1 70 x1.toNatClampNeg) - (1 : Int32)).toInt64) h1 hr) (fun r4 => ?_)
    refine zc_if_ne (pc := 35) 41 dX11_put_35 (by decide) (fun _ => ?_) (fun _ => ?_)
    · refine zc_bipush (pc := 38) (-13 : Int32) dX11_put_38 (by decide) ?_
      exact zc_iretK (pc := 40) dX11_put_40 rfl ⟨_, rfl, rfl⟩
    · refine zc_aload_n (pc := 41) dX11_put_41 rfl rfl ?_
      refine zc_getC (pc := 42) zF_X11_40 rfl dX11_put_42 ?_
      refine zc_bipush (pc := 45) (100 : Int32) dX11_put_45 (by decide) ?_
      refine zc_iload_n (pc := 47) dX11_put_47 rfl rfl ?_
      refine zc_imul (pc := 48) dX11_put_48 ?_
      refine zc_iload_n (pc := 49) dX11_put_49 rfl rfl ?_
      refine zc_iadd (pc := 50) dX11_put_50 ?_
      refine zc_iload_n (pc := 51) dX11_put_51 rfl rfl ?_
      refine zc_aload_n (pc := 52) dX11_put_52 rfl rfl ?_
      refine zc_getC (pc := 53) zF_X11_34 rfl dX11_put_53 ?_
      refine zc_iload_n (pc := 56) dX11_put_56 rfl rfl ?_
      refine zc_guard (fun g5 => ?_)
      refine zc_aldi (pc := 57) rfl g5 dX11_put_57 ?_
      refine zc_callLp (pc := 58) [.int x3, .int (h1.1 69 x1.toNatClampNeg)] rfl (zc_runS zo_X11_narrowed ⟨Nat.le_of_ble_eq_true rfl, Nat.le_of_ble_eq_true rfl⟩ zw_1407 zw_1408 rfl dX11_put_58) (Nat.le_of_ble_eq_true rfl) (fun _ hr => zt_X11_narrowed x3 (h1.1 69 x1.toNatClampNeg) h1 hr) (fun r6 => ?_)
      refine zc_guard (fun g7 => ?_)
      refine zc_astl (pc := 61) rfl g7 dX11_put_61 ?_
      refine zc_letH (fun h8 _ => ?_)
      refine zc_iconst (pc := 62) (0 : Int32) dX11_put_62 (by decide) ?_
      exact zc_iretK (pc := 63) dX11_put_63 rfl ⟨_, rfl, rfl⟩
  · refine zc_iload (pc := 17) dX11_put_17 rfl ?_
    exact zc_iretK (pc := 19) dX11_put_19 rfl ⟨_, rfl, rfl⟩
def zf_X11_element (x1 : Int32) (x2 : Int32) (h : zHp) : Option (Int64 × zHp) :=
  ((zf_X11_wrongRow x1 h).bind (fun r1 => (((if r1 = (-1 : Int32) then some (1 : Int32) else (if r1 < 0 then some (2 : Int32) else (if zc_ix x1 8 then ((zf_X11_in x2.toInt64 (0 : Int64) (((h.1 70 x1.toNatClampNeg) - (1 : Int32)).toInt64)).bind (fun r3 => (if r3 = 0 then some (2 : Int32) else some (0 : Int32)))) else none))) : Option Int32).bind (fun v4 => ((some (zc_ui h 60 17 v4) : Option zHp).bind (fun h5 => (if (h5.1 60 17) ≤ 0 then (if zc_ix (((100 : Int32) * x1) + x2) 800 then some ((h5.2 71 (((100 : Int32) * x1) + x2).toNatClampNeg), h5) else none) else some ((0 : Int64), h5))))))))
set_option maxRecDepth 100000 in
set_option maxHeartbeats 4000000 in
theorem zt_X11_element (x1 : Int32) (x2 : Int32) (h : zHp) {r : (Int64 × zHp)} (hr : (zf_X11_element x1 x2 h) = some r) : zc_Cn zM_X11_element [.ref 60, .int x1, .int x2] h (zc_mL r) := by
  refine zc_meth (mk := zc_mL) (o := (zf_X11_element x1 x2 h)) (by decide +kernel) (Nat.le_of_ble_eq_true rfl) ?_ hr
  unfold zf_X11_element
  refine zc_sL (ls1 := [some (.ref 60), some (.int x1), some (.int x2), none]) rfl ?_
  refine zc_aload_n (pc := 0) dX11_element_0 rfl rfl ?_
  refine zc_iload_n (pc := 1) dX11_element_1 rfl rfl ?_
  refine zc_callIp (pc := 2) [.ref 60, .int x1] rfl (zc_runV (ci := 11) (n0 := 0) (q := (RX11, TX11, 35)) zo_X11_wrongRow ⟨Nat.le_of_ble_eq_true rfl, Nat.le_of_ble_eq_true rfl⟩ zw_1066 zw_1068 zs_18 rfl (by decide) rfl rfl dX11_element_2) (Nat.le_of_ble_eq_true rfl) (fun _ hr => zt_X11_wrongRow x1 h hr) (fun r1 => ?_)
  refine zc_istore_n (pc := 5) dX11_element_5 rfl (Nat.le_of_ble_eq_true rfl) rfl (Nat.le_of_ble_eq_true rfl) ?_
  refine zc_sL (ls1 := [some (.ref 60), some (.int x1), some (.int x2), some (.int r1)]) rfl ?_
  refine zc_aload_n (pc := 6) dX11_element_6 rfl rfl ?_
  refine zc_iload_n (pc := 7) dX11_element_7 rfl rfl ?_
  refine zc_iconst (pc := 8) (-1 : Int32) dX11_element_8 (by decide) ?_
  refine zc_join 43 (fun v4 => [some (.ref 60), some (.int x1), some (.int x2), none]) (fun v4 => [.int v4, .ref 60]) (fun v4 => h) (fun v4 => ?_) (fun J7 => ?_)
  · refine zc_putI (pc := 43) zF_X11_68 rfl dX11_element_43 ?_
    refine zc_letH (fun h5 _ => ?_)
    refine zc_aload_n (pc := 46) dX11_element_46 rfl rfl ?_
    refine zc_getI (pc := 47) zF_X11_68 rfl dX11_element_47 ?_
    refine zc_if_le (pc := 50) 57 dX11_element_50 (by decide) (fun _ => ?_) (fun _ => ?_)
    · refine zc_aload_n (pc := 57) dX11_element_57 rfl rfl ?_
      refine zc_getC (pc := 58) zF_X11_40 rfl dX11_element_58 ?_
      refine zc_bipush (pc := 61) (100 : Int32) dX11_element_61 (by decide) ?_
      refine zc_iload_n (pc := 63) dX11_element_63 rfl rfl ?_
      refine zc_imul (pc := 64) dX11_element_64 ?_
      refine zc_iload_n (pc := 65) dX11_element_65 rfl rfl ?_
      refine zc_iadd (pc := 66) dX11_element_66 ?_
      refine zc_guard (fun g6 => ?_)
      refine zc_aldl (pc := 67) rfl g6 dX11_element_67 ?_
      exact zc_lretK (pc := 68) dX11_element_68 rfl ⟨_, rfl, rfl⟩
    · refine zc_lconst (pc := 53) (0 : Int64) dX11_element_53 (by decide) ?_
      refine zc_goto (pc := 54) 68 dX11_element_54 (by decide) ?_
      exact zc_lretK (pc := 68) dX11_element_68 rfl ⟨_, rfl, rfl⟩
  · refine zc_icmp_ne (pc := 9) 16 dX11_element_9 (by decide) (fun _ => ?_) (fun _ => ?_)
    · refine zc_iconst (pc := 12) (1 : Int32) dX11_element_12 (by decide) ?_
      refine zc_goto (pc := 13) 43 dX11_element_13 (by decide) ?_
      refine zc_drop 3 ?_
      exact J7 (1 : Int32)
    · refine zc_iload_n (pc := 16) dX11_element_16 rfl rfl ?_
      refine zc_if_lt (pc := 17) 38 dX11_element_17 (by decide) (fun _ => ?_) (fun _ => ?_)
      · refine zc_iconst (pc := 38) (2 : Int32) dX11_element_38 (by decide) ?_
        refine zc_goto (pc := 39) 43 dX11_element_39 (by decide) ?_
        refine zc_drop 3 ?_
        exact J7 (2 : Int32)
      · refine zc_iload_n (pc := 20) dX11_element_20 rfl rfl ?_
        refine zc_i2l (pc := 21) dX11_element_21 ?_
        refine zc_lconst (pc := 22) (0 : Int64) dX11_element_22 (by decide) ?_
        refine zc_aload_n (pc := 23) dX11_element_23 rfl rfl ?_
        refine zc_getC (pc := 24) zF_X11_37 rfl dX11_element_24 ?_
        refine zc_iload_n (pc := 27) dX11_element_27 rfl rfl ?_
        refine zc_guard (fun g2 => ?_)
        refine zc_aldi (pc := 28) rfl g2 dX11_element_28 ?_
        refine zc_iconst (pc := 29) (1 : Int32) dX11_element_29 (by decide) ?_
        refine zc_isub (pc := 30) dX11_element_30 ?_
        refine zc_i2l (pc := 31) dX11_element_31 ?_
        refine zc_callIp (pc := 32) [.long x2.toInt64, .long (0 : Int64), .long (((h.1 70 x1.toNatClampNeg) - (1 : Int32)).toInt64)] rfl (zc_runS zo_X11_in ⟨Nat.le_of_ble_eq_true rfl, Nat.le_of_ble_eq_true rfl⟩ zw_1071 zw_1072 rfl dX11_element_32) (Nat.le_of_ble_eq_true rfl) (fun _ hr => zt_X11_in x2.toInt64 (0 : Int64) (((h.1 70 x1.toNatClampNeg) - (1 : Int32)).toInt64) h hr) (fun r3 => ?_)
        refine zc_if_ne (pc := 35) 42 dX11_element_35 (by decide) (fun _ => ?_) (fun _ => ?_)
        · refine zc_iconst (pc := 38) (2 : Int32) dX11_element_38 (by decide) ?_
          refine zc_goto (pc := 39) 43 dX11_element_39 (by decide) ?_
          refine zc_drop 3 ?_
          exact J7 (2 : Int32)
        · refine zc_iconst (pc := 42) (0 : Int32) dX11_element_42 (by decide) ?_
          refine zc_drop 3 ?_
          exact J7 (0 : Int32)
def zl_X11_copy_137 (x1 : Int32) (x2 : Int32) (x5 : Int32) : Nat → Int32 → zHp → Option zHp
  | 0, _, _ => none
  | fu + 1, y12, h13 => (if x5 ≤ y12 then some h13 else (if zc_ix ((((100 : Int32) * x1) + x2) + y12) 800 then (if zc_ix y12 100 then ((some (zc_ul h13 79 y12.toNatClampNeg (h13.2 71 ((((100 : Int32) * x1) + x2) + y12).toNatClampNeg)) : Option zHp).bind (fun h16 => zl_X11_copy_137 x1 x2 x5 fu (y12 + (1 : Int32)) h16)) else none) else none))
def zl_X11_copy_174 (x3 : Int32) (x4 : Int32) (x5 : Int32) : Nat → Int32 → zHp → Option zHp
  | 0, _, _ => none
  | fu + 1, y18, h19 => (if x5 ≤ y18 then some h19 else (if zc_ix y18 100 then (if zc_ix ((((100 : Int32) * x3) + x4) + y18) 800 then ((some (zc_ul h19 71 ((((100 : Int32) * x3) + x4) + y18).toNatClampNeg (h19.2 79 y18.toNatClampNeg)) : Option zHp).bind (fun h22 => zl_X11_copy_174 x3 x4 x5 fu (y18 + (1 : Int32)) h22)) else none) else none))
def zf_X11_copy (x1 : Int32) (x2 : Int32) (x3 : Int32) (x4 : Int32) (x5 : Int32) (h : zHp) : Option (Int32 × zHp) :=
  ((some (zc_ui h 60 17 (0 : Int32)) : Option zHp).bind (fun h1 => ((zf_X11_in x1.toInt64 (0 : Int64) (7 : Int64)).bind (fun r2 => (if r2 = 0 then some ((-1 : Int32), h1) else ((zf_X11_in x3.toInt64 (0 : Int64) (7 : Int64)).bind (fun r3 => (if r3 = 0 then some ((-1 : Int32), h1) else (if zc_ix x1 8 then (if (h1.1 66 x1.toNatClampNeg) = 0 then some ((-11 : Int32), h1) else (if zc_ix x3 8 then (if (h1.1 66 x3.toNatClampNeg) = 0 then some ((-11 : Int32), h1) else (if zc_ix x1 8 then (if (h1.1 66 x1.toNatClampNeg) = (2 : Int32) then (if zc_ix x3 8 then (if (h1.1 66 x3.toNatClampNeg) = (2 : Int32) then (if zc_ix x1 8 then (if zc_ix x3 8 then (if (h1.1 69 x1.toNatClampNeg) = (h1.1 69 x3.toNatClampNeg) then (if x5 < 0 then some ((-13 : Int32), h1) else (if x2 < 0 then some ((-13 : Int32), h1) else (if x4 < 0 then some ((-13 : Int32), h1) else (if zc_ix x1 8 then (if ((h1.1 70 x1.toNatClampNeg) - x5) < x2 then some ((-13 : Int32), h1) else (if zc_ix x3 8 then (if x4 ≤ ((h1.1 70 x3.toNatClampNeg) - x5) then ((zl_X11_copy_137 x1 x2 x5 zFU (0 : Int32) h1).bind (fun v17 => ((zl_X11_copy_174 x3 x4 x5 zFU (0 : Int32) v17).bind (fun v23 => some (x5, v23))))) else some ((-13 : Int32), h1)) else none)) else none)))) else some ((-12 : Int32), h1)) else none) else none) else some ((-12 : Int32), h1)) else none) else some ((-12 : Int32), h1)) else none)) else none)) else none)))))))))
set_option maxRecDepth 100000 in
set_option maxHeartbeats 4000000 in
theorem zt_X11_copy (x1 : Int32) (x2 : Int32) (x3 : Int32) (x4 : Int32) (x5 : Int32) (h : zHp) {r : (Int32 × zHp)} (hr : (zf_X11_copy x1 x2 x3 x4 x5 h) = some r) : zc_Cn zM_X11_copy [.ref 60, .int x1, .int x2, .int x3, .int x4, .int x5] h (zc_mI r) := by
  refine zc_meth (mk := zc_mI) (o := (zf_X11_copy x1 x2 x3 x4 x5 h)) (by decide +kernel) (Nat.le_of_ble_eq_true rfl) ?_ hr
  unfold zf_X11_copy
  refine zc_sL (ls1 := [some (.ref 60), some (.int x1), some (.int x2), some (.int x3), some (.int x4), some (.int x5), none]) rfl ?_
  refine zc_aload_n (pc := 0) dX11_copy_0 rfl rfl ?_
  refine zc_iconst (pc := 1) (0 : Int32) dX11_copy_1 (by decide) ?_
  refine zc_putI (pc := 2) zF_X11_68 rfl dX11_copy_2 ?_
  refine zc_letH (fun h1 _ => ?_)
  refine zc_iload_n (pc := 5) dX11_copy_5 rfl rfl ?_
  refine zc_i2l (pc := 6) dX11_copy_6 ?_
  refine zc_lconst (pc := 7) (0 : Int64) dX11_copy_7 (by decide) ?_
  refine zc_ldc2 (pc := 8) dX11_copy_8 zw_1070 ?_
  refine zc_callIp (pc := 11) [.long x1.toInt64, .long (0 : Int64), .long (7 : Int64)] rfl (zc_runS zo_X11_in ⟨Nat.le_of_ble_eq_true rfl, Nat.le_of_ble_eq_true rfl⟩ zw_1071 zw_1072 rfl dX11_copy_11) (Nat.le_of_ble_eq_true rfl) (fun _ hr => zt_X11_in x1.toInt64 (0 : Int64) (7 : Int64) h1 hr) (fun r2 => ?_)
  refine zc_if_eq (pc := 14) 29 dX11_copy_14 (by decide) (fun _ => ?_) (fun _ => ?_)
  · refine zc_iconst (pc := 29) (-1 : Int32) dX11_copy_29 (by decide) ?_
    exact zc_iretK (pc := 30) dX11_copy_30 rfl ⟨_, rfl, rfl⟩
  · refine zc_iload_n (pc := 17) dX11_copy_17 rfl rfl ?_
    refine zc_i2l (pc := 18) dX11_copy_18 ?_
    refine zc_lconst (pc := 19) (0 : Int64) dX11_copy_19 (by decide) ?_
    refine zc_ldc2 (pc := 20) dX11_copy_20 zw_1070 ?_
    refine zc_callIp (pc := 23) [.long x3.toInt64, .long (0 : Int64), .long (7 : Int64)] rfl (zc_runS zo_X11_in ⟨Nat.le_of_ble_eq_true rfl, Nat.le_of_ble_eq_true rfl⟩ zw_1071 zw_1072 rfl dX11_copy_23) (Nat.le_of_ble_eq_true rfl) (fun _ hr => zt_X11_in x3.toInt64 (0 : Int64) (7 : Int64) h1 hr) (fun r3 => ?_)
    refine zc_if_ne (pc := 26) 31 dX11_copy_26 (by decide) (fun _ => ?_) (fun _ => ?_)
    · refine zc_iconst (pc := 29) (-1 : Int32) dX11_copy_29 (by decide) ?_
      exact zc_iretK (pc := 30) dX11_copy_30 rfl ⟨_, rfl, rfl⟩
    · refine zc_aload_n (pc := 31) dX11_copy_31 rfl rfl ?_
      refine zc_getC (pc := 32) zF_X11_25 rfl dX11_copy_32 ?_
      refine zc_iload_n (pc := 35) dX11_copy_35 rfl rfl ?_
      refine zc_guard (fun g4 => ?_)
      refine zc_aldi (pc := 36) rfl g4 dX11_copy_36 ?_
      refine zc_if_eq (pc := 37) 49 dX11_copy_37 (by decide) (fun _ => ?_) (fun _ => ?_)
      · refine zc_bipush (pc := 49) (-11 : Int32) dX11_copy_49 (by decide) ?_
        exact zc_iretK (pc := 51) dX11_copy_51 rfl ⟨_, rfl, rfl⟩
      · refine zc_aload_n (pc := 40) dX11_copy_40 rfl rfl ?_
        refine zc_getC (pc := 41) zF_X11_25 rfl dX11_copy_41 ?_
        refine zc_iload_n (pc := 44) dX11_copy_44 rfl rfl ?_
        refine zc_guard (fun g5 => ?_)
        refine zc_aldi (pc := 45) rfl g5 dX11_copy_45 ?_
        refine zc_if_ne (pc := 46) 52 dX11_copy_46 (by decide) (fun _ => ?_) (fun _ => ?_)
        · refine zc_bipush (pc := 49) (-11 : Int32) dX11_copy_49 (by decide) ?_
          exact zc_iretK (pc := 51) dX11_copy_51 rfl ⟨_, rfl, rfl⟩
        · refine zc_aload_n (pc := 52) dX11_copy_52 rfl rfl ?_
          refine zc_getC (pc := 53) zF_X11_25 rfl dX11_copy_53 ?_
          refine zc_iload_n (pc := 56) dX11_copy_56 rfl rfl ?_
          refine zc_guard (fun g6 => ?_)
          refine zc_aldi (pc := 57) rfl g6 dX11_copy_57 ?_
          refine zc_iconst (pc := 58) (2 : Int32) dX11_copy_58 (by decide) ?_
          refine zc_icmp_ne (pc := 59) 87 dX11_copy_59 (by decide) (fun _ => ?_) (fun _ => ?_)
          · refine zc_aload_n (pc := 62) dX11_copy_62 rfl rfl ?_
            refine zc_getC (pc := 63) zF_X11_25 rfl dX11_copy_63 ?_
            refine zc_iload_n (pc := 66) dX11_copy_66 rfl rfl ?_
            refine zc_guard (fun g7 => ?_)
            refine zc_aldi (pc := 67) rfl g7 dX11_copy_67 ?_
            refine zc_iconst (pc := 68) (2 : Int32) dX11_copy_68 (by decide) ?_
            refine zc_icmp_ne (pc := 69) 87 dX11_copy_69 (by decide) (fun _ => ?_) (fun _ => ?_)
            · refine zc_aload_n (pc := 72) dX11_copy_72 rfl rfl ?_
              refine zc_getC (pc := 73) zF_X11_34 rfl dX11_copy_73 ?_
              refine zc_iload_n (pc := 76) dX11_copy_76 rfl rfl ?_
              refine zc_guard (fun g8 => ?_)
              refine zc_aldi (pc := 77) rfl g8 dX11_copy_77 ?_
              refine zc_aload_n (pc := 78) dX11_copy_78 rfl rfl ?_
              refine zc_getC (pc := 79) zF_X11_34 rfl dX11_copy_79 ?_
              refine zc_iload_n (pc := 82) dX11_copy_82 rfl rfl ?_
              refine zc_guard (fun g9 => ?_)
              refine zc_aldi (pc := 83) rfl g9 dX11_copy_83 ?_
              refine zc_icmp_eq (pc := 84) 90 dX11_copy_84 (by decide) (fun _ => ?_) (fun _ => ?_)
              · refine zc_iload (pc := 90) dX11_copy_90 rfl ?_
                refine zc_if_lt (pc := 92) 131 dX11_copy_92 (by decide) (fun _ => ?_) (fun _ => ?_)
                · refine zc_bipush (pc := 131) (-13 : Int32) dX11_copy_131 (by decide) ?_
                  exact zc_iretK (pc := 133) dX11_copy_133 rfl ⟨_, rfl, rfl⟩
                · refine zc_iload_n (pc := 95) dX11_copy_95 rfl rfl ?_
                  refine zc_if_lt (pc := 96) 131 dX11_copy_96 (by decide) (fun _ => ?_) (fun _ => ?_)
                  · refine zc_bipush (pc := 131) (-13 : Int32) dX11_copy_131 (by decide) ?_
                    exact zc_iretK (pc := 133) dX11_copy_133 rfl ⟨_, rfl, rfl⟩
                  · refine zc_iload (pc := 99) dX11_copy_99 rfl ?_
                    refine zc_if_lt (pc := 101) 131 dX11_copy_101 (by decide) (fun _ => ?_) (fun _ => ?_)
                    · refine zc_bipush (pc := 131) (-13 : Int32) dX11_copy_131 (by decide) ?_
                      exact zc_iretK (pc := 133) dX11_copy_133 rfl ⟨_, rfl, rfl⟩
                    · refine zc_iload_n (pc := 104) dX11_copy_104 rfl rfl ?_
                      refine zc_aload_n (pc := 105) dX11_copy_105 rfl rfl ?_
                      refine zc_getC (pc := 106) zF_X11_37 rfl dX11_copy_106 ?_
                      refine zc_iload_n (pc := 109) dX11_copy_109 rfl rfl ?_
                      refine zc_guard (fun g10 => ?_)
                      refine zc_aldi (pc := 110) rfl g10 dX11_copy_110 ?_
                      refine zc_iload (pc := 111) dX11_copy_111 rfl ?_
                      refine zc_isub (pc := 113) dX11_copy_113 ?_
                      refine zc_icmp_gt (pc := 114) 131 dX11_copy_114 (by decide) (fun _ => ?_) (fun _ => ?_)
                      · refine zc_bipush (pc := 131) (-13 : Int32) dX11_copy_131 (by decide) ?_
                        exact zc_iretK (pc := 133) dX11_copy_133 rfl ⟨_, rfl, rfl⟩
                      · refine zc_iload (pc := 117) dX11_copy_117 rfl ?_
                        refine zc_aload_n (pc := 119) dX11_copy_119 rfl rfl ?_
                        refine zc_getC (pc := 120) zF_X11_37 rfl dX11_copy_120 ?_
                        refine zc_iload_n (pc := 123) dX11_copy_123 rfl rfl ?_
                        refine zc_guard (fun g11 => ?_)
                        refine zc_aldi (pc := 124) rfl g11 dX11_copy_124 ?_
                        refine zc_iload (pc := 125) dX11_copy_125 rfl ?_
                        refine zc_isub (pc := 127) dX11_copy_127 ?_
                        refine zc_icmp_le (pc := 128) 134 dX11_copy_128 (by decide) (fun _ => ?_) (fun _ => ?_)
                        · refine zc_iconst (pc := 134) (0 : Int32) dX11_copy_134 (by decide) ?_
                          refine zc_istore (pc := 135) dX11_copy_135 (Nat.le_of_ble_eq_true rfl) rfl (Nat.le_of_ble_eq_true rfl) ?_
                          refine zc_sL (ls1 := [some (.ref 60), some (.int x1), some (.int x2), some (.int x3), some (.int x4), some (.int x5), some (.int (0 : Int32))]) rfl ?_
                          refine zc_sL (ls1 := [some (.ref 60), some (.int x1), some (.int x2), some (.int x3), some (.int x4), some (.int x5), some (.int (0 : Int32))]) rfl ?_
                          refine zc_loop 171 (fun v17 => [some (.ref 60), none, none, some (.int x3), some (.int x4), some (.int x5), none]) (fun v17 => []) (fun v17 => v17) (fun v17 => ?_) (fun k25 J24 => ?_)
                          · refine zc_iconst (pc := 171) (0 : Int32) dX11_copy_171 (by decide) ?_
                            refine zc_istore (pc := 172) dX11_copy_172 (Nat.le_of_ble_eq_true rfl) rfl (Nat.le_of_ble_eq_true rfl) ?_
                            refine zc_sL (ls1 := [some (.ref 60), none, none, some (.int x3), some (.int x4), some (.int x5), some (.int (0 : Int32))]) rfl ?_
                            refine zc_sL (ls1 := [some (.ref 60), none, none, some (.int x3), some (.int x4), some (.int x5), some (.int (0 : Int32))]) rfl ?_
                            refine zc_loop 209 (fun v23 => [none, none, none, none, none, some (.int x5), none]) (fun v23 => []) (fun v23 => v23) (fun v23 => ?_) (fun k28 J27 => ?_)
                            · refine zc_iload (pc := 209) dX11_copy_209 rfl ?_
                              exact zc_iretK (pc := 211) dX11_copy_211 rfl ⟨_, rfl, rfl⟩
                            · have L30 : ∀ (fu : Nat) (y18 : Int32) (h19 : zHp), zc_G zM_X11_copy zc_mI 174 [some (.ref 60), none, none, some (.int x3), some (.int x4), some (.int x5), some (.int y18)] [] h19 ((zl_X11_copy_174 x3 x4 x5 fu y18 h19).bind k28) := by
                                  intro fu
                                  induction fu with
                                  | zero => intros; exact zc_noneb
                                  | succ fu ih31 =>
                                    intro y18 h19
                                    unfold zl_X11_copy_174
                                    refine zc_iload (pc := 174) dX11_copy_174 rfl ?_
                                    refine zc_iload (pc := 176) dX11_copy_176 rfl ?_
                                    refine zc_icmp_ge (pc := 178) 209 dX11_copy_178 (by decide) (fun _ => ?_) (fun _ => ?_)
                                    · refine zc_drop 0 ?_
                                      refine zc_drop 3 ?_
                                      refine zc_drop 4 ?_
                                      refine zc_drop 6 ?_
                                      exact J27 h19
                                    · refine zc_aload_n (pc := 181) dX11_copy_181 rfl rfl ?_
                                      refine zc_getC (pc := 182) zF_X11_40 rfl dX11_copy_182 ?_
                                      refine zc_bipush (pc := 185) (100 : Int32) dX11_copy_185 (by decide) ?_
                                      refine zc_iload_n (pc := 187) dX11_copy_187 rfl rfl ?_
                                      refine zc_imul (pc := 188) dX11_copy_188 ?_
                                      refine zc_iload (pc := 189) dX11_copy_189 rfl ?_
                                      refine zc_iadd (pc := 191) dX11_copy_191 ?_
                                      refine zc_iload (pc := 192) dX11_copy_192 rfl ?_
                                      refine zc_iadd (pc := 194) dX11_copy_194 ?_
                                      refine zc_aload_n (pc := 195) dX11_copy_195 rfl rfl ?_
                                      refine zc_getC (pc := 196) zF_X11_65 rfl dX11_copy_196 ?_
                                      refine zc_iload (pc := 199) dX11_copy_199 rfl ?_
                                      refine zc_guard (fun g20 => ?_)
                                      refine zc_aldl (pc := 201) rfl g20 dX11_copy_201 ?_
                                      refine zc_guard (fun g21 => ?_)
                                      refine zc_astl (pc := 202) rfl g21 dX11_copy_202 ?_
                                      refine zc_letH (fun h22 _ => ?_)
                                      refine zc_iinc (pc := 203) (1 : Int32) dX11_copy_203 (by decide) rfl (Nat.le_of_ble_eq_true rfl) rfl ?_
                                      refine zc_sL (ls1 := [some (.ref 60), none, none, some (.int x3), some (.int x4), some (.int x5), some (.int (y18 + (1 : Int32)))]) rfl ?_
                                      refine zc_goto (pc := 206) 174 dX11_copy_206 (by decide) ?_
                                      exact ih31 (y18 + (1 : Int32)) h22
                              exact L30 zFU (0 : Int32) v17
                          · have L32 : ∀ (fu : Nat) (y12 : Int32) (h13 : zHp), zc_G zM_X11_copy zc_mI 137 [some (.ref 60), some (.int x1), some (.int x2), some (.int x3), some (.int x4), some (.int x5), some (.int y12)] [] h13 ((zl_X11_copy_137 x1 x2 x5 fu y12 h13).bind k25) := by
                                intro fu
                                induction fu with
                                | zero => intros; exact zc_noneb
                                | succ fu ih33 =>
                                  intro y12 h13
                                  unfold zl_X11_copy_137
                                  refine zc_iload (pc := 137) dX11_copy_137 rfl ?_
                                  refine zc_iload (pc := 139) dX11_copy_139 rfl ?_
                                  refine zc_icmp_ge (pc := 141) 171 dX11_copy_141 (by decide) (fun _ => ?_) (fun _ => ?_)
                                  · refine zc_drop 1 ?_
                                    refine zc_drop 2 ?_
                                    refine zc_drop 6 ?_
                                    exact J24 h13
                                  · refine zc_aload_n (pc := 144) dX11_copy_144 rfl rfl ?_
                                    refine zc_getC (pc := 145) zF_X11_65 rfl dX11_copy_145 ?_
                                    refine zc_iload (pc := 148) dX11_copy_148 rfl ?_
                                    refine zc_aload_n (pc := 150) dX11_copy_150 rfl rfl ?_
                                    refine zc_getC (pc := 151) zF_X11_40 rfl dX11_copy_151 ?_
                                    refine zc_bipush (pc := 154) (100 : Int32) dX11_copy_154 (by decide) ?_
                                    refine zc_iload_n (pc := 156) dX11_copy_156 rfl rfl ?_
                                    refine zc_imul (pc := 157) dX11_copy_157 ?_
                                    refine zc_iload_n (pc := 158) dX11_copy_158 rfl rfl ?_
                                    refine zc_iadd (pc := 159) dX11_copy_159 ?_
                                    refine zc_iload (pc := 160) dX11_copy_160 rfl ?_
                                    refine zc_iadd (pc := 162) dX11_copy_162 ?_
                                    refine zc_guard (fun g14 => ?_)
                                    refine zc_aldl (pc := 163) rfl g14 dX11_copy_163 ?_
                                    refine zc_guard (fun g15 => ?_)
                                    refine zc_astl (pc := 164) rfl g15 dX11_copy_164 ?_
                                    refine zc_letH (fun h16 _ => ?_)
                                    refine zc_iinc (pc := 165) (1 : Int32) dX11_copy_165 (by decide) rfl (Nat.le_of_ble_eq_true rfl) rfl ?_
                                    refine zc_sL (ls1 := [some (.ref 60), some (.int x1), some (.int x2), some (.int x3), some (.int x4), some (.int x5), some (.int (y12 + (1 : Int32)))]) rfl ?_
                                    refine zc_goto (pc := 168) 137 dX11_copy_168 (by decide) ?_
                                    exact ih33 (y12 + (1 : Int32)) h16
                            exact L32 zFU (0 : Int32) h1
                        · refine zc_bipush (pc := 131) (-13 : Int32) dX11_copy_131 (by decide) ?_
                          exact zc_iretK (pc := 133) dX11_copy_133 rfl ⟨_, rfl, rfl⟩
              · refine zc_bipush (pc := 87) (-12 : Int32) dX11_copy_87 (by decide) ?_
                exact zc_iretK (pc := 89) dX11_copy_89 rfl ⟨_, rfl, rfl⟩
            · refine zc_bipush (pc := 87) (-12 : Int32) dX11_copy_87 (by decide) ?_
              exact zc_iretK (pc := 89) dX11_copy_89 rfl ⟨_, rfl, rfl⟩
          · refine zc_bipush (pc := 87) (-12 : Int32) dX11_copy_87 (by decide) ?_
            exact zc_iretK (pc := 89) dX11_copy_89 rfl ⟨_, rfl, rfl⟩
def zf_X11_costOf (x0 : Int32) (x1 : Int32) : Option Int32 :=
  (if x0 = (0 : Int32) then some (4 : Int32) else (if x0 = (1 : Int32) then some ((4 : Int32) + x1) else (if x0 = (2 : Int32) then some (9 : Int32) else (if x0 = (3 : Int32) then some (4 : Int32) else (if x0 = (4 : Int32) then some ((2 : Int32) * ((4 : Int32) + x1)) else (if x0 = (5 : Int32) then some (1 : Int32) else (if x0 = (6 : Int32) then some (((2 : Int32) * ((4 : Int32) + x1)) + (3 : Int32)) else some (0 : Int32))))))))
set_option maxRecDepth 100000 in
set_option maxHeartbeats 4000000 in
theorem zt_X11_costOf (x0 : Int32) (x1 : Int32) (h : zHp) {r : Int32} (hr : (zf_X11_costOf x0 x1) = some r) : zc_Cn zM_X11_costOf [.int x0, .int x1] h ((fun r => zc_mI (r, h)) r) := by
  refine zc_meth (mk := (fun r => zc_mI (r, h))) (o := (zf_X11_costOf x0 x1)) (by decide +kernel) (Nat.le_of_ble_eq_true rfl) ?_ hr
  unfold zf_X11_costOf
  refine zc_sL (ls1 := [some (.int x0), some (.int x1)]) rfl ?_
  refine zc_iload_n (pc := 0) dX11_costOf_0 rfl rfl ?_
  refine zc_sw (fun s1 => ?_) (fun s1 => ?_)
  · refine zc_tblIn (pc := 1) (off := 43) 44 s1 dX11_costOf_1 (by decide) ?_
    refine zc_iconst (pc := 44) (4 : Int32) dX11_costOf_44 (by decide) ?_
    exact zc_iretK (pc := 45) dX11_costOf_45 rfl ⟨_, rfl, rfl⟩
  refine zc_sw (fun s2 => ?_) (fun s2 => ?_)
  · refine zc_tblIn (pc := 1) (off := 45) 46 s2 dX11_costOf_1 (by decide) ?_
    refine zc_iconst (pc := 46) (4 : Int32) dX11_costOf_46 (by decide) ?_
    refine zc_iload_n (pc := 47) dX11_costOf_47 rfl rfl ?_
    refine zc_iadd (pc := 48) dX11_costOf_48 ?_
    exact zc_iretK (pc := 49) dX11_costOf_49 rfl ⟨_, rfl, rfl⟩
  refine zc_sw (fun s3 => ?_) (fun s3 => ?_)
  · refine zc_tblIn (pc := 1) (off := 49) 50 s3 dX11_costOf_1 (by decide) ?_
    refine zc_bipush (pc := 50) (9 : Int32) dX11_costOf_50 (by decide) ?_
    exact zc_iretK (pc := 52) dX11_costOf_52 rfl ⟨_, rfl, rfl⟩
  refine zc_sw (fun s4 => ?_) (fun s4 => ?_)
  · refine zc_tblIn (pc := 1) (off := 52) 53 s4 dX11_costOf_1 (by decide) ?_
    refine zc_iconst (pc := 53) (4 : Int32) dX11_costOf_53 (by decide) ?_
    exact zc_iretK (pc := 54) dX11_costOf_54 rfl ⟨_, rfl, rfl⟩
  refine zc_sw (fun s5 => ?_) (fun s5 => ?_)
  · refine zc_tblIn (pc := 1) (off := 54) 55 s5 dX11_costOf_1 (by decide) ?_
    refine zc_iconst (pc := 55) (2 : Int32) dX11_costOf_55 (by decide) ?_
    refine zc_iconst (pc := 56) (4 : Int32) dX11_costOf_56 (by decide) ?_
    refine zc_iload_n (pc := 57) dX11_costOf_57 rfl rfl ?_
    refine zc_iadd (pc := 58) dX11_costOf_58 ?_
    refine zc_imul (pc := 59) dX11_costOf_59 ?_
    exact zc_iretK (pc := 60) dX11_costOf_60 rfl ⟨_, rfl, rfl⟩
  refine zc_sw (fun s6 => ?_) (fun s6 => ?_)
  · refine zc_tblIn (pc := 1) (off := 60) 61 s6 dX11_costOf_1 (by decide) ?_
    refine zc_iconst (pc := 61) (1 : Int32) dX11_costOf_61 (by decide) ?_
    exact zc_iretK (pc := 62) dX11_costOf_62 rfl ⟨_, rfl, rfl⟩
  refine zc_sw (fun s7 => ?_) (fun s7 => ?_)
  · refine zc_tblIn (pc := 1) (off := 62) 63 s7 dX11_costOf_1 (by decide) ?_
    refine zc_iconst (pc := 63) (2 : Int32) dX11_costOf_63 (by decide) ?_
    refine zc_iconst (pc := 64) (4 : Int32) dX11_costOf_64 (by decide) ?_
    refine zc_iload_n (pc := 65) dX11_costOf_65 rfl rfl ?_
    refine zc_iadd (pc := 66) dX11_costOf_66 ?_
    refine zc_imul (pc := 67) dX11_costOf_67 ?_
    refine zc_iconst (pc := 68) (3 : Int32) dX11_costOf_68 (by decide) ?_
    refine zc_iadd (pc := 69) dX11_costOf_69 ?_
    exact zc_iretK (pc := 70) dX11_costOf_70 rfl ⟨_, rfl, rfl⟩
  refine zc_tblD (pc := 1) 71 [0, 1, 2, 3, 4, 5, 6] dX11_costOf_1 (by decide) (List.forall_mem_cons.mpr ⟨zc_neJ s1 (by decide), (List.forall_mem_cons.mpr ⟨zc_neJ s2 (by decide), (List.forall_mem_cons.mpr ⟨zc_neJ s3 (by decide), (List.forall_mem_cons.mpr ⟨zc_neJ s4 (by decide), (List.forall_mem_cons.mpr ⟨zc_neJ s5 (by decide), (List.forall_mem_cons.mpr ⟨zc_neJ s6 (by decide), (List.forall_mem_cons.mpr ⟨zc_neJ s7 (by decide), (fun _ hm => nomatch hm)⟩)⟩)⟩)⟩)⟩)⟩)⟩) ?_
  refine zc_iconst (pc := 71) (0 : Int32) dX11_costOf_71 (by decide) ?_
  exact zc_iretK (pc := 72) dX11_costOf_72 rfl ⟨_, rfl, rfl⟩
def zf_X11_cost (x1 : Int32) (h : zHp) : Option (Int32 × zHp) :=
  ((some (zc_ui h 60 17 (0 : Int32)) : Option zHp).bind (fun h1 => ((zf_X11_wrongKept x1 h1).bind (fun r2 => (if 0 ≤ r2 then (if zc_ix x1 8 then (if zc_ix x1 8 then ((zf_X11_costOf (h1.1 67 x1.toNatClampNeg) (h1.1 68 x1.toNatClampNeg)).bind (fun r5 => some (r5, h1))) else none) else none) else ((zf_X11_wrongKept x1 h1).bind (fun r6 => some (r6, h1))))))))
set_option maxRecDepth 100000 in
set_option maxHeartbeats 4000000 in
theorem zt_X11_cost (x1 : Int32) (h : zHp) {r : (Int32 × zHp)} (hr : (zf_X11_cost x1 h) = some r) : zc_Cn zM_X11_cost [.ref 60, .int x1] h (zc_mI r) := by
  refine zc_meth (mk := zc_mI) (o := (zf_X11_cost x1 h)) (by decide +kernel) (Nat.le_of_ble_eq_true rfl) ?_ hr
  unfold zf_X11_cost
  refine zc_sL (ls1 := [some (.ref 60), some (.int x1)]) rfl ?_
  refine zc_aload_n (pc := 0) dX11_cost_0 rfl rfl ?_
  refine zc_iconst (pc := 1) (0 : Int32) dX11_cost_1 (by decide) ?_
  refine zc_putI (pc := 2) zF_X11_68 rfl dX11_cost_2 ?_
  refine zc_letH (fun h1 _ => ?_)
  refine zc_aload_n (pc := 5) dX11_cost_5 rfl rfl ?_
  refine zc_iload_n (pc := 6) dX11_cost_6 rfl rfl ?_
  refine zc_callIp (pc := 7) [.ref 60, .int x1] rfl (zc_runV (ci := 11) (n0 := 0) (q := (RX11, TX11, 35)) zo_X11_wrongKept ⟨Nat.le_of_ble_eq_true rfl, Nat.le_of_ble_eq_true rfl⟩ zw_1190 zw_1192 zs_40 rfl (by decide) rfl rfl dX11_cost_7) (Nat.le_of_ble_eq_true rfl) (fun _ hr => zt_X11_wrongKept x1 h1 hr) (fun r2 => ?_)
  refine zc_if_ge (pc := 10) 21 dX11_cost_10 (by decide) (fun _ => ?_) (fun _ => ?_)
  · refine zc_aload_n (pc := 21) dX11_cost_21 rfl rfl ?_
    refine zc_getC (pc := 22) zF_X11_28 rfl dX11_cost_22 ?_
    refine zc_iload_n (pc := 25) dX11_cost_25 rfl rfl ?_
    refine zc_guard (fun g3 => ?_)
    refine zc_aldi (pc := 26) rfl g3 dX11_cost_26 ?_
    refine zc_aload_n (pc := 27) dX11_cost_27 rfl rfl ?_
    refine zc_getC (pc := 28) zF_X11_31 rfl dX11_cost_28 ?_
    refine zc_iload_n (pc := 31) dX11_cost_31 rfl rfl ?_
    refine zc_guard (fun g4 => ?_)
    refine zc_aldi (pc := 32) rfl g4 dX11_cost_32 ?_
    refine zc_callIp (pc := 33) [.int (h1.1 67 x1.toNatClampNeg), .int (h1.1 68 x1.toNatClampNeg)] rfl (zc_runS zo_X11_costOf ⟨Nat.le_of_ble_eq_true rfl, Nat.le_of_ble_eq_true rfl⟩ zw_1422 zw_1423 rfl dX11_cost_33) (Nat.le_of_ble_eq_true rfl) (fun _ hr => zt_X11_costOf (h1.1 67 x1.toNatClampNeg) (h1.1 68 x1.toNatClampNeg) h1 hr) (fun r5 => ?_)
    exact zc_iretK (pc := 36) dX11_cost_36 rfl ⟨_, rfl, rfl⟩
  · refine zc_aload_n (pc := 13) dX11_cost_13 rfl rfl ?_
    refine zc_iload_n (pc := 14) dX11_cost_14 rfl rfl ?_
    refine zc_callIp (pc := 15) [.ref 60, .int x1] rfl (zc_runV (ci := 11) (n0 := 0) (q := (RX11, TX11, 35)) zo_X11_wrongKept ⟨Nat.le_of_ble_eq_true rfl, Nat.le_of_ble_eq_true rfl⟩ zw_1190 zw_1192 zs_40 rfl (by decide) rfl rfl dX11_cost_15) (Nat.le_of_ble_eq_true rfl) (fun _ hr => zt_X11_wrongKept x1 h1 hr) (fun r6 => ?_)
    refine zc_goto (pc := 18) 36 dX11_cost_18 (by decide) ?_
    exact zc_iretK (pc := 36) dX11_cost_36 rfl ⟨_, rfl, rfl⟩
def zf_X11_toss (x1 : Int32) (h : zHp) : Option (Int32 × zHp) :=
  ((some (zc_ui h 60 17 (0 : Int32)) : Option zHp).bind (fun h1 => ((zf_X11_wrongKept x1 h1).bind (fun r2 => (if 0 ≤ r2 then (if zc_ix x1 8 then ((some (h1.1 67 x1.toNatClampNeg) : Option Int32).bind (fun v4 => (if zc_ix x1 8 then ((some (h1.1 68 x1.toNatClampNeg) : Option Int32).bind (fun v6 => (if v4 = (5 : Int32) then some ((-15 : Int32), h1) else (if v6 = 0 then some ((-15 : Int32), h1) else (if v4 = (2 : Int32) then some (((100 : Int32) + v6), h1) else (if v4 = (3 : Int32) then some (((100 : Int32) + v6), h1) else (if v4 = (7 : Int32) then some (((100 : Int32) + v6), h1) else (if v4 = (4 : Int32) then ((zf_X11_costOf v4 v6).bind (fun r7 => some (((200 : Int32) + r7), h1))) else (if v4 = (6 : Int32) then ((zf_X11_costOf v4 v6).bind (fun r8 => some (((200 : Int32) + r8), h1))) else some (v6, h1)))))))))) else none))) else none) else ((zf_X11_wrongKept x1 h1).bind (fun r9 => some (r9, h1))))))))
set_option maxRecDepth 100000 in
set_option maxHeartbeats 4000000 in
theorem zt_X11_toss (x1 : Int32) (h : zHp) {r : (Int32 × zHp)} (hr : (zf_X11_toss x1 h) = some r) : zc_Cn zM_X11_toss [.ref 60, .int x1] h (zc_mI r) := by
  refine zc_meth (mk := zc_mI) (o := (zf_X11_toss x1 h)) (by decide +kernel) (Nat.le_of_ble_eq_true rfl) ?_ hr
  unfold zf_X11_toss
  refine zc_sL (ls1 := [some (.ref 60), some (.int x1), none, none]) rfl ?_
  refine zc_aload_n (pc := 0) dX11_toss_0 rfl rfl ?_
  refine zc_iconst (pc := 1) (0 : Int32) dX11_toss_1 (by decide) ?_
  refine zc_putI (pc := 2) zF_X11_68 rfl dX11_toss_2 ?_
  refine zc_letH (fun h1 _ => ?_)
  refine zc_aload_n (pc := 5) dX11_toss_5 rfl rfl ?_
  refine zc_iload_n (pc := 6) dX11_toss_6 rfl rfl ?_
  refine zc_callIp (pc := 7) [.ref 60, .int x1] rfl (zc_runV (ci := 11) (n0 := 0) (q := (RX11, TX11, 35)) zo_X11_wrongKept ⟨Nat.le_of_ble_eq_true rfl, Nat.le_of_ble_eq_true rfl⟩ zw_1190 zw_1192 zs_40 rfl (by decide) rfl rfl dX11_toss_7) (Nat.le_of_ble_eq_true rfl) (fun _ hr => zt_X11_wrongKept x1 h1 hr) (fun r2 => ?_)
  refine zc_if_ge (pc := 10) 19 dX11_toss_10 (by decide) (fun _ => ?_) (fun _ => ?_)
  · refine zc_aload_n (pc := 19) dX11_toss_19 rfl rfl ?_
    refine zc_getC (pc := 20) zF_X11_28 rfl dX11_toss_20 ?_
    refine zc_iload_n (pc := 23) dX11_toss_23 rfl rfl ?_
    refine zc_guard (fun g3 => ?_)
    refine zc_aldi (pc := 24) rfl g3 dX11_toss_24 ?_
    refine zc_letI (fun v4 _ => ?_)
    refine zc_istore_n (pc := 25) dX11_toss_25 rfl (Nat.le_of_ble_eq_true rfl) rfl (Nat.le_of_ble_eq_true rfl) ?_
    refine zc_sL (ls1 := [some (.ref 60), some (.int x1), some (.int v4), none]) rfl ?_
    refine zc_aload_n (pc := 26) dX11_toss_26 rfl rfl ?_
    refine zc_getC (pc := 27) zF_X11_31 rfl dX11_toss_27 ?_
    refine zc_iload_n (pc := 30) dX11_toss_30 rfl rfl ?_
    refine zc_guard (fun g5 => ?_)
    refine zc_aldi (pc := 31) rfl g5 dX11_toss_31 ?_
    refine zc_letI (fun v6 _ => ?_)
    refine zc_istore_n (pc := 32) dX11_toss_32 rfl (Nat.le_of_ble_eq_true rfl) rfl (Nat.le_of_ble_eq_true rfl) ?_
    refine zc_sL (ls1 := [some (.ref 60), some (.int x1), some (.int v4), some (.int v6)]) rfl ?_
    refine zc_iload_n (pc := 33) dX11_toss_33 rfl rfl ?_
    refine zc_iconst (pc := 34) (5 : Int32) dX11_toss_34 (by decide) ?_
    refine zc_icmp_eq (pc := 35) 42 dX11_toss_35 (by decide) (fun _ => ?_) (fun _ => ?_)
    · refine zc_bipush (pc := 42) (-15 : Int32) dX11_toss_42 (by decide) ?_
      exact zc_iretK (pc := 44) dX11_toss_44 rfl ⟨_, rfl, rfl⟩
    · refine zc_iload_n (pc := 38) dX11_toss_38 rfl rfl ?_
      refine zc_if_ne (pc := 39) 45 dX11_toss_39 (by decide) (fun _ => ?_) (fun _ => ?_)
      · refine zc_bipush (pc := 42) (-15 : Int32) dX11_toss_42 (by decide) ?_
        exact zc_iretK (pc := 44) dX11_toss_44 rfl ⟨_, rfl, rfl⟩
      · refine zc_iload_n (pc := 45) dX11_toss_45 rfl rfl ?_
        refine zc_iconst (pc := 46) (2 : Int32) dX11_toss_46 (by decide) ?_
        refine zc_icmp_eq (pc := 47) 61 dX11_toss_47 (by decide) (fun _ => ?_) (fun _ => ?_)
        · refine zc_bipush (pc := 61) (100 : Int32) dX11_toss_61 (by decide) ?_
          refine zc_iload_n (pc := 63) dX11_toss_63 rfl rfl ?_
          refine zc_iadd (pc := 64) dX11_toss_64 ?_
          refine zc_goto (pc := 65) 92 dX11_toss_65 (by decide) ?_
          exact zc_iretK (pc := 92) dX11_toss_92 rfl ⟨_, rfl, rfl⟩
        · refine zc_iload_n (pc := 50) dX11_toss_50 rfl rfl ?_
          refine zc_iconst (pc := 51) (3 : Int32) dX11_toss_51 (by decide) ?_
          refine zc_icmp_eq (pc := 52) 61 dX11_toss_52 (by decide) (fun _ => ?_) (fun _ => ?_)
          · refine zc_bipush (pc := 61) (100 : Int32) dX11_toss_61 (by decide) ?_
            refine zc_iload_n (pc := 63) dX11_toss_63 rfl rfl ?_
            refine zc_iadd (pc := 64) dX11_toss_64 ?_
            refine zc_goto (pc := 65) 92 dX11_toss_65 (by decide) ?_
            exact zc_iretK (pc := 92) dX11_toss_92 rfl ⟨_, rfl, rfl⟩
          · refine zc_iload_n (pc := 55) dX11_toss_55 rfl rfl ?_
            refine zc_bipush (pc := 56) (7 : Int32) dX11_toss_56 (by decide) ?_
            refine zc_icmp_ne (pc := 58) 68 dX11_toss_58 (by decide) (fun _ => ?_) (fun _ => ?_)
            · refine zc_bipush (pc := 61) (100 : Int32) dX11_toss_61 (by decide) ?_
              refine zc_iload_n (pc := 63) dX11_toss_63 rfl rfl ?_
              refine zc_iadd (pc := 64) dX11_toss_64 ?_
              refine zc_goto (pc := 65) 92 dX11_toss_65 (by decide) ?_
              exact zc_iretK (pc := 92) dX11_toss_92 rfl ⟨_, rfl, rfl⟩
            · refine zc_iload_n (pc := 68) dX11_toss_68 rfl rfl ?_
              refine zc_iconst (pc := 69) (4 : Int32) dX11_toss_69 (by decide) ?_
              refine zc_icmp_eq (pc := 70) 79 dX11_toss_70 (by decide) (fun _ => ?_) (fun _ => ?_)
              · refine zc_sipush (pc := 79) (200 : Int32) dX11_toss_79 (by decide) ?_
                refine zc_iload_n (pc := 82) dX11_toss_82 rfl rfl ?_
                refine zc_iload_n (pc := 83) dX11_toss_83 rfl rfl ?_
                refine zc_callIp (pc := 84) [.int v4, .int v6] rfl (zc_runS zo_X11_costOf ⟨Nat.le_of_ble_eq_true rfl, Nat.le_of_ble_eq_true rfl⟩ zw_1422 zw_1423 rfl dX11_toss_84) (Nat.le_of_ble_eq_true rfl) (fun _ hr => zt_X11_costOf v4 v6 h1 hr) (fun r7 => ?_)
                refine zc_iadd (pc := 87) dX11_toss_87 ?_
                refine zc_goto (pc := 88) 92 dX11_toss_88 (by decide) ?_
                exact zc_iretK (pc := 92) dX11_toss_92 rfl ⟨_, rfl, rfl⟩
              · refine zc_iload_n (pc := 73) dX11_toss_73 rfl rfl ?_
                refine zc_bipush (pc := 74) (6 : Int32) dX11_toss_74 (by decide) ?_
                refine zc_icmp_ne (pc := 76) 91 dX11_toss_76 (by decide) (fun _ => ?_) (fun _ => ?_)
                · refine zc_sipush (pc := 79) (200 : Int32) dX11_toss_79 (by decide) ?_
                  refine zc_iload_n (pc := 82) dX11_toss_82 rfl rfl ?_
                  refine zc_iload_n (pc := 83) dX11_toss_83 rfl rfl ?_
                  refine zc_callIp (pc := 84) [.int v4, .int v6] rfl (zc_runS zo_X11_costOf ⟨Nat.le_of_ble_eq_true rfl, Nat.le_of_ble_eq_true rfl⟩ zw_1422 zw_1423 rfl dX11_toss_84) (Nat.le_of_ble_eq_true rfl) (fun _ hr => zt_X11_costOf v4 v6 h1 hr) (fun r8 => ?_)
                  refine zc_iadd (pc := 87) dX11_toss_87 ?_
                  refine zc_goto (pc := 88) 92 dX11_toss_88 (by decide) ?_
                  exact zc_iretK (pc := 92) dX11_toss_92 rfl ⟨_, rfl, rfl⟩
                · refine zc_iload_n (pc := 91) dX11_toss_91 rfl rfl ?_
                  exact zc_iretK (pc := 92) dX11_toss_92 rfl ⟨_, rfl, rfl⟩
  · refine zc_aload_n (pc := 13) dX11_toss_13 rfl rfl ?_
    refine zc_iload_n (pc := 14) dX11_toss_14 rfl rfl ?_
    refine zc_callIp (pc := 15) [.ref 60, .int x1] rfl (zc_runV (ci := 11) (n0 := 0) (q := (RX11, TX11, 35)) zo_X11_wrongKept ⟨Nat.le_of_ble_eq_true rfl, Nat.le_of_ble_eq_true rfl⟩ zw_1190 zw_1192 zs_40 rfl (by decide) rfl rfl dX11_toss_15) (Nat.le_of_ble_eq_true rfl) (fun _ hr => zt_X11_wrongKept x1 h1 hr) (fun r9 => ?_)
    exact zc_iretK (pc := 18) dX11_toss_18 rfl ⟨_, rfl, rfl⟩

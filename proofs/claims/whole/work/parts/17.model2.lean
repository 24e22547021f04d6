def zl_X11_province_57 (x1 : Int32) : Nat → zHp → Option zHp
  | 0, _ => none
  | fu + 1, h9 => (if (h9.1 60 20) = 0 then (((if (h9.1 60 21) = 0 then some (Sum.inr ()) else (if zc_ix x1 8 then (if (h9.1 70 x1.toNatClampNeg) ≤ (h9.1 60 19) then some (Sum.inl (some h9)) else some (Sum.inr ())) else none)) : Option (Option zHp ⊕ Unit)).bind (Sum.elim (fun o => o) (fun v11 => ((zf_X11_readStatement h9).bind (fun r12 => zl_X11_province_57 x1 fu r12))))) else some h9)
def zl_X11_province_113  : Nat → Int32 → zHp → Option ((Int32 × zHp) ⊕ zHp)
  | 0, _, _ => none
  | fu + 1, y15, h16 => (if (h16.1 60 21) ≤ y15 then some (Sum.inr h16) else ((zf_X11_comesTold y15 h16).bind (fun r17 => (if r17.1 = 0 then ((zf_X11_again r17.2).bind (fun r18 => (if zc_ix y15 51 then some (Sum.inl (((-2000 : Int32) - (r18.1 72 y15.toNatClampNeg)), r18)) else none))) else zl_X11_province_113 fu (y15 + (1 : Int32)) r17.2))))
def zf_X11_province (x1 : Int32) (h : zHp) : Option (Int32 × zHp) :=
  ((some (zc_ui h 60 17 (0 : Int32)) : Option zHp).bind (fun h1 => ((zf_X11_wrongRow x1 h1).bind (fun r2 => (((if r2 = 0 then (if zc_ix x1 8 then (if (h1.1 69 x1.toNatClampNeg) = 0 then some r2 else some (-12 : Int32)) else none) else some r2) : Option Int32).bind (fun v4 => (if 0 ≤ v4 then ((some (zc_ui h1 60 18 x1) : Option zHp).bind (fun h5 => ((some (zc_ui h5 60 19 (0 : Int32)) : Option zHp).bind (fun h6 => ((some (zc_ui h6 60 20 (0 : Int32)) : Option zHp).bind (fun h7 => ((some (zc_ui h7 60 21 (0 : Int32)) : Option zHp).bind (fun h8 => ((zl_X11_province_57 x1 zFU h8).bind (fun v13 => (if (v13.1 60 20) = 0 then ((zf_X11_think v13).bind (fun r14 => ((zl_X11_province_113 zFU (0 : Int32) r14).bind (Sum.elim (fun r => some r) (fun v20 => some ((v20.1 60 21), v20)))))) else some (((-1000 : Int32) - (v13.1 60 19)), v13)))))))))))) else some (v4, h1))))))))
set_option maxRecDepth 100000 in
set_option maxHeartbeats 4000000 in
theorem zt_X11_province (x1 : Int32) (h : zHp) {r : (Int32 × zHp)} (hr : (zf_X11_province x1 h) = some r) : zc_Cn zM_X11_province [.ref 60, .int x1] h (zc_mI r) := by
  refine zc_meth (mk := zc_mI) (o := (zf_X11_province x1 h)) (by decide +kernel) (Nat.le_of_ble_eq_true rfl) ?_ hr
  unfold zf_X11_province
  refine zc_sL (ls1 := [some (.ref 60), some (.int x1), none, none]) rfl ?_
  refine zc_aload_n (pc := 0) dX11_province_0 rfl rfl ?_
  refine zc_iconst (pc := 1) (0 : Int32) dX11_province_1 (by decide) ?_
  refine zc_putI (pc := 2) zF_X11_68 rfl dX11_province_2 ?_
  refine zc_letH (fun h1 _ => ?_)
  refine zc_aload_n (pc := 5) dX11_province_5 rfl rfl ?_
  refine zc_iload_n (pc := 6) dX11_province_6 rfl rfl ?_
  refine zc_callIp (pc := 7) [.ref 60, .int x1] rfl (zc_runV (ci := 11) (n0 := 0) (q := (RX11, TX11, 35)) zo_X11_wrongRow ⟨Nat.le_of_ble_eq_true rfl, Nat.le_of_ble_eq_true rfl⟩ zw_1066 zw_1068 zs_18 rfl (by decide) rfl rfl dX11_province_7) (Nat.le_of_ble_eq_true rfl) (fun _ hr => zt_X11_wrongRow x1 h1 hr) (fun r2 => ?_)
  refine zc_istore_n (pc := 10) dX11_province_10 rfl (Nat.le_of_ble_eq_true rfl) rfl (Nat.le_of_ble_eq_true rfl) ?_
  refine zc_sL (ls1 := [some (.ref 60), some (.int x1), some (.int r2), none]) rfl ?_
  refine zc_iload_n (pc := 11) dX11_province_11 rfl rfl ?_
  refine zc_join 30 (fun v4 => [some (.ref 60), some (.int x1), none, none]) (fun v4 => [.int v4]) (fun v4 => h1) (fun v4 => ?_) (fun J21 => ?_)
  · refine zc_istore_n (pc := 30) dX11_province_30 rfl (Nat.le_of_ble_eq_true rfl) rfl (Nat.le_of_ble_eq_true rfl) ?_
    refine zc_sL (ls1 := [some (.ref 60), some (.int x1), some (.int v4), none]) rfl ?_
    refine zc_iload_n (pc := 31) dX11_province_31 rfl rfl ?_
    refine zc_if_ge (pc := 32) 37 dX11_province_32 (by decide) (fun _ => ?_) (fun _ => ?_)
    · refine zc_aload_n (pc := 37) dX11_province_37 rfl rfl ?_
      refine zc_iload_n (pc := 38) dX11_province_38 rfl rfl ?_
      refine zc_putI (pc := 39) zF_X11_133 rfl dX11_province_39 ?_
      refine zc_letH (fun h5 _ => ?_)
      refine zc_aload_n (pc := 42) dX11_province_42 rfl rfl ?_
      refine zc_iconst (pc := 43) (0 : Int32) dX11_province_43 (by decide) ?_
      refine zc_putI (pc := 44) zF_X11_130 rfl dX11_province_44 ?_
      refine zc_letH (fun h6 _ => ?_)
      refine zc_aload_n (pc := 47) dX11_province_47 rfl rfl ?_
      refine zc_iconst (pc := 48) (0 : Int32) dX11_province_48 (by decide) ?_
      refine zc_putZ (pc := 49) zF_X11_136 rfl (by decide) dX11_province_49 ?_
      refine zc_letH (fun h7 _ => ?_)
      refine zc_aload_n (pc := 52) dX11_province_52 rfl rfl ?_
      refine zc_iconst (pc := 53) (0 : Int32) dX11_province_53 (by decide) ?_
      refine zc_putI (pc := 54) zF_X11_151 rfl dX11_province_54 ?_
      refine zc_letH (fun h8 _ => ?_)
      refine zc_drop 2 ?_
      refine zc_sL (ls1 := [some (.ref 60), some (.int x1), none, none]) rfl ?_
      refine zc_loop 91 (fun v13 => [some (.ref 60), none, none, none]) (fun v13 => []) (fun v13 => v13) (fun v13 => ?_) (fun k23 J22 => ?_)
      · refine zc_aload_n (pc := 91) dX11_province_91 rfl rfl ?_
        refine zc_getI (pc := 92) zF_X11_136 rfl dX11_province_92 ?_
        refine zc_if_eq (pc := 95) 107 dX11_province_95 (by decide) (fun _ => ?_) (fun _ => ?_)
        · refine zc_aload_n (pc := 107) dX11_province_107 rfl rfl ?_
          refine zc_callV (pc := 108) [.ref 60] rfl (zc_runV (ci := 11) (n0 := 0) (q := (RX11, TX11, 35)) zo_X11_think ⟨Nat.le_of_ble_eq_true rfl, Nat.le_of_ble_eq_true rfl⟩ zw_1095 zw_1097 zs_23 rfl (by decide) rfl rfl dX11_province_108) (Nat.le_of_ble_eq_true rfl) (fun _ hr => zt_X11_think v13 hr) (fun r14 => ?_)
          refine zc_iconst (pc := 111) (0 : Int32) dX11_province_111 (by decide) ?_
          refine zc_istore_n (pc := 112) dX11_province_112 rfl (Nat.le_of_ble_eq_true rfl) rfl (Nat.le_of_ble_eq_true rfl) ?_
          refine zc_sL (ls1 := [some (.ref 60), none, none, some (.int (0 : Int32))]) rfl ?_
          refine zc_sL (ls1 := [some (.ref 60), none, none, some (.int (0 : Int32))]) rfl ?_
          refine zc_loopS zc_mI 150 (fun v20 => [some (.ref 60), none, none, none]) (fun v20 => []) (fun v20 => v20) (fun v20 => ?_) (fun z => ⟨_, rfl, rfl⟩) (fun k26 J25 K27 => ?_)
          · refine zc_aload_n (pc := 150) dX11_province_150 rfl rfl ?_
            refine zc_getI (pc := 151) zF_X11_151 rfl dX11_province_151 ?_
            exact zc_iretK (pc := 154) dX11_province_154 rfl ⟨_, rfl, rfl⟩
          · have L28 : ∀ (fu : Nat) (y15 : Int32) (h16 : zHp), zc_G zM_X11_province zc_mI 113 [some (.ref 60), none, none, some (.int y15)] [] h16 ((zl_X11_province_113 fu y15 h16).bind k26) := by
                intro fu
                induction fu with
                | zero => intros; exact zc_noneb
                | succ fu ih29 =>
                  intro y15 h16
                  unfold zl_X11_province_113
                  refine zc_iload_n (pc := 113) dX11_province_113 rfl rfl ?_
                  refine zc_aload_n (pc := 114) dX11_province_114 rfl rfl ?_
                  refine zc_getI (pc := 115) zF_X11_151 rfl dX11_province_115 ?_
                  refine zc_icmp_ge (pc := 118) 150 dX11_province_118 (by decide) (fun _ => ?_) (fun _ => ?_)
                  · refine zc_drop 3 ?_
                    exact J25 h16
                  · refine zc_aload_n (pc := 121) dX11_province_121 rfl rfl ?_
                    refine zc_iload_n (pc := 122) dX11_province_122 rfl rfl ?_
                    refine zc_callI (pc := 123) [.ref 60, .int y15] rfl (zc_runV (ci := 11) (n0 := 0) (q := (RX11, TX11, 35)) zo_X11_comesTold ⟨Nat.le_of_ble_eq_true rfl, Nat.le_of_ble_eq_true rfl⟩ zw_1107 zw_1109 zs_26 rfl (by decide) rfl rfl dX11_province_123) (Nat.le_of_ble_eq_true rfl) (fun _ hr => zt_X11_comesTold y15 h16 hr) (fun r17 => ?_)
                    refine zc_if_ne (pc := 126) 144 dX11_province_126 (by decide) (fun _ => ?_) (fun _ => ?_)
                    · refine zc_aload_n (pc := 129) dX11_province_129 rfl rfl ?_
                      refine zc_callV (pc := 130) [.ref 60] rfl (zc_runV (ci := 11) (n0 := 0) (q := (RX11, TX11, 35)) zo_X11_again ⟨Nat.le_of_ble_eq_true rfl, Nat.le_of_ble_eq_true rfl⟩ zw_1170 zw_1172 zs_39 rfl (by decide) rfl rfl dX11_province_130) (Nat.le_of_ble_eq_true rfl) (fun _ hr => zt_X11_again r17.2 hr) (fun r18 => ?_)
                      refine zc_sipush (pc := 133) (-2000 : Int32) dX11_province_133 (by decide) ?_
                      refine zc_aload_n (pc := 136) dX11_province_136 rfl rfl ?_
                      refine zc_getC (pc := 137) zF_X11_44 rfl dX11_province_137 ?_
                      refine zc_iload_n (pc := 140) dX11_province_140 rfl rfl ?_
                      refine zc_guard (fun g19 => ?_)
                      refine zc_aldi (pc := 141) rfl g19 dX11_province_141 ?_
                      refine zc_isub (pc := 142) dX11_province_142 ?_
                      exact zc_iretK (pc := 143) dX11_province_143 rfl (K27 _)
                    · refine zc_iinc (pc := 144) (1 : Int32) dX11_province_144 (by decide) rfl (Nat.le_of_ble_eq_true rfl) rfl ?_
                      refine zc_sL (ls1 := [some (.ref 60), none, none, some (.int (y15 + (1 : Int32)))]) rfl ?_
                      refine zc_goto (pc := 147) 113 dX11_province_147 (by decide) ?_
                      exact ih29 (y15 + (1 : Int32)) r17.2
            exact L28 zFU (0 : Int32) r14
        · refine zc_sipush (pc := 98) (-1000 : Int32) dX11_province_98 (by decide) ?_
          refine zc_aload_n (pc := 101) dX11_province_101 rfl rfl ?_
          refine zc_getI (pc := 102) zF_X11_130 rfl dX11_province_102 ?_
          refine zc_isub (pc := 105) dX11_province_105 ?_
          exact zc_iretK (pc := 106) dX11_province_106 rfl ⟨_, rfl, rfl⟩
      · have L30 : ∀ (fu : Nat) (h9 : zHp), zc_G zM_X11_province zc_mI 57 [some (.ref 60), some (.int x1), none, none] [] h9 ((zl_X11_province_57 x1 fu h9).bind k23) := by
            intro fu
            induction fu with
            | zero => intros; exact zc_noneb
            | succ fu ih31 =>
              intro h9
              unfold zl_X11_province_57
              refine zc_aload_n (pc := 57) dX11_province_57 rfl rfl ?_
              refine zc_getI (pc := 58) zF_X11_136 rfl dX11_province_58 ?_
              refine zc_if_ne (pc := 61) 91 dX11_province_61 (by decide) (fun _ => ?_) (fun _ => ?_)
              · refine zc_aload_n (pc := 64) dX11_province_64 rfl rfl ?_
                refine zc_getI (pc := 65) zF_X11_151 rfl dX11_province_65 ?_
                refine zc_joinS 84 (fun v11 => [some (.ref 60), some (.int x1), none, none]) (fun v11 => []) (fun v11 => h9) (fun v11 => ?_) (fun J32 => ?_)
                · refine zc_aload_n (pc := 84) dX11_province_84 rfl rfl ?_
                  refine zc_callV (pc := 85) [.ref 60] rfl (zc_runV (ci := 11) (n0 := 0) (q := (RX11, TX11, 35)) zo_X11_readStatement ⟨Nat.le_of_ble_eq_true rfl, Nat.le_of_ble_eq_true rfl⟩ zw_1074 zw_1076 zs_19 rfl (by decide) rfl rfl dX11_province_85) (Nat.le_of_ble_eq_true rfl) (fun _ hr => zt_X11_readStatement h9 hr) (fun r12 => ?_)
                  refine zc_goto (pc := 88) 57 dX11_province_88 (by decide) ?_
                  exact ih31 r12
                · refine zc_if_eq (pc := 68) 84 dX11_province_68 (by decide) (fun _ => ?_) (fun _ => ?_)
                  · exact J32 ()
                  · refine zc_aload_n (pc := 71) dX11_province_71 rfl rfl ?_
                    refine zc_getI (pc := 72) zF_X11_130 rfl dX11_province_72 ?_
                    refine zc_aload_n (pc := 75) dX11_province_75 rfl rfl ?_
                    refine zc_getC (pc := 76) zF_X11_37 rfl dX11_province_76 ?_
                    refine zc_iload_n (pc := 79) dX11_province_79 rfl rfl ?_
                    refine zc_guard (fun g10 => ?_)
                    refine zc_aldi (pc := 80) rfl g10 dX11_province_80 ?_
                    refine zc_icmp_ge (pc := 81) 91 dX11_province_81 (by decide) (fun _ => ?_) (fun _ => ?_)
                    · refine zc_drop 1 ?_
                      exact J22 h9
                    · exact J32 ()
              · refine zc_drop 1 ?_
                exact J22 h9
        exact L30 zFU h8
    · refine zc_iload_n (pc := 35) dX11_province_35 rfl rfl ?_
      exact zc_iretK (pc := 36) dX11_province_36 rfl ⟨_, rfl, rfl⟩
  · refine zc_if_ne (pc := 12) 29 dX11_province_12 (by decide) (fun _ => ?_) (fun _ => ?_)
    · refine zc_aload_n (pc := 15) dX11_province_15 rfl rfl ?_
      refine zc_getC (pc := 16) zF_X11_34 rfl dX11_province_16 ?_
      refine zc_iload_n (pc := 19) dX11_province_19 rfl rfl ?_
      refine zc_guard (fun g3 => ?_)
      refine zc_aldi (pc := 20) rfl g3 dX11_province_20 ?_
      refine zc_if_eq (pc := 21) 29 dX11_province_21 (by decide) (fun _ => ?_) (fun _ => ?_)
      · refine zc_iload_n (pc := 29) dX11_province_29 rfl rfl ?_
        refine zc_drop 2 ?_
        exact J21 r2
      · refine zc_bipush (pc := 24) (-12 : Int32) dX11_province_24 (by decide) ?_
        refine zc_goto (pc := 26) 30 dX11_province_26 (by decide) ?_
        refine zc_drop 2 ?_
        exact J21 (-12 : Int32)
    · refine zc_iload_n (pc := 29) dX11_province_29 rfl rfl ?_
      refine zc_drop 2 ?_
      exact J21 r2
def zf_X11_image (h : zHp) : Option (Int32 × zHp) :=
  ((some (zc_ui h 60 17 (0 : Int32)) : Option zHp).bind (fun h1 => ((some (zc_ui h1 60 27 (1 : Int32)) : Option zHp).bind (fun h2 => ((zf_X11_carryAll 76 41 (1 : Int32) h2).bind (fun r3 => some ((r3.1 60 10), r3)))))))
set_option maxRecDepth 100000 in
set_option maxHeartbeats 4000000 in
theorem zt_X11_image (h : zHp) {r : (Int32 × zHp)} (hr : (zf_X11_image h) = some r) : zc_Cn zM_X11_image [.ref 60] h (zc_mI r) := by
  refine zc_meth (mk := zc_mI) (o := (zf_X11_image h)) (by decide +kernel) (Nat.le_of_ble_eq_true rfl) ?_ hr
  unfold zf_X11_image
  refine zc_sL (ls1 := [some (.ref 60)]) rfl ?_
  refine zc_aload_n (pc := 0) dX11_image_0 rfl rfl ?_
  refine zc_iconst (pc := 1) (0 : Int32) dX11_image_1 (by decide) ?_
  refine zc_putI (pc := 2) zF_X11_68 rfl dX11_image_2 ?_
  refine zc_letH (fun h1 _ => ?_)
  refine zc_aload_n (pc := 5) dX11_image_5 rfl rfl ?_
  refine zc_iconst (pc := 6) (1 : Int32) dX11_image_6 (by decide) ?_
  refine zc_putZ (pc := 7) zF_X11_211 rfl (by decide) dX11_image_7 ?_
  refine zc_letH (fun h2 _ => ?_)
  refine zc_aload_n (pc := 10) dX11_image_10 rfl rfl ?_
  refine zc_aload_n (pc := 11) dX11_image_11 rfl rfl ?_
  refine zc_getC (pc := 12) zF_X11_56 rfl dX11_image_12 ?_
  refine zc_iconst (pc := 15) (1 : Int32) dX11_image_15 (by decide) ?_
  refine zc_callV (pc := 16) [.ref 60, .ref 76, .int (1 : Int32)] rfl (zc_runV (ci := 11) (n0 := 0) (q := (RX11, TX11, 35)) zo_X11_carryAll ⟨Nat.le_of_ble_eq_true rfl, Nat.le_of_ble_eq_true rfl⟩ zw_1099 zw_1101 zs_24 rfl (by decide) rfl rfl dX11_image_16) (Nat.le_of_ble_eq_true rfl) (fun _ hr => zt_X11_carryAll 76 41 rfl (1 : Int32) h2 hr) (fun r3 => ?_)
  refine zc_aload_n (pc := 19) dX11_image_19 rfl rfl ?_
  refine zc_getI (pc := 20) zF_X11_97 rfl dX11_image_20 ?_
  exact zc_iretK (pc := 23) dX11_image_23 rfl ⟨_, rfl, rfl⟩
def zf_X11_restore (h : zHp) : Option (Int32 × zHp) :=
  ((some (zc_ui h 60 17 (0 : Int32)) : Option zHp).bind (fun h1 => (if (h1.1 60 27) = 0 then some ((-3 : Int32), h1) else ((zf_X11_carryAll 76 41 (0 : Int32) h1).bind (fun r2 => some ((r2.1 60 10), r2))))))
set_option maxRecDepth 100000 in
set_option maxHeartbeats 4000000 in
theorem zt_X11_restore (h : zHp) {r : (Int32 × zHp)} (hr : (zf_X11_restore h) = some r) : zc_Cn zM_X11_restore [.ref 60] h (zc_mI r) := by
  refine zc_meth (mk := zc_mI) (o := (zf_X11_restore h)) (by decide +kernel) (Nat.le_of_ble_eq_true rfl) ?_ hr
  unfold zf_X11_restore
  refine zc_sL (ls1 := [some (.ref 60)]) rfl ?_
  refine zc_aload_n (pc := 0) dX11_restore_0 rfl rfl ?_
  refine zc_iconst (pc := 1) (0 : Int32) dX11_restore_1 (by decide) ?_
  refine zc_putI (pc := 2) zF_X11_68 rfl dX11_restore_2 ?_
  refine zc_letH (fun h1 _ => ?_)
  refine zc_aload_n (pc := 5) dX11_restore_5 rfl rfl ?_
  refine zc_getI (pc := 6) zF_X11_211 rfl dX11_restore_6 ?_
  refine zc_if_ne (pc := 9) 15 dX11_restore_9 (by decide) (fun _ => ?_) (fun _ => ?_)
  · refine zc_bipush (pc := 12) (-3 : Int32) dX11_restore_12 (by decide) ?_
    exact zc_iretK (pc := 14) dX11_restore_14 rfl ⟨_, rfl, rfl⟩
  · refine zc_aload_n (pc := 15) dX11_restore_15 rfl rfl ?_
    refine zc_aload_n (pc := 16) dX11_restore_16 rfl rfl ?_
    refine zc_getC (pc := 17) zF_X11_56 rfl dX11_restore_17 ?_
    refine zc_iconst (pc := 20) (0 : Int32) dX11_restore_20 (by decide) ?_
    refine zc_callV (pc := 21) [.ref 60, .ref 76, .int (0 : Int32)] rfl (zc_runV (ci := 11) (n0 := 0) (q := (RX11, TX11, 35)) zo_X11_carryAll ⟨Nat.le_of_ble_eq_true rfl, Nat.le_of_ble_eq_true rfl⟩ zw_1099 zw_1101 zs_24 rfl (by decide) rfl rfl dX11_restore_21) (Nat.le_of_ble_eq_true rfl) (fun _ hr => zt_X11_carryAll 76 41 rfl (0 : Int32) h1 hr) (fun r2 => ?_)
    refine zc_aload_n (pc := 24) dX11_restore_24 rfl rfl ?_
    refine zc_getI (pc := 25) zF_X11_97 rfl dX11_restore_25 ?_
    exact zc_iretK (pc := 28) dX11_restore_28 rfl ⟨_, rfl, rfl⟩
def zf_X11_village (x1 : Int32) (x2 : Int32) (h : zHp) : Option (Int32 × zHp) :=
  ((some (zc_ui h 60 17 (0 : Int32)) : Option zHp).bind (fun h1 => ((zf_X11_isOne x1 h1).bind (fun r2 => (if r2 = 0 then some ((-1 : Int32), h1) else ((zf_X11_in x2.toInt64 (0 : Int64) (7 : Int64)).bind (fun r3 => (if r3 = 0 then some ((-1 : Int32), h1) else (if x2 = (0 : Int32) then (if zc_ix x1 7 then some ((h1.1 61 x1.toNatClampNeg), h1) else none) else (if x2 = (1 : Int32) then (if zc_ix x1 7 then some ((h1.1 62 x1.toNatClampNeg), h1) else none) else (if x2 = (2 : Int32) then (if zc_ix x1 7 then some ((h1.1 63 x1.toNatClampNeg), h1) else none) else (if x2 = (3 : Int32) then (if zc_ix x1 7 then some ((h1.1 64 x1.toNatClampNeg), h1) else none) else (if x2 = (4 : Int32) then (if zc_ix x1 7 then some ((h1.1 65 x1.toNatClampNeg), h1) else none) else (if x2 = (5 : Int32) then ((zf_X11_isFetching x1 h1).bind (fun r9 => (if r9 = 0 then some ((-4 : Int32), h1) else (if zc_ix x1 7 then (if zc_ix (h1.1 64 x1.toNatClampNeg) 7 then ((zf_X11_wayOf x1 (h1.1 63 (h1.1 64 x1.toNatClampNeg).toNatClampNeg) h1).bind (fun r12 => some (r12, h1))) else none) else none)))) else (if x2 = (6 : Int32) then ((zf_X11_isAble x1 h1).bind (fun r13 => (if r13 = 0 then some ((0 : Int32), h1) else some ((1 : Int32), h1)))) else ((zf_X11_goesOf x1 h1).bind (fun r14 => some (r14, h1))))))))))))))))))
set_option maxRecDepth 100000 in
set_option maxHeartbeats 4000000 in
theorem zt_X11_village (x1 : Int32) (x2 : Int32) (h : zHp) {r : (Int32 × zHp)} (hr : (zf_X11_village x1 x2 h) = some r) : zc_Cn zM_X11_village [.ref 60, .int x1, .int x2] h (zc_mI r) := by
  refine zc_meth (mk := zc_mI) (o := (zf_X11_village x1 x2 h)) (by decide +kernel) (Nat.le_of_ble_eq_true rfl) ?_ hr
  unfold zf_X11_village
  refine zc_sL (ls1 := [some (.ref 60), some (.int x1), some (.int x2)]) rfl ?_
  refine zc_aload_n (pc := 0) dX11_village_0 rfl rfl ?_
  refine zc_iconst (pc := 1) (0 : Int32) dX11_village_1 (by decide) ?_
  refine zc_putI (pc := 2) zF_X11_68 rfl dX11_village_2 ?_
  refine zc_letH (fun h1 _ => ?_)
  refine zc_aload_n (pc := 5) dX11_village_5 rfl rfl ?_
  refine zc_iload_n (pc := 6) dX11_village_6 rfl rfl ?_
  refine zc_callIp (pc := 7) [.ref 60, .int x1] rfl (zc_runV (ci := 11) (n0 := 0) (q := (RX11, TX11, 35)) zo_X11_isOne ⟨Nat.le_of_ble_eq_true rfl, Nat.le_of_ble_eq_true rfl⟩ zw_1119 zw_1121 zs_28 rfl (by decide) rfl rfl dX11_village_7) (Nat.le_of_ble_eq_true rfl) (fun _ hr => zt_X11_isOne x1 h1 hr) (fun r2 => ?_)
  refine zc_if_eq (pc := 10) 25 dX11_village_10 (by decide) (fun _ => ?_) (fun _ => ?_)
  · refine zc_iconst (pc := 25) (-1 : Int32) dX11_village_25 (by decide) ?_
    exact zc_iretK (pc := 26) dX11_village_26 rfl ⟨_, rfl, rfl⟩
  · refine zc_iload_n (pc := 13) dX11_village_13 rfl rfl ?_
    refine zc_i2l (pc := 14) dX11_village_14 ?_
    refine zc_lconst (pc := 15) (0 : Int64) dX11_village_15 (by decide) ?_
    refine zc_ldc2 (pc := 16) dX11_village_16 zw_1070 ?_
    refine zc_callIp (pc := 19) [.long x2.toInt64, .long (0 : Int64), .long (7 : Int64)] rfl (zc_runS zo_X11_in ⟨Nat.le_of_ble_eq_true rfl, Nat.le_of_ble_eq_true rfl⟩ zw_1071 zw_1072 rfl dX11_village_19) (Nat.le_of_ble_eq_true rfl) (fun _ hr => zt_X11_in x2.toInt64 (0 : Int64) (7 : Int64) h1 hr) (fun r3 => ?_)
    refine zc_if_ne (pc := 22) 27 dX11_village_22 (by decide) (fun _ => ?_) (fun _ => ?_)
    · refine zc_iconst (pc := 25) (-1 : Int32) dX11_village_25 (by decide) ?_
      exact zc_iretK (pc := 26) dX11_village_26 rfl ⟨_, rfl, rfl⟩
    · refine zc_iload_n (pc := 27) dX11_village_27 rfl rfl ?_
      refine zc_sw (fun s15 => ?_) (fun s15 => ?_)
      · refine zc_tblIn (pc := 28) (off := 44) 72 s15 dX11_village_28 (by decide) ?_
        refine zc_aload_n (pc := 72) dX11_village_72 rfl rfl ?_
        refine zc_getC (pc := 73) zF_X11_7 rfl dX11_village_73 ?_
        refine zc_iload_n (pc := 76) dX11_village_76 rfl rfl ?_
        refine zc_guard (fun g4 => ?_)
        refine zc_aldi (pc := 77) rfl g4 dX11_village_77 ?_
        exact zc_iretK (pc := 78) dX11_village_78 rfl ⟨_, rfl, rfl⟩
      refine zc_sw (fun s16 => ?_) (fun s16 => ?_)
      · refine zc_tblIn (pc := 28) (off := 51) 79 s16 dX11_village_28 (by decide) ?_
        refine zc_aload_n (pc := 79) dX11_village_79 rfl rfl ?_
        refine zc_getC (pc := 80) zF_X11_13 rfl dX11_village_80 ?_
        refine zc_iload_n (pc := 83) dX11_village_83 rfl rfl ?_
        refine zc_guard (fun g5 => ?_)
        refine zc_aldi (pc := 84) rfl g5 dX11_village_84 ?_
        exact zc_iretK (pc := 85) dX11_village_85 rfl ⟨_, rfl, rfl⟩
      refine zc_sw (fun s17 => ?_) (fun s17 => ?_)
      · refine zc_tblIn (pc := 28) (off := 58) 86 s17 dX11_village_28 (by decide) ?_
        refine zc_aload_n (pc := 86) dX11_village_86 rfl rfl ?_
        refine zc_getC (pc := 87) zF_X11_16 rfl dX11_village_87 ?_
        refine zc_iload_n (pc := 90) dX11_village_90 rfl rfl ?_
        refine zc_guard (fun g6 => ?_)
        refine zc_aldi (pc := 91) rfl g6 dX11_village_91 ?_
        exact zc_iretK (pc := 92) dX11_village_92 rfl ⟨_, rfl, rfl⟩
      refine zc_sw (fun s18 => ?_) (fun s18 => ?_)
      · refine zc_tblIn (pc := 28) (off := 65) 93 s18 dX11_village_28 (by decide) ?_
        refine zc_aload_n (pc := 93) dX11_village_93 rfl rfl ?_
        refine zc_getC (pc := 94) zF_X11_19 rfl dX11_village_94 ?_
        refine zc_iload_n (pc := 97) dX11_village_97 rfl rfl ?_
        refine zc_guard (fun g7 => ?_)
        refine zc_aldi (pc := 98) rfl g7 dX11_village_98 ?_
        exact zc_iretK (pc := 99) dX11_village_99 rfl ⟨_, rfl, rfl⟩
      refine zc_sw (fun s19 => ?_) (fun s19 => ?_)
      · refine zc_tblIn (pc := 28) (off := 72) 100 s19 dX11_village_28 (by decide) ?_
        refine zc_aload_n (pc := 100) dX11_village_100 rfl rfl ?_
        refine zc_getC (pc := 101) zF_X11_22 rfl dX11_village_101 ?_
        refine zc_iload_n (pc := 104) dX11_village_104 rfl rfl ?_
        refine zc_guard (fun g8 => ?_)
        refine zc_aldi (pc := 105) rfl g8 dX11_village_105 ?_
        exact zc_iretK (pc := 106) dX11_village_106 rfl ⟨_, rfl, rfl⟩
      refine zc_sw (fun s20 => ?_) (fun s20 => ?_)
      · refine zc_tblIn (pc := 28) (off := 79) 107 s20 dX11_village_28 (by decide) ?_
        refine zc_aload_n (pc := 107) dX11_village_107 rfl rfl ?_
        refine zc_iload_n (pc := 108) dX11_village_108 rfl rfl ?_
        refine zc_callIp (pc := 109) [.ref 60, .int x1] rfl (zc_runV (ci := 11) (n0 := 0) (q := (RX11, TX11, 35)) zo_X11_isFetching ⟨Nat.le_of_ble_eq_true rfl, Nat.le_of_ble_eq_true rfl⟩ zw_1140 zw_1142 zs_33 rfl (by decide) rfl rfl dX11_village_109) (Nat.le_of_ble_eq_true rfl) (fun _ hr => zt_X11_isFetching x1 h1 hr) (fun r9 => ?_)
        refine zc_if_eq (pc := 112) 134 dX11_village_112 (by decide) (fun _ => ?_) (fun _ => ?_)
        · refine zc_bipush (pc := 134) (-4 : Int32) dX11_village_134 (by decide) ?_
          exact zc_iretK (pc := 136) dX11_village_136 rfl ⟨_, rfl, rfl⟩
        · refine zc_aload_n (pc := 115) dX11_village_115 rfl rfl ?_
          refine zc_iload_n (pc := 116) dX11_village_116 rfl rfl ?_
          refine zc_aload_n (pc := 117) dX11_village_117 rfl rfl ?_
          refine zc_getC (pc := 118) zF_X11_16 rfl dX11_village_118 ?_
          refine zc_aload_n (pc := 121) dX11_village_121 rfl rfl ?_
          refine zc_getC (pc := 122) zF_X11_19 rfl dX11_village_122 ?_
          refine zc_iload_n (pc := 125) dX11_village_125 rfl rfl ?_
          refine zc_guard (fun g10 => ?_)
          refine zc_aldi (pc := 126) rfl g10 dX11_village_126 ?_
          refine zc_guard (fun g11 => ?_)
          refine zc_aldi (pc := 127) rfl g11 dX11_village_127 ?_
          refine zc_callIp (pc := 128) [.ref 60, .int x1, .int (h1.1 63 (h1.1 64 x1.toNatClampNeg).toNatClampNeg)] rfl (zc_runV (ci := 11) (n0 := 0) (q := (RX11, TX11, 35)) zo_X11_wayOf ⟨Nat.le_of_ble_eq_true rfl, Nat.le_of_ble_eq_true rfl⟩ zw_1144 zw_1146 zs_34 rfl (by decide) rfl rfl dX11_village_128) (Nat.le_of_ble_eq_true rfl) (fun _ hr => zt_X11_wayOf x1 (h1.1 63 (h1.1 64 x1.toNatClampNeg).toNatClampNeg) h1 hr) (fun r12 => ?_)
          refine zc_goto (pc := 131) 136 dX11_village_131 (by decide) ?_
          exact zc_iretK (pc := 136) dX11_village_136 rfl ⟨_, rfl, rfl⟩
      refine zc_sw (fun s21 => ?_) (fun s21 => ?_)
      · refine zc_tblIn (pc := 28) (off := 109) 137 s21 dX11_village_28 (by decide) ?_
        refine zc_aload_n (pc := 137) dX11_village_137 rfl rfl ?_
        refine zc_iload_n (pc := 138) dX11_village_138 rfl rfl ?_
        refine zc_callIp (pc := 139) [.ref 60, .int x1] rfl (zc_runV (ci := 11) (n0 := 0) (q := (RX11, TX11, 35)) zo_X11_isAble ⟨Nat.le_of_ble_eq_true rfl, Nat.le_of_ble_eq_true rfl⟩ zw_1136 zw_1138 zs_32 rfl (by decide) rfl rfl dX11_village_139) (Nat.le_of_ble_eq_true rfl) (fun _ hr => zt_X11_isAble x1 h1 hr) (fun r13 => ?_)
        refine zc_if_eq (pc := 142) 149 dX11_village_142 (by decide) (fun _ => ?_) (fun _ => ?_)
        · refine zc_iconst (pc := 149) (0 : Int32) dX11_village_149 (by decide) ?_
          exact zc_iretK (pc := 150) dX11_village_150 rfl ⟨_, rfl, rfl⟩
        · refine zc_iconst (pc := 145) (1 : Int32) dX11_village_145 (by decide) ?_
          refine zc_goto (pc := 146) 150 dX11_village_146 (by decide) ?_
          exact zc_iretK (pc := 150) dX11_village_150 rfl ⟨_, rfl, rfl⟩
      refine zc_tblD (pc := 28) 151 [0, 1, 2, 3, 4, 5, 6] dX11_village_28 (by decide) (List.forall_mem_cons.mpr ⟨zc_neJ s15 (by decide), (List.forall_mem_cons.mpr ⟨zc_neJ s16 (by decide), (List.forall_mem_cons.mpr ⟨zc_neJ s17 (by decide), (List.forall_mem_cons.mpr ⟨zc_neJ s18 (by decide), (List.forall_mem_cons.mpr ⟨zc_neJ s19 (by decide), (List.forall_mem_cons.mpr ⟨zc_neJ s20 (by decide), (List.forall_mem_cons.mpr ⟨zc_neJ s21 (by decide), (fun _ hm => nomatch hm)⟩)⟩)⟩)⟩)⟩)⟩)⟩) ?_
      refine zc_aload_n (pc := 151) dX11_village_151 rfl rfl ?_
      refine zc_iload_n (pc := 152) dX11_village_152 rfl rfl ?_
      refine zc_callIp (pc := 153) [.ref 60, .int x1] rfl (zc_runV (ci := 11) (n0 := 0) (q := (RX11, TX11, 35)) zo_X11_goesOf ⟨Nat.le_of_ble_eq_true rfl, Nat.le_of_ble_eq_true rfl⟩ zw_1154 zw_1156 zs_35 rfl (by decide) rfl rfl dX11_village_153) (Nat.le_of_ble_eq_true rfl) (fun _ hr => zt_X11_goesOf x1 h1 hr) (fun r14 => ?_)
      exact zc_iretK (pc := 156) dX11_village_156 rfl ⟨_, rfl, rfl⟩
def zf_X11_wrongKept (x1 : Int32) (h : zHp) : Option Int32 :=
  ((zf_X11_in x1.toInt64 (0 : Int64) (7 : Int64)).bind (fun r1 => (if r1 = 0 then some (-1 : Int32) else (if zc_ix x1 8 then (if (h.1 66 x1.toNatClampNeg) = 0 then some (-11 : Int32) else (if zc_ix x1 8 then (if (h.1 66 x1.toNatClampNeg) = (2 : Int32) then some (-12 : Int32) else some (0 : Int32)) else none)) else none))))
set_option maxRecDepth 100000 in
set_option maxHeartbeats 4000000 in
theorem zt_X11_wrongKept (x1 : Int32) (h : zHp) {r : Int32} (hr : (zf_X11_wrongKept x1 h) = some r) : zc_Cn zM_X11_wrongKept [.ref 60, .int x1] h ((fun r => zc_mI (r, h)) r) := by
  refine zc_meth (mk := (fun r => zc_mI (r, h))) (o := (zf_X11_wrongKept x1 h)) (by decide +kernel) (Nat.le_of_ble_eq_true rfl) ?_ hr
  unfold zf_X11_wrongKept
  refine zc_sL (ls1 := [some (.ref 60), some (.int x1)]) rfl ?_
  refine zc_iload_n (pc := 0) dX11_wrongKept_0 rfl rfl ?_
  refine zc_i2l (pc := 1) dX11_wrongKept_1 ?_
  refine zc_lconst (pc := 2) (0 : Int64) dX11_wrongKept_2 (by decide) ?_
  refine zc_ldc2 (pc := 3) dX11_wrongKept_3 zw_1070 ?_
  refine zc_callIp (pc := 6) [.long x1.toInt64, .long (0 : Int64), .long (7 : Int64)] rfl (zc_runS zo_X11_in ⟨Nat.le_of_ble_eq_true rfl, Nat.le_of_ble_eq_true rfl⟩ zw_1071 zw_1072 rfl dX11_wrongKept_6) (Nat.le_of_ble_eq_true rfl) (fun _ hr => zt_X11_in x1.toInt64 (0 : Int64) (7 : Int64) h hr) (fun r1 => ?_)
  refine zc_if_ne (pc := 9) 16 dX11_wrongKept_9 (by decide) (fun _ => ?_) (fun _ => ?_)
  · refine zc_iconst (pc := 12) (-1 : Int32) dX11_wrongKept_12 (by decide) ?_
    refine zc_goto (pc := 13) 46 dX11_wrongKept_13 (by decide) ?_
    exact zc_iretK (pc := 46) dX11_wrongKept_46 rfl ⟨_, rfl, rfl⟩
  · refine zc_aload_n (pc := 16) dX11_wrongKept_16 rfl rfl ?_
    refine zc_getC (pc := 17) zF_X11_25 rfl dX11_wrongKept_17 ?_
    refine zc_iload_n (pc := 20) dX11_wrongKept_20 rfl rfl ?_
    refine zc_guard (fun g2 => ?_)
    refine zc_aldi (pc := 21) rfl g2 dX11_wrongKept_21 ?_
    refine zc_if_ne (pc := 22) 30 dX11_wrongKept_22 (by decide) (fun _ => ?_) (fun _ => ?_)
    · refine zc_bipush (pc := 25) (-11 : Int32) dX11_wrongKept_25 (by decide) ?_
      refine zc_goto (pc := 27) 46 dX11_wrongKept_27 (by decide) ?_
      exact zc_iretK (pc := 46) dX11_wrongKept_46 rfl ⟨_, rfl, rfl⟩
    · refine zc_aload_n (pc := 30) dX11_wrongKept_30 rfl rfl ?_
      refine zc_getC (pc := 31) zF_X11_25 rfl dX11_wrongKept_31 ?_
      refine zc_iload_n (pc := 34) dX11_wrongKept_34 rfl rfl ?_
      refine zc_guard (fun g3 => ?_)
      refine zc_aldi (pc := 35) rfl g3 dX11_wrongKept_35 ?_
      refine zc_iconst (pc := 36) (2 : Int32) dX11_wrongKept_36 (by decide) ?_
      refine zc_icmp_ne (pc := 37) 45 dX11_wrongKept_37 (by decide) (fun _ => ?_) (fun _ => ?_)
      · refine zc_bipush (pc := 40) (-12 : Int32) dX11_wrongKept_40 (by decide) ?_
        refine zc_goto (pc := 42) 46 dX11_wrongKept_42 (by decide) ?_
        exact zc_iretK (pc := 46) dX11_wrongKept_46 rfl ⟨_, rfl, rfl⟩
      · refine zc_iconst (pc := 45) (0 : Int32) dX11_wrongKept_45 (by decide) ?_
        exact zc_iretK (pc := 46) dX11_wrongKept_46 rfl ⟨_, rfl, rfl⟩
def zf_X11_comes (x1 : Int32) (x2 : Int32) (h : zHp) : Option (Int32 × zHp) :=
  ((some (zc_ui h 60 17 (0 : Int32)) : Option zHp).bind (fun h1 => ((zf_X11_in x1.toInt64 (0 : Int64) (7 : Int64)).bind (fun r2 => (if r2 = 0 then some ((-1 : Int32), h1) else ((zf_X11_isPlace x2).bind (fun r3 => (if r3 = 0 then some ((-1 : Int32), h1) else ((zf_X11_wrongKept x1 h1).bind (fun r4 => (((if r4 < 0 then some (Sum.inr ()) else (if (h1.1 60 3) = (7 : Int32) then some (Sum.inr ()) else (if zc_ix x1 8 then (if zc_ix x1 8 then ((zf_X11_oneComes (h1.1 67 x1.toNatClampNeg) (h1.1 68 x1.toNatClampNeg) x2 (h1.1 60 3) h1).bind (fun r7 => some (Sum.inl (some (((r7.2.1 60 3) - (1 : Int32)), r7.2))))) else none) else none))) : Option (Option (Int32 × zHp) ⊕ Unit)).bind (Sum.elim (fun o => o) (fun v8 => ((zf_X11_wrongKept x1 h1).bind (fun r9 => (if 0 ≤ r9 then some ((-2 : Int32), h1) else ((zf_X11_wrongKept x1 h1).bind (fun r10 => some (r10, h1)))))))))))))))))))
set_option maxRecDepth 100000 in
set_option maxHeartbeats 4000000 in
theorem zt_X11_comes (x1 : Int32) (x2 : Int32) (h : zHp) {r : (Int32 × zHp)} (hr : (zf_X11_comes x1 x2 h) = some r) : zc_Cn zM_X11_comes [.ref 60, .int x1, .int x2] h (zc_mI r) := by
  refine zc_meth (mk := zc_mI) (o := (zf_X11_comes x1 x2 h)) (by decide +kernel) (Nat.le_of_ble_eq_true rfl) ?_ hr
  unfold zf_X11_comes
  refine zc_sL (ls1 := [some (.ref 60), some (.int x1), some (.int x2)]) rfl ?_
  refine zc_aload_n (pc := 0) dX11_comes_0 rfl rfl ?_
  refine zc_iconst (pc := 1) (0 : Int32) dX11_comes_1 (by decide) ?_
  refine zc_putI (pc := 2) zF_X11_68 rfl dX11_comes_2 ?_
  refine zc_letH (fun h1 _ => ?_)
  refine zc_iload_n (pc := 5) dX11_comes_5 rfl rfl ?_
  refine zc_i2l (pc := 6) dX11_comes_6 ?_
  refine zc_lconst (pc := 7) (0 : Int64) dX11_comes_7 (by decide) ?_
  refine zc_ldc2 (pc := 8) dX11_comes_8 zw_1070 ?_
  refine zc_callIp (pc := 11) [.long x1.toInt64, .long (0 : Int64), .long (7 : Int64)] rfl (zc_runS zo_X11_in ⟨Nat.le_of_ble_eq_true rfl, Nat.le_of_ble_eq_true rfl⟩ zw_1071 zw_1072 rfl dX11_comes_11) (Nat.le_of_ble_eq_true rfl) (fun _ hr => zt_X11_in x1.toInt64 (0 : Int64) (7 : Int64) h1 hr) (fun r2 => ?_)
  refine zc_if_eq (pc := 14) 24 dX11_comes_14 (by decide) (fun _ => ?_) (fun _ => ?_)
  · refine zc_iconst (pc := 24) (-1 : Int32) dX11_comes_24 (by decide) ?_
    exact zc_iretK (pc := 25) dX11_comes_25 rfl ⟨_, rfl, rfl⟩
  · refine zc_iload_n (pc := 17) dX11_comes_17 rfl rfl ?_
    refine zc_callIp (pc := 18) [.int x2] rfl (zc_runS zo_X11_isPlace ⟨Nat.le_of_ble_eq_true rfl, Nat.le_of_ble_eq_true rfl⟩ zw_1115 zw_1116 rfl dX11_comes_18) (Nat.le_of_ble_eq_true rfl) (fun _ hr => zt_X11_isPlace x2 h1 hr) (fun r3 => ?_)
    refine zc_if_ne (pc := 21) 26 dX11_comes_21 (by decide) (fun _ => ?_) (fun _ => ?_)
    · refine zc_iconst (pc := 24) (-1 : Int32) dX11_comes_24 (by decide) ?_
      exact zc_iretK (pc := 25) dX11_comes_25 rfl ⟨_, rfl, rfl⟩
    · refine zc_aload_n (pc := 26) dX11_comes_26 rfl rfl ?_
      refine zc_iload_n (pc := 27) dX11_comes_27 rfl rfl ?_
      refine zc_callIp (pc := 28) [.ref 60, .int x1] rfl (zc_runV (ci := 11) (n0 := 0) (q := (RX11, TX11, 35)) zo_X11_wrongKept ⟨Nat.le_of_ble_eq_true rfl, Nat.le_of_ble_eq_true rfl⟩ zw_1190 zw_1192 zs_40 rfl (by decide) rfl rfl dX11_comes_28) (Nat.le_of_ble_eq_true rfl) (fun _ hr => zt_X11_wrongKept x1 h1 hr) (fun r4 => ?_)
      refine zc_joinS 43 (fun v8 => [some (.ref 60), some (.int x1), none]) (fun v8 => []) (fun v8 => h1) (fun v8 => ?_) (fun J11 => ?_)
      · refine zc_aload_n (pc := 43) dX11_comes_43 rfl rfl ?_
        refine zc_iload_n (pc := 44) dX11_comes_44 rfl rfl ?_
        refine zc_callIp (pc := 45) [.ref 60, .int x1] rfl (zc_runV (ci := 11) (n0 := 0) (q := (RX11, TX11, 35)) zo_X11_wrongKept ⟨Nat.le_of_ble_eq_true rfl, Nat.le_of_ble_eq_true rfl⟩ zw_1190 zw_1192 zs_40 rfl (by decide) rfl rfl dX11_comes_45) (Nat.le_of_ble_eq_true rfl) (fun _ hr => zt_X11_wrongKept x1 h1 hr) (fun r9 => ?_)
        refine zc_if_ge (pc := 48) 59 dX11_comes_48 (by decide) (fun _ => ?_) (fun _ => ?_)
        · refine zc_bipush (pc := 59) (-2 : Int32) dX11_comes_59 (by decide) ?_
          exact zc_iretK (pc := 61) dX11_comes_61 rfl ⟨_, rfl, rfl⟩
        · refine zc_aload_n (pc := 51) dX11_comes_51 rfl rfl ?_
          refine zc_iload_n (pc := 52) dX11_comes_52 rfl rfl ?_
          refine zc_callIp (pc := 53) [.ref 60, .int x1] rfl (zc_runV (ci := 11) (n0 := 0) (q := (RX11, TX11, 35)) zo_X11_wrongKept ⟨Nat.le_of_ble_eq_true rfl, Nat.le_of_ble_eq_true rfl⟩ zw_1190 zw_1192 zs_40 rfl (by decide) rfl rfl dX11_comes_53) (Nat.le_of_ble_eq_true rfl) (fun _ hr => zt_X11_wrongKept x1 h1 hr) (fun r10 => ?_)
          refine zc_goto (pc := 56) 61 dX11_comes_56 (by decide) ?_
          exact zc_iretK (pc := 61) dX11_comes_61 rfl ⟨_, rfl, rfl⟩
      · refine zc_if_lt (pc := 31) 43 dX11_comes_31 (by decide) (fun _ => ?_) (fun _ => ?_)
        · refine zc_drop 2 ?_
          exact J11 ()
        · refine zc_aload_n (pc := 34) dX11_comes_34 rfl rfl ?_
          refine zc_getI (pc := 35) zF_X11_84 rfl dX11_comes_35 ?_
          refine zc_bipush (pc := 38) (7 : Int32) dX11_comes_38 (by decide) ?_
          refine zc_icmp_ne (pc := 40) 62 dX11_comes_40 (by decide) (fun _ => ?_) (fun _ => ?_)
          · refine zc_drop 2 ?_
            exact J11 ()
          · refine zc_aload_n (pc := 62) dX11_comes_62 rfl rfl ?_
            refine zc_aload_n (pc := 63) dX11_comes_63 rfl rfl ?_
            refine zc_getC (pc := 64) zF_X11_28 rfl dX11_comes_64 ?_
            refine zc_iload_n (pc := 67) dX11_comes_67 rfl rfl ?_
            refine zc_guard (fun g5 => ?_)
            refine zc_aldi (pc := 68) rfl g5 dX11_comes_68 ?_
            refine zc_aload_n (pc := 69) dX11_comes_69 rfl rfl ?_
            refine zc_getC (pc := 70) zF_X11_31 rfl dX11_comes_70 ?_
            refine zc_iload_n (pc := 73) dX11_comes_73 rfl rfl ?_
            refine zc_guard (fun g6 => ?_)
            refine zc_aldi (pc := 74) rfl g6 dX11_comes_74 ?_
            refine zc_iload_n (pc := 75) dX11_comes_75 rfl rfl ?_
            refine zc_aload_n (pc := 76) dX11_comes_76 rfl rfl ?_
            refine zc_getI (pc := 77) zF_X11_84 rfl dX11_comes_77 ?_
            refine zc_callI (pc := 80) [.ref 60, .int (h1.1 67 x1.toNatClampNeg), .int (h1.1 68 x1.toNatClampNeg), .int x2, .int (h1.1 60 3)] rfl (zc_runV (ci := 11) (n0 := 0) (q := (RX11, TX11, 35)) zo_X11_oneComes ⟨Nat.le_of_ble_eq_true rfl, Nat.le_of_ble_eq_true rfl⟩ zw_1111 zw_1113 zs_27 rfl (by decide) rfl rfl dX11_comes_80) (Nat.le_of_ble_eq_true rfl) (fun _ hr => zt_X11_oneComes (h1.1 67 x1.toNatClampNeg) (h1.1 68 x1.toNatClampNeg) x2 (h1.1 60 3) h1 hr) (fun r7 => ?_)
            refine zc_pop (pc := 83) dX11_comes_83 rfl ?_
            refine zc_aload_n (pc := 84) dX11_comes_84 rfl rfl ?_
            refine zc_getI (pc := 85) zF_X11_84 rfl dX11_comes_85 ?_
            refine zc_iconst (pc := 88) (1 : Int32) dX11_comes_88 (by decide) ?_
            refine zc_isub (pc := 89) dX11_comes_89 ?_
            exact zc_iretK (pc := 90) dX11_comes_90 rfl ⟨_, rfl, rfl⟩
def zf_X11_moves (x1 : Int32) (x2 : Int32) (h : zHp) : Option (Int32 × zHp) :=
  ((some (zc_ui h 60 17 (0 : Int32)) : Option zHp).bind (fun h1 => ((zf_X11_isOne x1 h1).bind (fun r2 => (if r2 = 0 then some ((-1 : Int32), h1) else ((zf_X11_isPlace x2).bind (fun r3 => (if r3 = 0 then some ((-1 : Int32), h1) else (if zc_ix x1 7 then ((some (h1.1 63 x1.toNatClampNeg) : Option Int32).bind (fun v5 => (if zc_ix x1 7 then ((some (zc_ui h1 63 x1.toNatClampNeg x2) : Option zHp).bind (fun h7 => some (v5, h7))) else none))) else none)))))))))
set_option maxRecDepth 100000 in
set_option maxHeartbeats 4000000 in
theorem zt_X11_moves (x1 : Int32) (x2 : Int32) (h : zHp) {r : (Int32 × zHp)} (hr : (zf_X11_moves x1 x2 h) = some r) : zc_Cn zM_X11_moves [.ref 60, .int x1, .int x2] h (zc_mI r) := by
  refine zc_meth (mk := zc_mI) (o := (zf_X11_moves x1 x2 h)) (by decide +kernel) (Nat.le_of_ble_eq_true rfl) ?_ hr
  unfold zf_X11_moves
  refine zc_sL (ls1 := [some (.ref 60), some (.int x1), some (.int x2), none]) rfl ?_
  refine zc_aload_n (pc := 0) dX11_moves_0 rfl rfl ?_
  refine zc_iconst (pc := 1) (0 : Int32) dX11_moves_1 (by decide) ?_
  refine zc_putI (pc := 2) zF_X11_68 rfl dX11_moves_2 ?_
  refine zc_letH (fun h1 _ => ?_)
  refine zc_aload_n (pc := 5) dX11_moves_5 rfl rfl ?_
  refine zc_iload_n (pc := 6) dX11_moves_6 rfl rfl ?_
  refine zc_callIp (pc := 7) [.ref 60, .int x1] rfl (zc_runV (ci := 11) (n0 := 0) (q := (RX11, TX11, 35)) zo_X11_isOne ⟨Nat.le_of_ble_eq_true rfl, Nat.le_of_ble_eq_true rfl⟩ zw_1119 zw_1121 zs_28 rfl (by decide) rfl rfl dX11_moves_7) (Nat.le_of_ble_eq_true rfl) (fun _ hr => zt_X11_isOne x1 h1 hr) (fun r2 => ?_)
  refine zc_if_eq (pc := 10) 20 dX11_moves_10 (by decide) (fun _ => ?_) (fun _ => ?_)
  · refine zc_iconst (pc := 20) (-1 : Int32) dX11_moves_20 (by decide) ?_
    exact zc_iretK (pc := 21) dX11_moves_21 rfl ⟨_, rfl, rfl⟩
  · refine zc_iload_n (pc := 13) dX11_moves_13 rfl rfl ?_
    refine zc_callIp (pc := 14) [.int x2] rfl (zc_runS zo_X11_isPlace ⟨Nat.le_of_ble_eq_true rfl, Nat.le_of_ble_eq_true rfl⟩ zw_1115 zw_1116 rfl dX11_moves_14) (Nat.le_of_ble_eq_true rfl) (fun _ hr => zt_X11_isPlace x2 h1 hr) (fun r3 => ?_)
    refine zc_if_ne (pc := 17) 22 dX11_moves_17 (by decide) (fun _ => ?_) (fun _ => ?_)
    · refine zc_iconst (pc := 20) (-1 : Int32) dX11_moves_20 (by decide) ?_
      exact zc_iretK (pc := 21) dX11_moves_21 rfl ⟨_, rfl, rfl⟩
    · refine zc_aload_n (pc := 22) dX11_moves_22 rfl rfl ?_
      refine zc_getC (pc := 23) zF_X11_16 rfl dX11_moves_23 ?_
      refine zc_iload_n (pc := 26) dX11_moves_26 rfl rfl ?_
      refine zc_guard (fun g4 => ?_)
      refine zc_aldi (pc := 27) rfl g4 dX11_moves_27 ?_
      refine zc_letI (fun v5 _ => ?_)
      refine zc_istore_n (pc := 28) dX11_moves_28 rfl (Nat.le_of_ble_eq_true rfl) rfl (Nat.le_of_ble_eq_true rfl) ?_
      refine zc_sL (ls1 := [some (.ref 60), some (.int x1), some (.int x2), some (.int v5)]) rfl ?_
      refine zc_aload_n (pc := 29) dX11_moves_29 rfl rfl ?_
      refine zc_getC (pc := 30) zF_X11_16 rfl dX11_moves_30 ?_
      refine zc_iload_n (pc := 33) dX11_moves_33 rfl rfl ?_
      refine zc_iload_n (pc := 34) dX11_moves_34 rfl rfl ?_
      refine zc_guard (fun g6 => ?_)
      refine zc_asti (pc := 35) rfl g6 dX11_moves_35 ?_
      refine zc_letH (fun h7 _ => ?_)
      refine zc_iload_n (pc := 36) dX11_moves_36 rfl rfl ?_
      exact zc_iretK (pc := 37) dX11_moves_37 rfl ⟨_, rfl, rfl⟩
def zf_X11_fetches (x1 : Int32) (x2 : Int32) (h : zHp) : Option (Int32 × zHp) :=
  ((some (zc_ui h 60 17 (0 : Int32)) : Option zHp).bind (fun h1 => ((zf_X11_isOne x1 h1).bind (fun r2 => (if r2 = 0 then some ((-1 : Int32), h1) else ((zf_X11_in x2.toInt64 (0 : Int64) (6 : Int64)).bind (fun r3 => (if r3 = 0 then some ((-1 : Int32), h1) else (if zc_ix x1 7 then ((some (h1.1 64 x1.toNatClampNeg) : Option Int32).bind (fun v5 => (if zc_ix x1 7 then ((some (zc_ui h1 64 x1.toNatClampNeg x2) : Option zHp).bind (fun h7 => some (v5, h7))) else none))) else none)))))))))
set_option maxRecDepth 100000 in
set_option maxHeartbeats 4000000 in
theorem zt_X11_fetches (x1 : Int32) (x2 : Int32) (h : zHp) {r : (Int32 × zHp)} (hr : (zf_X11_fetches x1 x2 h) = some r) : zc_Cn zM_X11_fetches [.ref 60, .int x1, .int x2] h (zc_mI r) := by
  refine zc_meth (mk := zc_mI) (o := (zf_X11_fetches x1 x2 h)) (by decide +kernel) (Nat.le_of_ble_eq_true rfl) ?_ hr
  unfold zf_X11_fetches
  refine zc_sL (ls1 := [some (.ref 60), some (.int x1), some (.int x2), none]) rfl ?_
  refine zc_aload_n (pc := 0) dX11_fetches_0 rfl rfl ?_
  refine zc_iconst (pc := 1) (0 : Int32) dX11_fetches_1 (by decide) ?_
  refine zc_putI (pc := 2) zF_X11_68 rfl dX11_fetches_2 ?_
  refine zc_letH (fun h1 _ => ?_)
  refine zc_aload_n (pc := 5) dX11_fetches_5 rfl rfl ?_
  refine zc_iload_n (pc := 6) dX11_fetches_6 rfl rfl ?_
  refine zc_callIp (pc := 7) [.ref 60, .int x1] rfl (zc_runV (ci := 11) (n0 := 0) (q := (RX11, TX11, 35)) zo_X11_isOne ⟨Nat.le_of_ble_eq_true rfl, Nat.le_of_ble_eq_true rfl⟩ zw_1119 zw_1121 zs_28 rfl (by decide) rfl rfl dX11_fetches_7) (Nat.le_of_ble_eq_true rfl) (fun _ hr => zt_X11_isOne x1 h1 hr) (fun r2 => ?_)
  refine zc_if_eq (pc := 10) 25 dX11_fetches_10 (by decide) (fun _ => ?_) (fun _ => ?_)
  · refine zc_iconst (pc := 25) (-1 : Int32) dX11_fetches_25 (by decide) ?_
    exact zc_iretK (pc := 26) dX11_fetches_26 rfl ⟨_, rfl, rfl⟩
  · refine zc_iload_n (pc := 13) dX11_fetches_13 rfl rfl ?_
    refine zc_i2l (pc := 14) dX11_fetches_14 ?_
    refine zc_lconst (pc := 15) (0 : Int64) dX11_fetches_15 (by decide) ?_
    refine zc_ldc2 (pc := 16) dX11_fetches_16 zw_1202 ?_
    refine zc_callIp (pc := 19) [.long x2.toInt64, .long (0 : Int64), .long (6 : Int64)] rfl (zc_runS zo_X11_in ⟨Nat.le_of_ble_eq_true rfl, Nat.le_of_ble_eq_true rfl⟩ zw_1071 zw_1072 rfl dX11_fetches_19) (Nat.le_of_ble_eq_true rfl) (fun _ hr => zt_X11_in x2.toInt64 (0 : Int64) (6 : Int64) h1 hr) (fun r3 => ?_)
    refine zc_if_ne (pc := 22) 27 dX11_fetches_22 (by decide) (fun _ => ?_) (fun _ => ?_)
    · refine zc_iconst (pc := 25) (-1 : Int32) dX11_fetches_25 (by decide) ?_
      exact zc_iretK (pc := 26) dX11_fetches_26 rfl ⟨_, rfl, rfl⟩
    · refine zc_aload_n (pc := 27) dX11_fetches_27 rfl rfl ?_
      refine zc_getC (pc := 28) zF_X11_19 rfl dX11_fetches_28 ?_
      refine zc_iload_n (pc := 31) dX11_fetches_31 rfl rfl ?_
      refine zc_guard (fun g4 => ?_)
      refine zc_aldi (pc := 32) rfl g4 dX11_fetches_32 ?_
      refine zc_letI (fun v5 _ => ?_)
      refine zc_istore_n (pc := 33) dX11_fetches_33 rfl (Nat.le_of_ble_eq_true rfl) rfl (Nat.le_of_ble_eq_true rfl) ?_
      refine zc_sL (ls1 := [some (.ref 60), some (.int x1), some (.int x2), some (.int v5)]) rfl ?_
      refine zc_aload_n (pc := 34) dX11_fetches_34 rfl rfl ?_
      refine zc_getC (pc := 35) zF_X11_19 rfl dX11_fetches_35 ?_
      refine zc_iload_n (pc := 38) dX11_fetches_38 rfl rfl ?_
      refine zc_iload_n (pc := 39) dX11_fetches_39 rfl rfl ?_
      refine zc_guard (fun g6 => ?_)
      refine zc_asti (pc := 40) rfl g6 dX11_fetches_40 ?_
      refine zc_letH (fun h7 _ => ?_)
      refine zc_iload_n (pc := 41) dX11_fetches_41 rfl rfl ?_
      exact zc_iretK (pc := 42) dX11_fetches_42 rfl ⟨_, rfl, rfl⟩
def zf_X11_stocks (x1 : Int32) (x2 : Int32) (h : zHp) : Option (Int32 × zHp) :=
  ((some (zc_ui h 60 17 (0 : Int32)) : Option zHp).bind (fun h1 => ((zf_X11_isOne x1 h1).bind (fun r2 => (if r2 = 0 then some ((-1 : Int32), h1) else ((zf_X11_in x2.toInt64 (0 : Int64) (99 : Int64)).bind (fun r3 => (if r3 = 0 then some ((-1 : Int32), h1) else (if zc_ix x1 7 then ((some (h1.1 65 x1.toNatClampNeg) : Option Int32).bind (fun v5 => (if zc_ix x1 7 then ((some (zc_ui h1 65 x1.toNatClampNeg x2) : Option zHp).bind (fun h7 => some (v5, h7))) else none))) else none)))))))))
set_option maxRecDepth 100000 in
set_option maxHeartbeats 4000000 in
theorem zt_X11_stocks (x1 : Int32) (x2 : Int32) (h : zHp) {r : (Int32 × zHp)} (hr : (zf_X11_stocks x1 x2 h) = some r) : zc_Cn zM_X11_stocks [.ref 60, .int x1, .int x2] h (zc_mI r) := by
  refine zc_meth (mk := zc_mI) (o := (zf_X11_stocks x1 x2 h)) (by decide +kernel) (Nat.le_of_ble_eq_true rfl) ?_ hr
  unfold zf_X11_stocks
  refine zc_sL (ls1 := [some (.ref 60), some (.int x1), some (.int x2), none]) rfl ?_
  refine zc_aload_n (pc := 0) dX11_stocks_0 rfl rfl ?_
  refine zc_iconst (pc := 1) (0 : Int32) dX11_stocks_1 (by decide) ?_
  refine zc_putI (pc := 2) zF_X11_68 rfl dX11_stocks_2 ?_
  refine zc_letH (fun h1 _ => ?_)
  refine zc_aload_n (pc := 5) dX11_stocks_5 rfl rfl ?_
  refine zc_iload_n (pc := 6) dX11_stocks_6 rfl rfl ?_
  refine zc_callIp (pc := 7) [.ref 60, .int x1] rfl (zc_runV (ci := 11) (n0 := 0) (q := (RX11, TX11, 35)) zo_X11_isOne ⟨Nat.le_of_ble_eq_true rfl, Nat.le_of_ble_eq_true rfl⟩ zw_1119 zw_1121 zs_28 rfl (by decide) rfl rfl dX11_stocks_7) (Nat.le_of_ble_eq_true rfl) (fun _ hr => zt_X11_isOne x1 h1 hr) (fun r2 => ?_)
  refine zc_if_eq (pc := 10) 25 dX11_stocks_10 (by decide) (fun _ => ?_) (fun _ => ?_)
  · refine zc_iconst (pc := 25) (-1 : Int32) dX11_stocks_25 (by decide) ?_
    exact zc_iretK (pc := 26) dX11_stocks_26 rfl ⟨_, rfl, rfl⟩
  · refine zc_iload_n (pc := 13) dX11_stocks_13 rfl rfl ?_
    refine zc_i2l (pc := 14) dX11_stocks_14 ?_
    refine zc_lconst (pc := 15) (0 : Int64) dX11_stocks_15 (by decide) ?_
    refine zc_ldc2 (pc := 16) dX11_stocks_16 zw_1207 ?_
    refine zc_callIp (pc := 19) [.long x2.toInt64, .long (0 : Int64), .long (99 : Int64)] rfl (zc_runS zo_X11_in ⟨Nat.le_of_ble_eq_true rfl, Nat.le_of_ble_eq_true rfl⟩ zw_1071 zw_1072 rfl dX11_stocks_19) (Nat.le_of_ble_eq_true rfl) (fun _ hr => zt_X11_in x2.toInt64 (0 : Int64) (99 : Int64) h1 hr) (fun r3 => ?_)
    refine zc_if_ne (pc := 22) 27 dX11_stocks_22 (by decide) (fun _ => ?_) (fun _ => ?_)
    · refine zc_iconst (pc := 25) (-1 : Int32) dX11_stocks_25 (by decide) ?_
      exact zc_iretK (pc := 26) dX11_stocks_26 rfl ⟨_, rfl, rfl⟩
    · refine zc_aload_n (pc := 27) dX11_stocks_27 rfl rfl ?_
      refine zc_getC (pc := 28) zF_X11_22 rfl dX11_stocks_28 ?_
      refine zc_iload_n (pc := 31) dX11_stocks_31 rfl rfl ?_
      refine zc_guard (fun g4 => ?_)
      refine zc_aldi (pc := 32) rfl g4 dX11_stocks_32 ?_
      refine zc_letI (fun v5 _ => ?_)
      refine zc_istore_n (pc := 33) dX11_stocks_33 rfl (Nat.le_of_ble_eq_true rfl) rfl (Nat.le_of_ble_eq_true rfl) ?_
      refine zc_sL (ls1 := [some (.ref 60), some (.int x1), some (.int x2), some (.int v5)]) rfl ?_
      refine zc_aload_n (pc := 34) dX11_stocks_34 rfl rfl ?_
      refine zc_getC (pc := 35) zF_X11_22 rfl dX11_stocks_35 ?_
      refine zc_iload_n (pc := 38) dX11_stocks_38 rfl rfl ?_
      refine zc_iload_n (pc := 39) dX11_stocks_39 rfl rfl ?_
      refine zc_guard (fun g6 => ?_)
      refine zc_asti (pc := 40) rfl g6 dX11_stocks_40 ?_
      refine zc_letH (fun h7 _ => ?_)
      refine zc_iload_n (pc := 41) dX11_stocks_41 rfl rfl ?_
      exact zc_iretK (pc := 42) dX11_stocks_42 rfl ⟨_, rfl, rfl⟩
def zf_X11_sits (x1 : Int32) (h : zHp) : Option (Int32 × zHp) :=
  ((some (zc_ui h 60 17 (0 : Int32)) : Option zHp).bind (fun h1 => ((zf_X11_isPlace x1).bind (fun r2 => (if r2 = 0 then some ((-1 : Int32), h1) else ((some (zc_ui h1 60 0 x1) : Option zHp).bind (fun h3 => some ((h1.1 60 0), h3))))))))
set_option maxRecDepth 100000 in
set_option maxHeartbeats 4000000 in
theorem zt_X11_sits (x1 : Int32) (h : zHp) {r : (Int32 × zHp)} (hr : (zf_X11_sits x1 h) = some r) : zc_Cn zM_X11_sits [.ref 60, .int x1] h (zc_mI r) := by
  refine zc_meth (mk := zc_mI) (o := (zf_X11_sits x1 h)) (by decide +kernel) (Nat.le_of_ble_eq_true rfl) ?_ hr
  unfold zf_X11_sits
  refine zc_sL (ls1 := [some (.ref 60), some (.int x1), none]) rfl ?_
  refine zc_aload_n (pc := 0) dX11_sits_0 rfl rfl ?_
  refine zc_iconst (pc := 1) (0 : Int32) dX11_sits_1 (by decide) ?_
  refine zc_putI (pc := 2) zF_X11_68 rfl dX11_sits_2 ?_
  refine zc_letH (fun h1 _ => ?_)
  refine zc_iload_n (pc := 5) dX11_sits_5 rfl rfl ?_
  refine zc_callIp (pc := 6) [.int x1] rfl (zc_runS zo_X11_isPlace ⟨Nat.le_of_ble_eq_true rfl, Nat.le_of_ble_eq_true rfl⟩ zw_1115 zw_1116 rfl dX11_sits_6) (Nat.le_of_ble_eq_true rfl) (fun _ hr => zt_X11_isPlace x1 h1 hr) (fun r2 => ?_)
  refine zc_if_ne (pc := 9) 14 dX11_sits_9 (by decide) (fun _ => ?_) (fun _ => ?_)
  · refine zc_iconst (pc := 12) (-1 : Int32) dX11_sits_12 (by decide) ?_
    exact zc_iretK (pc := 13) dX11_sits_13 rfl ⟨_, rfl, rfl⟩
  · refine zc_aload_n (pc := 14) dX11_sits_14 rfl rfl ?_
    refine zc_getI (pc := 15) zF_X11_91 rfl dX11_sits_15 ?_
    refine zc_istore_n (pc := 18) dX11_sits_18 rfl (Nat.le_of_ble_eq_true rfl) rfl (Nat.le_of_ble_eq_true rfl) ?_
    refine zc_sL (ls1 := [some (.ref 60), some (.int x1), some (.int (h1.1 60 0))]) rfl ?_
    refine zc_aload_n (pc := 19) dX11_sits_19 rfl rfl ?_
    refine zc_iload_n (pc := 20) dX11_sits_20 rfl rfl ?_
    refine zc_putI (pc := 21) zF_X11_91 rfl dX11_sits_21 ?_
    refine zc_letH (fun h3 _ => ?_)
    refine zc_iload_n (pc := 24) dX11_sits_24 rfl rfl ?_
    exact zc_iretK (pc := 25) dX11_sits_25 rfl ⟨_, rfl, rfl⟩
def zf_X11_sun (x1 : Int32) (x2 : Int32) (h : zHp) : Option (Int32 × zHp) :=
  ((some (zc_ui h 60 17 (0 : Int32)) : Option zHp).bind (fun h1 => ((zf_X11_in x1.toInt64 (0 : Int64) (5 : Int64)).bind (fun r2 => (if r2 = 0 then some ((-1 : Int32), h1) else ((zf_X11_isPlace x2).bind (fun r3 => (if r3 = 0 then some ((-1 : Int32), h1) else ((some (((100 : Int32) * (h1.1 60 1)) + (h1.1 60 2)) : Option Int32).bind (fun v4 => ((some (zc_ui h1 60 1 x1) : Option zHp).bind (fun h5 => ((some (zc_ui h5 60 2 x2) : Option zHp).bind (fun h6 => some (v4, h6)))))))))))))))
set_option maxRecDepth 100000 in
set_option maxHeartbeats 4000000 in
theorem zt_X11_sun (x1 : Int32) (x2 : Int32) (h : zHp) {r : (Int32 × zHp)} (hr : (zf_X11_sun x1 x2 h) = some r) : zc_Cn zM_X11_sun [.ref 60, .int x1, .int x2] h (zc_mI r) := by
  refine zc_meth (mk := zc_mI) (o := (zf_X11_sun x1 x2 h)) (by decide +kernel) (Nat.le_of_ble_eq_true rfl) ?_ hr
  unfold zf_X11_sun
  refine zc_sL (ls1 := [some (.ref 60), some (.int x1), some (.int x2), none]) rfl ?_
  refine zc_aload_n (pc := 0) dX11_sun_0 rfl rfl ?_
  refine zc_iconst (pc := 1) (0 : Int32) dX11_sun_1 (by decide) ?_
  refine zc_putI (pc := 2) zF_X11_68 rfl dX11_sun_2 ?_
  refine zc_letH (fun h1 _ => ?_)
  refine zc_iload_n (pc := 5) dX11_sun_5 rfl rfl ?_
  refine zc_i2l (pc := 6) dX11_sun_6 ?_
  refine zc_lconst (pc := 7) (0 : Int64) dX11_sun_7 (by decide) ?_
  refine zc_ldc2 (pc := 8) dX11_sun_8 zw_1216 ?_
  refine zc_callIp (pc := 11) [.long x1.toInt64, .long (0 : Int64), .long (5 : Int64)] rfl (zc_runS zo_X11_in ⟨Nat.le_of_ble_eq_true rfl, Nat.le_of_ble_eq_true rfl⟩ zw_1071 zw_1072 rfl dX11_sun_11) (Nat.le_of_ble_eq_true rfl) (fun _ hr => zt_X11_in x1.toInt64 (0 : Int64) (5 : Int64) h1 hr) (fun r2 => ?_)
  refine zc_if_eq (pc := 14) 24 dX11_sun_14 (by decide) (fun _ => ?_) (fun _ => ?_)
  · refine zc_iconst (pc := 24) (-1 : Int32) dX11_sun_24 (by decide) ?_
    exact zc_iretK (pc := 25) dX11_sun_25 rfl ⟨_, rfl, rfl⟩
  · refine zc_iload_n (pc := 17) dX11_sun_17 rfl rfl ?_
    refine zc_callIp (pc := 18) [.int x2] rfl (zc_runS zo_X11_isPlace ⟨Nat.le_of_ble_eq_true rfl, Nat.le_of_ble_eq_true rfl⟩ zw_1115 zw_1116 rfl dX11_sun_18) (Nat.le_of_ble_eq_true rfl) (fun _ hr => zt_X11_isPlace x2 h1 hr) (fun r3 => ?_)
    refine zc_if_ne (pc := 21) 26 dX11_sun_21 (by decide) (fun _ => ?_) (fun _ => ?_)
    · refine zc_iconst (pc := 24) (-1 : Int32) dX11_sun_24 (by decide) ?_
      exact zc_iretK (pc := 25) dX11_sun_25 rfl ⟨_, rfl, rfl⟩
    · refine zc_bipush (pc := 26) (100 : Int32) dX11_sun_26 (by decide) ?_
      refine zc_aload_n (pc := 28) dX11_sun_28 rfl rfl ?_
      refine zc_getI (pc := 29) zF_X11_72 rfl dX11_sun_29 ?_
      refine zc_imul (pc := 32) dX11_sun_32 ?_
      refine zc_aload_n (pc := 33) dX11_sun_33 rfl rfl ?_
      refine zc_getI (pc := 34) zF_X11_75 rfl dX11_sun_34 ?_
      refine zc_iadd (pc := 37) dX11_sun_37 ?_
      refine zc_letI (fun v4 _ => ?_)
      refine zc_istore_n (pc := 38) dX11_sun_38 rfl (Nat.le_of_ble_eq_true rfl) rfl (Nat.le_of_ble_eq_true rfl) ?_
      refine zc_sL (ls1 := [some (.ref 60), some (.int x1), some (.int x2), some (.int v4)]) rfl ?_
      refine zc_aload_n (pc := 39) dX11_sun_39 rfl rfl ?_
      refine zc_iload_n (pc := 40) dX11_sun_40 rfl rfl ?_
      refine zc_putI (pc := 41) zF_X11_72 rfl dX11_sun_41 ?_
      refine zc_letH (fun h5 _ => ?_)
      refine zc_aload_n (pc := 44) dX11_sun_44 rfl rfl ?_
      refine zc_iload_n (pc := 45) dX11_sun_45 rfl rfl ?_
      refine zc_putI (pc := 46) zF_X11_75 rfl dX11_sun_46 ?_
      refine zc_letH (fun h6 _ => ?_)
      refine zc_iload_n (pc := 49) dX11_sun_49 rfl rfl ?_
      exact zc_iretK (pc := 50) dX11_sun_50 rfl ⟨_, rfl, rfl⟩
def zf_X11_days (x1 : Int32) (h : zHp) : Option (Int32 × zHp) :=
  ((some (zc_ui h 60 17 (0 : Int32)) : Option zHp).bind (fun h1 => ((zf_X11_in x1.toInt64 (1 : Int64) (60 : Int64)).bind (fun r2 => (if r2 = 0 then some ((-1 : Int32), h1) else (if ((h1.1 60 10) + x1) ≤ (999 : Int32) then ((zf_X11_goDays x1 h1).bind (fun r3 => ((zf_X11_allStock r3).bind (fun r4 => some (r4, r3))))) else some ((-3 : Int32), h1)))))))
set_option maxRecDepth 100000 in
set_option maxHeartbeats 4000000 in
theorem zt_X11_days (x1 : Int32) (h : zHp) {r : (Int32 × zHp)} (hr : (zf_X11_days x1 h) = some r) : zc_Cn zM_X11_days [.ref 60, .int x1] h (zc_mI r) := by
  refine zc_meth (mk := zc_mI) (o := (zf_X11_days x1 h)) (by decide +kernel) (Nat.le_of_ble_eq_true rfl) ?_ hr
  unfold zf_X11_days
  refine zc_sL (ls1 := [some (.ref 60), some (.int x1)]) rfl ?_
  refine zc_aload_n (pc := 0) dX11_days_0 rfl rfl ?_
  refine zc_iconst (pc := 1) (0 : Int32) dX11_days_1 (by decide) ?_
  refine zc_putI (pc := 2) zF_X11_68 rfl dX11_days_2 ?_
  refine zc_letH (fun h1 _ => ?_)
  refine zc_iload_n (pc := 5) dX11_days_5 rfl rfl ?_
  refine zc_i2l (pc := 6) dX11_days_6 ?_
  refine zc_lconst (pc := 7) (1 : Int64) dX11_days_7 (by decide) ?_
  refine zc_ldc2 (pc := 8) dX11_days_8 zw_1127 ?_
  refine zc_callIp (pc := 11) [.long x1.toInt64, .long (1 : Int64), .long (60 : Int64)] rfl (zc_runS zo_X11_in ⟨Nat.le_of_ble_eq_true rfl, Nat.le_of_ble_eq_true rfl⟩ zw_1071 zw_1072 rfl dX11_days_11) (Nat.le_of_ble_eq_true rfl) (fun _ hr => zt_X11_in x1.toInt64 (1 : Int64) (60 : Int64) h1 hr) (fun r2 => ?_)
  refine zc_if_ne (pc := 14) 19 dX11_days_14 (by decide) (fun _ => ?_) (fun _ => ?_)
  · refine zc_iconst (pc := 17) (-1 : Int32) dX11_days_17 (by decide) ?_
    exact zc_iretK (pc := 18) dX11_days_18 rfl ⟨_, rfl, rfl⟩
  · refine zc_aload_n (pc := 19) dX11_days_19 rfl rfl ?_
    refine zc_getI (pc := 20) zF_X11_97 rfl dX11_days_20 ?_
    refine zc_iload_n (pc := 23) dX11_days_23 rfl rfl ?_
    refine zc_iadd (pc := 24) dX11_days_24 ?_
    refine zc_sipush (pc := 25) (999 : Int32) dX11_days_25 (by decide) ?_
    refine zc_icmp_le (pc := 28) 34 dX11_days_28 (by decide) (fun _ => ?_) (fun _ => ?_)
    · refine zc_aload_n (pc := 34) dX11_days_34 rfl rfl ?_
      refine zc_iload_n (pc := 35) dX11_days_35 rfl rfl ?_
      refine zc_callV (pc := 36) [.ref 60, .int x1] rfl (zc_runV (ci := 11) (n0 := 0) (q := (RX11, TX11, 35)) zo_X11_goDays ⟨Nat.le_of_ble_eq_true rfl, Nat.le_of_ble_eq_true rfl⟩ zw_1128 zw_1130 zs_30 rfl (by decide) rfl rfl dX11_days_36) (Nat.le_of_ble_eq_true rfl) (fun _ hr => zt_X11_goDays x1 h1 hr) (fun r3 => ?_)
      refine zc_aload_n (pc := 39) dX11_days_39 rfl rfl ?_
      refine zc_callIp (pc := 40) [.ref 60] rfl (zc_runV (ci := 11) (n0 := 0) (q := (RX11, TX11, 35)) zo_X11_allStock ⟨Nat.le_of_ble_eq_true rfl, Nat.le_of_ble_eq_true rfl⟩ zw_1221 zw_1223 zs_41 rfl (by decide) rfl rfl dX11_days_40) (Nat.le_of_ble_eq_true rfl) (fun _ hr => zt_X11_allStock r3 hr) (fun r4 => ?_)
      exact zc_iretK (pc := 43) dX11_days_43 rfl ⟨_, rfl, rfl⟩
    · refine zc_bipush (pc := 31) (-3 : Int32) dX11_days_31 (by decide) ?_
      exact zc_iretK (pc := 33) dX11_days_33 rfl ⟨_, rfl, rfl⟩
def zf_X11_then (x1 : Int32) (x2 : Int32) (h : zHp) : Option (Int32 × zHp) :=
  ((some (zc_ui h 60 17 (0 : Int32)) : Option zHp).bind (fun h1 => ((zf_X11_in x1.toInt64 (0 : Int64) (60 : Int64)).bind (fun r2 => (if r2 = 0 then some ((-1 : Int32), h1) else ((zf_X11_in x2.toInt64 (0 : Int64) (3 : Int64)).bind (fun r3 => (if r3 = 0 then some ((-1 : Int32), h1) else ((zf_X11_think h1).bind (fun r4 => ((zf_X11_goDays x1 r4).bind (fun r5 => (((if x2 = 0 then some (r5.1 60 0) else (if x2 = (1 : Int32) then some (r5.1 60 9) else (if x2 = (2 : Int32) then ((zf_X11_ableBits r5).bind (fun r6 => some r6)) else ((zf_X11_allStock r5).bind (fun r7 => some r7))))) : Option Int32).bind (fun v8 => ((zf_X11_again r5).bind (fun r9 => some (v8, r9)))))))))))))))))
set_option maxRecDepth 100000 in
set_option maxHeartbeats 4000000 in
theorem zt_X11_then (x1 : Int32) (x2 : Int32) (h : zHp) {r : (Int32 × zHp)} (hr : (zf_X11_then x1 x2 h) = some r) : zc_Cn zM_X11_then [.ref 60, .int x1, .int x2] h (zc_mI r) := by
  refine zc_meth (mk := zc_mI) (o := (zf_X11_then x1 x2 h)) (by decide +kernel) (Nat.le_of_ble_eq_true rfl) ?_ hr
  unfold zf_X11_then
  refine zc_sL (ls1 := [some (.ref 60), some (.int x1), some (.int x2), none]) rfl ?_
  refine zc_aload_n (pc := 0) dX11_then_0 rfl rfl ?_
  refine zc_iconst (pc := 1) (0 : Int32) dX11_then_1 (by decide) ?_
  refine zc_putI (pc := 2) zF_X11_68 rfl dX11_then_2 ?_
  refine zc_letH (fun h1 _ => ?_)
  refine zc_iload_n (pc := 5) dX11_then_5 rfl rfl ?_
  refine zc_i2l (pc := 6) dX11_then_6 ?_
  refine zc_lconst (pc := 7) (0 : Int64) dX11_then_7 (by decide) ?_
  refine zc_ldc2 (pc := 8) dX11_then_8 zw_1127 ?_
  refine zc_callIp (pc := 11) [.long x1.toInt64, .long (0 : Int64), .long (60 : Int64)] rfl (zc_runS zo_X11_in ⟨Nat.le_of_ble_eq_true rfl, Nat.le_of_ble_eq_true rfl⟩ zw_1071 zw_1072 rfl dX11_then_11) (Nat.le_of_ble_eq_true rfl) (fun _ hr => zt_X11_in x1.toInt64 (0 : Int64) (60 : Int64) h1 hr) (fun r2 => ?_)
  refine zc_if_eq (pc := 14) 29 dX11_then_14 (by decide) (fun _ => ?_) (fun _ => ?_)
  · refine zc_iconst (pc := 29) (-1 : Int32) dX11_then_29 (by decide) ?_
    exact zc_iretK (pc := 30) dX11_then_30 rfl ⟨_, rfl, rfl⟩
  · refine zc_iload_n (pc := 17) dX11_then_17 rfl rfl ?_
    refine zc_i2l (pc := 18) dX11_then_18 ?_
    refine zc_lconst (pc := 19) (0 : Int64) dX11_then_19 (by decide) ?_
    refine zc_ldc2 (pc := 20) dX11_then_20 zw_1229 ?_
    refine zc_callIp (pc := 23) [.long x2.toInt64, .long (0 : Int64), .long (3 : Int64)] rfl (zc_runS zo_X11_in ⟨Nat.le_of_ble_eq_true rfl, Nat.le_of_ble_eq_true rfl⟩ zw_1071 zw_1072 rfl dX11_then_23) (Nat.le_of_ble_eq_true rfl) (fun _ hr => zt_X11_in x2.toInt64 (0 : Int64) (3 : Int64) h1 hr) (fun r3 => ?_)
    refine zc_if_ne (pc := 26) 31 dX11_then_26 (by decide) (fun _ => ?_) (fun _ => ?_)
    · refine zc_iconst (pc := 29) (-1 : Int32) dX11_then_29 (by decide) ?_
      exact zc_iretK (pc := 30) dX11_then_30 rfl ⟨_, rfl, rfl⟩
    · refine zc_aload_n (pc := 31) dX11_then_31 rfl rfl ?_
      refine zc_callV (pc := 32) [.ref 60] rfl (zc_runV (ci := 11) (n0 := 0) (q := (RX11, TX11, 35)) zo_X11_think ⟨Nat.le_of_ble_eq_true rfl, Nat.le_of_ble_eq_true rfl⟩ zw_1095 zw_1097 zs_23 rfl (by decide) rfl rfl dX11_then_32) (Nat.le_of_ble_eq_true rfl) (fun _ hr => zt_X11_think h1 hr) (fun r4 => ?_)
      refine zc_aload_n (pc := 35) dX11_then_35 rfl rfl ?_
      refine zc_iload_n (pc := 36) dX11_then_36 rfl rfl ?_
      refine zc_callV (pc := 37) [.ref 60, .int x1] rfl (zc_runV (ci := 11) (n0 := 0) (q := (RX11, TX11, 35)) zo_X11_goDays ⟨Nat.le_of_ble_eq_true rfl, Nat.le_of_ble_eq_true rfl⟩ zw_1128 zw_1130 zs_30 rfl (by decide) rfl rfl dX11_then_37) (Nat.le_of_ble_eq_true rfl) (fun _ hr => zt_X11_goDays x1 r4 hr) (fun r5 => ?_)
      refine zc_iload_n (pc := 40) dX11_then_40 rfl rfl ?_
      refine zc_join 79 (fun v8 => [some (.ref 60), none, none, none]) (fun v8 => [.int v8]) (fun v8 => r5) (fun v8 => ?_) (fun J10 => ?_)
      · refine zc_istore_n (pc := 79) dX11_then_79 rfl (Nat.le_of_ble_eq_true rfl) rfl (Nat.le_of_ble_eq_true rfl) ?_
        refine zc_sL (ls1 := [some (.ref 60), none, none, some (.int v8)]) rfl ?_
        refine zc_aload_n (pc := 80) dX11_then_80 rfl rfl ?_
        refine zc_callV (pc := 81) [.ref 60] rfl (zc_runV (ci := 11) (n0 := 0) (q := (RX11, TX11, 35)) zo_X11_again ⟨Nat.le_of_ble_eq_true rfl, Nat.le_of_ble_eq_true rfl⟩ zw_1170 zw_1172 zs_39 rfl (by decide) rfl rfl dX11_then_81) (Nat.le_of_ble_eq_true rfl) (fun _ hr => zt_X11_again r5 hr) (fun r9 => ?_)
        refine zc_iload_n (pc := 84) dX11_then_84 rfl rfl ?_
        exact zc_iretK (pc := 85) dX11_then_85 rfl ⟨_, rfl, rfl⟩
      · refine zc_if_ne (pc := 41) 51 dX11_then_41 (by decide) (fun _ => ?_) (fun _ => ?_)
        · refine zc_aload_n (pc := 44) dX11_then_44 rfl rfl ?_
          refine zc_getI (pc := 45) zF_X11_91 rfl dX11_then_45 ?_
          refine zc_goto (pc := 48) 79 dX11_then_48 (by decide) ?_
          refine zc_drop 1 ?_
          refine zc_drop 2 ?_
          exact J10 (r5.1 60 0)
        · refine zc_iload_n (pc := 51) dX11_then_51 rfl rfl ?_
          refine zc_iconst (pc := 52) (1 : Int32) dX11_then_52 (by decide) ?_
          refine zc_icmp_ne (pc := 53) 63 dX11_then_53 (by decide) (fun _ => ?_) (fun _ => ?_)
          · refine zc_aload_n (pc := 56) dX11_then_56 rfl rfl ?_
            refine zc_getI (pc := 57) zF_X11_117 rfl dX11_then_57 ?_
            refine zc_goto (pc := 60) 79 dX11_then_60 (by decide) ?_
            refine zc_drop 1 ?_
            refine zc_drop 2 ?_
            exact J10 (r5.1 60 9)
          · refine zc_iload_n (pc := 63) dX11_then_63 rfl rfl ?_
            refine zc_iconst (pc := 64) (2 : Int32) dX11_then_64 (by decide) ?_
            refine zc_icmp_ne (pc := 65) 75 dX11_then_65 (by decide) (fun _ => ?_) (fun _ => ?_)
            · refine zc_aload_n (pc := 68) dX11_then_68 rfl rfl ?_
              refine zc_callIp (pc := 69) [.ref 60] rfl (zc_runV (ci := 11) (n0 := 0) (q := (RX11, TX11, 35)) zo_X11_ableBits ⟨Nat.le_of_ble_eq_true rfl, Nat.le_of_ble_eq_true rfl⟩ zw_1230 zw_1232 zs_42 rfl (by decide) rfl rfl dX11_then_69) (Nat.le_of_ble_eq_true rfl) (fun _ hr => zt_X11_ableBits r5 hr) (fun r6 => ?_)
              refine zc_goto (pc := 72) 79 dX11_then_72 (by decide) ?_
              refine zc_drop 1 ?_
              refine zc_drop 2 ?_
              exact J10 r6
            · refine zc_aload_n (pc := 75) dX11_then_75 rfl rfl ?_
              refine zc_callIp (pc := 76) [.ref 60] rfl (zc_runV (ci := 11) (n0 := 0) (q := (RX11, TX11, 35)) zo_X11_allStock ⟨Nat.le_of_ble_eq_true rfl, Nat.le_of_ble_eq_true rfl⟩ zw_1221 zw_1223 zs_41 rfl (by decide) rfl rfl dX11_then_76) (Nat.le_of_ble_eq_true rfl) (fun _ hr => zt_X11_allStock r5 hr) (fun r7 => ?_)
              refine zc_drop 1 ?_
              refine zc_drop 2 ?_
              exact J10 r7
def zf_X11_stockThen (x1 : Int32) (x2 : Int32) (h : zHp) : Option (Int32 × zHp) :=
  ((some (zc_ui h 60 17 (0 : Int32)) : Option zHp).bind (fun h1 => ((zf_X11_isOne x1 h1).bind (fun r2 => (if r2 = 0 then some ((-1 : Int32), h1) else ((zf_X11_in x2.toInt64 (0 : Int64) (60 : Int64)).bind (fun r3 => (if r3 = 0 then some ((-1 : Int32), h1) else ((zf_X11_think h1).bind (fun r4 => ((zf_X11_goDays x2 r4).bind (fun r5 => (if zc_ix x1 7 then ((some (r5.1 65 x1.toNatClampNeg) : Option Int32).bind (fun v7 => ((zf_X11_again r5).bind (fun r8 => some (v7, r8))))) else none)))))))))))))
set_option maxRecDepth 100000 in
set_option maxHeartbeats 4000000 in
theorem zt_X11_stockThen (x1 : Int32) (x2 : Int32) (h : zHp) {r : (Int32 × zHp)} (hr : (zf_X11_stockThen x1 x2 h) = some r) : zc_Cn zM_X11_stockThen [.ref 60, .int x1, .int x2] h (zc_mI r) := by
  refine zc_meth (mk := zc_mI) (o := (zf_X11_stockThen x1 x2 h)) (by decide +kernel) (Nat.le_of_ble_eq_true rfl) ?_ hr
  unfold zf_X11_stockThen
  refine zc_sL (ls1 := [some (.ref 60), some (.int x1), some (.int x2), none]) rfl ?_
  refine zc_aload_n (pc := 0) dX11_stockThen_0 rfl rfl ?_
  refine zc_iconst (pc := 1) (0 : Int32) dX11_stockThen_1 (by decide) ?_
  refine zc_putI (pc := 2) zF_X11_68 rfl dX11_stockThen_2 ?_
  refine zc_letH (fun h1 _ => ?_)
  refine zc_aload_n (pc := 5) dX11_stockThen_5 rfl rfl ?_
  refine zc_iload_n (pc := 6) dX11_stockThen_6 rfl rfl ?_
  refine zc_callIp (pc := 7) [.ref 60, .int x1] rfl (zc_runV (ci := 11) (n0 := 0) (q := (RX11, TX11, 35)) zo_X11_isOne ⟨Nat.le_of_ble_eq_true rfl, Nat.le_of_ble_eq_true rfl⟩ zw_1119 zw_1121 zs_28 rfl (by decide) rfl rfl dX11_stockThen_7) (Nat.le_of_ble_eq_true rfl) (fun _ hr => zt_X11_isOne x1 h1 hr) (fun r2 => ?_)
  refine zc_if_eq (pc := 10) 25 dX11_stockThen_10 (by decide) (fun _ => ?_) (fun _ => ?_)
  · refine zc_iconst (pc := 25) (-1 : Int32) dX11_stockThen_25 (by decide) ?_
    exact zc_iretK (pc := 26) dX11_stockThen_26 rfl ⟨_, rfl, rfl⟩
  · refine zc_iload_n (pc := 13) dX11_stockThen_13 rfl rfl ?_
    refine zc_i2l (pc := 14) dX11_stockThen_14 ?_
    refine zc_lconst (pc := 15) (0 : Int64) dX11_stockThen_15 (by decide) ?_
    refine zc_ldc2 (pc := 16) dX11_stockThen_16 zw_1127 ?_
    refine zc_callIp (pc := 19) [.long x2.toInt64, .long (0 : Int64), .long (60 : Int64)] rfl (zc_runS zo_X11_in ⟨Nat.le_of_ble_eq_true rfl, Nat.le_of_ble_eq_true rfl⟩ zw_1071 zw_1072 rfl dX11_stockThen_19) (Nat.le_of_ble_eq_true rfl) (fun _ hr => zt_X11_in x2.toInt64 (0 : Int64) (60 : Int64) h1 hr) (fun r3 => ?_)
    refine zc_if_ne (pc := 22) 27 dX11_stockThen_22 (by decide) (fun _ => ?_) (fun _ => ?_)
    · refine zc_iconst (pc := 25) (-1 : Int32) dX11_stockThen_25 (by decide) ?_
      exact zc_iretK (pc := 26) dX11_stockThen_26 rfl ⟨_, rfl, rfl⟩
    · refine zc_aload_n (pc := 27) dX11_stockThen_27 rfl rfl ?_
      refine zc_callV (pc := 28) [.ref 60] rfl (zc_runV (ci := 11) (n0 := 0) (q := (RX11, TX11, 35)) zo_X11_think ⟨Nat.le_of_ble_eq_true rfl, Nat.le_of_ble_eq_true rfl⟩ zw_1095 zw_1097 zs_23 rfl (by decide) rfl rfl dX11_stockThen_28) (Nat.le_of_ble_eq_true rfl) (fun _ hr => zt_X11_think h1 hr) (fun r4 => ?_)
      refine zc_aload_n (pc := 31) dX11_stockThen_31 rfl rfl ?_
      refine zc_iload_n (pc := 32) dX11_stockThen_32 rfl rfl ?_
      refine zc_callV (pc := 33) [.ref 60, .int x2] rfl (zc_runV (ci := 11) (n0 := 0) (q := (RX11, TX11, 35)) zo_X11_goDays ⟨Nat.le_of_ble_eq_true rfl, Nat.le_of_ble_eq_true rfl⟩ zw_1128 zw_1130 zs_30 rfl (by decide) rfl rfl dX11_stockThen_33) (Nat.le_of_ble_eq_true rfl) (fun _ hr => zt_X11_goDays x2 r4 hr) (fun r5 => ?_)
      refine zc_aload_n (pc := 36) dX11_stockThen_36 rfl rfl ?_
      refine zc_getC (pc := 37) zF_X11_22 rfl dX11_stockThen_37 ?_
      refine zc_iload_n (pc := 40) dX11_stockThen_40 rfl rfl ?_
      refine zc_guard (fun g6 => ?_)
      refine zc_aldi (pc := 41) rfl g6 dX11_stockThen_41 ?_
      refine zc_letI (fun v7 _ => ?_)
      refine zc_istore_n (pc := 42) dX11_stockThen_42 rfl (Nat.le_of_ble_eq_true rfl) rfl (Nat.le_of_ble_eq_true rfl) ?_
      refine zc_sL (ls1 := [some (.ref 60), some (.int x1), some (.int x2), some (.int v7)]) rfl ?_
      refine zc_aload_n (pc := 43) dX11_stockThen_43 rfl rfl ?_
      refine zc_callV (pc := 44) [.ref 60] rfl (zc_runV (ci := 11) (n0 := 0) (q := (RX11, TX11, 35)) zo_X11_again ⟨Nat.le_of_ble_eq_true rfl, Nat.le_of_ble_eq_true rfl⟩ zw_1170 zw_1172 zs_39 rfl (by decide) rfl rfl dX11_stockThen_44) (Nat.le_of_ble_eq_true rfl) (fun _ hr => zt_X11_again r5 hr) (fun r8 => ?_)
      refine zc_iload_n (pc := 47) dX11_stockThen_47 rfl rfl ?_
      exact zc_iretK (pc := 48) dX11_stockThen_48 rfl ⟨_, rfl, rfl⟩
def zl_X11_firstCan_24 (x1 : Int32) : Nat → Int32 → Int32 → zHp → Option (Int32 × zHp)
  | 0, _, _, _ => none
  | fu + 1, y4, y5, h6 => (if (60 : Int32) < y5 then some (y4, h6) else (if 0 ≤ y4 then some (y4, h6) else ((zf_X11_isAble x1 h6).bind (fun r7 => (((if r7 = 0 then some (-4 : Int32) else some y5) : Option Int32).bind (fun v8 => ((zf_X11_dayBy (0 : Int32) h6).bind (fun r9 => zl_X11_firstCan_24 x1 fu v8 (y5 + (1 : Int32)) r9))))))))
def zf_X11_firstCan (x1 : Int32) (h : zHp) : Option (Int32 × zHp) :=
  ((some (zc_ui h 60 17 (0 : Int32)) : Option zHp).bind (fun h1 => ((zf_X11_isOne x1 h1).bind (fun r2 => (if r2 = 0 then some ((-1 : Int32), h1) else ((zf_X11_think h1).bind (fun r3 => ((zl_X11_firstCan_24 x1 zFU (-4 : Int32) (0 : Int32) r3).bind (fun v10 => ((zf_X11_again v10.2).bind (fun r11 => some (v10.1, r11))))))))))))
set_option maxRecDepth 100000 in
set_option maxHeartbeats 4000000 in
theorem zt_X11_firstCan (x1 : Int32) (h : zHp) {r : (Int32 × zHp)} (hr : (zf_X11_firstCan x1 h) = some r) : zc_Cn zM_X11_firstCan [.ref 60, .int x1] h (zc_mI r) := by
  refine zc_meth (mk := zc_mI) (o := (zf_X11_firstCan x1 h)) (by decide +kernel) (Nat.le_of_ble_eq_true rfl) ?_ hr
  unfold zf_X11_firstCan
  refine zc_sL (ls1 := [some (.ref 60), some (.int x1), none, none]) rfl ?_
  refine zc_aload_n (pc := 0) dX11_firstCan_0 rfl rfl ?_
  refine zc_iconst (pc := 1) (0 : Int32) dX11_firstCan_1 (by decide) ?_
  refine zc_putI (pc := 2) zF_X11_68 rfl dX11_firstCan_2 ?_
  refine zc_letH (fun h1 _ => ?_)
  refine zc_aload_n (pc := 5) dX11_firstCan_5 rfl rfl ?_
  refine zc_iload_n (pc := 6) dX11_firstCan_6 rfl rfl ?_
  refine zc_callIp (pc := 7) [.ref 60, .int x1] rfl (zc_runV (ci := 11) (n0 := 0) (q := (RX11, TX11, 35)) zo_X11_isOne ⟨Nat.le_of_ble_eq_true rfl, Nat.le_of_ble_eq_true rfl⟩ zw_1119 zw_1121 zs_28 rfl (by decide) rfl rfl dX11_firstCan_7) (Nat.le_of_ble_eq_true rfl) (fun _ hr => zt_X11_isOne x1 h1 hr) (fun r2 => ?_)
  refine zc_if_ne (pc := 10) 15 dX11_firstCan_10 (by decide) (fun _ => ?_) (fun _ => ?_)
  · refine zc_iconst (pc := 13) (-1 : Int32) dX11_firstCan_13 (by decide) ?_
    exact zc_iretK (pc := 14) dX11_firstCan_14 rfl ⟨_, rfl, rfl⟩
  · refine zc_bipush (pc := 15) (-4 : Int32) dX11_firstCan_15 (by decide) ?_
    refine zc_istore_n (pc := 17) dX11_firstCan_17 rfl (Nat.le_of_ble_eq_true rfl) rfl (Nat.le_of_ble_eq_true rfl) ?_
    refine zc_sL (ls1 := [some (.ref 60), some (.int x1), some (.int (-4 : Int32)), none]) rfl ?_
    refine zc_aload_n (pc := 18) dX11_firstCan_18 rfl rfl ?_
    refine zc_callV (pc := 19) [.ref 60] rfl (zc_runV (ci := 11) (n0 := 0) (q := (RX11, TX11, 35)) zo_X11_think ⟨Nat.le_of_ble_eq_true rfl, Nat.le_of_ble_eq_true rfl⟩ zw_1095 zw_1097 zs_23 rfl (by decide) rfl rfl dX11_firstCan_19) (Nat.le_of_ble_eq_true rfl) (fun _ hr => zt_X11_think h1 hr) (fun r3 => ?_)
    refine zc_iconst (pc := 22) (0 : Int32) dX11_firstCan_22 (by decide) ?_
    refine zc_istore_n (pc := 23) dX11_firstCan_23 rfl (Nat.le_of_ble_eq_true rfl) rfl (Nat.le_of_ble_eq_true rfl) ?_
    refine zc_sL (ls1 := [some (.ref 60), some (.int x1), some (.int (-4 : Int32)), some (.int (0 : Int32))]) rfl ?_
    refine zc_sL (ls1 := [some (.ref 60), some (.int x1), some (.int (-4 : Int32)), some (.int (0 : Int32))]) rfl ?_
    refine zc_loop 60 (fun v10 => [some (.ref 60), none, some (.int v10.1), none]) (fun v10 => []) (fun v10 => v10.2) (fun v10 => ?_) (fun k13 J12 => ?_)
    · refine zc_aload_n (pc := 60) dX11_firstCan_60 rfl rfl ?_
      refine zc_callV (pc := 61) [.ref 60] rfl (zc_runV (ci := 11) (n0 := 0) (q := (RX11, TX11, 35)) zo_X11_again ⟨Nat.le_of_ble_eq_true rfl, Nat.le_of_ble_eq_true rfl⟩ zw_1170 zw_1172 zs_39 rfl (by decide) rfl rfl dX11_firstCan_61) (Nat.le_of_ble_eq_true rfl) (fun _ hr => zt_X11_again v10.2 hr) (fun r11 => ?_)
      refine zc_iload_n (pc := 64) dX11_firstCan_64 rfl rfl ?_
      exact zc_iretK (pc := 65) dX11_firstCan_65 rfl ⟨_, rfl, rfl⟩
    · have L15 : ∀ (fu : Nat) (y4 : Int32) (y5 : Int32) (h6 : zHp), zc_G zM_X11_firstCan zc_mI 24 [some (.ref 60), some (.int x1), some (.int y4), some (.int y5)] [] h6 ((zl_X11_firstCan_24 x1 fu y4 y5 h6).bind k13) := by
          intro fu
          induction fu with
          | zero => intros; exact zc_noneb
          | succ fu ih16 =>
            intro y4 y5 h6
            unfold zl_X11_firstCan_24
            refine zc_iload_n (pc := 24) dX11_firstCan_24 rfl rfl ?_
            refine zc_bipush (pc := 25) (60 : Int32) dX11_firstCan_25 (by decide) ?_
            refine zc_icmp_gt (pc := 27) 60 dX11_firstCan_27 (by decide) (fun _ => ?_) (fun _ => ?_)
            · refine zc_drop 1 ?_
              refine zc_drop 3 ?_
              exact J12 (y4, h6)
            · refine zc_iload_n (pc := 30) dX11_firstCan_30 rfl rfl ?_
              refine zc_if_ge (pc := 31) 60 dX11_firstCan_31 (by decide) (fun _ => ?_) (fun _ => ?_)
              · refine zc_drop 1 ?_
                refine zc_drop 3 ?_
                exact J12 (y4, h6)
              · refine zc_aload_n (pc := 34) dX11_firstCan_34 rfl rfl ?_
                refine zc_iload_n (pc := 35) dX11_firstCan_35 rfl rfl ?_
                refine zc_callIp (pc := 36) [.ref 60, .int x1] rfl (zc_runV (ci := 11) (n0 := 0) (q := (RX11, TX11, 35)) zo_X11_isAble ⟨Nat.le_of_ble_eq_true rfl, Nat.le_of_ble_eq_true rfl⟩ zw_1136 zw_1138 zs_32 rfl (by decide) rfl rfl dX11_firstCan_36) (Nat.le_of_ble_eq_true rfl) (fun _ hr => zt_X11_isAble x1 h6 hr) (fun r7 => ?_)
                refine zc_join 48 (fun v8 => [some (.ref 60), some (.int x1), none, some (.int y5)]) (fun v8 => [.int v8]) (fun v8 => h6) (fun v8 => ?_) (fun J17 => ?_)
                · refine zc_istore_n (pc := 48) dX11_firstCan_48 rfl (Nat.le_of_ble_eq_true rfl) rfl (Nat.le_of_ble_eq_true rfl) ?_
                  refine zc_sL (ls1 := [some (.ref 60), some (.int x1), some (.int v8), some (.int y5)]) rfl ?_
                  refine zc_aload_n (pc := 49) dX11_firstCan_49 rfl rfl ?_
                  refine zc_iconst (pc := 50) (0 : Int32) dX11_firstCan_50 (by decide) ?_
                  refine zc_callV (pc := 51) [.ref 60, .int (0 : Int32)] rfl (zc_runV (ci := 11) (n0 := 0) (q := (RX11, TX11, 35)) zo_X11_dayBy ⟨Nat.le_of_ble_eq_true rfl, Nat.le_of_ble_eq_true rfl⟩ zw_1132 zw_1134 zs_31 rfl (by decide) rfl rfl dX11_firstCan_51) (Nat.le_of_ble_eq_true rfl) (fun _ hr => zt_X11_dayBy (0 : Int32) h6 hr) (fun r9 => ?_)
                  refine zc_iinc (pc := 54) (1 : Int32) dX11_firstCan_54 (by decide) rfl (Nat.le_of_ble_eq_true rfl) rfl ?_
                  refine zc_sL (ls1 := [some (.ref 60), some (.int x1), some (.int v8), some (.int (y5 + (1 : Int32)))]) rfl ?_
                  refine zc_goto (pc := 57) 24 dX11_firstCan_57 (by decide) ?_
                  exact ih16 v8 (y5 + (1 : Int32)) r9
                · refine zc_if_eq (pc := 39) 46 dX11_firstCan_39 (by decide) (fun _ => ?_) (fun _ => ?_)
                  · refine zc_bipush (pc := 46) (-4 : Int32) dX11_firstCan_46 (by decide) ?_
                    refine zc_drop 2 ?_
                    exact J17 (-4 : Int32)
                  · refine zc_iload_n (pc := 42) dX11_firstCan_42 rfl rfl ?_
                    refine zc_goto (pc := 43) 48 dX11_firstCan_43 (by decide) ?_
                    refine zc_drop 2 ?_
                    exact J17 y5
      exact L15 zFU (-4 : Int32) (0 : Int32) r3
def zl_X11_hungryIn_9 (x1 : Int32) : Nat → Int32 → Int32 → zHp → Option (Int32 × zHp)
  | 0, _, _, _ => none
  | fu + 1, y2, y3, h4 => (if (60 : Int32) < y3 then some (y2, h4) else (if 0 ≤ y2 then some (y2, h4) else (if zc_ix x1 7 then (((if (h4.1 65 x1.toNatClampNeg) = 0 then some y3 else some (-4 : Int32)) : Option Int32).bind (fun v6 => ((zf_X11_dayBy (0 : Int32) h4).bind (fun r7 => zl_X11_hungryIn_9 x1 fu v6 (y3 + (1 : Int32)) r7)))) else none)))
def zf_X11_hungryIn (x1 : Int32) (h : zHp) : Option (Int32 × zHp) :=
  ((zf_X11_think h).bind (fun r1 => ((zl_X11_hungryIn_9 x1 zFU (-4 : Int32) (0 : Int32) r1).bind (fun v8 => ((zf_X11_again v8.2).bind (fun r9 => some (v8.1, r9)))))))
set_option maxRecDepth 100000 in
set_option maxHeartbeats 4000000 in
theorem zt_X11_hungryIn (x1 : Int32) (h : zHp) {r : (Int32 × zHp)} (hr : (zf_X11_hungryIn x1 h) = some r) : zc_Cn zM_X11_hungryIn [.ref 60, .int x1] h (zc_mI r) := by
  refine zc_meth (mk := zc_mI) (o := (zf_X11_hungryIn x1 h)) (by decide +kernel) (Nat.le_of_ble_eq_true rfl) ?_ hr
  unfold zf_X11_hungryIn
  refine zc_sL (ls1 := [some (.ref 60), some (.int x1), none, none]) rfl ?_
  refine zc_bipush (pc := 0) (-4 : Int32) dX11_hungryIn_0 (by decide) ?_
  refine zc_istore_n (pc := 2) dX11_hungryIn_2 rfl (Nat.le_of_ble_eq_true rfl) rfl (Nat.le_of_ble_eq_true rfl) ?_
  refine zc_sL (ls1 := [some (.ref 60), some (.int x1), some (.int (-4 : Int32)), none]) rfl ?_
  refine zc_aload_n (pc := 3) dX11_hungryIn_3 rfl rfl ?_
  refine zc_callV (pc := 4) [.ref 60] rfl (zc_runV (ci := 11) (n0 := 0) (q := (RX11, TX11, 35)) zo_X11_think ⟨Nat.le_of_ble_eq_true rfl, Nat.le_of_ble_eq_true rfl⟩ zw_1095 zw_1097 zs_23 rfl (by decide) rfl rfl dX11_hungryIn_4) (Nat.le_of_ble_eq_true rfl) (fun _ hr => zt_X11_think h hr) (fun r1 => ?_)
  refine zc_iconst (pc := 7) (0 : Int32) dX11_hungryIn_7 (by decide) ?_
  refine zc_istore_n (pc := 8) dX11_hungryIn_8 rfl (Nat.le_of_ble_eq_true rfl) rfl (Nat.le_of_ble_eq_true rfl) ?_
  refine zc_sL (ls1 := [some (.ref 60), some (.int x1), some (.int (-4 : Int32)), some (.int (0 : Int32))]) rfl ?_
  refine zc_sL (ls1 := [some (.ref 60), some (.int x1), some (.int (-4 : Int32)), some (.int (0 : Int32))]) rfl ?_
  refine zc_loop 46 (fun v8 => [some (.ref 60), none, some (.int v8.1), none]) (fun v8 => []) (fun v8 => v8.2) (fun v8 => ?_) (fun k11 J10 => ?_)
  · refine zc_aload_n (pc := 46) dX11_hungryIn_46 rfl rfl ?_
    refine zc_callV (pc := 47) [.ref 60] rfl (zc_runV (ci := 11) (n0 := 0) (q := (RX11, TX11, 35)) zo_X11_again ⟨Nat.le_of_ble_eq_true rfl, Nat.le_of_ble_eq_true rfl⟩ zw_1170 zw_1172 zs_39 rfl (by decide) rfl rfl dX11_hungryIn_47) (Nat.le_of_ble_eq_true rfl) (fun _ hr => zt_X11_again v8.2 hr) (fun r9 => ?_)
    refine zc_iload_n (pc := 50) dX11_hungryIn_50 rfl rfl ?_
    exact zc_iretK (pc := 51) dX11_hungryIn_51 rfl ⟨_, rfl, rfl⟩
  · have L13 : ∀ (fu : Nat) (y2 : Int32) (y3 : Int32) (h4 : zHp), zc_G zM_X11_hungryIn zc_mI 9 [some (.ref 60), some (.int x1), some (.int y2), some (.int y3)] [] h4 ((zl_X11_hungryIn_9 x1 fu y2 y3 h4).bind k11) := by
        intro fu
        induction fu with
        | zero => intros; exact zc_noneb
        | succ fu ih14 =>
          intro y2 y3 h4
          unfold zl_X11_hungryIn_9
          refine zc_iload_n (pc := 9) dX11_hungryIn_9 rfl rfl ?_
          refine zc_bipush (pc := 10) (60 : Int32) dX11_hungryIn_10 (by decide) ?_
          refine zc_icmp_gt (pc := 12) 46 dX11_hungryIn_12 (by decide) (fun _ => ?_) (fun _ => ?_)
          · refine zc_drop 1 ?_
            refine zc_drop 3 ?_
            exact J10 (y2, h4)
          · refine zc_iload_n (pc := 15) dX11_hungryIn_15 rfl rfl ?_
            refine zc_if_ge (pc := 16) 46 dX11_hungryIn_16 (by decide) (fun _ => ?_) (fun _ => ?_)
            · refine zc_drop 1 ?_
              refine zc_drop 3 ?_
              exact J10 (y2, h4)
            · refine zc_aload_n (pc := 19) dX11_hungryIn_19 rfl rfl ?_
              refine zc_getC (pc := 20) zF_X11_22 rfl dX11_hungryIn_20 ?_
              refine zc_iload_n (pc := 23) dX11_hungryIn_23 rfl rfl ?_
              refine zc_guard (fun g5 => ?_)
              refine zc_aldi (pc := 24) rfl g5 dX11_hungryIn_24 ?_
              refine zc_join 34 (fun v6 => [some (.ref 60), some (.int x1), none, some (.int y3)]) (fun v6 => [.int v6]) (fun v6 => h4) (fun v6 => ?_) (fun J15 => ?_)
              · refine zc_istore_n (pc := 34) dX11_hungryIn_34 rfl (Nat.le_of_ble_eq_true rfl) rfl (Nat.le_of_ble_eq_true rfl) ?_
                refine zc_sL (ls1 := [some (.ref 60), some (.int x1), some (.int v6), some (.int y3)]) rfl ?_
                refine zc_aload_n (pc := 35) dX11_hungryIn_35 rfl rfl ?_
                refine zc_iconst (pc := 36) (0 : Int32) dX11_hungryIn_36 (by decide) ?_
                refine zc_callV (pc := 37) [.ref 60, .int (0 : Int32)] rfl (zc_runV (ci := 11) (n0 := 0) (q := (RX11, TX11, 35)) zo_X11_dayBy ⟨Nat.le_of_ble_eq_true rfl, Nat.le_of_ble_eq_true rfl⟩ zw_1132 zw_1134 zs_31 rfl (by decide) rfl rfl dX11_hungryIn_37) (Nat.le_of_ble_eq_true rfl) (fun _ hr => zt_X11_dayBy (0 : Int32) h4 hr) (fun r7 => ?_)
                refine zc_iinc (pc := 40) (1 : Int32) dX11_hungryIn_40 (by decide) rfl (Nat.le_of_ble_eq_true rfl) rfl ?_
                refine zc_sL (ls1 := [some (.ref 60), some (.int x1), some (.int v6), some (.int (y3 + (1 : Int32)))]) rfl ?_
                refine zc_goto (pc := 43) 9 dX11_hungryIn_43 (by decide) ?_
                exact ih14 v6 (y3 + (1 : Int32)) r7
              · refine zc_if_ne (pc := 25) 32 dX11_hungryIn_25 (by decide) (fun _ => ?_) (fun _ => ?_)
                · refine zc_iload_n (pc := 28) dX11_hungryIn_28 rfl rfl ?_
                  refine zc_goto (pc := 29) 34 dX11_hungryIn_29 (by decide) ?_
                  refine zc_drop 2 ?_
                  exact J15 y3
                · refine zc_bipush (pc := 32) (-4 : Int32) dX11_hungryIn_32 (by decide) ?_
                  refine zc_drop 2 ?_
                  exact J15 (-4 : Int32)
    exact L13 zFU (-4 : Int32) (0 : Int32) r1
def zl_X11_hungry_44  : Nat → Int32 → Int32 → Int32 → zHp → Option (Int32 × zHp)
  | 0, _, _, _, _ => none
  | fu + 1, y3, y4, y5, h6 => (if (h6.1 60 3) ≤ y5 then some (y3, h6) else ((zf_X11_hungryIn y5 h6).bind (fun r7 => (((if r7.1 < 0 then some y3 else (if y4 ≤ r7.1 then some y3 else some y5)) : Option Int32).bind (fun v8 => (if r7.1 < 0 then zl_X11_hungry_44 fu v8 y4 (y5 + (1 : Int32)) r7.2 else (if y4 ≤ r7.1 then zl_X11_hungry_44 fu v8 y4 (y5 + (1 : Int32)) r7.2 else zl_X11_hungry_44 fu v8 r7.1 (y5 + (1 : Int32)) r7.2)))))))
def zf_X11_hungry (x1 : Int32) (h : zHp) : Option (Int32 × zHp) :=
  ((some (zc_ui h 60 17 (0 : Int32)) : Option zHp).bind (fun h1 => ((zf_X11_in x1.toInt64 (-1 : Int64) (((h1.1 60 3) - (1 : Int32)).toInt64)).bind (fun r2 => (if r2 = 0 then some ((-1 : Int32), h1) else (if x1 < 0 then ((zl_X11_hungry_44 zFU (-4 : Int32) (61 : Int32) (0 : Int32) h1).bind (fun v9 => some (v9.1, v9.2))) else ((zf_X11_hungryIn x1 h1).bind (fun r10 => some (r10.1, r10.2)))))))))
set_option maxRecDepth 100000 in
set_option maxHeartbeats 4000000 in
theorem zt_X11_hungry (x1 : Int32) (h : zHp) {r : (Int32 × zHp)} (hr : (zf_X11_hungry x1 h) = some r) : zc_Cn zM_X11_hungry [.ref 60, .int x1] h (zc_mI r) := by
  refine zc_meth (mk := zc_mI) (o := (zf_X11_hungry x1 h)) (by decide +kernel) (Nat.le_of_ble_eq_true rfl) ?_ hr
  unfold zf_X11_hungry
  refine zc_sL (ls1 := [some (.ref 60), some (.int x1), none, none, none, none]) rfl ?_
  refine zc_aload_n (pc := 0) dX11_hungry_0 rfl rfl ?_
  refine zc_iconst (pc := 1) (0 : Int32) dX11_hungry_1 (by decide) ?_
  refine zc_putI (pc := 2) zF_X11_68 rfl dX11_hungry_2 ?_
  refine zc_letH (fun h1 _ => ?_)
  refine zc_iload_n (pc := 5) dX11_hungry_5 rfl rfl ?_
  refine zc_i2l (pc := 6) dX11_hungry_6 ?_
  refine zc_ldc2 (pc := 7) dX11_hungry_7 zw_1246 ?_
  refine zc_aload_n (pc := 10) dX11_hungry_10 rfl rfl ?_
  refine zc_getI (pc := 11) zF_X11_84 rfl dX11_hungry_11 ?_
  refine zc_iconst (pc := 14) (1 : Int32) dX11_hungry_14 (by decide) ?_
  refine zc_isub (pc := 15) dX11_hungry_15 ?_
  refine zc_i2l (pc := 16) dX11_hungry_16 ?_
  refine zc_callIp (pc := 17) [.long x1.toInt64, .long (-1 : Int64), .long (((h1.1 60 3) - (1 : Int32)).toInt64)] rfl (zc_runS zo_X11_in ⟨Nat.le_of_ble_eq_true rfl, Nat.le_of_ble_eq_true rfl⟩ zw_1071 zw_1072 rfl dX11_hungry_17) (Nat.le_of_ble_eq_true rfl) (fun _ hr => zt_X11_in x1.toInt64 (-1 : Int64) (((h1.1 60 3) - (1 : Int32)).toInt64) h1 hr) (fun r2 => ?_)
  refine zc_if_ne (pc := 20) 25 dX11_hungry_20 (by decide) (fun _ => ?_) (fun _ => ?_)
  · refine zc_iconst (pc := 23) (-1 : Int32) dX11_hungry_23 (by decide) ?_
    exact zc_iretK (pc := 24) dX11_hungry_24 rfl ⟨_, rfl, rfl⟩
  · refine zc_iload_n (pc := 25) dX11_hungry_25 rfl rfl ?_
    refine zc_if_lt (pc := 26) 35 dX11_hungry_26 (by decide) (fun _ => ?_) (fun _ => ?_)
    · refine zc_bipush (pc := 35) (-4 : Int32) dX11_hungry_35 (by decide) ?_
      refine zc_istore_n (pc := 37) dX11_hungry_37 rfl (Nat.le_of_ble_eq_true rfl) rfl (Nat.le_of_ble_eq_true rfl) ?_
      refine zc_sL (ls1 := [some (.ref 60), some (.int x1), some (.int (-4 : Int32)), none, none, none]) rfl ?_
      refine zc_bipush (pc := 38) (61 : Int32) dX11_hungry_38 (by decide) ?_
      refine zc_istore_n (pc := 40) dX11_hungry_40 rfl (Nat.le_of_ble_eq_true rfl) rfl (Nat.le_of_ble_eq_true rfl) ?_
      refine zc_sL (ls1 := [some (.ref 60), some (.int x1), some (.int (-4 : Int32)), some (.int (61 : Int32)), none, none]) rfl ?_
      refine zc_iconst (pc := 41) (0 : Int32) dX11_hungry_41 (by decide) ?_
      refine zc_istore (pc := 42) dX11_hungry_42 (Nat.le_of_ble_eq_true rfl) rfl (Nat.le_of_ble_eq_true rfl) ?_
      refine zc_sL (ls1 := [some (.ref 60), some (.int x1), some (.int (-4 : Int32)), some (.int (61 : Int32)), some (.int (0 : Int32)), none]) rfl ?_
      refine zc_drop 1 ?_
      refine zc_sL (ls1 := [some (.ref 60), none, some (.int (-4 : Int32)), some (.int (61 : Int32)), some (.int (0 : Int32)), none]) rfl ?_
      refine zc_loop 103 (fun v9 => [none, none, some (.int v9.1), none, none, none]) (fun v9 => []) (fun v9 => v9.2) (fun v9 => ?_) (fun k12 J11 => ?_)
      · refine zc_iload_n (pc := 103) dX11_hungry_103 rfl rfl ?_
        exact zc_iretK (pc := 104) dX11_hungry_104 rfl ⟨_, rfl, rfl⟩
      · have L14 : ∀ (fu : Nat) (y3 : Int32) (y4 : Int32) (y5 : Int32) (h6 : zHp), zc_G zM_X11_hungry zc_mI 44 [some (.ref 60), none, some (.int y3), some (.int y4), some (.int y5), none] [] h6 ((zl_X11_hungry_44 fu y3 y4 y5 h6).bind k12) := by
            intro fu
            induction fu with
            | zero => intros; exact zc_noneb
            | succ fu ih15 =>
              intro y3 y4 y5 h6
              unfold zl_X11_hungry_44
              refine zc_iload (pc := 44) dX11_hungry_44 rfl ?_
              refine zc_aload_n (pc := 46) dX11_hungry_46 rfl rfl ?_
              refine zc_getI (pc := 47) zF_X11_84 rfl dX11_hungry_47 ?_
              refine zc_icmp_ge (pc := 50) 103 dX11_hungry_50 (by decide) (fun _ => ?_) (fun _ => ?_)
              · refine zc_drop 0 ?_
                refine zc_drop 3 ?_
                refine zc_drop 4 ?_
                exact J11 (y3, h6)
              · refine zc_aload_n (pc := 53) dX11_hungry_53 rfl rfl ?_
                refine zc_iload (pc := 54) dX11_hungry_54 rfl ?_
                refine zc_callI (pc := 56) [.ref 60, .int y5] rfl (zc_runV (ci := 11) (n0 := 0) (q := (RX11, TX11, 35)) zo_X11_hungryIn ⟨Nat.le_of_ble_eq_true rfl, Nat.le_of_ble_eq_true rfl⟩ zw_1247 zw_1249 zs_43 rfl (by decide) rfl rfl dX11_hungry_56) (Nat.le_of_ble_eq_true rfl) (fun _ hr => zt_X11_hungryIn y5 h6 hr) (fun r7 => ?_)
                refine zc_istore (pc := 59) dX11_hungry_59 (Nat.le_of_ble_eq_true rfl) rfl (Nat.le_of_ble_eq_true rfl) ?_
                refine zc_sL (ls1 := [some (.ref 60), none, some (.int y3), some (.int y4), some (.int y5), some (.int r7.1)]) rfl ?_
                refine zc_iload (pc := 61) dX11_hungry_61 rfl ?_
                refine zc_join 78 (fun v8 => [some (.ref 60), none, none, some (.int y4), some (.int y5), some (.int r7.1)]) (fun v8 => [.int v8]) (fun v8 => r7.2) (fun v8 => ?_) (fun J16 => ?_)
                · refine zc_istore_n (pc := 78) dX11_hungry_78 rfl (Nat.le_of_ble_eq_true rfl) rfl (Nat.le_of_ble_eq_true rfl) ?_
                  refine zc_sL (ls1 := [some (.ref 60), none, some (.int v8), some (.int y4), some (.int y5), some (.int r7.1)]) rfl ?_
                  refine zc_iload (pc := 79) dX11_hungry_79 rfl ?_
                  refine zc_if_lt (pc := 81) 95 dX11_hungry_81 (by decide) (fun _ => ?_) (fun _ => ?_)
                  · refine zc_iload_n (pc := 95) dX11_hungry_95 rfl rfl ?_
                    refine zc_istore_n (pc := 96) dX11_hungry_96 rfl (Nat.le_of_ble_eq_true rfl) rfl (Nat.le_of_ble_eq_true rfl) ?_
                    refine zc_sL (ls1 := [some (.ref 60), none, some (.int v8), some (.int y4), some (.int y5), some (.int r7.1)]) rfl ?_
                    refine zc_iinc (pc := 97) (1 : Int32) dX11_hungry_97 (by decide) rfl (Nat.le_of_ble_eq_true rfl) rfl ?_
                    refine zc_sL (ls1 := [some (.ref 60), none, some (.int v8), some (.int y4), some (.int (y5 + (1 : Int32))), some (.int r7.1)]) rfl ?_
                    refine zc_goto (pc := 100) 44 dX11_hungry_100 (by decide) ?_
                    refine zc_drop 5 ?_
                    exact ih15 v8 y4 (y5 + (1 : Int32)) r7.2
                  · refine zc_iload (pc := 84) dX11_hungry_84 rfl ?_
                    refine zc_iload_n (pc := 86) dX11_hungry_86 rfl rfl ?_
                    refine zc_icmp_ge (pc := 87) 95 dX11_hungry_87 (by decide) (fun _ => ?_) (fun _ => ?_)
                    · refine zc_iload_n (pc := 95) dX11_hungry_95 rfl rfl ?_
                      refine zc_istore_n (pc := 96) dX11_hungry_96 rfl (Nat.le_of_ble_eq_true rfl) rfl (Nat.le_of_ble_eq_true rfl) ?_
                      refine zc_sL (ls1 := [some (.ref 60), none, some (.int v8), some (.int y4), some (.int y5), some (.int r7.1)]) rfl ?_
                      refine zc_iinc (pc := 97) (1 : Int32) dX11_hungry_97 (by decide) rfl (Nat.le_of_ble_eq_true rfl) rfl ?_
                      refine zc_sL (ls1 := [some (.ref 60), none, some (.int v8), some (.int y4), some (.int (y5 + (1 : Int32))), some (.int r7.1)]) rfl ?_
                      refine zc_goto (pc := 100) 44 dX11_hungry_100 (by decide) ?_
                      refine zc_drop 5 ?_
                      exact ih15 v8 y4 (y5 + (1 : Int32)) r7.2
                    · refine zc_iload (pc := 90) dX11_hungry_90 rfl ?_
                      refine zc_goto (pc := 92) 96 dX11_hungry_92 (by decide) ?_
                      refine zc_istore_n (pc := 96) dX11_hungry_96 rfl (Nat.le_of_ble_eq_true rfl) rfl (Nat.le_of_ble_eq_true rfl) ?_
                      refine zc_sL (ls1 := [some (.ref 60), none, some (.int v8), some (.int r7.1), some (.int y5), some (.int r7.1)]) rfl ?_
                      refine zc_iinc (pc := 97) (1 : Int32) dX11_hungry_97 (by decide) rfl (Nat.le_of_ble_eq_true rfl) rfl ?_
                      refine zc_sL (ls1 := [some (.ref 60), none, some (.int v8), some (.int r7.1), some (.int (y5 + (1 : Int32))), some (.int r7.1)]) rfl ?_
                      refine zc_goto (pc := 100) 44 dX11_hungry_100 (by decide) ?_
                      refine zc_drop 5 ?_
                      exact ih15 v8 r7.1 (y5 + (1 : Int32)) r7.2
                · refine zc_if_lt (pc := 63) 77 dX11_hungry_63 (by decide) (fun _ => ?_) (fun _ => ?_)
                  · refine zc_iload_n (pc := 77) dX11_hungry_77 rfl rfl ?_
                    refine zc_drop 2 ?_
                    exact J16 y3
                  · refine zc_iload (pc := 66) dX11_hungry_66 rfl ?_
                    refine zc_iload_n (pc := 68) dX11_hungry_68 rfl rfl ?_
                    refine zc_icmp_ge (pc := 69) 77 dX11_hungry_69 (by decide) (fun _ => ?_) (fun _ => ?_)
                    · refine zc_iload_n (pc := 77) dX11_hungry_77 rfl rfl ?_
                      refine zc_drop 2 ?_
                      exact J16 y3
                    · refine zc_iload (pc := 72) dX11_hungry_72 rfl ?_
                      refine zc_goto (pc := 74) 78 dX11_hungry_74 (by decide) ?_
                      refine zc_drop 2 ?_
                      exact J16 y5
        exact L14 zFU (-4 : Int32) (61 : Int32) (0 : Int32) h1
    · refine zc_aload_n (pc := 29) dX11_hungry_29 rfl rfl ?_
      refine zc_iload_n (pc := 30) dX11_hungry_30 rfl rfl ?_
      refine zc_callI (pc := 31) [.ref 60, .int x1] rfl (zc_runV (ci := 11) (n0 := 0) (q := (RX11, TX11, 35)) zo_X11_hungryIn ⟨Nat.le_of_ble_eq_true rfl, Nat.le_of_ble_eq_true rfl⟩ zw_1247 zw_1249 zs_43 rfl (by decide) rfl rfl dX11_hungry_31) (Nat.le_of_ble_eq_true rfl) (fun _ hr => zt_X11_hungryIn x1 h1 hr) (fun r10 => ?_)
      exact zc_iretK (pc := 34) dX11_hungry_34 rfl ⟨_, rfl, rfl⟩
def zl_X11_round_19 (h1 : zHp) : Nat → Int32 → Int32 → zHp → Option (Int32 × zHp)
  | 0, _, _, _ => none
  | fu + 1, y3, y4, h5 => (if (60 : Int32) < y4 then some (y3, h5) else (if 0 ≤ y3 then some (y3, h5) else ((zf_X11_dayBy (0 : Int32) h5).bind (fun r6 => (if (r6.1 60 0) = (h1.1 60 0) then zl_X11_round_19 h1 fu y4 (y4 + (1 : Int32)) r6 else zl_X11_round_19 h1 fu (-4 : Int32) (y4 + (1 : Int32)) r6)))))
def zf_X11_round (h : zHp) : Option (Int32 × zHp) :=
  ((some (zc_ui h 60 17 (0 : Int32)) : Option zHp).bind (fun h1 => ((zf_X11_think h1).bind (fun r2 => ((zl_X11_round_19 h1 zFU (-4 : Int32) (1 : Int32) r2).bind (fun v7 => ((zf_X11_again v7.2).bind (fun r8 => some (v7.1, r8)))))))))
set_option maxRecDepth 100000 in
set_option maxHeartbeats 4000000 in
theorem zt_X11_round (h : zHp) {r : (Int32 × zHp)} (hr : (zf_X11_round h) = some r) : zc_Cn zM_X11_round [.ref 60] h (zc_mI r) := by
  refine zc_meth (mk := zc_mI) (o := (zf_X11_round h)) (by decide +kernel) (Nat.le_of_ble_eq_true rfl) ?_ hr
  unfold zf_X11_round
  refine zc_sL (ls1 := [some (.ref 60), none, none, none]) rfl ?_
  refine zc_aload_n (pc := 0) dX11_round_0 rfl rfl ?_
  refine zc_iconst (pc := 1) (0 : Int32) dX11_round_1 (by decide) ?_
  refine zc_putI (pc := 2) zF_X11_68 rfl dX11_round_2 ?_
  refine zc_letH (fun h1 _ => ?_)
  refine zc_aload_n (pc := 5) dX11_round_5 rfl rfl ?_
  refine zc_getI (pc := 6) zF_X11_91 rfl dX11_round_6 ?_
  refine zc_istore_n (pc := 9) dX11_round_9 rfl (Nat.le_of_ble_eq_true rfl) rfl (Nat.le_of_ble_eq_true rfl) ?_
  refine zc_sL (ls1 := [some (.ref 60), some (.int (h1.1 60 0)), none, none]) rfl ?_
  refine zc_bipush (pc := 10) (-4 : Int32) dX11_round_10 (by decide) ?_
  refine zc_istore_n (pc := 12) dX11_round_12 rfl (Nat.le_of_ble_eq_true rfl) rfl (Nat.le_of_ble_eq_true rfl) ?_
  refine zc_sL (ls1 := [some (.ref 60), some (.int (h1.1 60 0)), some (.int (-4 : Int32)), none]) rfl ?_
  refine zc_aload_n (pc := 13) dX11_round_13 rfl rfl ?_
  refine zc_callV (pc := 14) [.ref 60] rfl (zc_runV (ci := 11) (n0 := 0) (q := (RX11, TX11, 35)) zo_X11_think ⟨Nat.le_of_ble_eq_true rfl, Nat.le_of_ble_eq_true rfl⟩ zw_1095 zw_1097 zs_23 rfl (by decide) rfl rfl dX11_round_14) (Nat.le_of_ble_eq_true rfl) (fun _ hr => zt_X11_think h1 hr) (fun r2 => ?_)
  refine zc_iconst (pc := 17) (1 : Int32) dX11_round_17 (by decide) ?_
  refine zc_istore_n (pc := 18) dX11_round_18 rfl (Nat.le_of_ble_eq_true rfl) rfl (Nat.le_of_ble_eq_true rfl) ?_
  refine zc_sL (ls1 := [some (.ref 60), some (.int (h1.1 60 0)), some (.int (-4 : Int32)), some (.int (1 : Int32))]) rfl ?_
  refine zc_sL (ls1 := [some (.ref 60), some (.int (h1.1 60 0)), some (.int (-4 : Int32)), some (.int (1 : Int32))]) rfl ?_
  refine zc_loop 55 (fun v7 => [some (.ref 60), none, some (.int v7.1), none]) (fun v7 => []) (fun v7 => v7.2) (fun v7 => ?_) (fun k10 J9 => ?_)
  · refine zc_aload_n (pc := 55) dX11_round_55 rfl rfl ?_
    refine zc_callV (pc := 56) [.ref 60] rfl (zc_runV (ci := 11) (n0 := 0) (q := (RX11, TX11, 35)) zo_X11_again ⟨Nat.le_of_ble_eq_true rfl, Nat.le_of_ble_eq_true rfl⟩ zw_1170 zw_1172 zs_39 rfl (by decide) rfl rfl dX11_round_56) (Nat.le_of_ble_eq_true rfl) (fun _ hr => zt_X11_again v7.2 hr) (fun r8 => ?_)
    refine zc_iload_n (pc := 59) dX11_round_59 rfl rfl ?_
    exact zc_iretK (pc := 60) dX11_round_60 rfl ⟨_, rfl, rfl⟩
  · have L12 : ∀ (fu : Nat) (y3 : Int32) (y4 : Int32) (h5 : zHp), zc_G zM_X11_round zc_mI 19 [some (.ref 60), some (.int (h1.1 60 0)), some (.int y3), some (.int y4)] [] h5 ((zl_X11_round_19 h1 fu y3 y4 h5).bind k10) := by
        intro fu
        induction fu with
        | zero => intros; exact zc_noneb
        | succ fu ih13 =>
          intro y3 y4 h5
          unfold zl_X11_round_19
          refine zc_iload_n (pc := 19) dX11_round_19 rfl rfl ?_
          refine zc_bipush (pc := 20) (60 : Int32) dX11_round_20 (by decide) ?_
          refine zc_icmp_gt (pc := 22) 55 dX11_round_22 (by decide) (fun _ => ?_) (fun _ => ?_)
          · refine zc_drop 1 ?_
            refine zc_drop 3 ?_
            exact J9 (y3, h5)
          · refine zc_iload_n (pc := 25) dX11_round_25 rfl rfl ?_
            refine zc_if_ge (pc := 26) 55 dX11_round_26 (by decide) (fun _ => ?_) (fun _ => ?_)
            · refine zc_drop 1 ?_
              refine zc_drop 3 ?_
              exact J9 (y3, h5)
            · refine zc_aload_n (pc := 29) dX11_round_29 rfl rfl ?_
              refine zc_iconst (pc := 30) (0 : Int32) dX11_round_30 (by decide) ?_
              refine zc_callV (pc := 31) [.ref 60, .int (0 : Int32)] rfl (zc_runV (ci := 11) (n0 := 0) (q := (RX11, TX11, 35)) zo_X11_dayBy ⟨Nat.le_of_ble_eq_true rfl, Nat.le_of_ble_eq_true rfl⟩ zw_1132 zw_1134 zs_31 rfl (by decide) rfl rfl dX11_round_31) (Nat.le_of_ble_eq_true rfl) (fun _ hr => zt_X11_dayBy (0 : Int32) h5 hr) (fun r6 => ?_)
              refine zc_aload_n (pc := 34) dX11_round_34 rfl rfl ?_
              refine zc_getI (pc := 35) zF_X11_91 rfl dX11_round_35 ?_
              refine zc_iload_n (pc := 38) dX11_round_38 rfl rfl ?_
              refine zc_icmp_ne (pc := 39) 46 dX11_round_39 (by decide) (fun _ => ?_) (fun _ => ?_)
              · refine zc_iload_n (pc := 42) dX11_round_42 rfl rfl ?_
                refine zc_goto (pc := 43) 48 dX11_round_43 (by decide) ?_
                refine zc_istore_n (pc := 48) dX11_round_48 rfl (Nat.le_of_ble_eq_true rfl) rfl (Nat.le_of_ble_eq_true rfl) ?_
                refine zc_sL (ls1 := [some (.ref 60), some (.int (h1.1 60 0)), some (.int y4), some (.int y4)]) rfl ?_
                refine zc_iinc (pc := 49) (1 : Int32) dX11_round_49 (by decide) rfl (Nat.le_of_ble_eq_true rfl) rfl ?_
                refine zc_sL (ls1 := [some (.ref 60), some (.int (h1.1 60 0)), some (.int y4), some (.int (y4 + (1 : Int32)))]) rfl ?_
                refine zc_goto (pc := 52) 19 dX11_round_52 (by decide) ?_
                exact ih13 y4 (y4 + (1 : Int32)) r6
              · refine zc_bipush (pc := 46) (-4 : Int32) dX11_round_46 (by decide) ?_
                refine zc_istore_n (pc := 48) dX11_round_48 rfl (Nat.le_of_ble_eq_true rfl) rfl (Nat.le_of_ble_eq_true rfl) ?_
                refine zc_sL (ls1 := [some (.ref 60), some (.int (h1.1 60 0)), some (.int (-4 : Int32)), some (.int y4)]) rfl ?_
                refine zc_iinc (pc := 49) (1 : Int32) dX11_round_49 (by decide) rfl (Nat.le_of_ble_eq_true rfl) rfl ?_
                refine zc_sL (ls1 := [some (.ref 60), some (.int (h1.1 60 0)), some (.int (-4 : Int32)), some (.int (y4 + (1 : Int32)))]) rfl ?_
                refine zc_goto (pc := 52) 19 dX11_round_52 (by decide) ?_
                exact ih13 (-4 : Int32) (y4 + (1 : Int32)) r6
    exact L12 zFU (-4 : Int32) (1 : Int32) r2
def zf_X11_way (x1 : Int32) (x2 : Int32) (h : zHp) : Option (Int32 × zHp) :=
  ((some (zc_ui h 60 17 (0 : Int32)) : Option zHp).bind (fun h1 => ((zf_X11_isOne x1 h1).bind (fun r2 => (if r2 = 0 then some ((-1 : Int32), h1) else ((zf_X11_isPlace x2).bind (fun r3 => (if r3 = 0 then some ((-1 : Int32), h1) else ((zf_X11_wayOf x1 x2 h1).bind (fun r4 => some (r4, h1)))))))))))
set_option maxRecDepth 100000 in
set_option maxHeartbeats 4000000 in
theorem zt_X11_way (x1 : Int32) (x2 : Int32) (h : zHp) {r : (Int32 × zHp)} (hr : (zf_X11_way x1 x2 h) = some r) : zc_Cn zM_X11_way [.ref 60, .int x1, .int x2] h (zc_mI r) := by
  refine zc_meth (mk := zc_mI) (o := (zf_X11_way x1 x2 h)) (by decide +kernel) (Nat.le_of_ble_eq_true rfl) ?_ hr
  unfold zf_X11_way
  refine zc_sL (ls1 := [some (.ref 60), some (.int x1), some (.int x2)]) rfl ?_
  refine zc_aload_n (pc := 0) dX11_way_0 rfl rfl ?_
  refine zc_iconst (pc := 1) (0 : Int32) dX11_way_1 (by decide) ?_
  refine zc_putI (pc := 2) zF_X11_68 rfl dX11_way_2 ?_
  refine zc_letH (fun h1 _ => ?_)
  refine zc_aload_n (pc := 5) dX11_way_5 rfl rfl ?_
  refine zc_iload_n (pc := 6) dX11_way_6 rfl rfl ?_
  refine zc_callIp (pc := 7) [.ref 60, .int x1] rfl (zc_runV (ci := 11) (n0 := 0) (q := (RX11, TX11, 35)) zo_X11_isOne ⟨Nat.le_of_ble_eq_true rfl, Nat.le_of_ble_eq_true rfl⟩ zw_1119 zw_1121 zs_28 rfl (by decide) rfl rfl dX11_way_7) (Nat.le_of_ble_eq_true rfl) (fun _ hr => zt_X11_isOne x1 h1 hr) (fun r2 => ?_)
  refine zc_if_eq (pc := 10) 29 dX11_way_10 (by decide) (fun _ => ?_) (fun _ => ?_)
  · refine zc_iconst (pc := 29) (-1 : Int32) dX11_way_29 (by decide) ?_
    exact zc_iretK (pc := 30) dX11_way_30 rfl ⟨_, rfl, rfl⟩
  · refine zc_iload_n (pc := 13) dX11_way_13 rfl rfl ?_
    refine zc_callIp (pc := 14) [.int x2] rfl (zc_runS zo_X11_isPlace ⟨Nat.le_of_ble_eq_true rfl, Nat.le_of_ble_eq_true rfl⟩ zw_1115 zw_1116 rfl dX11_way_14) (Nat.le_of_ble_eq_true rfl) (fun _ hr => zt_X11_isPlace x2 h1 hr) (fun r3 => ?_)
    refine zc_if_eq (pc := 17) 29 dX11_way_17 (by decide) (fun _ => ?_) (fun _ => ?_)
    · refine zc_iconst (pc := 29) (-1 : Int32) dX11_way_29 (by decide) ?_
      exact zc_iretK (pc := 30) dX11_way_30 rfl ⟨_, rfl, rfl⟩
    · refine zc_aload_n (pc := 20) dX11_way_20 rfl rfl ?_
      refine zc_iload_n (pc := 21) dX11_way_21 rfl rfl ?_
      refine zc_iload_n (pc := 22) dX11_way_22 rfl rfl ?_
      refine zc_callIp (pc := 23) [.ref 60, .int x1, .int x2] rfl (zc_runV (ci := 11) (n0 := 0) (q := (RX11, TX11, 35)) zo_X11_wayOf ⟨Nat.le_of_ble_eq_true rfl, Nat.le_of_ble_eq_true rfl⟩ zw_1144 zw_1146 zs_34 rfl (by decide) rfl rfl dX11_way_23) (Nat.le_of_ble_eq_true rfl) (fun _ hr => zt_X11_wayOf x1 x2 h1 hr) (fun r4 => ?_)
      refine zc_goto (pc := 26) 30 dX11_way_26 (by decide) ?_
      exact zc_iretK (pc := 30) dX11_way_30 rfl ⟨_, rfl, rfl⟩
def zl_X11_allWays_4 (h : zHp) : Nat → Int32 → Int32 → Option Int32
  | 0, _, _ => none
  | fu + 1, y1, y2 => (if (h.1 60 3) ≤ y2 then some y1 else ((zf_X11_isFetching y2 h).bind (fun r3 => (((if r3 = 0 then some (0 : Int32) else (if zc_ix y2 7 then (if zc_ix (h.1 64 y2.toNatClampNeg) 7 then ((zf_X11_wayOf y2 (h.1 63 (h.1 64 y2.toNatClampNeg).toNatClampNeg) h).bind (fun r6 => some r6)) else none) else none)) : Option Int32).bind (fun v7 => zl_X11_allWays_4 h fu (y1 + v7) (y2 + (1 : Int32)))))))
def zf_X11_allWays (h : zHp) : Option Int32 :=
  ((zl_X11_allWays_4 h zFU (0 : Int32) (0 : Int32)).bind (fun v8 => some v8))
set_option maxRecDepth 100000 in
set_option maxHeartbeats 4000000 in
theorem zt_X11_allWays (h : zHp) {r : Int32} (hr : (zf_X11_allWays h) = some r) : zc_Cn zM_X11_allWays [.ref 60] h ((fun r => zc_mI (r, h)) r) := by
  refine zc_meth (mk := (fun r => zc_mI (r, h))) (o := (zf_X11_allWays h)) (by decide +kernel) (Nat.le_of_ble_eq_true rfl) ?_ hr
  unfold zf_X11_allWays
  refine zc_sL (ls1 := [some (.ref 60), none, none]) rfl ?_
  refine zc_iconst (pc := 0) (0 : Int32) dX11_allWays_0 (by decide) ?_
  refine zc_istore_n (pc := 1) dX11_allWays_1 rfl (Nat.le_of_ble_eq_true rfl) rfl (Nat.le_of_ble_eq_true rfl) ?_
  refine zc_sL (ls1 := [some (.ref 60), some (.int (0 : Int32)), none]) rfl ?_
  refine zc_iconst (pc := 2) (0 : Int32) dX11_allWays_2 (by decide) ?_
  refine zc_istore_n (pc := 3) dX11_allWays_3 rfl (Nat.le_of_ble_eq_true rfl) rfl (Nat.le_of_ble_eq_true rfl) ?_
  refine zc_sL (ls1 := [some (.ref 60), some (.int (0 : Int32)), some (.int (0 : Int32))]) rfl ?_
  refine zc_sL (ls1 := [some (.ref 60), some (.int (0 : Int32)), some (.int (0 : Int32))]) rfl ?_
  refine zc_loop 49 (fun v8 => [none, some (.int v8), none]) (fun v8 => []) (fun v8 => h) (fun v8 => ?_) (fun k10 J9 => ?_)
  · refine zc_iload_n (pc := 49) dX11_allWays_49 rfl rfl ?_
    exact zc_iretK (pc := 50) dX11_allWays_50 rfl ⟨_, rfl, rfl⟩
  · have L12 : ∀ (fu : Nat) (y1 : Int32) (y2 : Int32), zc_G zM_X11_allWays (fun r => zc_mI (r, h)) 4 [some (.ref 60), some (.int y1), some (.int y2)] [] h ((zl_X11_allWays_4 h fu y1 y2).bind k10) := by
        intro fu
        induction fu with
        | zero => intros; exact zc_noneb
        | succ fu ih13 =>
          intro y1 y2
          unfold zl_X11_allWays_4
          refine zc_iload_n (pc := 4) dX11_allWays_4 rfl rfl ?_
          refine zc_aload_n (pc := 5) dX11_allWays_5 rfl rfl ?_
          refine zc_getI (pc := 6) zF_X11_84 rfl dX11_allWays_6 ?_
          refine zc_icmp_ge (pc := 9) 49 dX11_allWays_9 (by decide) (fun _ => ?_) (fun _ => ?_)
          · refine zc_drop 0 ?_
            refine zc_drop 2 ?_
            exact J9 y1
          · refine zc_iload_n (pc := 12) dX11_allWays_12 rfl rfl ?_
            refine zc_aload_n (pc := 13) dX11_allWays_13 rfl rfl ?_
            refine zc_iload_n (pc := 14) dX11_allWays_14 rfl rfl ?_
            refine zc_callIp (pc := 15) [.ref 60, .int y2] rfl (zc_runV (ci := 11) (n0 := 0) (q := (RX11, TX11, 35)) zo_X11_isFetching ⟨Nat.le_of_ble_eq_true rfl, Nat.le_of_ble_eq_true rfl⟩ zw_1140 zw_1142 zs_33 rfl (by decide) rfl rfl dX11_allWays_15) (Nat.le_of_ble_eq_true rfl) (fun _ hr => zt_X11_isFetching y2 h hr) (fun r3 => ?_)
            refine zc_join 41 (fun v7 => [some (.ref 60), none, some (.int y2)]) (fun v7 => [.int v7, .int y1]) (fun v7 => h) (fun v7 => ?_) (fun J14 => ?_)
            · refine zc_iadd (pc := 41) dX11_allWays_41 ?_
              refine zc_istore_n (pc := 42) dX11_allWays_42 rfl (Nat.le_of_ble_eq_true rfl) rfl (Nat.le_of_ble_eq_true rfl) ?_
              refine zc_sL (ls1 := [some (.ref 60), some (.int (y1 + v7)), some (.int y2)]) rfl ?_
              refine zc_iinc (pc := 43) (1 : Int32) dX11_allWays_43 (by decide) rfl (Nat.le_of_ble_eq_true rfl) rfl ?_
              refine zc_sL (ls1 := [some (.ref 60), some (.int (y1 + v7)), some (.int (y2 + (1 : Int32)))]) rfl ?_
              refine zc_goto (pc := 46) 4 dX11_allWays_46 (by decide) ?_
              exact ih13 (y1 + v7) (y2 + (1 : Int32))
            · refine zc_if_eq (pc := 18) 40 dX11_allWays_18 (by decide) (fun _ => ?_) (fun _ => ?_)
              · refine zc_iconst (pc := 40) (0 : Int32) dX11_allWays_40 (by decide) ?_
                refine zc_drop 1 ?_
                exact J14 (0 : Int32)
              · refine zc_aload_n (pc := 21) dX11_allWays_21 rfl rfl ?_
                refine zc_iload_n (pc := 22) dX11_allWays_22 rfl rfl ?_
                refine zc_aload_n (pc := 23) dX11_allWays_23 rfl rfl ?_
                refine zc_getC (pc := 24) zF_X11_16 rfl dX11_allWays_24 ?_
                refine zc_aload_n (pc := 27) dX11_allWays_27 rfl rfl ?_
                refine zc_getC (pc := 28) zF_X11_19 rfl dX11_allWays_28 ?_
                refine zc_iload_n (pc := 31) dX11_allWays_31 rfl rfl ?_
                refine zc_guard (fun g4 => ?_)
                refine zc_aldi (pc := 32) rfl g4 dX11_allWays_32 ?_
                refine zc_guard (fun g5 => ?_)
                refine zc_aldi (pc := 33) rfl g5 dX11_allWays_33 ?_
                refine zc_callIp (pc := 34) [.ref 60, .int y2, .int (h.1 63 (h.1 64 y2.toNatClampNeg).toNatClampNeg)] rfl (zc_runV (ci := 11) (n0 := 0) (q := (RX11, TX11, 35)) zo_X11_wayOf ⟨Nat.le_of_ble_eq_true rfl, Nat.le_of_ble_eq_true rfl⟩ zw_1144 zw_1146 zs_34 rfl (by decide) rfl rfl dX11_allWays_34) (Nat.le_of_ble_eq_true rfl) (fun _ hr => zt_X11_wayOf y2 (h.1 63 (h.1 64 y2.toNatClampNeg).toNatClampNeg) h hr) (fun r6 => ?_)
                refine zc_goto (pc := 37) 41 dX11_allWays_37 (by decide) ?_
                refine zc_drop 1 ?_
                exact J14 r6
    exact L12 zFU (0 : Int32) (0 : Int32)
def zl_X11_sit_28  : Nat → Int32 → Int32 → Int32 → zHp → Option (Int32 × Int32 × zHp)
  | 0, _, _, _, _ => none
  | fu + 1, y4, y5, y6, h7 => (if (12 : Int32) ≤ y6 then some (y4, y5, h7) else ((some (zc_ui h7 60 0 y6) : Option zHp).bind (fun h8 => ((zf_X11_allWays h8).bind (fun r9 => (((if y4 < 0 then some (1 : Int32) else (if y5 ≤ r9 then some (0 : Int32) else some (1 : Int32))) : Option Int32).bind (fun v10 => (((if v10 = 0 then some y4 else some y6) : Option Int32).bind (fun v11 => (if v10 = 0 then zl_X11_sit_28 fu v11 y5 (y6 + (1 : Int32)) h8 else zl_X11_sit_28 fu v11 r9 (y6 + (1 : Int32)) h8))))))))))
def zf_X11_sit (x1 : Int32) (h : zHp) : Option (Int32 × zHp) :=
  ((some (zc_ui h 60 17 (0 : Int32)) : Option zHp).bind (fun h1 => ((zf_X11_in x1.toInt64 (0 : Int64) (1 : Int64)).bind (fun r2 => (if r2 = 0 then some ((-1 : Int32), h1) else ((zf_X11_think h1).bind (fun r3 => ((zl_X11_sit_28 zFU (-1 : Int32) (0 : Int32) (0 : Int32) r3).bind (fun v12 => ((zf_X11_again v12.2.2).bind (fun r13 => (if x1 = 0 then some (v12.1, r13) else some (v12.2.1, r13)))))))))))))
set_option maxRecDepth 100000 in
set_option maxHeartbeats 4000000 in
theorem zt_X11_sit (x1 : Int32) (h : zHp) {r : (Int32 × zHp)} (hr : (zf_X11_sit x1 h) = some r) : zc_Cn zM_X11_sit [.ref 60, .int x1] h (zc_mI r) := by
  refine zc_meth (mk := zc_mI) (o := (zf_X11_sit x1 h)) (by decide +kernel) (Nat.le_of_ble_eq_true rfl) ?_ hr
  unfold zf_X11_sit
  refine zc_sL (ls1 := [some (.ref 60), some (.int x1), none, none, none, none, none]) rfl ?_
  refine zc_aload_n (pc := 0) dX11_sit_0 rfl rfl ?_
  refine zc_iconst (pc := 1) (0 : Int32) dX11_sit_1 (by decide) ?_
  refine zc_putI (pc := 2) zF_X11_68 rfl dX11_sit_2 ?_
  refine zc_letH (fun h1 _ => ?_)
  refine zc_iload_n (pc := 5) dX11_sit_5 rfl rfl ?_
  refine zc_i2l (pc := 6) dX11_sit_6 ?_
  refine zc_lconst (pc := 7) (0 : Int64) dX11_sit_7 (by decide) ?_
  refine zc_lconst (pc := 8) (1 : Int64) dX11_sit_8 (by decide) ?_
  refine zc_callIp (pc := 9) [.long x1.toInt64, .long (0 : Int64), .long (1 : Int64)] rfl (zc_runS zo_X11_in ⟨Nat.le_of_ble_eq_true rfl, Nat.le_of_ble_eq_true rfl⟩ zw_1071 zw_1072 rfl dX11_sit_9) (Nat.le_of_ble_eq_true rfl) (fun _ hr => zt_X11_in x1.toInt64 (0 : Int64) (1 : Int64) h1 hr) (fun r2 => ?_)
  refine zc_if_ne (pc := 12) 17 dX11_sit_12 (by decide) (fun _ => ?_) (fun _ => ?_)
  · refine zc_iconst (pc := 15) (-1 : Int32) dX11_sit_15 (by decide) ?_
    exact zc_iretK (pc := 16) dX11_sit_16 rfl ⟨_, rfl, rfl⟩
  · refine zc_iconst (pc := 17) (-1 : Int32) dX11_sit_17 (by decide) ?_
    refine zc_istore_n (pc := 18) dX11_sit_18 rfl (Nat.le_of_ble_eq_true rfl) rfl (Nat.le_of_ble_eq_true rfl) ?_
    refine zc_sL (ls1 := [some (.ref 60), some (.int x1), some (.int (-1 : Int32)), none, none, none, none]) rfl ?_
    refine zc_iconst (pc := 19) (0 : Int32) dX11_sit_19 (by decide) ?_
    refine zc_istore_n (pc := 20) dX11_sit_20 rfl (Nat.le_of_ble_eq_true rfl) rfl (Nat.le_of_ble_eq_true rfl) ?_
    refine zc_sL (ls1 := [some (.ref 60), some (.int x1), some (.int (-1 : Int32)), some (.int (0 : Int32)), none, none, none]) rfl ?_
    refine zc_aload_n (pc := 21) dX11_sit_21 rfl rfl ?_
    refine zc_callV (pc := 22) [.ref 60] rfl (zc_runV (ci := 11) (n0 := 0) (q := (RX11, TX11, 35)) zo_X11_think ⟨Nat.le_of_ble_eq_true rfl, Nat.le_of_ble_eq_true rfl⟩ zw_1095 zw_1097 zs_23 rfl (by decide) rfl rfl dX11_sit_22) (Nat.le_of_ble_eq_true rfl) (fun _ hr => zt_X11_think h1 hr) (fun r3 => ?_)
    refine zc_iconst (pc := 25) (0 : Int32) dX11_sit_25 (by decide) ?_
    refine zc_istore (pc := 26) dX11_sit_26 (Nat.le_of_ble_eq_true rfl) rfl (Nat.le_of_ble_eq_true rfl) ?_
    refine zc_sL (ls1 := [some (.ref 60), some (.int x1), some (.int (-1 : Int32)), some (.int (0 : Int32)), some (.int (0 : Int32)), none, none]) rfl ?_
    refine zc_sL (ls1 := [some (.ref 60), some (.int x1), some (.int (-1 : Int32)), some (.int (0 : Int32)), some (.int (0 : Int32)), none, none]) rfl ?_
    refine zc_loop 94 (fun v12 => [some (.ref 60), some (.int x1), some (.int v12.1), some (.int v12.2.1), none, none, none]) (fun v12 => []) (fun v12 => v12.2.2) (fun v12 => ?_) (fun k15 J14 => ?_)
    · refine zc_aload_n (pc := 94) dX11_sit_94 rfl rfl ?_
      refine zc_callV (pc := 95) [.ref 60] rfl (zc_runV (ci := 11) (n0 := 0) (q := (RX11, TX11, 35)) zo_X11_again ⟨Nat.le_of_ble_eq_true rfl, Nat.le_of_ble_eq_true rfl⟩ zw_1170 zw_1172 zs_39 rfl (by decide) rfl rfl dX11_sit_95) (Nat.le_of_ble_eq_true rfl) (fun _ hr => zt_X11_again v12.2.2 hr) (fun r13 => ?_)
      refine zc_iload_n (pc := 98) dX11_sit_98 rfl rfl ?_
      refine zc_if_ne (pc := 99) 106 dX11_sit_99 (by decide) (fun _ => ?_) (fun _ => ?_)
      · refine zc_iload_n (pc := 102) dX11_sit_102 rfl rfl ?_
        refine zc_goto (pc := 103) 107 dX11_sit_103 (by decide) ?_
        exact zc_iretK (pc := 107) dX11_sit_107 rfl ⟨_, rfl, rfl⟩
      · refine zc_iload_n (pc := 106) dX11_sit_106 rfl rfl ?_
        exact zc_iretK (pc := 107) dX11_sit_107 rfl ⟨_, rfl, rfl⟩
    · have L17 : ∀ (fu : Nat) (y4 : Int32) (y5 : Int32) (y6 : Int32) (h7 : zHp), zc_G zM_X11_sit zc_mI 28 [some (.ref 60), some (.int x1), some (.int y4), some (.int y5), some (.int y6), none, none] [] h7 ((zl_X11_sit_28 fu y4 y5 y6 h7).bind k15) := by
          intro fu
          induction fu with
          | zero => intros; exact zc_noneb
          | succ fu ih18 =>
            intro y4 y5 y6 h7
            unfold zl_X11_sit_28
            refine zc_iload (pc := 28) dX11_sit_28 rfl ?_
            refine zc_bipush (pc := 30) (12 : Int32) dX11_sit_30 (by decide) ?_
            refine zc_icmp_ge (pc := 32) 94 dX11_sit_32 (by decide) (fun _ => ?_) (fun _ => ?_)
            · refine zc_drop 4 ?_
              exact J14 (y4, y5, h7)
            · refine zc_aload_n (pc := 35) dX11_sit_35 rfl rfl ?_
              refine zc_iload (pc := 36) dX11_sit_36 rfl ?_
              refine zc_putI (pc := 38) zF_X11_91 rfl dX11_sit_38 ?_
              refine zc_letH (fun h8 _ => ?_)
              refine zc_aload_n (pc := 41) dX11_sit_41 rfl rfl ?_
              refine zc_callIp (pc := 42) [.ref 60] rfl (zc_runV (ci := 11) (n0 := 0) (q := (RX11, TX11, 35)) zo_X11_allWays ⟨Nat.le_of_ble_eq_true rfl, Nat.le_of_ble_eq_true rfl⟩ zw_1263 zw_1265 zs_44 rfl (by decide) rfl rfl dX11_sit_42) (Nat.le_of_ble_eq_true rfl) (fun _ hr => zt_X11_allWays h8 hr) (fun r9 => ?_)
              refine zc_istore (pc := 45) dX11_sit_45 (Nat.le_of_ble_eq_true rfl) rfl (Nat.le_of_ble_eq_true rfl) ?_
              refine zc_sL (ls1 := [some (.ref 60), some (.int x1), some (.int y4), some (.int y5), some (.int y6), some (.int r9), none]) rfl ?_
              refine zc_iload_n (pc := 47) dX11_sit_47 rfl rfl ?_
              refine zc_join 62 (fun v10 => [some (.ref 60), some (.int x1), some (.int y4), some (.int y5), some (.int y6), some (.int r9), none]) (fun v10 => [.int v10]) (fun v10 => h8) (fun v10 => ?_) (fun J19 => ?_)
              · refine zc_istore (pc := 62) dX11_sit_62 (Nat.le_of_ble_eq_true rfl) rfl (Nat.le_of_ble_eq_true rfl) ?_
                refine zc_sL (ls1 := [some (.ref 60), some (.int x1), some (.int y4), some (.int y5), some (.int y6), some (.int r9), some (.int v10)]) rfl ?_
                refine zc_iload (pc := 64) dX11_sit_64 rfl ?_
                refine zc_join 75 (fun v11 => [some (.ref 60), some (.int x1), none, some (.int y5), some (.int y6), some (.int r9), some (.int v10)]) (fun v11 => [.int v11]) (fun v11 => h8) (fun v11 => ?_) (fun J20 => ?_)
                · refine zc_istore_n (pc := 75) dX11_sit_75 rfl (Nat.le_of_ble_eq_true rfl) rfl (Nat.le_of_ble_eq_true rfl) ?_
                  refine zc_sL (ls1 := [some (.ref 60), some (.int x1), some (.int v11), some (.int y5), some (.int y6), some (.int r9), some (.int v10)]) rfl ?_
                  refine zc_iload (pc := 76) dX11_sit_76 rfl ?_
                  refine zc_if_eq (pc := 78) 86 dX11_sit_78 (by decide) (fun _ => ?_) (fun _ => ?_)
                  · refine zc_iload_n (pc := 86) dX11_sit_86 rfl rfl ?_
                    refine zc_istore_n (pc := 87) dX11_sit_87 rfl (Nat.le_of_ble_eq_true rfl) rfl (Nat.le_of_ble_eq_true rfl) ?_
                    refine zc_sL (ls1 := [some (.ref 60), some (.int x1), some (.int v11), some (.int y5), some (.int y6), some (.int r9), some (.int v10)]) rfl ?_
                    refine zc_iinc (pc := 88) (1 : Int32) dX11_sit_88 (by decide) rfl (Nat.le_of_ble_eq_true rfl) rfl ?_
                    refine zc_sL (ls1 := [some (.ref 60), some (.int x1), some (.int v11), some (.int y5), some (.int (y6 + (1 : Int32))), some (.int r9), some (.int v10)]) rfl ?_
                    refine zc_goto (pc := 91) 28 dX11_sit_91 (by decide) ?_
                    refine zc_drop 5 ?_
                    refine zc_drop 6 ?_
                    exact ih18 v11 y5 (y6 + (1 : Int32)) h8
                  · refine zc_iload (pc := 81) dX11_sit_81 rfl ?_
                    refine zc_goto (pc := 83) 87 dX11_sit_83 (by decide) ?_
                    refine zc_istore_n (pc := 87) dX11_sit_87 rfl (Nat.le_of_ble_eq_true rfl) rfl (Nat.le_of_ble_eq_true rfl) ?_
                    refine zc_sL (ls1 := [some (.ref 60), some (.int x1), some (.int v11), some (.int r9), some (.int y6), some (.int r9), some (.int v10)]) rfl ?_
                    refine zc_iinc (pc := 88) (1 : Int32) dX11_sit_88 (by decide) rfl (Nat.le_of_ble_eq_true rfl) rfl ?_
                    refine zc_sL (ls1 := [some (.ref 60), some (.int x1), some (.int v11), some (.int r9), some (.int (y6 + (1 : Int32))), some (.int r9), some (.int v10)]) rfl ?_
                    refine zc_goto (pc := 91) 28 dX11_sit_91 (by decide) ?_
                    refine zc_drop 5 ?_
                    refine zc_drop 6 ?_
                    exact ih18 v11 r9 (y6 + (1 : Int32)) h8
                · refine zc_if_eq (pc := 66) 74 dX11_sit_66 (by decide) (fun _ => ?_) (fun _ => ?_)
                  · refine zc_iload_n (pc := 74) dX11_sit_74 rfl rfl ?_
                    refine zc_drop 2 ?_
                    exact J20 y4
                  · refine zc_iload (pc := 69) dX11_sit_69 rfl ?_
                    refine zc_goto (pc := 71) 75 dX11_sit_71 (by decide) ?_
                    refine zc_drop 2 ?_
                    exact J20 y6
              · refine zc_if_lt (pc := 48) 57 dX11_sit_48 (by decide) (fun _ => ?_) (fun _ => ?_)
                · refine zc_iconst (pc := 57) (1 : Int32) dX11_sit_57 (by decide) ?_
                  refine zc_goto (pc := 58) 62 dX11_sit_58 (by decide) ?_
                  exact J19 (1 : Int32)
                · refine zc_iload (pc := 51) dX11_sit_51 rfl ?_
                  refine zc_iload_n (pc := 53) dX11_sit_53 rfl rfl ?_
                  refine zc_icmp_ge (pc := 54) 61 dX11_sit_54 (by decide) (fun _ => ?_) (fun _ => ?_)
                  · refine zc_iconst (pc := 61) (0 : Int32) dX11_sit_61 (by decide) ?_
                    exact J19 (0 : Int32)
                  · refine zc_iconst (pc := 57) (1 : Int32) dX11_sit_57 (by decide) ?_
                    refine zc_goto (pc := 58) 62 dX11_sit_58 (by decide) ?_
                    exact J19 (1 : Int32)
      exact L17 zFU (-1 : Int32) (0 : Int32) (0 : Int32) r3
def zl_X11_sitFor_30 (x1 : Int32) : Nat → Int32 → Int32 → Int32 → zHp → Option (Int32 × zHp)
  | 0, _, _, _, _ => none
  | fu + 1, y4, y5, y6, h7 => (if (12 : Int32) ≤ y6 then some (y4, h7) else ((some (zc_ui h7 60 0 y6) : Option zHp).bind (fun h8 => ((zf_X11_goDays x1 h8).bind (fun r9 => ((zf_X11_allStock r9).bind (fun r10 => ((zf_X11_again r9).bind (fun r11 => (((if r10 ≤ y5 then some y4 else some y6) : Option Int32).bind (fun v12 => (if r10 ≤ y5 then zl_X11_sitFor_30 x1 fu v12 y5 (y6 + (1 : Int32)) r11 else zl_X11_sitFor_30 x1 fu v12 r10 (y6 + (1 : Int32)) r11))))))))))))
def zf_X11_sitFor (x1 : Int32) (h : zHp) : Option (Int32 × zHp) :=
  ((some (zc_ui h 60 17 (0 : Int32)) : Option zHp).bind (fun h1 => ((zf_X11_in x1.toInt64 (0 : Int64) (60 : Int64)).bind (fun r2 => (if r2 = 0 then some ((-1 : Int32), h1) else ((zf_X11_think h1).bind (fun r3 => ((zl_X11_sitFor_30 x1 zFU (0 : Int32) (-1 : Int32) (0 : Int32) r3).bind (fun v13 => some (v13.1, v13.2))))))))))
set_option maxRecDepth 100000 in
set_option maxHeartbeats 4000000 in
theorem zt_X11_sitFor (x1 : Int32) (h : zHp) {r : (Int32 × zHp)} (hr : (zf_X11_sitFor x1 h) = some r) : zc_Cn zM_X11_sitFor [.ref 60, .int x1] h (zc_mI r) := by
  refine zc_meth (mk := zc_mI) (o := (zf_X11_sitFor x1 h)) (by decide +kernel) (Nat.le_of_ble_eq_true rfl) ?_ hr
  unfold zf_X11_sitFor
  refine zc_sL (ls1 := [some (.ref 60), some (.int x1), none, none, none, none]) rfl ?_
  refine zc_aload_n (pc := 0) dX11_sitFor_0 rfl rfl ?_
  refine zc_iconst (pc := 1) (0 : Int32) dX11_sitFor_1 (by decide) ?_
  refine zc_putI (pc := 2) zF_X11_68 rfl dX11_sitFor_2 ?_
  refine zc_letH (fun h1 _ => ?_)
  refine zc_iload_n (pc := 5) dX11_sitFor_5 rfl rfl ?_
  refine zc_i2l (pc := 6) dX11_sitFor_6 ?_
  refine zc_lconst (pc := 7) (0 : Int64) dX11_sitFor_7 (by decide) ?_
  refine zc_ldc2 (pc := 8) dX11_sitFor_8 zw_1127 ?_
  refine zc_callIp (pc := 11) [.long x1.toInt64, .long (0 : Int64), .long (60 : Int64)] rfl (zc_runS zo_X11_in ⟨Nat.le_of_ble_eq_true rfl, Nat.le_of_ble_eq_true rfl⟩ zw_1071 zw_1072 rfl dX11_sitFor_11) (Nat.le_of_ble_eq_true rfl) (fun _ hr => zt_X11_in x1.toInt64 (0 : Int64) (60 : Int64) h1 hr) (fun r2 => ?_)
  refine zc_if_ne (pc := 14) 19 dX11_sitFor_14 (by decide) (fun _ => ?_) (fun _ => ?_)
  · refine zc_iconst (pc := 17) (-1 : Int32) dX11_sitFor_17 (by decide) ?_
    exact zc_iretK (pc := 18) dX11_sitFor_18 rfl ⟨_, rfl, rfl⟩
  · refine zc_iconst (pc := 19) (0 : Int32) dX11_sitFor_19 (by decide) ?_
    refine zc_istore_n (pc := 20) dX11_sitFor_20 rfl (Nat.le_of_ble_eq_true rfl) rfl (Nat.le_of_ble_eq_true rfl) ?_
    refine zc_sL (ls1 := [some (.ref 60), some (.int x1), some (.int (0 : Int32)), none, none, none]) rfl ?_
    refine zc_iconst (pc := 21) (-1 : Int32) dX11_sitFor_21 (by decide) ?_
    refine zc_istore_n (pc := 22) dX11_sitFor_22 rfl (Nat.le_of_ble_eq_true rfl) rfl (Nat.le_of_ble_eq_true rfl) ?_
    refine zc_sL (ls1 := [some (.ref 60), some (.int x1), some (.int (0 : Int32)), some (.int (-1 : Int32)), none, none]) rfl ?_
    refine zc_aload_n (pc := 23) dX11_sitFor_23 rfl rfl ?_
    refine zc_callV (pc := 24) [.ref 60] rfl (zc_runV (ci := 11) (n0 := 0) (q := (RX11, TX11, 35)) zo_X11_think ⟨Nat.le_of_ble_eq_true rfl, Nat.le_of_ble_eq_true rfl⟩ zw_1095 zw_1097 zs_23 rfl (by decide) rfl rfl dX11_sitFor_24) (Nat.le_of_ble_eq_true rfl) (fun _ hr => zt_X11_think h1 hr) (fun r3 => ?_)
    refine zc_iconst (pc := 27) (0 : Int32) dX11_sitFor_27 (by decide) ?_
    refine zc_istore (pc := 28) dX11_sitFor_28 (Nat.le_of_ble_eq_true rfl) rfl (Nat.le_of_ble_eq_true rfl) ?_
    refine zc_sL (ls1 := [some (.ref 60), some (.int x1), some (.int (0 : Int32)), some (.int (-1 : Int32)), some (.int (0 : Int32)), none]) rfl ?_
    refine zc_sL (ls1 := [some (.ref 60), some (.int x1), some (.int (0 : Int32)), some (.int (-1 : Int32)), some (.int (0 : Int32)), none]) rfl ?_
    refine zc_loop 90 (fun v13 => [none, none, some (.int v13.1), none, none, none]) (fun v13 => []) (fun v13 => v13.2) (fun v13 => ?_) (fun k15 J14 => ?_)
    · refine zc_iload_n (pc := 90) dX11_sitFor_90 rfl rfl ?_
      exact zc_iretK (pc := 91) dX11_sitFor_91 rfl ⟨_, rfl, rfl⟩
    · have L17 : ∀ (fu : Nat) (y4 : Int32) (y5 : Int32) (y6 : Int32) (h7 : zHp), zc_G zM_X11_sitFor zc_mI 30 [some (.ref 60), some (.int x1), some (.int y4), some (.int y5), some (.int y6), none] [] h7 ((zl_X11_sitFor_30 x1 fu y4 y5 y6 h7).bind k15) := by
          intro fu
          induction fu with
          | zero => intros; exact zc_noneb
          | succ fu ih18 =>
            intro y4 y5 y6 h7
            unfold zl_X11_sitFor_30
            refine zc_iload (pc := 30) dX11_sitFor_30 rfl ?_
            refine zc_bipush (pc := 32) (12 : Int32) dX11_sitFor_32 (by decide) ?_
            refine zc_icmp_ge (pc := 34) 90 dX11_sitFor_34 (by decide) (fun _ => ?_) (fun _ => ?_)
            · refine zc_drop 0 ?_
              refine zc_drop 1 ?_
              refine zc_drop 3 ?_
              refine zc_drop 4 ?_
              exact J14 (y4, h7)
            · refine zc_aload_n (pc := 37) dX11_sitFor_37 rfl rfl ?_
              refine zc_iload (pc := 38) dX11_sitFor_38 rfl ?_
              refine zc_putI (pc := 40) zF_X11_91 rfl dX11_sitFor_40 ?_
              refine zc_letH (fun h8 _ => ?_)
              refine zc_aload_n (pc := 43) dX11_sitFor_43 rfl rfl ?_
              refine zc_iload_n (pc := 44) dX11_sitFor_44 rfl rfl ?_
              refine zc_callV (pc := 45) [.ref 60, .int x1] rfl (zc_runV (ci := 11) (n0 := 0) (q := (RX11, TX11, 35)) zo_X11_goDays ⟨Nat.le_of_ble_eq_true rfl, Nat.le_of_ble_eq_true rfl⟩ zw_1128 zw_1130 zs_30 rfl (by decide) rfl rfl dX11_sitFor_45) (Nat.le_of_ble_eq_true rfl) (fun _ hr => zt_X11_goDays x1 h8 hr) (fun r9 => ?_)
              refine zc_aload_n (pc := 48) dX11_sitFor_48 rfl rfl ?_
              refine zc_callIp (pc := 49) [.ref 60] rfl (zc_runV (ci := 11) (n0 := 0) (q := (RX11, TX11, 35)) zo_X11_allStock ⟨Nat.le_of_ble_eq_true rfl, Nat.le_of_ble_eq_true rfl⟩ zw_1221 zw_1223 zs_41 rfl (by decide) rfl rfl dX11_sitFor_49) (Nat.le_of_ble_eq_true rfl) (fun _ hr => zt_X11_allStock r9 hr) (fun r10 => ?_)
              refine zc_istore (pc := 52) dX11_sitFor_52 (Nat.le_of_ble_eq_true rfl) rfl (Nat.le_of_ble_eq_true rfl) ?_
              refine zc_sL (ls1 := [some (.ref 60), some (.int x1), some (.int y4), some (.int y5), some (.int y6), some (.int r10)]) rfl ?_
              refine zc_aload_n (pc := 54) dX11_sitFor_54 rfl rfl ?_
              refine zc_callV (pc := 55) [.ref 60] rfl (zc_runV (ci := 11) (n0 := 0) (q := (RX11, TX11, 35)) zo_X11_again ⟨Nat.le_of_ble_eq_true rfl, Nat.le_of_ble_eq_true rfl⟩ zw_1170 zw_1172 zs_39 rfl (by decide) rfl rfl dX11_sitFor_55) (Nat.le_of_ble_eq_true rfl) (fun _ hr => zt_X11_again r9 hr) (fun r11 => ?_)
              refine zc_iload (pc := 58) dX11_sitFor_58 rfl ?_
              refine zc_iload_n (pc := 60) dX11_sitFor_60 rfl rfl ?_
              refine zc_join 70 (fun v12 => [some (.ref 60), some (.int x1), none, some (.int y5), some (.int y6), some (.int r10)]) (fun v12 => [.int v12]) (fun v12 => r11) (fun v12 => ?_) (fun J19 => ?_)
              · refine zc_istore_n (pc := 70) dX11_sitFor_70 rfl (Nat.le_of_ble_eq_true rfl) rfl (Nat.le_of_ble_eq_true rfl) ?_
                refine zc_sL (ls1 := [some (.ref 60), some (.int x1), some (.int v12), some (.int y5), some (.int y6), some (.int r10)]) rfl ?_
                refine zc_iload (pc := 71) dX11_sitFor_71 rfl ?_
                refine zc_iload_n (pc := 73) dX11_sitFor_73 rfl rfl ?_
                refine zc_icmp_le (pc := 74) 82 dX11_sitFor_74 (by decide) (fun _ => ?_) (fun _ => ?_)
                · refine zc_iload_n (pc := 82) dX11_sitFor_82 rfl rfl ?_
                  refine zc_istore_n (pc := 83) dX11_sitFor_83 rfl (Nat.le_of_ble_eq_true rfl) rfl (Nat.le_of_ble_eq_true rfl) ?_
                  refine zc_sL (ls1 := [some (.ref 60), some (.int x1), some (.int v12), some (.int y5), some (.int y6), some (.int r10)]) rfl ?_
                  refine zc_iinc (pc := 84) (1 : Int32) dX11_sitFor_84 (by decide) rfl (Nat.le_of_ble_eq_true rfl) rfl ?_
                  refine zc_sL (ls1 := [some (.ref 60), some (.int x1), some (.int v12), some (.int y5), some (.int (y6 + (1 : Int32))), some (.int r10)]) rfl ?_
                  refine zc_goto (pc := 87) 30 dX11_sitFor_87 (by decide) ?_
                  refine zc_drop 5 ?_
                  exact ih18 v12 y5 (y6 + (1 : Int32)) r11
                · refine zc_iload (pc := 77) dX11_sitFor_77 rfl ?_
                  refine zc_goto (pc := 79) 83 dX11_sitFor_79 (by decide) ?_
                  refine zc_istore_n (pc := 83) dX11_sitFor_83 rfl (Nat.le_of_ble_eq_true rfl) rfl (Nat.le_of_ble_eq_true rfl) ?_
                  refine zc_sL (ls1 := [some (.ref 60), some (.int x1), some (.int v12), some (.int r10), some (.int y6), some (.int r10)]) rfl ?_
                  refine zc_iinc (pc := 84) (1 : Int32) dX11_sitFor_84 (by decide) rfl (Nat.le_of_ble_eq_true rfl) rfl ?_
                  refine zc_sL (ls1 := [some (.ref 60), some (.int x1), some (.int v12), some (.int r10), some (.int (y6 + (1 : Int32))), some (.int r10)]) rfl ?_
                  refine zc_goto (pc := 87) 30 dX11_sitFor_87 (by decide) ?_
                  refine zc_drop 5 ?_
                  exact ih18 v12 r10 (y6 + (1 : Int32)) r11
              · refine zc_icmp_le (pc := 61) 69 dX11_sitFor_61 (by decide) (fun _ => ?_) (fun _ => ?_)
                · refine zc_iload_n (pc := 69) dX11_sitFor_69 rfl rfl ?_
                  refine zc_drop 2 ?_
                  exact J19 y4
                · refine zc_iload (pc := 64) dX11_sitFor_64 rfl ?_
                  refine zc_goto (pc := 66) 70 dX11_sitFor_66 (by decide) ?_
                  refine zc_drop 2 ?_
                  exact J19 y6
      exact L17 zFU (0 : Int32) (-1 : Int32) (0 : Int32) r3
def zl_X11_move_39 (x1 : Int32) (x2 : Int32) : Nat → Int32 → Int32 → Int32 → zHp → Option (Int32 × zHp)
  | 0, _, _, _, _ => none
  | fu + 1, y5, y6, y7, h8 => (if (12 : Int32) ≤ y7 then some (y5, h8) else (if zc_ix x1 7 then ((some (zc_ui h8 63 x1.toNatClampNeg y7) : Option zHp).bind (fun h10 => ((zf_X11_goDays x2 h10).bind (fun r11 => (if zc_ix x1 7 then ((some (r11.1 65 x1.toNatClampNeg) : Option Int32).bind (fun v13 => ((zf_X11_again r11).bind (fun r14 => (((if v13 ≤ y6 then some y5 else some y7) : Option Int32).bind (fun v15 => (if v13 ≤ y6 then zl_X11_move_39 x1 x2 fu v15 y6 (y7 + (1 : Int32)) r14 else zl_X11_move_39 x1 x2 fu v15 v13 (y7 + (1 : Int32)) r14))))))) else none))))) else none))
def zf_X11_move (x1 : Int32) (x2 : Int32) (h : zHp) : Option (Int32 × zHp) :=
  ((some (zc_ui h 60 17 (0 : Int32)) : Option zHp).bind (fun h1 => ((zf_X11_isOne x1 h1).bind (fun r2 => (if r2 = 0 then some ((-1 : Int32), h1) else ((zf_X11_in x2.toInt64 (0 : Int64) (60 : Int64)).bind (fun r3 => (if r3 = 0 then some ((-1 : Int32), h1) else ((zf_X11_think h1).bind (fun r4 => ((zl_X11_move_39 x1 x2 zFU (0 : Int32) (-1 : Int32) (0 : Int32) r4).bind (fun v16 => some (v16.1, v16.2)))))))))))))
set_option maxRecDepth 100000 in
set_option maxHeartbeats 4000000 in
theorem zt_X11_move (x1 : Int32) (x2 : Int32) (h : zHp) {r : (Int32 × zHp)} (hr : (zf_X11_move x1 x2 h) = some r) : zc_Cn zM_X11_move [.ref 60, .int x1, .int x2] h (zc_mI r) := by
  refine zc_meth (mk := zc_mI) (o := (zf_X11_move x1 x2 h)) (by decide +kernel) (Nat.le_of_ble_eq_true rfl) ?_ hr
  unfold zf_X11_move
  refine zc_sL (ls1 := [some (.ref 60), some (.int x1), some (.int x2), none, none, none, none]) rfl ?_
  refine zc_aload_n (pc := 0) dX11_move_0 rfl rfl ?_
  refine zc_iconst (pc := 1) (0 : Int32) dX11_move_1 (by decide) ?_
  refine zc_putI (pc := 2) zF_X11_68 rfl dX11_move_2 ?_
  refine zc_letH (fun h1 _ => ?_)
  refine zc_aload_n (pc := 5) dX11_move_5 rfl rfl ?_
  refine zc_iload_n (pc := 6) dX11_move_6 rfl rfl ?_
  refine zc_callIp (pc := 7) [.ref 60, .int x1] rfl (zc_runV (ci := 11) (n0 := 0) (q := (RX11, TX11, 35)) zo_X11_isOne ⟨Nat.le_of_ble_eq_true rfl, Nat.le_of_ble_eq_true rfl⟩ zw_1119 zw_1121 zs_28 rfl (by decide) rfl rfl dX11_move_7) (Nat.le_of_ble_eq_true rfl) (fun _ hr => zt_X11_isOne x1 h1 hr) (fun r2 => ?_)
  refine zc_if_eq (pc := 10) 25 dX11_move_10 (by decide) (fun _ => ?_) (fun _ => ?_)
  · refine zc_iconst (pc := 25) (-1 : Int32) dX11_move_25 (by decide) ?_
    exact zc_iretK (pc := 26) dX11_move_26 rfl ⟨_, rfl, rfl⟩
  · refine zc_iload_n (pc := 13) dX11_move_13 rfl rfl ?_
    refine zc_i2l (pc := 14) dX11_move_14 ?_
    refine zc_lconst (pc := 15) (0 : Int64) dX11_move_15 (by decide) ?_
    refine zc_ldc2 (pc := 16) dX11_move_16 zw_1127 ?_
    refine zc_callIp (pc := 19) [.long x2.toInt64, .long (0 : Int64), .long (60 : Int64)] rfl (zc_runS zo_X11_in ⟨Nat.le_of_ble_eq_true rfl, Nat.le_of_ble_eq_true rfl⟩ zw_1071 zw_1072 rfl dX11_move_19) (Nat.le_of_ble_eq_true rfl) (fun _ hr => zt_X11_in x2.toInt64 (0 : Int64) (60 : Int64) h1 hr) (fun r3 => ?_)
    refine zc_if_ne (pc := 22) 27 dX11_move_22 (by decide) (fun _ => ?_) (fun _ => ?_)
    · refine zc_iconst (pc := 25) (-1 : Int32) dX11_move_25 (by decide) ?_
      exact zc_iretK (pc := 26) dX11_move_26 rfl ⟨_, rfl, rfl⟩
    · refine zc_iconst (pc := 27) (0 : Int32) dX11_move_27 (by decide) ?_
      refine zc_istore_n (pc := 28) dX11_move_28 rfl (Nat.le_of_ble_eq_true rfl) rfl (Nat.le_of_ble_eq_true rfl) ?_
      refine zc_sL (ls1 := [some (.ref 60), some (.int x1), some (.int x2), some (.int (0 : Int32)), none, none, none]) rfl ?_
      refine zc_iconst (pc := 29) (-1 : Int32) dX11_move_29 (by decide) ?_
      refine zc_istore (pc := 30) dX11_move_30 (Nat.le_of_ble_eq_true rfl) rfl (Nat.le_of_ble_eq_true rfl) ?_
      refine zc_sL (ls1 := [some (.ref 60), some (.int x1), some (.int x2), some (.int (0 : Int32)), some (.int (-1 : Int32)), none, none]) rfl ?_
      refine zc_aload_n (pc := 32) dX11_move_32 rfl rfl ?_
      refine zc_callV (pc := 33) [.ref 60] rfl (zc_runV (ci := 11) (n0 := 0) (q := (RX11, TX11, 35)) zo_X11_think ⟨Nat.le_of_ble_eq_true rfl, Nat.le_of_ble_eq_true rfl⟩ zw_1095 zw_1097 zs_23 rfl (by decide) rfl rfl dX11_move_33) (Nat.le_of_ble_eq_true rfl) (fun _ hr => zt_X11_think h1 hr) (fun r4 => ?_)
      refine zc_iconst (pc := 36) (0 : Int32) dX11_move_36 (by decide) ?_
      refine zc_istore (pc := 37) dX11_move_37 (Nat.le_of_ble_eq_true rfl) rfl (Nat.le_of_ble_eq_true rfl) ?_
      refine zc_sL (ls1 := [some (.ref 60), some (.int x1), some (.int x2), some (.int (0 : Int32)), some (.int (-1 : Int32)), some (.int (0 : Int32)), none]) rfl ?_
      refine zc_sL (ls1 := [some (.ref 60), some (.int x1), some (.int x2), some (.int (0 : Int32)), some (.int (-1 : Int32)), some (.int (0 : Int32)), none]) rfl ?_
      refine zc_loop 107 (fun v16 => [none, none, none, some (.int v16.1), none, none, none]) (fun v16 => []) (fun v16 => v16.2) (fun v16 => ?_) (fun k18 J17 => ?_)
      · refine zc_iload_n (pc := 107) dX11_move_107 rfl rfl ?_
        exact zc_iretK (pc := 108) dX11_move_108 rfl ⟨_, rfl, rfl⟩
      · have L20 : ∀ (fu : Nat) (y5 : Int32) (y6 : Int32) (y7 : Int32) (h8 : zHp), zc_G zM_X11_move zc_mI 39 [some (.ref 60), some (.int x1), some (.int x2), some (.int y5), some (.int y6), some (.int y7), none] [] h8 ((zl_X11_move_39 x1 x2 fu y5 y6 y7 h8).bind k18) := by
            intro fu
            induction fu with
            | zero => intros; exact zc_noneb
            | succ fu ih21 =>
              intro y5 y6 y7 h8
              unfold zl_X11_move_39
              refine zc_iload (pc := 39) dX11_move_39 rfl ?_
              refine zc_bipush (pc := 41) (12 : Int32) dX11_move_41 (by decide) ?_
              refine zc_icmp_ge (pc := 43) 107 dX11_move_43 (by decide) (fun _ => ?_) (fun _ => ?_)
              · refine zc_drop 0 ?_
                refine zc_drop 1 ?_
                refine zc_drop 2 ?_
                refine zc_drop 4 ?_
                refine zc_drop 5 ?_
                exact J17 (y5, h8)
              · refine zc_aload_n (pc := 46) dX11_move_46 rfl rfl ?_
                refine zc_getC (pc := 47) zF_X11_16 rfl dX11_move_47 ?_
                refine zc_iload_n (pc := 50) dX11_move_50 rfl rfl ?_
                refine zc_iload (pc := 51) dX11_move_51 rfl ?_
                refine zc_guard (fun g9 => ?_)
                refine zc_asti (pc := 53) rfl g9 dX11_move_53 ?_
                refine zc_letH (fun h10 _ => ?_)
                refine zc_aload_n (pc := 54) dX11_move_54 rfl rfl ?_
                refine zc_iload_n (pc := 55) dX11_move_55 rfl rfl ?_
                refine zc_callV (pc := 56) [.ref 60, .int x2] rfl (zc_runV (ci := 11) (n0 := 0) (q := (RX11, TX11, 35)) zo_X11_goDays ⟨Nat.le_of_ble_eq_true rfl, Nat.le_of_ble_eq_true rfl⟩ zw_1128 zw_1130 zs_30 rfl (by decide) rfl rfl dX11_move_56) (Nat.le_of_ble_eq_true rfl) (fun _ hr => zt_X11_goDays x2 h10 hr) (fun r11 => ?_)
                refine zc_aload_n (pc := 59) dX11_move_59 rfl rfl ?_
                refine zc_getC (pc := 60) zF_X11_22 rfl dX11_move_60 ?_
                refine zc_iload_n (pc := 63) dX11_move_63 rfl rfl ?_
                refine zc_guard (fun g12 => ?_)
                refine zc_aldi (pc := 64) rfl g12 dX11_move_64 ?_
                refine zc_letI (fun v13 _ => ?_)
                refine zc_istore (pc := 65) dX11_move_65 (Nat.le_of_ble_eq_true rfl) rfl (Nat.le_of_ble_eq_true rfl) ?_
                refine zc_sL (ls1 := [some (.ref 60), some (.int x1), some (.int x2), some (.int y5), some (.int y6), some (.int y7), some (.int v13)]) rfl ?_
                refine zc_aload_n (pc := 67) dX11_move_67 rfl rfl ?_
                refine zc_callV (pc := 68) [.ref 60] rfl (zc_runV (ci := 11) (n0 := 0) (q := (RX11, TX11, 35)) zo_X11_again ⟨Nat.le_of_ble_eq_true rfl, Nat.le_of_ble_eq_true rfl⟩ zw_1170 zw_1172 zs_39 rfl (by decide) rfl rfl dX11_move_68) (Nat.le_of_ble_eq_true rfl) (fun _ hr => zt_X11_again r11 hr) (fun r14 => ?_)
                refine zc_iload (pc := 71) dX11_move_71 rfl ?_
                refine zc_iload (pc := 73) dX11_move_73 rfl ?_
                refine zc_join 84 (fun v15 => [some (.ref 60), some (.int x1), some (.int x2), none, some (.int y6), some (.int y7), some (.int v13)]) (fun v15 => [.int v15]) (fun v15 => r14) (fun v15 => ?_) (fun J22 => ?_)
                · refine zc_istore_n (pc := 84) dX11_move_84 rfl (Nat.le_of_ble_eq_true rfl) rfl (Nat.le_of_ble_eq_true rfl) ?_
                  refine zc_sL (ls1 := [some (.ref 60), some (.int x1), some (.int x2), some (.int v15), some (.int y6), some (.int y7), some (.int v13)]) rfl ?_
                  refine zc_iload (pc := 85) dX11_move_85 rfl ?_
                  refine zc_iload (pc := 87) dX11_move_87 rfl ?_
                  refine zc_icmp_le (pc := 89) 97 dX11_move_89 (by decide) (fun _ => ?_) (fun _ => ?_)
                  · refine zc_iload (pc := 97) dX11_move_97 rfl ?_
                    refine zc_istore (pc := 99) dX11_move_99 (Nat.le_of_ble_eq_true rfl) rfl (Nat.le_of_ble_eq_true rfl) ?_
                    refine zc_sL (ls1 := [some (.ref 60), some (.int x1), some (.int x2), some (.int v15), some (.int y6), some (.int y7), some (.int v13)]) rfl ?_
                    refine zc_iinc (pc := 101) (1 : Int32) dX11_move_101 (by decide) rfl (Nat.le_of_ble_eq_true rfl) rfl ?_
                    refine zc_sL (ls1 := [some (.ref 60), some (.int x1), some (.int x2), some (.int v15), some (.int y6), some (.int (y7 + (1 : Int32))), some (.int v13)]) rfl ?_
                    refine zc_goto (pc := 104) 39 dX11_move_104 (by decide) ?_
                    refine zc_drop 6 ?_
                    exact ih21 v15 y6 (y7 + (1 : Int32)) r14
                  · refine zc_iload (pc := 92) dX11_move_92 rfl ?_
                    refine zc_goto (pc := 94) 99 dX11_move_94 (by decide) ?_
                    refine zc_istore (pc := 99) dX11_move_99 (Nat.le_of_ble_eq_true rfl) rfl (Nat.le_of_ble_eq_true rfl) ?_
                    refine zc_sL (ls1 := [some (.ref 60), some (.int x1), some (.int x2), some (.int v15), some (.int v13), some (.int y7), some (.int v13)]) rfl ?_
                    refine zc_iinc (pc := 101) (1 : Int32) dX11_move_101 (by decide) rfl (Nat.le_of_ble_eq_true rfl) rfl ?_
                    refine zc_sL (ls1 := [some (.ref 60), some (.int x1), some (.int x2), some (.int v15), some (.int v13), some (.int (y7 + (1 : Int32))), some (.int v13)]) rfl ?_
                    refine zc_goto (pc := 104) 39 dX11_move_104 (by decide) ?_
                    refine zc_drop 6 ?_
                    exact ih21 v15 v13 (y7 + (1 : Int32)) r14
                · refine zc_icmp_le (pc := 75) 83 dX11_move_75 (by decide) (fun _ => ?_) (fun _ => ?_)
                  · refine zc_iload_n (pc := 83) dX11_move_83 rfl rfl ?_
                    refine zc_drop 3 ?_
                    exact J22 y5
                  · refine zc_iload (pc := 78) dX11_move_78 rfl ?_
                    refine zc_goto (pc := 80) 84 dX11_move_80 (by decide) ?_
                    refine zc_drop 3 ?_
                    exact J22 y7
        exact L20 zFU (0 : Int32) (-1 : Int32) (0 : Int32) r4
def zl_X11_fetch_54 (x1 : Int32) (x2 : Int32) : Nat → Int32 → Int32 → Int32 → zHp → Option (Int32 × zHp)
  | 0, _, _, _, _ => none
  | fu + 1, y9, y10, y11, h12 => (if (h12.1 60 3) ≤ y11 then some (y9, h12) else (if zc_ix x1 7 then ((some (zc_ui h12 64 x1.toNatClampNeg y11) : Option zHp).bind (fun h14 => ((zf_X11_goDays x2 h14).bind (fun r15 => (if zc_ix x1 7 then ((some (r15.1 65 x1.toNatClampNeg) : Option Int32).bind (fun v17 => ((zf_X11_again r15).bind (fun r18 => (((if v17 ≤ y10 then some y9 else some y11) : Option Int32).bind (fun v19 => (if v17 ≤ y10 then zl_X11_fetch_54 x1 x2 fu v19 y10 (y11 + (1 : Int32)) r18 else zl_X11_fetch_54 x1 x2 fu v19 v17 (y11 + (1 : Int32)) r18))))))) else none))))) else none))
def zf_X11_fetch (x1 : Int32) (x2 : Int32) (h : zHp) : Option (Int32 × zHp) :=
  ((some (zc_ui h 60 17 (0 : Int32)) : Option zHp).bind (fun h1 => ((zf_X11_isOne x1 h1).bind (fun r2 => (if r2 = 0 then some ((-1 : Int32), h1) else ((zf_X11_in x2.toInt64 (0 : Int64) (60 : Int64)).bind (fun r3 => (if r3 = 0 then some ((-1 : Int32), h1) else ((zf_X11_think h1).bind (fun r4 => ((zf_X11_goDays x2 r4).bind (fun r5 => (if zc_ix x1 7 then ((some (r5.1 65 x1.toNatClampNeg) : Option Int32).bind (fun v7 => ((zf_X11_again r5).bind (fun r8 => ((zl_X11_fetch_54 x1 x2 zFU (-4 : Int32) v7 (0 : Int32) r8).bind (fun v20 => some (v20.1, v20.2))))))) else none)))))))))))))
set_option maxRecDepth 100000 in
set_option maxHeartbeats 4000000 in
theorem zt_X11_fetch (x1 : Int32) (x2 : Int32) (h : zHp) {r : (Int32 × zHp)} (hr : (zf_X11_fetch x1 x2 h) = some r) : zc_Cn zM_X11_fetch [.ref 60, .int x1, .int x2] h (zc_mI r) := by
  refine zc_meth (mk := zc_mI) (o := (zf_X11_fetch x1 x2 h)) (by decide +kernel) (Nat.le_of_ble_eq_true rfl) ?_ hr
  unfold zf_X11_fetch
  refine zc_sL (ls1 := [some (.ref 60), some (.int x1), some (.int x2), none, none, none, none]) rfl ?_
  refine zc_aload_n (pc := 0) dX11_fetch_0 rfl rfl ?_
  refine zc_iconst (pc := 1) (0 : Int32) dX11_fetch_1 (by decide) ?_
  refine zc_putI (pc := 2) zF_X11_68 rfl dX11_fetch_2 ?_
  refine zc_letH (fun h1 _ => ?_)
  refine zc_aload_n (pc := 5) dX11_fetch_5 rfl rfl ?_
  refine zc_iload_n (pc := 6) dX11_fetch_6 rfl rfl ?_
  refine zc_callIp (pc := 7) [.ref 60, .int x1] rfl (zc_runV (ci := 11) (n0 := 0) (q := (RX11, TX11, 35)) zo_X11_isOne ⟨Nat.le_of_ble_eq_true rfl, Nat.le_of_ble_eq_true rfl⟩ zw_1119 zw_1121 zs_28 rfl (by decide) rfl rfl dX11_fetch_7) (Nat.le_of_ble_eq_true rfl) (fun _ hr => zt_X11_isOne x1 h1 hr) (fun r2 => ?_)
  refine zc_if_eq (pc := 10) 25 dX11_fetch_10 (by decide) (fun _ => ?_) (fun _ => ?_)
  · refine zc_iconst (pc := 25) (-1 : Int32) dX11_fetch_25 (by decide) ?_
    exact zc_iretK (pc := 26) dX11_fetch_26 rfl ⟨_, rfl, rfl⟩
  · refine zc_iload_n (pc := 13) dX11_fetch_13 rfl rfl ?_
    refine zc_i2l (pc := 14) dX11_fetch_14 ?_
    refine zc_lconst (pc := 15) (0 : Int64) dX11_fetch_15 (by decide) ?_
    refine zc_ldc2 (pc := 16) dX11_fetch_16 zw_1127 ?_
    refine zc_callIp (pc := 19) [.long x2.toInt64, .long (0 : Int64), .long (60 : Int64)] rfl (zc_runS zo_X11_in ⟨Nat.le_of_ble_eq_true rfl, Nat.le_of_ble_eq_true rfl⟩ zw_1071 zw_1072 rfl dX11_fetch_19) (Nat.le_of_ble_eq_true rfl) (fun _ hr => zt_X11_in x2.toInt64 (0 : Int64) (60 : Int64) h1 hr) (fun r3 => ?_)
    refine zc_if_ne (pc := 22) 27 dX11_fetch_22 (by decide) (fun _ => ?_) (fun _ => ?_)
    · refine zc_iconst (pc := 25) (-1 : Int32) dX11_fetch_25 (by decide) ?_
      exact zc_iretK (pc := 26) dX11_fetch_26 rfl ⟨_, rfl, rfl⟩
    · refine zc_bipush (pc := 27) (-4 : Int32) dX11_fetch_27 (by decide) ?_
      refine zc_istore_n (pc := 29) dX11_fetch_29 rfl (Nat.le_of_ble_eq_true rfl) rfl (Nat.le_of_ble_eq_true rfl) ?_
      refine zc_sL (ls1 := [some (.ref 60), some (.int x1), some (.int x2), some (.int (-4 : Int32)), none, none, none]) rfl ?_
      refine zc_aload_n (pc := 30) dX11_fetch_30 rfl rfl ?_
      refine zc_callV (pc := 31) [.ref 60] rfl (zc_runV (ci := 11) (n0 := 0) (q := (RX11, TX11, 35)) zo_X11_think ⟨Nat.le_of_ble_eq_true rfl, Nat.le_of_ble_eq_true rfl⟩ zw_1095 zw_1097 zs_23 rfl (by decide) rfl rfl dX11_fetch_31) (Nat.le_of_ble_eq_true rfl) (fun _ hr => zt_X11_think h1 hr) (fun r4 => ?_)
      refine zc_aload_n (pc := 34) dX11_fetch_34 rfl rfl ?_
      refine zc_iload_n (pc := 35) dX11_fetch_35 rfl rfl ?_
      refine zc_callV (pc := 36) [.ref 60, .int x2] rfl (zc_runV (ci := 11) (n0 := 0) (q := (RX11, TX11, 35)) zo_X11_goDays ⟨Nat.le_of_ble_eq_true rfl, Nat.le_of_ble_eq_true rfl⟩ zw_1128 zw_1130 zs_30 rfl (by decide) rfl rfl dX11_fetch_36) (Nat.le_of_ble_eq_true rfl) (fun _ hr => zt_X11_goDays x2 r4 hr) (fun r5 => ?_)
      refine zc_aload_n (pc := 39) dX11_fetch_39 rfl rfl ?_
      refine zc_getC (pc := 40) zF_X11_22 rfl dX11_fetch_40 ?_
      refine zc_iload_n (pc := 43) dX11_fetch_43 rfl rfl ?_
      refine zc_guard (fun g6 => ?_)
      refine zc_aldi (pc := 44) rfl g6 dX11_fetch_44 ?_
      refine zc_letI (fun v7 _ => ?_)
      refine zc_istore (pc := 45) dX11_fetch_45 (Nat.le_of_ble_eq_true rfl) rfl (Nat.le_of_ble_eq_true rfl) ?_
      refine zc_sL (ls1 := [some (.ref 60), some (.int x1), some (.int x2), some (.int (-4 : Int32)), some (.int v7), none, none]) rfl ?_
      refine zc_aload_n (pc := 47) dX11_fetch_47 rfl rfl ?_
      refine zc_callV (pc := 48) [.ref 60] rfl (zc_runV (ci := 11) (n0 := 0) (q := (RX11, TX11, 35)) zo_X11_again ⟨Nat.le_of_ble_eq_true rfl, Nat.le_of_ble_eq_true rfl⟩ zw_1170 zw_1172 zs_39 rfl (by decide) rfl rfl dX11_fetch_48) (Nat.le_of_ble_eq_true rfl) (fun _ hr => zt_X11_again r5 hr) (fun r8 => ?_)
      refine zc_iconst (pc := 51) (0 : Int32) dX11_fetch_51 (by decide) ?_
      refine zc_istore (pc := 52) dX11_fetch_52 (Nat.le_of_ble_eq_true rfl) rfl (Nat.le_of_ble_eq_true rfl) ?_
      refine zc_sL (ls1 := [some (.ref 60), some (.int x1), some (.int x2), some (.int (-4 : Int32)), some (.int v7), some (.int (0 : Int32)), none]) rfl ?_
      refine zc_sL (ls1 := [some (.ref 60), some (.int x1), some (.int x2), some (.int (-4 : Int32)), some (.int v7), some (.int (0 : Int32)), none]) rfl ?_
      refine zc_loop 124 (fun v20 => [none, none, none, some (.int v20.1), none, none, none]) (fun v20 => []) (fun v20 => v20.2) (fun v20 => ?_) (fun k22 J21 => ?_)
      · refine zc_iload_n (pc := 124) dX11_fetch_124 rfl rfl ?_
        exact zc_iretK (pc := 125) dX11_fetch_125 rfl ⟨_, rfl, rfl⟩
      · have L24 : ∀ (fu : Nat) (y9 : Int32) (y10 : Int32) (y11 : Int32) (h12 : zHp), zc_G zM_X11_fetch zc_mI 54 [some (.ref 60), some (.int x1), some (.int x2), some (.int y9), some (.int y10), some (.int y11), none] [] h12 ((zl_X11_fetch_54 x1 x2 fu y9 y10 y11 h12).bind k22) := by
            intro fu
            induction fu with
            | zero => intros; exact zc_noneb
            | succ fu ih25 =>
              intro y9 y10 y11 h12
              unfold zl_X11_fetch_54
              refine zc_iload (pc := 54) dX11_fetch_54 rfl ?_
              refine zc_aload_n (pc := 56) dX11_fetch_56 rfl rfl ?_
              refine zc_getI (pc := 57) zF_X11_84 rfl dX11_fetch_57 ?_
              refine zc_icmp_ge (pc := 60) 124 dX11_fetch_60 (by decide) (fun _ => ?_) (fun _ => ?_)
              · refine zc_drop 0 ?_
                refine zc_drop 1 ?_
                refine zc_drop 2 ?_
                refine zc_drop 4 ?_
                refine zc_drop 5 ?_
                exact J21 (y9, h12)
              · refine zc_aload_n (pc := 63) dX11_fetch_63 rfl rfl ?_
                refine zc_getC (pc := 64) zF_X11_19 rfl dX11_fetch_64 ?_
                refine zc_iload_n (pc := 67) dX11_fetch_67 rfl rfl ?_
                refine zc_iload (pc := 68) dX11_fetch_68 rfl ?_
                refine zc_guard (fun g13 => ?_)
                refine zc_asti (pc := 70) rfl g13 dX11_fetch_70 ?_
                refine zc_letH (fun h14 _ => ?_)
                refine zc_aload_n (pc := 71) dX11_fetch_71 rfl rfl ?_
                refine zc_iload_n (pc := 72) dX11_fetch_72 rfl rfl ?_
                refine zc_callV (pc := 73) [.ref 60, .int x2] rfl (zc_runV (ci := 11) (n0 := 0) (q := (RX11, TX11, 35)) zo_X11_goDays ⟨Nat.le_of_ble_eq_true rfl, Nat.le_of_ble_eq_true rfl⟩ zw_1128 zw_1130 zs_30 rfl (by decide) rfl rfl dX11_fetch_73) (Nat.le_of_ble_eq_true rfl) (fun _ hr => zt_X11_goDays x2 h14 hr) (fun r15 => ?_)
                refine zc_aload_n (pc := 76) dX11_fetch_76 rfl rfl ?_
                refine zc_getC (pc := 77) zF_X11_22 rfl dX11_fetch_77 ?_
                refine zc_iload_n (pc := 80) dX11_fetch_80 rfl rfl ?_
                refine zc_guard (fun g16 => ?_)
                refine zc_aldi (pc := 81) rfl g16 dX11_fetch_81 ?_
                refine zc_letI (fun v17 _ => ?_)
                refine zc_istore (pc := 82) dX11_fetch_82 (Nat.le_of_ble_eq_true rfl) rfl (Nat.le_of_ble_eq_true rfl) ?_
                refine zc_sL (ls1 := [some (.ref 60), some (.int x1), some (.int x2), some (.int y9), some (.int y10), some (.int y11), some (.int v17)]) rfl ?_
                refine zc_aload_n (pc := 84) dX11_fetch_84 rfl rfl ?_
                refine zc_callV (pc := 85) [.ref 60] rfl (zc_runV (ci := 11) (n0 := 0) (q := (RX11, TX11, 35)) zo_X11_again ⟨Nat.le_of_ble_eq_true rfl, Nat.le_of_ble_eq_true rfl⟩ zw_1170 zw_1172 zs_39 rfl (by decide) rfl rfl dX11_fetch_85) (Nat.le_of_ble_eq_true rfl) (fun _ hr => zt_X11_again r15 hr) (fun r18 => ?_)
                refine zc_iload (pc := 88) dX11_fetch_88 rfl ?_
                refine zc_iload (pc := 90) dX11_fetch_90 rfl ?_
                refine zc_join 101 (fun v19 => [some (.ref 60), some (.int x1), some (.int x2), none, some (.int y10), some (.int y11), some (.int v17)]) (fun v19 => [.int v19]) (fun v19 => r18) (fun v19 => ?_) (fun J26 => ?_)
                · refine zc_istore_n (pc := 101) dX11_fetch_101 rfl (Nat.le_of_ble_eq_true rfl) rfl (Nat.le_of_ble_eq_true rfl) ?_
                  refine zc_sL (ls1 := [some (.ref 60), some (.int x1), some (.int x2), some (.int v19), some (.int y10), some (.int y11), some (.int v17)]) rfl ?_
                  refine zc_iload (pc := 102) dX11_fetch_102 rfl ?_
                  refine zc_iload (pc := 104) dX11_fetch_104 rfl ?_
                  refine zc_icmp_le (pc := 106) 114 dX11_fetch_106 (by decide) (fun _ => ?_) (fun _ => ?_)
                  · refine zc_iload (pc := 114) dX11_fetch_114 rfl ?_
                    refine zc_istore (pc := 116) dX11_fetch_116 (Nat.le_of_ble_eq_true rfl) rfl (Nat.le_of_ble_eq_true rfl) ?_
                    refine zc_sL (ls1 := [some (.ref 60), some (.int x1), some (.int x2), some (.int v19), some (.int y10), some (.int y11), some (.int v17)]) rfl ?_
                    refine zc_iinc (pc := 118) (1 : Int32) dX11_fetch_118 (by decide) rfl (Nat.le_of_ble_eq_true rfl) rfl ?_
                    refine zc_sL (ls1 := [some (.ref 60), some (.int x1), some (.int x2), some (.int v19), some (.int y10), some (.int (y11 + (1 : Int32))), some (.int v17)]) rfl ?_
                    refine zc_goto (pc := 121) 54 dX11_fetch_121 (by decide) ?_
                    refine zc_drop 6 ?_
                    exact ih25 v19 y10 (y11 + (1 : Int32)) r18
                  · refine zc_iload (pc := 109) dX11_fetch_109 rfl ?_
                    refine zc_goto (pc := 111) 116 dX11_fetch_111 (by decide) ?_
                    refine zc_istore (pc := 116) dX11_fetch_116 (Nat.le_of_ble_eq_true rfl) rfl (Nat.le_of_ble_eq_true rfl) ?_
                    refine zc_sL (ls1 := [some (.ref 60), some (.int x1), some (.int x2), some (.int v19), some (.int v17), some (.int y11), some (.int v17)]) rfl ?_
                    refine zc_iinc (pc := 118) (1 : Int32) dX11_fetch_118 (by decide) rfl (Nat.le_of_ble_eq_true rfl) rfl ?_
                    refine zc_sL (ls1 := [some (.ref 60), some (.int x1), some (.int x2), some (.int v19), some (.int v17), some (.int (y11 + (1 : Int32))), some (.int v17)]) rfl ?_
                    refine zc_goto (pc := 121) 54 dX11_fetch_121 (by decide) ?_
                    refine zc_drop 6 ?_
                    exact ih25 v19 v17 (y11 + (1 : Int32)) r18
                · refine zc_icmp_le (pc := 92) 100 dX11_fetch_92 (by decide) (fun _ => ?_) (fun _ => ?_)
                  · refine zc_iload_n (pc := 100) dX11_fetch_100 rfl rfl ?_
                    refine zc_drop 3 ?_
                    exact J26 y9
                  · refine zc_iload (pc := 95) dX11_fetch_95 rfl ?_
                    refine zc_goto (pc := 97) 101 dX11_fetch_97 (by decide) ?_
                    refine zc_drop 3 ?_
                    exact J26 y11
        exact L24 zFU (-4 : Int32) v7 (0 : Int32) r8
def zl_X11_stepBest_30 (x1 : Int32) : Nat → Int32 → Int32 → Int32 → zHp → Option (Int32 × zHp)
  | 0, _, _, _, _ => none
  | fu + 1, y4, y5, y6, h7 => (if (6 : Int32) ≤ y6 then some (y4, h7) else ((some (zc_ui h7 60 1 y6) : Option zHp).bind (fun h8 => ((zf_X11_goDays x1 h8).bind (fun r9 => ((zf_X11_allStock r9).bind (fun r10 => ((zf_X11_again r9).bind (fun r11 => (((if r10 ≤ y5 then some y4 else some y6) : Option Int32).bind (fun v12 => (if r10 ≤ y5 then zl_X11_stepBest_30 x1 fu v12 y5 (y6 + (1 : Int32)) r11 else zl_X11_stepBest_30 x1 fu v12 r10 (y6 + (1 : Int32)) r11))))))))))))
def zf_X11_stepBest (x1 : Int32) (h : zHp) : Option (Int32 × zHp) :=
  ((some (zc_ui h 60 17 (0 : Int32)) : Option zHp).bind (fun h1 => ((zf_X11_in x1.toInt64 (0 : Int64) (60 : Int64)).bind (fun r2 => (if r2 = 0 then some ((-1 : Int32), h1) else ((zf_X11_think h1).bind (fun r3 => ((zl_X11_stepBest_30 x1 zFU (0 : Int32) (-1 : Int32) (0 : Int32) r3).bind (fun v13 => some (v13.1, v13.2))))))))))
set_option maxRecDepth 100000 in
set_option maxHeartbeats 4000000 in
theorem zt_X11_stepBest (x1 : Int32) (h : zHp) {r : (Int32 × zHp)} (hr : (zf_X11_stepBest x1 h) = some r) : zc_Cn zM_X11_stepBest [.ref 60, .int x1] h (zc_mI r) := by
  refine zc_meth (mk := zc_mI) (o := (zf_X11_stepBest x1 h)) (by decide +kernel) (Nat.le_of_ble_eq_true rfl) ?_ hr
  unfold zf_X11_stepBest
  refine zc_sL (ls1 := [some (.ref 60), some (.int x1), none, none, none, none]) rfl ?_
  refine zc_aload_n (pc := 0) dX11_stepBest_0 rfl rfl ?_
  refine zc_iconst (pc := 1) (0 : Int32) dX11_stepBest_1 (by decide) ?_
  refine zc_putI (pc := 2) zF_X11_68 rfl dX11_stepBest_2 ?_
  refine zc_letH (fun h1 _ => ?_)
  refine zc_iload_n (pc := 5) dX11_stepBest_5 rfl rfl ?_
  refine zc_i2l (pc := 6) dX11_stepBest_6 ?_
  refine zc_lconst (pc := 7) (0 : Int64) dX11_stepBest_7 (by decide) ?_
  refine zc_ldc2 (pc := 8) dX11_stepBest_8 zw_1127 ?_
  refine zc_callIp (pc := 11) [.long x1.toInt64, .long (0 : Int64), .long (60 : Int64)] rfl (zc_runS zo_X11_in ⟨Nat.le_of_ble_eq_true rfl, Nat.le_of_ble_eq_true rfl⟩ zw_1071 zw_1072 rfl dX11_stepBest_11) (Nat.le_of_ble_eq_true rfl) (fun _ hr => zt_X11_in x1.toInt64 (0 : Int64) (60 : Int64) h1 hr) (fun r2 => ?_)
  refine zc_if_ne (pc := 14) 19 dX11_stepBest_14 (by decide) (fun _ => ?_) (fun _ => ?_)
  · refine zc_iconst (pc := 17) (-1 : Int32) dX11_stepBest_17 (by decide) ?_
    exact zc_iretK (pc := 18) dX11_stepBest_18 rfl ⟨_, rfl, rfl⟩
  · refine zc_iconst (pc := 19) (0 : Int32) dX11_stepBest_19 (by decide) ?_
    refine zc_istore_n (pc := 20) dX11_stepBest_20 rfl (Nat.le_of_ble_eq_true rfl) rfl (Nat.le_of_ble_eq_true rfl) ?_
    refine zc_sL (ls1 := [some (.ref 60), some (.int x1), some (.int (0 : Int32)), none, none, none]) rfl ?_
    refine zc_iconst (pc := 21) (-1 : Int32) dX11_stepBest_21 (by decide) ?_
    refine zc_istore_n (pc := 22) dX11_stepBest_22 rfl (Nat.le_of_ble_eq_true rfl) rfl (Nat.le_of_ble_eq_true rfl) ?_
    refine zc_sL (ls1 := [some (.ref 60), some (.int x1), some (.int (0 : Int32)), some (.int (-1 : Int32)), none, none]) rfl ?_
    refine zc_aload_n (pc := 23) dX11_stepBest_23 rfl rfl ?_
    refine zc_callV (pc := 24) [.ref 60] rfl (zc_runV (ci := 11) (n0 := 0) (q := (RX11, TX11, 35)) zo_X11_think ⟨Nat.le_of_ble_eq_true rfl, Nat.le_of_ble_eq_true rfl⟩ zw_1095 zw_1097 zs_23 rfl (by decide) rfl rfl dX11_stepBest_24) (Nat.le_of_ble_eq_true rfl) (fun _ hr => zt_X11_think h1 hr) (fun r3 => ?_)
    refine zc_iconst (pc := 27) (0 : Int32) dX11_stepBest_27 (by decide) ?_
    refine zc_istore (pc := 28) dX11_stepBest_28 (Nat.le_of_ble_eq_true rfl) rfl (Nat.le_of_ble_eq_true rfl) ?_
    refine zc_sL (ls1 := [some (.ref 60), some (.int x1), some (.int (0 : Int32)), some (.int (-1 : Int32)), some (.int (0 : Int32)), none]) rfl ?_
    refine zc_sL (ls1 := [some (.ref 60), some (.int x1), some (.int (0 : Int32)), some (.int (-1 : Int32)), some (.int (0 : Int32)), none]) rfl ?_
    refine zc_loop 90 (fun v13 => [none, none, some (.int v13.1), none, none, none]) (fun v13 => []) (fun v13 => v13.2) (fun v13 => ?_) (fun k15 J14 => ?_)
    · refine zc_iload_n (pc := 90) dX11_stepBest_90 rfl rfl ?_
      exact zc_iretK (pc := 91) dX11_stepBest_91 rfl ⟨_, rfl, rfl⟩
    · have L17 : ∀ (fu : Nat) (y4 : Int32) (y5 : Int32) (y6 : Int32) (h7 : zHp), zc_G zM_X11_stepBest zc_mI 30 [some (.ref 60), some (.int x1), some (.int y4), some (.int y5), some (.int y6), none] [] h7 ((zl_X11_stepBest_30 x1 fu y4 y5 y6 h7).bind k15) := by
          intro fu
          induction fu with
          | zero => intros; exact zc_noneb
          | succ fu ih18 =>
            intro y4 y5 y6 h7
            unfold zl_X11_stepBest_30
            refine zc_iload (pc := 30) dX11_stepBest_30 rfl ?_
            refine zc_bipush (pc := 32) (6 : Int32) dX11_stepBest_32 (by decide) ?_
            refine zc_icmp_ge (pc := 34) 90 dX11_stepBest_34 (by decide) (fun _ => ?_) (fun _ => ?_)
            · refine zc_drop 0 ?_
              refine zc_drop 1 ?_
              refine zc_drop 3 ?_
              refine zc_drop 4 ?_
              exact J14 (y4, h7)
            · refine zc_aload_n (pc := 37) dX11_stepBest_37 rfl rfl ?_
              refine zc_iload (pc := 38) dX11_stepBest_38 rfl ?_
              refine zc_putI (pc := 40) zF_X11_72 rfl dX11_stepBest_40 ?_
              refine zc_letH (fun h8 _ => ?_)
              refine zc_aload_n (pc := 43) dX11_stepBest_43 rfl rfl ?_
              refine zc_iload_n (pc := 44) dX11_stepBest_44 rfl rfl ?_
              refine zc_callV (pc := 45) [.ref 60, .int x1] rfl (zc_runV (ci := 11) (n0 := 0) (q := (RX11, TX11, 35)) zo_X11_goDays ⟨Nat.le_of_ble_eq_true rfl, Nat.le_of_ble_eq_true rfl⟩ zw_1128 zw_1130 zs_30 rfl (by decide) rfl rfl dX11_stepBest_45) (Nat.le_of_ble_eq_true rfl) (fun _ hr => zt_X11_goDays x1 h8 hr) (fun r9 => ?_)
              refine zc_aload_n (pc := 48) dX11_stepBest_48 rfl rfl ?_
              refine zc_callIp (pc := 49) [.ref 60] rfl (zc_runV (ci := 11) (n0 := 0) (q := (RX11, TX11, 35)) zo_X11_allStock ⟨Nat.le_of_ble_eq_true rfl, Nat.le_of_ble_eq_true rfl⟩ zw_1221 zw_1223 zs_41 rfl (by decide) rfl rfl dX11_stepBest_49) (Nat.le_of_ble_eq_true rfl) (fun _ hr => zt_X11_allStock r9 hr) (fun r10 => ?_)
              refine zc_istore (pc := 52) dX11_stepBest_52 (Nat.le_of_ble_eq_true rfl) rfl (Nat.le_of_ble_eq_true rfl) ?_
              refine zc_sL (ls1 := [some (.ref 60), some (.int x1), some (.int y4), some (.int y5), some (.int y6), some (.int r10)]) rfl ?_
              refine zc_aload_n (pc := 54) dX11_stepBest_54 rfl rfl ?_
              refine zc_callV (pc := 55) [.ref 60] rfl (zc_runV (ci := 11) (n0 := 0) (q := (RX11, TX11, 35)) zo_X11_again ⟨Nat.le_of_ble_eq_true rfl, Nat.le_of_ble_eq_true rfl⟩ zw_1170 zw_1172 zs_39 rfl (by decide) rfl rfl dX11_stepBest_55) (Nat.le_of_ble_eq_true rfl) (fun _ hr => zt_X11_again r9 hr) (fun r11 => ?_)
              refine zc_iload (pc := 58) dX11_stepBest_58 rfl ?_
              refine zc_iload_n (pc := 60) dX11_stepBest_60 rfl rfl ?_
              refine zc_join 70 (fun v12 => [some (.ref 60), some (.int x1), none, some (.int y5), some (.int y6), some (.int r10)]) (fun v12 => [.int v12]) (fun v12 => r11) (fun v12 => ?_) (fun J19 => ?_)
              · refine zc_istore_n (pc := 70) dX11_stepBest_70 rfl (Nat.le_of_ble_eq_true rfl) rfl (Nat.le_of_ble_eq_true rfl) ?_
                refine zc_sL (ls1 := [some (.ref 60), some (.int x1), some (.int v12), some (.int y5), some (.int y6), some (.int r10)]) rfl ?_
                refine zc_iload (pc := 71) dX11_stepBest_71 rfl ?_
                refine zc_iload_n (pc := 73) dX11_stepBest_73 rfl rfl ?_
                refine zc_icmp_le (pc := 74) 82 dX11_stepBest_74 (by decide) (fun _ => ?_) (fun _ => ?_)
                · refine zc_iload_n (pc := 82) dX11_stepBest_82 rfl rfl ?_
                  refine zc_istore_n (pc := 83) dX11_stepBest_83 rfl (Nat.le_of_ble_eq_true rfl) rfl (Nat.le_of_ble_eq_true rfl) ?_
                  refine zc_sL (ls1 := [some (.ref 60), some (.int x1), some (.int v12), some (.int y5), some (.int y6), some (.int r10)]) rfl ?_
                  refine zc_iinc (pc := 84) (1 : Int32) dX11_stepBest_84 (by decide) rfl (Nat.le_of_ble_eq_true rfl) rfl ?_
                  refine zc_sL (ls1 := [some (.ref 60), some (.int x1), some (.int v12), some (.int y5), some (.int (y6 + (1 : Int32))), some (.int r10)]) rfl ?_
                  refine zc_goto (pc := 87) 30 dX11_stepBest_87 (by decide) ?_
                  refine zc_drop 5 ?_
                  exact ih18 v12 y5 (y6 + (1 : Int32)) r11
                · refine zc_iload (pc := 77) dX11_stepBest_77 rfl ?_
                  refine zc_goto (pc := 79) 83 dX11_stepBest_79 (by decide) ?_
                  refine zc_istore_n (pc := 83) dX11_stepBest_83 rfl (Nat.le_of_ble_eq_true rfl) rfl (Nat.le_of_ble_eq_true rfl) ?_
                  refine zc_sL (ls1 := [some (.ref 60), some (.int x1), some (.int v12), some (.int r10), some (.int y6), some (.int r10)]) rfl ?_
                  refine zc_iinc (pc := 84) (1 : Int32) dX11_stepBest_84 (by decide) rfl (Nat.le_of_ble_eq_true rfl) rfl ?_
                  refine zc_sL (ls1 := [some (.ref 60), some (.int x1), some (.int v12), some (.int r10), some (.int (y6 + (1 : Int32))), some (.int r10)]) rfl ?_
                  refine zc_goto (pc := 87) 30 dX11_stepBest_87 (by decide) ?_
                  refine zc_drop 5 ?_
                  exact ih18 v12 r10 (y6 + (1 : Int32)) r11
              · refine zc_icmp_le (pc := 61) 69 dX11_stepBest_61 (by decide) (fun _ => ?_) (fun _ => ?_)
                · refine zc_iload_n (pc := 69) dX11_stepBest_69 rfl rfl ?_
                  refine zc_drop 2 ?_
                  exact J19 y4
                · refine zc_iload (pc := 64) dX11_stepBest_64 rfl ?_
                  refine zc_goto (pc := 66) 70 dX11_stepBest_66 (by decide) ?_
                  refine zc_drop 2 ?_
                  exact J19 y6
      exact L17 zFU (0 : Int32) (-1 : Int32) (0 : Int32) r3
def zl_X11_layMatch_36 (y1 : Int32) (y3 : Int32) (h4 : zHp) : Nat → Int32 → Int32 → Option Int32
  | 0, _, _ => none
  | fu + 1, y6, y7 => (if (h4.1 60 3) ≤ y7 then some y6 else (if (h4.1 60 3) ≤ y1 then some y6 else (if y7 = y1 then zl_X11_layMatch_36 y1 y3 h4 fu y6 (y7 + (1 : Int32)) else ((zf_X11_hasBit y3 y7).bind (fun r8 => (if r8 = 0 then (if zc_ix y7 7 then ((zf_X11_wayOf y1 (h4.1 63 y7.toNatClampNeg) h4).bind (fun r10 => (if zc_ix (((128 : Int32) * (y1 + (1 : Int32))) + (y3 ||| ((1 : Int32) <<< (y7 &&& 31)))) 1024 then ((some (r10 + (h4.1 77 (((128 : Int32) * (y1 + (1 : Int32))) + (y3 ||| ((1 : Int32) <<< (y7 &&& 31)))).toNatClampNeg)) : Option Int32).bind (fun v12 => (if y6 ≤ v12 then zl_X11_layMatch_36 y1 y3 h4 fu y6 (y7 + (1 : Int32)) else zl_X11_layMatch_36 y1 y3 h4 fu v12 (y7 + (1 : Int32))))) else none))) else none) else zl_X11_layMatch_36 y1 y3 h4 fu y6 (y7 + (1 : Int32))))))))
def zl_X11_layMatch_11 (y1 : Int32) : Nat → Int32 → zHp → Option zHp
  | 0, _, _ => none
  | fu + 1, y3, h4 => (if (128 : Int32) ≤ y3 then some h4 else (((if y1 = (h4.1 60 3) then some (0 : Int32) else some (99999 : Int32)) : Option Int32).bind (fun v5 => ((zl_X11_layMatch_36 y1 y3 h4 zFU v5 (0 : Int32)).bind (fun v13 => (if zc_ix (((128 : Int32) * y1) + y3) 1024 then ((some (zc_ui h4 77 (((128 : Int32) * y1) + y3).toNatClampNeg v13) : Option zHp).bind (fun h15 => zl_X11_layMatch_11 y1 fu (y3 + (1 : Int32)) h15)) else none))))))
def zl_X11_layMatch_5  : Nat → Int32 → zHp → Option zHp
  | 0, _, _ => none
  | fu + 1, y1, h2 => (if y1 < 0 then some h2 else ((zl_X11_layMatch_11 y1 zFU (0 : Int32) h2).bind (fun v16 => zl_X11_layMatch_5 fu (y1 + (-1 : Int32)) v16)))
def zf_X11_layMatch (h : zHp) : Option zHp :=
  ((zl_X11_layMatch_5 zFU (h.1 60 3) h).bind (fun v17 => some v17))
set_option maxRecDepth 100000 in
set_option maxHeartbeats 4000000 in
theorem zt_X11_layMatch (h : zHp) {r : zHp} (hr : (zf_X11_layMatch h) = some r) : zc_Cn zM_X11_layMatch [.ref 60] h (zc_mV r) := by
  refine zc_meth (mk := zc_mV) (o := (zf_X11_layMatch h)) (by decide +kernel) (Nat.le_of_ble_eq_true rfl) ?_ hr
  unfold zf_X11_layMatch
  refine zc_sL (ls1 := [some (.ref 60), none, none, none, none, none]) rfl ?_
  refine zc_aload_n (pc := 0) dX11_layMatch_0 rfl rfl ?_
  refine zc_getI (pc := 1) zF_X11_84 rfl dX11_layMatch_1 ?_
  refine zc_istore_n (pc := 4) dX11_layMatch_4 rfl (Nat.le_of_ble_eq_true rfl) rfl (Nat.le_of_ble_eq_true rfl) ?_
  refine zc_sL (ls1 := [some (.ref 60), some (.int (h.1 60 3)), none, none, none, none]) rfl ?_
  refine zc_sL (ls1 := [some (.ref 60), some (.int (h.1 60 3)), none, none, none, none]) rfl ?_
  refine zc_loop 146 (fun v17 => [none, none, none, none, none, none]) (fun v17 => []) (fun v17 => v17) (fun v17 => ?_) (fun k19 J18 => ?_)
  · exact zc_vretK (pc := 146) dX11_layMatch_146 rfl ⟨_, rfl, rfl⟩
  · have L21 : ∀ (fu : Nat) (y1 : Int32) (h2 : zHp), zc_G zM_X11_layMatch zc_mV 5 [some (.ref 60), some (.int y1), none, none, none, none] [] h2 ((zl_X11_layMatch_5 fu y1 h2).bind k19) := by
        intro fu
        induction fu with
        | zero => intros; exact zc_noneb
        | succ fu ih22 =>
          intro y1 h2
          unfold zl_X11_layMatch_5
          refine zc_iload_n (pc := 5) dX11_layMatch_5 rfl rfl ?_
          refine zc_if_lt (pc := 6) 146 dX11_layMatch_6 (by decide) (fun _ => ?_) (fun _ => ?_)
          · refine zc_drop 0 ?_
            refine zc_drop 1 ?_
            exact J18 h2
          · refine zc_iconst (pc := 9) (0 : Int32) dX11_layMatch_9 (by decide) ?_
            refine zc_istore_n (pc := 10) dX11_layMatch_10 rfl (Nat.le_of_ble_eq_true rfl) rfl (Nat.le_of_ble_eq_true rfl) ?_
            refine zc_sL (ls1 := [some (.ref 60), some (.int y1), some (.int (0 : Int32)), none, none, none]) rfl ?_
            refine zc_sL (ls1 := [some (.ref 60), some (.int y1), some (.int (0 : Int32)), none, none, none]) rfl ?_
            refine zc_loop 140 (fun v16 => [some (.ref 60), some (.int y1), none, none, none, none]) (fun v16 => []) (fun v16 => v16) (fun v16 => ?_) (fun k24 J23 => ?_)
            · refine zc_iinc (pc := 140) (-1 : Int32) dX11_layMatch_140 (by decide) rfl (Nat.le_of_ble_eq_true rfl) rfl ?_
              refine zc_sL (ls1 := [some (.ref 60), some (.int (y1 + (-1 : Int32))), none, none, none, none]) rfl ?_
              refine zc_goto (pc := 143) 5 dX11_layMatch_143 (by decide) ?_
              exact ih22 (y1 + (-1 : Int32)) v16
            · have L26 : ∀ (fu : Nat) (y3 : Int32) (h4 : zHp), zc_G zM_X11_layMatch zc_mV 11 [some (.ref 60), some (.int y1), some (.int y3), none, none, none] [] h4 ((zl_X11_layMatch_11 y1 fu y3 h4).bind k24) := by
                  intro fu
                  induction fu with
                  | zero => intros; exact zc_noneb
                  | succ fu ih27 =>
                    intro y3 h4
                    unfold zl_X11_layMatch_11
                    refine zc_iload_n (pc := 11) dX11_layMatch_11 rfl rfl ?_
                    refine zc_sipush (pc := 12) (128 : Int32) dX11_layMatch_12 (by decide) ?_
                    refine zc_icmp_ge (pc := 15) 140 dX11_layMatch_15 (by decide) (fun _ => ?_) (fun _ => ?_)
                    · refine zc_drop 2 ?_
                      exact J23 h4
                    · refine zc_iload_n (pc := 18) dX11_layMatch_18 rfl rfl ?_
                      refine zc_aload_n (pc := 19) dX11_layMatch_19 rfl rfl ?_
                      refine zc_getI (pc := 20) zF_X11_84 rfl dX11_layMatch_20 ?_
                      refine zc_join 32 (fun v5 => [some (.ref 60), some (.int y1), some (.int y3), none, none, none]) (fun v5 => [.int v5]) (fun v5 => h4) (fun v5 => ?_) (fun J28 => ?_)
                      · refine zc_istore_n (pc := 32) dX11_layMatch_32 rfl (Nat.le_of_ble_eq_true rfl) rfl (Nat.le_of_ble_eq_true rfl) ?_
                        refine zc_sL (ls1 := [some (.ref 60), some (.int y1), some (.int y3), some (.int v5), none, none]) rfl ?_
                        refine zc_iconst (pc := 33) (0 : Int32) dX11_layMatch_33 (by decide) ?_
                        refine zc_istore (pc := 34) dX11_layMatch_34 (Nat.le_of_ble_eq_true rfl) rfl (Nat.le_of_ble_eq_true rfl) ?_
                        refine zc_sL (ls1 := [some (.ref 60), some (.int y1), some (.int y3), some (.int v5), some (.int (0 : Int32)), none]) rfl ?_
                        refine zc_sL (ls1 := [some (.ref 60), some (.int y1), some (.int y3), some (.int v5), some (.int (0 : Int32)), none]) rfl ?_
                        refine zc_loop 121 (fun v13 => [some (.ref 60), some (.int y1), some (.int y3), some (.int v13), none, none]) (fun v13 => []) (fun v13 => h4) (fun v13 => ?_) (fun k30 J29 => ?_)
                        · refine zc_aload_n (pc := 121) dX11_layMatch_121 rfl rfl ?_
                          refine zc_getC (pc := 122) zF_X11_59 rfl dX11_layMatch_122 ?_
                          refine zc_sipush (pc := 125) (128 : Int32) dX11_layMatch_125 (by decide) ?_
                          refine zc_iload_n (pc := 128) dX11_layMatch_128 rfl rfl ?_
                          refine zc_imul (pc := 129) dX11_layMatch_129 ?_
                          refine zc_iload_n (pc := 130) dX11_layMatch_130 rfl rfl ?_
                          refine zc_iadd (pc := 131) dX11_layMatch_131 ?_
                          refine zc_iload_n (pc := 132) dX11_layMatch_132 rfl rfl ?_
                          refine zc_guard (fun g14 => ?_)
                          refine zc_asti (pc := 133) rfl g14 dX11_layMatch_133 ?_
                          refine zc_letH (fun h15 _ => ?_)
                          refine zc_iinc (pc := 134) (1 : Int32) dX11_layMatch_134 (by decide) rfl (Nat.le_of_ble_eq_true rfl) rfl ?_
                          refine zc_sL (ls1 := [some (.ref 60), some (.int y1), some (.int (y3 + (1 : Int32))), some (.int v13), none, none]) rfl ?_
                          refine zc_goto (pc := 137) 11 dX11_layMatch_137 (by decide) ?_
                          refine zc_drop 3 ?_
                          exact ih27 (y3 + (1 : Int32)) h15
                        · have L32 : ∀ (fu : Nat) (y6 : Int32) (y7 : Int32), zc_G zM_X11_layMatch zc_mV 36 [some (.ref 60), some (.int y1), some (.int y3), some (.int y6), some (.int y7), none] [] h4 ((zl_X11_layMatch_36 y1 y3 h4 fu y6 y7).bind k30) := by
                              intro fu
                              induction fu with
                              | zero => intros; exact zc_noneb
                              | succ fu ih33 =>
                                intro y6 y7
                                unfold zl_X11_layMatch_36
                                refine zc_iload (pc := 36) dX11_layMatch_36 rfl ?_
                                refine zc_aload_n (pc := 38) dX11_layMatch_38 rfl rfl ?_
                                refine zc_getI (pc := 39) zF_X11_84 rfl dX11_layMatch_39 ?_
                                refine zc_icmp_ge (pc := 42) 121 dX11_layMatch_42 (by decide) (fun _ => ?_) (fun _ => ?_)
                                · refine zc_drop 4 ?_
                                  exact J29 y6
                                · refine zc_iload_n (pc := 45) dX11_layMatch_45 rfl rfl ?_
                                  refine zc_aload_n (pc := 46) dX11_layMatch_46 rfl rfl ?_
                                  refine zc_getI (pc := 47) zF_X11_84 rfl dX11_layMatch_47 ?_
                                  refine zc_icmp_ge (pc := 50) 121 dX11_layMatch_50 (by decide) (fun _ => ?_) (fun _ => ?_)
                                  · refine zc_drop 4 ?_
                                    exact J29 y6
                                  · refine zc_iload (pc := 53) dX11_layMatch_53 rfl ?_
                                    refine zc_iload_n (pc := 55) dX11_layMatch_55 rfl rfl ?_
                                    refine zc_icmp_eq (pc := 56) 115 dX11_layMatch_56 (by decide) (fun _ => ?_) (fun _ => ?_)
                                    · refine zc_iinc (pc := 115) (1 : Int32) dX11_layMatch_115 (by decide) rfl (Nat.le_of_ble_eq_true rfl) rfl ?_
                                      refine zc_sL (ls1 := [some (.ref 60), some (.int y1), some (.int y3), some (.int y6), some (.int (y7 + (1 : Int32))), none]) rfl ?_
                                      refine zc_goto (pc := 118) 36 dX11_layMatch_118 (by decide) ?_
                                      exact ih33 y6 (y7 + (1 : Int32))
                                    · refine zc_iload_n (pc := 59) dX11_layMatch_59 rfl rfl ?_
                                      refine zc_iload (pc := 60) dX11_layMatch_60 rfl ?_
                                      refine zc_callIp (pc := 62) [.int y3, .int y7] rfl (zc_runS zo_X11_hasBit ⟨Nat.le_of_ble_eq_true rfl, Nat.le_of_ble_eq_true rfl⟩ zw_1292 zw_1293 rfl dX11_layMatch_62) (Nat.le_of_ble_eq_true rfl) (fun _ hr => zt_X11_hasBit y3 y7 h4 hr) (fun r8 => ?_)
                                      refine zc_if_ne (pc := 65) 115 dX11_layMatch_65 (by decide) (fun _ => ?_) (fun _ => ?_)
                                      · refine zc_aload_n (pc := 68) dX11_layMatch_68 rfl rfl ?_
                                        refine zc_iload_n (pc := 69) dX11_layMatch_69 rfl rfl ?_
                                        refine zc_aload_n (pc := 70) dX11_layMatch_70 rfl rfl ?_
                                        refine zc_getC (pc := 71) zF_X11_16 rfl dX11_layMatch_71 ?_
                                        refine zc_iload (pc := 74) dX11_layMatch_74 rfl ?_
                                        refine zc_guard (fun g9 => ?_)
                                        refine zc_aldi (pc := 76) rfl g9 dX11_layMatch_76 ?_
                                        refine zc_callIp (pc := 77) [.ref 60, .int y1, .int (h4.1 63 y7.toNatClampNeg)] rfl (zc_runV (ci := 11) (n0 := 0) (q := (RX11, TX11, 35)) zo_X11_wayOf ⟨Nat.le_of_ble_eq_true rfl, Nat.le_of_ble_eq_true rfl⟩ zw_1144 zw_1146 zs_34 rfl (by decide) rfl rfl dX11_layMatch_77) (Nat.le_of_ble_eq_true rfl) (fun _ hr => zt_X11_wayOf y1 (h4.1 63 y7.toNatClampNeg) h4 hr) (fun r10 => ?_)
                                        refine zc_aload_n (pc := 80) dX11_layMatch_80 rfl rfl ?_
                                        refine zc_getC (pc := 81) zF_X11_59 rfl dX11_layMatch_81 ?_
                                        refine zc_sipush (pc := 84) (128 : Int32) dX11_layMatch_84 (by decide) ?_
                                        refine zc_iload_n (pc := 87) dX11_layMatch_87 rfl rfl ?_
                                        refine zc_iconst (pc := 88) (1 : Int32) dX11_layMatch_88 (by decide) ?_
                                        refine zc_iadd (pc := 89) dX11_layMatch_89 ?_
                                        refine zc_imul (pc := 90) dX11_layMatch_90 ?_
                                        refine zc_iload_n (pc := 91) dX11_layMatch_91 rfl rfl ?_
                                        refine zc_iconst (pc := 92) (1 : Int32) dX11_layMatch_92 (by decide) ?_
                                        refine zc_iload (pc := 93) dX11_layMatch_93 rfl ?_
                                        refine zc_ishl (pc := 95) dX11_layMatch_95 ?_
                                        refine zc_ior (pc := 96) dX11_layMatch_96 ?_
                                        refine zc_iadd (pc := 97) dX11_layMatch_97 ?_
                                        refine zc_guard (fun g11 => ?_)
                                        refine zc_aldi (pc := 98) rfl g11 dX11_layMatch_98 ?_
                                        refine zc_iadd (pc := 99) dX11_layMatch_99 ?_
                                        refine zc_letI (fun v12 _ => ?_)
                                        refine zc_istore (pc := 100) dX11_layMatch_100 (Nat.le_of_ble_eq_true rfl) rfl (Nat.le_of_ble_eq_true rfl) ?_
                                        refine zc_sL (ls1 := [some (.ref 60), some (.int y1), some (.int y3), some (.int y6), some (.int y7), some (.int v12)]) rfl ?_
                                        refine zc_iload (pc := 102) dX11_layMatch_102 rfl ?_
                                        refine zc_iload_n (pc := 104) dX11_layMatch_104 rfl rfl ?_
                                        refine zc_icmp_ge (pc := 105) 113 dX11_layMatch_105 (by decide) (fun _ => ?_) (fun _ => ?_)
                                        · refine zc_iload_n (pc := 113) dX11_layMatch_113 rfl rfl ?_
                                          refine zc_istore_n (pc := 114) dX11_layMatch_114 rfl (Nat.le_of_ble_eq_true rfl) rfl (Nat.le_of_ble_eq_true rfl) ?_
                                          refine zc_sL (ls1 := [some (.ref 60), some (.int y1), some (.int y3), some (.int y6), some (.int y7), some (.int v12)]) rfl ?_
                                          refine zc_iinc (pc := 115) (1 : Int32) dX11_layMatch_115 (by decide) rfl (Nat.le_of_ble_eq_true rfl) rfl ?_
                                          refine zc_sL (ls1 := [some (.ref 60), some (.int y1), some (.int y3), some (.int y6), some (.int (y7 + (1 : Int32))), some (.int v12)]) rfl ?_
                                          refine zc_goto (pc := 118) 36 dX11_layMatch_118 (by decide) ?_
                                          refine zc_drop 5 ?_
                                          exact ih33 y6 (y7 + (1 : Int32))
                                        · refine zc_iload (pc := 108) dX11_layMatch_108 rfl ?_
                                          refine zc_goto (pc := 110) 114 dX11_layMatch_110 (by decide) ?_
                                          refine zc_istore_n (pc := 114) dX11_layMatch_114 rfl (Nat.le_of_ble_eq_true rfl) rfl (Nat.le_of_ble_eq_true rfl) ?_
                                          refine zc_sL (ls1 := [some (.ref 60), some (.int y1), some (.int y3), some (.int v12), some (.int y7), some (.int v12)]) rfl ?_
                                          refine zc_iinc (pc := 115) (1 : Int32) dX11_layMatch_115 (by decide) rfl (Nat.le_of_ble_eq_true rfl) rfl ?_
                                          refine zc_sL (ls1 := [some (.ref 60), some (.int y1), some (.int y3), some (.int v12), some (.int (y7 + (1 : Int32))), some (.int v12)]) rfl ?_
                                          refine zc_goto (pc := 118) 36 dX11_layMatch_118 (by decide) ?_
                                          refine zc_drop 5 ?_
                                          exact ih33 v12 (y7 + (1 : Int32))
                                      · refine zc_iinc (pc := 115) (1 : Int32) dX11_layMatch_115 (by decide) rfl (Nat.le_of_ble_eq_true rfl) rfl ?_
                                        refine zc_sL (ls1 := [some (.ref 60), some (.int y1), some (.int y3), some (.int y6), some (.int (y7 + (1 : Int32))), none]) rfl ?_
                                        refine zc_goto (pc := 118) 36 dX11_layMatch_118 (by decide) ?_
                                        exact ih33 y6 (y7 + (1 : Int32))
                          exact L32 zFU v5 (0 : Int32)
                      · refine zc_icmp_ne (pc := 23) 30 dX11_layMatch_23 (by decide) (fun _ => ?_) (fun _ => ?_)
                        · refine zc_iconst (pc := 26) (0 : Int32) dX11_layMatch_26 (by decide) ?_
                          refine zc_goto (pc := 27) 32 dX11_layMatch_27 (by decide) ?_
                          exact J28 (0 : Int32)
                        · refine zc_ldc (pc := 30) dX11_layMatch_30 zw_1291 ?_
                          exact J28 (99999 : Int32)
              exact L26 zFU (0 : Int32) h2
    exact L21 zFU (h.1 60 3) h
def zl_X11_matchOf_2 (x1 : Int32) (x2 : Int32) (h : zHp) : Nat → Int32 → Option Int32
  | 0, _ => none
  | fu + 1, y1 => (if y1 = x1 then zl_X11_matchOf_2 x1 x2 h fu (y1 + (1 : Int32)) else ((zf_X11_hasBit x2 y1).bind (fun r2 => (if r2 = 0 then (if zc_ix y1 7 then ((zf_X11_wayOf x1 (h.1 63 y1.toNatClampNeg) h).bind (fun r4 => (if zc_ix (((128 : Int32) * (x1 + (1 : Int32))) + (x2 ||| ((1 : Int32) <<< (y1 &&& 31)))) 1024 then (if zc_ix (((128 : Int32) * x1) + x2) 1024 then (if (r4 + (h.1 77 (((128 : Int32) * (x1 + (1 : Int32))) + (x2 ||| ((1 : Int32) <<< (y1 &&& 31)))).toNatClampNeg)) = (h.1 77 (((128 : Int32) * x1) + x2).toNatClampNeg) then some y1 else zl_X11_matchOf_2 x1 x2 h fu (y1 + (1 : Int32))) else none) else none))) else none) else zl_X11_matchOf_2 x1 x2 h fu (y1 + (1 : Int32))))))
def zf_X11_matchOf (x1 : Int32) (x2 : Int32) (h : zHp) : Option Int32 :=
  ((zl_X11_matchOf_2 x1 x2 h zFU (0 : Int32)).bind (fun v7 => some v7))
set_option maxRecDepth 100000 in
set_option maxHeartbeats 4000000 in
theorem zt_X11_matchOf (x1 : Int32) (x2 : Int32) (h : zHp) {r : Int32} (hr : (zf_X11_matchOf x1 x2 h) = some r) : zc_Cn zM_X11_matchOf [.ref 60, .int x1, .int x2] h ((fun r => zc_mI (r, h)) r) := by
  refine zc_meth (mk := (fun r => zc_mI (r, h))) (o := (zf_X11_matchOf x1 x2 h)) (by decide +kernel) (Nat.le_of_ble_eq_true rfl) ?_ hr
  unfold zf_X11_matchOf
  refine zc_sL (ls1 := [some (.ref 60), some (.int x1), some (.int x2), none]) rfl ?_
  refine zc_iconst (pc := 0) (0 : Int32) dX11_matchOf_0 (by decide) ?_
  refine zc_istore_n (pc := 1) dX11_matchOf_1 rfl (Nat.le_of_ble_eq_true rfl) rfl (Nat.le_of_ble_eq_true rfl) ?_
  refine zc_sL (ls1 := [some (.ref 60), some (.int x1), some (.int x2), some (.int (0 : Int32))]) rfl ?_
  refine zc_sL (ls1 := [some (.ref 60), some (.int x1), some (.int x2), some (.int (0 : Int32))]) rfl ?_
  refine zc_loop 66 (fun v7 => [none, none, none, some (.int v7)]) (fun v7 => []) (fun v7 => h) (fun v7 => ?_) (fun k9 J8 => ?_)
  · refine zc_iload_n (pc := 66) dX11_matchOf_66 rfl rfl ?_
    exact zc_iretK (pc := 67) dX11_matchOf_67 rfl ⟨_, rfl, rfl⟩
  · have L11 : ∀ (fu : Nat) (y1 : Int32), zc_G zM_X11_matchOf (fun r => zc_mI (r, h)) 2 [some (.ref 60), some (.int x1), some (.int x2), some (.int y1)] [] h ((zl_X11_matchOf_2 x1 x2 h fu y1).bind k9) := by
        intro fu
        induction fu with
        | zero => intros; exact zc_noneb
        | succ fu ih12 =>
          intro y1
          unfold zl_X11_matchOf_2
          refine zc_iload_n (pc := 2) dX11_matchOf_2 rfl rfl ?_
          refine zc_iload_n (pc := 3) dX11_matchOf_3 rfl rfl ?_
          refine zc_icmp_eq (pc := 4) 60 dX11_matchOf_4 (by decide) (fun _ => ?_) (fun _ => ?_)
          · refine zc_iinc (pc := 60) (1 : Int32) dX11_matchOf_60 (by decide) rfl (Nat.le_of_ble_eq_true rfl) rfl ?_
            refine zc_sL (ls1 := [some (.ref 60), some (.int x1), some (.int x2), some (.int (y1 + (1 : Int32)))]) rfl ?_
            refine zc_goto (pc := 63) 2 dX11_matchOf_63 (by decide) ?_
            exact ih12 (y1 + (1 : Int32))
          · refine zc_iload_n (pc := 7) dX11_matchOf_7 rfl rfl ?_
            refine zc_iload_n (pc := 8) dX11_matchOf_8 rfl rfl ?_
            refine zc_callIp (pc := 9) [.int x2, .int y1] rfl (zc_runS zo_X11_hasBit ⟨Nat.le_of_ble_eq_true rfl, Nat.le_of_ble_eq_true rfl⟩ zw_1292 zw_1293 rfl dX11_matchOf_9) (Nat.le_of_ble_eq_true rfl) (fun _ hr => zt_X11_hasBit x2 y1 h hr) (fun r2 => ?_)
            refine zc_if_ne (pc := 12) 60 dX11_matchOf_12 (by decide) (fun _ => ?_) (fun _ => ?_)
            · refine zc_aload_n (pc := 15) dX11_matchOf_15 rfl rfl ?_
              refine zc_iload_n (pc := 16) dX11_matchOf_16 rfl rfl ?_
              refine zc_aload_n (pc := 17) dX11_matchOf_17 rfl rfl ?_
              refine zc_getC (pc := 18) zF_X11_16 rfl dX11_matchOf_18 ?_
              refine zc_iload_n (pc := 21) dX11_matchOf_21 rfl rfl ?_
              refine zc_guard (fun g3 => ?_)
              refine zc_aldi (pc := 22) rfl g3 dX11_matchOf_22 ?_
              refine zc_callIp (pc := 23) [.ref 60, .int x1, .int (h.1 63 y1.toNatClampNeg)] rfl (zc_runV (ci := 11) (n0 := 0) (q := (RX11, TX11, 35)) zo_X11_wayOf ⟨Nat.le_of_ble_eq_true rfl, Nat.le_of_ble_eq_true rfl⟩ zw_1144 zw_1146 zs_34 rfl (by decide) rfl rfl dX11_matchOf_23) (Nat.le_of_ble_eq_true rfl) (fun _ hr => zt_X11_wayOf x1 (h.1 63 y1.toNatClampNeg) h hr) (fun r4 => ?_)
              refine zc_aload_n (pc := 26) dX11_matchOf_26 rfl rfl ?_
              refine zc_getC (pc := 27) zF_X11_59 rfl dX11_matchOf_27 ?_
              refine zc_sipush (pc := 30) (128 : Int32) dX11_matchOf_30 (by decide) ?_
              refine zc_iload_n (pc := 33) dX11_matchOf_33 rfl rfl ?_
              refine zc_iconst (pc := 34) (1 : Int32) dX11_matchOf_34 (by decide) ?_
              refine zc_iadd (pc := 35) dX11_matchOf_35 ?_
              refine zc_imul (pc := 36) dX11_matchOf_36 ?_
              refine zc_iload_n (pc := 37) dX11_matchOf_37 rfl rfl ?_
              refine zc_iconst (pc := 38) (1 : Int32) dX11_matchOf_38 (by decide) ?_
              refine zc_iload_n (pc := 39) dX11_matchOf_39 rfl rfl ?_
              refine zc_ishl (pc := 40) dX11_matchOf_40 ?_
              refine zc_ior (pc := 41) dX11_matchOf_41 ?_
              refine zc_iadd (pc := 42) dX11_matchOf_42 ?_
              refine zc_guard (fun g5 => ?_)
              refine zc_aldi (pc := 43) rfl g5 dX11_matchOf_43 ?_
              refine zc_iadd (pc := 44) dX11_matchOf_44 ?_
              refine zc_aload_n (pc := 45) dX11_matchOf_45 rfl rfl ?_
              refine zc_getC (pc := 46) zF_X11_59 rfl dX11_matchOf_46 ?_
              refine zc_sipush (pc := 49) (128 : Int32) dX11_matchOf_49 (by decide) ?_
              refine zc_iload_n (pc := 52) dX11_matchOf_52 rfl rfl ?_
              refine zc_imul (pc := 53) dX11_matchOf_53 ?_
              refine zc_iload_n (pc := 54) dX11_matchOf_54 rfl rfl ?_
              refine zc_iadd (pc := 55) dX11_matchOf_55 ?_
              refine zc_guard (fun g6 => ?_)
              refine zc_aldi (pc := 56) rfl g6 dX11_matchOf_56 ?_
              refine zc_icmp_eq (pc := 57) 66 dX11_matchOf_57 (by decide) (fun _ => ?_) (fun _ => ?_)
              · refine zc_drop 0 ?_
                refine zc_drop 1 ?_
                refine zc_drop 2 ?_
                exact J8 y1
              · refine zc_iinc (pc := 60) (1 : Int32) dX11_matchOf_60 (by decide) rfl (Nat.le_of_ble_eq_true rfl) rfl ?_
                refine zc_sL (ls1 := [some (.ref 60), some (.int x1), some (.int x2), some (.int (y1 + (1 : Int32)))]) rfl ?_
                refine zc_goto (pc := 63) 2 dX11_matchOf_63 (by decide) ?_
                exact ih12 (y1 + (1 : Int32))
            · refine zc_iinc (pc := 60) (1 : Int32) dX11_matchOf_60 (by decide) rfl (Nat.le_of_ble_eq_true rfl) rfl ?_
              refine zc_sL (ls1 := [some (.ref 60), some (.int x1), some (.int x2), some (.int (y1 + (1 : Int32)))]) rfl ?_
              refine zc_goto (pc := 63) 2 dX11_matchOf_63 (by decide) ?_
              exact ih12 (y1 + (1 : Int32))
    exact L11 zFU (0 : Int32)
def zl_X11_match_52 (x1 : Int32) (r3 : zHp) : Nat → Int32 → Int32 → Int32 → Option Int32
  | 0, _, _, _ => none
  | fu + 1, y5, y6, y7 => (if x1 < y7 then some y6 else ((zf_X11_matchOf y7 y5 r3).bind (fun r8 => ((some (y5 ||| ((1 : Int32) <<< (r8 &&& 31))) : Option Int32).bind (fun v9 => zl_X11_match_52 x1 r3 fu v9 r8 (y7 + (1 : Int32)))))))
def zf_X11_match (x1 : Int32) (h : zHp) : Option (Int32 × zHp) :=
  ((some (zc_ui h 60 17 (0 : Int32)) : Option zHp).bind (fun h1 => ((zf_X11_in x1.toInt64 (-1 : Int64) (((h1.1 60 3) - (1 : Int32)).toInt64)).bind (fun r2 => (if r2 = 0 then some ((-1 : Int32), h1) else (if (2 : Int32) ≤ (h1.1 60 3) then ((zf_X11_layMatch h1).bind (fun r3 => ((some (r3.1 77 (0 : Int32).toNatClampNeg) : Option Int32).bind (fun v4 => ((zl_X11_match_52 x1 r3 zFU (0 : Int32) v4 (0 : Int32)).bind (fun v10 => some (v10, r3))))))) else some ((-4 : Int32), h1)))))))
set_option maxRecDepth 100000 in
set_option maxHeartbeats 4000000 in
theorem zt_X11_match (x1 : Int32) (h : zHp) {r : (Int32 × zHp)} (hr : (zf_X11_match x1 h) = some r) : zc_Cn zM_X11_match [.ref 60, .int x1] h (zc_mI r) := by
  refine zc_meth (mk := zc_mI) (o := (zf_X11_match x1 h)) (by decide +kernel) (Nat.le_of_ble_eq_true rfl) ?_ hr
  unfold zf_X11_match
  refine zc_sL (ls1 := [some (.ref 60), some (.int x1), none, none, none]) rfl ?_
  refine zc_aload_n (pc := 0) dX11_match_0 rfl rfl ?_
  refine zc_iconst (pc := 1) (0 : Int32) dX11_match_1 (by decide) ?_
  refine zc_putI (pc := 2) zF_X11_68 rfl dX11_match_2 ?_
  refine zc_letH (fun h1 _ => ?_)
  refine zc_iload_n (pc := 5) dX11_match_5 rfl rfl ?_
  refine zc_i2l (pc := 6) dX11_match_6 ?_
  refine zc_ldc2 (pc := 7) dX11_match_7 zw_1246 ?_
  refine zc_aload_n (pc := 10) dX11_match_10 rfl rfl ?_
  refine zc_getI (pc := 11) zF_X11_84 rfl dX11_match_11 ?_
  refine zc_iconst (pc := 14) (1 : Int32) dX11_match_14 (by decide) ?_
  refine zc_isub (pc := 15) dX11_match_15 ?_
  refine zc_i2l (pc := 16) dX11_match_16 ?_
  refine zc_callIp (pc := 17) [.long x1.toInt64, .long (-1 : Int64), .long (((h1.1 60 3) - (1 : Int32)).toInt64)] rfl (zc_runS zo_X11_in ⟨Nat.le_of_ble_eq_true rfl, Nat.le_of_ble_eq_true rfl⟩ zw_1071 zw_1072 rfl dX11_match_17) (Nat.le_of_ble_eq_true rfl) (fun _ hr => zt_X11_in x1.toInt64 (-1 : Int64) (((h1.1 60 3) - (1 : Int32)).toInt64) h1 hr) (fun r2 => ?_)
  refine zc_if_ne (pc := 20) 25 dX11_match_20 (by decide) (fun _ => ?_) (fun _ => ?_)
  · refine zc_iconst (pc := 23) (-1 : Int32) dX11_match_23 (by decide) ?_
    exact zc_iretK (pc := 24) dX11_match_24 rfl ⟨_, rfl, rfl⟩
  · refine zc_aload_n (pc := 25) dX11_match_25 rfl rfl ?_
    refine zc_getI (pc := 26) zF_X11_84 rfl dX11_match_26 ?_
    refine zc_iconst (pc := 29) (2 : Int32) dX11_match_29 (by decide) ?_
    refine zc_icmp_ge (pc := 30) 36 dX11_match_30 (by decide) (fun _ => ?_) (fun _ => ?_)
    · refine zc_aload_n (pc := 36) dX11_match_36 rfl rfl ?_
      refine zc_callV (pc := 37) [.ref 60] rfl (zc_runV (ci := 11) (n0 := 0) (q := (RX11, TX11, 35)) zo_X11_layMatch ⟨Nat.le_of_ble_eq_true rfl, Nat.le_of_ble_eq_true rfl⟩ zw_1287 zw_1289 zs_45 rfl (by decide) rfl rfl dX11_match_37) (Nat.le_of_ble_eq_true rfl) (fun _ hr => zt_X11_layMatch h1 hr) (fun r3 => ?_)
      refine zc_iconst (pc := 40) (0 : Int32) dX11_match_40 (by decide) ?_
      refine zc_istore_n (pc := 41) dX11_match_41 rfl (Nat.le_of_ble_eq_true rfl) rfl (Nat.le_of_ble_eq_true rfl) ?_
      refine zc_sL (ls1 := [some (.ref 60), some (.int x1), some (.int (0 : Int32)), none, none]) rfl ?_
      refine zc_aload_n (pc := 42) dX11_match_42 rfl rfl ?_
      refine zc_getC (pc := 43) zF_X11_59 rfl dX11_match_43 ?_
      refine zc_iconst (pc := 46) (0 : Int32) dX11_match_46 (by decide) ?_
      refine zc_aldi (pc := 47) rfl (by decide) dX11_match_47 ?_
      refine zc_letI (fun v4 _ => ?_)
      refine zc_istore_n (pc := 48) dX11_match_48 rfl (Nat.le_of_ble_eq_true rfl) rfl (Nat.le_of_ble_eq_true rfl) ?_
      refine zc_sL (ls1 := [some (.ref 60), some (.int x1), some (.int (0 : Int32)), some (.int v4), none]) rfl ?_
      refine zc_iconst (pc := 49) (0 : Int32) dX11_match_49 (by decide) ?_
      refine zc_istore (pc := 50) dX11_match_50 (Nat.le_of_ble_eq_true rfl) rfl (Nat.le_of_ble_eq_true rfl) ?_
      refine zc_sL (ls1 := [some (.ref 60), some (.int x1), some (.int (0 : Int32)), some (.int v4), some (.int (0 : Int32))]) rfl ?_
      refine zc_sL (ls1 := [some (.ref 60), some (.int x1), some (.int (0 : Int32)), some (.int v4), some (.int (0 : Int32))]) rfl ?_
      refine zc_loop 78 (fun v10 => [none, none, none, some (.int v10), none]) (fun v10 => []) (fun v10 => r3) (fun v10 => ?_) (fun k12 J11 => ?_)
      · refine zc_iload_n (pc := 78) dX11_match_78 rfl rfl ?_
        exact zc_iretK (pc := 79) dX11_match_79 rfl ⟨_, rfl, rfl⟩
      · have L14 : ∀ (fu : Nat) (y5 : Int32) (y6 : Int32) (y7 : Int32), zc_G zM_X11_match zc_mI 52 [some (.ref 60), some (.int x1), some (.int y5), some (.int y6), some (.int y7)] [] r3 ((zl_X11_match_52 x1 r3 fu y5 y6 y7).bind k12) := by
            intro fu
            induction fu with
            | zero => intros; exact zc_noneb
            | succ fu ih15 =>
              intro y5 y6 y7
              unfold zl_X11_match_52
              refine zc_iload (pc := 52) dX11_match_52 rfl ?_
              refine zc_iload_n (pc := 54) dX11_match_54 rfl rfl ?_
              refine zc_icmp_gt (pc := 55) 78 dX11_match_55 (by decide) (fun _ => ?_) (fun _ => ?_)
              · refine zc_drop 0 ?_
                refine zc_drop 1 ?_
                refine zc_drop 2 ?_
                refine zc_drop 4 ?_
                exact J11 y6
              · refine zc_aload_n (pc := 58) dX11_match_58 rfl rfl ?_
                refine zc_iload (pc := 59) dX11_match_59 rfl ?_
                refine zc_iload_n (pc := 61) dX11_match_61 rfl rfl ?_
                refine zc_callIp (pc := 62) [.ref 60, .int y7, .int y5] rfl (zc_runV (ci := 11) (n0 := 0) (q := (RX11, TX11, 35)) zo_X11_matchOf ⟨Nat.le_of_ble_eq_true rfl, Nat.le_of_ble_eq_true rfl⟩ zw_1295 zw_1297 zs_46 rfl (by decide) rfl rfl dX11_match_62) (Nat.le_of_ble_eq_true rfl) (fun _ hr => zt_X11_matchOf y7 y5 r3 hr) (fun r8 => ?_)
                refine zc_istore_n (pc := 65) dX11_match_65 rfl (Nat.le_of_ble_eq_true rfl) rfl (Nat.le_of_ble_eq_true rfl) ?_
                refine zc_sL (ls1 := [some (.ref 60), some (.int x1), some (.int y5), some (.int r8), some (.int y7)]) rfl ?_
                refine zc_iload_n (pc := 66) dX11_match_66 rfl rfl ?_
                refine zc_iconst (pc := 67) (1 : Int32) dX11_match_67 (by decide) ?_
                refine zc_iload_n (pc := 68) dX11_match_68 rfl rfl ?_
                refine zc_ishl (pc := 69) dX11_match_69 ?_
                refine zc_ior (pc := 70) dX11_match_70 ?_
                refine zc_letI (fun v9 _ => ?_)
                refine zc_istore_n (pc := 71) dX11_match_71 rfl (Nat.le_of_ble_eq_true rfl) rfl (Nat.le_of_ble_eq_true rfl) ?_
                refine zc_sL (ls1 := [some (.ref 60), some (.int x1), some (.int v9), some (.int r8), some (.int y7)]) rfl ?_
                refine zc_iinc (pc := 72) (1 : Int32) dX11_match_72 (by decide) rfl (Nat.le_of_ble_eq_true rfl) rfl ?_
                refine zc_sL (ls1 := [some (.ref 60), some (.int x1), some (.int v9), some (.int r8), some (.int (y7 + (1 : Int32)))]) rfl ?_
                refine zc_goto (pc := 75) 52 dX11_match_75 (by decide) ?_
                exact ih15 v9 r8 (y7 + (1 : Int32))
        exact L14 zFU (0 : Int32) v4 (0 : Int32)
    · refine zc_bipush (pc := 33) (-4 : Int32) dX11_match_33 (by decide) ?_
      exact zc_iretK (pc := 35) dX11_match_35 rfl ⟨_, rfl, rfl⟩
def zl_X11_hungryMany_4 (h : zHp) : Nat → Int32 → Int32 → Option Int32
  | 0, _, _ => none
  | fu + 1, y1, y2 => (if (h.1 60 3) ≤ y2 then some y1 else (if zc_ix y2 7 then (((if (h.1 65 y2.toNatClampNeg) = 0 then some (1 : Int32) else some (0 : Int32)) : Option Int32).bind (fun v4 => zl_X11_hungryMany_4 h fu (y1 + v4) (y2 + (1 : Int32)))) else none))
def zf_X11_hungryMany (h : zHp) : Option Int32 :=
  ((zl_X11_hungryMany_4 h zFU (0 : Int32) (0 : Int32)).bind (fun v5 => some v5))
set_option maxRecDepth 100000 in
set_option maxHeartbeats 4000000 in
theorem zt_X11_hungryMany (h : zHp) {r : Int32} (hr : (zf_X11_hungryMany h) = some r) : zc_Cn zM_X11_hungryMany [.ref 60] h ((fun r => zc_mI (r, h)) r) := by
  refine zc_meth (mk := (fun r => zc_mI (r, h))) (o := (zf_X11_hungryMany h)) (by decide +kernel) (Nat.le_of_ble_eq_true rfl) ?_ hr
  unfold zf_X11_hungryMany
  refine zc_sL (ls1 := [some (.ref 60), none, none]) rfl ?_
  refine zc_iconst (pc := 0) (0 : Int32) dX11_hungryMany_0 (by decide) ?_
  refine zc_istore_n (pc := 1) dX11_hungryMany_1 rfl (Nat.le_of_ble_eq_true rfl) rfl (Nat.le_of_ble_eq_true rfl) ?_
  refine zc_sL (ls1 := [some (.ref 60), some (.int (0 : Int32)), none]) rfl ?_
  refine zc_iconst (pc := 2) (0 : Int32) dX11_hungryMany_2 (by decide) ?_
  refine zc_istore_n (pc := 3) dX11_hungryMany_3 rfl (Nat.le_of_ble_eq_true rfl) rfl (Nat.le_of_ble_eq_true rfl) ?_
  refine zc_sL (ls1 := [some (.ref 60), some (.int (0 : Int32)), some (.int (0 : Int32))]) rfl ?_
  refine zc_sL (ls1 := [some (.ref 60), some (.int (0 : Int32)), some (.int (0 : Int32))]) rfl ?_
  refine zc_loop 35 (fun v5 => [none, some (.int v5), none]) (fun v5 => []) (fun v5 => h) (fun v5 => ?_) (fun k7 J6 => ?_)
  · refine zc_iload_n (pc := 35) dX11_hungryMany_35 rfl rfl ?_
    exact zc_iretK (pc := 36) dX11_hungryMany_36 rfl ⟨_, rfl, rfl⟩
  · have L9 : ∀ (fu : Nat) (y1 : Int32) (y2 : Int32), zc_G zM_X11_hungryMany (fun r => zc_mI (r, h)) 4 [some (.ref 60), some (.int y1), some (.int y2)] [] h ((zl_X11_hungryMany_4 h fu y1 y2).bind k7) := by
        intro fu
        induction fu with
        | zero => intros; exact zc_noneb
        | succ fu ih10 =>
          intro y1 y2
          unfold zl_X11_hungryMany_4
          refine zc_iload_n (pc := 4) dX11_hungryMany_4 rfl rfl ?_
          refine zc_aload_n (pc := 5) dX11_hungryMany_5 rfl rfl ?_
          refine zc_getI (pc := 6) zF_X11_84 rfl dX11_hungryMany_6 ?_
          refine zc_icmp_ge (pc := 9) 35 dX11_hungryMany_9 (by decide) (fun _ => ?_) (fun _ => ?_)
          · refine zc_drop 0 ?_
            refine zc_drop 2 ?_
            exact J6 y1
          · refine zc_iload_n (pc := 12) dX11_hungryMany_12 rfl rfl ?_
            refine zc_aload_n (pc := 13) dX11_hungryMany_13 rfl rfl ?_
            refine zc_getC (pc := 14) zF_X11_22 rfl dX11_hungryMany_14 ?_
            refine zc_iload_n (pc := 17) dX11_hungryMany_17 rfl rfl ?_
            refine zc_guard (fun g3 => ?_)
            refine zc_aldi (pc := 18) rfl g3 dX11_hungryMany_18 ?_
            refine zc_join 27 (fun v4 => [some (.ref 60), none, some (.int y2)]) (fun v4 => [.int v4, .int y1]) (fun v4 => h) (fun v4 => ?_) (fun J11 => ?_)
            · refine zc_iadd (pc := 27) dX11_hungryMany_27 ?_
              refine zc_istore_n (pc := 28) dX11_hungryMany_28 rfl (Nat.le_of_ble_eq_true rfl) rfl (Nat.le_of_ble_eq_true rfl) ?_
              refine zc_sL (ls1 := [some (.ref 60), some (.int (y1 + v4)), some (.int y2)]) rfl ?_
              refine zc_iinc (pc := 29) (1 : Int32) dX11_hungryMany_29 (by decide) rfl (Nat.le_of_ble_eq_true rfl) rfl ?_
              refine zc_sL (ls1 := [some (.ref 60), some (.int (y1 + v4)), some (.int (y2 + (1 : Int32)))]) rfl ?_
              refine zc_goto (pc := 32) 4 dX11_hungryMany_32 (by decide) ?_
              exact ih10 (y1 + v4) (y2 + (1 : Int32))
            · refine zc_if_ne (pc := 19) 26 dX11_hungryMany_19 (by decide) (fun _ => ?_) (fun _ => ?_)
              · refine zc_iconst (pc := 22) (1 : Int32) dX11_hungryMany_22 (by decide) ?_
                refine zc_goto (pc := 23) 27 dX11_hungryMany_23 (by decide) ?_
                refine zc_drop 1 ?_
                exact J11 (1 : Int32)
              · refine zc_iconst (pc := 26) (0 : Int32) dX11_hungryMany_26 (by decide) ?_
                refine zc_drop 1 ?_
                exact J11 (0 : Int32)
    exact L9 zFU (0 : Int32) (0 : Int32)
def zl_X11_feed_43 (x1 : Int32) : Nat → Int32 → Int32 → Int32 → zHp → Option (Int32 × zHp)
  | 0, _, _, _, _ => none
  | fu + 1, y7, y8, y9, h10 => (if (h10.1 60 3) ≤ y9 then some (y7, h10) else (if zc_ix y9 7 then ((zf_X11_held ((h10.1 65 y9.toNatClampNeg) + (20 : Int32)) (99 : Int32)).bind (fun r12 => (if zc_ix y9 7 then ((some (zc_ui h10 65 y9.toNatClampNeg r12) : Option zHp).bind (fun h14 => ((zf_X11_goDays x1 h14).bind (fun r15 => ((zf_X11_hungryMany r15).bind (fun r16 => ((zf_X11_again r15).bind (fun r17 => (((if y8 ≤ r16 then some y7 else some y9) : Option Int32).bind (fun v18 => (if y8 ≤ r16 then zl_X11_feed_43 x1 fu v18 y8 (y9 + (1 : Int32)) r17 else zl_X11_feed_43 x1 fu v18 r16 (y9 + (1 : Int32)) r17))))))))))) else none))) else none))
def zf_X11_feed (x1 : Int32) (h : zHp) : Option (Int32 × zHp) :=
  ((some (zc_ui h 60 17 (0 : Int32)) : Option zHp).bind (fun h1 => ((zf_X11_in x1.toInt64 (0 : Int64) (60 : Int64)).bind (fun r2 => (if r2 = 0 then some ((-1 : Int32), h1) else ((zf_X11_think h1).bind (fun r3 => ((zf_X11_goDays x1 r3).bind (fun r4 => ((zf_X11_hungryMany r4).bind (fun r5 => ((zf_X11_again r4).bind (fun r6 => ((zl_X11_feed_43 x1 zFU (-4 : Int32) r5 (0 : Int32) r6).bind (fun v19 => some (v19.1, v19.2))))))))))))))))
set_option maxRecDepth 100000 in
set_option maxHeartbeats 4000000 in
theorem zt_X11_feed (x1 : Int32) (h : zHp) {r : (Int32 × zHp)} (hr : (zf_X11_feed x1 h) = some r) : zc_Cn zM_X11_feed [.ref 60, .int x1] h (zc_mI r) := by
  refine zc_meth (mk := zc_mI) (o := (zf_X11_feed x1 h)) (by decide +kernel) (Nat.le_of_ble_eq_true rfl) ?_ hr
  unfold zf_X11_feed
  refine zc_sL (ls1 := [some (.ref 60), some (.int x1), none, none, none, none]) rfl ?_
  refine zc_aload_n (pc := 0) dX11_feed_0 rfl rfl ?_
  refine zc_iconst (pc := 1) (0 : Int32) dX11_feed_1 (by decide) ?_
  refine zc_putI (pc := 2) zF_X11_68 rfl dX11_feed_2 ?_
  refine zc_letH (fun h1 _ => ?_)
  refine zc_iload_n (pc := 5) dX11_feed_5 rfl rfl ?_
  refine zc_i2l (pc := 6) dX11_feed_6 ?_
  refine zc_lconst (pc := 7) (0 : Int64) dX11_feed_7 (by decide) ?_
  refine zc_ldc2 (pc := 8) dX11_feed_8 zw_1127 ?_
  refine zc_callIp (pc := 11) [.long x1.toInt64, .long (0 : Int64), .long (60 : Int64)] rfl (zc_runS zo_X11_in ⟨Nat.le_of_ble_eq_true rfl, Nat.le_of_ble_eq_true rfl⟩ zw_1071 zw_1072 rfl dX11_feed_11) (Nat.le_of_ble_eq_true rfl) (fun _ hr => zt_X11_in x1.toInt64 (0 : Int64) (60 : Int64) h1 hr) (fun r2 => ?_)
  refine zc_if_ne (pc := 14) 19 dX11_feed_14 (by decide) (fun _ => ?_) (fun _ => ?_)
  · refine zc_iconst (pc := 17) (-1 : Int32) dX11_feed_17 (by decide) ?_
    exact zc_iretK (pc := 18) dX11_feed_18 rfl ⟨_, rfl, rfl⟩
  · refine zc_bipush (pc := 19) (-4 : Int32) dX11_feed_19 (by decide) ?_
    refine zc_istore_n (pc := 21) dX11_feed_21 rfl (Nat.le_of_ble_eq_true rfl) rfl (Nat.le_of_ble_eq_true rfl) ?_
    refine zc_sL (ls1 := [some (.ref 60), some (.int x1), some (.int (-4 : Int32)), none, none, none]) rfl ?_
    refine zc_aload_n (pc := 22) dX11_feed_22 rfl rfl ?_
    refine zc_callV (pc := 23) [.ref 60] rfl (zc_runV (ci := 11) (n0 := 0) (q := (RX11, TX11, 35)) zo_X11_think ⟨Nat.le_of_ble_eq_true rfl, Nat.le_of_ble_eq_true rfl⟩ zw_1095 zw_1097 zs_23 rfl (by decide) rfl rfl dX11_feed_23) (Nat.le_of_ble_eq_true rfl) (fun _ hr => zt_X11_think h1 hr) (fun r3 => ?_)
    refine zc_aload_n (pc := 26) dX11_feed_26 rfl rfl ?_
    refine zc_iload_n (pc := 27) dX11_feed_27 rfl rfl ?_
    refine zc_callV (pc := 28) [.ref 60, .int x1] rfl (zc_runV (ci := 11) (n0 := 0) (q := (RX11, TX11, 35)) zo_X11_goDays ⟨Nat.le_of_ble_eq_true rfl, Nat.le_of_ble_eq_true rfl⟩ zw_1128 zw_1130 zs_30 rfl (by decide) rfl rfl dX11_feed_28) (Nat.le_of_ble_eq_true rfl) (fun _ hr => zt_X11_goDays x1 r3 hr) (fun r4 => ?_)
    refine zc_aload_n (pc := 31) dX11_feed_31 rfl rfl ?_
    refine zc_callIp (pc := 32) [.ref 60] rfl (zc_runV (ci := 11) (n0 := 0) (q := (RX11, TX11, 35)) zo_X11_hungryMany ⟨Nat.le_of_ble_eq_true rfl, Nat.le_of_ble_eq_true rfl⟩ zw_1303 zw_1305 zs_47 rfl (by decide) rfl rfl dX11_feed_32) (Nat.le_of_ble_eq_true rfl) (fun _ hr => zt_X11_hungryMany r4 hr) (fun r5 => ?_)
    refine zc_istore_n (pc := 35) dX11_feed_35 rfl (Nat.le_of_ble_eq_true rfl) rfl (Nat.le_of_ble_eq_true rfl) ?_
    refine zc_sL (ls1 := [some (.ref 60), some (.int x1), some (.int (-4 : Int32)), some (.int r5), none, none]) rfl ?_
    refine zc_aload_n (pc := 36) dX11_feed_36 rfl rfl ?_
    refine zc_callV (pc := 37) [.ref 60] rfl (zc_runV (ci := 11) (n0 := 0) (q := (RX11, TX11, 35)) zo_X11_again ⟨Nat.le_of_ble_eq_true rfl, Nat.le_of_ble_eq_true rfl⟩ zw_1170 zw_1172 zs_39 rfl (by decide) rfl rfl dX11_feed_37) (Nat.le_of_ble_eq_true rfl) (fun _ hr => zt_X11_again r4 hr) (fun r6 => ?_)
    refine zc_iconst (pc := 40) (0 : Int32) dX11_feed_40 (by decide) ?_
    refine zc_istore (pc := 41) dX11_feed_41 (Nat.le_of_ble_eq_true rfl) rfl (Nat.le_of_ble_eq_true rfl) ?_
    refine zc_sL (ls1 := [some (.ref 60), some (.int x1), some (.int (-4 : Int32)), some (.int r5), some (.int (0 : Int32)), none]) rfl ?_
    refine zc_sL (ls1 := [some (.ref 60), some (.int x1), some (.int (-4 : Int32)), some (.int r5), some (.int (0 : Int32)), none]) rfl ?_
    refine zc_loop 121 (fun v19 => [none, none, some (.int v19.1), none, none, none]) (fun v19 => []) (fun v19 => v19.2) (fun v19 => ?_) (fun k21 J20 => ?_)
    · refine zc_iload_n (pc := 121) dX11_feed_121 rfl rfl ?_
      exact zc_iretK (pc := 122) dX11_feed_122 rfl ⟨_, rfl, rfl⟩
    · have L23 : ∀ (fu : Nat) (y7 : Int32) (y8 : Int32) (y9 : Int32) (h10 : zHp), zc_G zM_X11_feed zc_mI 43 [some (.ref 60), some (.int x1), some (.int y7), some (.int y8), some (.int y9), none] [] h10 ((zl_X11_feed_43 x1 fu y7 y8 y9 h10).bind k21) := by
          intro fu
          induction fu with
          | zero => intros; exact zc_noneb
          | succ fu ih24 =>
            intro y7 y8 y9 h10
            unfold zl_X11_feed_43
            refine zc_iload (pc := 43) dX11_feed_43 rfl ?_
            refine zc_aload_n (pc := 45) dX11_feed_45 rfl rfl ?_
            refine zc_getI (pc := 46) zF_X11_84 rfl dX11_feed_46 ?_
            refine zc_icmp_ge (pc := 49) 121 dX11_feed_49 (by decide) (fun _ => ?_) (fun _ => ?_)
            · refine zc_drop 0 ?_
              refine zc_drop 1 ?_
              refine zc_drop 3 ?_
              refine zc_drop 4 ?_
              exact J20 (y7, h10)
            · refine zc_aload_n (pc := 52) dX11_feed_52 rfl rfl ?_
              refine zc_getC (pc := 53) zF_X11_22 rfl dX11_feed_53 ?_
              refine zc_iload (pc := 56) dX11_feed_56 rfl ?_
              refine zc_aload_n (pc := 58) dX11_feed_58 rfl rfl ?_
              refine zc_getC (pc := 59) zF_X11_22 rfl dX11_feed_59 ?_
              refine zc_iload (pc := 62) dX11_feed_62 rfl ?_
              refine zc_guard (fun g11 => ?_)
              refine zc_aldi (pc := 64) rfl g11 dX11_feed_64 ?_
              refine zc_bipush (pc := 65) (20 : Int32) dX11_feed_65 (by decide) ?_
              refine zc_iadd (pc := 67) dX11_feed_67 ?_
              refine zc_bipush (pc := 68) (99 : Int32) dX11_feed_68 (by decide) ?_
              refine zc_callIp (pc := 70) [.int ((h10.1 65 y9.toNatClampNeg) + (20 : Int32)), .int (99 : Int32)] rfl (zc_runS zo_X11_held ⟨Nat.le_of_ble_eq_true rfl, Nat.le_of_ble_eq_true rfl⟩ zw_1151 zw_1152 rfl dX11_feed_70) (Nat.le_of_ble_eq_true rfl) (fun _ hr => zt_X11_held ((h10.1 65 y9.toNatClampNeg) + (20 : Int32)) (99 : Int32) h10 hr) (fun r12 => ?_)
              refine zc_guard (fun g13 => ?_)
              refine zc_asti (pc := 73) rfl g13 dX11_feed_73 ?_
              refine zc_letH (fun h14 _ => ?_)
              refine zc_aload_n (pc := 74) dX11_feed_74 rfl rfl ?_
              refine zc_iload_n (pc := 75) dX11_feed_75 rfl rfl ?_
              refine zc_callV (pc := 76) [.ref 60, .int x1] rfl (zc_runV (ci := 11) (n0 := 0) (q := (RX11, TX11, 35)) zo_X11_goDays ⟨Nat.le_of_ble_eq_true rfl, Nat.le_of_ble_eq_true rfl⟩ zw_1128 zw_1130 zs_30 rfl (by decide) rfl rfl dX11_feed_76) (Nat.le_of_ble_eq_true rfl) (fun _ hr => zt_X11_goDays x1 h14 hr) (fun r15 => ?_)
              refine zc_aload_n (pc := 79) dX11_feed_79 rfl rfl ?_
              refine zc_callIp (pc := 80) [.ref 60] rfl (zc_runV (ci := 11) (n0 := 0) (q := (RX11, TX11, 35)) zo_X11_hungryMany ⟨Nat.le_of_ble_eq_true rfl, Nat.le_of_ble_eq_true rfl⟩ zw_1303 zw_1305 zs_47 rfl (by decide) rfl rfl dX11_feed_80) (Nat.le_of_ble_eq_true rfl) (fun _ hr => zt_X11_hungryMany r15 hr) (fun r16 => ?_)
              refine zc_istore (pc := 83) dX11_feed_83 (Nat.le_of_ble_eq_true rfl) rfl (Nat.le_of_ble_eq_true rfl) ?_
              refine zc_sL (ls1 := [some (.ref 60), some (.int x1), some (.int y7), some (.int y8), some (.int y9), some (.int r16)]) rfl ?_
              refine zc_aload_n (pc := 85) dX11_feed_85 rfl rfl ?_
              refine zc_callV (pc := 86) [.ref 60] rfl (zc_runV (ci := 11) (n0 := 0) (q := (RX11, TX11, 35)) zo_X11_again ⟨Nat.le_of_ble_eq_true rfl, Nat.le_of_ble_eq_true rfl⟩ zw_1170 zw_1172 zs_39 rfl (by decide) rfl rfl dX11_feed_86) (Nat.le_of_ble_eq_true rfl) (fun _ hr => zt_X11_again r15 hr) (fun r17 => ?_)
              refine zc_iload (pc := 89) dX11_feed_89 rfl ?_
              refine zc_iload_n (pc := 91) dX11_feed_91 rfl rfl ?_
              refine zc_join 101 (fun v18 => [some (.ref 60), some (.int x1), none, some (.int y8), some (.int y9), some (.int r16)]) (fun v18 => [.int v18]) (fun v18 => r17) (fun v18 => ?_) (fun J25 => ?_)
              · refine zc_istore_n (pc := 101) dX11_feed_101 rfl (Nat.le_of_ble_eq_true rfl) rfl (Nat.le_of_ble_eq_true rfl) ?_
                refine zc_sL (ls1 := [some (.ref 60), some (.int x1), some (.int v18), some (.int y8), some (.int y9), some (.int r16)]) rfl ?_
                refine zc_iload (pc := 102) dX11_feed_102 rfl ?_
                refine zc_iload_n (pc := 104) dX11_feed_104 rfl rfl ?_
                refine zc_icmp_ge (pc := 105) 113 dX11_feed_105 (by decide) (fun _ => ?_) (fun _ => ?_)
                · refine zc_iload_n (pc := 113) dX11_feed_113 rfl rfl ?_
                  refine zc_istore_n (pc := 114) dX11_feed_114 rfl (Nat.le_of_ble_eq_true rfl) rfl (Nat.le_of_ble_eq_true rfl) ?_
                  refine zc_sL (ls1 := [some (.ref 60), some (.int x1), some (.int v18), some (.int y8), some (.int y9), some (.int r16)]) rfl ?_
                  refine zc_iinc (pc := 115) (1 : Int32) dX11_feed_115 (by decide) rfl (Nat.le_of_ble_eq_true rfl) rfl ?_
                  refine zc_sL (ls1 := [some (.ref 60), some (.int x1), some (.int v18), some (.int y8), some (.int (y9 + (1 : Int32))), some (.int r16)]) rfl ?_
                  refine zc_goto (pc := 118) 43 dX11_feed_118 (by decide) ?_
                  refine zc_drop 5 ?_
                  exact ih24 v18 y8 (y9 + (1 : Int32)) r17
                · refine zc_iload (pc := 108) dX11_feed_108 rfl ?_
                  refine zc_goto (pc := 110) 114 dX11_feed_110 (by decide) ?_
                  refine zc_istore_n (pc := 114) dX11_feed_114 rfl (Nat.le_of_ble_eq_true rfl) rfl (Nat.le_of_ble_eq_true rfl) ?_
                  refine zc_sL (ls1 := [some (.ref 60), some (.int x1), some (.int v18), some (.int r16), some (.int y9), some (.int r16)]) rfl ?_
                  refine zc_iinc (pc := 115) (1 : Int32) dX11_feed_115 (by decide) rfl (Nat.le_of_ble_eq_true rfl) rfl ?_
                  refine zc_sL (ls1 := [some (.ref 60), some (.int x1), some (.int v18), some (.int r16), some (.int (y9 + (1 : Int32))), some (.int r16)]) rfl ?_
                  refine zc_goto (pc := 118) 43 dX11_feed_118 (by decide) ?_
                  refine zc_drop 5 ?_
                  exact ih24 v18 r16 (y9 + (1 : Int32)) r17
              · refine zc_icmp_ge (pc := 92) 100 dX11_feed_92 (by decide) (fun _ => ?_) (fun _ => ?_)
                · refine zc_iload_n (pc := 100) dX11_feed_100 rfl rfl ?_
                  refine zc_drop 2 ?_
                  exact J25 y7
                · refine zc_iload (pc := 95) dX11_feed_95 rfl ?_
                  refine zc_goto (pc := 97) 101 dX11_feed_97 (by decide) ?_
                  refine zc_drop 2 ?_
                  exact J25 y9
      exact L23 zFU (-4 : Int32) r5 (0 : Int32) r6
def zl_X11_shade_23 (x1 : Int32) (h1 : zHp) : Nat → Int32 → Int32 → Option Int32
  | 0, _, _ => none
  | fu + 1, y3, y4 => (if (h1.1 60 3) ≤ y4 then some y3 else (if zc_ix y4 7 then ((zf_X11_farOf (h1.1 63 y4.toNatClampNeg) (h1.1 60 0)).bind (fun r6 => (((if x1 < r6 then some (0 : Int32) else some ((1 : Int32) <<< (y4 &&& 31))) : Option Int32).bind (fun v7 => zl_X11_shade_23 x1 h1 fu (y3 ||| v7) (y4 + (1 : Int32)))))) else none))
def zf_X11_shade (x1 : Int32) (h : zHp) : Option (Int32 × zHp) :=
  ((some (zc_ui h 60 17 (0 : Int32)) : Option zHp).bind (fun h1 => ((zf_X11_in x1.toInt64 (0 : Int64) (6 : Int64)).bind (fun r2 => (if r2 = 0 then some ((-1 : Int32), h1) else ((zl_X11_shade_23 x1 h1 zFU (0 : Int32) (0 : Int32)).bind (fun v8 => some (v8, h1))))))))
set_option maxRecDepth 100000 in
set_option maxHeartbeats 4000000 in
theorem zt_X11_shade (x1 : Int32) (h : zHp) {r : (Int32 × zHp)} (hr : (zf_X11_shade x1 h) = some r) : zc_Cn zM_X11_shade [.ref 60, .int x1] h (zc_mI r) := by
  refine zc_meth (mk := zc_mI) (o := (zf_X11_shade x1 h)) (by decide +kernel) (Nat.le_of_ble_eq_true rfl) ?_ hr
  unfold zf_X11_shade
  refine zc_sL (ls1 := [some (.ref 60), some (.int x1), none, none]) rfl ?_
  refine zc_aload_n (pc := 0) dX11_shade_0 rfl rfl ?_
  refine zc_iconst (pc := 1) (0 : Int32) dX11_shade_1 (by decide) ?_
  refine zc_putI (pc := 2) zF_X11_68 rfl dX11_shade_2 ?_
  refine zc_letH (fun h1 _ => ?_)
  refine zc_iload_n (pc := 5) dX11_shade_5 rfl rfl ?_
  refine zc_i2l (pc := 6) dX11_shade_6 ?_
  refine zc_lconst (pc := 7) (0 : Int64) dX11_shade_7 (by decide) ?_
  refine zc_ldc2 (pc := 8) dX11_shade_8 zw_1202 ?_
  refine zc_callIp (pc := 11) [.long x1.toInt64, .long (0 : Int64), .long (6 : Int64)] rfl (zc_runS zo_X11_in ⟨Nat.le_of_ble_eq_true rfl, Nat.le_of_ble_eq_true rfl⟩ zw_1071 zw_1072 rfl dX11_shade_11) (Nat.le_of_ble_eq_true rfl) (fun _ hr => zt_X11_in x1.toInt64 (0 : Int64) (6 : Int64) h1 hr) (fun r2 => ?_)
  refine zc_if_ne (pc := 14) 19 dX11_shade_14 (by decide) (fun _ => ?_) (fun _ => ?_)
  · refine zc_iconst (pc := 17) (-1 : Int32) dX11_shade_17 (by decide) ?_
    exact zc_iretK (pc := 18) dX11_shade_18 rfl ⟨_, rfl, rfl⟩
  · refine zc_iconst (pc := 19) (0 : Int32) dX11_shade_19 (by decide) ?_
    refine zc_istore_n (pc := 20) dX11_shade_20 rfl (Nat.le_of_ble_eq_true rfl) rfl (Nat.le_of_ble_eq_true rfl) ?_
    refine zc_sL (ls1 := [some (.ref 60), some (.int x1), some (.int (0 : Int32)), none]) rfl ?_
    refine zc_iconst (pc := 21) (0 : Int32) dX11_shade_21 (by decide) ?_
    refine zc_istore_n (pc := 22) dX11_shade_22 rfl (Nat.le_of_ble_eq_true rfl) rfl (Nat.le_of_ble_eq_true rfl) ?_
    refine zc_sL (ls1 := [some (.ref 60), some (.int x1), some (.int (0 : Int32)), some (.int (0 : Int32))]) rfl ?_
    refine zc_sL (ls1 := [some (.ref 60), some (.int x1), some (.int (0 : Int32)), some (.int (0 : Int32))]) rfl ?_
    refine zc_loop 64 (fun v8 => [none, none, some (.int v8), none]) (fun v8 => []) (fun v8 => h1) (fun v8 => ?_) (fun k10 J9 => ?_)
    · refine zc_iload_n (pc := 64) dX11_shade_64 rfl rfl ?_
      exact zc_iretK (pc := 65) dX11_shade_65 rfl ⟨_, rfl, rfl⟩
    · have L12 : ∀ (fu : Nat) (y3 : Int32) (y4 : Int32), zc_G zM_X11_shade zc_mI 23 [some (.ref 60), some (.int x1), some (.int y3), some (.int y4)] [] h1 ((zl_X11_shade_23 x1 h1 fu y3 y4).bind k10) := by
          intro fu
          induction fu with
          | zero => intros; exact zc_noneb
          | succ fu ih13 =>
            intro y3 y4
            unfold zl_X11_shade_23
            refine zc_iload_n (pc := 23) dX11_shade_23 rfl rfl ?_
            refine zc_aload_n (pc := 24) dX11_shade_24 rfl rfl ?_
            refine zc_getI (pc := 25) zF_X11_84 rfl dX11_shade_25 ?_
            refine zc_icmp_ge (pc := 28) 64 dX11_shade_28 (by decide) (fun _ => ?_) (fun _ => ?_)
            · refine zc_drop 0 ?_
              refine zc_drop 1 ?_
              refine zc_drop 3 ?_
              exact J9 y3
            · refine zc_iload_n (pc := 31) dX11_shade_31 rfl rfl ?_
              refine zc_aload_n (pc := 32) dX11_shade_32 rfl rfl ?_
              refine zc_getC (pc := 33) zF_X11_16 rfl dX11_shade_33 ?_
              refine zc_iload_n (pc := 36) dX11_shade_36 rfl rfl ?_
              refine zc_guard (fun g5 => ?_)
              refine zc_aldi (pc := 37) rfl g5 dX11_shade_37 ?_
              refine zc_aload_n (pc := 38) dX11_shade_38 rfl rfl ?_
              refine zc_getI (pc := 39) zF_X11_91 rfl dX11_shade_39 ?_
              refine zc_callIp (pc := 42) [.int (h1.1 63 y4.toNatClampNeg), .int (h1.1 60 0)] rfl (zc_runS zo_X11_farOf ⟨Nat.le_of_ble_eq_true rfl, Nat.le_of_ble_eq_true rfl⟩ zw_1148 zw_1149 rfl dX11_shade_42) (Nat.le_of_ble_eq_true rfl) (fun _ hr => zt_X11_farOf (h1.1 63 y4.toNatClampNeg) (h1.1 60 0) h1 hr) (fun r6 => ?_)
              refine zc_iload_n (pc := 45) dX11_shade_45 rfl rfl ?_
              refine zc_join 56 (fun v7 => [some (.ref 60), some (.int x1), none, some (.int y4)]) (fun v7 => [.int v7, .int y3]) (fun v7 => h1) (fun v7 => ?_) (fun J14 => ?_)
              · refine zc_ior (pc := 56) dX11_shade_56 ?_
                refine zc_istore_n (pc := 57) dX11_shade_57 rfl (Nat.le_of_ble_eq_true rfl) rfl (Nat.le_of_ble_eq_true rfl) ?_
                refine zc_sL (ls1 := [some (.ref 60), some (.int x1), some (.int (y3 ||| v7)), some (.int y4)]) rfl ?_
                refine zc_iinc (pc := 58) (1 : Int32) dX11_shade_58 (by decide) rfl (Nat.le_of_ble_eq_true rfl) rfl ?_
                refine zc_sL (ls1 := [some (.ref 60), some (.int x1), some (.int (y3 ||| v7)), some (.int (y4 + (1 : Int32)))]) rfl ?_
                refine zc_goto (pc := 61) 23 dX11_shade_61 (by decide) ?_
                exact ih13 (y3 ||| v7) (y4 + (1 : Int32))
              · refine zc_icmp_gt (pc := 46) 55 dX11_shade_46 (by decide) (fun _ => ?_) (fun _ => ?_)
                · refine zc_iconst (pc := 55) (0 : Int32) dX11_shade_55 (by decide) ?_
                  refine zc_drop 2 ?_
                  exact J14 (0 : Int32)
                · refine zc_iconst (pc := 49) (1 : Int32) dX11_shade_49 (by decide) ?_
                  refine zc_iload_n (pc := 50) dX11_shade_50 rfl rfl ?_
                  refine zc_ishl (pc := 51) dX11_shade_51 ?_
                  refine zc_goto (pc := 52) 56 dX11_shade_52 (by decide) ?_
                  refine zc_drop 2 ?_
                  exact J14 ((1 : Int32) <<< (y4 &&& 31))
      exact L12 zFU (0 : Int32) (0 : Int32)

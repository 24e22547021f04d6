def zf_X10_isShelf (x0 : Int32) : Option Int32 :=
  (if x0 < 0 then some (0 : Int32) else (if (8 : Int32) ≤ x0 then some (0 : Int32) else some (1 : Int32)))
set_option maxRecDepth 100000 in
set_option maxHeartbeats 4000000 in
theorem zt_X10_isShelf (x0 : Int32) (h : zHp) {r : Int32} (hr : (zf_X10_isShelf x0) = some r) : zc_Cn zM_X10_isShelf [.int x0] h ((fun r => zc_mI (r, h)) r) := by
  refine zc_meth (mk := (fun r => zc_mI (r, h))) (o := (zf_X10_isShelf x0)) (by decide +kernel) (Nat.le_of_ble_eq_true rfl) ?_ hr
  unfold zf_X10_isShelf
  refine zc_sL (ls1 := [some (.int x0)]) rfl ?_
  refine zc_iload_n (pc := 0) dX10_isShelf_0 rfl rfl ?_
  refine zc_if_lt (pc := 1) 14 dX10_isShelf_1 (by decide) (fun _ => ?_) (fun _ => ?_)
  · refine zc_iconst (pc := 14) (0 : Int32) dX10_isShelf_14 (by decide) ?_
    exact zc_zretK (pc := 15) dX10_isShelf_15 rfl (by decide) ⟨_, rfl, rfl⟩
  · refine zc_iload_n (pc := 4) dX10_isShelf_4 rfl rfl ?_
    refine zc_bipush (pc := 5) (8 : Int32) dX10_isShelf_5 (by decide) ?_
    refine zc_icmp_ge (pc := 7) 14 dX10_isShelf_7 (by decide) (fun _ => ?_) (fun _ => ?_)
    · refine zc_iconst (pc := 14) (0 : Int32) dX10_isShelf_14 (by decide) ?_
      exact zc_zretK (pc := 15) dX10_isShelf_15 rfl (by decide) ⟨_, rfl, rfl⟩
    · refine zc_iconst (pc := 10) (1 : Int32) dX10_isShelf_10 (by decide) ?_
      refine zc_goto (pc := 11) 15 dX10_isShelf_11 (by decide) ?_
      exact zc_zretK (pc := 15) dX10_isShelf_15 rfl (by decide) ⟨_, rfl, rfl⟩
def zf_X10_refuseAllBut (x1 : Int32) (x2 : Int32) (h : zHp) : Option Int32 :=
  ((zf_X10_isShelf x1).bind (fun r1 => (if r1 = 0 then some (-1 : Int32) else (if zc_ix x1 8 then (if (h.1 (43 + 1 + 2 * x1.toNatClampNeg) 0) = 0 then some (-11 : Int32) else (if zc_ix x1 8 then (if (h.1 (43 + 1 + 2 * x1.toNatClampNeg) 0) = x2 then some (0 : Int32) else some (-12 : Int32)) else none)) else none))))
set_option maxRecDepth 100000 in
set_option maxHeartbeats 4000000 in
theorem zt_X10_refuseAllBut (x1 : Int32) (x2 : Int32) (h : zHp) {r : Int32} (hr : (zf_X10_refuseAllBut x1 x2 h) = some r) : zc_Cn zM_X10_refuseAllBut [.ref 0, .int x1, .int x2] h ((fun r => zc_mI (r, h)) r) := by
  refine zc_meth (mk := (fun r => zc_mI (r, h))) (o := (zf_X10_refuseAllBut x1 x2 h)) (by decide +kernel) (Nat.le_of_ble_eq_true rfl) ?_ hr
  unfold zf_X10_refuseAllBut
  refine zc_sL (ls1 := [some (.ref 0), some (.int x1), some (.int x2)]) rfl ?_
  refine zc_iload_n (pc := 0) dX10_refuseAllBut_0 rfl rfl ?_
  refine zc_callIp (pc := 1) [.int x1] rfl (zc_runS zo_X10_isShelf ⟨Nat.le_of_ble_eq_true rfl, Nat.le_of_ble_eq_true rfl⟩ zw_235 zw_236 rfl dX10_refuseAllBut_1) (Nat.le_of_ble_eq_true rfl) (fun _ hr => zt_X10_isShelf x1 h hr) (fun r1 => ?_)
  refine zc_if_ne (pc := 4) 9 dX10_refuseAllBut_4 (by decide) (fun _ => ?_) (fun _ => ?_)
  · refine zc_iconst (pc := 7) (-1 : Int32) dX10_refuseAllBut_7 (by decide) ?_
    exact zc_iretK (pc := 8) dX10_refuseAllBut_8 rfl ⟨_, rfl, rfl⟩
  · refine zc_aload_n (pc := 9) dX10_refuseAllBut_9 rfl rfl ?_
    refine zc_getC (pc := 10) zF_X10_74 rfl dX10_refuseAllBut_10 ?_
    refine zc_iload_n (pc := 13) dX10_refuseAllBut_13 rfl rfl ?_
    refine zc_guard (fun g2 => ?_)
    refine zc_aldS (pc := 14) rfl g2 dX10_refuseAllBut_14 ?_
    refine zc_getI (pc := 15) zF_X10_288 (zs_s g2) dX10_refuseAllBut_15 ?_
    refine zc_if_ne (pc := 18) 24 dX10_refuseAllBut_18 (by decide) (fun _ => ?_) (fun _ => ?_)
    · refine zc_bipush (pc := 21) (-11 : Int32) dX10_refuseAllBut_21 (by decide) ?_
      exact zc_iretK (pc := 23) dX10_refuseAllBut_23 rfl ⟨_, rfl, rfl⟩
    · refine zc_aload_n (pc := 24) dX10_refuseAllBut_24 rfl rfl ?_
      refine zc_getC (pc := 25) zF_X10_74 rfl dX10_refuseAllBut_25 ?_
      refine zc_iload_n (pc := 28) dX10_refuseAllBut_28 rfl rfl ?_
      refine zc_guard (fun g3 => ?_)
      refine zc_aldS (pc := 29) rfl g3 dX10_refuseAllBut_29 ?_
      refine zc_getI (pc := 30) zF_X10_288 (zs_s g3) dX10_refuseAllBut_30 ?_
      refine zc_iload_n (pc := 33) dX10_refuseAllBut_33 rfl rfl ?_
      refine zc_icmp_ne (pc := 34) 41 dX10_refuseAllBut_34 (by decide) (fun _ => ?_) (fun _ => ?_)
      · refine zc_iconst (pc := 37) (0 : Int32) dX10_refuseAllBut_37 (by decide) ?_
        refine zc_goto (pc := 38) 43 dX10_refuseAllBut_38 (by decide) ?_
        exact zc_iretK (pc := 43) dX10_refuseAllBut_43 rfl ⟨_, rfl, rfl⟩
      · refine zc_bipush (pc := 41) (-12 : Int32) dX10_refuseAllBut_41 (by decide) ?_
        exact zc_iretK (pc := 43) dX10_refuseAllBut_43 rfl ⟨_, rfl, rfl⟩
def zf_X10_refuseRow (x1 : Int32) (h : zHp) : Option Int32 :=
  ((zf_X10_refuseAllBut x1 (2 : Int32) h).bind (fun r1 => some r1))
set_option maxRecDepth 100000 in
set_option maxHeartbeats 4000000 in
theorem zt_X10_refuseRow (x1 : Int32) (h : zHp) {r : Int32} (hr : (zf_X10_refuseRow x1 h) = some r) : zc_Cn zM_X10_refuseRow [.ref 0, .int x1] h ((fun r => zc_mI (r, h)) r) := by
  refine zc_meth (mk := (fun r => zc_mI (r, h))) (o := (zf_X10_refuseRow x1 h)) (by decide +kernel) (Nat.le_of_ble_eq_true rfl) ?_ hr
  unfold zf_X10_refuseRow
  refine zc_sL (ls1 := [some (.ref 0), some (.int x1)]) rfl ?_
  refine zc_aload_n (pc := 0) dX10_refuseRow_0 rfl rfl ?_
  refine zc_iload_n (pc := 1) dX10_refuseRow_1 rfl rfl ?_
  refine zc_iconst (pc := 2) (2 : Int32) dX10_refuseRow_2 (by decide) ?_
  refine zc_callIp (pc := 3) [.ref 0, .int x1, .int (2 : Int32)] rfl (zc_runV (ci := 10) (n0 := 0) (q := (RX10, TX10, 12)) zo_X10_refuseAllBut ⟨Nat.le_of_ble_eq_true rfl, Nat.le_of_ble_eq_true rfl⟩ zw_231 zw_233 zs_1 rfl (by decide) rfl rfl dX10_refuseRow_3) (Nat.le_of_ble_eq_true rfl) (fun _ hr => zt_X10_refuseAllBut x1 (2 : Int32) h hr) (fun r1 => ?_)
  exact zc_iretK (pc := 6) dX10_refuseRow_6 rfl ⟨_, rfl, rfl⟩
def zf_X10_digitsBehind (x0 : Int32) : Option Int32 :=
  (if x0 = (99 : Int32) then some (2 : Int32) else (if x0 = (100 : Int32) then some (2 : Int32) else (if x0 = (102 : Int32) then some (2 : Int32) else (if x0 = (107 : Int32) then some (3 : Int32) else (if x0 = (115 : Int32) then some (3 : Int32) else (if x0 = (118 : Int32) then some (5 : Int32) else some (-1 : Int32)))))))
set_option maxRecDepth 100000 in
set_option maxHeartbeats 4000000 in
theorem zt_X10_digitsBehind (x0 : Int32) (h : zHp) {r : Int32} (hr : (zf_X10_digitsBehind x0) = some r) : zc_Cn zM_X10_digitsBehind [.int x0] h ((fun r => zc_mI (r, h)) r) := by
  refine zc_meth (mk := (fun r => zc_mI (r, h))) (o := (zf_X10_digitsBehind x0)) (by decide +kernel) (Nat.le_of_ble_eq_true rfl) ?_ hr
  unfold zf_X10_digitsBehind
  refine zc_sL (ls1 := [some (.int x0)]) rfl ?_
  refine zc_iload_n (pc := 0) dX10_digitsBehind_0 rfl rfl ?_
  refine zc_sw (fun s1 => ?_) (fun s1 => ?_)
  · refine zc_tblIn (pc := 1) (off := 99) 100 s1 dX10_digitsBehind_1 (by decide) ?_
    refine zc_iconst (pc := 100) (2 : Int32) dX10_digitsBehind_100 (by decide) ?_
    exact zc_iretK (pc := 101) dX10_digitsBehind_101 rfl ⟨_, rfl, rfl⟩
  refine zc_sw (fun s2 => ?_) (fun s2 => ?_)
  · refine zc_tblIn (pc := 1) (off := 99) 100 s2 dX10_digitsBehind_1 (by decide) ?_
    refine zc_iconst (pc := 100) (2 : Int32) dX10_digitsBehind_100 (by decide) ?_
    exact zc_iretK (pc := 101) dX10_digitsBehind_101 rfl ⟨_, rfl, rfl⟩
  refine zc_sw (fun s3 => ?_) (fun s3 => ?_)
  · refine zc_tblIn (pc := 1) (off := 99) 100 s3 dX10_digitsBehind_1 (by decide) ?_
    refine zc_iconst (pc := 100) (2 : Int32) dX10_digitsBehind_100 (by decide) ?_
    exact zc_iretK (pc := 101) dX10_digitsBehind_101 rfl ⟨_, rfl, rfl⟩
  refine zc_sw (fun s4 => ?_) (fun s4 => ?_)
  · refine zc_tblIn (pc := 1) (off := 97) 98 s4 dX10_digitsBehind_1 (by decide) ?_
    refine zc_iconst (pc := 98) (3 : Int32) dX10_digitsBehind_98 (by decide) ?_
    exact zc_iretK (pc := 99) dX10_digitsBehind_99 rfl ⟨_, rfl, rfl⟩
  refine zc_sw (fun s5 => ?_) (fun s5 => ?_)
  · refine zc_tblIn (pc := 1) (off := 97) 98 s5 dX10_digitsBehind_1 (by decide) ?_
    refine zc_iconst (pc := 98) (3 : Int32) dX10_digitsBehind_98 (by decide) ?_
    exact zc_iretK (pc := 99) dX10_digitsBehind_99 rfl ⟨_, rfl, rfl⟩
  refine zc_sw (fun s6 => ?_) (fun s6 => ?_)
  · refine zc_tblIn (pc := 1) (off := 95) 96 s6 dX10_digitsBehind_1 (by decide) ?_
    refine zc_iconst (pc := 96) (5 : Int32) dX10_digitsBehind_96 (by decide) ?_
    exact zc_iretK (pc := 97) dX10_digitsBehind_97 rfl ⟨_, rfl, rfl⟩
  refine zc_tblD (pc := 1) 102 [0, 1, 3, 8, 16, 19] dX10_digitsBehind_1 (by decide) (List.forall_mem_cons.mpr ⟨zc_neJ s1 (by decide), (List.forall_mem_cons.mpr ⟨zc_neJ s2 (by decide), (List.forall_mem_cons.mpr ⟨zc_neJ s3 (by decide), (List.forall_mem_cons.mpr ⟨zc_neJ s4 (by decide), (List.forall_mem_cons.mpr ⟨zc_neJ s5 (by decide), (List.forall_mem_cons.mpr ⟨zc_neJ s6 (by decide), (fun _ hm => nomatch hm)⟩)⟩)⟩)⟩)⟩)⟩) ?_
  refine zc_iconst (pc := 102) (-1 : Int32) dX10_digitsBehind_102 (by decide) ?_
  exact zc_iretK (pc := 103) dX10_digitsBehind_103 rfl ⟨_, rfl, rfl⟩
def zl_X10_placeOfFault_37 (x0 : Nat) (h : zHp) (v5 : Int32) : Nat → Int32 → Option (Int32 ⊕ Int32)
  | 0, _ => none
  | fu + 1, y6 => (if v5 ≤ y6 then some (Sum.inr y6) else (if (h.1 x0 4) ≤ y6 then some (Sum.inl y6) else (if zc_ix y6 100 then (if (h.1 (x0 + 1) y6.toNatClampNeg) < (48 : Int32) then some (Sum.inl y6) else (if zc_ix y6 100 then (if (h.1 (x0 + 1) y6.toNatClampNeg) ≤ (57 : Int32) then zl_X10_placeOfFault_37 x0 h v5 fu (y6 + (1 : Int32)) else some (Sum.inl y6)) else none)) else none)))
def zl_X10_placeOfFault_2 (x0 : Nat) (h : zHp) : Nat → Int32 → Option (Int32 ⊕ Unit)
  | 0, _ => none
  | fu + 1, y1 => (((if (h.1 x0 4) ≤ y1 then some (-1 : Int32) else (if zc_ix y1 100 then ((zf_X10_digitsBehind (h.1 (x0 + 1) y1.toNatClampNeg)).bind (fun r3 => some r3)) else none)) : Option Int32).bind (fun v4 => (if 0 ≤ v4 then ((some ((y1 + (1 : Int32)) + v4) : Option Int32).bind (fun v5 => ((zl_X10_placeOfFault_37 x0 h v5 zFU (y1 + (1 : Int32))).bind (Sum.elim (fun r => some (Sum.inl r)) (fun v9 => (if (h.1 x0 4) ≤ v9 then some (Sum.inl v9) else (if zc_ix v9 100 then (if (h.1 (x0 + 1) v9.toNatClampNeg) = (59 : Int32) then (if (v9 + (1 : Int32)) < (h.1 x0 4) then zl_X10_placeOfFault_2 x0 h fu (v9 + (1 : Int32)) else some (Sum.inr ())) else some (Sum.inl v9)) else none))))))) else some (Sum.inl y1))))
def zf_X10_placeOfFault (x0 : Nat) (h : zHp) : Option Int32 :=
  ((zl_X10_placeOfFault_2 x0 h zFU (0 : Int32)).bind (Sum.elim (fun r => some r) (fun v11 => some (-1 : Int32))))
set_option maxRecDepth 100000 in
set_option maxHeartbeats 4000000 in
theorem zt_X10_placeOfFault (x0 : Nat) (hx0 : zc_lay[x0]? = some (8, 0)) (h : zHp) {r : Int32} (hr : (zf_X10_placeOfFault x0 h) = some r) : zc_Cn zM_X10_placeOfFault [.ref x0] h ((fun r => zc_mI (r, h)) r) := by
  refine zc_meth (mk := (fun r => zc_mI (r, h))) (o := (zf_X10_placeOfFault x0 h)) (by decide +kernel) (Nat.le_of_ble_eq_true rfl) ?_ hr
  unfold zf_X10_placeOfFault
  refine zc_sL (ls1 := [some (.ref x0), none, none, none]) rfl ?_
  refine zc_iconst (pc := 0) (0 : Int32) dX10_placeOfFault_0 (by decide) ?_
  refine zc_istore_n (pc := 1) dX10_placeOfFault_1 rfl (Nat.le_of_ble_eq_true rfl) rfl (Nat.le_of_ble_eq_true rfl) ?_
  refine zc_sL (ls1 := [some (.ref x0), some (.int (0 : Int32)), none, none]) rfl ?_
  refine zc_sL (ls1 := [some (.ref x0), some (.int (0 : Int32)), none, none]) rfl ?_
  refine zc_loopS (fun r => zc_mI (r, h)) 112 (fun v11 => [none, none, none, none]) (fun v11 => []) (fun v11 => h) (fun v11 => ?_) (fun z => ⟨_, rfl, rfl⟩) (fun k13 J12 K14 => ?_)
  · refine zc_iconst (pc := 112) (-1 : Int32) dX10_placeOfFault_112 (by decide) ?_
    exact zc_iretK (pc := 113) dX10_placeOfFault_113 rfl ⟨_, rfl, rfl⟩
  · have L15 : ∀ (fu : Nat) (y1 : Int32), zc_G zM_X10_placeOfFault (fun r => zc_mI (r, h)) 2 [some (.ref x0), some (.int y1), none, none] [] h ((zl_X10_placeOfFault_2 x0 h fu y1).bind k13) := by
        intro fu
        induction fu with
        | zero => intros; exact zc_noneb
        | succ fu ih16 =>
          intro y1
          unfold zl_X10_placeOfFault_2
          refine zc_iload_n (pc := 2) dX10_placeOfFault_2 rfl rfl ?_
          refine zc_aload_n (pc := 3) dX10_placeOfFault_3 rfl rfl ?_
          refine zc_getI (pc := 4) zF_X10_95 hx0 dX10_placeOfFault_4 ?_
          refine zc_join 23 (fun v4 => [some (.ref x0), some (.int y1), none, none]) (fun v4 => [.int v4]) (fun v4 => h) (fun v4 => ?_) (fun J17 => ?_)
          · refine zc_istore_n (pc := 23) dX10_placeOfFault_23 rfl (Nat.le_of_ble_eq_true rfl) rfl (Nat.le_of_ble_eq_true rfl) ?_
            refine zc_sL (ls1 := [some (.ref x0), some (.int y1), some (.int v4), none]) rfl ?_
            refine zc_iload_n (pc := 24) dX10_placeOfFault_24 rfl rfl ?_
            refine zc_if_ge (pc := 25) 30 dX10_placeOfFault_25 (by decide) (fun _ => ?_) (fun _ => ?_)
            · refine zc_iinc (pc := 30) (1 : Int32) dX10_placeOfFault_30 (by decide) rfl (Nat.le_of_ble_eq_true rfl) rfl ?_
              refine zc_sL (ls1 := [some (.ref x0), some (.int (y1 + (1 : Int32))), some (.int v4), none]) rfl ?_
              refine zc_iload_n (pc := 33) dX10_placeOfFault_33 rfl rfl ?_
              refine zc_iload_n (pc := 34) dX10_placeOfFault_34 rfl rfl ?_
              refine zc_iadd (pc := 35) dX10_placeOfFault_35 ?_
              refine zc_letI (fun v5 _ => ?_)
              refine zc_istore_n (pc := 36) dX10_placeOfFault_36 rfl (Nat.le_of_ble_eq_true rfl) rfl (Nat.le_of_ble_eq_true rfl) ?_
              refine zc_sL (ls1 := [some (.ref x0), some (.int (y1 + (1 : Int32))), some (.int v4), some (.int v5)]) rfl ?_
              refine zc_drop 2 ?_
              refine zc_sL (ls1 := [some (.ref x0), some (.int (y1 + (1 : Int32))), none, some (.int v5)]) rfl ?_
              refine zc_loopS (fun r => zc_mI (r, h)) 80 (fun v9 => [some (.ref x0), some (.int v9), none, none]) (fun v9 => []) (fun v9 => h) (fun v9 => ?_) (fun z => (K14 z)) (fun k19 J18 K20 => ?_)
              · refine zc_iload_n (pc := 80) dX10_placeOfFault_80 rfl rfl ?_
                refine zc_aload_n (pc := 81) dX10_placeOfFault_81 rfl rfl ?_
                refine zc_getI (pc := 82) zF_X10_95 hx0 dX10_placeOfFault_82 ?_
                refine zc_icmp_ge (pc := 85) 99 dX10_placeOfFault_85 (by decide) (fun _ => ?_) (fun _ => ?_)
                · refine zc_iload_n (pc := 99) dX10_placeOfFault_99 rfl rfl ?_
                  exact zc_iretK (pc := 100) dX10_placeOfFault_100 rfl (K14 _)
                · refine zc_aload_n (pc := 88) dX10_placeOfFault_88 rfl rfl ?_
                  refine zc_getO (pc := 89) zF_X10_102 hx0 dX10_placeOfFault_89 ?_
                  refine zc_iload_n (pc := 92) dX10_placeOfFault_92 rfl rfl ?_
                  refine zc_guard (fun g10 => ?_)
                  refine zc_aldi (pc := 93) (zs_q hx0) g10 dX10_placeOfFault_93 ?_
                  refine zc_bipush (pc := 94) (59 : Int32) dX10_placeOfFault_94 (by decide) ?_
                  refine zc_icmp_eq (pc := 96) 101 dX10_placeOfFault_96 (by decide) (fun _ => ?_) (fun _ => ?_)
                  · refine zc_iinc (pc := 101) (1 : Int32) dX10_placeOfFault_101 (by decide) rfl (Nat.le_of_ble_eq_true rfl) rfl ?_
                    refine zc_sL (ls1 := [some (.ref x0), some (.int (v9 + (1 : Int32))), none, none]) rfl ?_
                    refine zc_iload_n (pc := 104) dX10_placeOfFault_104 rfl rfl ?_
                    refine zc_aload_n (pc := 105) dX10_placeOfFault_105 rfl rfl ?_
                    refine zc_getI (pc := 106) zF_X10_95 hx0 dX10_placeOfFault_106 ?_
                    refine zc_icmp_lt (pc := 109) 2 dX10_placeOfFault_109 (by decide) (fun _ => ?_) (fun _ => ?_)
                    · exact ih16 (v9 + (1 : Int32))
                    · refine zc_drop 0 ?_
                      refine zc_drop 1 ?_
                      exact J12 ()
                  · refine zc_iload_n (pc := 99) dX10_placeOfFault_99 rfl rfl ?_
                    exact zc_iretK (pc := 100) dX10_placeOfFault_100 rfl (K14 _)
              · have L21 : ∀ (fu : Nat) (y6 : Int32), zc_G zM_X10_placeOfFault (fun r => zc_mI (r, h)) 37 [some (.ref x0), some (.int y6), none, some (.int v5)] [] h ((zl_X10_placeOfFault_37 x0 h v5 fu y6).bind k19) := by
                    intro fu
                    induction fu with
                    | zero => intros; exact zc_noneb
                    | succ fu ih22 =>
                      intro y6
                      unfold zl_X10_placeOfFault_37
                      refine zc_iload_n (pc := 37) dX10_placeOfFault_37 rfl rfl ?_
                      refine zc_iload_n (pc := 38) dX10_placeOfFault_38 rfl rfl ?_
                      refine zc_icmp_ge (pc := 39) 80 dX10_placeOfFault_39 (by decide) (fun _ => ?_) (fun _ => ?_)
                      · refine zc_drop 3 ?_
                        exact J18 y6
                      · refine zc_iload_n (pc := 42) dX10_placeOfFault_42 rfl rfl ?_
                        refine zc_aload_n (pc := 43) dX10_placeOfFault_43 rfl rfl ?_
                        refine zc_getI (pc := 44) zF_X10_95 hx0 dX10_placeOfFault_44 ?_
                        refine zc_icmp_ge (pc := 47) 72 dX10_placeOfFault_47 (by decide) (fun _ => ?_) (fun _ => ?_)
                        · refine zc_iload_n (pc := 72) dX10_placeOfFault_72 rfl rfl ?_
                          exact zc_iretK (pc := 73) dX10_placeOfFault_73 rfl (K20 _)
                        · refine zc_aload_n (pc := 50) dX10_placeOfFault_50 rfl rfl ?_
                          refine zc_getO (pc := 51) zF_X10_102 hx0 dX10_placeOfFault_51 ?_
                          refine zc_iload_n (pc := 54) dX10_placeOfFault_54 rfl rfl ?_
                          refine zc_guard (fun g7 => ?_)
                          refine zc_aldi (pc := 55) (zs_q hx0) g7 dX10_placeOfFault_55 ?_
                          refine zc_bipush (pc := 56) (48 : Int32) dX10_placeOfFault_56 (by decide) ?_
                          refine zc_icmp_lt (pc := 58) 72 dX10_placeOfFault_58 (by decide) (fun _ => ?_) (fun _ => ?_)
                          · refine zc_iload_n (pc := 72) dX10_placeOfFault_72 rfl rfl ?_
                            exact zc_iretK (pc := 73) dX10_placeOfFault_73 rfl (K20 _)
                          · refine zc_aload_n (pc := 61) dX10_placeOfFault_61 rfl rfl ?_
                            refine zc_getO (pc := 62) zF_X10_102 hx0 dX10_placeOfFault_62 ?_
                            refine zc_iload_n (pc := 65) dX10_placeOfFault_65 rfl rfl ?_
                            refine zc_guard (fun g8 => ?_)
                            refine zc_aldi (pc := 66) (zs_q hx0) g8 dX10_placeOfFault_66 ?_
                            refine zc_bipush (pc := 67) (57 : Int32) dX10_placeOfFault_67 (by decide) ?_
                            refine zc_icmp_le (pc := 69) 74 dX10_placeOfFault_69 (by decide) (fun _ => ?_) (fun _ => ?_)
                            · refine zc_iinc (pc := 74) (1 : Int32) dX10_placeOfFault_74 (by decide) rfl (Nat.le_of_ble_eq_true rfl) rfl ?_
                              refine zc_sL (ls1 := [some (.ref x0), some (.int (y6 + (1 : Int32))), none, some (.int v5)]) rfl ?_
                              refine zc_goto (pc := 77) 37 dX10_placeOfFault_77 (by decide) ?_
                              exact ih22 (y6 + (1 : Int32))
                            · refine zc_iload_n (pc := 72) dX10_placeOfFault_72 rfl rfl ?_
                              exact zc_iretK (pc := 73) dX10_placeOfFault_73 rfl (K20 _)
                exact L21 zFU (y1 + (1 : Int32))
            · refine zc_iload_n (pc := 28) dX10_placeOfFault_28 rfl rfl ?_
              exact zc_iretK (pc := 29) dX10_placeOfFault_29 rfl (K14 _)
          · refine zc_icmp_ge (pc := 7) 22 dX10_placeOfFault_7 (by decide) (fun _ => ?_) (fun _ => ?_)
            · refine zc_iconst (pc := 22) (-1 : Int32) dX10_placeOfFault_22 (by decide) ?_
              exact J17 (-1 : Int32)
            · refine zc_aload_n (pc := 10) dX10_placeOfFault_10 rfl rfl ?_
              refine zc_getO (pc := 11) zF_X10_102 hx0 dX10_placeOfFault_11 ?_
              refine zc_iload_n (pc := 14) dX10_placeOfFault_14 rfl rfl ?_
              refine zc_guard (fun g2 => ?_)
              refine zc_aldi (pc := 15) (zs_q hx0) g2 dX10_placeOfFault_15 ?_
              refine zc_callIp (pc := 16) [.int (h.1 (x0 + 1) y1.toNatClampNeg)] rfl (zc_runS zo_X10_digitsBehind ⟨Nat.le_of_ble_eq_true rfl, Nat.le_of_ble_eq_true rfl⟩ zw_241 zw_242 rfl dX10_placeOfFault_16) (Nat.le_of_ble_eq_true rfl) (fun _ hr => zt_X10_digitsBehind (h.1 (x0 + 1) y1.toNatClampNeg) h hr) (fun r3 => ?_)
              refine zc_goto (pc := 19) 23 dX10_placeOfFault_19 (by decide) ?_
              exact J17 r3
    exact L15 zFU (0 : Int32)
def zf_X10_isTold (x1 : Nat) (x2 : Int32) (h : zHp) : Option (Int32 × zHp) :=
  ((zf_X8_digit x1 (x2 + (1 : Int32)) h).bind (fun r1 => ((zf_X8_digit x1 (x2 + (2 : Int32)) h).bind (fun r2 => (if zc_ix x2 100 then (if (h.1 (x1 + 1) x2.toNatClampNeg) = (99 : Int32) then ((zf_X7_setChair 25 (((10 : Int32) * r1) + r2) h).bind (fun r4 => (if r4.1 < 0 then some ((0 : Int32), r4.2) else some ((1 : Int32), r4.2)))) else (if (h.1 (x1 + 1) x2.toNatClampNeg) = (102 : Int32) then ((zf_X7_setFrom 25 r1 r2 h).bind (fun r5 => (if r5.1 < 0 then some ((0 : Int32), r5.2) else some ((1 : Int32), r5.2)))) else (if (h.1 (x1 + 1) x2.toNatClampNeg) = (107 : Int32) then ((zf_X8_twoDigits x1 (x2 + (2 : Int32)) h).bind (fun r6 => ((zf_X7_setStock 25 r1 r6 h).bind (fun r7 => (if r7.1 < 0 then some ((0 : Int32), r7.2) else some ((1 : Int32), r7.2)))))) else (if (h.1 (x1 + 1) x2.toNatClampNeg) = (115 : Int32) then ((zf_X8_twoDigits x1 (x2 + (2 : Int32)) h).bind (fun r8 => ((zf_X7_setSun 25 r1 r8 h).bind (fun r9 => (if r9.1 < 0 then some ((0 : Int32), r9.2) else some ((1 : Int32), r9.2)))))) else (if (h.1 (x1 + 1) x2.toNatClampNeg) = (118 : Int32) then ((zf_X8_twoDigits x1 (x2 + (3 : Int32)) h).bind (fun r10 => ((zf_X8_digit x1 (x2 + (5 : Int32)) h).bind (fun r11 => ((zf_X7_add 25 r1 r2 r10 r11 h).bind (fun r12 => (if r12.1 < 0 then some ((0 : Int32), r12.2) else some ((1 : Int32), r12.2)))))))) else ((zf_X7_refuseDays 25 (((10 : Int32) * r1) + r2) h).bind (fun r13 => (if r13 = 0 then ((zf_X7_goDays 25 (((10 : Int32) * r1) + r2) h).bind (fun r14 => some ((1 : Int32), r14))) else some ((0 : Int32), h))))))))) else none)))))
set_option maxRecDepth 100000 in
set_option maxHeartbeats 4000000 in
theorem zt_X10_isTold (x1 : Nat) (hx1 : zc_lay[x1]? = some (8, 0)) (x2 : Int32) (h : zHp) {r : (Int32 × zHp)} (hr : (zf_X10_isTold x1 x2 h) = some r) : zc_Cn zM_X10_isTold [.ref 0, .ref x1, .int x2] h (zc_mI r) := by
  refine zc_meth (mk := zc_mI) (o := (zf_X10_isTold x1 x2 h)) (by decide +kernel) (Nat.le_of_ble_eq_true rfl) ?_ hr
  unfold zf_X10_isTold
  refine zc_sL (ls1 := [some (.ref 0), some (.ref x1), some (.int x2), none, none]) rfl ?_
  refine zc_aload_n (pc := 0) dX10_isTold_0 rfl rfl ?_
  refine zc_iload_n (pc := 1) dX10_isTold_1 rfl rfl ?_
  refine zc_iconst (pc := 2) (1 : Int32) dX10_isTold_2 (by decide) ?_
  refine zc_iadd (pc := 3) dX10_isTold_3 ?_
  refine zc_callIp (pc := 4) [.ref x1, .int (x2 + (1 : Int32))] rfl (zc_runV (ci := 8) (n0 := 0) (q := (RX8, TX8, 6)) zo_X8_digit ⟨Nat.le_of_ble_eq_true rfl, Nat.le_of_ble_eq_true rfl⟩ zw_255 zw_256 zw_257 hx1 (by decide) rfl rfl dX10_isTold_4) (Nat.le_of_ble_eq_true rfl) (fun _ hr => zt_X8_digit x1 hx1 (x2 + (1 : Int32)) h hr) (fun r1 => ?_)
  refine zc_istore_n (pc := 7) dX10_isTold_7 rfl (Nat.le_of_ble_eq_true rfl) rfl (Nat.le_of_ble_eq_true rfl) ?_
  refine zc_sL (ls1 := [some (.ref 0), some (.ref x1), some (.int x2), some (.int r1), none]) rfl ?_
  refine zc_aload_n (pc := 8) dX10_isTold_8 rfl rfl ?_
  refine zc_iload_n (pc := 9) dX10_isTold_9 rfl rfl ?_
  refine zc_iconst (pc := 10) (2 : Int32) dX10_isTold_10 (by decide) ?_
  refine zc_iadd (pc := 11) dX10_isTold_11 ?_
  refine zc_callIp (pc := 12) [.ref x1, .int (x2 + (2 : Int32))] rfl (zc_runV (ci := 8) (n0 := 0) (q := (RX8, TX8, 6)) zo_X8_digit ⟨Nat.le_of_ble_eq_true rfl, Nat.le_of_ble_eq_true rfl⟩ zw_255 zw_256 zw_257 hx1 (by decide) rfl rfl dX10_isTold_12) (Nat.le_of_ble_eq_true rfl) (fun _ hr => zt_X8_digit x1 hx1 (x2 + (2 : Int32)) h hr) (fun r2 => ?_)
  refine zc_istore (pc := 15) dX10_isTold_15 (Nat.le_of_ble_eq_true rfl) rfl (Nat.le_of_ble_eq_true rfl) ?_
  refine zc_sL (ls1 := [some (.ref 0), some (.ref x1), some (.int x2), some (.int r1), some (.int r2)]) rfl ?_
  refine zc_aload_n (pc := 17) dX10_isTold_17 rfl rfl ?_
  refine zc_getO (pc := 18) zF_X10_102 hx1 dX10_isTold_18 ?_
  refine zc_iload_n (pc := 21) dX10_isTold_21 rfl rfl ?_
  refine zc_guard (fun g3 => ?_)
  refine zc_aldi (pc := 22) (zs_q hx1) g3 dX10_isTold_22 ?_
  refine zc_sw (fun s15 => ?_) (fun s15 => ?_)
  · refine zc_lsw (pc := 23) 105 dX10_isTold_23 (by decide) (by rw [s15]) (by decide) ?_
    refine zc_aload_n (pc := 105) dX10_isTold_105 rfl rfl ?_
    refine zc_getC (pc := 106) zF_X10_66 rfl dX10_isTold_106 ?_
    refine zc_bipush (pc := 109) (10 : Int32) dX10_isTold_109 (by decide) ?_
    refine zc_iload_n (pc := 111) dX10_isTold_111 rfl rfl ?_
    refine zc_imul (pc := 112) dX10_isTold_112 ?_
    refine zc_iload (pc := 113) dX10_isTold_113 rfl ?_
    refine zc_iadd (pc := 115) dX10_isTold_115 ?_
    refine zc_callI (pc := 116) [.ref 25, .int (((10 : Int32) * r1) + r2)] rfl (zc_runV (ci := 7) (n0 := 0) (q := (RX7, TX7, 15)) zo_X7_setChair ⟨Nat.le_of_ble_eq_true rfl, Nat.le_of_ble_eq_true rfl⟩ zw_366 zw_367 zw_368 rfl (by decide) rfl rfl dX10_isTold_116) (Nat.le_of_ble_eq_true rfl) (fun _ hr => zt_X7_setChair 25 rfl (((10 : Int32) * r1) + r2) h hr) (fun r4 => ?_)
    refine zc_if_lt (pc := 119) 126 dX10_isTold_119 (by decide) (fun _ => ?_) (fun _ => ?_)
    · refine zc_iconst (pc := 126) (0 : Int32) dX10_isTold_126 (by decide) ?_
      exact zc_zretK (pc := 127) dX10_isTold_127 rfl (by decide) ⟨_, rfl, rfl⟩
    · refine zc_iconst (pc := 122) (1 : Int32) dX10_isTold_122 (by decide) ?_
      refine zc_goto (pc := 123) 127 dX10_isTold_123 (by decide) ?_
      exact zc_zretK (pc := 127) dX10_isTold_127 rfl (by decide) ⟨_, rfl, rfl⟩
  refine zc_sw (fun s16 => ?_) (fun s16 => ?_)
  · refine zc_lsw (pc := 23) 176 dX10_isTold_23 (by decide) (by rw [s16]) (by decide) ?_
    refine zc_aload_n (pc := 176) dX10_isTold_176 rfl rfl ?_
    refine zc_getC (pc := 177) zF_X10_66 rfl dX10_isTold_177 ?_
    refine zc_iload_n (pc := 180) dX10_isTold_180 rfl rfl ?_
    refine zc_iload (pc := 181) dX10_isTold_181 rfl ?_
    refine zc_callI (pc := 183) [.ref 25, .int r1, .int r2] rfl (zc_runV (ci := 7) (n0 := 0) (q := (RX7, TX7, 15)) zo_X7_setFrom ⟨Nat.le_of_ble_eq_true rfl, Nat.le_of_ble_eq_true rfl⟩ zw_382 zw_383 zw_384 rfl (by decide) rfl rfl dX10_isTold_183) (Nat.le_of_ble_eq_true rfl) (fun _ hr => zt_X7_setFrom 25 rfl r1 r2 h hr) (fun r5 => ?_)
    refine zc_if_lt (pc := 186) 193 dX10_isTold_186 (by decide) (fun _ => ?_) (fun _ => ?_)
    · refine zc_iconst (pc := 193) (0 : Int32) dX10_isTold_193 (by decide) ?_
      exact zc_zretK (pc := 194) dX10_isTold_194 rfl (by decide) ⟨_, rfl, rfl⟩
    · refine zc_iconst (pc := 189) (1 : Int32) dX10_isTold_189 (by decide) ?_
      refine zc_goto (pc := 190) 194 dX10_isTold_190 (by decide) ?_
      exact zc_zretK (pc := 194) dX10_isTold_194 rfl (by decide) ⟨_, rfl, rfl⟩
  refine zc_sw (fun s17 => ?_) (fun s17 => ?_)
  · refine zc_lsw (pc := 23) 152 dX10_isTold_23 (by decide) (by rw [s17]) (by decide) ?_
    refine zc_aload_n (pc := 152) dX10_isTold_152 rfl rfl ?_
    refine zc_getC (pc := 153) zF_X10_66 rfl dX10_isTold_153 ?_
    refine zc_iload_n (pc := 156) dX10_isTold_156 rfl rfl ?_
    refine zc_aload_n (pc := 157) dX10_isTold_157 rfl rfl ?_
    refine zc_iload_n (pc := 158) dX10_isTold_158 rfl rfl ?_
    refine zc_iconst (pc := 159) (2 : Int32) dX10_isTold_159 (by decide) ?_
    refine zc_iadd (pc := 160) dX10_isTold_160 ?_
    refine zc_callIp (pc := 161) [.ref x1, .int (x2 + (2 : Int32))] rfl (zc_runV (ci := 8) (n0 := 0) (q := (RX8, TX8, 6)) zo_X8_twoDigits ⟨Nat.le_of_ble_eq_true rfl, Nat.le_of_ble_eq_true rfl⟩ zw_259 zw_260 zw_261 hx1 (by decide) rfl rfl dX10_isTold_161) (Nat.le_of_ble_eq_true rfl) (fun _ hr => zt_X8_twoDigits x1 hx1 (x2 + (2 : Int32)) h hr) (fun r6 => ?_)
    refine zc_callI (pc := 164) [.ref 25, .int r1, .int r6] rfl (zc_runV (ci := 7) (n0 := 0) (q := (RX7, TX7, 15)) zo_X7_setStock ⟨Nat.le_of_ble_eq_true rfl, Nat.le_of_ble_eq_true rfl⟩ zw_374 zw_375 zw_376 rfl (by decide) rfl rfl dX10_isTold_164) (Nat.le_of_ble_eq_true rfl) (fun _ hr => zt_X7_setStock 25 rfl r1 r6 h hr) (fun r7 => ?_)
    refine zc_if_lt (pc := 167) 174 dX10_isTold_167 (by decide) (fun _ => ?_) (fun _ => ?_)
    · refine zc_iconst (pc := 174) (0 : Int32) dX10_isTold_174 (by decide) ?_
      exact zc_zretK (pc := 175) dX10_isTold_175 rfl (by decide) ⟨_, rfl, rfl⟩
    · refine zc_iconst (pc := 170) (1 : Int32) dX10_isTold_170 (by decide) ?_
      refine zc_goto (pc := 171) 175 dX10_isTold_171 (by decide) ?_
      exact zc_zretK (pc := 175) dX10_isTold_175 rfl (by decide) ⟨_, rfl, rfl⟩
  refine zc_sw (fun s18 => ?_) (fun s18 => ?_)
  · refine zc_lsw (pc := 23) 128 dX10_isTold_23 (by decide) (by rw [s18]) (by decide) ?_
    refine zc_aload_n (pc := 128) dX10_isTold_128 rfl rfl ?_
    refine zc_getC (pc := 129) zF_X10_66 rfl dX10_isTold_129 ?_
    refine zc_iload_n (pc := 132) dX10_isTold_132 rfl rfl ?_
    refine zc_aload_n (pc := 133) dX10_isTold_133 rfl rfl ?_
    refine zc_iload_n (pc := 134) dX10_isTold_134 rfl rfl ?_
    refine zc_iconst (pc := 135) (2 : Int32) dX10_isTold_135 (by decide) ?_
    refine zc_iadd (pc := 136) dX10_isTold_136 ?_
    refine zc_callIp (pc := 137) [.ref x1, .int (x2 + (2 : Int32))] rfl (zc_runV (ci := 8) (n0 := 0) (q := (RX8, TX8, 6)) zo_X8_twoDigits ⟨Nat.le_of_ble_eq_true rfl, Nat.le_of_ble_eq_true rfl⟩ zw_259 zw_260 zw_261 hx1 (by decide) rfl rfl dX10_isTold_137) (Nat.le_of_ble_eq_true rfl) (fun _ hr => zt_X8_twoDigits x1 hx1 (x2 + (2 : Int32)) h hr) (fun r8 => ?_)
    refine zc_callI (pc := 140) [.ref 25, .int r1, .int r8] rfl (zc_runV (ci := 7) (n0 := 0) (q := (RX7, TX7, 15)) zo_X7_setSun ⟨Nat.le_of_ble_eq_true rfl, Nat.le_of_ble_eq_true rfl⟩ zw_370 zw_371 zw_372 rfl (by decide) rfl rfl dX10_isTold_140) (Nat.le_of_ble_eq_true rfl) (fun _ hr => zt_X7_setSun 25 rfl r1 r8 h hr) (fun r9 => ?_)
    refine zc_if_lt (pc := 143) 150 dX10_isTold_143 (by decide) (fun _ => ?_) (fun _ => ?_)
    · refine zc_iconst (pc := 150) (0 : Int32) dX10_isTold_150 (by decide) ?_
      exact zc_zretK (pc := 151) dX10_isTold_151 rfl (by decide) ⟨_, rfl, rfl⟩
    · refine zc_iconst (pc := 146) (1 : Int32) dX10_isTold_146 (by decide) ?_
      refine zc_goto (pc := 147) 151 dX10_isTold_147 (by decide) ?_
      exact zc_zretK (pc := 151) dX10_isTold_151 rfl (by decide) ⟨_, rfl, rfl⟩
  refine zc_sw (fun s19 => ?_) (fun s19 => ?_)
  · refine zc_lsw (pc := 23) 72 dX10_isTold_23 (by decide) (by rw [s19]) (by decide) ?_
    refine zc_aload_n (pc := 72) dX10_isTold_72 rfl rfl ?_
    refine zc_getC (pc := 73) zF_X10_66 rfl dX10_isTold_73 ?_
    refine zc_iload_n (pc := 76) dX10_isTold_76 rfl rfl ?_
    refine zc_iload (pc := 77) dX10_isTold_77 rfl ?_
    refine zc_aload_n (pc := 79) dX10_isTold_79 rfl rfl ?_
    refine zc_iload_n (pc := 80) dX10_isTold_80 rfl rfl ?_
    refine zc_iconst (pc := 81) (3 : Int32) dX10_isTold_81 (by decide) ?_
    refine zc_iadd (pc := 82) dX10_isTold_82 ?_
    refine zc_callIp (pc := 83) [.ref x1, .int (x2 + (3 : Int32))] rfl (zc_runV (ci := 8) (n0 := 0) (q := (RX8, TX8, 6)) zo_X8_twoDigits ⟨Nat.le_of_ble_eq_true rfl, Nat.le_of_ble_eq_true rfl⟩ zw_259 zw_260 zw_261 hx1 (by decide) rfl rfl dX10_isTold_83) (Nat.le_of_ble_eq_true rfl) (fun _ hr => zt_X8_twoDigits x1 hx1 (x2 + (3 : Int32)) h hr) (fun r10 => ?_)
    refine zc_aload_n (pc := 86) dX10_isTold_86 rfl rfl ?_
    refine zc_iload_n (pc := 87) dX10_isTold_87 rfl rfl ?_
    refine zc_iconst (pc := 88) (5 : Int32) dX10_isTold_88 (by decide) ?_
    refine zc_iadd (pc := 89) dX10_isTold_89 ?_
    refine zc_callIp (pc := 90) [.ref x1, .int (x2 + (5 : Int32))] rfl (zc_runV (ci := 8) (n0 := 0) (q := (RX8, TX8, 6)) zo_X8_digit ⟨Nat.le_of_ble_eq_true rfl, Nat.le_of_ble_eq_true rfl⟩ zw_255 zw_256 zw_257 hx1 (by decide) rfl rfl dX10_isTold_90) (Nat.le_of_ble_eq_true rfl) (fun _ hr => zt_X8_digit x1 hx1 (x2 + (5 : Int32)) h hr) (fun r11 => ?_)
    refine zc_callI (pc := 93) [.ref 25, .int r1, .int r2, .int r10, .int r11] rfl (zc_runV (ci := 7) (n0 := 0) (q := (RX7, TX7, 15)) zo_X7_add ⟨Nat.le_of_ble_eq_true rfl, Nat.le_of_ble_eq_true rfl⟩ zw_264 zw_265 zw_266 rfl (by decide) rfl rfl dX10_isTold_93) (Nat.le_of_ble_eq_true rfl) (fun _ hr => zt_X7_add 25 rfl r1 r2 r10 r11 h hr) (fun r12 => ?_)
    refine zc_if_lt (pc := 96) 103 dX10_isTold_96 (by decide) (fun _ => ?_) (fun _ => ?_)
    · refine zc_iconst (pc := 103) (0 : Int32) dX10_isTold_103 (by decide) ?_
      exact zc_zretK (pc := 104) dX10_isTold_104 rfl (by decide) ⟨_, rfl, rfl⟩
    · refine zc_iconst (pc := 99) (1 : Int32) dX10_isTold_99 (by decide) ?_
      refine zc_goto (pc := 100) 104 dX10_isTold_100 (by decide) ?_
      exact zc_zretK (pc := 104) dX10_isTold_104 rfl (by decide) ⟨_, rfl, rfl⟩
  refine zc_lsw (pc := 23) 195 dX10_isTold_23 (by decide) (off := 172) ((lv_osw s15 (by decide)).trans ((lv_osw s16 (by decide)).trans ((lv_osw s17 (by decide)).trans ((lv_osw s18 (by decide)).trans ((lv_osw s19 (by decide)).trans rfl))))) (by decide) ?_
  refine zc_aload_n (pc := 195) dX10_isTold_195 rfl rfl ?_
  refine zc_getC (pc := 196) zF_X10_66 rfl dX10_isTold_196 ?_
  refine zc_bipush (pc := 199) (10 : Int32) dX10_isTold_199 (by decide) ?_
  refine zc_iload_n (pc := 201) dX10_isTold_201 rfl rfl ?_
  refine zc_imul (pc := 202) dX10_isTold_202 ?_
  refine zc_iload (pc := 203) dX10_isTold_203 rfl ?_
  refine zc_iadd (pc := 205) dX10_isTold_205 ?_
  refine zc_callIp (pc := 206) [.ref 25, .int (((10 : Int32) * r1) + r2)] rfl (zc_runV (ci := 7) (n0 := 0) (q := (RX7, TX7, 15)) zo_X7_refuseDays ⟨Nat.le_of_ble_eq_true rfl, Nat.le_of_ble_eq_true rfl⟩ zw_386 zw_387 zw_388 rfl (by decide) rfl rfl dX10_isTold_206) (Nat.le_of_ble_eq_true rfl) (fun _ hr => zt_X7_refuseDays 25 rfl (((10 : Int32) * r1) + r2) h hr) (fun r13 => ?_)
  refine zc_if_eq (pc := 209) 214 dX10_isTold_209 (by decide) (fun _ => ?_) (fun _ => ?_)
  · refine zc_aload_n (pc := 214) dX10_isTold_214 rfl rfl ?_
    refine zc_getC (pc := 215) zF_X10_66 rfl dX10_isTold_215 ?_
    refine zc_bipush (pc := 218) (10 : Int32) dX10_isTold_218 (by decide) ?_
    refine zc_iload_n (pc := 220) dX10_isTold_220 rfl rfl ?_
    refine zc_imul (pc := 221) dX10_isTold_221 ?_
    refine zc_iload (pc := 222) dX10_isTold_222 rfl ?_
    refine zc_iadd (pc := 224) dX10_isTold_224 ?_
    refine zc_callV (pc := 225) [.ref 25, .int (((10 : Int32) * r1) + r2)] rfl (zc_runV (ci := 7) (n0 := 0) (q := (RX7, TX7, 15)) zo_X7_goDays ⟨Nat.le_of_ble_eq_true rfl, Nat.le_of_ble_eq_true rfl⟩ zw_390 zw_391 zw_392 rfl (by decide) rfl rfl dX10_isTold_225) (Nat.le_of_ble_eq_true rfl) (fun _ hr => zt_X7_goDays 25 rfl (((10 : Int32) * r1) + r2) h hr) (fun r14 => ?_)
    refine zc_iconst (pc := 228) (1 : Int32) dX10_isTold_228 (by decide) ?_
    exact zc_zretK (pc := 229) dX10_isTold_229 rfl (by decide) ⟨_, rfl, rfl⟩
  · refine zc_iconst (pc := 212) (0 : Int32) dX10_isTold_212 (by decide) ?_
    exact zc_zretK (pc := 213) dX10_isTold_213 rfl (by decide) ⟨_, rfl, rfl⟩
def zl_X10_province_64 (x1 : Int32) : Nat → Int32 → Int32 → zHp → Option ((Int32 × zHp) ⊕ (Int32 × zHp))
  | 0, _, _, _ => none
  | fu + 1, y5, y6, h7 => (if (h7.1 (43 + 1 + 2 * x1.toNatClampNeg) 4) ≤ y6 then some (Sum.inr (y5, h7)) else ((zf_X10_isTold (43 + 1 + 2 * x1.toNatClampNeg) y6 h7).bind (fun r8 => (if r8.1 = 0 then some (Sum.inl (((-2000 : Int32) - y6), r8.2)) else (if zc_ix y6 100 then ((zf_X10_digitsBehind (r8.2.1 ((43 + 1 + 2 * x1.toNatClampNeg) + 1) y6.toNatClampNeg)).bind (fun r10 => ((some (y6 + ((2 : Int32) + r10)) : Option Int32).bind (fun v11 => zl_X10_province_64 x1 fu (y5 + (1 : Int32)) v11 r8.2)))) else none)))))
def zf_X10_province (x1 : Int32) (h : zHp) : Option (Int32 × zHp) :=
  ((zf_X10_refuseRow x1 h).bind (fun r1 => (if r1 = 0 then (if zc_ix x1 8 then (if (h.1 (43 + 1 + 2 * x1.toNatClampNeg) 3) = 0 then ((zf_X10_placeOfFault (43 + 1 + 2 * x1.toNatClampNeg) h).bind (fun r3 => (if r3 < 0 then ((zf_X7_become 25 16 h).bind (fun r4 => ((zl_X10_province_64 x1 zFU (0 : Int32) (0 : Int32) r4).bind (Sum.elim (fun r => some r) (fun v12 => ((zf_X7_become 16 25 v12.2).bind (fun r13 => some (v12.1, r13)))))))) else some (((-1000 : Int32) - r3), h)))) else some ((-12 : Int32), h)) else none) else some (r1, h))))
set_option maxRecDepth 100000 in
set_option maxHeartbeats 4000000 in
theorem zt_X10_province (x1 : Int32) (h : zHp) {r : (Int32 × zHp)} (hr : (zf_X10_province x1 h) = some r) : zc_Cn zM_X10_province [.ref 0, .int x1] h (zc_mI r) := by
  refine zc_meth (mk := zc_mI) (o := (zf_X10_province x1 h)) (by decide +kernel) (Nat.le_of_ble_eq_true rfl) ?_ hr
  unfold zf_X10_province
  refine zc_sL (ls1 := [some (.ref 0), some (.int x1), none, none, none, none, none]) rfl ?_
  refine zc_aload_n (pc := 0) dX10_province_0 rfl rfl ?_
  refine zc_iload_n (pc := 1) dX10_province_1 rfl rfl ?_
  refine zc_callIp (pc := 2) [.ref 0, .int x1] rfl (zc_runV (ci := 10) (n0 := 0) (q := (RX10, TX10, 12)) zo_X10_refuseRow ⟨Nat.le_of_ble_eq_true rfl, Nat.le_of_ble_eq_true rfl⟩ zw_227 zw_229 zs_0 rfl (by decide) rfl rfl dX10_province_2) (Nat.le_of_ble_eq_true rfl) (fun _ hr => zt_X10_refuseRow x1 h hr) (fun r1 => ?_)
  refine zc_istore_n (pc := 5) dX10_province_5 rfl (Nat.le_of_ble_eq_true rfl) rfl (Nat.le_of_ble_eq_true rfl) ?_
  refine zc_sL (ls1 := [some (.ref 0), some (.int x1), some (.int r1), none, none, none, none]) rfl ?_
  refine zc_iload_n (pc := 6) dX10_province_6 rfl rfl ?_
  refine zc_if_eq (pc := 7) 12 dX10_province_7 (by decide) (fun _ => ?_) (fun _ => ?_)
  · refine zc_aload_n (pc := 12) dX10_province_12 rfl rfl ?_
    refine zc_getC (pc := 13) zF_X10_74 rfl dX10_province_13 ?_
    refine zc_iload_n (pc := 16) dX10_province_16 rfl rfl ?_
    refine zc_guard (fun g2 => ?_)
    refine zc_aldS (pc := 17) rfl g2 dX10_province_17 ?_
    refine zc_astore_n (pc := 18) dX10_province_18 rfl (Nat.le_of_ble_eq_true rfl) rfl (Nat.le_of_ble_eq_true rfl) ?_
    refine zc_sL (ls1 := [some (.ref 0), some (.int x1), some (.int r1), some (.ref (43 + 1 + 2 * x1.toNatClampNeg)), none, none, none]) rfl ?_
    refine zc_aload_n (pc := 19) dX10_province_19 rfl rfl ?_
    refine zc_getI (pc := 20) zF_X10_83 (zs_s g2) dX10_province_20 ?_
    refine zc_if_eq (pc := 23) 29 dX10_province_23 (by decide) (fun _ => ?_) (fun _ => ?_)
    · refine zc_aload_n (pc := 29) dX10_province_29 rfl rfl ?_
      refine zc_callIp (pc := 30) [.ref (43 + 1 + 2 * x1.toNatClampNeg)] rfl (zc_runS zo_X10_placeOfFault ⟨Nat.le_of_ble_eq_true rfl, Nat.le_of_ble_eq_true rfl⟩ zw_238 zw_239 rfl dX10_province_30) (Nat.le_of_ble_eq_true rfl) (fun _ hr => zt_X10_placeOfFault (43 + 1 + 2 * x1.toNatClampNeg) (zs_s g2) h hr) (fun r3 => ?_)
      refine zc_istore (pc := 33) dX10_province_33 (Nat.le_of_ble_eq_true rfl) rfl (Nat.le_of_ble_eq_true rfl) ?_
      refine zc_sL (ls1 := [some (.ref 0), some (.int x1), some (.int r1), some (.ref (43 + 1 + 2 * x1.toNatClampNeg)), some (.int r3), none, none]) rfl ?_
      refine zc_iload (pc := 35) dX10_province_35 rfl ?_
      refine zc_if_lt (pc := 37) 47 dX10_province_37 (by decide) (fun _ => ?_) (fun _ => ?_)
      · refine zc_aload_n (pc := 47) dX10_province_47 rfl rfl ?_
        refine zc_getC (pc := 48) zF_X10_66 rfl dX10_province_48 ?_
        refine zc_aload_n (pc := 51) dX10_province_51 rfl rfl ?_
        refine zc_getC (pc := 52) zF_X10_62 rfl dX10_province_52 ?_
        refine zc_callV (pc := 55) [.ref 25, .ref 16] rfl (zc_runV (ci := 7) (n0 := 0) (q := (RX7, TX7, 15)) zo_X7_become ⟨Nat.le_of_ble_eq_true rfl, Nat.le_of_ble_eq_true rfl⟩ zw_244 zw_245 zw_246 rfl (by decide) rfl rfl dX10_province_55) (Nat.le_of_ble_eq_true rfl) (fun _ hr => zt_X7_become 25 rfl 16 rfl h hr) (fun r4 => ?_)
        refine zc_iconst (pc := 58) (0 : Int32) dX10_province_58 (by decide) ?_
        refine zc_istore (pc := 59) dX10_province_59 (Nat.le_of_ble_eq_true rfl) rfl (Nat.le_of_ble_eq_true rfl) ?_
        refine zc_sL (ls1 := [some (.ref 0), some (.int x1), some (.int r1), some (.ref (43 + 1 + 2 * x1.toNatClampNeg)), some (.int r3), some (.int (0 : Int32)), none]) rfl ?_
        refine zc_iconst (pc := 61) (0 : Int32) dX10_province_61 (by decide) ?_
        refine zc_istore (pc := 62) dX10_province_62 (Nat.le_of_ble_eq_true rfl) rfl (Nat.le_of_ble_eq_true rfl) ?_
        refine zc_sL (ls1 := [some (.ref 0), some (.int x1), some (.int r1), some (.ref (43 + 1 + 2 * x1.toNatClampNeg)), some (.int r3), some (.int (0 : Int32)), some (.int (0 : Int32))]) rfl ?_
        refine zc_drop 1 ?_
        refine zc_drop 2 ?_
        refine zc_drop 4 ?_
        refine zc_sL (ls1 := [some (.ref 0), none, none, some (.ref (43 + 1 + 2 * x1.toNatClampNeg)), none, some (.int (0 : Int32)), some (.int (0 : Int32))]) rfl ?_
        refine zc_loopS zc_mI 113 (fun v12 => [some (.ref 0), none, none, none, none, some (.int v12.1), none]) (fun v12 => []) (fun v12 => v12.2) (fun v12 => ?_) (fun z => ⟨_, rfl, rfl⟩) (fun k15 J14 K16 => ?_)
        · refine zc_aload_n (pc := 113) dX10_province_113 rfl rfl ?_
          refine zc_getC (pc := 114) zF_X10_62 rfl dX10_province_114 ?_
          refine zc_aload_n (pc := 117) dX10_province_117 rfl rfl ?_
          refine zc_getC (pc := 118) zF_X10_66 rfl dX10_province_118 ?_
          refine zc_callV (pc := 121) [.ref 16, .ref 25] rfl (zc_runV (ci := 7) (n0 := 0) (q := (RX7, TX7, 15)) zo_X7_become ⟨Nat.le_of_ble_eq_true rfl, Nat.le_of_ble_eq_true rfl⟩ zw_244 zw_245 zw_246 rfl (by decide) rfl rfl dX10_province_121) (Nat.le_of_ble_eq_true rfl) (fun _ hr => zt_X7_become 16 rfl 25 rfl v12.2 hr) (fun r13 => ?_)
          refine zc_iload (pc := 124) dX10_province_124 rfl ?_
          exact zc_iretK (pc := 126) dX10_province_126 rfl ⟨_, rfl, rfl⟩
        · have L17 : ∀ (fu : Nat) (y5 : Int32) (y6 : Int32) (h7 : zHp), zc_G zM_X10_province zc_mI 64 [some (.ref 0), none, none, some (.ref (43 + 1 + 2 * x1.toNatClampNeg)), none, some (.int y5), some (.int y6)] [] h7 ((zl_X10_province_64 x1 fu y5 y6 h7).bind k15) := by
              intro fu
              induction fu with
              | zero => intros; exact zc_noneb
              | succ fu ih18 =>
                intro y5 y6 h7
                unfold zl_X10_province_64
                refine zc_iload (pc := 64) dX10_province_64 rfl ?_
                refine zc_aload_n (pc := 66) dX10_province_66 rfl rfl ?_
                refine zc_getI (pc := 67) zF_X10_95 (zs_s g2) dX10_province_67 ?_
                refine zc_icmp_ge (pc := 70) 113 dX10_province_70 (by decide) (fun _ => ?_) (fun _ => ?_)
                · refine zc_drop 3 ?_
                  refine zc_drop 6 ?_
                  exact J14 (y5, h7)
                · refine zc_aload_n (pc := 73) dX10_province_73 rfl rfl ?_
                  refine zc_aload_n (pc := 74) dX10_province_74 rfl rfl ?_
                  refine zc_iload (pc := 75) dX10_province_75 rfl ?_
                  refine zc_callI (pc := 77) [.ref 0, .ref (43 + 1 + 2 * x1.toNatClampNeg), .int y6] rfl (zc_runV (ci := 10) (n0 := 0) (q := (RX10, TX10, 12)) zo_X10_isTold ⟨Nat.le_of_ble_eq_true rfl, Nat.le_of_ble_eq_true rfl⟩ zw_251 zw_253 zs_2 rfl (by decide) rfl rfl dX10_province_77) (Nat.le_of_ble_eq_true rfl) (fun _ hr => zt_X10_isTold (43 + 1 + 2 * x1.toNatClampNeg) (zs_s g2) y6 h7 hr) (fun r8 => ?_)
                  refine zc_if_ne (pc := 80) 90 dX10_province_80 (by decide) (fun _ => ?_) (fun _ => ?_)
                  · refine zc_sipush (pc := 83) (-2000 : Int32) dX10_province_83 (by decide) ?_
                    refine zc_iload (pc := 86) dX10_province_86 rfl ?_
                    refine zc_isub (pc := 88) dX10_province_88 ?_
                    exact zc_iretK (pc := 89) dX10_province_89 rfl (K16 _)
                  · refine zc_iinc (pc := 90) (1 : Int32) dX10_province_90 (by decide) rfl (Nat.le_of_ble_eq_true rfl) rfl ?_
                    refine zc_sL (ls1 := [some (.ref 0), none, none, some (.ref (43 + 1 + 2 * x1.toNatClampNeg)), none, some (.int (y5 + (1 : Int32))), some (.int y6)]) rfl ?_
                    refine zc_iload (pc := 93) dX10_province_93 rfl ?_
                    refine zc_iconst (pc := 95) (2 : Int32) dX10_province_95 (by decide) ?_
                    refine zc_aload_n (pc := 96) dX10_province_96 rfl rfl ?_
                    refine zc_getO (pc := 97) zF_X10_102 (zs_s g2) dX10_province_97 ?_
                    refine zc_iload (pc := 100) dX10_province_100 rfl ?_
                    refine zc_guard (fun g9 => ?_)
                    refine zc_aldi (pc := 102) (zs_q (zs_s g2)) g9 dX10_province_102 ?_
                    refine zc_callIp (pc := 103) [.int (r8.2.1 ((43 + 1 + 2 * x1.toNatClampNeg) + 1) y6.toNatClampNeg)] rfl (zc_runS zo_X10_digitsBehind ⟨Nat.le_of_ble_eq_true rfl, Nat.le_of_ble_eq_true rfl⟩ zw_241 zw_242 rfl dX10_province_103) (Nat.le_of_ble_eq_true rfl) (fun _ hr => zt_X10_digitsBehind (r8.2.1 ((43 + 1 + 2 * x1.toNatClampNeg) + 1) y6.toNatClampNeg) r8.2 hr) (fun r10 => ?_)
                    refine zc_iadd (pc := 106) dX10_province_106 ?_
                    refine zc_iadd (pc := 107) dX10_province_107 ?_
                    refine zc_letI (fun v11 _ => ?_)
                    refine zc_istore (pc := 108) dX10_province_108 (Nat.le_of_ble_eq_true rfl) rfl (Nat.le_of_ble_eq_true rfl) ?_
                    refine zc_sL (ls1 := [some (.ref 0), none, none, some (.ref (43 + 1 + 2 * x1.toNatClampNeg)), none, some (.int (y5 + (1 : Int32))), some (.int v11)]) rfl ?_
                    refine zc_goto (pc := 110) 64 dX10_province_110 (by decide) ?_
                    exact ih18 (y5 + (1 : Int32)) v11 r8.2
          exact L17 zFU (0 : Int32) (0 : Int32) r4
      · refine zc_sipush (pc := 40) (-1000 : Int32) dX10_province_40 (by decide) ?_
        refine zc_iload (pc := 43) dX10_province_43 rfl ?_
        refine zc_isub (pc := 45) dX10_province_45 ?_
        exact zc_iretK (pc := 46) dX10_province_46 rfl ⟨_, rfl, rfl⟩
    · refine zc_bipush (pc := 26) (-12 : Int32) dX10_province_26 (by decide) ?_
      exact zc_iretK (pc := 28) dX10_province_28 rfl ⟨_, rfl, rfl⟩
  · refine zc_iload_n (pc := 10) dX10_province_10 rfl rfl ?_
    exact zc_iretK (pc := 11) dX10_province_11 rfl ⟨_, rfl, rfl⟩
def zf_X10_village (x1 : Int32) (x2 : Int32) (h : zHp) : Option Int32 :=
  ((zf_X7_isThere 16 x1 h).bind (fun r1 => (if r1 = 0 then some (-1 : Int32) else (if x2 = (0 : Int32) then (if zc_ix x1 7 then some (h.1 (16 + 1) x1.toNatClampNeg) else none) else (if x2 = (1 : Int32) then (if zc_ix x1 7 then some (h.1 (16 + 2) x1.toNatClampNeg) else none) else (if x2 = (2 : Int32) then (if zc_ix x1 7 then some (h.1 (16 + 3) x1.toNatClampNeg) else none) else (if x2 = (3 : Int32) then (if zc_ix x1 7 then some (h.1 (16 + 4) x1.toNatClampNeg) else none) else (if x2 = (4 : Int32) then (if zc_ix x1 7 then some (h.1 (16 + 5) x1.toNatClampNeg) else none) else (if x2 = (5 : Int32) then ((zf_X7_hasSource 16 x1 h).bind (fun r7 => (if r7 = 0 then some (-4 : Int32) else ((zf_X7_wayToSource 16 x1 h).bind (fun r8 => some r8))))) else (if x2 = (6 : Int32) then ((zf_X7_isAble 16 x1 h).bind (fun r9 => (if r9 = 0 then some (0 : Int32) else some (1 : Int32)))) else (if x2 = (7 : Int32) then (if zc_ix x1 7 then some (h.1 (16 + 6) x1.toNatClampNeg) else none) else some (-1 : Int32))))))))))))
set_option maxRecDepth 100000 in
set_option maxHeartbeats 4000000 in
theorem zt_X10_village (x1 : Int32) (x2 : Int32) (h : zHp) {r : Int32} (hr : (zf_X10_village x1 x2 h) = some r) : zc_Cn zM_X10_village [.ref 0, .int x1, .int x2] h ((fun r => zc_mI (r, h)) r) := by
  refine zc_meth (mk := (fun r => zc_mI (r, h))) (o := (zf_X10_village x1 x2 h)) (by decide +kernel) (Nat.le_of_ble_eq_true rfl) ?_ hr
  unfold zf_X10_village
  refine zc_sL (ls1 := [some (.ref 0), some (.int x1), some (.int x2)]) rfl ?_
  refine zc_aload_n (pc := 0) dX10_village_0 rfl rfl ?_
  refine zc_getC (pc := 1) zF_X10_62 rfl dX10_village_1 ?_
  refine zc_iload_n (pc := 4) dX10_village_4 rfl rfl ?_
  refine zc_callIp (pc := 5) [.ref 16, .int x1] rfl (zc_runV (ci := 7) (n0 := 0) (q := (RX7, TX7, 15)) zo_X7_isThere ⟨Nat.le_of_ble_eq_true rfl, Nat.le_of_ble_eq_true rfl⟩ zw_470 zw_379 zw_380 rfl (by decide) rfl rfl dX10_village_5) (Nat.le_of_ble_eq_true rfl) (fun _ hr => zt_X7_isThere 16 rfl x1 h hr) (fun r1 => ?_)
  refine zc_if_ne (pc := 8) 13 dX10_village_8 (by decide) (fun _ => ?_) (fun _ => ?_)
  · refine zc_iconst (pc := 11) (-1 : Int32) dX10_village_11 (by decide) ?_
    exact zc_iretK (pc := 12) dX10_village_12 rfl ⟨_, rfl, rfl⟩
  · refine zc_iload_n (pc := 13) dX10_village_13 rfl rfl ?_
    refine zc_sw (fun s11 => ?_) (fun s11 => ?_)
    · refine zc_tblIn (pc := 14) (off := 46) 60 s11 dX10_village_14 (by decide) ?_
      refine zc_aload_n (pc := 60) dX10_village_60 rfl rfl ?_
      refine zc_getC (pc := 61) zF_X10_62 rfl dX10_village_61 ?_
      refine zc_getO (pc := 64) zF_X10_112 rfl dX10_village_64 ?_
      refine zc_iload_n (pc := 67) dX10_village_67 rfl rfl ?_
      refine zc_guard (fun g2 => ?_)
      refine zc_aldi (pc := 68) rfl g2 dX10_village_68 ?_
      exact zc_iretK (pc := 69) dX10_village_69 rfl ⟨_, rfl, rfl⟩
    refine zc_sw (fun s12 => ?_) (fun s12 => ?_)
    · refine zc_tblIn (pc := 14) (off := 56) 70 s12 dX10_village_14 (by decide) ?_
      refine zc_aload_n (pc := 70) dX10_village_70 rfl rfl ?_
      refine zc_getC (pc := 71) zF_X10_62 rfl dX10_village_71 ?_
      refine zc_getO (pc := 74) zF_X10_115 rfl dX10_village_74 ?_
      refine zc_iload_n (pc := 77) dX10_village_77 rfl rfl ?_
      refine zc_guard (fun g3 => ?_)
      refine zc_aldi (pc := 78) rfl g3 dX10_village_78 ?_
      exact zc_iretK (pc := 79) dX10_village_79 rfl ⟨_, rfl, rfl⟩
    refine zc_sw (fun s13 => ?_) (fun s13 => ?_)
    · refine zc_tblIn (pc := 14) (off := 66) 80 s13 dX10_village_14 (by decide) ?_
      refine zc_aload_n (pc := 80) dX10_village_80 rfl rfl ?_
      refine zc_getC (pc := 81) zF_X10_62 rfl dX10_village_81 ?_
      refine zc_getO (pc := 84) zF_X10_118 rfl dX10_village_84 ?_
      refine zc_iload_n (pc := 87) dX10_village_87 rfl rfl ?_
      refine zc_guard (fun g4 => ?_)
      refine zc_aldi (pc := 88) rfl g4 dX10_village_88 ?_
      exact zc_iretK (pc := 89) dX10_village_89 rfl ⟨_, rfl, rfl⟩
    refine zc_sw (fun s14 => ?_) (fun s14 => ?_)
    · refine zc_tblIn (pc := 14) (off := 76) 90 s14 dX10_village_14 (by decide) ?_
      refine zc_aload_n (pc := 90) dX10_village_90 rfl rfl ?_
      refine zc_getC (pc := 91) zF_X10_62 rfl dX10_village_91 ?_
      refine zc_getO (pc := 94) zF_X10_121 rfl dX10_village_94 ?_
      refine zc_iload_n (pc := 97) dX10_village_97 rfl rfl ?_
      refine zc_guard (fun g5 => ?_)
      refine zc_aldi (pc := 98) rfl g5 dX10_village_98 ?_
      exact zc_iretK (pc := 99) dX10_village_99 rfl ⟨_, rfl, rfl⟩
    refine zc_sw (fun s15 => ?_) (fun s15 => ?_)
    · refine zc_tblIn (pc := 14) (off := 86) 100 s15 dX10_village_14 (by decide) ?_
      refine zc_aload_n (pc := 100) dX10_village_100 rfl rfl ?_
      refine zc_getC (pc := 101) zF_X10_62 rfl dX10_village_101 ?_
      refine zc_getO (pc := 104) zF_X10_124 rfl dX10_village_104 ?_
      refine zc_iload_n (pc := 107) dX10_village_107 rfl rfl ?_
      refine zc_guard (fun g6 => ?_)
      refine zc_aldi (pc := 108) rfl g6 dX10_village_108 ?_
      exact zc_iretK (pc := 109) dX10_village_109 rfl ⟨_, rfl, rfl⟩
    refine zc_sw (fun s16 => ?_) (fun s16 => ?_)
    · refine zc_tblIn (pc := 14) (off := 96) 110 s16 dX10_village_14 (by decide) ?_
      refine zc_aload_n (pc := 110) dX10_village_110 rfl rfl ?_
      refine zc_getC (pc := 111) zF_X10_62 rfl dX10_village_111 ?_
      refine zc_iload_n (pc := 114) dX10_village_114 rfl rfl ?_
      refine zc_callIp (pc := 115) [.ref 16, .int x1] rfl (zc_runV (ci := 7) (n0 := 0) (q := (RX7, TX7, 15)) zo_X7_hasSource ⟨Nat.le_of_ble_eq_true rfl, Nat.le_of_ble_eq_true rfl⟩ zw_471 zw_403 zw_404 rfl (by decide) rfl rfl dX10_village_115) (Nat.le_of_ble_eq_true rfl) (fun _ hr => zt_X7_hasSource 16 rfl x1 h hr) (fun r7 => ?_)
      refine zc_if_eq (pc := 118) 132 dX10_village_118 (by decide) (fun _ => ?_) (fun _ => ?_)
      · refine zc_bipush (pc := 132) (-4 : Int32) dX10_village_132 (by decide) ?_
        exact zc_iretK (pc := 134) dX10_village_134 rfl ⟨_, rfl, rfl⟩
      · refine zc_aload_n (pc := 121) dX10_village_121 rfl rfl ?_
        refine zc_getC (pc := 122) zF_X10_62 rfl dX10_village_122 ?_
        refine zc_iload_n (pc := 125) dX10_village_125 rfl rfl ?_
        refine zc_callIp (pc := 126) [.ref 16, .int x1] rfl (zc_runV (ci := 7) (n0 := 0) (q := (RX7, TX7, 15)) zo_X7_wayToSource ⟨Nat.le_of_ble_eq_true rfl, Nat.le_of_ble_eq_true rfl⟩ zw_472 zw_473 zw_474 rfl (by decide) rfl rfl dX10_village_126) (Nat.le_of_ble_eq_true rfl) (fun _ hr => zt_X7_wayToSource 16 rfl x1 h hr) (fun r8 => ?_)
        refine zc_goto (pc := 129) 134 dX10_village_129 (by decide) ?_
        exact zc_iretK (pc := 134) dX10_village_134 rfl ⟨_, rfl, rfl⟩
    refine zc_sw (fun s17 => ?_) (fun s17 => ?_)
    · refine zc_tblIn (pc := 14) (off := 121) 135 s17 dX10_village_14 (by decide) ?_
      refine zc_aload_n (pc := 135) dX10_village_135 rfl rfl ?_
      refine zc_getC (pc := 136) zF_X10_62 rfl dX10_village_136 ?_
      refine zc_iload_n (pc := 139) dX10_village_139 rfl rfl ?_
      refine zc_callIp (pc := 140) [.ref 16, .int x1] rfl (zc_runV (ci := 7) (n0 := 0) (q := (RX7, TX7, 15)) zo_X7_isAble ⟨Nat.le_of_ble_eq_true rfl, Nat.le_of_ble_eq_true rfl⟩ zw_476 zw_399 zw_400 rfl (by decide) rfl rfl dX10_village_140) (Nat.le_of_ble_eq_true rfl) (fun _ hr => zt_X7_isAble 16 rfl x1 h hr) (fun r9 => ?_)
      refine zc_if_eq (pc := 143) 150 dX10_village_143 (by decide) (fun _ => ?_) (fun _ => ?_)
      · refine zc_iconst (pc := 150) (0 : Int32) dX10_village_150 (by decide) ?_
        exact zc_iretK (pc := 151) dX10_village_151 rfl ⟨_, rfl, rfl⟩
      · refine zc_iconst (pc := 146) (1 : Int32) dX10_village_146 (by decide) ?_
        refine zc_goto (pc := 147) 151 dX10_village_147 (by decide) ?_
        exact zc_iretK (pc := 151) dX10_village_151 rfl ⟨_, rfl, rfl⟩
    refine zc_sw (fun s18 => ?_) (fun s18 => ?_)
    · refine zc_tblIn (pc := 14) (off := 138) 152 s18 dX10_village_14 (by decide) ?_
      refine zc_aload_n (pc := 152) dX10_village_152 rfl rfl ?_
      refine zc_getC (pc := 153) zF_X10_62 rfl dX10_village_153 ?_
      refine zc_getO (pc := 156) zF_X10_136 rfl dX10_village_156 ?_
      refine zc_iload_n (pc := 159) dX10_village_159 rfl rfl ?_
      refine zc_guard (fun g10 => ?_)
      refine zc_aldi (pc := 160) rfl g10 dX10_village_160 ?_
      exact zc_iretK (pc := 161) dX10_village_161 rfl ⟨_, rfl, rfl⟩
    refine zc_tblD (pc := 14) 162 [0, 1, 2, 3, 4, 5, 6, 7] dX10_village_14 (by decide) (List.forall_mem_cons.mpr ⟨zc_neJ s11 (by decide), (List.forall_mem_cons.mpr ⟨zc_neJ s12 (by decide), (List.forall_mem_cons.mpr ⟨zc_neJ s13 (by decide), (List.forall_mem_cons.mpr ⟨zc_neJ s14 (by decide), (List.forall_mem_cons.mpr ⟨zc_neJ s15 (by decide), (List.forall_mem_cons.mpr ⟨zc_neJ s16 (by decide), (List.forall_mem_cons.mpr ⟨zc_neJ s17 (by decide), (List.forall_mem_cons.mpr ⟨zc_neJ s18 (by decide), (fun _ hm => nomatch hm)⟩)⟩)⟩)⟩)⟩)⟩)⟩)⟩) ?_
    refine zc_iconst (pc := 162) (-1 : Int32) dX10_village_162 (by decide) ?_
    exact zc_iretK (pc := 163) dX10_village_163 rfl ⟨_, rfl, rfl⟩
def zf_X10_refuseKind (x1 : Int32) (h : zHp) : Option Int32 :=
  ((zf_X10_refuseAllBut x1 (1 : Int32) h).bind (fun r1 => some r1))
set_option maxRecDepth 100000 in
set_option maxHeartbeats 4000000 in
theorem zt_X10_refuseKind (x1 : Int32) (h : zHp) {r : Int32} (hr : (zf_X10_refuseKind x1 h) = some r) : zc_Cn zM_X10_refuseKind [.ref 0, .int x1] h ((fun r => zc_mI (r, h)) r) := by
  refine zc_meth (mk := (fun r => zc_mI (r, h))) (o := (zf_X10_refuseKind x1 h)) (by decide +kernel) (Nat.le_of_ble_eq_true rfl) ?_ hr
  unfold zf_X10_refuseKind
  refine zc_sL (ls1 := [some (.ref 0), some (.int x1)]) rfl ?_
  refine zc_aload_n (pc := 0) dX10_refuseKind_0 rfl rfl ?_
  refine zc_iload_n (pc := 1) dX10_refuseKind_1 rfl rfl ?_
  refine zc_iconst (pc := 2) (1 : Int32) dX10_refuseKind_2 (by decide) ?_
  refine zc_callIp (pc := 3) [.ref 0, .int x1, .int (1 : Int32)] rfl (zc_runV (ci := 10) (n0 := 0) (q := (RX10, TX10, 12)) zo_X10_refuseAllBut ⟨Nat.le_of_ble_eq_true rfl, Nat.le_of_ble_eq_true rfl⟩ zw_231 zw_233 zs_1 rfl (by decide) rfl rfl dX10_refuseKind_3) (Nat.le_of_ble_eq_true rfl) (fun _ hr => zt_X10_refuseAllBut x1 (1 : Int32) h hr) (fun r1 => ?_)
  exact zc_iretK (pc := 6) dX10_refuseKind_6 rfl ⟨_, rfl, rfl⟩
def zf_X10_comes (x1 : Int32) (x2 : Int32) (h : zHp) : Option (Int32 × zHp) :=
  ((zf_X10_isShelf x1).bind (fun r1 => (if r1 = 0 then some ((-1 : Int32), h) else ((zf_X10_isPlace x2).bind (fun r2 => (if r2 = 0 then some ((-1 : Int32), h) else ((zf_X10_refuseKind x1 h).bind (fun r3 => (if r3 = 0 then (if zc_ix x1 8 then (if zc_ix x1 8 then ((zf_X7_add 16 (h.1 (43 + 1 + 2 * x1.toNatClampNeg) 1) (h.1 (43 + 1 + 2 * x1.toNatClampNeg) 2) x2 (h.1 16 9) h).bind (fun r6 => some (r6.1, r6.2))) else none) else none) else some (r3, h))))))))))
set_option maxRecDepth 100000 in
set_option maxHeartbeats 4000000 in
theorem zt_X10_comes (x1 : Int32) (x2 : Int32) (h : zHp) {r : (Int32 × zHp)} (hr : (zf_X10_comes x1 x2 h) = some r) : zc_Cn zM_X10_comes [.ref 0, .int x1, .int x2] h (zc_mI r) := by
  refine zc_meth (mk := zc_mI) (o := (zf_X10_comes x1 x2 h)) (by decide +kernel) (Nat.le_of_ble_eq_true rfl) ?_ hr
  unfold zf_X10_comes
  refine zc_sL (ls1 := [some (.ref 0), some (.int x1), some (.int x2), none]) rfl ?_
  refine zc_iload_n (pc := 0) dX10_comes_0 rfl rfl ?_
  refine zc_callIp (pc := 1) [.int x1] rfl (zc_runS zo_X10_isShelf ⟨Nat.le_of_ble_eq_true rfl, Nat.le_of_ble_eq_true rfl⟩ zw_235 zw_236 rfl dX10_comes_1) (Nat.le_of_ble_eq_true rfl) (fun _ hr => zt_X10_isShelf x1 h hr) (fun r1 => ?_)
  refine zc_if_eq (pc := 4) 14 dX10_comes_4 (by decide) (fun _ => ?_) (fun _ => ?_)
  · refine zc_iconst (pc := 14) (-1 : Int32) dX10_comes_14 (by decide) ?_
    exact zc_iretK (pc := 15) dX10_comes_15 rfl ⟨_, rfl, rfl⟩
  · refine zc_iload_n (pc := 7) dX10_comes_7 rfl rfl ?_
    refine zc_callIp (pc := 8) [.int x2] rfl (zc_runS zo_X10_isPlace ⟨Nat.le_of_ble_eq_true rfl, Nat.le_of_ble_eq_true rfl⟩ zw_481 zw_275 rfl dX10_comes_8) (Nat.le_of_ble_eq_true rfl) (fun _ hr => zt_X10_isPlace x2 h hr) (fun r2 => ?_)
    refine zc_if_ne (pc := 11) 16 dX10_comes_11 (by decide) (fun _ => ?_) (fun _ => ?_)
    · refine zc_iconst (pc := 14) (-1 : Int32) dX10_comes_14 (by decide) ?_
      exact zc_iretK (pc := 15) dX10_comes_15 rfl ⟨_, rfl, rfl⟩
    · refine zc_aload_n (pc := 16) dX10_comes_16 rfl rfl ?_
      refine zc_iload_n (pc := 17) dX10_comes_17 rfl rfl ?_
      refine zc_callIp (pc := 18) [.ref 0, .int x1] rfl (zc_runV (ci := 10) (n0 := 0) (q := (RX10, TX10, 12)) zo_X10_refuseKind ⟨Nat.le_of_ble_eq_true rfl, Nat.le_of_ble_eq_true rfl⟩ zw_482 zw_484 zs_4 rfl (by decide) rfl rfl dX10_comes_18) (Nat.le_of_ble_eq_true rfl) (fun _ hr => zt_X10_refuseKind x1 h hr) (fun r3 => ?_)
      refine zc_istore_n (pc := 21) dX10_comes_21 rfl (Nat.le_of_ble_eq_true rfl) rfl (Nat.le_of_ble_eq_true rfl) ?_
      refine zc_sL (ls1 := [some (.ref 0), some (.int x1), some (.int x2), some (.int r3)]) rfl ?_
      refine zc_iload_n (pc := 22) dX10_comes_22 rfl rfl ?_
      refine zc_if_eq (pc := 23) 28 dX10_comes_23 (by decide) (fun _ => ?_) (fun _ => ?_)
      · refine zc_aload_n (pc := 28) dX10_comes_28 rfl rfl ?_
        refine zc_getC (pc := 29) zF_X10_62 rfl dX10_comes_29 ?_
        refine zc_aload_n (pc := 32) dX10_comes_32 rfl rfl ?_
        refine zc_getC (pc := 33) zF_X10_74 rfl dX10_comes_33 ?_
        refine zc_iload_n (pc := 36) dX10_comes_36 rfl rfl ?_
        refine zc_guard (fun g4 => ?_)
        refine zc_aldS (pc := 37) rfl g4 dX10_comes_37 ?_
        refine zc_getI (pc := 38) zF_X10_148 (zs_s g4) dX10_comes_38 ?_
        refine zc_aload_n (pc := 41) dX10_comes_41 rfl rfl ?_
        refine zc_getC (pc := 42) zF_X10_74 rfl dX10_comes_42 ?_
        refine zc_iload_n (pc := 45) dX10_comes_45 rfl rfl ?_
        refine zc_guard (fun g5 => ?_)
        refine zc_aldS (pc := 46) rfl g5 dX10_comes_46 ?_
        refine zc_getI (pc := 47) zF_X10_150 (zs_s g5) dX10_comes_47 ?_
        refine zc_iload_n (pc := 50) dX10_comes_50 rfl rfl ?_
        refine zc_aload_n (pc := 51) dX10_comes_51 rfl rfl ?_
        refine zc_getC (pc := 52) zF_X10_62 rfl dX10_comes_52 ?_
        refine zc_getI (pc := 55) zF_X10_152 rfl dX10_comes_55 ?_
        refine zc_callI (pc := 58) [.ref 16, .int (h.1 (43 + 1 + 2 * x1.toNatClampNeg) 1), .int (h.1 (43 + 1 + 2 * x1.toNatClampNeg) 2), .int x2, .int (h.1 16 9)] rfl (zc_runV (ci := 7) (n0 := 0) (q := (RX7, TX7, 15)) zo_X7_add ⟨Nat.le_of_ble_eq_true rfl, Nat.le_of_ble_eq_true rfl⟩ zw_264 zw_265 zw_266 rfl (by decide) rfl rfl dX10_comes_58) (Nat.le_of_ble_eq_true rfl) (fun _ hr => zt_X7_add 16 rfl (h.1 (43 + 1 + 2 * x1.toNatClampNeg) 1) (h.1 (43 + 1 + 2 * x1.toNatClampNeg) 2) x2 (h.1 16 9) h hr) (fun r6 => ?_)
        exact zc_iretK (pc := 61) dX10_comes_61 rfl ⟨_, rfl, rfl⟩
      · refine zc_iload_n (pc := 26) dX10_comes_26 rfl rfl ?_
        exact zc_iretK (pc := 27) dX10_comes_27 rfl ⟨_, rfl, rfl⟩
def zf_X10_moves (x1 : Int32) (x2 : Int32) (h : zHp) : Option (Int32 × zHp) :=
  ((zf_X7_isThere 16 x1 h).bind (fun r1 => (if r1 = 0 then some ((-1 : Int32), h) else ((zf_X10_isPlace x2).bind (fun r2 => (if r2 = 0 then some ((-1 : Int32), h) else (if zc_ix x1 7 then ((some (h.1 (16 + 3) x1.toNatClampNeg) : Option Int32).bind (fun v4 => (if zc_ix x1 7 then ((some (zc_ui h (16 + 3) x1.toNatClampNeg x2) : Option zHp).bind (fun h6 => some (v4, h6))) else none))) else none)))))))
set_option maxRecDepth 100000 in
set_option maxHeartbeats 4000000 in
theorem zt_X10_moves (x1 : Int32) (x2 : Int32) (h : zHp) {r : (Int32 × zHp)} (hr : (zf_X10_moves x1 x2 h) = some r) : zc_Cn zM_X10_moves [.ref 0, .int x1, .int x2] h (zc_mI r) := by
  refine zc_meth (mk := zc_mI) (o := (zf_X10_moves x1 x2 h)) (by decide +kernel) (Nat.le_of_ble_eq_true rfl) ?_ hr
  unfold zf_X10_moves
  refine zc_sL (ls1 := [some (.ref 0), some (.int x1), some (.int x2), none]) rfl ?_
  refine zc_aload_n (pc := 0) dX10_moves_0 rfl rfl ?_
  refine zc_getC (pc := 1) zF_X10_62 rfl dX10_moves_1 ?_
  refine zc_iload_n (pc := 4) dX10_moves_4 rfl rfl ?_
  refine zc_callIp (pc := 5) [.ref 16, .int x1] rfl (zc_runV (ci := 7) (n0 := 0) (q := (RX7, TX7, 15)) zo_X7_isThere ⟨Nat.le_of_ble_eq_true rfl, Nat.le_of_ble_eq_true rfl⟩ zw_470 zw_379 zw_380 rfl (by decide) rfl rfl dX10_moves_5) (Nat.le_of_ble_eq_true rfl) (fun _ hr => zt_X7_isThere 16 rfl x1 h hr) (fun r1 => ?_)
  refine zc_if_eq (pc := 8) 18 dX10_moves_8 (by decide) (fun _ => ?_) (fun _ => ?_)
  · refine zc_iconst (pc := 18) (-1 : Int32) dX10_moves_18 (by decide) ?_
    exact zc_iretK (pc := 19) dX10_moves_19 rfl ⟨_, rfl, rfl⟩
  · refine zc_iload_n (pc := 11) dX10_moves_11 rfl rfl ?_
    refine zc_callIp (pc := 12) [.int x2] rfl (zc_runS zo_X10_isPlace ⟨Nat.le_of_ble_eq_true rfl, Nat.le_of_ble_eq_true rfl⟩ zw_481 zw_275 rfl dX10_moves_12) (Nat.le_of_ble_eq_true rfl) (fun _ hr => zt_X10_isPlace x2 h hr) (fun r2 => ?_)
    refine zc_if_ne (pc := 15) 20 dX10_moves_15 (by decide) (fun _ => ?_) (fun _ => ?_)
    · refine zc_iconst (pc := 18) (-1 : Int32) dX10_moves_18 (by decide) ?_
      exact zc_iretK (pc := 19) dX10_moves_19 rfl ⟨_, rfl, rfl⟩
    · refine zc_aload_n (pc := 20) dX10_moves_20 rfl rfl ?_
      refine zc_getC (pc := 21) zF_X10_62 rfl dX10_moves_21 ?_
      refine zc_getO (pc := 24) zF_X10_118 rfl dX10_moves_24 ?_
      refine zc_iload_n (pc := 27) dX10_moves_27 rfl rfl ?_
      refine zc_guard (fun g3 => ?_)
      refine zc_aldi (pc := 28) rfl g3 dX10_moves_28 ?_
      refine zc_letI (fun v4 _ => ?_)
      refine zc_istore_n (pc := 29) dX10_moves_29 rfl (Nat.le_of_ble_eq_true rfl) rfl (Nat.le_of_ble_eq_true rfl) ?_
      refine zc_sL (ls1 := [some (.ref 0), some (.int x1), some (.int x2), some (.int v4)]) rfl ?_
      refine zc_aload_n (pc := 30) dX10_moves_30 rfl rfl ?_
      refine zc_getC (pc := 31) zF_X10_62 rfl dX10_moves_31 ?_
      refine zc_getO (pc := 34) zF_X10_118 rfl dX10_moves_34 ?_
      refine zc_iload_n (pc := 37) dX10_moves_37 rfl rfl ?_
      refine zc_iload_n (pc := 38) dX10_moves_38 rfl rfl ?_
      refine zc_guard (fun g5 => ?_)
      refine zc_asti (pc := 39) rfl g5 dX10_moves_39 ?_
      refine zc_letH (fun h6 _ => ?_)
      refine zc_iload_n (pc := 40) dX10_moves_40 rfl rfl ?_
      exact zc_iretK (pc := 41) dX10_moves_41 rfl ⟨_, rfl, rfl⟩
def zf_X10_fetches (x1 : Int32) (x2 : Int32) (h : zHp) : Option (Int32 × zHp) :=
  ((zf_X7_setFrom 16 x1 x2 h).bind (fun r1 => some (r1.1, r1.2)))
set_option maxRecDepth 100000 in
set_option maxHeartbeats 4000000 in
theorem zt_X10_fetches (x1 : Int32) (x2 : Int32) (h : zHp) {r : (Int32 × zHp)} (hr : (zf_X10_fetches x1 x2 h) = some r) : zc_Cn zM_X10_fetches [.ref 0, .int x1, .int x2] h (zc_mI r) := by
  refine zc_meth (mk := zc_mI) (o := (zf_X10_fetches x1 x2 h)) (by decide +kernel) (Nat.le_of_ble_eq_true rfl) ?_ hr
  unfold zf_X10_fetches
  refine zc_sL (ls1 := [some (.ref 0), some (.int x1), some (.int x2)]) rfl ?_
  refine zc_aload_n (pc := 0) dX10_fetches_0 rfl rfl ?_
  refine zc_getC (pc := 1) zF_X10_62 rfl dX10_fetches_1 ?_
  refine zc_iload_n (pc := 4) dX10_fetches_4 rfl rfl ?_
  refine zc_iload_n (pc := 5) dX10_fetches_5 rfl rfl ?_
  refine zc_callI (pc := 6) [.ref 16, .int x1, .int x2] rfl (zc_runV (ci := 7) (n0 := 0) (q := (RX7, TX7, 15)) zo_X7_setFrom ⟨Nat.le_of_ble_eq_true rfl, Nat.le_of_ble_eq_true rfl⟩ zw_382 zw_383 zw_384 rfl (by decide) rfl rfl dX10_fetches_6) (Nat.le_of_ble_eq_true rfl) (fun _ hr => zt_X7_setFrom 16 rfl x1 x2 h hr) (fun r1 => ?_)
  exact zc_iretK (pc := 9) dX10_fetches_9 rfl ⟨_, rfl, rfl⟩
def zf_X10_stocks (x1 : Int32) (x2 : Int32) (h : zHp) : Option (Int32 × zHp) :=
  ((zf_X7_setStock 16 x1 x2 h).bind (fun r1 => some (r1.1, r1.2)))
set_option maxRecDepth 100000 in
set_option maxHeartbeats 4000000 in
theorem zt_X10_stocks (x1 : Int32) (x2 : Int32) (h : zHp) {r : (Int32 × zHp)} (hr : (zf_X10_stocks x1 x2 h) = some r) : zc_Cn zM_X10_stocks [.ref 0, .int x1, .int x2] h (zc_mI r) := by
  refine zc_meth (mk := zc_mI) (o := (zf_X10_stocks x1 x2 h)) (by decide +kernel) (Nat.le_of_ble_eq_true rfl) ?_ hr
  unfold zf_X10_stocks
  refine zc_sL (ls1 := [some (.ref 0), some (.int x1), some (.int x2)]) rfl ?_
  refine zc_aload_n (pc := 0) dX10_stocks_0 rfl rfl ?_
  refine zc_getC (pc := 1) zF_X10_62 rfl dX10_stocks_1 ?_
  refine zc_iload_n (pc := 4) dX10_stocks_4 rfl rfl ?_
  refine zc_iload_n (pc := 5) dX10_stocks_5 rfl rfl ?_
  refine zc_callI (pc := 6) [.ref 16, .int x1, .int x2] rfl (zc_runV (ci := 7) (n0 := 0) (q := (RX7, TX7, 15)) zo_X7_setStock ⟨Nat.le_of_ble_eq_true rfl, Nat.le_of_ble_eq_true rfl⟩ zw_374 zw_375 zw_376 rfl (by decide) rfl rfl dX10_stocks_6) (Nat.le_of_ble_eq_true rfl) (fun _ hr => zt_X7_setStock 16 rfl x1 x2 h hr) (fun r1 => ?_)
  exact zc_iretK (pc := 9) dX10_stocks_9 rfl ⟨_, rfl, rfl⟩
def zf_X10_sits (x1 : Int32) (h : zHp) : Option (Int32 × zHp) :=
  ((zf_X7_setChair 16 x1 h).bind (fun r1 => some (r1.1, r1.2)))
set_option maxRecDepth 100000 in
set_option maxHeartbeats 4000000 in
theorem zt_X10_sits (x1 : Int32) (h : zHp) {r : (Int32 × zHp)} (hr : (zf_X10_sits x1 h) = some r) : zc_Cn zM_X10_sits [.ref 0, .int x1] h (zc_mI r) := by
  refine zc_meth (mk := zc_mI) (o := (zf_X10_sits x1 h)) (by decide +kernel) (Nat.le_of_ble_eq_true rfl) ?_ hr
  unfold zf_X10_sits
  refine zc_sL (ls1 := [some (.ref 0), some (.int x1)]) rfl ?_
  refine zc_aload_n (pc := 0) dX10_sits_0 rfl rfl ?_
  refine zc_getC (pc := 1) zF_X10_62 rfl dX10_sits_1 ?_
  refine zc_iload_n (pc := 4) dX10_sits_4 rfl rfl ?_
  refine zc_callI (pc := 5) [.ref 16, .int x1] rfl (zc_runV (ci := 7) (n0 := 0) (q := (RX7, TX7, 15)) zo_X7_setChair ⟨Nat.le_of_ble_eq_true rfl, Nat.le_of_ble_eq_true rfl⟩ zw_366 zw_367 zw_368 rfl (by decide) rfl rfl dX10_sits_5) (Nat.le_of_ble_eq_true rfl) (fun _ hr => zt_X7_setChair 16 rfl x1 h hr) (fun r1 => ?_)
  exact zc_iretK (pc := 8) dX10_sits_8 rfl ⟨_, rfl, rfl⟩
def zf_X10_sun (x1 : Int32) (x2 : Int32) (h : zHp) : Option (Int32 × zHp) :=
  ((zf_X7_setSun 16 x1 x2 h).bind (fun r1 => some (r1.1, r1.2)))
set_option maxRecDepth 100000 in
set_option maxHeartbeats 4000000 in
theorem zt_X10_sun (x1 : Int32) (x2 : Int32) (h : zHp) {r : (Int32 × zHp)} (hr : (zf_X10_sun x1 x2 h) = some r) : zc_Cn zM_X10_sun [.ref 0, .int x1, .int x2] h (zc_mI r) := by
  refine zc_meth (mk := zc_mI) (o := (zf_X10_sun x1 x2 h)) (by decide +kernel) (Nat.le_of_ble_eq_true rfl) ?_ hr
  unfold zf_X10_sun
  refine zc_sL (ls1 := [some (.ref 0), some (.int x1), some (.int x2)]) rfl ?_
  refine zc_aload_n (pc := 0) dX10_sun_0 rfl rfl ?_
  refine zc_getC (pc := 1) zF_X10_62 rfl dX10_sun_1 ?_
  refine zc_iload_n (pc := 4) dX10_sun_4 rfl rfl ?_
  refine zc_iload_n (pc := 5) dX10_sun_5 rfl rfl ?_
  refine zc_callI (pc := 6) [.ref 16, .int x1, .int x2] rfl (zc_runV (ci := 7) (n0 := 0) (q := (RX7, TX7, 15)) zo_X7_setSun ⟨Nat.le_of_ble_eq_true rfl, Nat.le_of_ble_eq_true rfl⟩ zw_370 zw_371 zw_372 rfl (by decide) rfl rfl dX10_sun_6) (Nat.le_of_ble_eq_true rfl) (fun _ hr => zt_X7_setSun 16 rfl x1 x2 h hr) (fun r1 => ?_)
  exact zc_iretK (pc := 9) dX10_sun_9 rfl ⟨_, rfl, rfl⟩
def zf_X10_days (x1 : Int32) (h : zHp) : Option (Int32 × zHp) :=
  ((zf_X7_refuseDays 16 x1 h).bind (fun r1 => (if r1 = 0 then ((zf_X7_goDays 16 x1 h).bind (fun r2 => ((zf_X7_allStock 16 r2).bind (fun r3 => some (r3, r2))))) else some (r1, h))))
set_option maxRecDepth 100000 in
set_option maxHeartbeats 4000000 in
theorem zt_X10_days (x1 : Int32) (h : zHp) {r : (Int32 × zHp)} (hr : (zf_X10_days x1 h) = some r) : zc_Cn zM_X10_days [.ref 0, .int x1] h (zc_mI r) := by
  refine zc_meth (mk := zc_mI) (o := (zf_X10_days x1 h)) (by decide +kernel) (Nat.le_of_ble_eq_true rfl) ?_ hr
  unfold zf_X10_days
  refine zc_sL (ls1 := [some (.ref 0), some (.int x1), none]) rfl ?_
  refine zc_aload_n (pc := 0) dX10_days_0 rfl rfl ?_
  refine zc_getC (pc := 1) zF_X10_62 rfl dX10_days_1 ?_
  refine zc_iload_n (pc := 4) dX10_days_4 rfl rfl ?_
  refine zc_callIp (pc := 5) [.ref 16, .int x1] rfl (zc_runV (ci := 7) (n0 := 0) (q := (RX7, TX7, 15)) zo_X7_refuseDays ⟨Nat.le_of_ble_eq_true rfl, Nat.le_of_ble_eq_true rfl⟩ zw_386 zw_387 zw_388 rfl (by decide) rfl rfl dX10_days_5) (Nat.le_of_ble_eq_true rfl) (fun _ hr => zt_X7_refuseDays 16 rfl x1 h hr) (fun r1 => ?_)
  refine zc_istore_n (pc := 8) dX10_days_8 rfl (Nat.le_of_ble_eq_true rfl) rfl (Nat.le_of_ble_eq_true rfl) ?_
  refine zc_sL (ls1 := [some (.ref 0), some (.int x1), some (.int r1)]) rfl ?_
  refine zc_iload_n (pc := 9) dX10_days_9 rfl rfl ?_
  refine zc_if_eq (pc := 10) 15 dX10_days_10 (by decide) (fun _ => ?_) (fun _ => ?_)
  · refine zc_aload_n (pc := 15) dX10_days_15 rfl rfl ?_
    refine zc_getC (pc := 16) zF_X10_62 rfl dX10_days_16 ?_
    refine zc_iload_n (pc := 19) dX10_days_19 rfl rfl ?_
    refine zc_callV (pc := 20) [.ref 16, .int x1] rfl (zc_runV (ci := 7) (n0 := 0) (q := (RX7, TX7, 15)) zo_X7_goDays ⟨Nat.le_of_ble_eq_true rfl, Nat.le_of_ble_eq_true rfl⟩ zw_390 zw_391 zw_392 rfl (by decide) rfl rfl dX10_days_20) (Nat.le_of_ble_eq_true rfl) (fun _ hr => zt_X7_goDays 16 rfl x1 h hr) (fun r2 => ?_)
    refine zc_aload_n (pc := 23) dX10_days_23 rfl rfl ?_
    refine zc_getC (pc := 24) zF_X10_62 rfl dX10_days_24 ?_
    refine zc_callIp (pc := 27) [.ref 16] rfl (zc_runV (ci := 7) (n0 := 0) (q := (RX7, TX7, 15)) zo_X7_allStock ⟨Nat.le_of_ble_eq_true rfl, Nat.le_of_ble_eq_true rfl⟩ zw_510 zw_511 zw_512 rfl (by decide) rfl rfl dX10_days_27) (Nat.le_of_ble_eq_true rfl) (fun _ hr => zt_X7_allStock 16 rfl r2 hr) (fun r3 => ?_)
    exact zc_iretK (pc := 30) dX10_days_30 rfl ⟨_, rfl, rfl⟩
  · refine zc_iload_n (pc := 13) dX10_days_13 rfl rfl ?_
    exact zc_iretK (pc := 14) dX10_days_14 rfl ⟨_, rfl, rfl⟩
def zf_X10_isDaysOn (x0 : Int32) : Option Int32 :=
  (if x0 < 0 then some (0 : Int32) else (if (60 : Int32) < x0 then some (0 : Int32) else some (1 : Int32)))
set_option maxRecDepth 100000 in
set_option maxHeartbeats 4000000 in
theorem zt_X10_isDaysOn (x0 : Int32) (h : zHp) {r : Int32} (hr : (zf_X10_isDaysOn x0) = some r) : zc_Cn zM_X10_isDaysOn [.int x0] h ((fun r => zc_mI (r, h)) r) := by
  refine zc_meth (mk := (fun r => zc_mI (r, h))) (o := (zf_X10_isDaysOn x0)) (by decide +kernel) (Nat.le_of_ble_eq_true rfl) ?_ hr
  unfold zf_X10_isDaysOn
  refine zc_sL (ls1 := [some (.int x0)]) rfl ?_
  refine zc_iload_n (pc := 0) dX10_isDaysOn_0 rfl rfl ?_
  refine zc_if_lt (pc := 1) 14 dX10_isDaysOn_1 (by decide) (fun _ => ?_) (fun _ => ?_)
  · refine zc_iconst (pc := 14) (0 : Int32) dX10_isDaysOn_14 (by decide) ?_
    exact zc_zretK (pc := 15) dX10_isDaysOn_15 rfl (by decide) ⟨_, rfl, rfl⟩
  · refine zc_iload_n (pc := 4) dX10_isDaysOn_4 rfl rfl ?_
    refine zc_bipush (pc := 5) (60 : Int32) dX10_isDaysOn_5 (by decide) ?_
    refine zc_icmp_gt (pc := 7) 14 dX10_isDaysOn_7 (by decide) (fun _ => ?_) (fun _ => ?_)
    · refine zc_iconst (pc := 14) (0 : Int32) dX10_isDaysOn_14 (by decide) ?_
      exact zc_zretK (pc := 15) dX10_isDaysOn_15 rfl (by decide) ⟨_, rfl, rfl⟩
    · refine zc_iconst (pc := 10) (1 : Int32) dX10_isDaysOn_10 (by decide) ?_
      refine zc_goto (pc := 11) 15 dX10_isDaysOn_11 (by decide) ?_
      exact zc_zretK (pc := 15) dX10_isDaysOn_15 rfl (by decide) ⟨_, rfl, rfl⟩
def zf_X10_then (x1 : Int32) (x2 : Int32) (h : zHp) : Option (Int32 × zHp) :=
  ((zf_X10_isDaysOn x1).bind (fun r1 => (if r1 = 0 then some ((-1 : Int32), h) else (if x2 < 0 then some ((-1 : Int32), h) else (if x2 ≤ (3 : Int32) then ((zf_X7_become 25 16 h).bind (fun r2 => ((zf_X7_goDays 25 x1 r2).bind (fun r3 => (if x2 = (0 : Int32) then some ((r3.1 25 10), r3) else (if x2 = (1 : Int32) then some ((r3.1 25 13), r3) else (if x2 = (2 : Int32) then ((zf_X7_ableBits 25 r3).bind (fun r4 => some (r4, r3))) else ((zf_X7_allStock 25 r3).bind (fun r5 => some (r5, r3)))))))))) else some ((-1 : Int32), h))))))
set_option maxRecDepth 100000 in
set_option maxHeartbeats 4000000 in
theorem zt_X10_then (x1 : Int32) (x2 : Int32) (h : zHp) {r : (Int32 × zHp)} (hr : (zf_X10_then x1 x2 h) = some r) : zc_Cn zM_X10_then [.ref 0, .int x1, .int x2] h (zc_mI r) := by
  refine zc_meth (mk := zc_mI) (o := (zf_X10_then x1 x2 h)) (by decide +kernel) (Nat.le_of_ble_eq_true rfl) ?_ hr
  unfold zf_X10_then
  refine zc_sL (ls1 := [some (.ref 0), some (.int x1), some (.int x2)]) rfl ?_
  refine zc_iload_n (pc := 0) dX10_then_0 rfl rfl ?_
  refine zc_callIp (pc := 1) [.int x1] rfl (zc_runS zo_X10_isDaysOn ⟨Nat.le_of_ble_eq_true rfl, Nat.le_of_ble_eq_true rfl⟩ zw_518 zw_519 rfl dX10_then_1) (Nat.le_of_ble_eq_true rfl) (fun _ hr => zt_X10_isDaysOn x1 h hr) (fun r1 => ?_)
  refine zc_if_eq (pc := 4) 16 dX10_then_4 (by decide) (fun _ => ?_) (fun _ => ?_)
  · refine zc_iconst (pc := 16) (-1 : Int32) dX10_then_16 (by decide) ?_
    exact zc_iretK (pc := 17) dX10_then_17 rfl ⟨_, rfl, rfl⟩
  · refine zc_iload_n (pc := 7) dX10_then_7 rfl rfl ?_
    refine zc_if_lt (pc := 8) 16 dX10_then_8 (by decide) (fun _ => ?_) (fun _ => ?_)
    · refine zc_iconst (pc := 16) (-1 : Int32) dX10_then_16 (by decide) ?_
      exact zc_iretK (pc := 17) dX10_then_17 rfl ⟨_, rfl, rfl⟩
    · refine zc_iload_n (pc := 11) dX10_then_11 rfl rfl ?_
      refine zc_iconst (pc := 12) (3 : Int32) dX10_then_12 (by decide) ?_
      refine zc_icmp_le (pc := 13) 18 dX10_then_13 (by decide) (fun _ => ?_) (fun _ => ?_)
      · refine zc_aload_n (pc := 18) dX10_then_18 rfl rfl ?_
        refine zc_getC (pc := 19) zF_X10_66 rfl dX10_then_19 ?_
        refine zc_aload_n (pc := 22) dX10_then_22 rfl rfl ?_
        refine zc_getC (pc := 23) zF_X10_62 rfl dX10_then_23 ?_
        refine zc_callV (pc := 26) [.ref 25, .ref 16] rfl (zc_runV (ci := 7) (n0 := 0) (q := (RX7, TX7, 15)) zo_X7_become ⟨Nat.le_of_ble_eq_true rfl, Nat.le_of_ble_eq_true rfl⟩ zw_244 zw_245 zw_246 rfl (by decide) rfl rfl dX10_then_26) (Nat.le_of_ble_eq_true rfl) (fun _ hr => zt_X7_become 25 rfl 16 rfl h hr) (fun r2 => ?_)
        refine zc_aload_n (pc := 29) dX10_then_29 rfl rfl ?_
        refine zc_getC (pc := 30) zF_X10_66 rfl dX10_then_30 ?_
        refine zc_iload_n (pc := 33) dX10_then_33 rfl rfl ?_
        refine zc_callV (pc := 34) [.ref 25, .int x1] rfl (zc_runV (ci := 7) (n0 := 0) (q := (RX7, TX7, 15)) zo_X7_goDays ⟨Nat.le_of_ble_eq_true rfl, Nat.le_of_ble_eq_true rfl⟩ zw_390 zw_391 zw_392 rfl (by decide) rfl rfl dX10_then_34) (Nat.le_of_ble_eq_true rfl) (fun _ hr => zt_X7_goDays 25 rfl x1 r2 hr) (fun r3 => ?_)
        refine zc_iload_n (pc := 37) dX10_then_37 rfl rfl ?_
        refine zc_sw (fun s6 => ?_) (fun s6 => ?_)
        · refine zc_tblIn (pc := 38) (off := 26) 64 s6 dX10_then_38 (by decide) ?_
          refine zc_aload_n (pc := 64) dX10_then_64 rfl rfl ?_
          refine zc_getC (pc := 65) zF_X10_66 rfl dX10_then_65 ?_
          refine zc_getI (pc := 68) zF_X10_186 rfl dX10_then_68 ?_
          exact zc_iretK (pc := 71) dX10_then_71 rfl ⟨_, rfl, rfl⟩
        refine zc_sw (fun s7 => ?_) (fun s7 => ?_)
        · refine zc_tblIn (pc := 38) (off := 34) 72 s7 dX10_then_38 (by decide) ?_
          refine zc_aload_n (pc := 72) dX10_then_72 rfl rfl ?_
          refine zc_getC (pc := 73) zF_X10_66 rfl dX10_then_73 ?_
          refine zc_getI (pc := 76) zF_X10_189 rfl dX10_then_76 ?_
          exact zc_iretK (pc := 79) dX10_then_79 rfl ⟨_, rfl, rfl⟩
        refine zc_sw (fun s8 => ?_) (fun s8 => ?_)
        · refine zc_tblIn (pc := 38) (off := 42) 80 s8 dX10_then_38 (by decide) ?_
          refine zc_aload_n (pc := 80) dX10_then_80 rfl rfl ?_
          refine zc_getC (pc := 81) zF_X10_66 rfl dX10_then_81 ?_
          refine zc_callIp (pc := 84) [.ref 25] rfl (zc_runV (ci := 7) (n0 := 0) (q := (RX7, TX7, 15)) zo_X7_ableBits ⟨Nat.le_of_ble_eq_true rfl, Nat.le_of_ble_eq_true rfl⟩ zw_521 zw_522 zw_523 rfl (by decide) rfl rfl dX10_then_84) (Nat.le_of_ble_eq_true rfl) (fun _ hr => zt_X7_ableBits 25 rfl r3 hr) (fun r4 => ?_)
          exact zc_iretK (pc := 87) dX10_then_87 rfl ⟨_, rfl, rfl⟩
        refine zc_tblD (pc := 38) 88 [0, 1, 2] dX10_then_38 (by decide) (List.forall_mem_cons.mpr ⟨zc_neJ s6 (by decide), (List.forall_mem_cons.mpr ⟨zc_neJ s7 (by decide), (List.forall_mem_cons.mpr ⟨zc_neJ s8 (by decide), (fun _ hm => nomatch hm)⟩)⟩)⟩) ?_
        refine zc_aload_n (pc := 88) dX10_then_88 rfl rfl ?_
        refine zc_getC (pc := 89) zF_X10_66 rfl dX10_then_89 ?_
        refine zc_callIp (pc := 92) [.ref 25] rfl (zc_runV (ci := 7) (n0 := 0) (q := (RX7, TX7, 15)) zo_X7_allStock ⟨Nat.le_of_ble_eq_true rfl, Nat.le_of_ble_eq_true rfl⟩ zw_510 zw_511 zw_512 rfl (by decide) rfl rfl dX10_then_92) (Nat.le_of_ble_eq_true rfl) (fun _ hr => zt_X7_allStock 25 rfl r3 hr) (fun r5 => ?_)
        exact zc_iretK (pc := 95) dX10_then_95 rfl ⟨_, rfl, rfl⟩
      · refine zc_iconst (pc := 16) (-1 : Int32) dX10_then_16 (by decide) ?_
        exact zc_iretK (pc := 17) dX10_then_17 rfl ⟨_, rfl, rfl⟩
def zf_X10_stockThen (x1 : Int32) (x2 : Int32) (h : zHp) : Option (Int32 × zHp) :=
  ((zf_X7_isThere 16 x1 h).bind (fun r1 => (if r1 = 0 then some ((-1 : Int32), h) else ((zf_X10_isDaysOn x2).bind (fun r2 => (if r2 = 0 then some ((-1 : Int32), h) else ((zf_X7_become 25 16 h).bind (fun r3 => ((zf_X7_goDays 25 x2 r3).bind (fun r4 => (if zc_ix x1 7 then some ((r4.1 (25 + 5) x1.toNatClampNeg), r4) else none)))))))))))
set_option maxRecDepth 100000 in
set_option maxHeartbeats 4000000 in
theorem zt_X10_stockThen (x1 : Int32) (x2 : Int32) (h : zHp) {r : (Int32 × zHp)} (hr : (zf_X10_stockThen x1 x2 h) = some r) : zc_Cn zM_X10_stockThen [.ref 0, .int x1, .int x2] h (zc_mI r) := by
  refine zc_meth (mk := zc_mI) (o := (zf_X10_stockThen x1 x2 h)) (by decide +kernel) (Nat.le_of_ble_eq_true rfl) ?_ hr
  unfold zf_X10_stockThen
  refine zc_sL (ls1 := [some (.ref 0), some (.int x1), some (.int x2)]) rfl ?_
  refine zc_aload_n (pc := 0) dX10_stockThen_0 rfl rfl ?_
  refine zc_getC (pc := 1) zF_X10_62 rfl dX10_stockThen_1 ?_
  refine zc_iload_n (pc := 4) dX10_stockThen_4 rfl rfl ?_
  refine zc_callIp (pc := 5) [.ref 16, .int x1] rfl (zc_runV (ci := 7) (n0 := 0) (q := (RX7, TX7, 15)) zo_X7_isThere ⟨Nat.le_of_ble_eq_true rfl, Nat.le_of_ble_eq_true rfl⟩ zw_470 zw_379 zw_380 rfl (by decide) rfl rfl dX10_stockThen_5) (Nat.le_of_ble_eq_true rfl) (fun _ hr => zt_X7_isThere 16 rfl x1 h hr) (fun r1 => ?_)
  refine zc_if_eq (pc := 8) 18 dX10_stockThen_8 (by decide) (fun _ => ?_) (fun _ => ?_)
  · refine zc_iconst (pc := 18) (-1 : Int32) dX10_stockThen_18 (by decide) ?_
    exact zc_iretK (pc := 19) dX10_stockThen_19 rfl ⟨_, rfl, rfl⟩
  · refine zc_iload_n (pc := 11) dX10_stockThen_11 rfl rfl ?_
    refine zc_callIp (pc := 12) [.int x2] rfl (zc_runS zo_X10_isDaysOn ⟨Nat.le_of_ble_eq_true rfl, Nat.le_of_ble_eq_true rfl⟩ zw_518 zw_519 rfl dX10_stockThen_12) (Nat.le_of_ble_eq_true rfl) (fun _ hr => zt_X10_isDaysOn x2 h hr) (fun r2 => ?_)
    refine zc_if_ne (pc := 15) 20 dX10_stockThen_15 (by decide) (fun _ => ?_) (fun _ => ?_)
    · refine zc_iconst (pc := 18) (-1 : Int32) dX10_stockThen_18 (by decide) ?_
      exact zc_iretK (pc := 19) dX10_stockThen_19 rfl ⟨_, rfl, rfl⟩
    · refine zc_aload_n (pc := 20) dX10_stockThen_20 rfl rfl ?_
      refine zc_getC (pc := 21) zF_X10_66 rfl dX10_stockThen_21 ?_
      refine zc_aload_n (pc := 24) dX10_stockThen_24 rfl rfl ?_
      refine zc_getC (pc := 25) zF_X10_62 rfl dX10_stockThen_25 ?_
      refine zc_callV (pc := 28) [.ref 25, .ref 16] rfl (zc_runV (ci := 7) (n0 := 0) (q := (RX7, TX7, 15)) zo_X7_become ⟨Nat.le_of_ble_eq_true rfl, Nat.le_of_ble_eq_true rfl⟩ zw_244 zw_245 zw_246 rfl (by decide) rfl rfl dX10_stockThen_28) (Nat.le_of_ble_eq_true rfl) (fun _ hr => zt_X7_become 25 rfl 16 rfl h hr) (fun r3 => ?_)
      refine zc_aload_n (pc := 31) dX10_stockThen_31 rfl rfl ?_
      refine zc_getC (pc := 32) zF_X10_66 rfl dX10_stockThen_32 ?_
      refine zc_iload_n (pc := 35) dX10_stockThen_35 rfl rfl ?_
      refine zc_callV (pc := 36) [.ref 25, .int x2] rfl (zc_runV (ci := 7) (n0 := 0) (q := (RX7, TX7, 15)) zo_X7_goDays ⟨Nat.le_of_ble_eq_true rfl, Nat.le_of_ble_eq_true rfl⟩ zw_390 zw_391 zw_392 rfl (by decide) rfl rfl dX10_stockThen_36) (Nat.le_of_ble_eq_true rfl) (fun _ hr => zt_X7_goDays 25 rfl x2 r3 hr) (fun r4 => ?_)
      refine zc_aload_n (pc := 39) dX10_stockThen_39 rfl rfl ?_
      refine zc_getC (pc := 40) zF_X10_66 rfl dX10_stockThen_40 ?_
      refine zc_getO (pc := 43) zF_X10_124 rfl dX10_stockThen_43 ?_
      refine zc_iload_n (pc := 46) dX10_stockThen_46 rfl rfl ?_
      refine zc_guard (fun g5 => ?_)
      refine zc_aldi (pc := 47) rfl g5 dX10_stockThen_47 ?_
      exact zc_iretK (pc := 48) dX10_stockThen_48 rfl ⟨_, rfl, rfl⟩
def zl_X10_firstCan_26 (x1 : Int32) : Nat → Int32 → zHp → Option ((Int32 × zHp) ⊕ zHp)
  | 0, _, _ => none
  | fu + 1, y3, h4 => (if (60 : Int32) < y3 then some (Sum.inr h4) else ((zf_X7_isAble 25 x1 h4).bind (fun r5 => (if r5 = 0 then ((zf_X7_moveChair 25 h4).bind (fun r6 => zl_X10_firstCan_26 x1 fu (y3 + (1 : Int32)) r6)) else some (Sum.inl (y3, h4))))))
def zf_X10_firstCan (x1 : Int32) (h : zHp) : Option (Int32 × zHp) :=
  ((zf_X7_isThere 16 x1 h).bind (fun r1 => (if r1 = 0 then some ((-1 : Int32), h) else ((zf_X7_become 25 16 h).bind (fun r2 => ((zl_X10_firstCan_26 x1 zFU (0 : Int32) r2).bind (Sum.elim (fun r => some r) (fun v7 => some ((-4 : Int32), v7)))))))))
set_option maxRecDepth 100000 in
set_option maxHeartbeats 4000000 in
theorem zt_X10_firstCan (x1 : Int32) (h : zHp) {r : (Int32 × zHp)} (hr : (zf_X10_firstCan x1 h) = some r) : zc_Cn zM_X10_firstCan [.ref 0, .int x1] h (zc_mI r) := by
  refine zc_meth (mk := zc_mI) (o := (zf_X10_firstCan x1 h)) (by decide +kernel) (Nat.le_of_ble_eq_true rfl) ?_ hr
  unfold zf_X10_firstCan
  refine zc_sL (ls1 := [some (.ref 0), some (.int x1), none]) rfl ?_
  refine zc_aload_n (pc := 0) dX10_firstCan_0 rfl rfl ?_
  refine zc_getC (pc := 1) zF_X10_62 rfl dX10_firstCan_1 ?_
  refine zc_iload_n (pc := 4) dX10_firstCan_4 rfl rfl ?_
  refine zc_callIp (pc := 5) [.ref 16, .int x1] rfl (zc_runV (ci := 7) (n0 := 0) (q := (RX7, TX7, 15)) zo_X7_isThere ⟨Nat.le_of_ble_eq_true rfl, Nat.le_of_ble_eq_true rfl⟩ zw_470 zw_379 zw_380 rfl (by decide) rfl rfl dX10_firstCan_5) (Nat.le_of_ble_eq_true rfl) (fun _ hr => zt_X7_isThere 16 rfl x1 h hr) (fun r1 => ?_)
  refine zc_if_ne (pc := 8) 13 dX10_firstCan_8 (by decide) (fun _ => ?_) (fun _ => ?_)
  · refine zc_iconst (pc := 11) (-1 : Int32) dX10_firstCan_11 (by decide) ?_
    exact zc_iretK (pc := 12) dX10_firstCan_12 rfl ⟨_, rfl, rfl⟩
  · refine zc_aload_n (pc := 13) dX10_firstCan_13 rfl rfl ?_
    refine zc_getC (pc := 14) zF_X10_66 rfl dX10_firstCan_14 ?_
    refine zc_aload_n (pc := 17) dX10_firstCan_17 rfl rfl ?_
    refine zc_getC (pc := 18) zF_X10_62 rfl dX10_firstCan_18 ?_
    refine zc_callV (pc := 21) [.ref 25, .ref 16] rfl (zc_runV (ci := 7) (n0 := 0) (q := (RX7, TX7, 15)) zo_X7_become ⟨Nat.le_of_ble_eq_true rfl, Nat.le_of_ble_eq_true rfl⟩ zw_244 zw_245 zw_246 rfl (by decide) rfl rfl dX10_firstCan_21) (Nat.le_of_ble_eq_true rfl) (fun _ hr => zt_X7_become 25 rfl 16 rfl h hr) (fun r2 => ?_)
    refine zc_iconst (pc := 24) (0 : Int32) dX10_firstCan_24 (by decide) ?_
    refine zc_istore_n (pc := 25) dX10_firstCan_25 rfl (Nat.le_of_ble_eq_true rfl) rfl (Nat.le_of_ble_eq_true rfl) ?_
    refine zc_sL (ls1 := [some (.ref 0), some (.int x1), some (.int (0 : Int32))]) rfl ?_
    refine zc_sL (ls1 := [some (.ref 0), some (.int x1), some (.int (0 : Int32))]) rfl ?_
    refine zc_loopS zc_mI 58 (fun v7 => [none, none, none]) (fun v7 => []) (fun v7 => v7) (fun v7 => ?_) (fun z => ⟨_, rfl, rfl⟩) (fun k9 J8 K10 => ?_)
    · refine zc_bipush (pc := 58) (-4 : Int32) dX10_firstCan_58 (by decide) ?_
      exact zc_iretK (pc := 60) dX10_firstCan_60 rfl ⟨_, rfl, rfl⟩
    · have L11 : ∀ (fu : Nat) (y3 : Int32) (h4 : zHp), zc_G zM_X10_firstCan zc_mI 26 [some (.ref 0), some (.int x1), some (.int y3)] [] h4 ((zl_X10_firstCan_26 x1 fu y3 h4).bind k9) := by
          intro fu
          induction fu with
          | zero => intros; exact zc_noneb
          | succ fu ih12 =>
            intro y3 h4
            unfold zl_X10_firstCan_26
            refine zc_iload_n (pc := 26) dX10_firstCan_26 rfl rfl ?_
            refine zc_bipush (pc := 27) (60 : Int32) dX10_firstCan_27 (by decide) ?_
            refine zc_icmp_gt (pc := 29) 58 dX10_firstCan_29 (by decide) (fun _ => ?_) (fun _ => ?_)
            · refine zc_drop 0 ?_
              refine zc_drop 1 ?_
              refine zc_drop 2 ?_
              exact J8 h4
            · refine zc_aload_n (pc := 32) dX10_firstCan_32 rfl rfl ?_
              refine zc_getC (pc := 33) zF_X10_66 rfl dX10_firstCan_33 ?_
              refine zc_iload_n (pc := 36) dX10_firstCan_36 rfl rfl ?_
              refine zc_callIp (pc := 37) [.ref 25, .int x1] rfl (zc_runV (ci := 7) (n0 := 0) (q := (RX7, TX7, 15)) zo_X7_isAble ⟨Nat.le_of_ble_eq_true rfl, Nat.le_of_ble_eq_true rfl⟩ zw_476 zw_399 zw_400 rfl (by decide) rfl rfl dX10_firstCan_37) (Nat.le_of_ble_eq_true rfl) (fun _ hr => zt_X7_isAble 25 rfl x1 h4 hr) (fun r5 => ?_)
              refine zc_if_eq (pc := 40) 45 dX10_firstCan_40 (by decide) (fun _ => ?_) (fun _ => ?_)
              · refine zc_aload_n (pc := 45) dX10_firstCan_45 rfl rfl ?_
                refine zc_getC (pc := 46) zF_X10_66 rfl dX10_firstCan_46 ?_
                refine zc_callV (pc := 49) [.ref 25] rfl (zc_runV (ci := 7) (n0 := 0) (q := (RX7, TX7, 15)) zo_X7_moveChair ⟨Nat.le_of_ble_eq_true rfl, Nat.le_of_ble_eq_true rfl⟩ zw_533 zw_395 zw_396 rfl (by decide) rfl rfl dX10_firstCan_49) (Nat.le_of_ble_eq_true rfl) (fun _ hr => zt_X7_moveChair 25 rfl h4 hr) (fun r6 => ?_)
                refine zc_iinc (pc := 52) (1 : Int32) dX10_firstCan_52 (by decide) rfl (Nat.le_of_ble_eq_true rfl) rfl ?_
                refine zc_sL (ls1 := [some (.ref 0), some (.int x1), some (.int (y3 + (1 : Int32)))]) rfl ?_
                refine zc_goto (pc := 55) 26 dX10_firstCan_55 (by decide) ?_
                exact ih12 (y3 + (1 : Int32)) r6
              · refine zc_iload_n (pc := 43) dX10_firstCan_43 rfl rfl ?_
                exact zc_iretK (pc := 44) dX10_firstCan_44 rfl (K10 _)
      exact L11 zFU (0 : Int32) r2
def zl_X10_hungry_31 (x1 : Int32) : Nat → Int32 → zHp → Option ((Int32 × zHp) ⊕ zHp)
  | 0, _, _ => none
  | fu + 1, y2, h3 => (if (60 : Int32) < y2 then some (Sum.inr h3) else (((if x1 < 0 then ((zf_X7_firstHungry 25 h3).bind (fun r4 => some r4)) else some (-4 : Int32)) : Option Int32).bind (fun v5 => (if v5 < 0 then (((if x1 < 0 then some (Sum.inr ()) else (if zc_ix x1 7 then (if (h3.1 (25 + 5) x1.toNatClampNeg) = 0 then some (Sum.inl (some (Sum.inl (y2, h3)))) else some (Sum.inr ())) else none)) : Option (Option ((Int32 × zHp) ⊕ zHp) ⊕ Unit)).bind (Sum.elim (fun o => o) (fun v7 => ((zf_X7_goDays 25 (1 : Int32) h3).bind (fun r8 => zl_X10_hungry_31 x1 fu (y2 + (1 : Int32)) r8))))) else some (Sum.inl (v5, h3))))))
def zf_X10_hungry (x1 : Int32) (h : zHp) : Option (Int32 × zHp) :=
  (if x1 < (-1 : Int32) then some ((-1 : Int32), h) else (if x1 < (h.1 16 9) then ((zf_X7_become 25 16 h).bind (fun r1 => ((zl_X10_hungry_31 x1 zFU (0 : Int32) r1).bind (Sum.elim (fun r => some r) (fun v9 => some ((-4 : Int32), v9)))))) else some ((-1 : Int32), h)))
set_option maxRecDepth 100000 in
set_option maxHeartbeats 4000000 in
theorem zt_X10_hungry (x1 : Int32) (h : zHp) {r : (Int32 × zHp)} (hr : (zf_X10_hungry x1 h) = some r) : zc_Cn zM_X10_hungry [.ref 0, .int x1] h (zc_mI r) := by
  refine zc_meth (mk := zc_mI) (o := (zf_X10_hungry x1 h)) (by decide +kernel) (Nat.le_of_ble_eq_true rfl) ?_ hr
  unfold zf_X10_hungry
  refine zc_sL (ls1 := [some (.ref 0), some (.int x1), none, none]) rfl ?_
  refine zc_iload_n (pc := 0) dX10_hungry_0 rfl rfl ?_
  refine zc_iconst (pc := 1) (-1 : Int32) dX10_hungry_1 (by decide) ?_
  refine zc_icmp_lt (pc := 2) 16 dX10_hungry_2 (by decide) (fun _ => ?_) (fun _ => ?_)
  · refine zc_iconst (pc := 16) (-1 : Int32) dX10_hungry_16 (by decide) ?_
    exact zc_iretK (pc := 17) dX10_hungry_17 rfl ⟨_, rfl, rfl⟩
  · refine zc_iload_n (pc := 5) dX10_hungry_5 rfl rfl ?_
    refine zc_aload_n (pc := 6) dX10_hungry_6 rfl rfl ?_
    refine zc_getC (pc := 7) zF_X10_62 rfl dX10_hungry_7 ?_
    refine zc_getI (pc := 10) zF_X10_152 rfl dX10_hungry_10 ?_
    refine zc_icmp_lt (pc := 13) 18 dX10_hungry_13 (by decide) (fun _ => ?_) (fun _ => ?_)
    · refine zc_aload_n (pc := 18) dX10_hungry_18 rfl rfl ?_
      refine zc_getC (pc := 19) zF_X10_66 rfl dX10_hungry_19 ?_
      refine zc_aload_n (pc := 22) dX10_hungry_22 rfl rfl ?_
      refine zc_getC (pc := 23) zF_X10_62 rfl dX10_hungry_23 ?_
      refine zc_callV (pc := 26) [.ref 25, .ref 16] rfl (zc_runV (ci := 7) (n0 := 0) (q := (RX7, TX7, 15)) zo_X7_become ⟨Nat.le_of_ble_eq_true rfl, Nat.le_of_ble_eq_true rfl⟩ zw_244 zw_245 zw_246 rfl (by decide) rfl rfl dX10_hungry_26) (Nat.le_of_ble_eq_true rfl) (fun _ hr => zt_X7_become 25 rfl 16 rfl h hr) (fun r1 => ?_)
      refine zc_iconst (pc := 29) (0 : Int32) dX10_hungry_29 (by decide) ?_
      refine zc_istore_n (pc := 30) dX10_hungry_30 rfl (Nat.le_of_ble_eq_true rfl) rfl (Nat.le_of_ble_eq_true rfl) ?_
      refine zc_sL (ls1 := [some (.ref 0), some (.int x1), some (.int (0 : Int32)), none]) rfl ?_
      refine zc_sL (ls1 := [some (.ref 0), some (.int x1), some (.int (0 : Int32)), none]) rfl ?_
      refine zc_loopS zc_mI 92 (fun v9 => [none, none, none, none]) (fun v9 => []) (fun v9 => v9) (fun v9 => ?_) (fun z => ⟨_, rfl, rfl⟩) (fun k11 J10 K12 => ?_)
      · refine zc_bipush (pc := 92) (-4 : Int32) dX10_hungry_92 (by decide) ?_
        exact zc_iretK (pc := 94) dX10_hungry_94 rfl ⟨_, rfl, rfl⟩
      · have L13 : ∀ (fu : Nat) (y2 : Int32) (h3 : zHp), zc_G zM_X10_hungry zc_mI 31 [some (.ref 0), some (.int x1), some (.int y2), none] [] h3 ((zl_X10_hungry_31 x1 fu y2 h3).bind k11) := by
            intro fu
            induction fu with
            | zero => intros; exact zc_noneb
            | succ fu ih14 =>
              intro y2 h3
              unfold zl_X10_hungry_31
              refine zc_iload_n (pc := 31) dX10_hungry_31 rfl rfl ?_
              refine zc_bipush (pc := 32) (60 : Int32) dX10_hungry_32 (by decide) ?_
              refine zc_icmp_gt (pc := 34) 92 dX10_hungry_34 (by decide) (fun _ => ?_) (fun _ => ?_)
              · refine zc_drop 0 ?_
                refine zc_drop 1 ?_
                refine zc_drop 2 ?_
                exact J10 h3
              · refine zc_iload_n (pc := 37) dX10_hungry_37 rfl rfl ?_
                refine zc_join 53 (fun v5 => [some (.ref 0), some (.int x1), some (.int y2), none]) (fun v5 => [.int v5]) (fun v5 => h3) (fun v5 => ?_) (fun J15 => ?_)
                · refine zc_istore_n (pc := 53) dX10_hungry_53 rfl (Nat.le_of_ble_eq_true rfl) rfl (Nat.le_of_ble_eq_true rfl) ?_
                  refine zc_sL (ls1 := [some (.ref 0), some (.int x1), some (.int y2), some (.int v5)]) rfl ?_
                  refine zc_iload_n (pc := 54) dX10_hungry_54 rfl rfl ?_
                  refine zc_if_lt (pc := 55) 60 dX10_hungry_55 (by decide) (fun _ => ?_) (fun _ => ?_)
                  · refine zc_iload_n (pc := 60) dX10_hungry_60 rfl rfl ?_
                    refine zc_joinS 78 (fun v7 => [some (.ref 0), some (.int x1), some (.int y2), none]) (fun v7 => []) (fun v7 => h3) (fun v7 => ?_) (fun J16 => ?_)
                    · refine zc_aload_n (pc := 78) dX10_hungry_78 rfl rfl ?_
                      refine zc_getC (pc := 79) zF_X10_66 rfl dX10_hungry_79 ?_
                      refine zc_iconst (pc := 82) (1 : Int32) dX10_hungry_82 (by decide) ?_
                      refine zc_callV (pc := 83) [.ref 25, .int (1 : Int32)] rfl (zc_runV (ci := 7) (n0 := 0) (q := (RX7, TX7, 15)) zo_X7_goDays ⟨Nat.le_of_ble_eq_true rfl, Nat.le_of_ble_eq_true rfl⟩ zw_390 zw_391 zw_392 rfl (by decide) rfl rfl dX10_hungry_83) (Nat.le_of_ble_eq_true rfl) (fun _ hr => zt_X7_goDays 25 rfl (1 : Int32) h3 hr) (fun r8 => ?_)
                      refine zc_iinc (pc := 86) (1 : Int32) dX10_hungry_86 (by decide) rfl (Nat.le_of_ble_eq_true rfl) rfl ?_
                      refine zc_sL (ls1 := [some (.ref 0), some (.int x1), some (.int (y2 + (1 : Int32))), none]) rfl ?_
                      refine zc_goto (pc := 89) 31 dX10_hungry_89 (by decide) ?_
                      exact ih14 (y2 + (1 : Int32)) r8
                    · refine zc_if_lt (pc := 61) 78 dX10_hungry_61 (by decide) (fun _ => ?_) (fun _ => ?_)
                      · refine zc_drop 3 ?_
                        exact J16 ()
                      · refine zc_aload_n (pc := 64) dX10_hungry_64 rfl rfl ?_
                        refine zc_getC (pc := 65) zF_X10_66 rfl dX10_hungry_65 ?_
                        refine zc_getO (pc := 68) zF_X10_124 rfl dX10_hungry_68 ?_
                        refine zc_iload_n (pc := 71) dX10_hungry_71 rfl rfl ?_
                        refine zc_guard (fun g6 => ?_)
                        refine zc_aldi (pc := 72) rfl g6 dX10_hungry_72 ?_
                        refine zc_if_ne (pc := 73) 78 dX10_hungry_73 (by decide) (fun _ => ?_) (fun _ => ?_)
                        · refine zc_iload_n (pc := 76) dX10_hungry_76 rfl rfl ?_
                          exact zc_iretK (pc := 77) dX10_hungry_77 rfl (K12 _)
                        · refine zc_drop 3 ?_
                          exact J16 ()
                  · refine zc_iload_n (pc := 58) dX10_hungry_58 rfl rfl ?_
                    exact zc_iretK (pc := 59) dX10_hungry_59 rfl (K12 _)
                · refine zc_if_lt (pc := 38) 46 dX10_hungry_38 (by decide) (fun _ => ?_) (fun _ => ?_)
                  · refine zc_aload_n (pc := 46) dX10_hungry_46 rfl rfl ?_
                    refine zc_getC (pc := 47) zF_X10_66 rfl dX10_hungry_47 ?_
                    refine zc_callIp (pc := 50) [.ref 25] rfl (zc_runV (ci := 7) (n0 := 0) (q := (RX7, TX7, 15)) zo_X7_firstHungry ⟨Nat.le_of_ble_eq_true rfl, Nat.le_of_ble_eq_true rfl⟩ zw_538 zw_539 zw_540 rfl (by decide) rfl rfl dX10_hungry_50) (Nat.le_of_ble_eq_true rfl) (fun _ hr => zt_X7_firstHungry 25 rfl h3 hr) (fun r4 => ?_)
                    exact J15 r4
                  · refine zc_bipush (pc := 41) (-4 : Int32) dX10_hungry_41 (by decide) ?_
                    refine zc_goto (pc := 43) 53 dX10_hungry_43 (by decide) ?_
                    exact J15 (-4 : Int32)
        exact L13 zFU (0 : Int32) r1
    · refine zc_iconst (pc := 16) (-1 : Int32) dX10_hungry_16 (by decide) ?_
      exact zc_iretK (pc := 17) dX10_hungry_17 rfl ⟨_, rfl, rfl⟩
def zl_X10_round_13  : Nat → Int32 → zHp → Option ((Int32 × zHp) ⊕ zHp)
  | 0, _, _ => none
  | fu + 1, y2, h3 => (if (60 : Int32) < y2 then some (Sum.inr h3) else ((zf_X7_moveChair 25 h3).bind (fun r4 => (if (r4.1 25 10) = (r4.1 16 10) then some (Sum.inl (y2, r4)) else zl_X10_round_13 fu (y2 + (1 : Int32)) r4))))
def zf_X10_round (h : zHp) : Option (Int32 × zHp) :=
  ((zf_X7_become 25 16 h).bind (fun r1 => ((zl_X10_round_13 zFU (1 : Int32) r1).bind (Sum.elim (fun r => some r) (fun v5 => some ((-4 : Int32), v5))))))
set_option maxRecDepth 100000 in
set_option maxHeartbeats 4000000 in
theorem zt_X10_round (h : zHp) {r : (Int32 × zHp)} (hr : (zf_X10_round h) = some r) : zc_Cn zM_X10_round [.ref 0] h (zc_mI r) := by
  refine zc_meth (mk := zc_mI) (o := (zf_X10_round h)) (by decide +kernel) (Nat.le_of_ble_eq_true rfl) ?_ hr
  unfold zf_X10_round
  refine zc_sL (ls1 := [some (.ref 0), none]) rfl ?_
  refine zc_aload_n (pc := 0) dX10_round_0 rfl rfl ?_
  refine zc_getC (pc := 1) zF_X10_66 rfl dX10_round_1 ?_
  refine zc_aload_n (pc := 4) dX10_round_4 rfl rfl ?_
  refine zc_getC (pc := 5) zF_X10_62 rfl dX10_round_5 ?_
  refine zc_callV (pc := 8) [.ref 25, .ref 16] rfl (zc_runV (ci := 7) (n0 := 0) (q := (RX7, TX7, 15)) zo_X7_become ⟨Nat.le_of_ble_eq_true rfl, Nat.le_of_ble_eq_true rfl⟩ zw_244 zw_245 zw_246 rfl (by decide) rfl rfl dX10_round_8) (Nat.le_of_ble_eq_true rfl) (fun _ hr => zt_X7_become 25 rfl 16 rfl h hr) (fun r1 => ?_)
  refine zc_iconst (pc := 11) (1 : Int32) dX10_round_11 (by decide) ?_
  refine zc_istore_n (pc := 12) dX10_round_12 rfl (Nat.le_of_ble_eq_true rfl) rfl (Nat.le_of_ble_eq_true rfl) ?_
  refine zc_sL (ls1 := [some (.ref 0), some (.int (1 : Int32))]) rfl ?_
  refine zc_sL (ls1 := [some (.ref 0), some (.int (1 : Int32))]) rfl ?_
  refine zc_loopS zc_mI 51 (fun v5 => [none, none]) (fun v5 => []) (fun v5 => v5) (fun v5 => ?_) (fun z => ⟨_, rfl, rfl⟩) (fun k7 J6 K8 => ?_)
  · refine zc_bipush (pc := 51) (-4 : Int32) dX10_round_51 (by decide) ?_
    exact zc_iretK (pc := 53) dX10_round_53 rfl ⟨_, rfl, rfl⟩
  · have L9 : ∀ (fu : Nat) (y2 : Int32) (h3 : zHp), zc_G zM_X10_round zc_mI 13 [some (.ref 0), some (.int y2)] [] h3 ((zl_X10_round_13 fu y2 h3).bind k7) := by
        intro fu
        induction fu with
        | zero => intros; exact zc_noneb
        | succ fu ih10 =>
          intro y2 h3
          unfold zl_X10_round_13
          refine zc_iload_n (pc := 13) dX10_round_13 rfl rfl ?_
          refine zc_bipush (pc := 14) (60 : Int32) dX10_round_14 (by decide) ?_
          refine zc_icmp_gt (pc := 16) 51 dX10_round_16 (by decide) (fun _ => ?_) (fun _ => ?_)
          · refine zc_drop 0 ?_
            refine zc_drop 1 ?_
            exact J6 h3
          · refine zc_aload_n (pc := 19) dX10_round_19 rfl rfl ?_
            refine zc_getC (pc := 20) zF_X10_66 rfl dX10_round_20 ?_
            refine zc_callV (pc := 23) [.ref 25] rfl (zc_runV (ci := 7) (n0 := 0) (q := (RX7, TX7, 15)) zo_X7_moveChair ⟨Nat.le_of_ble_eq_true rfl, Nat.le_of_ble_eq_true rfl⟩ zw_533 zw_395 zw_396 rfl (by decide) rfl rfl dX10_round_23) (Nat.le_of_ble_eq_true rfl) (fun _ hr => zt_X7_moveChair 25 rfl h3 hr) (fun r4 => ?_)
            refine zc_aload_n (pc := 26) dX10_round_26 rfl rfl ?_
            refine zc_getC (pc := 27) zF_X10_66 rfl dX10_round_27 ?_
            refine zc_getI (pc := 30) zF_X10_186 rfl dX10_round_30 ?_
            refine zc_aload_n (pc := 33) dX10_round_33 rfl rfl ?_
            refine zc_getC (pc := 34) zF_X10_62 rfl dX10_round_34 ?_
            refine zc_getI (pc := 37) zF_X10_186 rfl dX10_round_37 ?_
            refine zc_icmp_ne (pc := 40) 45 dX10_round_40 (by decide) (fun _ => ?_) (fun _ => ?_)
            · refine zc_iload_n (pc := 43) dX10_round_43 rfl rfl ?_
              exact zc_iretK (pc := 44) dX10_round_44 rfl (K8 _)
            · refine zc_iinc (pc := 45) (1 : Int32) dX10_round_45 (by decide) rfl (Nat.le_of_ble_eq_true rfl) rfl ?_
              refine zc_sL (ls1 := [some (.ref 0), some (.int (y2 + (1 : Int32)))]) rfl ?_
              refine zc_goto (pc := 48) 13 dX10_round_48 (by decide) ?_
              exact ih10 (y2 + (1 : Int32)) r4
    exact L9 zFU (1 : Int32) r1
def zf_X10_way (x1 : Int32) (x2 : Int32) (h : zHp) : Option Int32 :=
  ((zf_X7_isThere 16 x1 h).bind (fun r1 => (if r1 = 0 then some (-1 : Int32) else ((zf_X10_isPlace x2).bind (fun r2 => (if r2 = 0 then some (-1 : Int32) else ((zf_X7_wayTo 16 x1 x2 h).bind (fun r3 => some r3))))))))
set_option maxRecDepth 100000 in
set_option maxHeartbeats 4000000 in
theorem zt_X10_way (x1 : Int32) (x2 : Int32) (h : zHp) {r : Int32} (hr : (zf_X10_way x1 x2 h) = some r) : zc_Cn zM_X10_way [.ref 0, .int x1, .int x2] h ((fun r => zc_mI (r, h)) r) := by
  refine zc_meth (mk := (fun r => zc_mI (r, h))) (o := (zf_X10_way x1 x2 h)) (by decide +kernel) (Nat.le_of_ble_eq_true rfl) ?_ hr
  unfold zf_X10_way
  refine zc_sL (ls1 := [some (.ref 0), some (.int x1), some (.int x2)]) rfl ?_
  refine zc_aload_n (pc := 0) dX10_way_0 rfl rfl ?_
  refine zc_getC (pc := 1) zF_X10_62 rfl dX10_way_1 ?_
  refine zc_iload_n (pc := 4) dX10_way_4 rfl rfl ?_
  refine zc_callIp (pc := 5) [.ref 16, .int x1] rfl (zc_runV (ci := 7) (n0 := 0) (q := (RX7, TX7, 15)) zo_X7_isThere ⟨Nat.le_of_ble_eq_true rfl, Nat.le_of_ble_eq_true rfl⟩ zw_470 zw_379 zw_380 rfl (by decide) rfl rfl dX10_way_5) (Nat.le_of_ble_eq_true rfl) (fun _ hr => zt_X7_isThere 16 rfl x1 h hr) (fun r1 => ?_)
  refine zc_if_eq (pc := 8) 18 dX10_way_8 (by decide) (fun _ => ?_) (fun _ => ?_)
  · refine zc_iconst (pc := 18) (-1 : Int32) dX10_way_18 (by decide) ?_
    exact zc_iretK (pc := 19) dX10_way_19 rfl ⟨_, rfl, rfl⟩
  · refine zc_iload_n (pc := 11) dX10_way_11 rfl rfl ?_
    refine zc_callIp (pc := 12) [.int x2] rfl (zc_runS zo_X10_isPlace ⟨Nat.le_of_ble_eq_true rfl, Nat.le_of_ble_eq_true rfl⟩ zw_481 zw_275 rfl dX10_way_12) (Nat.le_of_ble_eq_true rfl) (fun _ hr => zt_X10_isPlace x2 h hr) (fun r2 => ?_)
    refine zc_if_ne (pc := 15) 20 dX10_way_15 (by decide) (fun _ => ?_) (fun _ => ?_)
    · refine zc_iconst (pc := 18) (-1 : Int32) dX10_way_18 (by decide) ?_
      exact zc_iretK (pc := 19) dX10_way_19 rfl ⟨_, rfl, rfl⟩
    · refine zc_aload_n (pc := 20) dX10_way_20 rfl rfl ?_
      refine zc_getC (pc := 21) zF_X10_62 rfl dX10_way_21 ?_
      refine zc_iload_n (pc := 24) dX10_way_24 rfl rfl ?_
      refine zc_iload_n (pc := 25) dX10_way_25 rfl rfl ?_
      refine zc_callIp (pc := 26) [.ref 16, .int x1, .int x2] rfl (zc_runV (ci := 7) (n0 := 0) (q := (RX7, TX7, 15)) zo_X7_wayTo ⟨Nat.le_of_ble_eq_true rfl, Nat.le_of_ble_eq_true rfl⟩ zw_550 zw_407 zw_408 rfl (by decide) rfl rfl dX10_way_26) (Nat.le_of_ble_eq_true rfl) (fun _ hr => zt_X7_wayTo 16 rfl x1 x2 h hr) (fun r3 => ?_)
      exact zc_iretK (pc := 29) dX10_way_29 rfl ⟨_, rfl, rfl⟩
def zl_X10_sit_30  : Nat → Int32 → Int32 → Int32 → zHp → Option (Int32 × Int32 × zHp)
  | 0, _, _, _, _ => none
  | fu + 1, y3, y4, y5, h6 => (if (12 : Int32) ≤ y5 then some (y3, y4, h6) else ((some (zc_ui h6 25 10 y5) : Option zHp).bind (fun h7 => ((zf_X7_allWays 25 h7).bind (fun r8 => (if y4 ≤ r8 then zl_X10_sit_30 fu y3 y4 (y5 + (1 : Int32)) h7 else zl_X10_sit_30 fu y5 r8 (y5 + (1 : Int32)) h7))))))
def zf_X10_sit (x1 : Int32) (h : zHp) : Option (Int32 × zHp) :=
  (((if x1 = 0 then some (Sum.inr ()) else (if x1 = (1 : Int32) then some (Sum.inr ()) else some (Sum.inl (some ((-1 : Int32), h))))) : Option (Option (Int32 × zHp) ⊕ Unit)).bind (Sum.elim (fun o => o) (fun v1 => ((zf_X7_become 25 16 h).bind (fun r2 => ((zl_X10_sit_30 zFU (0 : Int32) (1000000 : Int32) (0 : Int32) r2).bind (fun v9 => (if x1 = 0 then some (v9.1, v9.2.2) else some (v9.2.1, v9.2.2)))))))))
set_option maxRecDepth 100000 in
set_option maxHeartbeats 4000000 in
theorem zt_X10_sit (x1 : Int32) (h : zHp) {r : (Int32 × zHp)} (hr : (zf_X10_sit x1 h) = some r) : zc_Cn zM_X10_sit [.ref 0, .int x1] h (zc_mI r) := by
  refine zc_meth (mk := zc_mI) (o := (zf_X10_sit x1 h)) (by decide +kernel) (Nat.le_of_ble_eq_true rfl) ?_ hr
  unfold zf_X10_sit
  refine zc_sL (ls1 := [some (.ref 0), some (.int x1), none, none, none, none]) rfl ?_
  refine zc_iload_n (pc := 0) dX10_sit_0 rfl rfl ?_
  refine zc_joinS 11 (fun v1 => [some (.ref 0), some (.int x1), none, none, none, none]) (fun v1 => []) (fun v1 => h) (fun v1 => ?_) (fun J10 => ?_)
  · refine zc_aload_n (pc := 11) dX10_sit_11 rfl rfl ?_
    refine zc_getC (pc := 12) zF_X10_66 rfl dX10_sit_12 ?_
    refine zc_aload_n (pc := 15) dX10_sit_15 rfl rfl ?_
    refine zc_getC (pc := 16) zF_X10_62 rfl dX10_sit_16 ?_
    refine zc_callV (pc := 19) [.ref 25, .ref 16] rfl (zc_runV (ci := 7) (n0 := 0) (q := (RX7, TX7, 15)) zo_X7_become ⟨Nat.le_of_ble_eq_true rfl, Nat.le_of_ble_eq_true rfl⟩ zw_244 zw_245 zw_246 rfl (by decide) rfl rfl dX10_sit_19) (Nat.le_of_ble_eq_true rfl) (fun _ hr => zt_X7_become 25 rfl 16 rfl h hr) (fun r2 => ?_)
    refine zc_iconst (pc := 22) (0 : Int32) dX10_sit_22 (by decide) ?_
    refine zc_istore_n (pc := 23) dX10_sit_23 rfl (Nat.le_of_ble_eq_true rfl) rfl (Nat.le_of_ble_eq_true rfl) ?_
    refine zc_sL (ls1 := [some (.ref 0), some (.int x1), some (.int (0 : Int32)), none, none, none]) rfl ?_
    refine zc_ldc (pc := 24) dX10_sit_24 zw_555 ?_
    refine zc_istore_n (pc := 26) dX10_sit_26 rfl (Nat.le_of_ble_eq_true rfl) rfl (Nat.le_of_ble_eq_true rfl) ?_
    refine zc_sL (ls1 := [some (.ref 0), some (.int x1), some (.int (0 : Int32)), some (.int (1000000 : Int32)), none, none]) rfl ?_
    refine zc_iconst (pc := 27) (0 : Int32) dX10_sit_27 (by decide) ?_
    refine zc_istore (pc := 28) dX10_sit_28 (Nat.le_of_ble_eq_true rfl) rfl (Nat.le_of_ble_eq_true rfl) ?_
    refine zc_sL (ls1 := [some (.ref 0), some (.int x1), some (.int (0 : Int32)), some (.int (1000000 : Int32)), some (.int (0 : Int32)), none]) rfl ?_
    refine zc_sL (ls1 := [some (.ref 0), some (.int x1), some (.int (0 : Int32)), some (.int (1000000 : Int32)), some (.int (0 : Int32)), none]) rfl ?_
    refine zc_loop 73 (fun v9 => [none, some (.int x1), some (.int v9.1), some (.int v9.2.1), none, none]) (fun v9 => []) (fun v9 => v9.2.2) (fun v9 => ?_) (fun k12 J11 => ?_)
    · refine zc_iload_n (pc := 73) dX10_sit_73 rfl rfl ?_
      refine zc_if_ne (pc := 74) 81 dX10_sit_74 (by decide) (fun _ => ?_) (fun _ => ?_)
      · refine zc_iload_n (pc := 77) dX10_sit_77 rfl rfl ?_
        refine zc_goto (pc := 78) 82 dX10_sit_78 (by decide) ?_
        exact zc_iretK (pc := 82) dX10_sit_82 rfl ⟨_, rfl, rfl⟩
      · refine zc_iload_n (pc := 81) dX10_sit_81 rfl rfl ?_
        exact zc_iretK (pc := 82) dX10_sit_82 rfl ⟨_, rfl, rfl⟩
    · have L14 : ∀ (fu : Nat) (y3 : Int32) (y4 : Int32) (y5 : Int32) (h6 : zHp), zc_G zM_X10_sit zc_mI 30 [some (.ref 0), some (.int x1), some (.int y3), some (.int y4), some (.int y5), none] [] h6 ((zl_X10_sit_30 fu y3 y4 y5 h6).bind k12) := by
          intro fu
          induction fu with
          | zero => intros; exact zc_noneb
          | succ fu ih15 =>
            intro y3 y4 y5 h6
            unfold zl_X10_sit_30
            refine zc_iload (pc := 30) dX10_sit_30 rfl ?_
            refine zc_bipush (pc := 32) (12 : Int32) dX10_sit_32 (by decide) ?_
            refine zc_icmp_ge (pc := 34) 73 dX10_sit_34 (by decide) (fun _ => ?_) (fun _ => ?_)
            · refine zc_drop 0 ?_
              refine zc_drop 4 ?_
              exact J11 (y3, y4, h6)
            · refine zc_aload_n (pc := 37) dX10_sit_37 rfl rfl ?_
              refine zc_getC (pc := 38) zF_X10_66 rfl dX10_sit_38 ?_
              refine zc_iload (pc := 41) dX10_sit_41 rfl ?_
              refine zc_putI (pc := 43) zF_X10_186 rfl dX10_sit_43 ?_
              refine zc_letH (fun h7 _ => ?_)
              refine zc_aload_n (pc := 46) dX10_sit_46 rfl rfl ?_
              refine zc_getC (pc := 47) zF_X10_66 rfl dX10_sit_47 ?_
              refine zc_callIp (pc := 50) [.ref 25] rfl (zc_runV (ci := 7) (n0 := 0) (q := (RX7, TX7, 15)) zo_X7_allWays ⟨Nat.le_of_ble_eq_true rfl, Nat.le_of_ble_eq_true rfl⟩ zw_556 zw_557 zw_558 rfl (by decide) rfl rfl dX10_sit_50) (Nat.le_of_ble_eq_true rfl) (fun _ hr => zt_X7_allWays 25 rfl h7 hr) (fun r8 => ?_)
              refine zc_istore (pc := 53) dX10_sit_53 (Nat.le_of_ble_eq_true rfl) rfl (Nat.le_of_ble_eq_true rfl) ?_
              refine zc_sL (ls1 := [some (.ref 0), some (.int x1), some (.int y3), some (.int y4), some (.int y5), some (.int r8)]) rfl ?_
              refine zc_iload (pc := 55) dX10_sit_55 rfl ?_
              refine zc_iload_n (pc := 57) dX10_sit_57 rfl rfl ?_
              refine zc_icmp_ge (pc := 58) 67 dX10_sit_58 (by decide) (fun _ => ?_) (fun _ => ?_)
              · refine zc_iinc (pc := 67) (1 : Int32) dX10_sit_67 (by decide) rfl (Nat.le_of_ble_eq_true rfl) rfl ?_
                refine zc_sL (ls1 := [some (.ref 0), some (.int x1), some (.int y3), some (.int y4), some (.int (y5 + (1 : Int32))), some (.int r8)]) rfl ?_
                refine zc_goto (pc := 70) 30 dX10_sit_70 (by decide) ?_
                refine zc_drop 5 ?_
                exact ih15 y3 y4 (y5 + (1 : Int32)) h7
              · refine zc_iload (pc := 61) dX10_sit_61 rfl ?_
                refine zc_istore_n (pc := 63) dX10_sit_63 rfl (Nat.le_of_ble_eq_true rfl) rfl (Nat.le_of_ble_eq_true rfl) ?_
                refine zc_sL (ls1 := [some (.ref 0), some (.int x1), some (.int y3), some (.int r8), some (.int y5), some (.int r8)]) rfl ?_
                refine zc_iload (pc := 64) dX10_sit_64 rfl ?_
                refine zc_istore_n (pc := 66) dX10_sit_66 rfl (Nat.le_of_ble_eq_true rfl) rfl (Nat.le_of_ble_eq_true rfl) ?_
                refine zc_sL (ls1 := [some (.ref 0), some (.int x1), some (.int y5), some (.int r8), some (.int y5), some (.int r8)]) rfl ?_
                refine zc_iinc (pc := 67) (1 : Int32) dX10_sit_67 (by decide) rfl (Nat.le_of_ble_eq_true rfl) rfl ?_
                refine zc_sL (ls1 := [some (.ref 0), some (.int x1), some (.int y5), some (.int r8), some (.int (y5 + (1 : Int32))), some (.int r8)]) rfl ?_
                refine zc_goto (pc := 70) 30 dX10_sit_70 (by decide) ?_
                refine zc_drop 5 ?_
                exact ih15 y5 r8 (y5 + (1 : Int32)) h7
      exact L14 zFU (0 : Int32) (1000000 : Int32) (0 : Int32) r2
  · refine zc_if_eq (pc := 1) 11 dX10_sit_1 (by decide) (fun _ => ?_) (fun _ => ?_)
    · exact J10 ()
    · refine zc_iload_n (pc := 4) dX10_sit_4 rfl rfl ?_
      refine zc_iconst (pc := 5) (1 : Int32) dX10_sit_5 (by decide) ?_
      refine zc_icmp_eq (pc := 6) 11 dX10_sit_6 (by decide) (fun _ => ?_) (fun _ => ?_)
      · exact J10 ()
      · refine zc_iconst (pc := 9) (-1 : Int32) dX10_sit_9 (by decide) ?_
        exact zc_iretK (pc := 10) dX10_sit_10 rfl ⟨_, rfl, rfl⟩
def zl_X10_sitFor_16 (x1 : Int32) : Nat → Int32 → Int32 → Int32 → zHp → Option (Int32 × zHp)
  | 0, _, _, _, _ => none
  | fu + 1, y2, y3, y4, h5 => (if (12 : Int32) ≤ y4 then some (y2, h5) else ((zf_X7_become 25 16 h5).bind (fun r6 => ((some (zc_ui r6 25 10 y4) : Option zHp).bind (fun h7 => ((zf_X7_goDays 25 x1 h7).bind (fun r8 => ((zf_X7_allStock 25 r8).bind (fun r9 => (if r9 ≤ y3 then zl_X10_sitFor_16 x1 fu y2 y3 (y4 + (1 : Int32)) r8 else zl_X10_sitFor_16 x1 fu y4 r9 (y4 + (1 : Int32)) r8))))))))))
def zf_X10_sitFor (x1 : Int32) (h : zHp) : Option (Int32 × zHp) :=
  ((zf_X10_isDaysOn x1).bind (fun r1 => (if r1 = 0 then some ((-1 : Int32), h) else ((zl_X10_sitFor_16 x1 zFU (0 : Int32) (-1 : Int32) (0 : Int32) h).bind (fun v10 => some (v10.1, v10.2))))))
set_option maxRecDepth 100000 in
set_option maxHeartbeats 4000000 in
theorem zt_X10_sitFor (x1 : Int32) (h : zHp) {r : (Int32 × zHp)} (hr : (zf_X10_sitFor x1 h) = some r) : zc_Cn zM_X10_sitFor [.ref 0, .int x1] h (zc_mI r) := by
  refine zc_meth (mk := zc_mI) (o := (zf_X10_sitFor x1 h)) (by decide +kernel) (Nat.le_of_ble_eq_true rfl) ?_ hr
  unfold zf_X10_sitFor
  refine zc_sL (ls1 := [some (.ref 0), some (.int x1), none, none, none, none]) rfl ?_
  refine zc_iload_n (pc := 0) dX10_sitFor_0 rfl rfl ?_
  refine zc_callIp (pc := 1) [.int x1] rfl (zc_runS zo_X10_isDaysOn ⟨Nat.le_of_ble_eq_true rfl, Nat.le_of_ble_eq_true rfl⟩ zw_518 zw_519 rfl dX10_sitFor_1) (Nat.le_of_ble_eq_true rfl) (fun _ hr => zt_X10_isDaysOn x1 h hr) (fun r1 => ?_)
  refine zc_if_ne (pc := 4) 9 dX10_sitFor_4 (by decide) (fun _ => ?_) (fun _ => ?_)
  · refine zc_iconst (pc := 7) (-1 : Int32) dX10_sitFor_7 (by decide) ?_
    exact zc_iretK (pc := 8) dX10_sitFor_8 rfl ⟨_, rfl, rfl⟩
  · refine zc_iconst (pc := 9) (0 : Int32) dX10_sitFor_9 (by decide) ?_
    refine zc_istore_n (pc := 10) dX10_sitFor_10 rfl (Nat.le_of_ble_eq_true rfl) rfl (Nat.le_of_ble_eq_true rfl) ?_
    refine zc_sL (ls1 := [some (.ref 0), some (.int x1), some (.int (0 : Int32)), none, none, none]) rfl ?_
    refine zc_iconst (pc := 11) (-1 : Int32) dX10_sitFor_11 (by decide) ?_
    refine zc_istore_n (pc := 12) dX10_sitFor_12 rfl (Nat.le_of_ble_eq_true rfl) rfl (Nat.le_of_ble_eq_true rfl) ?_
    refine zc_sL (ls1 := [some (.ref 0), some (.int x1), some (.int (0 : Int32)), some (.int (-1 : Int32)), none, none]) rfl ?_
    refine zc_iconst (pc := 13) (0 : Int32) dX10_sitFor_13 (by decide) ?_
    refine zc_istore (pc := 14) dX10_sitFor_14 (Nat.le_of_ble_eq_true rfl) rfl (Nat.le_of_ble_eq_true rfl) ?_
    refine zc_sL (ls1 := [some (.ref 0), some (.int x1), some (.int (0 : Int32)), some (.int (-1 : Int32)), some (.int (0 : Int32)), none]) rfl ?_
    refine zc_sL (ls1 := [some (.ref 0), some (.int x1), some (.int (0 : Int32)), some (.int (-1 : Int32)), some (.int (0 : Int32)), none]) rfl ?_
    refine zc_loop 78 (fun v10 => [none, none, some (.int v10.1), none, none, none]) (fun v10 => []) (fun v10 => v10.2) (fun v10 => ?_) (fun k12 J11 => ?_)
    · refine zc_iload_n (pc := 78) dX10_sitFor_78 rfl rfl ?_
      exact zc_iretK (pc := 79) dX10_sitFor_79 rfl ⟨_, rfl, rfl⟩
    · have L14 : ∀ (fu : Nat) (y2 : Int32) (y3 : Int32) (y4 : Int32) (h5 : zHp), zc_G zM_X10_sitFor zc_mI 16 [some (.ref 0), some (.int x1), some (.int y2), some (.int y3), some (.int y4), none] [] h5 ((zl_X10_sitFor_16 x1 fu y2 y3 y4 h5).bind k12) := by
          intro fu
          induction fu with
          | zero => intros; exact zc_noneb
          | succ fu ih15 =>
            intro y2 y3 y4 h5
            unfold zl_X10_sitFor_16
            refine zc_iload (pc := 16) dX10_sitFor_16 rfl ?_
            refine zc_bipush (pc := 18) (12 : Int32) dX10_sitFor_18 (by decide) ?_
            refine zc_icmp_ge (pc := 20) 78 dX10_sitFor_20 (by decide) (fun _ => ?_) (fun _ => ?_)
            · refine zc_drop 0 ?_
              refine zc_drop 1 ?_
              refine zc_drop 3 ?_
              refine zc_drop 4 ?_
              exact J11 (y2, h5)
            · refine zc_aload_n (pc := 23) dX10_sitFor_23 rfl rfl ?_
              refine zc_getC (pc := 24) zF_X10_66 rfl dX10_sitFor_24 ?_
              refine zc_aload_n (pc := 27) dX10_sitFor_27 rfl rfl ?_
              refine zc_getC (pc := 28) zF_X10_62 rfl dX10_sitFor_28 ?_
              refine zc_callV (pc := 31) [.ref 25, .ref 16] rfl (zc_runV (ci := 7) (n0 := 0) (q := (RX7, TX7, 15)) zo_X7_become ⟨Nat.le_of_ble_eq_true rfl, Nat.le_of_ble_eq_true rfl⟩ zw_244 zw_245 zw_246 rfl (by decide) rfl rfl dX10_sitFor_31) (Nat.le_of_ble_eq_true rfl) (fun _ hr => zt_X7_become 25 rfl 16 rfl h5 hr) (fun r6 => ?_)
              refine zc_aload_n (pc := 34) dX10_sitFor_34 rfl rfl ?_
              refine zc_getC (pc := 35) zF_X10_66 rfl dX10_sitFor_35 ?_
              refine zc_iload (pc := 38) dX10_sitFor_38 rfl ?_
              refine zc_putI (pc := 40) zF_X10_186 rfl dX10_sitFor_40 ?_
              refine zc_letH (fun h7 _ => ?_)
              refine zc_aload_n (pc := 43) dX10_sitFor_43 rfl rfl ?_
              refine zc_getC (pc := 44) zF_X10_66 rfl dX10_sitFor_44 ?_
              refine zc_iload_n (pc := 47) dX10_sitFor_47 rfl rfl ?_
              refine zc_callV (pc := 48) [.ref 25, .int x1] rfl (zc_runV (ci := 7) (n0 := 0) (q := (RX7, TX7, 15)) zo_X7_goDays ⟨Nat.le_of_ble_eq_true rfl, Nat.le_of_ble_eq_true rfl⟩ zw_390 zw_391 zw_392 rfl (by decide) rfl rfl dX10_sitFor_48) (Nat.le_of_ble_eq_true rfl) (fun _ hr => zt_X7_goDays 25 rfl x1 h7 hr) (fun r8 => ?_)
              refine zc_aload_n (pc := 51) dX10_sitFor_51 rfl rfl ?_
              refine zc_getC (pc := 52) zF_X10_66 rfl dX10_sitFor_52 ?_
              refine zc_callIp (pc := 55) [.ref 25] rfl (zc_runV (ci := 7) (n0 := 0) (q := (RX7, TX7, 15)) zo_X7_allStock ⟨Nat.le_of_ble_eq_true rfl, Nat.le_of_ble_eq_true rfl⟩ zw_510 zw_511 zw_512 rfl (by decide) rfl rfl dX10_sitFor_55) (Nat.le_of_ble_eq_true rfl) (fun _ hr => zt_X7_allStock 25 rfl r8 hr) (fun r9 => ?_)
              refine zc_istore (pc := 58) dX10_sitFor_58 (Nat.le_of_ble_eq_true rfl) rfl (Nat.le_of_ble_eq_true rfl) ?_
              refine zc_sL (ls1 := [some (.ref 0), some (.int x1), some (.int y2), some (.int y3), some (.int y4), some (.int r9)]) rfl ?_
              refine zc_iload (pc := 60) dX10_sitFor_60 rfl ?_
              refine zc_iload_n (pc := 62) dX10_sitFor_62 rfl rfl ?_
              refine zc_icmp_le (pc := 63) 72 dX10_sitFor_63 (by decide) (fun _ => ?_) (fun _ => ?_)
              · refine zc_iinc (pc := 72) (1 : Int32) dX10_sitFor_72 (by decide) rfl (Nat.le_of_ble_eq_true rfl) rfl ?_
                refine zc_sL (ls1 := [some (.ref 0), some (.int x1), some (.int y2), some (.int y3), some (.int (y4 + (1 : Int32))), some (.int r9)]) rfl ?_
                refine zc_goto (pc := 75) 16 dX10_sitFor_75 (by decide) ?_
                refine zc_drop 5 ?_
                exact ih15 y2 y3 (y4 + (1 : Int32)) r8
              · refine zc_iload (pc := 66) dX10_sitFor_66 rfl ?_
                refine zc_istore_n (pc := 68) dX10_sitFor_68 rfl (Nat.le_of_ble_eq_true rfl) rfl (Nat.le_of_ble_eq_true rfl) ?_
                refine zc_sL (ls1 := [some (.ref 0), some (.int x1), some (.int y2), some (.int r9), some (.int y4), some (.int r9)]) rfl ?_
                refine zc_iload (pc := 69) dX10_sitFor_69 rfl ?_
                refine zc_istore_n (pc := 71) dX10_sitFor_71 rfl (Nat.le_of_ble_eq_true rfl) rfl (Nat.le_of_ble_eq_true rfl) ?_
                refine zc_sL (ls1 := [some (.ref 0), some (.int x1), some (.int y4), some (.int r9), some (.int y4), some (.int r9)]) rfl ?_
                refine zc_iinc (pc := 72) (1 : Int32) dX10_sitFor_72 (by decide) rfl (Nat.le_of_ble_eq_true rfl) rfl ?_
                refine zc_sL (ls1 := [some (.ref 0), some (.int x1), some (.int y4), some (.int r9), some (.int (y4 + (1 : Int32))), some (.int r9)]) rfl ?_
                refine zc_goto (pc := 75) 16 dX10_sitFor_75 (by decide) ?_
                refine zc_drop 5 ?_
                exact ih15 y4 r9 (y4 + (1 : Int32)) r8
      exact L14 zFU (0 : Int32) (-1 : Int32) (0 : Int32) h
def zl_X10_move_28 (x1 : Int32) (x2 : Int32) : Nat → Int32 → Int32 → Int32 → zHp → Option (Int32 × zHp)
  | 0, _, _, _, _ => none
  | fu + 1, y3, y4, y5, h6 => (if (12 : Int32) ≤ y5 then some (y3, h6) else ((zf_X7_become 25 16 h6).bind (fun r7 => (if zc_ix x1 7 then ((some (zc_ui r7 (25 + 3) x1.toNatClampNeg y5) : Option zHp).bind (fun h9 => ((zf_X7_goDays 25 x2 h9).bind (fun r10 => (if zc_ix x1 7 then (if (r10.1 (25 + 5) x1.toNatClampNeg) ≤ y4 then zl_X10_move_28 x1 x2 fu y3 y4 (y5 + (1 : Int32)) r10 else (if zc_ix x1 7 then ((some (r10.1 (25 + 5) x1.toNatClampNeg) : Option Int32).bind (fun v13 => zl_X10_move_28 x1 x2 fu y5 v13 (y5 + (1 : Int32)) r10)) else none)) else none))))) else none))))
def zf_X10_move (x1 : Int32) (x2 : Int32) (h : zHp) : Option (Int32 × zHp) :=
  ((zf_X7_isThere 16 x1 h).bind (fun r1 => (if r1 = 0 then some ((-1 : Int32), h) else ((zf_X10_isDaysOn x2).bind (fun r2 => (if r2 = 0 then some ((-1 : Int32), h) else ((zl_X10_move_28 x1 x2 zFU (0 : Int32) (-1 : Int32) (0 : Int32) h).bind (fun v14 => some (v14.1, v14.2)))))))))
set_option maxRecDepth 100000 in
set_option maxHeartbeats 4000000 in
theorem zt_X10_move (x1 : Int32) (x2 : Int32) (h : zHp) {r : (Int32 × zHp)} (hr : (zf_X10_move x1 x2 h) = some r) : zc_Cn zM_X10_move [.ref 0, .int x1, .int x2] h (zc_mI r) := by
  refine zc_meth (mk := zc_mI) (o := (zf_X10_move x1 x2 h)) (by decide +kernel) (Nat.le_of_ble_eq_true rfl) ?_ hr
  unfold zf_X10_move
  refine zc_sL (ls1 := [some (.ref 0), some (.int x1), some (.int x2), none, none, none]) rfl ?_
  refine zc_aload_n (pc := 0) dX10_move_0 rfl rfl ?_
  refine zc_getC (pc := 1) zF_X10_62 rfl dX10_move_1 ?_
  refine zc_iload_n (pc := 4) dX10_move_4 rfl rfl ?_
  refine zc_callIp (pc := 5) [.ref 16, .int x1] rfl (zc_runV (ci := 7) (n0 := 0) (q := (RX7, TX7, 15)) zo_X7_isThere ⟨Nat.le_of_ble_eq_true rfl, Nat.le_of_ble_eq_true rfl⟩ zw_470 zw_379 zw_380 rfl (by decide) rfl rfl dX10_move_5) (Nat.le_of_ble_eq_true rfl) (fun _ hr => zt_X7_isThere 16 rfl x1 h hr) (fun r1 => ?_)
  refine zc_if_eq (pc := 8) 18 dX10_move_8 (by decide) (fun _ => ?_) (fun _ => ?_)
  · refine zc_iconst (pc := 18) (-1 : Int32) dX10_move_18 (by decide) ?_
    exact zc_iretK (pc := 19) dX10_move_19 rfl ⟨_, rfl, rfl⟩
  · refine zc_iload_n (pc := 11) dX10_move_11 rfl rfl ?_
    refine zc_callIp (pc := 12) [.int x2] rfl (zc_runS zo_X10_isDaysOn ⟨Nat.le_of_ble_eq_true rfl, Nat.le_of_ble_eq_true rfl⟩ zw_518 zw_519 rfl dX10_move_12) (Nat.le_of_ble_eq_true rfl) (fun _ hr => zt_X10_isDaysOn x2 h hr) (fun r2 => ?_)
    refine zc_if_ne (pc := 15) 20 dX10_move_15 (by decide) (fun _ => ?_) (fun _ => ?_)
    · refine zc_iconst (pc := 18) (-1 : Int32) dX10_move_18 (by decide) ?_
      exact zc_iretK (pc := 19) dX10_move_19 rfl ⟨_, rfl, rfl⟩
    · refine zc_iconst (pc := 20) (0 : Int32) dX10_move_20 (by decide) ?_
      refine zc_istore_n (pc := 21) dX10_move_21 rfl (Nat.le_of_ble_eq_true rfl) rfl (Nat.le_of_ble_eq_true rfl) ?_
      refine zc_sL (ls1 := [some (.ref 0), some (.int x1), some (.int x2), some (.int (0 : Int32)), none, none]) rfl ?_
      refine zc_iconst (pc := 22) (-1 : Int32) dX10_move_22 (by decide) ?_
      refine zc_istore (pc := 23) dX10_move_23 (Nat.le_of_ble_eq_true rfl) rfl (Nat.le_of_ble_eq_true rfl) ?_
      refine zc_sL (ls1 := [some (.ref 0), some (.int x1), some (.int x2), some (.int (0 : Int32)), some (.int (-1 : Int32)), none]) rfl ?_
      refine zc_iconst (pc := 25) (0 : Int32) dX10_move_25 (by decide) ?_
      refine zc_istore (pc := 26) dX10_move_26 (Nat.le_of_ble_eq_true rfl) rfl (Nat.le_of_ble_eq_true rfl) ?_
      refine zc_sL (ls1 := [some (.ref 0), some (.int x1), some (.int x2), some (.int (0 : Int32)), some (.int (-1 : Int32)), some (.int (0 : Int32))]) rfl ?_
      refine zc_sL (ls1 := [some (.ref 0), some (.int x1), some (.int x2), some (.int (0 : Int32)), some (.int (-1 : Int32)), some (.int (0 : Int32))]) rfl ?_
      refine zc_loop 99 (fun v14 => [none, none, none, some (.int v14.1), none, none]) (fun v14 => []) (fun v14 => v14.2) (fun v14 => ?_) (fun k16 J15 => ?_)
      · refine zc_iload_n (pc := 99) dX10_move_99 rfl rfl ?_
        exact zc_iretK (pc := 100) dX10_move_100 rfl ⟨_, rfl, rfl⟩
      · have L18 : ∀ (fu : Nat) (y3 : Int32) (y4 : Int32) (y5 : Int32) (h6 : zHp), zc_G zM_X10_move zc_mI 28 [some (.ref 0), some (.int x1), some (.int x2), some (.int y3), some (.int y4), some (.int y5)] [] h6 ((zl_X10_move_28 x1 x2 fu y3 y4 y5 h6).bind k16) := by
            intro fu
            induction fu with
            | zero => intros; exact zc_noneb
            | succ fu ih19 =>
              intro y3 y4 y5 h6
              unfold zl_X10_move_28
              refine zc_iload (pc := 28) dX10_move_28 rfl ?_
              refine zc_bipush (pc := 30) (12 : Int32) dX10_move_30 (by decide) ?_
              refine zc_icmp_ge (pc := 32) 99 dX10_move_32 (by decide) (fun _ => ?_) (fun _ => ?_)
              · refine zc_drop 0 ?_
                refine zc_drop 1 ?_
                refine zc_drop 2 ?_
                refine zc_drop 4 ?_
                refine zc_drop 5 ?_
                exact J15 (y3, h6)
              · refine zc_aload_n (pc := 35) dX10_move_35 rfl rfl ?_
                refine zc_getC (pc := 36) zF_X10_66 rfl dX10_move_36 ?_
                refine zc_aload_n (pc := 39) dX10_move_39 rfl rfl ?_
                refine zc_getC (pc := 40) zF_X10_62 rfl dX10_move_40 ?_
                refine zc_callV (pc := 43) [.ref 25, .ref 16] rfl (zc_runV (ci := 7) (n0 := 0) (q := (RX7, TX7, 15)) zo_X7_become ⟨Nat.le_of_ble_eq_true rfl, Nat.le_of_ble_eq_true rfl⟩ zw_244 zw_245 zw_246 rfl (by decide) rfl rfl dX10_move_43) (Nat.le_of_ble_eq_true rfl) (fun _ hr => zt_X7_become 25 rfl 16 rfl h6 hr) (fun r7 => ?_)
                refine zc_aload_n (pc := 46) dX10_move_46 rfl rfl ?_
                refine zc_getC (pc := 47) zF_X10_66 rfl dX10_move_47 ?_
                refine zc_getO (pc := 50) zF_X10_118 rfl dX10_move_50 ?_
                refine zc_iload_n (pc := 53) dX10_move_53 rfl rfl ?_
                refine zc_iload (pc := 54) dX10_move_54 rfl ?_
                refine zc_guard (fun g8 => ?_)
                refine zc_asti (pc := 56) rfl g8 dX10_move_56 ?_
                refine zc_letH (fun h9 _ => ?_)
                refine zc_aload_n (pc := 57) dX10_move_57 rfl rfl ?_
                refine zc_getC (pc := 58) zF_X10_66 rfl dX10_move_58 ?_
                refine zc_iload_n (pc := 61) dX10_move_61 rfl rfl ?_
                refine zc_callV (pc := 62) [.ref 25, .int x2] rfl (zc_runV (ci := 7) (n0 := 0) (q := (RX7, TX7, 15)) zo_X7_goDays ⟨Nat.le_of_ble_eq_true rfl, Nat.le_of_ble_eq_true rfl⟩ zw_390 zw_391 zw_392 rfl (by decide) rfl rfl dX10_move_62) (Nat.le_of_ble_eq_true rfl) (fun _ hr => zt_X7_goDays 25 rfl x2 h9 hr) (fun r10 => ?_)
                refine zc_aload_n (pc := 65) dX10_move_65 rfl rfl ?_
                refine zc_getC (pc := 66) zF_X10_66 rfl dX10_move_66 ?_
                refine zc_getO (pc := 69) zF_X10_124 rfl dX10_move_69 ?_
                refine zc_iload_n (pc := 72) dX10_move_72 rfl rfl ?_
                refine zc_guard (fun g11 => ?_)
                refine zc_aldi (pc := 73) rfl g11 dX10_move_73 ?_
                refine zc_iload (pc := 74) dX10_move_74 rfl ?_
                refine zc_icmp_le (pc := 76) 93 dX10_move_76 (by decide) (fun _ => ?_) (fun _ => ?_)
                · refine zc_iinc (pc := 93) (1 : Int32) dX10_move_93 (by decide) rfl (Nat.le_of_ble_eq_true rfl) rfl ?_
                  refine zc_sL (ls1 := [some (.ref 0), some (.int x1), some (.int x2), some (.int y3), some (.int y4), some (.int (y5 + (1 : Int32)))]) rfl ?_
                  refine zc_goto (pc := 96) 28 dX10_move_96 (by decide) ?_
                  exact ih19 y3 y4 (y5 + (1 : Int32)) r10
                · refine zc_aload_n (pc := 79) dX10_move_79 rfl rfl ?_
                  refine zc_getC (pc := 80) zF_X10_66 rfl dX10_move_80 ?_
                  refine zc_getO (pc := 83) zF_X10_124 rfl dX10_move_83 ?_
                  refine zc_iload_n (pc := 86) dX10_move_86 rfl rfl ?_
                  refine zc_guard (fun g12 => ?_)
                  refine zc_aldi (pc := 87) rfl g12 dX10_move_87 ?_
                  refine zc_letI (fun v13 _ => ?_)
                  refine zc_istore (pc := 88) dX10_move_88 (Nat.le_of_ble_eq_true rfl) rfl (Nat.le_of_ble_eq_true rfl) ?_
                  refine zc_sL (ls1 := [some (.ref 0), some (.int x1), some (.int x2), some (.int y3), some (.int v13), some (.int y5)]) rfl ?_
                  refine zc_iload (pc := 90) dX10_move_90 rfl ?_
                  refine zc_istore_n (pc := 92) dX10_move_92 rfl (Nat.le_of_ble_eq_true rfl) rfl (Nat.le_of_ble_eq_true rfl) ?_
                  refine zc_sL (ls1 := [some (.ref 0), some (.int x1), some (.int x2), some (.int y5), some (.int v13), some (.int y5)]) rfl ?_
                  refine zc_iinc (pc := 93) (1 : Int32) dX10_move_93 (by decide) rfl (Nat.le_of_ble_eq_true rfl) rfl ?_
                  refine zc_sL (ls1 := [some (.ref 0), some (.int x1), some (.int x2), some (.int y5), some (.int v13), some (.int (y5 + (1 : Int32)))]) rfl ?_
                  refine zc_goto (pc := 96) 28 dX10_move_96 (by decide) ?_
                  exact ih19 y5 v13 (y5 + (1 : Int32)) r10
        exact L18 zFU (0 : Int32) (-1 : Int32) (0 : Int32) h
def zl_X10_fetch_56 (x1 : Int32) (x2 : Int32) : Nat → Int32 → Int32 → Int32 → zHp → Option (Int32 × zHp)
  | 0, _, _, _, _ => none
  | fu + 1, y7, y8, y9, h10 => (if (h10.1 16 9) ≤ y9 then some (y8, h10) else ((zf_X7_become 25 16 h10).bind (fun r11 => (if zc_ix x1 7 then ((some (zc_ui r11 (25 + 4) x1.toNatClampNeg y9) : Option zHp).bind (fun h13 => ((zf_X7_goDays 25 x2 h13).bind (fun r14 => (if zc_ix x1 7 then (if (r14.1 (25 + 5) x1.toNatClampNeg) ≤ y7 then zl_X10_fetch_56 x1 x2 fu y7 y8 (y9 + (1 : Int32)) r14 else (if zc_ix x1 7 then ((some (r14.1 (25 + 5) x1.toNatClampNeg) : Option Int32).bind (fun v17 => zl_X10_fetch_56 x1 x2 fu v17 y9 (y9 + (1 : Int32)) r14)) else none)) else none))))) else none))))
def zf_X10_fetch (x1 : Int32) (x2 : Int32) (h : zHp) : Option (Int32 × zHp) :=
  ((zf_X7_isThere 16 x1 h).bind (fun r1 => (if r1 = 0 then some ((-1 : Int32), h) else ((zf_X10_isDaysOn x2).bind (fun r2 => (if r2 = 0 then some ((-1 : Int32), h) else ((zf_X7_become 25 16 h).bind (fun r3 => ((zf_X7_goDays 25 x2 r3).bind (fun r4 => (if zc_ix x1 7 then ((some (r4.1 (25 + 5) x1.toNatClampNeg) : Option Int32).bind (fun v6 => ((zl_X10_fetch_56 x1 x2 zFU v6 (-4 : Int32) (0 : Int32) r4).bind (fun v18 => some (v18.1, v18.2))))) else none)))))))))))
set_option maxRecDepth 100000 in
set_option maxHeartbeats 4000000 in
theorem zt_X10_fetch (x1 : Int32) (x2 : Int32) (h : zHp) {r : (Int32 × zHp)} (hr : (zf_X10_fetch x1 x2 h) = some r) : zc_Cn zM_X10_fetch [.ref 0, .int x1, .int x2] h (zc_mI r) := by
  refine zc_meth (mk := zc_mI) (o := (zf_X10_fetch x1 x2 h)) (by decide +kernel) (Nat.le_of_ble_eq_true rfl) ?_ hr
  unfold zf_X10_fetch
  refine zc_sL (ls1 := [some (.ref 0), some (.int x1), some (.int x2), none, none, none]) rfl ?_
  refine zc_aload_n (pc := 0) dX10_fetch_0 rfl rfl ?_
  refine zc_getC (pc := 1) zF_X10_62 rfl dX10_fetch_1 ?_
  refine zc_iload_n (pc := 4) dX10_fetch_4 rfl rfl ?_
  refine zc_callIp (pc := 5) [.ref 16, .int x1] rfl (zc_runV (ci := 7) (n0 := 0) (q := (RX7, TX7, 15)) zo_X7_isThere ⟨Nat.le_of_ble_eq_true rfl, Nat.le_of_ble_eq_true rfl⟩ zw_470 zw_379 zw_380 rfl (by decide) rfl rfl dX10_fetch_5) (Nat.le_of_ble_eq_true rfl) (fun _ hr => zt_X7_isThere 16 rfl x1 h hr) (fun r1 => ?_)
  refine zc_if_eq (pc := 8) 18 dX10_fetch_8 (by decide) (fun _ => ?_) (fun _ => ?_)
  · refine zc_iconst (pc := 18) (-1 : Int32) dX10_fetch_18 (by decide) ?_
    exact zc_iretK (pc := 19) dX10_fetch_19 rfl ⟨_, rfl, rfl⟩
  · refine zc_iload_n (pc := 11) dX10_fetch_11 rfl rfl ?_
    refine zc_callIp (pc := 12) [.int x2] rfl (zc_runS zo_X10_isDaysOn ⟨Nat.le_of_ble_eq_true rfl, Nat.le_of_ble_eq_true rfl⟩ zw_518 zw_519 rfl dX10_fetch_12) (Nat.le_of_ble_eq_true rfl) (fun _ hr => zt_X10_isDaysOn x2 h hr) (fun r2 => ?_)
    refine zc_if_ne (pc := 15) 20 dX10_fetch_15 (by decide) (fun _ => ?_) (fun _ => ?_)
    · refine zc_iconst (pc := 18) (-1 : Int32) dX10_fetch_18 (by decide) ?_
      exact zc_iretK (pc := 19) dX10_fetch_19 rfl ⟨_, rfl, rfl⟩
    · refine zc_aload_n (pc := 20) dX10_fetch_20 rfl rfl ?_
      refine zc_getC (pc := 21) zF_X10_66 rfl dX10_fetch_21 ?_
      refine zc_aload_n (pc := 24) dX10_fetch_24 rfl rfl ?_
      refine zc_getC (pc := 25) zF_X10_62 rfl dX10_fetch_25 ?_
      refine zc_callV (pc := 28) [.ref 25, .ref 16] rfl (zc_runV (ci := 7) (n0 := 0) (q := (RX7, TX7, 15)) zo_X7_become ⟨Nat.le_of_ble_eq_true rfl, Nat.le_of_ble_eq_true rfl⟩ zw_244 zw_245 zw_246 rfl (by decide) rfl rfl dX10_fetch_28) (Nat.le_of_ble_eq_true rfl) (fun _ hr => zt_X7_become 25 rfl 16 rfl h hr) (fun r3 => ?_)
      refine zc_aload_n (pc := 31) dX10_fetch_31 rfl rfl ?_
      refine zc_getC (pc := 32) zF_X10_66 rfl dX10_fetch_32 ?_
      refine zc_iload_n (pc := 35) dX10_fetch_35 rfl rfl ?_
      refine zc_callV (pc := 36) [.ref 25, .int x2] rfl (zc_runV (ci := 7) (n0 := 0) (q := (RX7, TX7, 15)) zo_X7_goDays ⟨Nat.le_of_ble_eq_true rfl, Nat.le_of_ble_eq_true rfl⟩ zw_390 zw_391 zw_392 rfl (by decide) rfl rfl dX10_fetch_36) (Nat.le_of_ble_eq_true rfl) (fun _ hr => zt_X7_goDays 25 rfl x2 r3 hr) (fun r4 => ?_)
      refine zc_aload_n (pc := 39) dX10_fetch_39 rfl rfl ?_
      refine zc_getC (pc := 40) zF_X10_66 rfl dX10_fetch_40 ?_
      refine zc_getO (pc := 43) zF_X10_124 rfl dX10_fetch_43 ?_
      refine zc_iload_n (pc := 46) dX10_fetch_46 rfl rfl ?_
      refine zc_guard (fun g5 => ?_)
      refine zc_aldi (pc := 47) rfl g5 dX10_fetch_47 ?_
      refine zc_letI (fun v6 _ => ?_)
      refine zc_istore_n (pc := 48) dX10_fetch_48 rfl (Nat.le_of_ble_eq_true rfl) rfl (Nat.le_of_ble_eq_true rfl) ?_
      refine zc_sL (ls1 := [some (.ref 0), some (.int x1), some (.int x2), some (.int v6), none, none]) rfl ?_
      refine zc_bipush (pc := 49) (-4 : Int32) dX10_fetch_49 (by decide) ?_
      refine zc_istore (pc := 51) dX10_fetch_51 (Nat.le_of_ble_eq_true rfl) rfl (Nat.le_of_ble_eq_true rfl) ?_
      refine zc_sL (ls1 := [some (.ref 0), some (.int x1), some (.int x2), some (.int v6), some (.int (-4 : Int32)), none]) rfl ?_
      refine zc_iconst (pc := 53) (0 : Int32) dX10_fetch_53 (by decide) ?_
      refine zc_istore (pc := 54) dX10_fetch_54 (Nat.le_of_ble_eq_true rfl) rfl (Nat.le_of_ble_eq_true rfl) ?_
      refine zc_sL (ls1 := [some (.ref 0), some (.int x1), some (.int x2), some (.int v6), some (.int (-4 : Int32)), some (.int (0 : Int32))]) rfl ?_
      refine zc_sL (ls1 := [some (.ref 0), some (.int x1), some (.int x2), some (.int v6), some (.int (-4 : Int32)), some (.int (0 : Int32))]) rfl ?_
      refine zc_loop 131 (fun v18 => [none, none, none, none, some (.int v18.1), none]) (fun v18 => []) (fun v18 => v18.2) (fun v18 => ?_) (fun k20 J19 => ?_)
      · refine zc_iload (pc := 131) dX10_fetch_131 rfl ?_
        exact zc_iretK (pc := 133) dX10_fetch_133 rfl ⟨_, rfl, rfl⟩
      · have L22 : ∀ (fu : Nat) (y7 : Int32) (y8 : Int32) (y9 : Int32) (h10 : zHp), zc_G zM_X10_fetch zc_mI 56 [some (.ref 0), some (.int x1), some (.int x2), some (.int y7), some (.int y8), some (.int y9)] [] h10 ((zl_X10_fetch_56 x1 x2 fu y7 y8 y9 h10).bind k20) := by
            intro fu
            induction fu with
            | zero => intros; exact zc_noneb
            | succ fu ih23 =>
              intro y7 y8 y9 h10
              unfold zl_X10_fetch_56
              refine zc_iload (pc := 56) dX10_fetch_56 rfl ?_
              refine zc_aload_n (pc := 58) dX10_fetch_58 rfl rfl ?_
              refine zc_getC (pc := 59) zF_X10_62 rfl dX10_fetch_59 ?_
              refine zc_getI (pc := 62) zF_X10_152 rfl dX10_fetch_62 ?_
              refine zc_icmp_ge (pc := 65) 131 dX10_fetch_65 (by decide) (fun _ => ?_) (fun _ => ?_)
              · refine zc_drop 0 ?_
                refine zc_drop 1 ?_
                refine zc_drop 2 ?_
                refine zc_drop 3 ?_
                refine zc_drop 5 ?_
                exact J19 (y8, h10)
              · refine zc_aload_n (pc := 68) dX10_fetch_68 rfl rfl ?_
                refine zc_getC (pc := 69) zF_X10_66 rfl dX10_fetch_69 ?_
                refine zc_aload_n (pc := 72) dX10_fetch_72 rfl rfl ?_
                refine zc_getC (pc := 73) zF_X10_62 rfl dX10_fetch_73 ?_
                refine zc_callV (pc := 76) [.ref 25, .ref 16] rfl (zc_runV (ci := 7) (n0 := 0) (q := (RX7, TX7, 15)) zo_X7_become ⟨Nat.le_of_ble_eq_true rfl, Nat.le_of_ble_eq_true rfl⟩ zw_244 zw_245 zw_246 rfl (by decide) rfl rfl dX10_fetch_76) (Nat.le_of_ble_eq_true rfl) (fun _ hr => zt_X7_become 25 rfl 16 rfl h10 hr) (fun r11 => ?_)
                refine zc_aload_n (pc := 79) dX10_fetch_79 rfl rfl ?_
                refine zc_getC (pc := 80) zF_X10_66 rfl dX10_fetch_80 ?_
                refine zc_getO (pc := 83) zF_X10_121 rfl dX10_fetch_83 ?_
                refine zc_iload_n (pc := 86) dX10_fetch_86 rfl rfl ?_
                refine zc_iload (pc := 87) dX10_fetch_87 rfl ?_
                refine zc_guard (fun g12 => ?_)
                refine zc_asti (pc := 89) rfl g12 dX10_fetch_89 ?_
                refine zc_letH (fun h13 _ => ?_)
                refine zc_aload_n (pc := 90) dX10_fetch_90 rfl rfl ?_
                refine zc_getC (pc := 91) zF_X10_66 rfl dX10_fetch_91 ?_
                refine zc_iload_n (pc := 94) dX10_fetch_94 rfl rfl ?_
                refine zc_callV (pc := 95) [.ref 25, .int x2] rfl (zc_runV (ci := 7) (n0 := 0) (q := (RX7, TX7, 15)) zo_X7_goDays ⟨Nat.le_of_ble_eq_true rfl, Nat.le_of_ble_eq_true rfl⟩ zw_390 zw_391 zw_392 rfl (by decide) rfl rfl dX10_fetch_95) (Nat.le_of_ble_eq_true rfl) (fun _ hr => zt_X7_goDays 25 rfl x2 h13 hr) (fun r14 => ?_)
                refine zc_aload_n (pc := 98) dX10_fetch_98 rfl rfl ?_
                refine zc_getC (pc := 99) zF_X10_66 rfl dX10_fetch_99 ?_
                refine zc_getO (pc := 102) zF_X10_124 rfl dX10_fetch_102 ?_
                refine zc_iload_n (pc := 105) dX10_fetch_105 rfl rfl ?_
                refine zc_guard (fun g15 => ?_)
                refine zc_aldi (pc := 106) rfl g15 dX10_fetch_106 ?_
                refine zc_iload_n (pc := 107) dX10_fetch_107 rfl rfl ?_
                refine zc_icmp_le (pc := 108) 125 dX10_fetch_108 (by decide) (fun _ => ?_) (fun _ => ?_)
                · refine zc_iinc (pc := 125) (1 : Int32) dX10_fetch_125 (by decide) rfl (Nat.le_of_ble_eq_true rfl) rfl ?_
                  refine zc_sL (ls1 := [some (.ref 0), some (.int x1), some (.int x2), some (.int y7), some (.int y8), some (.int (y9 + (1 : Int32)))]) rfl ?_
                  refine zc_goto (pc := 128) 56 dX10_fetch_128 (by decide) ?_
                  exact ih23 y7 y8 (y9 + (1 : Int32)) r14
                · refine zc_aload_n (pc := 111) dX10_fetch_111 rfl rfl ?_
                  refine zc_getC (pc := 112) zF_X10_66 rfl dX10_fetch_112 ?_
                  refine zc_getO (pc := 115) zF_X10_124 rfl dX10_fetch_115 ?_
                  refine zc_iload_n (pc := 118) dX10_fetch_118 rfl rfl ?_
                  refine zc_guard (fun g16 => ?_)
                  refine zc_aldi (pc := 119) rfl g16 dX10_fetch_119 ?_
                  refine zc_letI (fun v17 _ => ?_)
                  refine zc_istore_n (pc := 120) dX10_fetch_120 rfl (Nat.le_of_ble_eq_true rfl) rfl (Nat.le_of_ble_eq_true rfl) ?_
                  refine zc_sL (ls1 := [some (.ref 0), some (.int x1), some (.int x2), some (.int v17), some (.int y8), some (.int y9)]) rfl ?_
                  refine zc_iload (pc := 121) dX10_fetch_121 rfl ?_
                  refine zc_istore (pc := 123) dX10_fetch_123 (Nat.le_of_ble_eq_true rfl) rfl (Nat.le_of_ble_eq_true rfl) ?_
                  refine zc_sL (ls1 := [some (.ref 0), some (.int x1), some (.int x2), some (.int v17), some (.int y9), some (.int y9)]) rfl ?_
                  refine zc_iinc (pc := 125) (1 : Int32) dX10_fetch_125 (by decide) rfl (Nat.le_of_ble_eq_true rfl) rfl ?_
                  refine zc_sL (ls1 := [some (.ref 0), some (.int x1), some (.int x2), some (.int v17), some (.int y9), some (.int (y9 + (1 : Int32)))]) rfl ?_
                  refine zc_goto (pc := 128) 56 dX10_fetch_128 (by decide) ?_
                  exact ih23 v17 y9 (y9 + (1 : Int32)) r14
        exact L22 zFU v6 (-4 : Int32) (0 : Int32) r4
def zl_X10_stepBest_16 (x1 : Int32) : Nat → Int32 → Int32 → Int32 → zHp → Option (Int32 × zHp)
  | 0, _, _, _, _ => none
  | fu + 1, y2, y3, y4, h5 => (if (5 : Int32) < y4 then some (y2, h5) else ((zf_X7_become 25 16 h5).bind (fun r6 => ((some (zc_ui r6 25 11 y4) : Option zHp).bind (fun h7 => ((zf_X7_goDays 25 x1 h7).bind (fun r8 => ((zf_X7_allStock 25 r8).bind (fun r9 => (if r9 ≤ y3 then zl_X10_stepBest_16 x1 fu y2 y3 (y4 + (1 : Int32)) r8 else zl_X10_stepBest_16 x1 fu y4 r9 (y4 + (1 : Int32)) r8))))))))))
def zf_X10_stepBest (x1 : Int32) (h : zHp) : Option (Int32 × zHp) :=
  ((zf_X10_isDaysOn x1).bind (fun r1 => (if r1 = 0 then some ((-1 : Int32), h) else ((zl_X10_stepBest_16 x1 zFU (0 : Int32) (-1 : Int32) (0 : Int32) h).bind (fun v10 => some (v10.1, v10.2))))))
set_option maxRecDepth 100000 in
set_option maxHeartbeats 4000000 in
theorem zt_X10_stepBest (x1 : Int32) (h : zHp) {r : (Int32 × zHp)} (hr : (zf_X10_stepBest x1 h) = some r) : zc_Cn zM_X10_stepBest [.ref 0, .int x1] h (zc_mI r) := by
  refine zc_meth (mk := zc_mI) (o := (zf_X10_stepBest x1 h)) (by decide +kernel) (Nat.le_of_ble_eq_true rfl) ?_ hr
  unfold zf_X10_stepBest
  refine zc_sL (ls1 := [some (.ref 0), some (.int x1), none, none, none, none]) rfl ?_
  refine zc_iload_n (pc := 0) dX10_stepBest_0 rfl rfl ?_
  refine zc_callIp (pc := 1) [.int x1] rfl (zc_runS zo_X10_isDaysOn ⟨Nat.le_of_ble_eq_true rfl, Nat.le_of_ble_eq_true rfl⟩ zw_518 zw_519 rfl dX10_stepBest_1) (Nat.le_of_ble_eq_true rfl) (fun _ hr => zt_X10_isDaysOn x1 h hr) (fun r1 => ?_)
  refine zc_if_ne (pc := 4) 9 dX10_stepBest_4 (by decide) (fun _ => ?_) (fun _ => ?_)
  · refine zc_iconst (pc := 7) (-1 : Int32) dX10_stepBest_7 (by decide) ?_
    exact zc_iretK (pc := 8) dX10_stepBest_8 rfl ⟨_, rfl, rfl⟩
  · refine zc_iconst (pc := 9) (0 : Int32) dX10_stepBest_9 (by decide) ?_
    refine zc_istore_n (pc := 10) dX10_stepBest_10 rfl (Nat.le_of_ble_eq_true rfl) rfl (Nat.le_of_ble_eq_true rfl) ?_
    refine zc_sL (ls1 := [some (.ref 0), some (.int x1), some (.int (0 : Int32)), none, none, none]) rfl ?_
    refine zc_iconst (pc := 11) (-1 : Int32) dX10_stepBest_11 (by decide) ?_
    refine zc_istore_n (pc := 12) dX10_stepBest_12 rfl (Nat.le_of_ble_eq_true rfl) rfl (Nat.le_of_ble_eq_true rfl) ?_
    refine zc_sL (ls1 := [some (.ref 0), some (.int x1), some (.int (0 : Int32)), some (.int (-1 : Int32)), none, none]) rfl ?_
    refine zc_iconst (pc := 13) (0 : Int32) dX10_stepBest_13 (by decide) ?_
    refine zc_istore (pc := 14) dX10_stepBest_14 (Nat.le_of_ble_eq_true rfl) rfl (Nat.le_of_ble_eq_true rfl) ?_
    refine zc_sL (ls1 := [some (.ref 0), some (.int x1), some (.int (0 : Int32)), some (.int (-1 : Int32)), some (.int (0 : Int32)), none]) rfl ?_
    refine zc_sL (ls1 := [some (.ref 0), some (.int x1), some (.int (0 : Int32)), some (.int (-1 : Int32)), some (.int (0 : Int32)), none]) rfl ?_
    refine zc_loop 77 (fun v10 => [none, none, some (.int v10.1), none, none, none]) (fun v10 => []) (fun v10 => v10.2) (fun v10 => ?_) (fun k12 J11 => ?_)
    · refine zc_iload_n (pc := 77) dX10_stepBest_77 rfl rfl ?_
      exact zc_iretK (pc := 78) dX10_stepBest_78 rfl ⟨_, rfl, rfl⟩
    · have L14 : ∀ (fu : Nat) (y2 : Int32) (y3 : Int32) (y4 : Int32) (h5 : zHp), zc_G zM_X10_stepBest zc_mI 16 [some (.ref 0), some (.int x1), some (.int y2), some (.int y3), some (.int y4), none] [] h5 ((zl_X10_stepBest_16 x1 fu y2 y3 y4 h5).bind k12) := by
          intro fu
          induction fu with
          | zero => intros; exact zc_noneb
          | succ fu ih15 =>
            intro y2 y3 y4 h5
            unfold zl_X10_stepBest_16
            refine zc_iload (pc := 16) dX10_stepBest_16 rfl ?_
            refine zc_iconst (pc := 18) (5 : Int32) dX10_stepBest_18 (by decide) ?_
            refine zc_icmp_gt (pc := 19) 77 dX10_stepBest_19 (by decide) (fun _ => ?_) (fun _ => ?_)
            · refine zc_drop 0 ?_
              refine zc_drop 1 ?_
              refine zc_drop 3 ?_
              refine zc_drop 4 ?_
              exact J11 (y2, h5)
            · refine zc_aload_n (pc := 22) dX10_stepBest_22 rfl rfl ?_
              refine zc_getC (pc := 23) zF_X10_66 rfl dX10_stepBest_23 ?_
              refine zc_aload_n (pc := 26) dX10_stepBest_26 rfl rfl ?_
              refine zc_getC (pc := 27) zF_X10_62 rfl dX10_stepBest_27 ?_
              refine zc_callV (pc := 30) [.ref 25, .ref 16] rfl (zc_runV (ci := 7) (n0 := 0) (q := (RX7, TX7, 15)) zo_X7_become ⟨Nat.le_of_ble_eq_true rfl, Nat.le_of_ble_eq_true rfl⟩ zw_244 zw_245 zw_246 rfl (by decide) rfl rfl dX10_stepBest_30) (Nat.le_of_ble_eq_true rfl) (fun _ hr => zt_X7_become 25 rfl 16 rfl h5 hr) (fun r6 => ?_)
              refine zc_aload_n (pc := 33) dX10_stepBest_33 rfl rfl ?_
              refine zc_getC (pc := 34) zF_X10_66 rfl dX10_stepBest_34 ?_
              refine zc_iload (pc := 37) dX10_stepBest_37 rfl ?_
              refine zc_putI (pc := 39) zF_X10_208 rfl dX10_stepBest_39 ?_
              refine zc_letH (fun h7 _ => ?_)
              refine zc_aload_n (pc := 42) dX10_stepBest_42 rfl rfl ?_
              refine zc_getC (pc := 43) zF_X10_66 rfl dX10_stepBest_43 ?_
              refine zc_iload_n (pc := 46) dX10_stepBest_46 rfl rfl ?_
              refine zc_callV (pc := 47) [.ref 25, .int x1] rfl (zc_runV (ci := 7) (n0 := 0) (q := (RX7, TX7, 15)) zo_X7_goDays ⟨Nat.le_of_ble_eq_true rfl, Nat.le_of_ble_eq_true rfl⟩ zw_390 zw_391 zw_392 rfl (by decide) rfl rfl dX10_stepBest_47) (Nat.le_of_ble_eq_true rfl) (fun _ hr => zt_X7_goDays 25 rfl x1 h7 hr) (fun r8 => ?_)
              refine zc_aload_n (pc := 50) dX10_stepBest_50 rfl rfl ?_
              refine zc_getC (pc := 51) zF_X10_66 rfl dX10_stepBest_51 ?_
              refine zc_callIp (pc := 54) [.ref 25] rfl (zc_runV (ci := 7) (n0 := 0) (q := (RX7, TX7, 15)) zo_X7_allStock ⟨Nat.le_of_ble_eq_true rfl, Nat.le_of_ble_eq_true rfl⟩ zw_510 zw_511 zw_512 rfl (by decide) rfl rfl dX10_stepBest_54) (Nat.le_of_ble_eq_true rfl) (fun _ hr => zt_X7_allStock 25 rfl r8 hr) (fun r9 => ?_)
              refine zc_istore (pc := 57) dX10_stepBest_57 (Nat.le_of_ble_eq_true rfl) rfl (Nat.le_of_ble_eq_true rfl) ?_
              refine zc_sL (ls1 := [some (.ref 0), some (.int x1), some (.int y2), some (.int y3), some (.int y4), some (.int r9)]) rfl ?_
              refine zc_iload (pc := 59) dX10_stepBest_59 rfl ?_
              refine zc_iload_n (pc := 61) dX10_stepBest_61 rfl rfl ?_
              refine zc_icmp_le (pc := 62) 71 dX10_stepBest_62 (by decide) (fun _ => ?_) (fun _ => ?_)
              · refine zc_iinc (pc := 71) (1 : Int32) dX10_stepBest_71 (by decide) rfl (Nat.le_of_ble_eq_true rfl) rfl ?_
                refine zc_sL (ls1 := [some (.ref 0), some (.int x1), some (.int y2), some (.int y3), some (.int (y4 + (1 : Int32))), some (.int r9)]) rfl ?_
                refine zc_goto (pc := 74) 16 dX10_stepBest_74 (by decide) ?_
                refine zc_drop 5 ?_
                exact ih15 y2 y3 (y4 + (1 : Int32)) r8
              · refine zc_iload (pc := 65) dX10_stepBest_65 rfl ?_
                refine zc_istore_n (pc := 67) dX10_stepBest_67 rfl (Nat.le_of_ble_eq_true rfl) rfl (Nat.le_of_ble_eq_true rfl) ?_
                refine zc_sL (ls1 := [some (.ref 0), some (.int x1), some (.int y2), some (.int r9), some (.int y4), some (.int r9)]) rfl ?_
                refine zc_iload (pc := 68) dX10_stepBest_68 rfl ?_
                refine zc_istore_n (pc := 70) dX10_stepBest_70 rfl (Nat.le_of_ble_eq_true rfl) rfl (Nat.le_of_ble_eq_true rfl) ?_
                refine zc_sL (ls1 := [some (.ref 0), some (.int x1), some (.int y4), some (.int r9), some (.int y4), some (.int r9)]) rfl ?_
                refine zc_iinc (pc := 71) (1 : Int32) dX10_stepBest_71 (by decide) rfl (Nat.le_of_ble_eq_true rfl) rfl ?_
                refine zc_sL (ls1 := [some (.ref 0), some (.int x1), some (.int y4), some (.int r9), some (.int (y4 + (1 : Int32))), some (.int r9)]) rfl ?_
                refine zc_goto (pc := 74) 16 dX10_stepBest_74 (by decide) ?_
                refine zc_drop 5 ?_
                exact ih15 y4 r9 (y4 + (1 : Int32)) r8
      exact L14 zFU (0 : Int32) (-1 : Int32) (0 : Int32) h
def zl_X10_measureWaysBetween_15 (y1 : Int32) : Nat → Int32 → zHp → Option zHp
  | 0, _, _ => none
  | fu + 1, y3, h4 => (if (h4.1 16 9) ≤ y3 then some h4 else (if zc_ix y3 7 then ((zf_X7_wayTo 16 y1 (h4.1 (16 + 3) y3.toNatClampNeg) h4).bind (fun r6 => (if zc_ix ((y1 * (7 : Int32)) + y3) 49 then ((some (zc_ui h4 1 ((y1 * (7 : Int32)) + y3).toNatClampNeg r6) : Option zHp).bind (fun h8 => zl_X10_measureWaysBetween_15 y1 fu (y3 + (1 : Int32)) h8)) else none))) else none))
def zl_X10_measureWaysBetween_2  : Nat → Int32 → zHp → Option zHp
  | 0, _, _ => none
  | fu + 1, y1, h2 => (if (h2.1 16 9) ≤ y1 then some h2 else ((zl_X10_measureWaysBetween_15 y1 zFU (0 : Int32) h2).bind (fun v9 => zl_X10_measureWaysBetween_2 fu (y1 + (1 : Int32)) v9)))
def zf_X10_measureWaysBetween (h : zHp) : Option zHp :=
  ((zl_X10_measureWaysBetween_2 zFU (0 : Int32) h).bind (fun v10 => some v10))
set_option maxRecDepth 100000 in
set_option maxHeartbeats 4000000 in
theorem zt_X10_measureWaysBetween (h : zHp) {r : zHp} (hr : (zf_X10_measureWaysBetween h) = some r) : zc_Cn zM_X10_measureWaysBetween [.ref 0] h (zc_mV r) := by
  refine zc_meth (mk := zc_mV) (o := (zf_X10_measureWaysBetween h)) (by decide +kernel) (Nat.le_of_ble_eq_true rfl) ?_ hr
  unfold zf_X10_measureWaysBetween
  refine zc_sL (ls1 := [some (.ref 0), none, none]) rfl ?_
  refine zc_iconst (pc := 0) (0 : Int32) dX10_measureWaysBetween_0 (by decide) ?_
  refine zc_istore_n (pc := 1) dX10_measureWaysBetween_1 rfl (Nat.le_of_ble_eq_true rfl) rfl (Nat.le_of_ble_eq_true rfl) ?_
  refine zc_sL (ls1 := [some (.ref 0), some (.int (0 : Int32)), none]) rfl ?_
  refine zc_sL (ls1 := [some (.ref 0), some (.int (0 : Int32)), none]) rfl ?_
  refine zc_loop 66 (fun v10 => [none, none, none]) (fun v10 => []) (fun v10 => v10) (fun v10 => ?_) (fun k12 J11 => ?_)
  · exact zc_vretK (pc := 66) dX10_measureWaysBetween_66 rfl ⟨_, rfl, rfl⟩
  · have L14 : ∀ (fu : Nat) (y1 : Int32) (h2 : zHp), zc_G zM_X10_measureWaysBetween zc_mV 2 [some (.ref 0), some (.int y1), none] [] h2 ((zl_X10_measureWaysBetween_2 fu y1 h2).bind k12) := by
        intro fu
        induction fu with
        | zero => intros; exact zc_noneb
        | succ fu ih15 =>
          intro y1 h2
          unfold zl_X10_measureWaysBetween_2
          refine zc_iload_n (pc := 2) dX10_measureWaysBetween_2 rfl rfl ?_
          refine zc_aload_n (pc := 3) dX10_measureWaysBetween_3 rfl rfl ?_
          refine zc_getC (pc := 4) zF_X10_62 rfl dX10_measureWaysBetween_4 ?_
          refine zc_getI (pc := 7) zF_X10_152 rfl dX10_measureWaysBetween_7 ?_
          refine zc_icmp_ge (pc := 10) 66 dX10_measureWaysBetween_10 (by decide) (fun _ => ?_) (fun _ => ?_)
          · refine zc_drop 0 ?_
            refine zc_drop 1 ?_
            exact J11 h2
          · refine zc_iconst (pc := 13) (0 : Int32) dX10_measureWaysBetween_13 (by decide) ?_
            refine zc_istore_n (pc := 14) dX10_measureWaysBetween_14 rfl (Nat.le_of_ble_eq_true rfl) rfl (Nat.le_of_ble_eq_true rfl) ?_
            refine zc_sL (ls1 := [some (.ref 0), some (.int y1), some (.int (0 : Int32))]) rfl ?_
            refine zc_sL (ls1 := [some (.ref 0), some (.int y1), some (.int (0 : Int32))]) rfl ?_
            refine zc_loop 60 (fun v9 => [some (.ref 0), some (.int y1), none]) (fun v9 => []) (fun v9 => v9) (fun v9 => ?_) (fun k17 J16 => ?_)
            · refine zc_iinc (pc := 60) (1 : Int32) dX10_measureWaysBetween_60 (by decide) rfl (Nat.le_of_ble_eq_true rfl) rfl ?_
              refine zc_sL (ls1 := [some (.ref 0), some (.int (y1 + (1 : Int32))), none]) rfl ?_
              refine zc_goto (pc := 63) 2 dX10_measureWaysBetween_63 (by decide) ?_
              exact ih15 (y1 + (1 : Int32)) v9
            · have L19 : ∀ (fu : Nat) (y3 : Int32) (h4 : zHp), zc_G zM_X10_measureWaysBetween zc_mV 15 [some (.ref 0), some (.int y1), some (.int y3)] [] h4 ((zl_X10_measureWaysBetween_15 y1 fu y3 h4).bind k17) := by
                  intro fu
                  induction fu with
                  | zero => intros; exact zc_noneb
                  | succ fu ih20 =>
                    intro y3 h4
                    unfold zl_X10_measureWaysBetween_15
                    refine zc_iload_n (pc := 15) dX10_measureWaysBetween_15 rfl rfl ?_
                    refine zc_aload_n (pc := 16) dX10_measureWaysBetween_16 rfl rfl ?_
                    refine zc_getC (pc := 17) zF_X10_62 rfl dX10_measureWaysBetween_17 ?_
                    refine zc_getI (pc := 20) zF_X10_152 rfl dX10_measureWaysBetween_20 ?_
                    refine zc_icmp_ge (pc := 23) 60 dX10_measureWaysBetween_23 (by decide) (fun _ => ?_) (fun _ => ?_)
                    · refine zc_drop 2 ?_
                      exact J16 h4
                    · refine zc_aload_n (pc := 26) dX10_measureWaysBetween_26 rfl rfl ?_
                      refine zc_getC (pc := 27) zF_X10_9 rfl dX10_measureWaysBetween_27 ?_
                      refine zc_iload_n (pc := 30) dX10_measureWaysBetween_30 rfl rfl ?_
                      refine zc_bipush (pc := 31) (7 : Int32) dX10_measureWaysBetween_31 (by decide) ?_
                      refine zc_imul (pc := 33) dX10_measureWaysBetween_33 ?_
                      refine zc_iload_n (pc := 34) dX10_measureWaysBetween_34 rfl rfl ?_
                      refine zc_iadd (pc := 35) dX10_measureWaysBetween_35 ?_
                      refine zc_aload_n (pc := 36) dX10_measureWaysBetween_36 rfl rfl ?_
                      refine zc_getC (pc := 37) zF_X10_62 rfl dX10_measureWaysBetween_37 ?_
                      refine zc_iload_n (pc := 40) dX10_measureWaysBetween_40 rfl rfl ?_
                      refine zc_aload_n (pc := 41) dX10_measureWaysBetween_41 rfl rfl ?_
                      refine zc_getC (pc := 42) zF_X10_62 rfl dX10_measureWaysBetween_42 ?_
                      refine zc_getO (pc := 45) zF_X10_118 rfl dX10_measureWaysBetween_45 ?_
                      refine zc_iload_n (pc := 48) dX10_measureWaysBetween_48 rfl rfl ?_
                      refine zc_guard (fun g5 => ?_)
                      refine zc_aldi (pc := 49) rfl g5 dX10_measureWaysBetween_49 ?_
                      refine zc_callIp (pc := 50) [.ref 16, .int y1, .int (h4.1 (16 + 3) y3.toNatClampNeg)] rfl (zc_runV (ci := 7) (n0 := 0) (q := (RX7, TX7, 15)) zo_X7_wayTo ⟨Nat.le_of_ble_eq_true rfl, Nat.le_of_ble_eq_true rfl⟩ zw_550 zw_407 zw_408 rfl (by decide) rfl rfl dX10_measureWaysBetween_50) (Nat.le_of_ble_eq_true rfl) (fun _ hr => zt_X7_wayTo 16 rfl y1 (h4.1 (16 + 3) y3.toNatClampNeg) h4 hr) (fun r6 => ?_)
                      refine zc_guard (fun g7 => ?_)
                      refine zc_asti (pc := 53) rfl g7 dX10_measureWaysBetween_53 ?_
                      refine zc_letH (fun h8 _ => ?_)
                      refine zc_iinc (pc := 54) (1 : Int32) dX10_measureWaysBetween_54 (by decide) rfl (Nat.le_of_ble_eq_true rfl) rfl ?_
                      refine zc_sL (ls1 := [some (.ref 0), some (.int y1), some (.int (y3 + (1 : Int32)))]) rfl ?_
                      refine zc_goto (pc := 57) 15 dX10_measureWaysBetween_57 (by decide) ?_
                      exact ih20 (y3 + (1 : Int32)) h8
              exact L19 zFU (0 : Int32) h2
    exact L14 zFU (0 : Int32) h
def zf_X10_mayMatch (x0 : Int32) (x1 : Int32) (x2 : Int32) : Option Int32 :=
  (if x1 = x0 then some (0 : Int32) else (if ((x2 >>> (x1 &&& 31)) &&& (1 : Int32)) = 0 then some (1 : Int32) else some (0 : Int32)))
set_option maxRecDepth 100000 in
set_option maxHeartbeats 4000000 in
theorem zt_X10_mayMatch (x0 : Int32) (x1 : Int32) (x2 : Int32) (h : zHp) {r : Int32} (hr : (zf_X10_mayMatch x0 x1 x2) = some r) : zc_Cn zM_X10_mayMatch [.int x0, .int x1, .int x2] h ((fun r => zc_mI (r, h)) r) := by
  refine zc_meth (mk := (fun r => zc_mI (r, h))) (o := (zf_X10_mayMatch x0 x1 x2)) (by decide +kernel) (Nat.le_of_ble_eq_true rfl) ?_ hr
  unfold zf_X10_mayMatch
  refine zc_sL (ls1 := [some (.int x0), some (.int x1), some (.int x2)]) rfl ?_
  refine zc_iload_n (pc := 0) dX10_mayMatch_0 rfl rfl ?_
  refine zc_iload_n (pc := 1) dX10_mayMatch_1 rfl rfl ?_
  refine zc_icmp_eq (pc := 2) 17 dX10_mayMatch_2 (by decide) (fun _ => ?_) (fun _ => ?_)
  · refine zc_iconst (pc := 17) (0 : Int32) dX10_mayMatch_17 (by decide) ?_
    exact zc_zretK (pc := 18) dX10_mayMatch_18 rfl (by decide) ⟨_, rfl, rfl⟩
  · refine zc_iload_n (pc := 5) dX10_mayMatch_5 rfl rfl ?_
    refine zc_iload_n (pc := 6) dX10_mayMatch_6 rfl rfl ?_
    refine zc_ishr (pc := 7) dX10_mayMatch_7 ?_
    refine zc_iconst (pc := 8) (1 : Int32) dX10_mayMatch_8 (by decide) ?_
    refine zc_iand (pc := 9) dX10_mayMatch_9 ?_
    refine zc_if_ne (pc := 10) 17 dX10_mayMatch_10 (by decide) (fun _ => ?_) (fun _ => ?_)
    · refine zc_iconst (pc := 13) (1 : Int32) dX10_mayMatch_13 (by decide) ?_
      refine zc_goto (pc := 14) 18 dX10_mayMatch_14 (by decide) ?_
      exact zc_zretK (pc := 18) dX10_mayMatch_18 rfl (by decide) ⟨_, rfl, rfl⟩
    · refine zc_iconst (pc := 17) (0 : Int32) dX10_mayMatch_17 (by decide) ?_
      exact zc_zretK (pc := 18) dX10_mayMatch_18 rfl (by decide) ⟨_, rfl, rfl⟩
def zf_X10_waysThrough (x1 : Int32) (x2 : Int32) (x3 : Int32) (h : zHp) : Option Int32 :=
  (if zc_ix (x3 ||| ((1 : Int32) <<< (x2 &&& 31))) 128 then ((some (h.1 2 (x3 ||| ((1 : Int32) <<< (x2 &&& 31))).toNatClampNeg) : Option Int32).bind (fun v2 => (if zc_ix ((x1 * (7 : Int32)) + x2) 49 then ((some (if ((h.1 1 ((x1 * (7 : Int32)) + x2).toNatClampNeg) + v2) < (1000000 : Int32) then ((h.1 1 ((x1 * (7 : Int32)) + x2).toNatClampNeg) + v2) else (1000000 : Int32)) : Option Int32).bind (fun v4 => some v4)) else none))) else none)
set_option maxRecDepth 100000 in
set_option maxHeartbeats 4000000 in
theorem zt_X10_waysThrough (x1 : Int32) (x2 : Int32) (x3 : Int32) (h : zHp) {r : Int32} (hr : (zf_X10_waysThrough x1 x2 x3 h) = some r) : zc_Cn zM_X10_waysThrough [.ref 0, .int x1, .int x2, .int x3] h ((fun r => zc_mI (r, h)) r) := by
  refine zc_meth (mk := (fun r => zc_mI (r, h))) (o := (zf_X10_waysThrough x1 x2 x3 h)) (by decide +kernel) (Nat.le_of_ble_eq_true rfl) ?_ hr
  unfold zf_X10_waysThrough
  refine zc_sL (ls1 := [some (.ref 0), some (.int x1), some (.int x2), some (.int x3), none]) rfl ?_
  refine zc_aload_n (pc := 0) dX10_waysThrough_0 rfl rfl ?_
  refine zc_getC (pc := 1) zF_X10_13 rfl dX10_waysThrough_1 ?_
  refine zc_iload_n (pc := 4) dX10_waysThrough_4 rfl rfl ?_
  refine zc_iconst (pc := 5) (1 : Int32) dX10_waysThrough_5 (by decide) ?_
  refine zc_iload_n (pc := 6) dX10_waysThrough_6 rfl rfl ?_
  refine zc_ishl (pc := 7) dX10_waysThrough_7 ?_
  refine zc_ior (pc := 8) dX10_waysThrough_8 ?_
  refine zc_guard (fun g1 => ?_)
  refine zc_aldi (pc := 9) rfl g1 dX10_waysThrough_9 ?_
  refine zc_letI (fun v2 _ => ?_)
  refine zc_istore (pc := 10) dX10_waysThrough_10 (Nat.le_of_ble_eq_true rfl) rfl (Nat.le_of_ble_eq_true rfl) ?_
  refine zc_sL (ls1 := [some (.ref 0), some (.int x1), some (.int x2), some (.int x3), some (.int v2)]) rfl ?_
  refine zc_ldc (pc := 12) dX10_waysThrough_12 zw_555 ?_
  refine zc_aload_n (pc := 14) dX10_waysThrough_14 rfl rfl ?_
  refine zc_getC (pc := 15) zF_X10_9 rfl dX10_waysThrough_15 ?_
  refine zc_iload_n (pc := 18) dX10_waysThrough_18 rfl rfl ?_
  refine zc_bipush (pc := 19) (7 : Int32) dX10_waysThrough_19 (by decide) ?_
  refine zc_imul (pc := 21) dX10_waysThrough_21 ?_
  refine zc_iload_n (pc := 22) dX10_waysThrough_22 rfl rfl ?_
  refine zc_iadd (pc := 23) dX10_waysThrough_23 ?_
  refine zc_guard (fun g3 => ?_)
  refine zc_aldi (pc := 24) rfl g3 dX10_waysThrough_24 ?_
  refine zc_iload (pc := 25) dX10_waysThrough_25 rfl ?_
  refine zc_iadd (pc := 27) dX10_waysThrough_27 ?_
  refine zc_mmin (pc := 28) zw_602 zw_mmin_s zw_14 zw_mmin_c (Nat.le_of_ble_eq_true rfl) ⟨Nat.le_of_ble_eq_true rfl, Nat.le_of_ble_eq_true rfl⟩ dX10_waysThrough_28 ?_
  refine zc_letI (fun v4 _ => ?_)
  exact zc_iretK (pc := 31) dX10_waysThrough_31 rfl ⟨_, rfl, rfl⟩
def zl_X10_measureLeastRests_39 (y4 : Int32) (h5 : zHp) (r6 : Int32) : Nat → Int32 → Int32 → Option Int32
  | 0, _, _ => none
  | fu + 1, y7, y8 => (if (h5.1 16 9) ≤ y8 then some y7 else ((zf_X10_mayMatch r6 y8 y4).bind (fun r9 => (if r9 = 0 then zl_X10_measureLeastRests_39 y4 h5 r6 fu y7 (y8 + (1 : Int32)) else ((zf_X10_waysThrough r6 y8 y4 h5).bind (fun r10 => ((some (if r10 < y7 then r10 else y7) : Option Int32).bind (fun v11 => zl_X10_measureLeastRests_39 y4 h5 r6 fu v11 (y8 + (1 : Int32))))))))))
def zl_X10_measureLeastRests_23  : Nat → Int32 → zHp → Option zHp
  | 0, _, _ => none
  | fu + 1, y4, h5 => (if y4 < 0 then some h5 else ((zf_J6_bitCount_0f7a4 y4).bind (fun r6 => ((zl_X10_measureLeastRests_39 y4 h5 r6 zFU (1000000 : Int32) (0 : Int32)).bind (fun v12 => (if zc_ix y4 128 then ((some (zc_ui h5 2 y4.toNatClampNeg v12) : Option zHp).bind (fun h14 => zl_X10_measureLeastRests_23 fu (y4 + (-1 : Int32)) h14)) else none))))))
def zf_X10_measureLeastRests (h : zHp) : Option zHp :=
  ((some (((1 : Int32) <<< ((h.1 16 9) &&& 31)) - (1 : Int32)) : Option Int32).bind (fun v1 => (if zc_ix v1 128 then ((some (zc_ui h 2 v1.toNatClampNeg (0 : Int32)) : Option zHp).bind (fun h3 => ((zl_X10_measureLeastRests_23 zFU (v1 - (1 : Int32)) h3).bind (fun v15 => some v15)))) else none)))
set_option maxRecDepth 100000 in
set_option maxHeartbeats 4000000 in
theorem zt_X10_measureLeastRests (h : zHp) {r : zHp} (hr : (zf_X10_measureLeastRests h) = some r) : zc_Cn zM_X10_measureLeastRests [.ref 0] h (zc_mV r) := by
  refine zc_meth (mk := zc_mV) (o := (zf_X10_measureLeastRests h)) (by decide +kernel) (Nat.le_of_ble_eq_true rfl) ?_ hr
  unfold zf_X10_measureLeastRests
  refine zc_sL (ls1 := [some (.ref 0), none, none, none, none, none]) rfl ?_
  refine zc_iconst (pc := 0) (1 : Int32) dX10_measureLeastRests_0 (by decide) ?_
  refine zc_aload_n (pc := 1) dX10_measureLeastRests_1 rfl rfl ?_
  refine zc_getC (pc := 2) zF_X10_62 rfl dX10_measureLeastRests_2 ?_
  refine zc_getI (pc := 5) zF_X10_152 rfl dX10_measureLeastRests_5 ?_
  refine zc_ishl (pc := 8) dX10_measureLeastRests_8 ?_
  refine zc_iconst (pc := 9) (1 : Int32) dX10_measureLeastRests_9 (by decide) ?_
  refine zc_isub (pc := 10) dX10_measureLeastRests_10 ?_
  refine zc_letI (fun v1 _ => ?_)
  refine zc_istore_n (pc := 11) dX10_measureLeastRests_11 rfl (Nat.le_of_ble_eq_true rfl) rfl (Nat.le_of_ble_eq_true rfl) ?_
  refine zc_sL (ls1 := [some (.ref 0), some (.int v1), none, none, none, none]) rfl ?_
  refine zc_aload_n (pc := 12) dX10_measureLeastRests_12 rfl rfl ?_
  refine zc_getC (pc := 13) zF_X10_13 rfl dX10_measureLeastRests_13 ?_
  refine zc_iload_n (pc := 16) dX10_measureLeastRests_16 rfl rfl ?_
  refine zc_iconst (pc := 17) (0 : Int32) dX10_measureLeastRests_17 (by decide) ?_
  refine zc_guard (fun g2 => ?_)
  refine zc_asti (pc := 18) rfl g2 dX10_measureLeastRests_18 ?_
  refine zc_letH (fun h3 _ => ?_)
  refine zc_iload_n (pc := 19) dX10_measureLeastRests_19 rfl rfl ?_
  refine zc_iconst (pc := 20) (1 : Int32) dX10_measureLeastRests_20 (by decide) ?_
  refine zc_isub (pc := 21) dX10_measureLeastRests_21 ?_
  refine zc_istore_n (pc := 22) dX10_measureLeastRests_22 rfl (Nat.le_of_ble_eq_true rfl) rfl (Nat.le_of_ble_eq_true rfl) ?_
  refine zc_sL (ls1 := [some (.ref 0), some (.int v1), some (.int (v1 - (1 : Int32))), none, none, none]) rfl ?_
  refine zc_drop 1 ?_
  refine zc_sL (ls1 := [some (.ref 0), none, some (.int (v1 - (1 : Int32))), none, none, none]) rfl ?_
  refine zc_loop 96 (fun v15 => [none, none, none, none, none, none]) (fun v15 => []) (fun v15 => v15) (fun v15 => ?_) (fun k17 J16 => ?_)
  · exact zc_vretK (pc := 96) dX10_measureLeastRests_96 rfl ⟨_, rfl, rfl⟩
  · have L19 : ∀ (fu : Nat) (y4 : Int32) (h5 : zHp), zc_G zM_X10_measureLeastRests zc_mV 23 [some (.ref 0), none, some (.int y4), none, none, none] [] h5 ((zl_X10_measureLeastRests_23 fu y4 h5).bind k17) := by
        intro fu
        induction fu with
        | zero => intros; exact zc_noneb
        | succ fu ih20 =>
          intro y4 h5
          unfold zl_X10_measureLeastRests_23
          refine zc_iload_n (pc := 23) dX10_measureLeastRests_23 rfl rfl ?_
          refine zc_if_lt (pc := 24) 96 dX10_measureLeastRests_24 (by decide) (fun _ => ?_) (fun _ => ?_)
          · refine zc_drop 0 ?_
            refine zc_drop 2 ?_
            exact J16 h5
          · refine zc_iload_n (pc := 27) dX10_measureLeastRests_27 rfl rfl ?_
            refine zc_callIp (pc := 28) [.int y4] rfl (zc_runS zo_J6_bitCount_0f7a4 ⟨Nat.le_of_ble_eq_true rfl, Nat.le_of_ble_eq_true rfl⟩ zw_589 zw_590 rfl dX10_measureLeastRests_28) (Nat.le_of_ble_eq_true rfl) (fun _ hr => zt_J6_bitCount_0f7a4 y4 h5 hr) (fun r6 => ?_)
            refine zc_istore_n (pc := 31) dX10_measureLeastRests_31 rfl (Nat.le_of_ble_eq_true rfl) rfl (Nat.le_of_ble_eq_true rfl) ?_
            refine zc_sL (ls1 := [some (.ref 0), none, some (.int y4), some (.int r6), none, none]) rfl ?_
            refine zc_ldc (pc := 32) dX10_measureLeastRests_32 zw_555 ?_
            refine zc_istore (pc := 34) dX10_measureLeastRests_34 (Nat.le_of_ble_eq_true rfl) rfl (Nat.le_of_ble_eq_true rfl) ?_
            refine zc_sL (ls1 := [some (.ref 0), none, some (.int y4), some (.int r6), some (.int (1000000 : Int32)), none]) rfl ?_
            refine zc_iconst (pc := 36) (0 : Int32) dX10_measureLeastRests_36 (by decide) ?_
            refine zc_istore (pc := 37) dX10_measureLeastRests_37 (Nat.le_of_ble_eq_true rfl) rfl (Nat.le_of_ble_eq_true rfl) ?_
            refine zc_sL (ls1 := [some (.ref 0), none, some (.int y4), some (.int r6), some (.int (1000000 : Int32)), some (.int (0 : Int32))]) rfl ?_
            refine zc_sL (ls1 := [some (.ref 0), none, some (.int y4), some (.int r6), some (.int (1000000 : Int32)), some (.int (0 : Int32))]) rfl ?_
            refine zc_loop 82 (fun v12 => [some (.ref 0), none, some (.int y4), none, some (.int v12), none]) (fun v12 => []) (fun v12 => h5) (fun v12 => ?_) (fun k22 J21 => ?_)
            · refine zc_aload_n (pc := 82) dX10_measureLeastRests_82 rfl rfl ?_
              refine zc_getC (pc := 83) zF_X10_13 rfl dX10_measureLeastRests_83 ?_
              refine zc_iload_n (pc := 86) dX10_measureLeastRests_86 rfl rfl ?_
              refine zc_iload (pc := 87) dX10_measureLeastRests_87 rfl ?_
              refine zc_guard (fun g13 => ?_)
              refine zc_asti (pc := 89) rfl g13 dX10_measureLeastRests_89 ?_
              refine zc_letH (fun h14 _ => ?_)
              refine zc_iinc (pc := 90) (-1 : Int32) dX10_measureLeastRests_90 (by decide) rfl (Nat.le_of_ble_eq_true rfl) rfl ?_
              refine zc_sL (ls1 := [some (.ref 0), none, some (.int (y4 + (-1 : Int32))), none, some (.int v12), none]) rfl ?_
              refine zc_goto (pc := 93) 23 dX10_measureLeastRests_93 (by decide) ?_
              refine zc_drop 4 ?_
              exact ih20 (y4 + (-1 : Int32)) h14
            · have L24 : ∀ (fu : Nat) (y7 : Int32) (y8 : Int32), zc_G zM_X10_measureLeastRests zc_mV 39 [some (.ref 0), none, some (.int y4), some (.int r6), some (.int y7), some (.int y8)] [] h5 ((zl_X10_measureLeastRests_39 y4 h5 r6 fu y7 y8).bind k22) := by
                  intro fu
                  induction fu with
                  | zero => intros; exact zc_noneb
                  | succ fu ih25 =>
                    intro y7 y8
                    unfold zl_X10_measureLeastRests_39
                    refine zc_iload (pc := 39) dX10_measureLeastRests_39 rfl ?_
                    refine zc_aload_n (pc := 41) dX10_measureLeastRests_41 rfl rfl ?_
                    refine zc_getC (pc := 42) zF_X10_62 rfl dX10_measureLeastRests_42 ?_
                    refine zc_getI (pc := 45) zF_X10_152 rfl dX10_measureLeastRests_45 ?_
                    refine zc_icmp_ge (pc := 48) 82 dX10_measureLeastRests_48 (by decide) (fun _ => ?_) (fun _ => ?_)
                    · refine zc_drop 3 ?_
                      refine zc_drop 5 ?_
                      exact J21 y7
                    · refine zc_iload_n (pc := 51) dX10_measureLeastRests_51 rfl rfl ?_
                      refine zc_iload (pc := 52) dX10_measureLeastRests_52 rfl ?_
                      refine zc_iload_n (pc := 54) dX10_measureLeastRests_54 rfl rfl ?_
                      refine zc_callIp (pc := 55) [.int r6, .int y8, .int y4] rfl (zc_runS zo_X10_mayMatch ⟨Nat.le_of_ble_eq_true rfl, Nat.le_of_ble_eq_true rfl⟩ zw_595 zw_596 rfl dX10_measureLeastRests_55) (Nat.le_of_ble_eq_true rfl) (fun _ hr => zt_X10_mayMatch r6 y8 y4 h5 hr) (fun r9 => ?_)
                      refine zc_if_eq (pc := 58) 76 dX10_measureLeastRests_58 (by decide) (fun _ => ?_) (fun _ => ?_)
                      · refine zc_iinc (pc := 76) (1 : Int32) dX10_measureLeastRests_76 (by decide) rfl (Nat.le_of_ble_eq_true rfl) rfl ?_
                        refine zc_sL (ls1 := [some (.ref 0), none, some (.int y4), some (.int r6), some (.int y7), some (.int (y8 + (1 : Int32)))]) rfl ?_
                        refine zc_goto (pc := 79) 39 dX10_measureLeastRests_79 (by decide) ?_
                        exact ih25 y7 (y8 + (1 : Int32))
                      · refine zc_iload (pc := 61) dX10_measureLeastRests_61 rfl ?_
                        refine zc_aload_n (pc := 63) dX10_measureLeastRests_63 rfl rfl ?_
                        refine zc_iload_n (pc := 64) dX10_measureLeastRests_64 rfl rfl ?_
                        refine zc_iload (pc := 65) dX10_measureLeastRests_65 rfl ?_
                        refine zc_iload_n (pc := 67) dX10_measureLeastRests_67 rfl rfl ?_
                        refine zc_callIp (pc := 68) [.ref 0, .int r6, .int y8, .int y4] rfl (zc_runV (ci := 10) (n0 := 0) (q := (RX10, TX10, 12)) zo_X10_waysThrough ⟨Nat.le_of_ble_eq_true rfl, Nat.le_of_ble_eq_true rfl⟩ zw_598 zw_600 zs_7 rfl (by decide) rfl rfl dX10_measureLeastRests_68) (Nat.le_of_ble_eq_true rfl) (fun _ hr => zt_X10_waysThrough r6 y8 y4 h5 hr) (fun r10 => ?_)
                        refine zc_mmin (pc := 71) zw_602 zw_mmin_s zw_14 zw_mmin_c (Nat.le_of_ble_eq_true rfl) ⟨Nat.le_of_ble_eq_true rfl, Nat.le_of_ble_eq_true rfl⟩ dX10_measureLeastRests_71 ?_
                        refine zc_letI (fun v11 _ => ?_)
                        refine zc_istore (pc := 74) dX10_measureLeastRests_74 (Nat.le_of_ble_eq_true rfl) rfl (Nat.le_of_ble_eq_true rfl) ?_
                        refine zc_sL (ls1 := [some (.ref 0), none, some (.int y4), some (.int r6), some (.int v11), some (.int y8)]) rfl ?_
                        refine zc_iinc (pc := 76) (1 : Int32) dX10_measureLeastRests_76 (by decide) rfl (Nat.le_of_ble_eq_true rfl) rfl ?_
                        refine zc_sL (ls1 := [some (.ref 0), none, some (.int y4), some (.int r6), some (.int v11), some (.int (y8 + (1 : Int32)))]) rfl ?_
                        refine zc_goto (pc := 79) 39 dX10_measureLeastRests_79 (by decide) ?_
                        exact ih25 v11 (y8 + (1 : Int32))
              exact L24 zFU (1000000 : Int32) (0 : Int32)
    exact L19 zFU (v1 - (1 : Int32)) h3
def zl_X10_firstBestSource_2 (x1 : Int32) (x2 : Int32) (h : zHp) : Nat → Int32 → Option (Int32 ⊕ Unit)
  | 0, _ => none
  | fu + 1, y1 => (if (h.1 16 9) ≤ y1 then some (Sum.inr ()) else ((zf_X10_mayMatch x1 y1 x2).bind (fun r2 => (if r2 = 0 then zl_X10_firstBestSource_2 x1 x2 h fu (y1 + (1 : Int32)) else ((zf_X10_waysThrough x1 y1 x2 h).bind (fun r3 => (if zc_ix x2 128 then (if r3 = (h.1 2 x2.toNatClampNeg) then some (Sum.inl y1) else zl_X10_firstBestSource_2 x1 x2 h fu (y1 + (1 : Int32))) else none)))))))
def zf_X10_firstBestSource (x1 : Int32) (x2 : Int32) (h : zHp) : Option Int32 :=
  ((zl_X10_firstBestSource_2 x1 x2 h zFU (0 : Int32)).bind (Sum.elim (fun r => some r) (fun v5 => some (0 : Int32))))
set_option maxRecDepth 100000 in
set_option maxHeartbeats 4000000 in
theorem zt_X10_firstBestSource (x1 : Int32) (x2 : Int32) (h : zHp) {r : Int32} (hr : (zf_X10_firstBestSource x1 x2 h) = some r) : zc_Cn zM_X10_firstBestSource [.ref 0, .int x1, .int x2] h ((fun r => zc_mI (r, h)) r) := by
  refine zc_meth (mk := (fun r => zc_mI (r, h))) (o := (zf_X10_firstBestSource x1 x2 h)) (by decide +kernel) (Nat.le_of_ble_eq_true rfl) ?_ hr
  unfold zf_X10_firstBestSource
  refine zc_sL (ls1 := [some (.ref 0), some (.int x1), some (.int x2), none]) rfl ?_
  refine zc_iconst (pc := 0) (0 : Int32) dX10_firstBestSource_0 (by decide) ?_
  refine zc_istore_n (pc := 1) dX10_firstBestSource_1 rfl (Nat.le_of_ble_eq_true rfl) rfl (Nat.le_of_ble_eq_true rfl) ?_
  refine zc_sL (ls1 := [some (.ref 0), some (.int x1), some (.int x2), some (.int (0 : Int32))]) rfl ?_
  refine zc_sL (ls1 := [some (.ref 0), some (.int x1), some (.int x2), some (.int (0 : Int32))]) rfl ?_
  refine zc_loopS (fun r => zc_mI (r, h)) 46 (fun v5 => [none, none, none, none]) (fun v5 => []) (fun v5 => h) (fun v5 => ?_) (fun z => ⟨_, rfl, rfl⟩) (fun k7 J6 K8 => ?_)
  · refine zc_iconst (pc := 46) (0 : Int32) dX10_firstBestSource_46 (by decide) ?_
    exact zc_iretK (pc := 47) dX10_firstBestSource_47 rfl ⟨_, rfl, rfl⟩
  · have L9 : ∀ (fu : Nat) (y1 : Int32), zc_G zM_X10_firstBestSource (fun r => zc_mI (r, h)) 2 [some (.ref 0), some (.int x1), some (.int x2), some (.int y1)] [] h ((zl_X10_firstBestSource_2 x1 x2 h fu y1).bind k7) := by
        intro fu
        induction fu with
        | zero => intros; exact zc_noneb
        | succ fu ih10 =>
          intro y1
          unfold zl_X10_firstBestSource_2
          refine zc_iload_n (pc := 2) dX10_firstBestSource_2 rfl rfl ?_
          refine zc_aload_n (pc := 3) dX10_firstBestSource_3 rfl rfl ?_
          refine zc_getC (pc := 4) zF_X10_62 rfl dX10_firstBestSource_4 ?_
          refine zc_getI (pc := 7) zF_X10_152 rfl dX10_firstBestSource_7 ?_
          refine zc_icmp_ge (pc := 10) 46 dX10_firstBestSource_10 (by decide) (fun _ => ?_) (fun _ => ?_)
          · refine zc_drop 0 ?_
            refine zc_drop 1 ?_
            refine zc_drop 2 ?_
            refine zc_drop 3 ?_
            exact J6 ()
          · refine zc_iload_n (pc := 13) dX10_firstBestSource_13 rfl rfl ?_
            refine zc_iload_n (pc := 14) dX10_firstBestSource_14 rfl rfl ?_
            refine zc_iload_n (pc := 15) dX10_firstBestSource_15 rfl rfl ?_
            refine zc_callIp (pc := 16) [.int x1, .int y1, .int x2] rfl (zc_runS zo_X10_mayMatch ⟨Nat.le_of_ble_eq_true rfl, Nat.le_of_ble_eq_true rfl⟩ zw_595 zw_596 rfl dX10_firstBestSource_16) (Nat.le_of_ble_eq_true rfl) (fun _ hr => zt_X10_mayMatch x1 y1 x2 h hr) (fun r2 => ?_)
            refine zc_if_eq (pc := 19) 40 dX10_firstBestSource_19 (by decide) (fun _ => ?_) (fun _ => ?_)
            · refine zc_iinc (pc := 40) (1 : Int32) dX10_firstBestSource_40 (by decide) rfl (Nat.le_of_ble_eq_true rfl) rfl ?_
              refine zc_sL (ls1 := [some (.ref 0), some (.int x1), some (.int x2), some (.int (y1 + (1 : Int32)))]) rfl ?_
              refine zc_goto (pc := 43) 2 dX10_firstBestSource_43 (by decide) ?_
              exact ih10 (y1 + (1 : Int32))
            · refine zc_aload_n (pc := 22) dX10_firstBestSource_22 rfl rfl ?_
              refine zc_iload_n (pc := 23) dX10_firstBestSource_23 rfl rfl ?_
              refine zc_iload_n (pc := 24) dX10_firstBestSource_24 rfl rfl ?_
              refine zc_iload_n (pc := 25) dX10_firstBestSource_25 rfl rfl ?_
              refine zc_callIp (pc := 26) [.ref 0, .int x1, .int y1, .int x2] rfl (zc_runV (ci := 10) (n0 := 0) (q := (RX10, TX10, 12)) zo_X10_waysThrough ⟨Nat.le_of_ble_eq_true rfl, Nat.le_of_ble_eq_true rfl⟩ zw_598 zw_600 zs_7 rfl (by decide) rfl rfl dX10_firstBestSource_26) (Nat.le_of_ble_eq_true rfl) (fun _ hr => zt_X10_waysThrough x1 y1 x2 h hr) (fun r3 => ?_)
              refine zc_aload_n (pc := 29) dX10_firstBestSource_29 rfl rfl ?_
              refine zc_getC (pc := 30) zF_X10_13 rfl dX10_firstBestSource_30 ?_
              refine zc_iload_n (pc := 33) dX10_firstBestSource_33 rfl rfl ?_
              refine zc_guard (fun g4 => ?_)
              refine zc_aldi (pc := 34) rfl g4 dX10_firstBestSource_34 ?_
              refine zc_icmp_ne (pc := 35) 40 dX10_firstBestSource_35 (by decide) (fun _ => ?_) (fun _ => ?_)
              · refine zc_iload_n (pc := 38) dX10_firstBestSource_38 rfl rfl ?_
                exact zc_iretK (pc := 39) dX10_firstBestSource_39 rfl (K8 _)
              · refine zc_iinc (pc := 40) (1 : Int32) dX10_firstBestSource_40 (by decide) rfl (Nat.le_of_ble_eq_true rfl) rfl ?_
                refine zc_sL (ls1 := [some (.ref 0), some (.int x1), some (.int x2), some (.int (y1 + (1 : Int32)))]) rfl ?_
                refine zc_goto (pc := 43) 2 dX10_firstBestSource_43 (by decide) ?_
                exact ih10 (y1 + (1 : Int32))
    exact L9 zFU (0 : Int32)

/-! the constructor of the class itself (by wip/whole/mkchair.py) -/
abbrev zq_n10 : zX := .inl (10, [.null, .null, .null, .null, .int 0, .null, .null, .null, .null, .null, .null, .null])
abbrev zq_p (a : Nat) : List zX := .inl (7, [.ref 7, .ref (a + 1), .ref (a + 2), .ref (a + 3), .ref (a + 4), .ref (a + 5), .ref (a + 6), .ref (a + 7), .ref (a + 8), .int 0, .int 0, .int 1, .int 6, .int 0, .int 0]) :: [zq_i 7, zq_i 7, zq_i 7, zq_i 7, zq_i 7, zq_i 7, zq_i 7, zq_i 7]
abbrev zq_s (a : Nat) : List zX := .inl (8, [.int 0, .int 0, .int 0, .int 0, .int 0, .ref (a + 1)]) :: [zq_i 100]
abbrev zR_10 : Room := zi_room zI_10 (59, 1286)
theorem zk_31 : (Jvm.Cond.classLink "ChairOnTheRoad" (29 : Nat) "ChairOnTheRoad$Village") ∈ zg_tbl := zg_at 84 (by decide +kernel) (by decide +kernel)
theorem zk_41 : (Jvm.Cond.classLink "ChairOnTheRoad" (32 : Nat) "ChairOnTheRoad$Baker") ∈ zg_tbl := zg_at 94 (by decide +kernel) (by decide +kernel)
theorem zk_48 : (Jvm.Cond.classLink "ChairOnTheRoad" (35 : Nat) "ChairOnTheRoad$Doctor") ∈ zg_tbl := zg_at 101 (by decide +kernel) (by decide +kernel)
theorem zk_55 : (Jvm.Cond.classLink "ChairOnTheRoad" (38 : Nat) "ChairOnTheRoad$Hearse") ∈ zg_tbl := zg_at 108 (by decide +kernel) (by decide +kernel)
theorem zk_62 : (Jvm.Cond.classLink "ChairOnTheRoad" (41 : Nat) "ChairOnTheRoad$Bishop") ∈ zg_tbl := zg_at 115 (by decide +kernel) (by decide +kernel)
theorem zk_69 : (Jvm.Cond.classLink "ChairOnTheRoad" (44 : Nat) "ChairOnTheRoad$Pedlar") ∈ zg_tbl := zg_at 122 (by decide +kernel) (by decide +kernel)
theorem zk_76 : (Jvm.Cond.classLink "ChairOnTheRoad" (47 : Nat) "ChairOnTheRoad$Army") ∈ zg_tbl := zg_at 129 (by decide +kernel) (by decide +kernel)
theorem zk_83 : (Jvm.Cond.classLink "ChairOnTheRoad" (50 : Nat) "ChairOnTheRoad$Hermit") ∈ zg_tbl := zg_at 136 (by decide +kernel) (by decide +kernel)
theorem zk_90 : (Jvm.Cond.classLink "ChairOnTheRoad" (57 : Nat) "ChairOnTheRoad$Province") ∈ zg_tbl := zg_at 143 (by decide +kernel) (by decide +kernel)
theorem zk_154 : (Jvm.Cond.classLink "ChairOnTheRoad" (72 : Nat) "ChairOnTheRoad$Shelf") ∈ zg_tbl := zg_at 207 (by decide +kernel) (by decide +kernel)
theorem zk_34 : (Jvm.Cond.methodLinkNest "ChairOnTheRoad" (31 : Nat) ({ cls := "ChairOnTheRoad$Village", name := "<init>", desc := "()V" } : Jvm.MethodName) "ChairOnTheRoad") ∈ zn_tbl := zn_at 87 (by decide +kernel) (by decide +kernel)
theorem zk_43 : (Jvm.Cond.methodLinkNest "ChairOnTheRoad" (34 : Nat) ({ cls := "ChairOnTheRoad$Baker", name := "<init>", desc := "()V" } : Jvm.MethodName) "ChairOnTheRoad") ∈ zn_tbl := zn_at 96 (by decide +kernel) (by decide +kernel)
theorem zk_50 : (Jvm.Cond.methodLinkNest "ChairOnTheRoad" (37 : Nat) ({ cls := "ChairOnTheRoad$Doctor", name := "<init>", desc := "()V" } : Jvm.MethodName) "ChairOnTheRoad") ∈ zn_tbl := zn_at 103 (by decide +kernel) (by decide +kernel)
theorem zk_57 : (Jvm.Cond.methodLinkNest "ChairOnTheRoad" (40 : Nat) ({ cls := "ChairOnTheRoad$Hearse", name := "<init>", desc := "()V" } : Jvm.MethodName) "ChairOnTheRoad") ∈ zn_tbl := zn_at 110 (by decide +kernel) (by decide +kernel)
theorem zk_64 : (Jvm.Cond.methodLinkNest "ChairOnTheRoad" (43 : Nat) ({ cls := "ChairOnTheRoad$Bishop", name := "<init>", desc := "()V" } : Jvm.MethodName) "ChairOnTheRoad") ∈ zn_tbl := zn_at 117 (by decide +kernel) (by decide +kernel)
theorem zk_71 : (Jvm.Cond.methodLinkNest "ChairOnTheRoad" (46 : Nat) ({ cls := "ChairOnTheRoad$Pedlar", name := "<init>", desc := "()V" } : Jvm.MethodName) "ChairOnTheRoad") ∈ zn_tbl := zn_at 124 (by decide +kernel) (by decide +kernel)
theorem zk_78 : (Jvm.Cond.methodLinkNest "ChairOnTheRoad" (49 : Nat) ({ cls := "ChairOnTheRoad$Army", name := "<init>", desc := "()V" } : Jvm.MethodName) "ChairOnTheRoad") ∈ zn_tbl := zn_at 131 (by decide +kernel) (by decide +kernel)
theorem zk_85 : (Jvm.Cond.methodLinkNest "ChairOnTheRoad" (52 : Nat) ({ cls := "ChairOnTheRoad$Hermit", name := "<init>", desc := "()V" } : Jvm.MethodName) "ChairOnTheRoad") ∈ zn_tbl := zn_at 138 (by decide +kernel) (by decide +kernel)
theorem zk_92 : (Jvm.Cond.methodLink "ChairOnTheRoad" (59 : Nat) ({ cls := "ChairOnTheRoad$Province", name := "<init>", desc := "([LChairOnTheRoad$Village;)V" } : Jvm.MethodName)) ∈ zg_tbl := zg_at 145 (by decide +kernel) (by decide +kernel)
theorem zk_157 : (Jvm.Cond.methodLinkNest "ChairOnTheRoad" (78 : Nat) ({ cls := "ChairOnTheRoad$Shelf", name := "<init>", desc := "()V" } : Jvm.MethodName) "ChairOnTheRoad") ∈ zn_tbl := zn_at 210 (by decide +kernel) (by decide +kernel)
section ZCH
variable {p : Program} {l : Launch} {e : Env} {s : State} {m : MethodId} {args : Array Value} {below : List Frame} {meth : Method} {cd : Code} {H : Heap} {locs : List Loc} {kc ks : Nat} {Q : State → Prop} {ls0 : Array Slot} {ls : List (Option Value)} {D : va_G} {c : zCS} {B : Nat}
def zq_f : Nat → Nat → Option Nat
  | 0 => fun _ => none
  | k + 1 => va_up (zq_f k) k (some (8 + k))
abbrev zq_t16 : List zX := [zq_i 49, zq_i 128, zq_i 4, zq_i 4, zq_l 12, zq_l 12, .inr (15, 8, zq_f 8), .inl (9, []), .inl (1, []), .inl (3, []), .inl (4, []), .inl (2, []), .inl (6, []), .inl (0, []), .inl (5, [])]
theorem zt_ch12 (X : zj_X RX10 cX10_init 2 p s m args cd) (P : zj_P D c B [zq_n10] s H locs) (hL : zc_L 2 B ls ls0) (hl0 : ls[0]? = some (some (.ref 0))) (hnm : meth.name = "<init>")
    (kk : ∀ (H1 : Heap) (locs1 : List Loc), zj_P D c B (.inl (10, [.ref 7, .null, .null, .null, .int 0, .null, .ref 1, .ref 2, .ref 3, .ref 4, .ref 5, .ref 6]) :: zq_t16) s H1 locs1 → W p l e zR_10 s m args below meth cd H1 locs1 15 217 Q (F0 m 142 ls0 [])) : W p l e zR_10 s m args below meth cd H locs 0 0 Q (F0 m 4 ls0 []) := by
  refine lv_aload_n X.1 X.2.1 dX10_init_4 rfl (hL.2.2 0 _ hl0) ?_
  refine lv_bipush (v := 49) X.1 X.2.1 dX10_init_5 (by decide) ?_
  refine zj_newI (N := 49) (n := 1) (.inl (10, [.null, .null, .null, .null, .int 0, .null, .null, .null, .null, .null, .null, .null]) :: [zq_i 49]) X P zk_39 (by decide) (by decide) (by decide) rfl rfl (by decide) (by decide) dX10_init_7 (fun H P => ?_)
  refine zj_put (v := .ref 1) (a := 0) (.inl (10, [.null, .null, .null, .null, .int 0, .null, .ref 1, .null, .null, .null, .null, .null]) :: [zq_i 49]) X P zF_X10_9 rfl rfl hnm zw_192 rfl (show 6 < 12 by decide) rfl ⟨rfl, rfl⟩ dX10_init_9 (fun H locs P => ?_)
  refine lv_aload_n X.1 X.2.1 dX10_init_12 rfl (hL.2.2 0 _ hl0) ?_
  refine lv_sipush (v := 128) X.1 X.2.1 dX10_init_13 (by decide) ?_
  refine zj_newI (N := 128) (n := 2) (.inl (10, [.null, .null, .null, .null, .int 0, .null, .ref 1, .null, .null, .null, .null, .null]) :: [zq_i 49, zq_i 128]) X P zk_39 (by decide) (by decide) (by decide) rfl rfl (by decide) (by decide) dX10_init_16 (fun H P => ?_)
  refine zj_put (v := .ref 2) (a := 0) (.inl (10, [.null, .null, .null, .null, .int 0, .null, .ref 1, .ref 2, .null, .null, .null, .null]) :: [zq_i 49, zq_i 128]) X P zF_X10_13 rfl rfl hnm zw_193 rfl (show 7 < 12 by decide) rfl ⟨rfl, rfl⟩ dX10_init_18 (fun H locs P => ?_)
  refine lv_aload_n X.1 X.2.1 dX10_init_21 rfl (hL.2.2 0 _ hl0) ?_
  refine lv_iconst (v := 4) X.1 X.2.1 dX10_init_22 (by decide) ?_
  refine zj_newI (N := 4) (n := 3) (.inl (10, [.null, .null, .null, .null, .int 0, .null, .ref 1, .ref 2, .null, .null, .null, .null]) :: [zq_i 49, zq_i 128, zq_i 4]) X P zk_39 (by decide) (by decide) (by decide) rfl rfl (by decide) (by decide) dX10_init_23 (fun H P => ?_)
  refine zj_put (v := .ref 3) (a := 0) (.inl (10, [.null, .null, .null, .null, .int 0, .null, .ref 1, .ref 2, .ref 3, .null, .null, .null]) :: [zq_i 49, zq_i 128, zq_i 4]) X P zF_X10_16 rfl rfl hnm zw_194 rfl (show 8 < 12 by decide) rfl ⟨rfl, rfl⟩ dX10_init_25 (fun H locs P => ?_)
  refine lv_aload_n X.1 X.2.1 dX10_init_28 rfl (hL.2.2 0 _ hl0) ?_
  refine lv_iconst (v := 4) X.1 X.2.1 dX10_init_29 (by decide) ?_
  refine zj_newI (N := 4) (n := 4) (.inl (10, [.null, .null, .null, .null, .int 0, .null, .ref 1, .ref 2, .ref 3, .null, .null, .null]) :: [zq_i 49, zq_i 128, zq_i 4, zq_i 4]) X P zk_39 (by decide) (by decide) (by decide) rfl rfl (by decide) (by decide) dX10_init_30 (fun H P => ?_)
  refine zj_put (v := .ref 4) (a := 0) (.inl (10, [.null, .null, .null, .null, .int 0, .null, .ref 1, .ref 2, .ref 3, .ref 4, .null, .null]) :: [zq_i 49, zq_i 128, zq_i 4, zq_i 4]) X P zF_X10_19 rfl rfl hnm zw_195 rfl (show 9 < 12 by decide) rfl ⟨rfl, rfl⟩ dX10_init_32 (fun H locs P => ?_)
  refine lv_aload_n X.1 X.2.1 dX10_init_35 rfl (hL.2.2 0 _ hl0) ?_
  refine lv_bipush (v := 12) X.1 X.2.1 dX10_init_36 (by decide) ?_
  refine zj_newL (N := 12) (n := 5) (.inl (10, [.null, .null, .null, .null, .int 0, .null, .ref 1, .ref 2, .ref 3, .ref 4, .null, .null]) :: [zq_i 49, zq_i 128, zq_i 4, zq_i 4, zq_l 12]) X P zk_40 (by decide) (by decide) (by decide) rfl rfl (by decide) (by decide) dX10_init_38 (fun H P => ?_)
  refine zj_put (v := .ref 5) (a := 0) (.inl (10, [.null, .null, .null, .null, .int 0, .null, .ref 1, .ref 2, .ref 3, .ref 4, .ref 5, .null]) :: [zq_i 49, zq_i 128, zq_i 4, zq_i 4, zq_l 12]) X P zF_X10_22 rfl rfl hnm zw_196 rfl (show 10 < 12 by decide) rfl ⟨rfl, rfl⟩ dX10_init_40 (fun H locs P => ?_)
  refine lv_aload_n X.1 X.2.1 dX10_init_43 rfl (hL.2.2 0 _ hl0) ?_
  refine lv_bipush (v := 12) X.1 X.2.1 dX10_init_44 (by decide) ?_
  refine zj_newL (N := 12) (n := 6) (.inl (10, [.null, .null, .null, .null, .int 0, .null, .ref 1, .ref 2, .ref 3, .ref 4, .ref 5, .null]) :: [zq_i 49, zq_i 128, zq_i 4, zq_i 4, zq_l 12, zq_l 12]) X P zk_40 (by decide) (by decide) (by decide) rfl rfl (by decide) (by decide) dX10_init_46 (fun H P => ?_)
  refine zj_put (v := .ref 6) (a := 0) (.inl (10, [.null, .null, .null, .null, .int 0, .null, .ref 1, .ref 2, .ref 3, .ref 4, .ref 5, .ref 6]) :: [zq_i 49, zq_i 128, zq_i 4, zq_i 4, zq_l 12, zq_l 12]) X P zF_X10_26 rfl rfl hnm zw_197 rfl (show 11 < 12 by decide) rfl ⟨rfl, rfl⟩ dX10_init_48 (fun H locs P => ?_)
  refine lv_aload_n X.1 X.2.1 dX10_init_51 rfl (hL.2.2 0 _ hl0) ?_
  refine lv_bipush (v := 8) X.1 X.2.1 dX10_init_52 (by decide) ?_
  refine zj_anew (E := RX9) (kd := 15) (t0 := 3) (cA := c.2.2.2) (N := 8) (n := 7) (.inl (10, [.null, .null, .null, .null, .int 0, .null, .ref 1, .ref 2, .ref 3, .ref 4, .ref 5, .ref 6]) :: [zq_i 49, zq_i 128, zq_i 4, zq_i 4, zq_l 12, zq_l 12, .inr (15, 8, fun _ => none)]) X P zk_31 X.2.2.2.2.2.2.1 rfl rfl (by decide) (by decide) (by decide) rfl rfl (by decide) (by decide) dX10_init_54 (fun H P => ?_)
  refine lv_dup X.1 X.2.1 dX10_init_57 rfl ?_
  refine lv_iconst (v := 0) X.1 X.2.1 dX10_init_58 (by decide) ?_
  refine zj_new (C := RX9) (T := TX9) (N := 0) (ci := 9) (n := 8) tyX9 [] (.inl (10, [.null, .null, .null, .null, .int 0, .null, .ref 1, .ref 2, .ref 3, .ref 4, .ref 5, .ref 6]) :: [zq_i 49, zq_i 128, zq_i 4, zq_i 4, zq_l 12, zq_l 12, .inr (15, 8, fun _ => none), .inl (9, [])]) X P rfl (by decide) tyX9_ok zk_31 zk_33 zw_2 rfl rfl rfl (by decide) (by decide) dX10_init_59 (fun H P => ?_)
  refine lv_dup X.1 X.2.1 dX10_init_62 rfl ?_
  refine zj_call [] X P (zt_init9 (a := 8)) zp_9 rfl (Or.inr ⟨_, zk_34⟩) zk_35 rfl rfl rfl (show 1 + (1 + (1 + (1 + (1 + 0)))) ≤ 8 by decide) ⟨by decide, by decide⟩ ⟨by decide, by decide⟩ hL.1 dX10_init_63 (fun H locs P => ?_)
  refine zj_aast (E := RX9) (kd := 15) (t0 := 3) (cA := c.2.2.2) (N := 8) (ci := 9) (a := 7) (b := 8) (i := 0) (.inl (10, [.null, .null, .null, .null, .int 0, .null, .ref 1, .ref 2, .ref 3, .ref 4, .ref 5, .ref 6]) :: [zq_i 49, zq_i 128, zq_i 4, zq_i 4, zq_l 12, zq_l 12, .inr (15, 8, zq_f 1), .inl (9, [])]) X P rfl rfl (fun g => rfl) rfl (by decide) (zj_same (T := TX9) (N := 0) P rfl) (show ¬ ((0 : Int32) < 0 ∨ 8 ≤ (0 : Int32).toNatClampNeg) by decide) rfl dX10_init_66 (fun H locs P => ?_)
  refine lv_dup X.1 X.2.1 dX10_init_67 rfl ?_
  refine lv_iconst (v := 1) X.1 X.2.1 dX10_init_68 (by decide) ?_
  refine zj_new (C := RX1) (T := TX1) (N := 0) (ci := 1) (n := 9) tyX1 [] (.inl (10, [.null, .null, .null, .null, .int 0, .null, .ref 1, .ref 2, .ref 3, .ref 4, .ref 5, .ref 6]) :: [zq_i 49, zq_i 128, zq_i 4, zq_i 4, zq_l 12, zq_l 12, .inr (15, 8, zq_f 1), .inl (9, []), .inl (1, [])]) X P rfl (by decide) tyX1_ok zk_41 zk_42 zw_3 rfl rfl rfl (by decide) (by decide) dX10_init_69 (fun H P => ?_)
  refine lv_dup X.1 X.2.1 dX10_init_72 rfl ?_
  refine zj_call [] X P (zt_init1 (a := 9)) zp_1 rfl (Or.inr ⟨_, zk_43⟩) zk_44 rfl rfl rfl (show 1 + (1 + (1 + (1 + (1 + 0)))) ≤ 8 by decide) ⟨by decide, by decide⟩ ⟨by decide, by decide⟩ hL.1 dX10_init_73 (fun H locs P => ?_)
  refine zj_aast (E := RX9) (kd := 15) (t0 := 3) (cA := c.2.2.2) (N := 8) (ci := 1) (a := 7) (b := 9) (i := 1) (.inl (10, [.null, .null, .null, .null, .int 0, .null, .ref 1, .ref 2, .ref 3, .ref 4, .ref 5, .ref 6]) :: [zq_i 49, zq_i 128, zq_i 4, zq_i 4, zq_l 12, zq_l 12, .inr (15, 8, zq_f 2), .inl (9, []), .inl (1, [])]) X P rfl rfl (fun g => rfl) rfl (by decide) (zj_cast (C := RX1) (E := RX9) (T := TX1) (N := 0) X P rfl (by decide)) (show ¬ ((1 : Int32) < 0 ∨ 8 ≤ (1 : Int32).toNatClampNeg) by decide) rfl dX10_init_76 (fun H locs P => ?_)
  refine lv_dup X.1 X.2.1 dX10_init_77 rfl ?_
  refine lv_iconst (v := 2) X.1 X.2.1 dX10_init_78 (by decide) ?_
  refine zj_new (C := RX3) (T := TX3) (N := 0) (ci := 3) (n := 10) tyX3 [] (.inl (10, [.null, .null, .null, .null, .int 0, .null, .ref 1, .ref 2, .ref 3, .ref 4, .ref 5, .ref 6]) :: [zq_i 49, zq_i 128, zq_i 4, zq_i 4, zq_l 12, zq_l 12, .inr (15, 8, zq_f 2), .inl (9, []), .inl (1, []), .inl (3, [])]) X P rfl (by decide) tyX3_ok zk_48 zk_49 zw_4 rfl rfl rfl (by decide) (by decide) dX10_init_79 (fun H P => ?_)
  refine lv_dup X.1 X.2.1 dX10_init_82 rfl ?_
  refine zj_call [] X P (zt_init3 (a := 10)) zp_3 rfl (Or.inr ⟨_, zk_50⟩) zk_51 rfl rfl rfl (show 1 + (1 + (1 + (1 + (1 + 0)))) ≤ 8 by decide) ⟨by decide, by decide⟩ ⟨by decide, by decide⟩ hL.1 dX10_init_83 (fun H locs P => ?_)
  refine zj_aast (E := RX9) (kd := 15) (t0 := 3) (cA := c.2.2.2) (N := 8) (ci := 3) (a := 7) (b := 10) (i := 2) (.inl (10, [.null, .null, .null, .null, .int 0, .null, .ref 1, .ref 2, .ref 3, .ref 4, .ref 5, .ref 6]) :: [zq_i 49, zq_i 128, zq_i 4, zq_i 4, zq_l 12, zq_l 12, .inr (15, 8, zq_f 3), .inl (9, []), .inl (1, []), .inl (3, [])]) X P rfl rfl (fun g => rfl) rfl (by decide) (zj_cast (C := RX3) (E := RX9) (T := TX3) (N := 0) X P rfl (by decide)) (show ¬ ((2 : Int32) < 0 ∨ 8 ≤ (2 : Int32).toNatClampNeg) by decide) rfl dX10_init_86 (fun H locs P => ?_)
  refine lv_dup X.1 X.2.1 dX10_init_87 rfl ?_
  refine lv_iconst (v := 3) X.1 X.2.1 dX10_init_88 (by decide) ?_
  refine zj_new (C := RX4) (T := TX4) (N := 0) (ci := 4) (n := 11) tyX4 [] (.inl (10, [.null, .null, .null, .null, .int 0, .null, .ref 1, .ref 2, .ref 3, .ref 4, .ref 5, .ref 6]) :: [zq_i 49, zq_i 128, zq_i 4, zq_i 4, zq_l 12, zq_l 12, .inr (15, 8, zq_f 3), .inl (9, []), .inl (1, []), .inl (3, []), .inl (4, [])]) X P rfl (by decide) tyX4_ok zk_55 zk_56 zw_5 rfl rfl rfl (by decide) (by decide) dX10_init_89 (fun H P => ?_)
  refine lv_dup X.1 X.2.1 dX10_init_92 rfl ?_
  refine zj_call [] X P (zt_init4 (a := 11)) zp_4 rfl (Or.inr ⟨_, zk_57⟩) zk_58 rfl rfl rfl (show 1 + (1 + (1 + (1 + (1 + 0)))) ≤ 8 by decide) ⟨by decide, by decide⟩ ⟨by decide, by decide⟩ hL.1 dX10_init_93 (fun H locs P => ?_)
  refine zj_aast (E := RX9) (kd := 15) (t0 := 3) (cA := c.2.2.2) (N := 8) (ci := 4) (a := 7) (b := 11) (i := 3) (.inl (10, [.null, .null, .null, .null, .int 0, .null, .ref 1, .ref 2, .ref 3, .ref 4, .ref 5, .ref 6]) :: [zq_i 49, zq_i 128, zq_i 4, zq_i 4, zq_l 12, zq_l 12, .inr (15, 8, zq_f 4), .inl (9, []), .inl (1, []), .inl (3, []), .inl (4, [])]) X P rfl rfl (fun g => rfl) rfl (by decide) (zj_cast (C := RX4) (E := RX9) (T := TX4) (N := 0) X P rfl (by decide)) (show ¬ ((3 : Int32) < 0 ∨ 8 ≤ (3 : Int32).toNatClampNeg) by decide) rfl dX10_init_96 (fun H locs P => ?_)
  refine lv_dup X.1 X.2.1 dX10_init_97 rfl ?_
  refine lv_iconst (v := 4) X.1 X.2.1 dX10_init_98 (by decide) ?_
  refine zj_new (C := RX2) (T := TX2) (N := 0) (ci := 2) (n := 12) tyX2 [] (.inl (10, [.null, .null, .null, .null, .int 0, .null, .ref 1, .ref 2, .ref 3, .ref 4, .ref 5, .ref 6]) :: [zq_i 49, zq_i 128, zq_i 4, zq_i 4, zq_l 12, zq_l 12, .inr (15, 8, zq_f 4), .inl (9, []), .inl (1, []), .inl (3, []), .inl (4, []), .inl (2, [])]) X P rfl (by decide) tyX2_ok zk_62 zk_63 zw_6 rfl rfl rfl (by decide) (by decide) dX10_init_99 (fun H P => ?_)
  refine lv_dup X.1 X.2.1 dX10_init_102 rfl ?_
  refine zj_call [] X P (zt_init2 (a := 12)) zp_2 rfl (Or.inr ⟨_, zk_64⟩) zk_65 rfl rfl rfl (show 1 + (1 + (1 + (1 + (1 + 0)))) ≤ 8 by decide) ⟨by decide, by decide⟩ ⟨by decide, by decide⟩ hL.1 dX10_init_103 (fun H locs P => ?_)
  refine zj_aast (E := RX9) (kd := 15) (t0 := 3) (cA := c.2.2.2) (N := 8) (ci := 2) (a := 7) (b := 12) (i := 4) (.inl (10, [.null, .null, .null, .null, .int 0, .null, .ref 1, .ref 2, .ref 3, .ref 4, .ref 5, .ref 6]) :: [zq_i 49, zq_i 128, zq_i 4, zq_i 4, zq_l 12, zq_l 12, .inr (15, 8, zq_f 5), .inl (9, []), .inl (1, []), .inl (3, []), .inl (4, []), .inl (2, [])]) X P rfl rfl (fun g => rfl) rfl (by decide) (zj_cast (C := RX2) (E := RX9) (T := TX2) (N := 0) X P rfl (by decide)) (show ¬ ((4 : Int32) < 0 ∨ 8 ≤ (4 : Int32).toNatClampNeg) by decide) rfl dX10_init_106 (fun H locs P => ?_)
  refine lv_dup X.1 X.2.1 dX10_init_107 rfl ?_
  refine lv_iconst (v := 5) X.1 X.2.1 dX10_init_108 (by decide) ?_
  refine zj_new (C := RX6) (T := TX6) (N := 0) (ci := 6) (n := 13) tyX6 [] (.inl (10, [.null, .null, .null, .null, .int 0, .null, .ref 1, .ref 2, .ref 3, .ref 4, .ref 5, .ref 6]) :: [zq_i 49, zq_i 128, zq_i 4, zq_i 4, zq_l 12, zq_l 12, .inr (15, 8, zq_f 5), .inl (9, []), .inl (1, []), .inl (3, []), .inl (4, []), .inl (2, []), .inl (6, [])]) X P rfl (by decide) tyX6_ok zk_69 zk_70 zw_7 rfl rfl rfl (by decide) (by decide) dX10_init_109 (fun H P => ?_)
  refine lv_dup X.1 X.2.1 dX10_init_112 rfl ?_
  refine zj_call [] X P (zt_init6 (a := 13)) zp_6 rfl (Or.inr ⟨_, zk_71⟩) zk_72 rfl rfl rfl (show 1 + (1 + (1 + (1 + (1 + 0)))) ≤ 8 by decide) ⟨by decide, by decide⟩ ⟨by decide, by decide⟩ hL.1 dX10_init_113 (fun H locs P => ?_)
  refine zj_aast (E := RX9) (kd := 15) (t0 := 3) (cA := c.2.2.2) (N := 8) (ci := 6) (a := 7) (b := 13) (i := 5) (.inl (10, [.null, .null, .null, .null, .int 0, .null, .ref 1, .ref 2, .ref 3, .ref 4, .ref 5, .ref 6]) :: [zq_i 49, zq_i 128, zq_i 4, zq_i 4, zq_l 12, zq_l 12, .inr (15, 8, zq_f 6), .inl (9, []), .inl (1, []), .inl (3, []), .inl (4, []), .inl (2, []), .inl (6, [])]) X P rfl rfl (fun g => rfl) rfl (by decide) (zj_cast (C := RX6) (E := RX9) (T := TX6) (N := 0) X P rfl (by decide)) (show ¬ ((5 : Int32) < 0 ∨ 8 ≤ (5 : Int32).toNatClampNeg) by decide) rfl dX10_init_116 (fun H locs P => ?_)
  refine lv_dup X.1 X.2.1 dX10_init_117 rfl ?_
  refine lv_bipush (v := 6) X.1 X.2.1 dX10_init_118 (by decide) ?_
  refine zj_new (C := RX0) (T := TX0) (N := 0) (ci := 0) (n := 14) tyX0 [] (.inl (10, [.null, .null, .null, .null, .int 0, .null, .ref 1, .ref 2, .ref 3, .ref 4, .ref 5, .ref 6]) :: [zq_i 49, zq_i 128, zq_i 4, zq_i 4, zq_l 12, zq_l 12, .inr (15, 8, zq_f 6), .inl (9, []), .inl (1, []), .inl (3, []), .inl (4, []), .inl (2, []), .inl (6, []), .inl (0, [])]) X P rfl (by decide) tyX0_ok zk_76 zk_77 zw_8 rfl rfl rfl (by decide) (by decide) dX10_init_120 (fun H P => ?_)
  refine lv_dup X.1 X.2.1 dX10_init_123 rfl ?_
  refine zj_call [] X P (zt_init0 (a := 14)) zp_0 rfl (Or.inr ⟨_, zk_78⟩) zk_79 rfl rfl rfl (show 1 + (1 + (1 + (1 + (1 + 0)))) ≤ 8 by decide) ⟨by decide, by decide⟩ ⟨by decide, by decide⟩ hL.1 dX10_init_124 (fun H locs P => ?_)
  refine zj_aast (E := RX9) (kd := 15) (t0 := 3) (cA := c.2.2.2) (N := 8) (ci := 0) (a := 7) (b := 14) (i := 6) (.inl (10, [.null, .null, .null, .null, .int 0, .null, .ref 1, .ref 2, .ref 3, .ref 4, .ref 5, .ref 6]) :: [zq_i 49, zq_i 128, zq_i 4, zq_i 4, zq_l 12, zq_l 12, .inr (15, 8, zq_f 7), .inl (9, []), .inl (1, []), .inl (3, []), .inl (4, []), .inl (2, []), .inl (6, []), .inl (0, [])]) X P rfl rfl (fun g => rfl) rfl (by decide) (zj_cast (C := RX0) (E := RX9) (T := TX0) (N := 0) X P rfl (by decide)) (show ¬ ((6 : Int32) < 0 ∨ 8 ≤ (6 : Int32).toNatClampNeg) by decide) rfl dX10_init_127 (fun H locs P => ?_)
  refine lv_dup X.1 X.2.1 dX10_init_128 rfl ?_
  refine lv_bipush (v := 7) X.1 X.2.1 dX10_init_129 (by decide) ?_
  refine zj_new (C := RX5) (T := TX5) (N := 0) (ci := 5) (n := 15) tyX5 [] (.inl (10, [.null, .null, .null, .null, .int 0, .null, .ref 1, .ref 2, .ref 3, .ref 4, .ref 5, .ref 6]) :: [zq_i 49, zq_i 128, zq_i 4, zq_i 4, zq_l 12, zq_l 12, .inr (15, 8, zq_f 7), .inl (9, []), .inl (1, []), .inl (3, []), .inl (4, []), .inl (2, []), .inl (6, []), .inl (0, []), .inl (5, [])]) X P rfl (by decide) tyX5_ok zk_83 zk_84 zw_9 rfl rfl rfl (by decide) (by decide) dX10_init_131 (fun H P => ?_)
  refine lv_dup X.1 X.2.1 dX10_init_134 rfl ?_
  refine zj_call [] X P (zt_init5 (a := 15)) zp_5 rfl (Or.inr ⟨_, zk_85⟩) zk_86 rfl rfl rfl (show 1 + (1 + (1 + (1 + (1 + 0)))) ≤ 8 by decide) ⟨by decide, by decide⟩ ⟨by decide, by decide⟩ hL.1 dX10_init_135 (fun H locs P => ?_)
  refine zj_aast (E := RX9) (kd := 15) (t0 := 3) (cA := c.2.2.2) (N := 8) (ci := 5) (a := 7) (b := 15) (i := 7) (.inl (10, [.null, .null, .null, .null, .int 0, .null, .ref 1, .ref 2, .ref 3, .ref 4, .ref 5, .ref 6]) :: [zq_i 49, zq_i 128, zq_i 4, zq_i 4, zq_l 12, zq_l 12, .inr (15, 8, zq_f 8), .inl (9, []), .inl (1, []), .inl (3, []), .inl (4, []), .inl (2, []), .inl (6, []), .inl (0, []), .inl (5, [])]) X P rfl rfl (fun g => rfl) rfl (by decide) (zj_cast (C := RX5) (E := RX9) (T := TX5) (N := 0) X P rfl (by decide)) (show ¬ ((7 : Int32) < 0 ∨ 8 ≤ (7 : Int32).toNatClampNeg) by decide) rfl dX10_init_138 (fun H locs P => ?_)
  refine zj_put (v := .ref 7) (a := 0) (.inl (10, [.ref 7, .null, .null, .null, .int 0, .null, .ref 1, .ref 2, .ref 3, .ref 4, .ref 5, .ref 6]) :: [zq_i 49, zq_i 128, zq_i 4, zq_i 4, zq_l 12, zq_l 12, .inr (15, 8, zq_f 8), .inl (9, []), .inl (1, []), .inl (3, []), .inl (4, []), .inl (2, []), .inl (6, []), .inl (0, []), .inl (5, [])]) X P zF_X10_53 rfl rfl hnm zw_186 rfl (show 0 < 12 by decide) rfl ⟨rfl, rfl⟩ dX10_init_139 (fun H locs P => ?_)
  exact kk H locs P
theorem zt_ch3_0 {tl : List zX} (hn : tl.length = 15) (X : zj_X RX10 cX10_init 2 p s m args cd) (P : zj_P D c B (.inl (10, [.ref 7, .null, .null, .null, .int 0, .null, .ref 1, .ref 2, .ref 3, .ref 4, .ref 5, .ref 6]) :: tl) s H locs) (hL : zc_L 2 B ls ls0) (hl0 : ls[0]? = some (some (.ref 0))) (hnm : meth.name = "<init>") (h1 : kc + 9 ≤ 59) (h2 : ks + 71 ≤ 1286)
    (kk : ∀ (H1 : Heap) (locs1 : List Loc), zj_P D c B (.inl (10, [.ref 7, .ref 16, .null, .null, .int 0, .null, .ref 1, .ref 2, .ref 3, .ref 4, .ref 5, .ref 6]) :: (tl ++ zq_p 16)) s H1 locs1 → W p l e zR_10 s m args below meth cd H1 locs1 (kc + 9) (ks + 71) Q (F0 m 157 ls0 [])) : W p l e zR_10 s m args below meth cd H locs kc ks Q (F0 m 142 ls0 []) := by
  have hn2 : (.inl (10, [.ref 7, .null, .null, .null, .int 0, .null, .ref 1, .ref 2, .ref 3, .ref 4, .ref 5, .ref 6]) :: tl : List zX).length = 16 := by rw [List.length_cons, hn]
  refine lv_aload_n X.1 X.2.1 dX10_init_142 rfl (hL.2.2 0 _ hl0) ?_
  refine zj_new (C := RX7) (T := TX7) (N := 15) (ci := 7) (n := 16) tyX7 [.null, .null, .null, .null, .null, .null, .null, .null, .null, .int 0, .int 0, .int 0, .int 0, .int 0, .int 0] ((.inl (10, [.ref 7, .null, .null, .null, .int 0, .null, .ref 1, .ref 2, .ref 3, .ref 4, .ref 5, .ref 6]) :: tl) ++ [zq_n7]) X P rfl zin_7 tyX7_ok zk_90 zk_91 zw_10 rfl hn2 rfl (by show kc + 1 ≤ 59; omega) (by show ks + 15 ≤ 1286; omega) dX10_init_143 (fun H P => ?_)
  refine lv_dup X.1 X.2.1 dX10_init_146 rfl ?_
  refine lv_aload_n X.1 X.2.1 dX10_init_147 rfl (hL.2.2 0 _ hl0) ?_
  refine zj_get (a := 0) (.ref 7) X P zF_X10_53 rfl zw_186 rfl rfl dX10_init_148 ?_
  refine zj_call [.ref 7] X P (zt_init7 (a := 16) hn2) zp_7 rfl (Or.inl zk_92) zk_93 rfl rfl rfl (show 1 + (1 + 0) ≤ 8 by decide) ⟨by decide, by decide⟩ ⟨by show kc + 1 + 8 ≤ 59; omega, by show ks + 15 + 56 ≤ 1286; omega⟩ hL.1 dX10_init_151 (fun H locs P => ?_)
  exact zj_put (v := .ref 16) (a := 0) (.inl (10, [.ref 7, .ref 16, .null, .null, .int 0, .null, .ref 1, .ref 2, .ref 3, .ref 4, .ref 5, .ref 6]) :: (tl ++ zq_p 16)) X P zF_X10_62 rfl rfl hnm zw_187 rfl (show 1 < 12 by decide) rfl ⟨rfl, rfl⟩ dX10_init_154 kk
theorem zt_ch3_1 {tl : List zX} (hn : tl.length = 24) (X : zj_X RX10 cX10_init 2 p s m args cd) (P : zj_P D c B (.inl (10, [.ref 7, .ref 16, .null, .null, .int 0, .null, .ref 1, .ref 2, .ref 3, .ref 4, .ref 5, .ref 6]) :: tl) s H locs) (hL : zc_L 2 B ls ls0) (hl0 : ls[0]? = some (some (.ref 0))) (hnm : meth.name = "<init>") (h1 : kc + 9 ≤ 59) (h2 : ks + 71 ≤ 1286)
    (kk : ∀ (H1 : Heap) (locs1 : List Loc), zj_P D c B (.inl (10, [.ref 7, .ref 16, .ref 25, .null, .int 0, .null, .ref 1, .ref 2, .ref 3, .ref 4, .ref 5, .ref 6]) :: (tl ++ zq_p 25)) s H1 locs1 → W p l e zR_10 s m args below meth cd H1 locs1 (kc + 9) (ks + 71) Q (F0 m 172 ls0 [])) : W p l e zR_10 s m args below meth cd H locs kc ks Q (F0 m 157 ls0 []) := by
  have hn2 : (.inl (10, [.ref 7, .ref 16, .null, .null, .int 0, .null, .ref 1, .ref 2, .ref 3, .ref 4, .ref 5, .ref 6]) :: tl : List zX).length = 25 := by rw [List.length_cons, hn]
  refine lv_aload_n X.1 X.2.1 dX10_init_157 rfl (hL.2.2 0 _ hl0) ?_
  refine zj_new (C := RX7) (T := TX7) (N := 15) (ci := 7) (n := 25) tyX7 [.null, .null, .null, .null, .null, .null, .null, .null, .null, .int 0, .int 0, .int 0, .int 0, .int 0, .int 0] ((.inl (10, [.ref 7, .ref 16, .null, .null, .int 0, .null, .ref 1, .ref 2, .ref 3, .ref 4, .ref 5, .ref 6]) :: tl) ++ [zq_n7]) X P rfl zin_7 tyX7_ok zk_90 zk_91 zw_10 rfl hn2 rfl (by show kc + 1 ≤ 59; omega) (by show ks + 15 ≤ 1286; omega) dX10_init_158 (fun H P => ?_)
  refine lv_dup X.1 X.2.1 dX10_init_161 rfl ?_
  refine lv_aload_n X.1 X.2.1 dX10_init_162 rfl (hL.2.2 0 _ hl0) ?_
  refine zj_get (a := 0) (.ref 7) X P zF_X10_53 rfl zw_186 rfl rfl dX10_init_163 ?_
  refine zj_call [.ref 7] X P (zt_init7 (a := 25) hn2) zp_7 rfl (Or.inl zk_92) zk_93 rfl rfl rfl (show 1 + (1 + 0) ≤ 8 by decide) ⟨by decide, by decide⟩ ⟨by show kc + 1 + 8 ≤ 59; omega, by show ks + 15 + 56 ≤ 1286; omega⟩ hL.1 dX10_init_166 (fun H locs P => ?_)
  exact zj_put (v := .ref 25) (a := 0) (.inl (10, [.ref 7, .ref 16, .ref 25, .null, .int 0, .null, .ref 1, .ref 2, .ref 3, .ref 4, .ref 5, .ref 6]) :: (tl ++ zq_p 25)) X P zF_X10_66 rfl rfl hnm zw_188 rfl (show 2 < 12 by decide) rfl ⟨rfl, rfl⟩ dX10_init_169 kk
theorem zt_ch3_2 {tl : List zX} (hn : tl.length = 33) (X : zj_X RX10 cX10_init 2 p s m args cd) (P : zj_P D c B (.inl (10, [.ref 7, .ref 16, .ref 25, .null, .int 0, .null, .ref 1, .ref 2, .ref 3, .ref 4, .ref 5, .ref 6]) :: tl) s H locs) (hL : zc_L 2 B ls ls0) (hl0 : ls[0]? = some (some (.ref 0))) (hnm : meth.name = "<init>") (h1 : kc + 9 ≤ 59) (h2 : ks + 71 ≤ 1286)
    (kk : ∀ (H1 : Heap) (locs1 : List Loc), zj_P D c B (.inl (10, [.ref 7, .ref 16, .ref 25, .ref 34, .int 0, .null, .ref 1, .ref 2, .ref 3, .ref 4, .ref 5, .ref 6]) :: (tl ++ zq_p 34)) s H1 locs1 → W p l e zR_10 s m args below meth cd H1 locs1 (kc + 9) (ks + 71) Q (F0 m 187 ls0 [])) : W p l e zR_10 s m args below meth cd H locs kc ks Q (F0 m 172 ls0 []) := by
  have hn2 : (.inl (10, [.ref 7, .ref 16, .ref 25, .null, .int 0, .null, .ref 1, .ref 2, .ref 3, .ref 4, .ref 5, .ref 6]) :: tl : List zX).length = 34 := by rw [List.length_cons, hn]
  refine lv_aload_n X.1 X.2.1 dX10_init_172 rfl (hL.2.2 0 _ hl0) ?_
  refine zj_new (C := RX7) (T := TX7) (N := 15) (ci := 7) (n := 34) tyX7 [.null, .null, .null, .null, .null, .null, .null, .null, .null, .int 0, .int 0, .int 0, .int 0, .int 0, .int 0] ((.inl (10, [.ref 7, .ref 16, .ref 25, .null, .int 0, .null, .ref 1, .ref 2, .ref 3, .ref 4, .ref 5, .ref 6]) :: tl) ++ [zq_n7]) X P rfl zin_7 tyX7_ok zk_90 zk_91 zw_10 rfl hn2 rfl (by show kc + 1 ≤ 59; omega) (by show ks + 15 ≤ 1286; omega) dX10_init_173 (fun H P => ?_)
  refine lv_dup X.1 X.2.1 dX10_init_176 rfl ?_
  refine lv_aload_n X.1 X.2.1 dX10_init_177 rfl (hL.2.2 0 _ hl0) ?_
  refine zj_get (a := 0) (.ref 7) X P zF_X10_53 rfl zw_186 rfl rfl dX10_init_178 ?_
  refine zj_call [.ref 7] X P (zt_init7 (a := 34) hn2) zp_7 rfl (Or.inl zk_92) zk_93 rfl rfl rfl (show 1 + (1 + 0) ≤ 8 by decide) ⟨by decide, by decide⟩ ⟨by show kc + 1 + 8 ≤ 59; omega, by show ks + 15 + 56 ≤ 1286; omega⟩ hL.1 dX10_init_181 (fun H locs P => ?_)
  exact zj_put (v := .ref 34) (a := 0) (.inl (10, [.ref 7, .ref 16, .ref 25, .ref 34, .int 0, .null, .ref 1, .ref 2, .ref 3, .ref 4, .ref 5, .ref 6]) :: (tl ++ zq_p 34)) X P zF_X10_69 rfl rfl hnm zw_189 rfl (show 3 < 12 by decide) rfl ⟨rfl, rfl⟩ dX10_init_184 kk
abbrev zq_d (f : Nat → Option Nat) : zX := .inr (14, 8, f)
theorem zt_ch4 {tl : List zX} (hn : tl.length = 42) (X : zj_X RX10 cX10_init 2 p s m args cd) (P : zj_P D c B (.inl (10, [.ref 7, .ref 16, .ref 25, .ref 34, .int 0, .null, .ref 1, .ref 2, .ref 3, .ref 4, .ref 5, .ref 6]) :: tl) s H locs) (hL : zc_L 2 B [some (.ref 0), none] ls0) (hnm : meth.name = "<init>") (h1 : kc + 1 ≤ 59) (h2 : ks + 8 ≤ 1286)
    (kk : ∀ (H1 : Heap) (locs1 : List Loc) (ls1 : Array Slot), zj_P D c B ((.inl (10, [.ref 7, .ref 16, .ref 25, .ref 34, .int 0, .ref 43, .ref 1, .ref 2, .ref 3, .ref 4, .ref 5, .ref 6]) :: tl) ++ zq_d (fun _ => none) :: []) s H1 locs1 → zc_L 2 B [some (.ref 0), some (.int (nI 0))] ls1 → W p l e zR_10 s m args below meth cd H1 locs1 (kc + 1) (ks + 8) Q (F0 m 198 ls1 [])) : W p l e zR_10 s m args below meth cd H locs kc ks Q (F0 m 187 ls0 []) := by
  have hn2 : (.inl (10, [.ref 7, .ref 16, .ref 25, .ref 34, .int 0, .null, .ref 1, .ref 2, .ref 3, .ref 4, .ref 5, .ref 6]) :: tl : List zX).length = 43 := by rw [List.length_cons, hn]
  refine lv_aload_n X.1 X.2.1 dX10_init_187 rfl (hL.2.2 0 _ rfl) ?_
  refine lv_bipush (v := 8) X.1 X.2.1 dX10_init_188 (by decide) ?_
  refine zj_anew (E := RX8) (kd := 14) (t0 := 2) (cA := c.2.2.1) (N := 8) (n := 43) ((.inl (10, [.ref 7, .ref 16, .ref 25, .ref 34, .int 0, .null, .ref 1, .ref 2, .ref 3, .ref 4, .ref 5, .ref 6]) :: tl) ++ [zq_d (fun _ => none)]) X P zk_154 X.2.2.2.2.2.2.2.1 rfl rfl (by decide) (by decide) (by decide) hn2 rfl (by show kc + 1 ≤ 59; omega) (by show ks + 8 ≤ 1286; omega) dX10_init_190 (fun H P => ?_)
  refine zj_put (v := .ref 43) (a := 0) ((.inl (10, [.ref 7, .ref 16, .ref 25, .ref 34, .int 0, .ref 43, .ref 1, .ref 2, .ref 3, .ref 4, .ref 5, .ref 6]) :: tl) ++ zq_d (fun _ => none) :: []) X P zF_X10_74 rfl rfl hnm zw_191 rfl (show 5 < 12 by decide) rfl ⟨rfl, rfl⟩ dX10_init_193 (fun H locs P => ?_)
  refine lv_iconst (v := nI 0) X.1 X.2.1 dX10_init_196 (by decide) ?_
  refine lv_istore_n X.1 X.2.1 dX10_init_197 rfl (zc_Lhas hL) (by decide) rfl (fun ls1 h1 => ?_)
  exact kk H locs ls1 P (zc_Lst1 (v := .int (nI 0)) hL (by decide) (by decide) h1)
theorem zq_id : ∀ d, d < 8 → ¬ (8 : Int32) ≤ nI d ∧ ¬ (nI d < 0 ∨ 8 ≤ (nI d).toNatClampNeg) ∧ (nI d).toNatClampNeg = d := by decide
theorem zt_ch5 {d : Nat} (hd : d < 8) {fs : List Value} {tl ys : List zX} {f : Nat → Option Nat} (h5 : fs[5]? = some (.ref 43)) (hn : tl.length = 42) (hy : ys.length = 2 * d) (X : zj_X RX10 cX10_init 2 p s m args cd) (P : zj_P D c B ((.inl (10, fs) :: tl) ++ zq_d f :: ys) s H locs) (hL : zc_L 2 B [some (.ref 0), some (.int (nI d))] ls0) (h1 : kc + 2 ≤ 59) (h2 : ks + 106 ≤ 1286)
    (kk : ∀ (H1 : Heap) (locs1 : List Loc) (ls1 : Array Slot), zj_P D c B ((.inl (10, fs) :: tl) ++ zq_d (va_up f d (some (44 + 2 * d))) :: (ys ++ zq_s (44 + 2 * d))) s H1 locs1 → zc_L 2 B [some (.ref 0), some (.int (nI (d + 1)))] ls1 → W p l e zR_10 s m args below meth cd H1 locs1 (kc + 2) (ks + 106) Q (F0 m 198 ls1 [])) : W p l e zR_10 s m args below meth cd H locs kc ks Q (F0 m 198 ls0 []) := by
  obtain ⟨e1, e2, e3⟩ := zq_id d hd
  have hn1 : (.inl (10, fs) :: tl : List zX).length = 43 := by rw [List.length_cons, hn]
  have hn2 : ((.inl (10, fs) :: tl : List zX) ++ zq_d f :: ys).length = 44 + 2 * d := by rw [List.length_append, hn1, List.length_cons, hy]; omega
  refine lv_iload_n X.1 X.2.1 dX10_init_198 rfl (hL.2.2 1 _ rfl) ?_
  refine lv_bipush (v := 8) X.1 X.2.1 dX10_init_199 (by decide) ?_
  refine lv_icmp_ge (tgt := 223) X.1 X.2.1 dX10_init_201 (by decide) (fun h => absurd h e1) (fun _ => ?_)
  refine lv_aload_n X.1 X.2.1 dX10_init_204 rfl (hL.2.2 0 _ rfl) ?_
  refine zj_get (a := 0) (.ref 43) X P zF_X10_74 rfl zw_191 rfl h5 dX10_init_205 ?_
  refine lv_iload_n X.1 X.2.1 dX10_init_208 rfl (hL.2.2 1 _ rfl) ?_
  refine zj_new (C := RX8) (T := TX8) (N := 6) (ci := 8) (n := 44 + 2 * d) tyX8 [.int 0, .int 0, .int 0, .int 0, .int 0, .null] (((.inl (10, fs) :: tl) ++ zq_d f :: ys) ++ [zq_n8]) X P rfl zin_8 tyX8_ok zk_154 zk_156 zw_11 rfl hn2 rfl (by show kc + 1 ≤ 59; omega) (by show ks + 6 ≤ 1286; omega) dX10_init_209 (fun H P => ?_)
  refine lv_dup X.1 X.2.1 dX10_init_212 rfl ?_
  refine zj_call [] X P (zt_init8 (a := 44 + 2 * d) hn2) zp_8 rfl (Or.inr ⟨_, zk_157⟩) zk_158 rfl rfl rfl (show 1 + (1 + (1 + 0)) ≤ 8 by decide) ⟨by decide, by decide⟩ ⟨by show kc + 1 + 1 ≤ 59; omega, by show ks + 6 + 100 ≤ 1286; omega⟩ hL.1 dX10_init_213 (fun H locs P => ?_)
  refine zj_aast (E := RX8) (kd := 14) (t0 := 2) (cA := c.2.2.1) (N := 8) (f := f) (ci := 8) (a := 43) (b := 44 + 2 * d) (i := nI d) ((.inl (10, fs) :: tl) ++ zq_d (va_up f d (some (44 + 2 * d))) :: (ys ++ zq_s (44 + 2 * d))) X P ?_ rfl (fun g => rfl) (vs := [.int 0, .int 0, .int 0, .int 0, .int 0, .ref (44 + 2 * d + 1)]) ?_ (by decide) (zj_same (T := TX8) (N := 6) P rfl) e2 ?_ dX10_init_216 (fun H locs P => ?_)
  · rw [zq_w8, List.append_assoc]; exact zx_mid hn1
  · exact zx_mid hn2
  · rw [e3, zq_w8, List.append_assoc]; exact zx_setm hn1
  obtain ⟨j, hj⟩ := List.mem_iff_getElem?.mp (zc_Lmem (n := 1) (v := .int (nI d)) hL rfl)
  refine lv_iinc (v := nI (d + 1)) X.1 X.2.1 dX10_init_217 (zc_Lhas hL) (k := j) hj (zi_one d) (by decide) rfl (fun ls1 h1 => ?_)
  refine lv_goto (tgt := 198) X.1 X.2.1 dX10_init_220 (by decide) ?_
  exact kk H locs ls1 P (zc_Lst1 (v := .int (nI (d + 1))) hL rfl (show 1 < 2 by decide) h1)
end ZCH
-- the whole constructor
abbrev zq_tl : List zX := ((zq_t16 ++ zq_p 16) ++ zq_p 25) ++ zq_p 34
abbrev zq_w10 : List zX := (.inl (10, [.ref 7, .ref 16, .ref 25, .ref 34, .int 0, .ref 43, .ref 1, .ref 2, .ref 3, .ref 4, .ref 5, .ref 6]) :: zq_tl) ++ zq_d (va_up (va_up (va_up (va_up (va_up (va_up (va_up (va_up (fun _ => none) 0 (some (44 + 2 * 0))) 1 (some (44 + 2 * 1))) 2 (some (44 + 2 * 2))) 3 (some (44 + 2 * 3))) 4 (some (44 + 2 * 4))) 5 (some (44 + 2 * 5))) 6 (some (44 + 2 * 6))) 7 (some (44 + 2 * 7))) :: (((((((([] ++ zq_s (44 + 2 * 0)) ++ zq_s (44 + 2 * 1)) ++ zq_s (44 + 2 * 2)) ++ zq_s (44 + 2 * 3)) ++ zq_s (44 + 2 * 4)) ++ zq_s (44 + 2 * 5)) ++ zq_s (44 + 2 * 6)) ++ zq_s (44 + 2 * 7))
theorem zt_init10 : zi_Cn zI_10 (59, 1286) [.ref 0] [zq_n10] zq_w10 := by
  refine zi_body (by decide +kernel) rfl rfl (by decide) ?_
  intro l D c B p e s m args below meth cd H locs ls0 X P hL hnm hr hlk
  refine lv_aload_n X.1 X.2.1 dX10_init_0 rfl (hL.2.2 0 _ rfl) ?_
  refine zj_obj X zk_28 hL.1 (by decide) (by decide) dX10_init_1 zk_oi zk_oc ?_
  refine zt_ch12 X P hL rfl hnm (fun H locs P => ?_)
  refine zt_ch3_0 (tl := zq_t16) rfl X P hL rfl hnm (by decide) (by decide) (fun H locs P => ?_)
  refine zt_ch3_1 (tl := zq_t16 ++ zq_p 16) rfl X P hL rfl hnm (by decide) (by decide) (fun H locs P => ?_)
  refine zt_ch3_2 (tl := zq_t16 ++ zq_p 16 ++ zq_p 25) rfl X P hL rfl hnm (by decide) (by decide) (fun H locs P => ?_)
  refine zt_ch4 (tl := zq_tl) rfl X P hL hnm (by decide) (by decide) (fun H locs ls1 P hL => ?_)
  refine zt_ch5 (d := 0) (by decide) rfl rfl rfl X P hL (by decide) (by decide) (fun H locs ls1 P hL => ?_)
  refine zt_ch5 (d := 1) (by decide) rfl rfl rfl X P hL (by decide) (by decide) (fun H locs ls1 P hL => ?_)
  refine zt_ch5 (d := 2) (by decide) rfl rfl rfl X P hL (by decide) (by decide) (fun H locs ls1 P hL => ?_)
  refine zt_ch5 (d := 3) (by decide) rfl rfl rfl X P hL (by decide) (by decide) (fun H locs ls1 P hL => ?_)
  refine zt_ch5 (d := 4) (by decide) rfl rfl rfl X P hL (by decide) (by decide) (fun H locs ls1 P hL => ?_)
  refine zt_ch5 (d := 5) (by decide) rfl rfl rfl X P hL (by decide) (by decide) (fun H locs ls1 P hL => ?_)
  refine zt_ch5 (d := 6) (by decide) rfl rfl rfl X P hL (by decide) (by decide) (fun H locs ls1 P hL => ?_)
  refine zt_ch5 (d := 7) (by decide) rfl rfl rfl X P hL (by decide) (by decide) (fun H locs ls1 P hL => ?_)
  refine lv_iload_n X.1 X.2.1 dX10_init_198 rfl (hL.2.2 1 _ rfl) ?_
  refine lv_bipush (v := 8) X.1 X.2.1 dX10_init_199 (by decide) ?_
  refine lv_icmp_ge (tgt := 223) X.1 X.2.1 dX10_init_201 (by decide) (fun _ => ?_) (fun h => absurd (by decide) h)
  exact zj_ret hr hlk X P rfl rfl dX10_init_223

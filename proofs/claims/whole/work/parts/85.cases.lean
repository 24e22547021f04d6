/-! the law's cases (by wip/whole/mklaw.py) -/
theorem zk_223 : (Jvm.Cond.methodLink "ChairOnTheRoadLaw" (21 : Nat) ({ cls := "ChairOnTheRoad", name := "province", desc := "(I)I" } : Jvm.MethodName)) ∈ zg_tbl := zg_at 276 (by decide +kernel) (by decide +kernel)
theorem zk_224 : (Jvm.Cond.instanceMethod ({ cls := "ChairOnTheRoad", name := "province", desc := "(I)I" } : Jvm.MethodName)) ∈ zg_tbl := zg_at 277 (by decide +kernel) (by decide +kernel)
theorem zk_225 : (Jvm.Cond.selects "ChairOnTheRoad" ({ cls := "ChairOnTheRoad", name := "province", desc := "(I)I" } : Jvm.MethodName) ({ cls := "ChairOnTheRoad", name := "province", desc := "(I)I" } : Jvm.MethodName)) ∈ zg_tbl := zg_at 278 (by decide +kernel) (by decide +kernel)
theorem zk_226 : (Jvm.Cond.code ({ cls := "ChairOnTheRoad", name := "province", desc := "(I)I" } : Jvm.MethodName) prog_1_method_2_code (7 : Nat) (Option.some Jvm.ClassFile.FieldType.int)) ∈ zg_tbl := zg_at 279 (by decide +kernel) (by decide +kernel)
theorem zp_X10_province : zc_okM zM_X10_province 1 := ⟨zk_226, zw_1, by decide +kernel, by decide +kernel, by decide +kernel⟩
theorem zk_1062 : (Jvm.Cond.methodLink "ChairOnTheRoadLaw" (25 : Nat) ({ cls := "ChairOnTheRoadModel", name := "province", desc := "(I)I" } : Jvm.MethodName)) ∈ zg_tbl := zg_at 1115 (by decide +kernel) (by decide +kernel)
theorem zk_1063 : (Jvm.Cond.instanceMethod ({ cls := "ChairOnTheRoadModel", name := "province", desc := "(I)I" } : Jvm.MethodName)) ∈ zg_tbl := zg_at 1116 (by decide +kernel) (by decide +kernel)
theorem zk_1064 : (Jvm.Cond.selects "ChairOnTheRoadModel" ({ cls := "ChairOnTheRoadModel", name := "province", desc := "(I)I" } : Jvm.MethodName) ({ cls := "ChairOnTheRoadModel", name := "province", desc := "(I)I" } : Jvm.MethodName)) ∈ zg_tbl := zg_at 1117 (by decide +kernel) (by decide +kernel)
theorem zk_1065 : (Jvm.Cond.code ({ cls := "ChairOnTheRoadModel", name := "province", desc := "(I)I" } : Jvm.MethodName) prog_13_method_28_code (4 : Nat) (Option.some Jvm.ClassFile.FieldType.int)) ∈ zg_tbl := zg_at 1118 (by decide +kernel) (by decide +kernel)
theorem zp_X11_province : zc_okM zM_X11_province 1 := ⟨zk_1065, zw_12, by decide +kernel, by decide +kernel, by decide +kernel⟩
theorem zk_466 : (Jvm.Cond.methodLink "ChairOnTheRoadLaw" (26 : Nat) ({ cls := "ChairOnTheRoad", name := "village", desc := "(II)I" } : Jvm.MethodName)) ∈ zg_tbl := zg_at 519 (by decide +kernel) (by decide +kernel)
theorem zk_467 : (Jvm.Cond.instanceMethod ({ cls := "ChairOnTheRoad", name := "village", desc := "(II)I" } : Jvm.MethodName)) ∈ zg_tbl := zg_at 520 (by decide +kernel) (by decide +kernel)
theorem zk_468 : (Jvm.Cond.selects "ChairOnTheRoad" ({ cls := "ChairOnTheRoad", name := "village", desc := "(II)I" } : Jvm.MethodName) ({ cls := "ChairOnTheRoad", name := "village", desc := "(II)I" } : Jvm.MethodName)) ∈ zg_tbl := zg_at 521 (by decide +kernel) (by decide +kernel)
theorem zk_469 : (Jvm.Cond.code ({ cls := "ChairOnTheRoad", name := "village", desc := "(II)I" } : Jvm.MethodName) prog_1_method_3_code (3 : Nat) (Option.some Jvm.ClassFile.FieldType.int)) ∈ zg_tbl := zg_at 522 (by decide +kernel) (by decide +kernel)
theorem zp_X10_village : zc_okM zM_X10_village 2 := ⟨zk_469, zw_1, by decide +kernel, by decide +kernel, by decide +kernel⟩
theorem zk_1182 : (Jvm.Cond.methodLink "ChairOnTheRoadLaw" (30 : Nat) ({ cls := "ChairOnTheRoadModel", name := "village", desc := "(II)I" } : Jvm.MethodName)) ∈ zg_tbl := zg_at 1235 (by decide +kernel) (by decide +kernel)
theorem zk_1183 : (Jvm.Cond.instanceMethod ({ cls := "ChairOnTheRoadModel", name := "village", desc := "(II)I" } : Jvm.MethodName)) ∈ zg_tbl := zg_at 1236 (by decide +kernel) (by decide +kernel)
theorem zk_1184 : (Jvm.Cond.selects "ChairOnTheRoadModel" ({ cls := "ChairOnTheRoadModel", name := "village", desc := "(II)I" } : Jvm.MethodName) ({ cls := "ChairOnTheRoadModel", name := "village", desc := "(II)I" } : Jvm.MethodName)) ∈ zg_tbl := zg_at 1237 (by decide +kernel) (by decide +kernel)
theorem zk_1185 : (Jvm.Cond.code ({ cls := "ChairOnTheRoadModel", name := "village", desc := "(II)I" } : Jvm.MethodName) prog_13_method_35_code (3 : Nat) (Option.some Jvm.ClassFile.FieldType.int)) ∈ zg_tbl := zg_at 1238 (by decide +kernel) (by decide +kernel)
theorem zp_X11_village : zc_okM zM_X11_village 2 := ⟨zk_1185, zw_12, by decide +kernel, by decide +kernel, by decide +kernel⟩
theorem zk_477 : (Jvm.Cond.methodLink "ChairOnTheRoadLaw" (31 : Nat) ({ cls := "ChairOnTheRoad", name := "comes", desc := "(II)I" } : Jvm.MethodName)) ∈ zg_tbl := zg_at 530 (by decide +kernel) (by decide +kernel)
theorem zk_478 : (Jvm.Cond.instanceMethod ({ cls := "ChairOnTheRoad", name := "comes", desc := "(II)I" } : Jvm.MethodName)) ∈ zg_tbl := zg_at 531 (by decide +kernel) (by decide +kernel)
theorem zk_479 : (Jvm.Cond.selects "ChairOnTheRoad" ({ cls := "ChairOnTheRoad", name := "comes", desc := "(II)I" } : Jvm.MethodName) ({ cls := "ChairOnTheRoad", name := "comes", desc := "(II)I" } : Jvm.MethodName)) ∈ zg_tbl := zg_at 532 (by decide +kernel) (by decide +kernel)
theorem zk_480 : (Jvm.Cond.code ({ cls := "ChairOnTheRoad", name := "comes", desc := "(II)I" } : Jvm.MethodName) prog_1_method_4_code (4 : Nat) (Option.some Jvm.ClassFile.FieldType.int)) ∈ zg_tbl := zg_at 533 (by decide +kernel) (by decide +kernel)
theorem zp_X10_comes : zc_okM zM_X10_comes 2 := ⟨zk_480, zw_1, by decide +kernel, by decide +kernel, by decide +kernel⟩
theorem zk_1186 : (Jvm.Cond.methodLink "ChairOnTheRoadLaw" (34 : Nat) ({ cls := "ChairOnTheRoadModel", name := "comes", desc := "(II)I" } : Jvm.MethodName)) ∈ zg_tbl := zg_at 1239 (by decide +kernel) (by decide +kernel)
theorem zk_1187 : (Jvm.Cond.instanceMethod ({ cls := "ChairOnTheRoadModel", name := "comes", desc := "(II)I" } : Jvm.MethodName)) ∈ zg_tbl := zg_at 1240 (by decide +kernel) (by decide +kernel)
theorem zk_1188 : (Jvm.Cond.selects "ChairOnTheRoadModel" ({ cls := "ChairOnTheRoadModel", name := "comes", desc := "(II)I" } : Jvm.MethodName) ({ cls := "ChairOnTheRoadModel", name := "comes", desc := "(II)I" } : Jvm.MethodName)) ∈ zg_tbl := zg_at 1241 (by decide +kernel) (by decide +kernel)
theorem zk_1189 : (Jvm.Cond.code ({ cls := "ChairOnTheRoadModel", name := "comes", desc := "(II)I" } : Jvm.MethodName) prog_13_method_36_code (3 : Nat) (Option.some Jvm.ClassFile.FieldType.int)) ∈ zg_tbl := zg_at 1242 (by decide +kernel) (by decide +kernel)
theorem zp_X11_comes : zc_okM zM_X11_comes 2 := ⟨zk_1189, zw_12, by decide +kernel, by decide +kernel, by decide +kernel⟩
theorem zk_486 : (Jvm.Cond.methodLink "ChairOnTheRoadLaw" (35 : Nat) ({ cls := "ChairOnTheRoad", name := "moves", desc := "(II)I" } : Jvm.MethodName)) ∈ zg_tbl := zg_at 539 (by decide +kernel) (by decide +kernel)
theorem zk_487 : (Jvm.Cond.instanceMethod ({ cls := "ChairOnTheRoad", name := "moves", desc := "(II)I" } : Jvm.MethodName)) ∈ zg_tbl := zg_at 540 (by decide +kernel) (by decide +kernel)
theorem zk_488 : (Jvm.Cond.selects "ChairOnTheRoad" ({ cls := "ChairOnTheRoad", name := "moves", desc := "(II)I" } : Jvm.MethodName) ({ cls := "ChairOnTheRoad", name := "moves", desc := "(II)I" } : Jvm.MethodName)) ∈ zg_tbl := zg_at 541 (by decide +kernel) (by decide +kernel)
theorem zk_489 : (Jvm.Cond.code ({ cls := "ChairOnTheRoad", name := "moves", desc := "(II)I" } : Jvm.MethodName) prog_1_method_5_code (4 : Nat) (Option.some Jvm.ClassFile.FieldType.int)) ∈ zg_tbl := zg_at 542 (by decide +kernel) (by decide +kernel)
theorem zp_X10_moves : zc_okM zM_X10_moves 2 := ⟨zk_489, zw_1, by decide +kernel, by decide +kernel, by decide +kernel⟩
theorem zk_1194 : (Jvm.Cond.methodLink "ChairOnTheRoadLaw" (38 : Nat) ({ cls := "ChairOnTheRoadModel", name := "moves", desc := "(II)I" } : Jvm.MethodName)) ∈ zg_tbl := zg_at 1247 (by decide +kernel) (by decide +kernel)
theorem zk_1195 : (Jvm.Cond.instanceMethod ({ cls := "ChairOnTheRoadModel", name := "moves", desc := "(II)I" } : Jvm.MethodName)) ∈ zg_tbl := zg_at 1248 (by decide +kernel) (by decide +kernel)
theorem zk_1196 : (Jvm.Cond.selects "ChairOnTheRoadModel" ({ cls := "ChairOnTheRoadModel", name := "moves", desc := "(II)I" } : Jvm.MethodName) ({ cls := "ChairOnTheRoadModel", name := "moves", desc := "(II)I" } : Jvm.MethodName)) ∈ zg_tbl := zg_at 1249 (by decide +kernel) (by decide +kernel)
theorem zk_1197 : (Jvm.Cond.code ({ cls := "ChairOnTheRoadModel", name := "moves", desc := "(II)I" } : Jvm.MethodName) prog_13_method_37_code (4 : Nat) (Option.some Jvm.ClassFile.FieldType.int)) ∈ zg_tbl := zg_at 1250 (by decide +kernel) (by decide +kernel)
theorem zp_X11_moves : zc_okM zM_X11_moves 2 := ⟨zk_1197, zw_12, by decide +kernel, by decide +kernel, by decide +kernel⟩
theorem zk_490 : (Jvm.Cond.methodLink "ChairOnTheRoadLaw" (39 : Nat) ({ cls := "ChairOnTheRoad", name := "fetches", desc := "(II)I" } : Jvm.MethodName)) ∈ zg_tbl := zg_at 543 (by decide +kernel) (by decide +kernel)
theorem zk_491 : (Jvm.Cond.instanceMethod ({ cls := "ChairOnTheRoad", name := "fetches", desc := "(II)I" } : Jvm.MethodName)) ∈ zg_tbl := zg_at 544 (by decide +kernel) (by decide +kernel)
theorem zk_492 : (Jvm.Cond.selects "ChairOnTheRoad" ({ cls := "ChairOnTheRoad", name := "fetches", desc := "(II)I" } : Jvm.MethodName) ({ cls := "ChairOnTheRoad", name := "fetches", desc := "(II)I" } : Jvm.MethodName)) ∈ zg_tbl := zg_at 545 (by decide +kernel) (by decide +kernel)
theorem zk_493 : (Jvm.Cond.code ({ cls := "ChairOnTheRoad", name := "fetches", desc := "(II)I" } : Jvm.MethodName) prog_1_method_6_code (3 : Nat) (Option.some Jvm.ClassFile.FieldType.int)) ∈ zg_tbl := zg_at 546 (by decide +kernel) (by decide +kernel)
theorem zp_X10_fetches : zc_okM zM_X10_fetches 2 := ⟨zk_493, zw_1, by decide +kernel, by decide +kernel, by decide +kernel⟩
theorem zk_1198 : (Jvm.Cond.methodLink "ChairOnTheRoadLaw" (42 : Nat) ({ cls := "ChairOnTheRoadModel", name := "fetches", desc := "(II)I" } : Jvm.MethodName)) ∈ zg_tbl := zg_at 1251 (by decide +kernel) (by decide +kernel)
theorem zk_1199 : (Jvm.Cond.instanceMethod ({ cls := "ChairOnTheRoadModel", name := "fetches", desc := "(II)I" } : Jvm.MethodName)) ∈ zg_tbl := zg_at 1252 (by decide +kernel) (by decide +kernel)
theorem zk_1200 : (Jvm.Cond.selects "ChairOnTheRoadModel" ({ cls := "ChairOnTheRoadModel", name := "fetches", desc := "(II)I" } : Jvm.MethodName) ({ cls := "ChairOnTheRoadModel", name := "fetches", desc := "(II)I" } : Jvm.MethodName)) ∈ zg_tbl := zg_at 1253 (by decide +kernel) (by decide +kernel)
theorem zk_1201 : (Jvm.Cond.code ({ cls := "ChairOnTheRoadModel", name := "fetches", desc := "(II)I" } : Jvm.MethodName) prog_13_method_38_code (4 : Nat) (Option.some Jvm.ClassFile.FieldType.int)) ∈ zg_tbl := zg_at 1254 (by decide +kernel) (by decide +kernel)
theorem zp_X11_fetches : zc_okM zM_X11_fetches 2 := ⟨zk_1201, zw_12, by decide +kernel, by decide +kernel, by decide +kernel⟩
theorem zk_494 : (Jvm.Cond.methodLink "ChairOnTheRoadLaw" (43 : Nat) ({ cls := "ChairOnTheRoad", name := "stocks", desc := "(II)I" } : Jvm.MethodName)) ∈ zg_tbl := zg_at 547 (by decide +kernel) (by decide +kernel)
theorem zk_495 : (Jvm.Cond.instanceMethod ({ cls := "ChairOnTheRoad", name := "stocks", desc := "(II)I" } : Jvm.MethodName)) ∈ zg_tbl := zg_at 548 (by decide +kernel) (by decide +kernel)
theorem zk_496 : (Jvm.Cond.selects "ChairOnTheRoad" ({ cls := "ChairOnTheRoad", name := "stocks", desc := "(II)I" } : Jvm.MethodName) ({ cls := "ChairOnTheRoad", name := "stocks", desc := "(II)I" } : Jvm.MethodName)) ∈ zg_tbl := zg_at 549 (by decide +kernel) (by decide +kernel)
theorem zk_497 : (Jvm.Cond.code ({ cls := "ChairOnTheRoad", name := "stocks", desc := "(II)I" } : Jvm.MethodName) prog_1_method_7_code (3 : Nat) (Option.some Jvm.ClassFile.FieldType.int)) ∈ zg_tbl := zg_at 550 (by decide +kernel) (by decide +kernel)
theorem zp_X10_stocks : zc_okM zM_X10_stocks 2 := ⟨zk_497, zw_1, by decide +kernel, by decide +kernel, by decide +kernel⟩
theorem zk_1203 : (Jvm.Cond.methodLink "ChairOnTheRoadLaw" (46 : Nat) ({ cls := "ChairOnTheRoadModel", name := "stocks", desc := "(II)I" } : Jvm.MethodName)) ∈ zg_tbl := zg_at 1256 (by decide +kernel) (by decide +kernel)
theorem zk_1204 : (Jvm.Cond.instanceMethod ({ cls := "ChairOnTheRoadModel", name := "stocks", desc := "(II)I" } : Jvm.MethodName)) ∈ zg_tbl := zg_at 1257 (by decide +kernel) (by decide +kernel)
theorem zk_1205 : (Jvm.Cond.selects "ChairOnTheRoadModel" ({ cls := "ChairOnTheRoadModel", name := "stocks", desc := "(II)I" } : Jvm.MethodName) ({ cls := "ChairOnTheRoadModel", name := "stocks", desc := "(II)I" } : Jvm.MethodName)) ∈ zg_tbl := zg_at 1258 (by decide +kernel) (by decide +kernel)
theorem zk_1206 : (Jvm.Cond.code ({ cls := "ChairOnTheRoadModel", name := "stocks", desc := "(II)I" } : Jvm.MethodName) prog_13_method_39_code (4 : Nat) (Option.some Jvm.ClassFile.FieldType.int)) ∈ zg_tbl := zg_at 1259 (by decide +kernel) (by decide +kernel)
theorem zp_X11_stocks : zc_okM zM_X11_stocks 2 := ⟨zk_1206, zw_12, by decide +kernel, by decide +kernel, by decide +kernel⟩
theorem zk_498 : (Jvm.Cond.methodLink "ChairOnTheRoadLaw" (47 : Nat) ({ cls := "ChairOnTheRoad", name := "sits", desc := "(I)I" } : Jvm.MethodName)) ∈ zg_tbl := zg_at 551 (by decide +kernel) (by decide +kernel)
theorem zk_499 : (Jvm.Cond.instanceMethod ({ cls := "ChairOnTheRoad", name := "sits", desc := "(I)I" } : Jvm.MethodName)) ∈ zg_tbl := zg_at 552 (by decide +kernel) (by decide +kernel)
theorem zk_500 : (Jvm.Cond.selects "ChairOnTheRoad" ({ cls := "ChairOnTheRoad", name := "sits", desc := "(I)I" } : Jvm.MethodName) ({ cls := "ChairOnTheRoad", name := "sits", desc := "(I)I" } : Jvm.MethodName)) ∈ zg_tbl := zg_at 553 (by decide +kernel) (by decide +kernel)
theorem zk_501 : (Jvm.Cond.code ({ cls := "ChairOnTheRoad", name := "sits", desc := "(I)I" } : Jvm.MethodName) prog_1_method_8_code (2 : Nat) (Option.some Jvm.ClassFile.FieldType.int)) ∈ zg_tbl := zg_at 554 (by decide +kernel) (by decide +kernel)
theorem zp_X10_sits : zc_okM zM_X10_sits 1 := ⟨zk_501, zw_1, by decide +kernel, by decide +kernel, by decide +kernel⟩
theorem zk_1208 : (Jvm.Cond.methodLink "ChairOnTheRoadLaw" (50 : Nat) ({ cls := "ChairOnTheRoadModel", name := "sits", desc := "(I)I" } : Jvm.MethodName)) ∈ zg_tbl := zg_at 1261 (by decide +kernel) (by decide +kernel)
theorem zk_1209 : (Jvm.Cond.instanceMethod ({ cls := "ChairOnTheRoadModel", name := "sits", desc := "(I)I" } : Jvm.MethodName)) ∈ zg_tbl := zg_at 1262 (by decide +kernel) (by decide +kernel)
theorem zk_1210 : (Jvm.Cond.selects "ChairOnTheRoadModel" ({ cls := "ChairOnTheRoadModel", name := "sits", desc := "(I)I" } : Jvm.MethodName) ({ cls := "ChairOnTheRoadModel", name := "sits", desc := "(I)I" } : Jvm.MethodName)) ∈ zg_tbl := zg_at 1263 (by decide +kernel) (by decide +kernel)
theorem zk_1211 : (Jvm.Cond.code ({ cls := "ChairOnTheRoadModel", name := "sits", desc := "(I)I" } : Jvm.MethodName) prog_13_method_40_code (3 : Nat) (Option.some Jvm.ClassFile.FieldType.int)) ∈ zg_tbl := zg_at 1264 (by decide +kernel) (by decide +kernel)
theorem zp_X11_sits : zc_okM zM_X11_sits 1 := ⟨zk_1211, zw_12, by decide +kernel, by decide +kernel, by decide +kernel⟩
theorem zk_502 : (Jvm.Cond.methodLink "ChairOnTheRoadLaw" (51 : Nat) ({ cls := "ChairOnTheRoad", name := "sun", desc := "(II)I" } : Jvm.MethodName)) ∈ zg_tbl := zg_at 555 (by decide +kernel) (by decide +kernel)
theorem zk_503 : (Jvm.Cond.instanceMethod ({ cls := "ChairOnTheRoad", name := "sun", desc := "(II)I" } : Jvm.MethodName)) ∈ zg_tbl := zg_at 556 (by decide +kernel) (by decide +kernel)
theorem zk_504 : (Jvm.Cond.selects "ChairOnTheRoad" ({ cls := "ChairOnTheRoad", name := "sun", desc := "(II)I" } : Jvm.MethodName) ({ cls := "ChairOnTheRoad", name := "sun", desc := "(II)I" } : Jvm.MethodName)) ∈ zg_tbl := zg_at 557 (by decide +kernel) (by decide +kernel)
theorem zk_505 : (Jvm.Cond.code ({ cls := "ChairOnTheRoad", name := "sun", desc := "(II)I" } : Jvm.MethodName) prog_1_method_9_code (3 : Nat) (Option.some Jvm.ClassFile.FieldType.int)) ∈ zg_tbl := zg_at 558 (by decide +kernel) (by decide +kernel)
theorem zp_X10_sun : zc_okM zM_X10_sun 2 := ⟨zk_505, zw_1, by decide +kernel, by decide +kernel, by decide +kernel⟩
theorem zk_1212 : (Jvm.Cond.methodLink "ChairOnTheRoadLaw" (54 : Nat) ({ cls := "ChairOnTheRoadModel", name := "sun", desc := "(II)I" } : Jvm.MethodName)) ∈ zg_tbl := zg_at 1265 (by decide +kernel) (by decide +kernel)
theorem zk_1213 : (Jvm.Cond.instanceMethod ({ cls := "ChairOnTheRoadModel", name := "sun", desc := "(II)I" } : Jvm.MethodName)) ∈ zg_tbl := zg_at 1266 (by decide +kernel) (by decide +kernel)
theorem zk_1214 : (Jvm.Cond.selects "ChairOnTheRoadModel" ({ cls := "ChairOnTheRoadModel", name := "sun", desc := "(II)I" } : Jvm.MethodName) ({ cls := "ChairOnTheRoadModel", name := "sun", desc := "(II)I" } : Jvm.MethodName)) ∈ zg_tbl := zg_at 1267 (by decide +kernel) (by decide +kernel)
theorem zk_1215 : (Jvm.Cond.code ({ cls := "ChairOnTheRoadModel", name := "sun", desc := "(II)I" } : Jvm.MethodName) prog_13_method_41_code (4 : Nat) (Option.some Jvm.ClassFile.FieldType.int)) ∈ zg_tbl := zg_at 1268 (by decide +kernel) (by decide +kernel)
theorem zp_X11_sun : zc_okM zM_X11_sun 2 := ⟨zk_1215, zw_12, by decide +kernel, by decide +kernel, by decide +kernel⟩
theorem zk_506 : (Jvm.Cond.methodLink "ChairOnTheRoadLaw" (55 : Nat) ({ cls := "ChairOnTheRoad", name := "days", desc := "(I)I" } : Jvm.MethodName)) ∈ zg_tbl := zg_at 559 (by decide +kernel) (by decide +kernel)
theorem zk_507 : (Jvm.Cond.instanceMethod ({ cls := "ChairOnTheRoad", name := "days", desc := "(I)I" } : Jvm.MethodName)) ∈ zg_tbl := zg_at 560 (by decide +kernel) (by decide +kernel)
theorem zk_508 : (Jvm.Cond.selects "ChairOnTheRoad" ({ cls := "ChairOnTheRoad", name := "days", desc := "(I)I" } : Jvm.MethodName) ({ cls := "ChairOnTheRoad", name := "days", desc := "(I)I" } : Jvm.MethodName)) ∈ zg_tbl := zg_at 561 (by decide +kernel) (by decide +kernel)
theorem zk_509 : (Jvm.Cond.code ({ cls := "ChairOnTheRoad", name := "days", desc := "(I)I" } : Jvm.MethodName) prog_1_method_10_code (3 : Nat) (Option.some Jvm.ClassFile.FieldType.int)) ∈ zg_tbl := zg_at 562 (by decide +kernel) (by decide +kernel)
theorem zp_X10_days : zc_okM zM_X10_days 1 := ⟨zk_509, zw_1, by decide +kernel, by decide +kernel, by decide +kernel⟩
theorem zk_1217 : (Jvm.Cond.methodLink "ChairOnTheRoadLaw" (58 : Nat) ({ cls := "ChairOnTheRoadModel", name := "days", desc := "(I)I" } : Jvm.MethodName)) ∈ zg_tbl := zg_at 1270 (by decide +kernel) (by decide +kernel)
theorem zk_1218 : (Jvm.Cond.instanceMethod ({ cls := "ChairOnTheRoadModel", name := "days", desc := "(I)I" } : Jvm.MethodName)) ∈ zg_tbl := zg_at 1271 (by decide +kernel) (by decide +kernel)
theorem zk_1219 : (Jvm.Cond.selects "ChairOnTheRoadModel" ({ cls := "ChairOnTheRoadModel", name := "days", desc := "(I)I" } : Jvm.MethodName) ({ cls := "ChairOnTheRoadModel", name := "days", desc := "(I)I" } : Jvm.MethodName)) ∈ zg_tbl := zg_at 1272 (by decide +kernel) (by decide +kernel)
theorem zk_1220 : (Jvm.Cond.code ({ cls := "ChairOnTheRoadModel", name := "days", desc := "(I)I" } : Jvm.MethodName) prog_13_method_42_code (2 : Nat) (Option.some Jvm.ClassFile.FieldType.int)) ∈ zg_tbl := zg_at 1273 (by decide +kernel) (by decide +kernel)
theorem zp_X11_days : zc_okM zM_X11_days 1 := ⟨zk_1220, zw_12, by decide +kernel, by decide +kernel, by decide +kernel⟩
theorem zk_514 : (Jvm.Cond.methodLink "ChairOnTheRoadLaw" (59 : Nat) ({ cls := "ChairOnTheRoad", name := "then", desc := "(II)I" } : Jvm.MethodName)) ∈ zg_tbl := zg_at 567 (by decide +kernel) (by decide +kernel)
theorem zk_515 : (Jvm.Cond.instanceMethod ({ cls := "ChairOnTheRoad", name := "then", desc := "(II)I" } : Jvm.MethodName)) ∈ zg_tbl := zg_at 568 (by decide +kernel) (by decide +kernel)
theorem zk_516 : (Jvm.Cond.selects "ChairOnTheRoad" ({ cls := "ChairOnTheRoad", name := "then", desc := "(II)I" } : Jvm.MethodName) ({ cls := "ChairOnTheRoad", name := "then", desc := "(II)I" } : Jvm.MethodName)) ∈ zg_tbl := zg_at 569 (by decide +kernel) (by decide +kernel)
theorem zk_517 : (Jvm.Cond.code ({ cls := "ChairOnTheRoad", name := "then", desc := "(II)I" } : Jvm.MethodName) prog_1_method_11_code (3 : Nat) (Option.some Jvm.ClassFile.FieldType.int)) ∈ zg_tbl := zg_at 570 (by decide +kernel) (by decide +kernel)
theorem zp_X10_then : zc_okM zM_X10_then 2 := ⟨zk_517, zw_1, by decide +kernel, by decide +kernel, by decide +kernel⟩
theorem zk_1225 : (Jvm.Cond.methodLink "ChairOnTheRoadLaw" (62 : Nat) ({ cls := "ChairOnTheRoadModel", name := "then", desc := "(II)I" } : Jvm.MethodName)) ∈ zg_tbl := zg_at 1278 (by decide +kernel) (by decide +kernel)
theorem zk_1226 : (Jvm.Cond.instanceMethod ({ cls := "ChairOnTheRoadModel", name := "then", desc := "(II)I" } : Jvm.MethodName)) ∈ zg_tbl := zg_at 1279 (by decide +kernel) (by decide +kernel)
theorem zk_1227 : (Jvm.Cond.selects "ChairOnTheRoadModel" ({ cls := "ChairOnTheRoadModel", name := "then", desc := "(II)I" } : Jvm.MethodName) ({ cls := "ChairOnTheRoadModel", name := "then", desc := "(II)I" } : Jvm.MethodName)) ∈ zg_tbl := zg_at 1280 (by decide +kernel) (by decide +kernel)
theorem zk_1228 : (Jvm.Cond.code ({ cls := "ChairOnTheRoadModel", name := "then", desc := "(II)I" } : Jvm.MethodName) prog_13_method_43_code (4 : Nat) (Option.some Jvm.ClassFile.FieldType.int)) ∈ zg_tbl := zg_at 1281 (by decide +kernel) (by decide +kernel)
theorem zp_X11_then : zc_okM zM_X11_then 2 := ⟨zk_1228, zw_12, by decide +kernel, by decide +kernel, by decide +kernel⟩
theorem zk_525 : (Jvm.Cond.methodLink "ChairOnTheRoadLaw" (63 : Nat) ({ cls := "ChairOnTheRoad", name := "stockThen", desc := "(II)I" } : Jvm.MethodName)) ∈ zg_tbl := zg_at 578 (by decide +kernel) (by decide +kernel)
theorem zk_526 : (Jvm.Cond.instanceMethod ({ cls := "ChairOnTheRoad", name := "stockThen", desc := "(II)I" } : Jvm.MethodName)) ∈ zg_tbl := zg_at 579 (by decide +kernel) (by decide +kernel)
theorem zk_527 : (Jvm.Cond.selects "ChairOnTheRoad" ({ cls := "ChairOnTheRoad", name := "stockThen", desc := "(II)I" } : Jvm.MethodName) ({ cls := "ChairOnTheRoad", name := "stockThen", desc := "(II)I" } : Jvm.MethodName)) ∈ zg_tbl := zg_at 580 (by decide +kernel) (by decide +kernel)
theorem zk_528 : (Jvm.Cond.code ({ cls := "ChairOnTheRoad", name := "stockThen", desc := "(II)I" } : Jvm.MethodName) prog_1_method_12_code (3 : Nat) (Option.some Jvm.ClassFile.FieldType.int)) ∈ zg_tbl := zg_at 581 (by decide +kernel) (by decide +kernel)
theorem zp_X10_stockThen : zc_okM zM_X10_stockThen 2 := ⟨zk_528, zw_1, by decide +kernel, by decide +kernel, by decide +kernel⟩
theorem zk_1234 : (Jvm.Cond.methodLink "ChairOnTheRoadLaw" (66 : Nat) ({ cls := "ChairOnTheRoadModel", name := "stockThen", desc := "(II)I" } : Jvm.MethodName)) ∈ zg_tbl := zg_at 1287 (by decide +kernel) (by decide +kernel)
theorem zk_1235 : (Jvm.Cond.instanceMethod ({ cls := "ChairOnTheRoadModel", name := "stockThen", desc := "(II)I" } : Jvm.MethodName)) ∈ zg_tbl := zg_at 1288 (by decide +kernel) (by decide +kernel)
theorem zk_1236 : (Jvm.Cond.selects "ChairOnTheRoadModel" ({ cls := "ChairOnTheRoadModel", name := "stockThen", desc := "(II)I" } : Jvm.MethodName) ({ cls := "ChairOnTheRoadModel", name := "stockThen", desc := "(II)I" } : Jvm.MethodName)) ∈ zg_tbl := zg_at 1289 (by decide +kernel) (by decide +kernel)
theorem zk_1237 : (Jvm.Cond.code ({ cls := "ChairOnTheRoadModel", name := "stockThen", desc := "(II)I" } : Jvm.MethodName) prog_13_method_44_code (4 : Nat) (Option.some Jvm.ClassFile.FieldType.int)) ∈ zg_tbl := zg_at 1290 (by decide +kernel) (by decide +kernel)
theorem zp_X11_stockThen : zc_okM zM_X11_stockThen 2 := ⟨zk_1237, zw_12, by decide +kernel, by decide +kernel, by decide +kernel⟩
theorem zk_529 : (Jvm.Cond.methodLink "ChairOnTheRoadLaw" (67 : Nat) ({ cls := "ChairOnTheRoad", name := "firstCan", desc := "(I)I" } : Jvm.MethodName)) ∈ zg_tbl := zg_at 582 (by decide +kernel) (by decide +kernel)
theorem zk_530 : (Jvm.Cond.instanceMethod ({ cls := "ChairOnTheRoad", name := "firstCan", desc := "(I)I" } : Jvm.MethodName)) ∈ zg_tbl := zg_at 583 (by decide +kernel) (by decide +kernel)
theorem zk_531 : (Jvm.Cond.selects "ChairOnTheRoad" ({ cls := "ChairOnTheRoad", name := "firstCan", desc := "(I)I" } : Jvm.MethodName) ({ cls := "ChairOnTheRoad", name := "firstCan", desc := "(I)I" } : Jvm.MethodName)) ∈ zg_tbl := zg_at 584 (by decide +kernel) (by decide +kernel)
theorem zk_532 : (Jvm.Cond.code ({ cls := "ChairOnTheRoad", name := "firstCan", desc := "(I)I" } : Jvm.MethodName) prog_1_method_13_code (3 : Nat) (Option.some Jvm.ClassFile.FieldType.int)) ∈ zg_tbl := zg_at 585 (by decide +kernel) (by decide +kernel)
theorem zp_X10_firstCan : zc_okM zM_X10_firstCan 1 := ⟨zk_532, zw_1, by decide +kernel, by decide +kernel, by decide +kernel⟩
theorem zk_1238 : (Jvm.Cond.methodLink "ChairOnTheRoadLaw" (70 : Nat) ({ cls := "ChairOnTheRoadModel", name := "firstCan", desc := "(I)I" } : Jvm.MethodName)) ∈ zg_tbl := zg_at 1291 (by decide +kernel) (by decide +kernel)
theorem zk_1239 : (Jvm.Cond.instanceMethod ({ cls := "ChairOnTheRoadModel", name := "firstCan", desc := "(I)I" } : Jvm.MethodName)) ∈ zg_tbl := zg_at 1292 (by decide +kernel) (by decide +kernel)
theorem zk_1240 : (Jvm.Cond.selects "ChairOnTheRoadModel" ({ cls := "ChairOnTheRoadModel", name := "firstCan", desc := "(I)I" } : Jvm.MethodName) ({ cls := "ChairOnTheRoadModel", name := "firstCan", desc := "(I)I" } : Jvm.MethodName)) ∈ zg_tbl := zg_at 1293 (by decide +kernel) (by decide +kernel)
theorem zk_1241 : (Jvm.Cond.code ({ cls := "ChairOnTheRoadModel", name := "firstCan", desc := "(I)I" } : Jvm.MethodName) prog_13_method_45_code (4 : Nat) (Option.some Jvm.ClassFile.FieldType.int)) ∈ zg_tbl := zg_at 1294 (by decide +kernel) (by decide +kernel)
theorem zp_X11_firstCan : zc_okM zM_X11_firstCan 1 := ⟨zk_1241, zw_12, by decide +kernel, by decide +kernel, by decide +kernel⟩
theorem zk_534 : (Jvm.Cond.methodLink "ChairOnTheRoadLaw" (71 : Nat) ({ cls := "ChairOnTheRoad", name := "hungry", desc := "(I)I" } : Jvm.MethodName)) ∈ zg_tbl := zg_at 587 (by decide +kernel) (by decide +kernel)
theorem zk_535 : (Jvm.Cond.instanceMethod ({ cls := "ChairOnTheRoad", name := "hungry", desc := "(I)I" } : Jvm.MethodName)) ∈ zg_tbl := zg_at 588 (by decide +kernel) (by decide +kernel)
theorem zk_536 : (Jvm.Cond.selects "ChairOnTheRoad" ({ cls := "ChairOnTheRoad", name := "hungry", desc := "(I)I" } : Jvm.MethodName) ({ cls := "ChairOnTheRoad", name := "hungry", desc := "(I)I" } : Jvm.MethodName)) ∈ zg_tbl := zg_at 589 (by decide +kernel) (by decide +kernel)
theorem zk_537 : (Jvm.Cond.code ({ cls := "ChairOnTheRoad", name := "hungry", desc := "(I)I" } : Jvm.MethodName) prog_1_method_14_code (4 : Nat) (Option.some Jvm.ClassFile.FieldType.int)) ∈ zg_tbl := zg_at 590 (by decide +kernel) (by decide +kernel)
theorem zp_X10_hungry : zc_okM zM_X10_hungry 1 := ⟨zk_537, zw_1, by decide +kernel, by decide +kernel, by decide +kernel⟩
theorem zk_1242 : (Jvm.Cond.methodLink "ChairOnTheRoadLaw" (74 : Nat) ({ cls := "ChairOnTheRoadModel", name := "hungry", desc := "(I)I" } : Jvm.MethodName)) ∈ zg_tbl := zg_at 1295 (by decide +kernel) (by decide +kernel)
theorem zk_1243 : (Jvm.Cond.instanceMethod ({ cls := "ChairOnTheRoadModel", name := "hungry", desc := "(I)I" } : Jvm.MethodName)) ∈ zg_tbl := zg_at 1296 (by decide +kernel) (by decide +kernel)
theorem zk_1244 : (Jvm.Cond.selects "ChairOnTheRoadModel" ({ cls := "ChairOnTheRoadModel", name := "hungry", desc := "(I)I" } : Jvm.MethodName) ({ cls := "ChairOnTheRoadModel", name := "hungry", desc := "(I)I" } : Jvm.MethodName)) ∈ zg_tbl := zg_at 1297 (by decide +kernel) (by decide +kernel)
theorem zk_1245 : (Jvm.Cond.code ({ cls := "ChairOnTheRoadModel", name := "hungry", desc := "(I)I" } : Jvm.MethodName) prog_13_method_47_code (6 : Nat) (Option.some Jvm.ClassFile.FieldType.int)) ∈ zg_tbl := zg_at 1298 (by decide +kernel) (by decide +kernel)
theorem zp_X11_hungry : zc_okM zM_X11_hungry 1 := ⟨zk_1245, zw_12, by decide +kernel, by decide +kernel, by decide +kernel⟩
theorem zk_542 : (Jvm.Cond.methodLink "ChairOnTheRoadLaw" (75 : Nat) ({ cls := "ChairOnTheRoad", name := "round", desc := "()I" } : Jvm.MethodName)) ∈ zg_tbl := zg_at 595 (by decide +kernel) (by decide +kernel)
theorem zk_543 : (Jvm.Cond.instanceMethod ({ cls := "ChairOnTheRoad", name := "round", desc := "()I" } : Jvm.MethodName)) ∈ zg_tbl := zg_at 596 (by decide +kernel) (by decide +kernel)
theorem zk_544 : (Jvm.Cond.selects "ChairOnTheRoad" ({ cls := "ChairOnTheRoad", name := "round", desc := "()I" } : Jvm.MethodName) ({ cls := "ChairOnTheRoad", name := "round", desc := "()I" } : Jvm.MethodName)) ∈ zg_tbl := zg_at 597 (by decide +kernel) (by decide +kernel)
theorem zk_545 : (Jvm.Cond.code ({ cls := "ChairOnTheRoad", name := "round", desc := "()I" } : Jvm.MethodName) prog_1_method_15_code (2 : Nat) (Option.some Jvm.ClassFile.FieldType.int)) ∈ zg_tbl := zg_at 598 (by decide +kernel) (by decide +kernel)
theorem zp_X10_round : zc_okM zM_X10_round 0 := ⟨zk_545, zw_1, by decide +kernel, by decide +kernel, by decide +kernel⟩
theorem zk_1251 : (Jvm.Cond.methodLink "ChairOnTheRoadLaw" (79 : Nat) ({ cls := "ChairOnTheRoadModel", name := "round", desc := "()I" } : Jvm.MethodName)) ∈ zg_tbl := zg_at 1304 (by decide +kernel) (by decide +kernel)
theorem zk_1252 : (Jvm.Cond.instanceMethod ({ cls := "ChairOnTheRoadModel", name := "round", desc := "()I" } : Jvm.MethodName)) ∈ zg_tbl := zg_at 1305 (by decide +kernel) (by decide +kernel)
theorem zk_1253 : (Jvm.Cond.selects "ChairOnTheRoadModel" ({ cls := "ChairOnTheRoadModel", name := "round", desc := "()I" } : Jvm.MethodName) ({ cls := "ChairOnTheRoadModel", name := "round", desc := "()I" } : Jvm.MethodName)) ∈ zg_tbl := zg_at 1306 (by decide +kernel) (by decide +kernel)
theorem zk_1254 : (Jvm.Cond.code ({ cls := "ChairOnTheRoadModel", name := "round", desc := "()I" } : Jvm.MethodName) prog_13_method_48_code (4 : Nat) (Option.some Jvm.ClassFile.FieldType.int)) ∈ zg_tbl := zg_at 1307 (by decide +kernel) (by decide +kernel)
theorem zp_X11_round : zc_okM zM_X11_round 0 := ⟨zk_1254, zw_12, by decide +kernel, by decide +kernel, by decide +kernel⟩
theorem zk_546 : (Jvm.Cond.methodLink "ChairOnTheRoadLaw" (80 : Nat) ({ cls := "ChairOnTheRoad", name := "way", desc := "(II)I" } : Jvm.MethodName)) ∈ zg_tbl := zg_at 599 (by decide +kernel) (by decide +kernel)
theorem zk_547 : (Jvm.Cond.instanceMethod ({ cls := "ChairOnTheRoad", name := "way", desc := "(II)I" } : Jvm.MethodName)) ∈ zg_tbl := zg_at 600 (by decide +kernel) (by decide +kernel)
theorem zk_548 : (Jvm.Cond.selects "ChairOnTheRoad" ({ cls := "ChairOnTheRoad", name := "way", desc := "(II)I" } : Jvm.MethodName) ({ cls := "ChairOnTheRoad", name := "way", desc := "(II)I" } : Jvm.MethodName)) ∈ zg_tbl := zg_at 601 (by decide +kernel) (by decide +kernel)
theorem zk_549 : (Jvm.Cond.code ({ cls := "ChairOnTheRoad", name := "way", desc := "(II)I" } : Jvm.MethodName) prog_1_method_16_code (3 : Nat) (Option.some Jvm.ClassFile.FieldType.int)) ∈ zg_tbl := zg_at 602 (by decide +kernel) (by decide +kernel)
theorem zp_X10_way : zc_okM zM_X10_way 2 := ⟨zk_549, zw_1, by decide +kernel, by decide +kernel, by decide +kernel⟩
theorem zk_1255 : (Jvm.Cond.methodLink "ChairOnTheRoadLaw" (83 : Nat) ({ cls := "ChairOnTheRoadModel", name := "way", desc := "(II)I" } : Jvm.MethodName)) ∈ zg_tbl := zg_at 1308 (by decide +kernel) (by decide +kernel)
theorem zk_1256 : (Jvm.Cond.instanceMethod ({ cls := "ChairOnTheRoadModel", name := "way", desc := "(II)I" } : Jvm.MethodName)) ∈ zg_tbl := zg_at 1309 (by decide +kernel) (by decide +kernel)
theorem zk_1257 : (Jvm.Cond.selects "ChairOnTheRoadModel" ({ cls := "ChairOnTheRoadModel", name := "way", desc := "(II)I" } : Jvm.MethodName) ({ cls := "ChairOnTheRoadModel", name := "way", desc := "(II)I" } : Jvm.MethodName)) ∈ zg_tbl := zg_at 1310 (by decide +kernel) (by decide +kernel)
theorem zk_1258 : (Jvm.Cond.code ({ cls := "ChairOnTheRoadModel", name := "way", desc := "(II)I" } : Jvm.MethodName) prog_13_method_49_code (3 : Nat) (Option.some Jvm.ClassFile.FieldType.int)) ∈ zg_tbl := zg_at 1311 (by decide +kernel) (by decide +kernel)
theorem zp_X11_way : zc_okM zM_X11_way 2 := ⟨zk_1258, zw_12, by decide +kernel, by decide +kernel, by decide +kernel⟩
theorem zk_551 : (Jvm.Cond.methodLink "ChairOnTheRoadLaw" (84 : Nat) ({ cls := "ChairOnTheRoad", name := "sit", desc := "(I)I" } : Jvm.MethodName)) ∈ zg_tbl := zg_at 604 (by decide +kernel) (by decide +kernel)
theorem zk_552 : (Jvm.Cond.instanceMethod ({ cls := "ChairOnTheRoad", name := "sit", desc := "(I)I" } : Jvm.MethodName)) ∈ zg_tbl := zg_at 605 (by decide +kernel) (by decide +kernel)
theorem zk_553 : (Jvm.Cond.selects "ChairOnTheRoad" ({ cls := "ChairOnTheRoad", name := "sit", desc := "(I)I" } : Jvm.MethodName) ({ cls := "ChairOnTheRoad", name := "sit", desc := "(I)I" } : Jvm.MethodName)) ∈ zg_tbl := zg_at 606 (by decide +kernel) (by decide +kernel)
theorem zk_554 : (Jvm.Cond.code ({ cls := "ChairOnTheRoad", name := "sit", desc := "(I)I" } : Jvm.MethodName) prog_1_method_17_code (6 : Nat) (Option.some Jvm.ClassFile.FieldType.int)) ∈ zg_tbl := zg_at 607 (by decide +kernel) (by decide +kernel)
theorem zp_X10_sit : zc_okM zM_X10_sit 1 := ⟨zk_554, zw_1, by decide +kernel, by decide +kernel, by decide +kernel⟩
theorem zk_1259 : (Jvm.Cond.methodLink "ChairOnTheRoadLaw" (87 : Nat) ({ cls := "ChairOnTheRoadModel", name := "sit", desc := "(I)I" } : Jvm.MethodName)) ∈ zg_tbl := zg_at 1312 (by decide +kernel) (by decide +kernel)
theorem zk_1260 : (Jvm.Cond.instanceMethod ({ cls := "ChairOnTheRoadModel", name := "sit", desc := "(I)I" } : Jvm.MethodName)) ∈ zg_tbl := zg_at 1313 (by decide +kernel) (by decide +kernel)
theorem zk_1261 : (Jvm.Cond.selects "ChairOnTheRoadModel" ({ cls := "ChairOnTheRoadModel", name := "sit", desc := "(I)I" } : Jvm.MethodName) ({ cls := "ChairOnTheRoadModel", name := "sit", desc := "(I)I" } : Jvm.MethodName)) ∈ zg_tbl := zg_at 1314 (by decide +kernel) (by decide +kernel)
theorem zk_1262 : (Jvm.Cond.code ({ cls := "ChairOnTheRoadModel", name := "sit", desc := "(I)I" } : Jvm.MethodName) prog_13_method_51_code (7 : Nat) (Option.some Jvm.ClassFile.FieldType.int)) ∈ zg_tbl := zg_at 1315 (by decide +kernel) (by decide +kernel)
theorem zp_X11_sit : zc_okM zM_X11_sit 1 := ⟨zk_1262, zw_12, by decide +kernel, by decide +kernel, by decide +kernel⟩
theorem zk_561 : (Jvm.Cond.methodLink "ChairOnTheRoadLaw" (88 : Nat) ({ cls := "ChairOnTheRoad", name := "sitFor", desc := "(I)I" } : Jvm.MethodName)) ∈ zg_tbl := zg_at 614 (by decide +kernel) (by decide +kernel)
theorem zk_562 : (Jvm.Cond.instanceMethod ({ cls := "ChairOnTheRoad", name := "sitFor", desc := "(I)I" } : Jvm.MethodName)) ∈ zg_tbl := zg_at 615 (by decide +kernel) (by decide +kernel)
theorem zk_563 : (Jvm.Cond.selects "ChairOnTheRoad" ({ cls := "ChairOnTheRoad", name := "sitFor", desc := "(I)I" } : Jvm.MethodName) ({ cls := "ChairOnTheRoad", name := "sitFor", desc := "(I)I" } : Jvm.MethodName)) ∈ zg_tbl := zg_at 616 (by decide +kernel) (by decide +kernel)
theorem zk_564 : (Jvm.Cond.code ({ cls := "ChairOnTheRoad", name := "sitFor", desc := "(I)I" } : Jvm.MethodName) prog_1_method_18_code (6 : Nat) (Option.some Jvm.ClassFile.FieldType.int)) ∈ zg_tbl := zg_at 617 (by decide +kernel) (by decide +kernel)
theorem zp_X10_sitFor : zc_okM zM_X10_sitFor 1 := ⟨zk_564, zw_1, by decide +kernel, by decide +kernel, by decide +kernel⟩
theorem zk_1267 : (Jvm.Cond.methodLink "ChairOnTheRoadLaw" (91 : Nat) ({ cls := "ChairOnTheRoadModel", name := "sitFor", desc := "(I)I" } : Jvm.MethodName)) ∈ zg_tbl := zg_at 1320 (by decide +kernel) (by decide +kernel)
theorem zk_1268 : (Jvm.Cond.instanceMethod ({ cls := "ChairOnTheRoadModel", name := "sitFor", desc := "(I)I" } : Jvm.MethodName)) ∈ zg_tbl := zg_at 1321 (by decide +kernel) (by decide +kernel)
theorem zk_1269 : (Jvm.Cond.selects "ChairOnTheRoadModel" ({ cls := "ChairOnTheRoadModel", name := "sitFor", desc := "(I)I" } : Jvm.MethodName) ({ cls := "ChairOnTheRoadModel", name := "sitFor", desc := "(I)I" } : Jvm.MethodName)) ∈ zg_tbl := zg_at 1322 (by decide +kernel) (by decide +kernel)
theorem zk_1270 : (Jvm.Cond.code ({ cls := "ChairOnTheRoadModel", name := "sitFor", desc := "(I)I" } : Jvm.MethodName) prog_13_method_52_code (6 : Nat) (Option.some Jvm.ClassFile.FieldType.int)) ∈ zg_tbl := zg_at 1323 (by decide +kernel) (by decide +kernel)
theorem zp_X11_sitFor : zc_okM zM_X11_sitFor 1 := ⟨zk_1270, zw_12, by decide +kernel, by decide +kernel, by decide +kernel⟩
theorem zk_565 : (Jvm.Cond.methodLink "ChairOnTheRoadLaw" (92 : Nat) ({ cls := "ChairOnTheRoad", name := "move", desc := "(II)I" } : Jvm.MethodName)) ∈ zg_tbl := zg_at 618 (by decide +kernel) (by decide +kernel)
theorem zk_566 : (Jvm.Cond.instanceMethod ({ cls := "ChairOnTheRoad", name := "move", desc := "(II)I" } : Jvm.MethodName)) ∈ zg_tbl := zg_at 619 (by decide +kernel) (by decide +kernel)
theorem zk_567 : (Jvm.Cond.selects "ChairOnTheRoad" ({ cls := "ChairOnTheRoad", name := "move", desc := "(II)I" } : Jvm.MethodName) ({ cls := "ChairOnTheRoad", name := "move", desc := "(II)I" } : Jvm.MethodName)) ∈ zg_tbl := zg_at 620 (by decide +kernel) (by decide +kernel)
theorem zk_568 : (Jvm.Cond.code ({ cls := "ChairOnTheRoad", name := "move", desc := "(II)I" } : Jvm.MethodName) prog_1_method_19_code (6 : Nat) (Option.some Jvm.ClassFile.FieldType.int)) ∈ zg_tbl := zg_at 621 (by decide +kernel) (by decide +kernel)
theorem zp_X10_move : zc_okM zM_X10_move 2 := ⟨zk_568, zw_1, by decide +kernel, by decide +kernel, by decide +kernel⟩
theorem zk_1271 : (Jvm.Cond.methodLink "ChairOnTheRoadLaw" (95 : Nat) ({ cls := "ChairOnTheRoadModel", name := "move", desc := "(II)I" } : Jvm.MethodName)) ∈ zg_tbl := zg_at 1324 (by decide +kernel) (by decide +kernel)
theorem zk_1272 : (Jvm.Cond.instanceMethod ({ cls := "ChairOnTheRoadModel", name := "move", desc := "(II)I" } : Jvm.MethodName)) ∈ zg_tbl := zg_at 1325 (by decide +kernel) (by decide +kernel)
theorem zk_1273 : (Jvm.Cond.selects "ChairOnTheRoadModel" ({ cls := "ChairOnTheRoadModel", name := "move", desc := "(II)I" } : Jvm.MethodName) ({ cls := "ChairOnTheRoadModel", name := "move", desc := "(II)I" } : Jvm.MethodName)) ∈ zg_tbl := zg_at 1326 (by decide +kernel) (by decide +kernel)
theorem zk_1274 : (Jvm.Cond.code ({ cls := "ChairOnTheRoadModel", name := "move", desc := "(II)I" } : Jvm.MethodName) prog_13_method_53_code (7 : Nat) (Option.some Jvm.ClassFile.FieldType.int)) ∈ zg_tbl := zg_at 1327 (by decide +kernel) (by decide +kernel)
theorem zp_X11_move : zc_okM zM_X11_move 2 := ⟨zk_1274, zw_12, by decide +kernel, by decide +kernel, by decide +kernel⟩
theorem zk_569 : (Jvm.Cond.methodLink "ChairOnTheRoadLaw" (96 : Nat) ({ cls := "ChairOnTheRoad", name := "fetch", desc := "(II)I" } : Jvm.MethodName)) ∈ zg_tbl := zg_at 622 (by decide +kernel) (by decide +kernel)
theorem zk_570 : (Jvm.Cond.instanceMethod ({ cls := "ChairOnTheRoad", name := "fetch", desc := "(II)I" } : Jvm.MethodName)) ∈ zg_tbl := zg_at 623 (by decide +kernel) (by decide +kernel)
theorem zk_571 : (Jvm.Cond.selects "ChairOnTheRoad" ({ cls := "ChairOnTheRoad", name := "fetch", desc := "(II)I" } : Jvm.MethodName) ({ cls := "ChairOnTheRoad", name := "fetch", desc := "(II)I" } : Jvm.MethodName)) ∈ zg_tbl := zg_at 624 (by decide +kernel) (by decide +kernel)
theorem zk_572 : (Jvm.Cond.code ({ cls := "ChairOnTheRoad", name := "fetch", desc := "(II)I" } : Jvm.MethodName) prog_1_method_20_code (6 : Nat) (Option.some Jvm.ClassFile.FieldType.int)) ∈ zg_tbl := zg_at 625 (by decide +kernel) (by decide +kernel)
theorem zp_X10_fetch : zc_okM zM_X10_fetch 2 := ⟨zk_572, zw_1, by decide +kernel, by decide +kernel, by decide +kernel⟩
theorem zk_1275 : (Jvm.Cond.methodLink "ChairOnTheRoadLaw" (99 : Nat) ({ cls := "ChairOnTheRoadModel", name := "fetch", desc := "(II)I" } : Jvm.MethodName)) ∈ zg_tbl := zg_at 1328 (by decide +kernel) (by decide +kernel)
theorem zk_1276 : (Jvm.Cond.instanceMethod ({ cls := "ChairOnTheRoadModel", name := "fetch", desc := "(II)I" } : Jvm.MethodName)) ∈ zg_tbl := zg_at 1329 (by decide +kernel) (by decide +kernel)
theorem zk_1277 : (Jvm.Cond.selects "ChairOnTheRoadModel" ({ cls := "ChairOnTheRoadModel", name := "fetch", desc := "(II)I" } : Jvm.MethodName) ({ cls := "ChairOnTheRoadModel", name := "fetch", desc := "(II)I" } : Jvm.MethodName)) ∈ zg_tbl := zg_at 1330 (by decide +kernel) (by decide +kernel)
theorem zk_1278 : (Jvm.Cond.code ({ cls := "ChairOnTheRoadModel", name := "fetch", desc := "(II)I" } : Jvm.MethodName) prog_13_method_54_code (7 : Nat) (Option.some Jvm.ClassFile.FieldType.int)) ∈ zg_tbl := zg_at 1331 (by decide +kernel) (by decide +kernel)
theorem zp_X11_fetch : zc_okM zM_X11_fetch 2 := ⟨zk_1278, zw_12, by decide +kernel, by decide +kernel, by decide +kernel⟩
theorem zk_573 : (Jvm.Cond.methodLink "ChairOnTheRoadLaw" (100 : Nat) ({ cls := "ChairOnTheRoad", name := "stepBest", desc := "(I)I" } : Jvm.MethodName)) ∈ zg_tbl := zg_at 626 (by decide +kernel) (by decide +kernel)
theorem zk_574 : (Jvm.Cond.instanceMethod ({ cls := "ChairOnTheRoad", name := "stepBest", desc := "(I)I" } : Jvm.MethodName)) ∈ zg_tbl := zg_at 627 (by decide +kernel) (by decide +kernel)
theorem zk_575 : (Jvm.Cond.selects "ChairOnTheRoad" ({ cls := "ChairOnTheRoad", name := "stepBest", desc := "(I)I" } : Jvm.MethodName) ({ cls := "ChairOnTheRoad", name := "stepBest", desc := "(I)I" } : Jvm.MethodName)) ∈ zg_tbl := zg_at 628 (by decide +kernel) (by decide +kernel)
theorem zk_576 : (Jvm.Cond.code ({ cls := "ChairOnTheRoad", name := "stepBest", desc := "(I)I" } : Jvm.MethodName) prog_1_method_21_code (6 : Nat) (Option.some Jvm.ClassFile.FieldType.int)) ∈ zg_tbl := zg_at 629 (by decide +kernel) (by decide +kernel)
theorem zp_X10_stepBest : zc_okM zM_X10_stepBest 1 := ⟨zk_576, zw_1, by decide +kernel, by decide +kernel, by decide +kernel⟩
theorem zk_1279 : (Jvm.Cond.methodLink "ChairOnTheRoadLaw" (103 : Nat) ({ cls := "ChairOnTheRoadModel", name := "stepBest", desc := "(I)I" } : Jvm.MethodName)) ∈ zg_tbl := zg_at 1332 (by decide +kernel) (by decide +kernel)
theorem zk_1280 : (Jvm.Cond.instanceMethod ({ cls := "ChairOnTheRoadModel", name := "stepBest", desc := "(I)I" } : Jvm.MethodName)) ∈ zg_tbl := zg_at 1333 (by decide +kernel) (by decide +kernel)
theorem zk_1281 : (Jvm.Cond.selects "ChairOnTheRoadModel" ({ cls := "ChairOnTheRoadModel", name := "stepBest", desc := "(I)I" } : Jvm.MethodName) ({ cls := "ChairOnTheRoadModel", name := "stepBest", desc := "(I)I" } : Jvm.MethodName)) ∈ zg_tbl := zg_at 1334 (by decide +kernel) (by decide +kernel)
theorem zk_1282 : (Jvm.Cond.code ({ cls := "ChairOnTheRoadModel", name := "stepBest", desc := "(I)I" } : Jvm.MethodName) prog_13_method_55_code (6 : Nat) (Option.some Jvm.ClassFile.FieldType.int)) ∈ zg_tbl := zg_at 1335 (by decide +kernel) (by decide +kernel)
theorem zp_X11_stepBest : zc_okM zM_X11_stepBest 1 := ⟨zk_1282, zw_12, by decide +kernel, by decide +kernel, by decide +kernel⟩
theorem zk_577 : (Jvm.Cond.methodLink "ChairOnTheRoadLaw" (104 : Nat) ({ cls := "ChairOnTheRoad", name := "match", desc := "(I)I" } : Jvm.MethodName)) ∈ zg_tbl := zg_at 630 (by decide +kernel) (by decide +kernel)
theorem zk_578 : (Jvm.Cond.instanceMethod ({ cls := "ChairOnTheRoad", name := "match", desc := "(I)I" } : Jvm.MethodName)) ∈ zg_tbl := zg_at 631 (by decide +kernel) (by decide +kernel)
theorem zk_579 : (Jvm.Cond.selects "ChairOnTheRoad" ({ cls := "ChairOnTheRoad", name := "match", desc := "(I)I" } : Jvm.MethodName) ({ cls := "ChairOnTheRoad", name := "match", desc := "(I)I" } : Jvm.MethodName)) ∈ zg_tbl := zg_at 632 (by decide +kernel) (by decide +kernel)
theorem zk_580 : (Jvm.Cond.code ({ cls := "ChairOnTheRoad", name := "match", desc := "(I)I" } : Jvm.MethodName) prog_1_method_22_code (2 : Nat) (Option.some Jvm.ClassFile.FieldType.int)) ∈ zg_tbl := zg_at 633 (by decide +kernel) (by decide +kernel)
theorem zp_X10_match : zc_okM zM_X10_match 1 := ⟨zk_580, zw_1, by decide +kernel, by decide +kernel, by decide +kernel⟩
theorem zk_1283 : (Jvm.Cond.methodLink "ChairOnTheRoadLaw" (107 : Nat) ({ cls := "ChairOnTheRoadModel", name := "match", desc := "(I)I" } : Jvm.MethodName)) ∈ zg_tbl := zg_at 1336 (by decide +kernel) (by decide +kernel)
theorem zk_1284 : (Jvm.Cond.instanceMethod ({ cls := "ChairOnTheRoadModel", name := "match", desc := "(I)I" } : Jvm.MethodName)) ∈ zg_tbl := zg_at 1337 (by decide +kernel) (by decide +kernel)
theorem zk_1285 : (Jvm.Cond.selects "ChairOnTheRoadModel" ({ cls := "ChairOnTheRoadModel", name := "match", desc := "(I)I" } : Jvm.MethodName) ({ cls := "ChairOnTheRoadModel", name := "match", desc := "(I)I" } : Jvm.MethodName)) ∈ zg_tbl := zg_at 1338 (by decide +kernel) (by decide +kernel)
theorem zk_1286 : (Jvm.Cond.code ({ cls := "ChairOnTheRoadModel", name := "match", desc := "(I)I" } : Jvm.MethodName) prog_13_method_58_code (5 : Nat) (Option.some Jvm.ClassFile.FieldType.int)) ∈ zg_tbl := zg_at 1339 (by decide +kernel) (by decide +kernel)
theorem zp_X11_match : zc_okM zM_X11_match 1 := ⟨zk_1286, zw_12, by decide +kernel, by decide +kernel, by decide +kernel⟩
theorem zk_611 : (Jvm.Cond.methodLink "ChairOnTheRoadLaw" (108 : Nat) ({ cls := "ChairOnTheRoad", name := "feed", desc := "(I)I" } : Jvm.MethodName)) ∈ zg_tbl := zg_at 664 (by decide +kernel) (by decide +kernel)
theorem zk_612 : (Jvm.Cond.instanceMethod ({ cls := "ChairOnTheRoad", name := "feed", desc := "(I)I" } : Jvm.MethodName)) ∈ zg_tbl := zg_at 665 (by decide +kernel) (by decide +kernel)
theorem zk_613 : (Jvm.Cond.selects "ChairOnTheRoad" ({ cls := "ChairOnTheRoad", name := "feed", desc := "(I)I" } : Jvm.MethodName) ({ cls := "ChairOnTheRoad", name := "feed", desc := "(I)I" } : Jvm.MethodName)) ∈ zg_tbl := zg_at 666 (by decide +kernel) (by decide +kernel)
theorem zk_614 : (Jvm.Cond.code ({ cls := "ChairOnTheRoad", name := "feed", desc := "(I)I" } : Jvm.MethodName) prog_1_method_23_code (6 : Nat) (Option.some Jvm.ClassFile.FieldType.int)) ∈ zg_tbl := zg_at 667 (by decide +kernel) (by decide +kernel)
theorem zp_X10_feed : zc_okM zM_X10_feed 1 := ⟨zk_614, zw_1, by decide +kernel, by decide +kernel, by decide +kernel⟩
theorem zk_1299 : (Jvm.Cond.methodLink "ChairOnTheRoadLaw" (111 : Nat) ({ cls := "ChairOnTheRoadModel", name := "feed", desc := "(I)I" } : Jvm.MethodName)) ∈ zg_tbl := zg_at 1352 (by decide +kernel) (by decide +kernel)
theorem zk_1300 : (Jvm.Cond.instanceMethod ({ cls := "ChairOnTheRoadModel", name := "feed", desc := "(I)I" } : Jvm.MethodName)) ∈ zg_tbl := zg_at 1353 (by decide +kernel) (by decide +kernel)
theorem zk_1301 : (Jvm.Cond.selects "ChairOnTheRoadModel" ({ cls := "ChairOnTheRoadModel", name := "feed", desc := "(I)I" } : Jvm.MethodName) ({ cls := "ChairOnTheRoadModel", name := "feed", desc := "(I)I" } : Jvm.MethodName)) ∈ zg_tbl := zg_at 1354 (by decide +kernel) (by decide +kernel)
theorem zk_1302 : (Jvm.Cond.code ({ cls := "ChairOnTheRoadModel", name := "feed", desc := "(I)I" } : Jvm.MethodName) prog_13_method_60_code (6 : Nat) (Option.some Jvm.ClassFile.FieldType.int)) ∈ zg_tbl := zg_at 1355 (by decide +kernel) (by decide +kernel)
theorem zp_X11_feed : zc_okM zM_X11_feed 1 := ⟨zk_1302, zw_12, by decide +kernel, by decide +kernel, by decide +kernel⟩
theorem zk_619 : (Jvm.Cond.methodLink "ChairOnTheRoadLaw" (112 : Nat) ({ cls := "ChairOnTheRoad", name := "shade", desc := "(I)I" } : Jvm.MethodName)) ∈ zg_tbl := zg_at 672 (by decide +kernel) (by decide +kernel)
theorem zk_620 : (Jvm.Cond.instanceMethod ({ cls := "ChairOnTheRoad", name := "shade", desc := "(I)I" } : Jvm.MethodName)) ∈ zg_tbl := zg_at 673 (by decide +kernel) (by decide +kernel)
theorem zk_621 : (Jvm.Cond.selects "ChairOnTheRoad" ({ cls := "ChairOnTheRoad", name := "shade", desc := "(I)I" } : Jvm.MethodName) ({ cls := "ChairOnTheRoad", name := "shade", desc := "(I)I" } : Jvm.MethodName)) ∈ zg_tbl := zg_at 674 (by decide +kernel) (by decide +kernel)
theorem zk_622 : (Jvm.Cond.code ({ cls := "ChairOnTheRoad", name := "shade", desc := "(I)I" } : Jvm.MethodName) prog_1_method_24_code (4 : Nat) (Option.some Jvm.ClassFile.FieldType.int)) ∈ zg_tbl := zg_at 675 (by decide +kernel) (by decide +kernel)
theorem zp_X10_shade : zc_okM zM_X10_shade 1 := ⟨zk_622, zw_1, by decide +kernel, by decide +kernel, by decide +kernel⟩
theorem zk_1307 : (Jvm.Cond.methodLink "ChairOnTheRoadLaw" (115 : Nat) ({ cls := "ChairOnTheRoadModel", name := "shade", desc := "(I)I" } : Jvm.MethodName)) ∈ zg_tbl := zg_at 1360 (by decide +kernel) (by decide +kernel)
theorem zk_1308 : (Jvm.Cond.instanceMethod ({ cls := "ChairOnTheRoadModel", name := "shade", desc := "(I)I" } : Jvm.MethodName)) ∈ zg_tbl := zg_at 1361 (by decide +kernel) (by decide +kernel)
theorem zk_1309 : (Jvm.Cond.selects "ChairOnTheRoadModel" ({ cls := "ChairOnTheRoadModel", name := "shade", desc := "(I)I" } : Jvm.MethodName) ({ cls := "ChairOnTheRoadModel", name := "shade", desc := "(I)I" } : Jvm.MethodName)) ∈ zg_tbl := zg_at 1362 (by decide +kernel) (by decide +kernel)
theorem zk_1310 : (Jvm.Cond.code ({ cls := "ChairOnTheRoadModel", name := "shade", desc := "(I)I" } : Jvm.MethodName) prog_13_method_61_code (4 : Nat) (Option.some Jvm.ClassFile.FieldType.int)) ∈ zg_tbl := zg_at 1363 (by decide +kernel) (by decide +kernel)
theorem zp_X11_shade : zc_okM zM_X11_shade 1 := ⟨zk_1310, zw_12, by decide +kernel, by decide +kernel, by decide +kernel⟩
theorem zk_624 : (Jvm.Cond.methodLink "ChairOnTheRoadLaw" (116 : Nat) ({ cls := "ChairOnTheRoad", name := "jam", desc := "(I)I" } : Jvm.MethodName)) ∈ zg_tbl := zg_at 677 (by decide +kernel) (by decide +kernel)
theorem zk_625 : (Jvm.Cond.instanceMethod ({ cls := "ChairOnTheRoad", name := "jam", desc := "(I)I" } : Jvm.MethodName)) ∈ zg_tbl := zg_at 678 (by decide +kernel) (by decide +kernel)
theorem zk_626 : (Jvm.Cond.selects "ChairOnTheRoad" ({ cls := "ChairOnTheRoad", name := "jam", desc := "(I)I" } : Jvm.MethodName) ({ cls := "ChairOnTheRoad", name := "jam", desc := "(I)I" } : Jvm.MethodName)) ∈ zg_tbl := zg_at 679 (by decide +kernel) (by decide +kernel)
theorem zk_627 : (Jvm.Cond.code ({ cls := "ChairOnTheRoad", name := "jam", desc := "(I)I" } : Jvm.MethodName) prog_1_method_25_code (2 : Nat) (Option.some Jvm.ClassFile.FieldType.int)) ∈ zg_tbl := zg_at 680 (by decide +kernel) (by decide +kernel)
theorem zp_X10_jam : zc_okM zM_X10_jam 1 := ⟨zk_627, zw_1, by decide +kernel, by decide +kernel, by decide +kernel⟩
theorem zk_1311 : (Jvm.Cond.methodLink "ChairOnTheRoadLaw" (119 : Nat) ({ cls := "ChairOnTheRoadModel", name := "jam", desc := "(I)I" } : Jvm.MethodName)) ∈ zg_tbl := zg_at 1364 (by decide +kernel) (by decide +kernel)
theorem zk_1312 : (Jvm.Cond.instanceMethod ({ cls := "ChairOnTheRoadModel", name := "jam", desc := "(I)I" } : Jvm.MethodName)) ∈ zg_tbl := zg_at 1365 (by decide +kernel) (by decide +kernel)
theorem zk_1313 : (Jvm.Cond.selects "ChairOnTheRoadModel" ({ cls := "ChairOnTheRoadModel", name := "jam", desc := "(I)I" } : Jvm.MethodName) ({ cls := "ChairOnTheRoadModel", name := "jam", desc := "(I)I" } : Jvm.MethodName)) ∈ zg_tbl := zg_at 1366 (by decide +kernel) (by decide +kernel)
theorem zk_1314 : (Jvm.Cond.code ({ cls := "ChairOnTheRoadModel", name := "jam", desc := "(I)I" } : Jvm.MethodName) prog_13_method_64_code (5 : Nat) (Option.some Jvm.ClassFile.FieldType.int)) ∈ zg_tbl := zg_at 1367 (by decide +kernel) (by decide +kernel)
theorem zp_X11_jam : zc_okM zM_X11_jam 1 := ⟨zk_1314, zw_12, by decide +kernel, by decide +kernel, by decide +kernel⟩
theorem zk_645 : (Jvm.Cond.methodLink "ChairOnTheRoadLaw" (120 : Nat) ({ cls := "ChairOnTheRoad", name := "chain", desc := "(I)I" } : Jvm.MethodName)) ∈ zg_tbl := zg_at 698 (by decide +kernel) (by decide +kernel)
theorem zk_646 : (Jvm.Cond.instanceMethod ({ cls := "ChairOnTheRoad", name := "chain", desc := "(I)I" } : Jvm.MethodName)) ∈ zg_tbl := zg_at 699 (by decide +kernel) (by decide +kernel)
theorem zk_647 : (Jvm.Cond.selects "ChairOnTheRoad" ({ cls := "ChairOnTheRoad", name := "chain", desc := "(I)I" } : Jvm.MethodName) ({ cls := "ChairOnTheRoad", name := "chain", desc := "(I)I" } : Jvm.MethodName)) ∈ zg_tbl := zg_at 700 (by decide +kernel) (by decide +kernel)
theorem zk_648 : (Jvm.Cond.code ({ cls := "ChairOnTheRoad", name := "chain", desc := "(I)I" } : Jvm.MethodName) prog_1_method_26_code (2 : Nat) (Option.some Jvm.ClassFile.FieldType.int)) ∈ zg_tbl := zg_at 701 (by decide +kernel) (by decide +kernel)
theorem zp_X10_chain : zc_okM zM_X10_chain 1 := ⟨zk_648, zw_1, by decide +kernel, by decide +kernel, by decide +kernel⟩
theorem zk_1323 : (Jvm.Cond.methodLink "ChairOnTheRoadLaw" (123 : Nat) ({ cls := "ChairOnTheRoadModel", name := "chain", desc := "(I)I" } : Jvm.MethodName)) ∈ zg_tbl := zg_at 1376 (by decide +kernel) (by decide +kernel)
theorem zk_1324 : (Jvm.Cond.instanceMethod ({ cls := "ChairOnTheRoadModel", name := "chain", desc := "(I)I" } : Jvm.MethodName)) ∈ zg_tbl := zg_at 1377 (by decide +kernel) (by decide +kernel)
theorem zk_1325 : (Jvm.Cond.selects "ChairOnTheRoadModel" ({ cls := "ChairOnTheRoadModel", name := "chain", desc := "(I)I" } : Jvm.MethodName) ({ cls := "ChairOnTheRoadModel", name := "chain", desc := "(I)I" } : Jvm.MethodName)) ∈ zg_tbl := zg_at 1378 (by decide +kernel) (by decide +kernel)
theorem zk_1326 : (Jvm.Cond.code ({ cls := "ChairOnTheRoadModel", name := "chain", desc := "(I)I" } : Jvm.MethodName) prog_13_method_65_code (2 : Nat) (Option.some Jvm.ClassFile.FieldType.int)) ∈ zg_tbl := zg_at 1379 (by decide +kernel) (by decide +kernel)
theorem zp_X11_chain : zc_okM zM_X11_chain 1 := ⟨zk_1326, zw_12, by decide +kernel, by decide +kernel, by decide +kernel⟩
theorem zk_649 : (Jvm.Cond.methodLink "ChairOnTheRoadLaw" (124 : Nat) ({ cls := "ChairOnTheRoad", name := "whereSat", desc := "(II)I" } : Jvm.MethodName)) ∈ zg_tbl := zg_at 702 (by decide +kernel) (by decide +kernel)
theorem zk_650 : (Jvm.Cond.instanceMethod ({ cls := "ChairOnTheRoad", name := "whereSat", desc := "(II)I" } : Jvm.MethodName)) ∈ zg_tbl := zg_at 703 (by decide +kernel) (by decide +kernel)
theorem zk_651 : (Jvm.Cond.selects "ChairOnTheRoad" ({ cls := "ChairOnTheRoad", name := "whereSat", desc := "(II)I" } : Jvm.MethodName) ({ cls := "ChairOnTheRoad", name := "whereSat", desc := "(II)I" } : Jvm.MethodName)) ∈ zg_tbl := zg_at 704 (by decide +kernel) (by decide +kernel)
theorem zk_652 : (Jvm.Cond.code ({ cls := "ChairOnTheRoad", name := "whereSat", desc := "(II)I" } : Jvm.MethodName) prog_1_method_27_code (10 : Nat) (Option.some Jvm.ClassFile.FieldType.int)) ∈ zg_tbl := zg_at 705 (by decide +kernel) (by decide +kernel)
theorem zp_X10_whereSat : zc_okM zM_X10_whereSat 2 := ⟨zk_652, zw_1, by decide +kernel, by decide +kernel, by decide +kernel⟩
theorem zk_1327 : (Jvm.Cond.methodLink "ChairOnTheRoadLaw" (127 : Nat) ({ cls := "ChairOnTheRoadModel", name := "whereSat", desc := "(II)I" } : Jvm.MethodName)) ∈ zg_tbl := zg_at 1380 (by decide +kernel) (by decide +kernel)
theorem zk_1328 : (Jvm.Cond.instanceMethod ({ cls := "ChairOnTheRoadModel", name := "whereSat", desc := "(II)I" } : Jvm.MethodName)) ∈ zg_tbl := zg_at 1381 (by decide +kernel) (by decide +kernel)
theorem zk_1329 : (Jvm.Cond.selects "ChairOnTheRoadModel" ({ cls := "ChairOnTheRoadModel", name := "whereSat", desc := "(II)I" } : Jvm.MethodName) ({ cls := "ChairOnTheRoadModel", name := "whereSat", desc := "(II)I" } : Jvm.MethodName)) ∈ zg_tbl := zg_at 1382 (by decide +kernel) (by decide +kernel)
theorem zk_1330 : (Jvm.Cond.code ({ cls := "ChairOnTheRoadModel", name := "whereSat", desc := "(II)I" } : Jvm.MethodName) prog_13_method_69_code (9 : Nat) (Option.some Jvm.ClassFile.FieldType.int)) ∈ zg_tbl := zg_at 1383 (by decide +kernel) (by decide +kernel)
theorem zp_X11_whereSat : zc_okM zM_X11_whereSat 2 := ⟨zk_1330, zw_12, by decide +kernel, by decide +kernel, by decide +kernel⟩
theorem zk_662 : (Jvm.Cond.methodLink "ChairOnTheRoadLaw" (128 : Nat) ({ cls := "ChairOnTheRoad", name := "whatIs", desc := "(III)I" } : Jvm.MethodName)) ∈ zg_tbl := zg_at 715 (by decide +kernel) (by decide +kernel)
theorem zk_663 : (Jvm.Cond.instanceMethod ({ cls := "ChairOnTheRoad", name := "whatIs", desc := "(III)I" } : Jvm.MethodName)) ∈ zg_tbl := zg_at 716 (by decide +kernel) (by decide +kernel)
theorem zk_664 : (Jvm.Cond.selects "ChairOnTheRoad" ({ cls := "ChairOnTheRoad", name := "whatIs", desc := "(III)I" } : Jvm.MethodName) ({ cls := "ChairOnTheRoad", name := "whatIs", desc := "(III)I" } : Jvm.MethodName)) ∈ zg_tbl := zg_at 717 (by decide +kernel) (by decide +kernel)
theorem zk_665 : (Jvm.Cond.code ({ cls := "ChairOnTheRoad", name := "whatIs", desc := "(III)I" } : Jvm.MethodName) prog_1_method_28_code (7 : Nat) (Option.some Jvm.ClassFile.FieldType.int)) ∈ zg_tbl := zg_at 718 (by decide +kernel) (by decide +kernel)
theorem zp_X10_whatIs : zc_okM zM_X10_whatIs 3 := ⟨zk_665, zw_1, by decide +kernel, by decide +kernel, by decide +kernel⟩
theorem zk_1346 : (Jvm.Cond.methodLink "ChairOnTheRoadLaw" (132 : Nat) ({ cls := "ChairOnTheRoadModel", name := "whatIs", desc := "(III)I" } : Jvm.MethodName)) ∈ zg_tbl := zg_at 1399 (by decide +kernel) (by decide +kernel)
theorem zk_1347 : (Jvm.Cond.instanceMethod ({ cls := "ChairOnTheRoadModel", name := "whatIs", desc := "(III)I" } : Jvm.MethodName)) ∈ zg_tbl := zg_at 1400 (by decide +kernel) (by decide +kernel)
theorem zk_1348 : (Jvm.Cond.selects "ChairOnTheRoadModel" ({ cls := "ChairOnTheRoadModel", name := "whatIs", desc := "(III)I" } : Jvm.MethodName) ({ cls := "ChairOnTheRoadModel", name := "whatIs", desc := "(III)I" } : Jvm.MethodName)) ∈ zg_tbl := zg_at 1401 (by decide +kernel) (by decide +kernel)
theorem zk_1349 : (Jvm.Cond.code ({ cls := "ChairOnTheRoadModel", name := "whatIs", desc := "(III)I" } : Jvm.MethodName) prog_13_method_70_code (7 : Nat) (Option.some Jvm.ClassFile.FieldType.int)) ∈ zg_tbl := zg_at 1402 (by decide +kernel) (by decide +kernel)
theorem zp_X11_whatIs : zc_okM zM_X11_whatIs 3 := ⟨zk_1349, zw_12, by decide +kernel, by decide +kernel, by decide +kernel⟩
theorem zk_671 : (Jvm.Cond.methodLink "ChairOnTheRoadLaw" (133 : Nat) ({ cls := "ChairOnTheRoad", name := "two", desc := "(III)I" } : Jvm.MethodName)) ∈ zg_tbl := zg_at 724 (by decide +kernel) (by decide +kernel)
theorem zk_672 : (Jvm.Cond.instanceMethod ({ cls := "ChairOnTheRoad", name := "two", desc := "(III)I" } : Jvm.MethodName)) ∈ zg_tbl := zg_at 725 (by decide +kernel) (by decide +kernel)
theorem zk_673 : (Jvm.Cond.selects "ChairOnTheRoad" ({ cls := "ChairOnTheRoad", name := "two", desc := "(III)I" } : Jvm.MethodName) ({ cls := "ChairOnTheRoad", name := "two", desc := "(III)I" } : Jvm.MethodName)) ∈ zg_tbl := zg_at 726 (by decide +kernel) (by decide +kernel)
theorem zk_674 : (Jvm.Cond.code ({ cls := "ChairOnTheRoad", name := "two", desc := "(III)I" } : Jvm.MethodName) prog_1_method_29_code (5 : Nat) (Option.some Jvm.ClassFile.FieldType.int)) ∈ zg_tbl := zg_at 727 (by decide +kernel) (by decide +kernel)
theorem zp_X10_two : zc_okM zM_X10_two 3 := ⟨zk_674, zw_1, by decide +kernel, by decide +kernel, by decide +kernel⟩
theorem zk_1350 : (Jvm.Cond.methodLink "ChairOnTheRoadLaw" (136 : Nat) ({ cls := "ChairOnTheRoadModel", name := "two", desc := "(III)I" } : Jvm.MethodName)) ∈ zg_tbl := zg_at 1403 (by decide +kernel) (by decide +kernel)
theorem zk_1351 : (Jvm.Cond.instanceMethod ({ cls := "ChairOnTheRoadModel", name := "two", desc := "(III)I" } : Jvm.MethodName)) ∈ zg_tbl := zg_at 1404 (by decide +kernel) (by decide +kernel)
theorem zk_1352 : (Jvm.Cond.selects "ChairOnTheRoadModel" ({ cls := "ChairOnTheRoadModel", name := "two", desc := "(III)I" } : Jvm.MethodName) ({ cls := "ChairOnTheRoadModel", name := "two", desc := "(III)I" } : Jvm.MethodName)) ∈ zg_tbl := zg_at 1405 (by decide +kernel) (by decide +kernel)
theorem zk_1353 : (Jvm.Cond.code ({ cls := "ChairOnTheRoadModel", name := "two", desc := "(III)I" } : Jvm.MethodName) prog_13_method_71_code (7 : Nat) (Option.some Jvm.ClassFile.FieldType.int)) ∈ zg_tbl := zg_at 1406 (by decide +kernel) (by decide +kernel)
theorem zp_X11_two : zc_okM zM_X11_two 3 := ⟨zk_1353, zw_12, by decide +kernel, by decide +kernel, by decide +kernel⟩
theorem zk_679 : (Jvm.Cond.methodLink "ChairOnTheRoadLaw" (137 : Nat) ({ cls := "ChairOnTheRoad", name := "rain", desc := "(IIII)J" } : Jvm.MethodName)) ∈ zg_tbl := zg_at 732 (by decide +kernel) (by decide +kernel)
theorem zk_680 : (Jvm.Cond.instanceMethod ({ cls := "ChairOnTheRoad", name := "rain", desc := "(IIII)J" } : Jvm.MethodName)) ∈ zg_tbl := zg_at 733 (by decide +kernel) (by decide +kernel)
theorem zk_681 : (Jvm.Cond.selects "ChairOnTheRoad" ({ cls := "ChairOnTheRoad", name := "rain", desc := "(IIII)J" } : Jvm.MethodName) ({ cls := "ChairOnTheRoad", name := "rain", desc := "(IIII)J" } : Jvm.MethodName)) ∈ zg_tbl := zg_at 734 (by decide +kernel) (by decide +kernel)
theorem zk_682 : (Jvm.Cond.code ({ cls := "ChairOnTheRoad", name := "rain", desc := "(IIII)J" } : Jvm.MethodName) prog_1_method_30_code (10 : Nat) (Option.some Jvm.ClassFile.FieldType.long)) ∈ zg_tbl := zg_at 735 (by decide +kernel) (by decide +kernel)
theorem zp_X10_rain : zc_okM zM_X10_rain 4 := ⟨zk_682, zw_1, by decide +kernel, by decide +kernel, by decide +kernel⟩
theorem zk_1355 : (Jvm.Cond.methodLink "ChairOnTheRoadLaw" (141 : Nat) ({ cls := "ChairOnTheRoadModel", name := "rain", desc := "(IIII)J" } : Jvm.MethodName)) ∈ zg_tbl := zg_at 1408 (by decide +kernel) (by decide +kernel)
theorem zk_1356 : (Jvm.Cond.instanceMethod ({ cls := "ChairOnTheRoadModel", name := "rain", desc := "(IIII)J" } : Jvm.MethodName)) ∈ zg_tbl := zg_at 1409 (by decide +kernel) (by decide +kernel)
theorem zk_1357 : (Jvm.Cond.selects "ChairOnTheRoadModel" ({ cls := "ChairOnTheRoadModel", name := "rain", desc := "(IIII)J" } : Jvm.MethodName) ({ cls := "ChairOnTheRoadModel", name := "rain", desc := "(IIII)J" } : Jvm.MethodName)) ∈ zg_tbl := zg_at 1410 (by decide +kernel) (by decide +kernel)
theorem zk_1358 : (Jvm.Cond.code ({ cls := "ChairOnTheRoadModel", name := "rain", desc := "(IIII)J" } : Jvm.MethodName) prog_13_method_74_code (13 : Nat) (Option.some Jvm.ClassFile.FieldType.long)) ∈ zg_tbl := zg_at 1411 (by decide +kernel) (by decide +kernel)
theorem zp_X11_rain : zc_okM zM_X11_rain 4 := ⟨zk_1358, zw_12, by decide +kernel, by decide +kernel, by decide +kernel⟩
theorem zk_705 : (Jvm.Cond.methodLink "ChairOnTheRoadLaw" (142 : Nat) ({ cls := "ChairOnTheRoad", name := "mean", desc := "(I)J" } : Jvm.MethodName)) ∈ zg_tbl := zg_at 758 (by decide +kernel) (by decide +kernel)
theorem zk_706 : (Jvm.Cond.instanceMethod ({ cls := "ChairOnTheRoad", name := "mean", desc := "(I)J" } : Jvm.MethodName)) ∈ zg_tbl := zg_at 759 (by decide +kernel) (by decide +kernel)
theorem zk_707 : (Jvm.Cond.selects "ChairOnTheRoad" ({ cls := "ChairOnTheRoad", name := "mean", desc := "(I)J" } : Jvm.MethodName) ({ cls := "ChairOnTheRoad", name := "mean", desc := "(I)J" } : Jvm.MethodName)) ∈ zg_tbl := zg_at 760 (by decide +kernel) (by decide +kernel)
theorem zk_708 : (Jvm.Cond.code ({ cls := "ChairOnTheRoad", name := "mean", desc := "(I)J" } : Jvm.MethodName) prog_1_method_31_code (2 : Nat) (Option.some Jvm.ClassFile.FieldType.long)) ∈ zg_tbl := zg_at 761 (by decide +kernel) (by decide +kernel)
theorem zp_X10_mean : zc_okM zM_X10_mean 1 := ⟨zk_708, zw_1, by decide +kernel, by decide +kernel, by decide +kernel⟩
theorem zk_1367 : (Jvm.Cond.methodLink "ChairOnTheRoadLaw" (146 : Nat) ({ cls := "ChairOnTheRoadModel", name := "mean", desc := "(I)J" } : Jvm.MethodName)) ∈ zg_tbl := zg_at 1420 (by decide +kernel) (by decide +kernel)
theorem zk_1368 : (Jvm.Cond.instanceMethod ({ cls := "ChairOnTheRoadModel", name := "mean", desc := "(I)J" } : Jvm.MethodName)) ∈ zg_tbl := zg_at 1421 (by decide +kernel) (by decide +kernel)
theorem zk_1369 : (Jvm.Cond.selects "ChairOnTheRoadModel" ({ cls := "ChairOnTheRoadModel", name := "mean", desc := "(I)J" } : Jvm.MethodName) ({ cls := "ChairOnTheRoadModel", name := "mean", desc := "(I)J" } : Jvm.MethodName)) ∈ zg_tbl := zg_at 1422 (by decide +kernel) (by decide +kernel)
theorem zk_1370 : (Jvm.Cond.code ({ cls := "ChairOnTheRoadModel", name := "mean", desc := "(I)J" } : Jvm.MethodName) prog_13_method_75_code (2 : Nat) (Option.some Jvm.ClassFile.FieldType.long)) ∈ zg_tbl := zg_at 1423 (by decide +kernel) (by decide +kernel)
theorem zp_X11_mean : zc_okM zM_X11_mean 1 := ⟨zk_1370, zw_12, by decide +kernel, by decide +kernel, by decide +kernel⟩
theorem zk_709 : (Jvm.Cond.methodLink "ChairOnTheRoadLaw" (147 : Nat) ({ cls := "ChairOnTheRoad", name := "forged", desc := "(I)I" } : Jvm.MethodName)) ∈ zg_tbl := zg_at 762 (by decide +kernel) (by decide +kernel)
theorem zk_710 : (Jvm.Cond.instanceMethod ({ cls := "ChairOnTheRoad", name := "forged", desc := "(I)I" } : Jvm.MethodName)) ∈ zg_tbl := zg_at 763 (by decide +kernel) (by decide +kernel)
theorem zk_711 : (Jvm.Cond.selects "ChairOnTheRoad" ({ cls := "ChairOnTheRoad", name := "forged", desc := "(I)I" } : Jvm.MethodName) ({ cls := "ChairOnTheRoad", name := "forged", desc := "(I)I" } : Jvm.MethodName)) ∈ zg_tbl := zg_at 764 (by decide +kernel) (by decide +kernel)
theorem zk_712 : (Jvm.Cond.code ({ cls := "ChairOnTheRoad", name := "forged", desc := "(I)I" } : Jvm.MethodName) prog_1_method_32_code (5 : Nat) (Option.some Jvm.ClassFile.FieldType.int)) ∈ zg_tbl := zg_at 765 (by decide +kernel) (by decide +kernel)
theorem zp_X10_forged : zc_okM zM_X10_forged 1 := ⟨zk_712, zw_1, by decide +kernel, by decide +kernel, by decide +kernel⟩
theorem zk_1371 : (Jvm.Cond.methodLink "ChairOnTheRoadLaw" (150 : Nat) ({ cls := "ChairOnTheRoadModel", name := "forged", desc := "(I)I" } : Jvm.MethodName)) ∈ zg_tbl := zg_at 1424 (by decide +kernel) (by decide +kernel)
theorem zk_1372 : (Jvm.Cond.instanceMethod ({ cls := "ChairOnTheRoadModel", name := "forged", desc := "(I)I" } : Jvm.MethodName)) ∈ zg_tbl := zg_at 1425 (by decide +kernel) (by decide +kernel)
theorem zk_1373 : (Jvm.Cond.selects "ChairOnTheRoadModel" ({ cls := "ChairOnTheRoadModel", name := "forged", desc := "(I)I" } : Jvm.MethodName) ({ cls := "ChairOnTheRoadModel", name := "forged", desc := "(I)I" } : Jvm.MethodName)) ∈ zg_tbl := zg_at 1426 (by decide +kernel) (by decide +kernel)
theorem zk_1374 : (Jvm.Cond.code ({ cls := "ChairOnTheRoadModel", name := "forged", desc := "(I)I" } : Jvm.MethodName) prog_13_method_76_code (4 : Nat) (Option.some Jvm.ClassFile.FieldType.int)) ∈ zg_tbl := zg_at 1427 (by decide +kernel) (by decide +kernel)
theorem zp_X11_forged : zc_okM zM_X11_forged 1 := ⟨zk_1374, zw_12, by decide +kernel, by decide +kernel, by decide +kernel⟩
theorem zk_713 : (Jvm.Cond.methodLink "ChairOnTheRoadLaw" (151 : Nat) ({ cls := "ChairOnTheRoad", name := "judge", desc := "(I)I" } : Jvm.MethodName)) ∈ zg_tbl := zg_at 766 (by decide +kernel) (by decide +kernel)
theorem zk_714 : (Jvm.Cond.instanceMethod ({ cls := "ChairOnTheRoad", name := "judge", desc := "(I)I" } : Jvm.MethodName)) ∈ zg_tbl := zg_at 767 (by decide +kernel) (by decide +kernel)
theorem zk_715 : (Jvm.Cond.selects "ChairOnTheRoad" ({ cls := "ChairOnTheRoad", name := "judge", desc := "(I)I" } : Jvm.MethodName) ({ cls := "ChairOnTheRoad", name := "judge", desc := "(I)I" } : Jvm.MethodName)) ∈ zg_tbl := zg_at 768 (by decide +kernel) (by decide +kernel)
theorem zk_716 : (Jvm.Cond.code ({ cls := "ChairOnTheRoad", name := "judge", desc := "(I)I" } : Jvm.MethodName) prog_1_method_33_code (3 : Nat) (Option.some Jvm.ClassFile.FieldType.int)) ∈ zg_tbl := zg_at 769 (by decide +kernel) (by decide +kernel)
theorem zp_X10_judge : zc_okM zM_X10_judge 1 := ⟨zk_716, zw_1, by decide +kernel, by decide +kernel, by decide +kernel⟩
theorem zk_1375 : (Jvm.Cond.methodLink "ChairOnTheRoadLaw" (154 : Nat) ({ cls := "ChairOnTheRoadModel", name := "judge", desc := "(I)I" } : Jvm.MethodName)) ∈ zg_tbl := zg_at 1428 (by decide +kernel) (by decide +kernel)
theorem zk_1376 : (Jvm.Cond.instanceMethod ({ cls := "ChairOnTheRoadModel", name := "judge", desc := "(I)I" } : Jvm.MethodName)) ∈ zg_tbl := zg_at 1429 (by decide +kernel) (by decide +kernel)
theorem zk_1377 : (Jvm.Cond.selects "ChairOnTheRoadModel" ({ cls := "ChairOnTheRoadModel", name := "judge", desc := "(I)I" } : Jvm.MethodName) ({ cls := "ChairOnTheRoadModel", name := "judge", desc := "(I)I" } : Jvm.MethodName)) ∈ zg_tbl := zg_at 1430 (by decide +kernel) (by decide +kernel)
theorem zk_1378 : (Jvm.Cond.code ({ cls := "ChairOnTheRoadModel", name := "judge", desc := "(I)I" } : Jvm.MethodName) prog_13_method_77_code (5 : Nat) (Option.some Jvm.ClassFile.FieldType.int)) ∈ zg_tbl := zg_at 1431 (by decide +kernel) (by decide +kernel)
theorem zp_X11_judge : zc_okM zM_X11_judge 1 := ⟨zk_1378, zw_12, by decide +kernel, by decide +kernel, by decide +kernel⟩
theorem zk_717 : (Jvm.Cond.methodLink "ChairOnTheRoadLaw" (155 : Nat) ({ cls := "ChairOnTheRoad", name := "years", desc := "(III)I" } : Jvm.MethodName)) ∈ zg_tbl := zg_at 770 (by decide +kernel) (by decide +kernel)
theorem zk_718 : (Jvm.Cond.instanceMethod ({ cls := "ChairOnTheRoad", name := "years", desc := "(III)I" } : Jvm.MethodName)) ∈ zg_tbl := zg_at 771 (by decide +kernel) (by decide +kernel)
theorem zk_719 : (Jvm.Cond.selects "ChairOnTheRoad" ({ cls := "ChairOnTheRoad", name := "years", desc := "(III)I" } : Jvm.MethodName) ({ cls := "ChairOnTheRoad", name := "years", desc := "(III)I" } : Jvm.MethodName)) ∈ zg_tbl := zg_at 772 (by decide +kernel) (by decide +kernel)
theorem zk_720 : (Jvm.Cond.code ({ cls := "ChairOnTheRoad", name := "years", desc := "(III)I" } : Jvm.MethodName) prog_1_method_34_code (9 : Nat) (Option.some Jvm.ClassFile.FieldType.int)) ∈ zg_tbl := zg_at 773 (by decide +kernel) (by decide +kernel)
theorem zp_X10_years : zc_okM zM_X10_years 3 := ⟨zk_720, zw_1, by decide +kernel, by decide +kernel, by decide +kernel⟩
theorem zk_1379 : (Jvm.Cond.methodLink "ChairOnTheRoadLaw" (158 : Nat) ({ cls := "ChairOnTheRoadModel", name := "years", desc := "(III)I" } : Jvm.MethodName)) ∈ zg_tbl := zg_at 1432 (by decide +kernel) (by decide +kernel)
theorem zk_1380 : (Jvm.Cond.instanceMethod ({ cls := "ChairOnTheRoadModel", name := "years", desc := "(III)I" } : Jvm.MethodName)) ∈ zg_tbl := zg_at 1433 (by decide +kernel) (by decide +kernel)
theorem zk_1381 : (Jvm.Cond.selects "ChairOnTheRoadModel" ({ cls := "ChairOnTheRoadModel", name := "years", desc := "(III)I" } : Jvm.MethodName) ({ cls := "ChairOnTheRoadModel", name := "years", desc := "(III)I" } : Jvm.MethodName)) ∈ zg_tbl := zg_at 1434 (by decide +kernel) (by decide +kernel)
theorem zk_1382 : (Jvm.Cond.code ({ cls := "ChairOnTheRoadModel", name := "years", desc := "(III)I" } : Jvm.MethodName) prog_13_method_79_code (8 : Nat) (Option.some Jvm.ClassFile.FieldType.int)) ∈ zg_tbl := zg_at 1435 (by decide +kernel) (by decide +kernel)
theorem zp_X11_years : zc_okM zM_X11_years 3 := ⟨zk_1382, zw_12, by decide +kernel, by decide +kernel, by decide +kernel⟩
theorem zk_724 : (Jvm.Cond.methodLink "ChairOnTheRoadLaw" (159 : Nat) ({ cls := "ChairOnTheRoad", name := "image", desc := "()I" } : Jvm.MethodName)) ∈ zg_tbl := zg_at 777 (by decide +kernel) (by decide +kernel)
theorem zk_725 : (Jvm.Cond.instanceMethod ({ cls := "ChairOnTheRoad", name := "image", desc := "()I" } : Jvm.MethodName)) ∈ zg_tbl := zg_at 778 (by decide +kernel) (by decide +kernel)
theorem zk_726 : (Jvm.Cond.selects "ChairOnTheRoad" ({ cls := "ChairOnTheRoad", name := "image", desc := "()I" } : Jvm.MethodName) ({ cls := "ChairOnTheRoad", name := "image", desc := "()I" } : Jvm.MethodName)) ∈ zg_tbl := zg_at 779 (by decide +kernel) (by decide +kernel)
theorem zk_727 : (Jvm.Cond.code ({ cls := "ChairOnTheRoad", name := "image", desc := "()I" } : Jvm.MethodName) prog_1_method_35_code (1 : Nat) (Option.some Jvm.ClassFile.FieldType.int)) ∈ zg_tbl := zg_at 780 (by decide +kernel) (by decide +kernel)
theorem zp_X10_image : zc_okM zM_X10_image 0 := ⟨zk_727, zw_1, by decide +kernel, by decide +kernel, by decide +kernel⟩
theorem zk_1174 : (Jvm.Cond.methodLink "ChairOnTheRoadLaw" (162 : Nat) ({ cls := "ChairOnTheRoadModel", name := "image", desc := "()I" } : Jvm.MethodName)) ∈ zg_tbl := zg_at 1227 (by decide +kernel) (by decide +kernel)
theorem zk_1175 : (Jvm.Cond.instanceMethod ({ cls := "ChairOnTheRoadModel", name := "image", desc := "()I" } : Jvm.MethodName)) ∈ zg_tbl := zg_at 1228 (by decide +kernel) (by decide +kernel)
theorem zk_1176 : (Jvm.Cond.selects "ChairOnTheRoadModel" ({ cls := "ChairOnTheRoadModel", name := "image", desc := "()I" } : Jvm.MethodName) ({ cls := "ChairOnTheRoadModel", name := "image", desc := "()I" } : Jvm.MethodName)) ∈ zg_tbl := zg_at 1229 (by decide +kernel) (by decide +kernel)
theorem zk_1177 : (Jvm.Cond.code ({ cls := "ChairOnTheRoadModel", name := "image", desc := "()I" } : Jvm.MethodName) prog_13_method_33_code (1 : Nat) (Option.some Jvm.ClassFile.FieldType.int)) ∈ zg_tbl := zg_at 1230 (by decide +kernel) (by decide +kernel)
theorem zp_X11_image : zc_okM zM_X11_image 0 := ⟨zk_1177, zw_12, by decide +kernel, by decide +kernel, by decide +kernel⟩
theorem zk_728 : (Jvm.Cond.methodLink "ChairOnTheRoadLaw" (163 : Nat) ({ cls := "ChairOnTheRoad", name := "restore", desc := "()I" } : Jvm.MethodName)) ∈ zg_tbl := zg_at 781 (by decide +kernel) (by decide +kernel)
theorem zk_729 : (Jvm.Cond.instanceMethod ({ cls := "ChairOnTheRoad", name := "restore", desc := "()I" } : Jvm.MethodName)) ∈ zg_tbl := zg_at 782 (by decide +kernel) (by decide +kernel)
theorem zk_730 : (Jvm.Cond.selects "ChairOnTheRoad" ({ cls := "ChairOnTheRoad", name := "restore", desc := "()I" } : Jvm.MethodName) ({ cls := "ChairOnTheRoad", name := "restore", desc := "()I" } : Jvm.MethodName)) ∈ zg_tbl := zg_at 783 (by decide +kernel) (by decide +kernel)
theorem zk_731 : (Jvm.Cond.code ({ cls := "ChairOnTheRoad", name := "restore", desc := "()I" } : Jvm.MethodName) prog_1_method_36_code (1 : Nat) (Option.some Jvm.ClassFile.FieldType.int)) ∈ zg_tbl := zg_at 784 (by decide +kernel) (by decide +kernel)
theorem zp_X10_restore : zc_okM zM_X10_restore 0 := ⟨zk_731, zw_1, by decide +kernel, by decide +kernel, by decide +kernel⟩
theorem zk_1178 : (Jvm.Cond.methodLink "ChairOnTheRoadLaw" (166 : Nat) ({ cls := "ChairOnTheRoadModel", name := "restore", desc := "()I" } : Jvm.MethodName)) ∈ zg_tbl := zg_at 1231 (by decide +kernel) (by decide +kernel)
theorem zk_1179 : (Jvm.Cond.instanceMethod ({ cls := "ChairOnTheRoadModel", name := "restore", desc := "()I" } : Jvm.MethodName)) ∈ zg_tbl := zg_at 1232 (by decide +kernel) (by decide +kernel)
theorem zk_1180 : (Jvm.Cond.selects "ChairOnTheRoadModel" ({ cls := "ChairOnTheRoadModel", name := "restore", desc := "()I" } : Jvm.MethodName) ({ cls := "ChairOnTheRoadModel", name := "restore", desc := "()I" } : Jvm.MethodName)) ∈ zg_tbl := zg_at 1233 (by decide +kernel) (by decide +kernel)
theorem zk_1181 : (Jvm.Cond.code ({ cls := "ChairOnTheRoadModel", name := "restore", desc := "()I" } : Jvm.MethodName) prog_13_method_34_code (1 : Nat) (Option.some Jvm.ClassFile.FieldType.int)) ∈ zg_tbl := zg_at 1234 (by decide +kernel) (by decide +kernel)
theorem zp_X11_restore : zc_okM zM_X11_restore 0 := ⟨zk_1181, zw_12, by decide +kernel, by decide +kernel, by decide +kernel⟩
theorem zk_732 : (Jvm.Cond.methodLink "ChairOnTheRoadLaw" (167 : Nat) ({ cls := "ChairOnTheRoad", name := "count", desc := "(I)I" } : Jvm.MethodName)) ∈ zg_tbl := zg_at 785 (by decide +kernel) (by decide +kernel)
theorem zk_733 : (Jvm.Cond.instanceMethod ({ cls := "ChairOnTheRoad", name := "count", desc := "(I)I" } : Jvm.MethodName)) ∈ zg_tbl := zg_at 786 (by decide +kernel) (by decide +kernel)
theorem zk_734 : (Jvm.Cond.selects "ChairOnTheRoad" ({ cls := "ChairOnTheRoad", name := "count", desc := "(I)I" } : Jvm.MethodName) ({ cls := "ChairOnTheRoad", name := "count", desc := "(I)I" } : Jvm.MethodName)) ∈ zg_tbl := zg_at 787 (by decide +kernel) (by decide +kernel)
theorem zk_735 : (Jvm.Cond.code ({ cls := "ChairOnTheRoad", name := "count", desc := "(I)I" } : Jvm.MethodName) prog_1_method_37_code (2 : Nat) (Option.some Jvm.ClassFile.FieldType.int)) ∈ zg_tbl := zg_at 788 (by decide +kernel) (by decide +kernel)
theorem zp_X10_count : zc_okM zM_X10_count 1 := ⟨zk_735, zw_1, by decide +kernel, by decide +kernel, by decide +kernel⟩
theorem zk_1390 : (Jvm.Cond.methodLink "ChairOnTheRoadLaw" (170 : Nat) ({ cls := "ChairOnTheRoadModel", name := "count", desc := "(I)I" } : Jvm.MethodName)) ∈ zg_tbl := zg_at 1443 (by decide +kernel) (by decide +kernel)
theorem zk_1391 : (Jvm.Cond.instanceMethod ({ cls := "ChairOnTheRoadModel", name := "count", desc := "(I)I" } : Jvm.MethodName)) ∈ zg_tbl := zg_at 1444 (by decide +kernel) (by decide +kernel)
theorem zk_1392 : (Jvm.Cond.selects "ChairOnTheRoadModel" ({ cls := "ChairOnTheRoadModel", name := "count", desc := "(I)I" } : Jvm.MethodName) ({ cls := "ChairOnTheRoadModel", name := "count", desc := "(I)I" } : Jvm.MethodName)) ∈ zg_tbl := zg_at 1445 (by decide +kernel) (by decide +kernel)
theorem zk_1393 : (Jvm.Cond.code ({ cls := "ChairOnTheRoadModel", name := "count", desc := "(I)I" } : Jvm.MethodName) prog_13_method_80_code (2 : Nat) (Option.some Jvm.ClassFile.FieldType.int)) ∈ zg_tbl := zg_at 1446 (by decide +kernel) (by decide +kernel)
theorem zp_X11_count : zc_okM zM_X11_count 1 := ⟨zk_1393, zw_12, by decide +kernel, by decide +kernel, by decide +kernel⟩
theorem zk_736 : (Jvm.Cond.methodLink "ChairOnTheRoadLaw" (171 : Nat) ({ cls := "ChairOnTheRoad", name := "keep", desc := "(IIII)I" } : Jvm.MethodName)) ∈ zg_tbl := zg_at 789 (by decide +kernel) (by decide +kernel)
theorem zk_737 : (Jvm.Cond.instanceMethod ({ cls := "ChairOnTheRoad", name := "keep", desc := "(IIII)I" } : Jvm.MethodName)) ∈ zg_tbl := zg_at 790 (by decide +kernel) (by decide +kernel)
theorem zk_738 : (Jvm.Cond.selects "ChairOnTheRoad" ({ cls := "ChairOnTheRoad", name := "keep", desc := "(IIII)I" } : Jvm.MethodName) ({ cls := "ChairOnTheRoad", name := "keep", desc := "(IIII)I" } : Jvm.MethodName)) ∈ zg_tbl := zg_at 791 (by decide +kernel) (by decide +kernel)
theorem zk_739 : (Jvm.Cond.code ({ cls := "ChairOnTheRoad", name := "keep", desc := "(IIII)I" } : Jvm.MethodName) prog_1_method_38_code (5 : Nat) (Option.some Jvm.ClassFile.FieldType.int)) ∈ zg_tbl := zg_at 792 (by decide +kernel) (by decide +kernel)
theorem zp_X10_keep : zc_okM zM_X10_keep 4 := ⟨zk_739, zw_1, by decide +kernel, by decide +kernel, by decide +kernel⟩
theorem zk_1394 : (Jvm.Cond.methodLink "ChairOnTheRoadLaw" (175 : Nat) ({ cls := "ChairOnTheRoadModel", name := "keep", desc := "(IIII)I" } : Jvm.MethodName)) ∈ zg_tbl := zg_at 1447 (by decide +kernel) (by decide +kernel)
theorem zk_1395 : (Jvm.Cond.instanceMethod ({ cls := "ChairOnTheRoadModel", name := "keep", desc := "(IIII)I" } : Jvm.MethodName)) ∈ zg_tbl := zg_at 1448 (by decide +kernel) (by decide +kernel)
theorem zk_1396 : (Jvm.Cond.selects "ChairOnTheRoadModel" ({ cls := "ChairOnTheRoadModel", name := "keep", desc := "(IIII)I" } : Jvm.MethodName) ({ cls := "ChairOnTheRoadModel", name := "keep", desc := "(IIII)I" } : Jvm.MethodName)) ∈ zg_tbl := zg_at 1449 (by decide +kernel) (by decide +kernel)
theorem zk_1397 : (Jvm.Cond.code ({ cls := "ChairOnTheRoadModel", name := "keep", desc := "(IIII)I" } : Jvm.MethodName) prog_13_method_82_code (5 : Nat) (Option.some Jvm.ClassFile.FieldType.int)) ∈ zg_tbl := zg_at 1450 (by decide +kernel) (by decide +kernel)
theorem zp_X11_keep : zc_okM zM_X11_keep 4 := ⟨zk_1397, zw_12, by decide +kernel, by decide +kernel, by decide +kernel⟩
theorem zk_746 : (Jvm.Cond.methodLink "ChairOnTheRoadLaw" (176 : Nat) ({ cls := "ChairOnTheRoad", name := "row", desc := "(III)I" } : Jvm.MethodName)) ∈ zg_tbl := zg_at 799 (by decide +kernel) (by decide +kernel)
theorem zk_747 : (Jvm.Cond.instanceMethod ({ cls := "ChairOnTheRoad", name := "row", desc := "(III)I" } : Jvm.MethodName)) ∈ zg_tbl := zg_at 800 (by decide +kernel) (by decide +kernel)
theorem zk_748 : (Jvm.Cond.selects "ChairOnTheRoad" ({ cls := "ChairOnTheRoad", name := "row", desc := "(III)I" } : Jvm.MethodName) ({ cls := "ChairOnTheRoad", name := "row", desc := "(III)I" } : Jvm.MethodName)) ∈ zg_tbl := zg_at 801 (by decide +kernel) (by decide +kernel)
theorem zk_749 : (Jvm.Cond.code ({ cls := "ChairOnTheRoad", name := "row", desc := "(III)I" } : Jvm.MethodName) prog_1_method_39_code (4 : Nat) (Option.some Jvm.ClassFile.FieldType.int)) ∈ zg_tbl := zg_at 802 (by decide +kernel) (by decide +kernel)
theorem zp_X10_row : zc_okM zM_X10_row 3 := ⟨zk_749, zw_1, by decide +kernel, by decide +kernel, by decide +kernel⟩
theorem zk_1399 : (Jvm.Cond.methodLink "ChairOnTheRoadLaw" (179 : Nat) ({ cls := "ChairOnTheRoadModel", name := "row", desc := "(III)I" } : Jvm.MethodName)) ∈ zg_tbl := zg_at 1452 (by decide +kernel) (by decide +kernel)
theorem zk_1400 : (Jvm.Cond.instanceMethod ({ cls := "ChairOnTheRoadModel", name := "row", desc := "(III)I" } : Jvm.MethodName)) ∈ zg_tbl := zg_at 1453 (by decide +kernel) (by decide +kernel)
theorem zk_1401 : (Jvm.Cond.selects "ChairOnTheRoadModel" ({ cls := "ChairOnTheRoadModel", name := "row", desc := "(III)I" } : Jvm.MethodName) ({ cls := "ChairOnTheRoadModel", name := "row", desc := "(III)I" } : Jvm.MethodName)) ∈ zg_tbl := zg_at 1454 (by decide +kernel) (by decide +kernel)
theorem zk_1402 : (Jvm.Cond.code ({ cls := "ChairOnTheRoadModel", name := "row", desc := "(III)I" } : Jvm.MethodName) prog_13_method_85_code (5 : Nat) (Option.some Jvm.ClassFile.FieldType.int)) ∈ zg_tbl := zg_at 1455 (by decide +kernel) (by decide +kernel)
theorem zp_X11_row : zc_okM zM_X11_row 3 := ⟨zk_1402, zw_12, by decide +kernel, by decide +kernel, by decide +kernel⟩
theorem zk_757 : (Jvm.Cond.methodLink "ChairOnTheRoadLaw" (180 : Nat) ({ cls := "ChairOnTheRoad", name := "put", desc := "(III)I" } : Jvm.MethodName)) ∈ zg_tbl := zg_at 810 (by decide +kernel) (by decide +kernel)
theorem zk_758 : (Jvm.Cond.instanceMethod ({ cls := "ChairOnTheRoad", name := "put", desc := "(III)I" } : Jvm.MethodName)) ∈ zg_tbl := zg_at 811 (by decide +kernel) (by decide +kernel)
theorem zk_759 : (Jvm.Cond.selects "ChairOnTheRoad" ({ cls := "ChairOnTheRoad", name := "put", desc := "(III)I" } : Jvm.MethodName) ({ cls := "ChairOnTheRoad", name := "put", desc := "(III)I" } : Jvm.MethodName)) ∈ zg_tbl := zg_at 812 (by decide +kernel) (by decide +kernel)
theorem zk_760 : (Jvm.Cond.code ({ cls := "ChairOnTheRoad", name := "put", desc := "(III)I" } : Jvm.MethodName) prog_1_method_40_code (5 : Nat) (Option.some Jvm.ClassFile.FieldType.int)) ∈ zg_tbl := zg_at 813 (by decide +kernel) (by decide +kernel)
theorem zp_X10_put : zc_okM zM_X10_put 3 := ⟨zk_760, zw_1, by decide +kernel, by decide +kernel, by decide +kernel⟩
theorem zk_1403 : (Jvm.Cond.methodLink "ChairOnTheRoadLaw" (183 : Nat) ({ cls := "ChairOnTheRoadModel", name := "put", desc := "(III)I" } : Jvm.MethodName)) ∈ zg_tbl := zg_at 1456 (by decide +kernel) (by decide +kernel)
theorem zk_1404 : (Jvm.Cond.instanceMethod ({ cls := "ChairOnTheRoadModel", name := "put", desc := "(III)I" } : Jvm.MethodName)) ∈ zg_tbl := zg_at 1457 (by decide +kernel) (by decide +kernel)
theorem zk_1405 : (Jvm.Cond.selects "ChairOnTheRoadModel" ({ cls := "ChairOnTheRoadModel", name := "put", desc := "(III)I" } : Jvm.MethodName) ({ cls := "ChairOnTheRoadModel", name := "put", desc := "(III)I" } : Jvm.MethodName)) ∈ zg_tbl := zg_at 1458 (by decide +kernel) (by decide +kernel)
theorem zk_1406 : (Jvm.Cond.code ({ cls := "ChairOnTheRoadModel", name := "put", desc := "(III)I" } : Jvm.MethodName) prog_13_method_86_code (5 : Nat) (Option.some Jvm.ClassFile.FieldType.int)) ∈ zg_tbl := zg_at 1459 (by decide +kernel) (by decide +kernel)
theorem zp_X11_put : zc_okM zM_X11_put 3 := ⟨zk_1406, zw_12, by decide +kernel, by decide +kernel, by decide +kernel⟩
theorem zk_769 : (Jvm.Cond.methodLink "ChairOnTheRoadLaw" (193 : Nat) ({ cls := "ChairOnTheRoad", name := "copy", desc := "(IIIII)I" } : Jvm.MethodName)) ∈ zg_tbl := zg_at 822 (by decide +kernel) (by decide +kernel)
theorem zk_770 : (Jvm.Cond.instanceMethod ({ cls := "ChairOnTheRoad", name := "copy", desc := "(IIIII)I" } : Jvm.MethodName)) ∈ zg_tbl := zg_at 823 (by decide +kernel) (by decide +kernel)
theorem zk_771 : (Jvm.Cond.selects "ChairOnTheRoad" ({ cls := "ChairOnTheRoad", name := "copy", desc := "(IIIII)I" } : Jvm.MethodName) ({ cls := "ChairOnTheRoad", name := "copy", desc := "(IIIII)I" } : Jvm.MethodName)) ∈ zg_tbl := zg_at 824 (by decide +kernel) (by decide +kernel)
theorem zk_772 : (Jvm.Cond.code ({ cls := "ChairOnTheRoad", name := "copy", desc := "(IIIII)I" } : Jvm.MethodName) prog_1_method_42_code (6 : Nat) (Option.some Jvm.ClassFile.FieldType.int)) ∈ zg_tbl := zg_at 825 (by decide +kernel) (by decide +kernel)
theorem zp_X10_copy : zc_okM zM_X10_copy 5 := ⟨zk_772, zw_1, by decide +kernel, by decide +kernel, by decide +kernel⟩
theorem zk_1414 : (Jvm.Cond.methodLink "ChairOnTheRoadLaw" (197 : Nat) ({ cls := "ChairOnTheRoadModel", name := "copy", desc := "(IIIII)I" } : Jvm.MethodName)) ∈ zg_tbl := zg_at 1467 (by decide +kernel) (by decide +kernel)
theorem zk_1415 : (Jvm.Cond.instanceMethod ({ cls := "ChairOnTheRoadModel", name := "copy", desc := "(IIIII)I" } : Jvm.MethodName)) ∈ zg_tbl := zg_at 1468 (by decide +kernel) (by decide +kernel)
theorem zk_1416 : (Jvm.Cond.selects "ChairOnTheRoadModel" ({ cls := "ChairOnTheRoadModel", name := "copy", desc := "(IIIII)I" } : Jvm.MethodName) ({ cls := "ChairOnTheRoadModel", name := "copy", desc := "(IIIII)I" } : Jvm.MethodName)) ∈ zg_tbl := zg_at 1469 (by decide +kernel) (by decide +kernel)
theorem zk_1417 : (Jvm.Cond.code ({ cls := "ChairOnTheRoadModel", name := "copy", desc := "(IIIII)I" } : Jvm.MethodName) prog_13_method_88_code (7 : Nat) (Option.some Jvm.ClassFile.FieldType.int)) ∈ zg_tbl := zg_at 1470 (by decide +kernel) (by decide +kernel)
theorem zp_X11_copy : zc_okM zM_X11_copy 5 := ⟨zk_1417, zw_12, by decide +kernel, by decide +kernel, by decide +kernel⟩
theorem zk_773 : (Jvm.Cond.methodLink "ChairOnTheRoadLaw" (198 : Nat) ({ cls := "ChairOnTheRoad", name := "cost", desc := "(I)I" } : Jvm.MethodName)) ∈ zg_tbl := zg_at 826 (by decide +kernel) (by decide +kernel)
theorem zk_774 : (Jvm.Cond.instanceMethod ({ cls := "ChairOnTheRoad", name := "cost", desc := "(I)I" } : Jvm.MethodName)) ∈ zg_tbl := zg_at 827 (by decide +kernel) (by decide +kernel)
theorem zk_775 : (Jvm.Cond.selects "ChairOnTheRoad" ({ cls := "ChairOnTheRoad", name := "cost", desc := "(I)I" } : Jvm.MethodName) ({ cls := "ChairOnTheRoad", name := "cost", desc := "(I)I" } : Jvm.MethodName)) ∈ zg_tbl := zg_at 828 (by decide +kernel) (by decide +kernel)
theorem zk_776 : (Jvm.Cond.code ({ cls := "ChairOnTheRoad", name := "cost", desc := "(I)I" } : Jvm.MethodName) prog_1_method_43_code (3 : Nat) (Option.some Jvm.ClassFile.FieldType.int)) ∈ zg_tbl := zg_at 829 (by decide +kernel) (by decide +kernel)
theorem zp_X10_cost : zc_okM zM_X10_cost 1 := ⟨zk_776, zw_1, by decide +kernel, by decide +kernel, by decide +kernel⟩
theorem zk_1418 : (Jvm.Cond.methodLink "ChairOnTheRoadLaw" (201 : Nat) ({ cls := "ChairOnTheRoadModel", name := "cost", desc := "(I)I" } : Jvm.MethodName)) ∈ zg_tbl := zg_at 1471 (by decide +kernel) (by decide +kernel)
theorem zk_1419 : (Jvm.Cond.instanceMethod ({ cls := "ChairOnTheRoadModel", name := "cost", desc := "(I)I" } : Jvm.MethodName)) ∈ zg_tbl := zg_at 1472 (by decide +kernel) (by decide +kernel)
theorem zk_1420 : (Jvm.Cond.selects "ChairOnTheRoadModel" ({ cls := "ChairOnTheRoadModel", name := "cost", desc := "(I)I" } : Jvm.MethodName) ({ cls := "ChairOnTheRoadModel", name := "cost", desc := "(I)I" } : Jvm.MethodName)) ∈ zg_tbl := zg_at 1473 (by decide +kernel) (by decide +kernel)
theorem zk_1421 : (Jvm.Cond.code ({ cls := "ChairOnTheRoadModel", name := "cost", desc := "(I)I" } : Jvm.MethodName) prog_13_method_90_code (2 : Nat) (Option.some Jvm.ClassFile.FieldType.int)) ∈ zg_tbl := zg_at 1474 (by decide +kernel) (by decide +kernel)
theorem zp_X11_cost : zc_okM zM_X11_cost 1 := ⟨zk_1421, zw_12, by decide +kernel, by decide +kernel, by decide +kernel⟩
theorem zk_1410 : (Jvm.Cond.methodLink "ChairOnTheRoadLaw" (189 : Nat) ({ cls := "ChairOnTheRoadModel", name := "element", desc := "(II)J" } : Jvm.MethodName)) ∈ zg_tbl := zg_at 1463 (by decide +kernel) (by decide +kernel)
theorem zk_1411 : (Jvm.Cond.instanceMethod ({ cls := "ChairOnTheRoadModel", name := "element", desc := "(II)J" } : Jvm.MethodName)) ∈ zg_tbl := zg_at 1464 (by decide +kernel) (by decide +kernel)
theorem zk_1412 : (Jvm.Cond.selects "ChairOnTheRoadModel" ({ cls := "ChairOnTheRoadModel", name := "element", desc := "(II)J" } : Jvm.MethodName) ({ cls := "ChairOnTheRoadModel", name := "element", desc := "(II)J" } : Jvm.MethodName)) ∈ zg_tbl := zg_at 1465 (by decide +kernel) (by decide +kernel)
theorem zk_1413 : (Jvm.Cond.code ({ cls := "ChairOnTheRoadModel", name := "element", desc := "(II)J" } : Jvm.MethodName) prog_13_method_87_code (4 : Nat) (Option.some Jvm.ClassFile.FieldType.long)) ∈ zg_tbl := zg_at 1466 (by decide +kernel) (by decide +kernel)
theorem zp_X11_element : zc_okM zM_X11_element 2 := ⟨zk_1413, zw_12, by decide +kernel, by decide +kernel, by decide +kernel⟩
theorem zk_1058 : (Jvm.Cond.methodLink "ChairOnTheRoadLaw" (190 : Nat) ({ cls := "ChairOnTheRoadModel", name := "thrown", desc := "()I" } : Jvm.MethodName)) ∈ zg_tbl := zg_at 1111 (by decide +kernel) (by decide +kernel)
theorem zk_1059 : (Jvm.Cond.instanceMethod ({ cls := "ChairOnTheRoadModel", name := "thrown", desc := "()I" } : Jvm.MethodName)) ∈ zg_tbl := zg_at 1112 (by decide +kernel) (by decide +kernel)
theorem zk_1060 : (Jvm.Cond.selects "ChairOnTheRoadModel" ({ cls := "ChairOnTheRoadModel", name := "thrown", desc := "()I" } : Jvm.MethodName) ({ cls := "ChairOnTheRoadModel", name := "thrown", desc := "()I" } : Jvm.MethodName)) ∈ zg_tbl := zg_at 1113 (by decide +kernel) (by decide +kernel)
theorem zk_1061 : (Jvm.Cond.code ({ cls := "ChairOnTheRoadModel", name := "thrown", desc := "()I" } : Jvm.MethodName) prog_13_method_2_code (1 : Nat) (Option.some Jvm.ClassFile.FieldType.int)) ∈ zg_tbl := zg_at 1114 (by decide +kernel) (by decide +kernel)
theorem zp_X11_thrown : zc_okM zM_X11_thrown 0 := ⟨zk_1061, zw_12, by decide +kernel, by decide +kernel, by decide +kernel⟩
theorem zk_1425 : (Jvm.Cond.methodLink "ChairOnTheRoadLaw" (205 : Nat) ({ cls := "ChairOnTheRoadModel", name := "toss", desc := "(I)I" } : Jvm.MethodName)) ∈ zg_tbl := zg_at 1478 (by decide +kernel) (by decide +kernel)
theorem zk_1426 : (Jvm.Cond.instanceMethod ({ cls := "ChairOnTheRoadModel", name := "toss", desc := "(I)I" } : Jvm.MethodName)) ∈ zg_tbl := zg_at 1479 (by decide +kernel) (by decide +kernel)
theorem zk_1427 : (Jvm.Cond.selects "ChairOnTheRoadModel" ({ cls := "ChairOnTheRoadModel", name := "toss", desc := "(I)I" } : Jvm.MethodName) ({ cls := "ChairOnTheRoadModel", name := "toss", desc := "(I)I" } : Jvm.MethodName)) ∈ zg_tbl := zg_at 1480 (by decide +kernel) (by decide +kernel)
theorem zk_1428 : (Jvm.Cond.code ({ cls := "ChairOnTheRoadModel", name := "toss", desc := "(I)I" } : Jvm.MethodName) prog_13_method_91_code (4 : Nat) (Option.some Jvm.ClassFile.FieldType.int)) ∈ zg_tbl := zg_at 1481 (by decide +kernel) (by decide +kernel)
theorem zp_X11_toss : zc_okM zM_X11_toss 1 := ⟨zk_1428, zw_12, by decide +kernel, by decide +kernel, by decide +kernel⟩
theorem zk_0 : (Jvm.Cond.initialized "ChairOnTheRoadLaw") ∈ zg_tbl := zg_at 53 (by decide +kernel) (by decide +kernel)
section ZLE
variable {p : Program} {l : Launch} {e : Env} {s : State} {m : MethodId} {args : Array Value} {below : List Frame} {meth : Method} {cd : Code} {H : Heap} {locs : List Loc} {kc ks : Nat} {Q : State → Prop}
variable {ls0 : Array Slot} {rest : List Value} {D : va_G} {c : zCS} {B : Nat} {h : zHp}
theorem zl_runEl {d i : Int32} {r : Int64 ⊕ String} (X : zw_X RL cL_law 8 p s m args cd) (P : zw_P D c B h s H locs) (hE : ze_ex B s) (hl : l.stackTraces = false) (hr : ze_el d i h = some r) (hk : kc + 1 ≤ 601024 ∧ ks + 6 ≤ 7293034) (hls : ls0.size = 8)
    (kk : ∀ (H1 : Heap) (locs1 : List Loc), zw_P D c B (ze_res r h).2 s H1 locs1 → W p l e room_1 s m args below meth cd H1 locs1 (kc + 1) (ks + 6) Q (F0 m (1519 + 3) ls0 [.int (ze_res r h).1])) : W p l e room_1 s m args below meth cd H locs kc ks Q (F0 m 1519 ls0 [.ref (B + 80), .int i, .int d, .ref (B + 0)]) := by
  have hts := X.2.2.2.2.1
  have run : va_Run p l e room_1 s m args below meth cd H locs kc ks 1 6 (F0 m 1519 ls0 [.ref (B + 80), .int i, .int d, .ref (B + 0)]) [] (zc_mI (ze_res r h) D c B _) (zc_ge B) :=
    vx_runSW (nL := 8) (Ts := zg_tbl) (own := RL) (As := [.ref (B + 0), .int d, .int i, .ref (B + 80)]) (n := 4) (bytes := cL_element) (maxL := 5) (ret := some .int) (hh := ze_hhL) (index := 184) ⟨X.1, X.2.1, X.2.2.1, X.2.2.2.1, hts⟩ (zt_L_element hr l D c B hl)
      (vx_cwSW (ws' := zg_tbl) 4 hts (zg_good (fun w hw => by
        simp only [va_wsS, List.mem_append, List.mem_cons, List.not_mem_nil, or_false] at hw
        rcases hw with (rfl | rfl | rfl) | rfl | hw
        · exact zk_932
        · exact zk_933
        · exact zk_0
        · exact zk_934
        · exact hw)) rfl rfl rfl (by decide +kernel) ⟨by decide, by decide⟩)
      (zc_pre2 (As := [.ref 0, .int d, .int i, .ref 80]) X P hE) rfl rfl hls rfl (lv_room (show 0 ≤ 8 by decide)) dL_law_1519 hk
  refine va_calli run P.2.2 (fun q _ h => h) (fun q h => h) (fun r1 u t H1 locs1 ht hvm hpost hB hz hk hS1 => ?_)
  obtain ⟨rfl, rfl⟩ := hpost
  exact kk H1 locs1 ⟨by rw [← ht]; exact hB.1, P.2.1, hS1⟩
theorem zl_runTo {d r : Int32} (X : zw_X RL cL_law 8 p s m args cd) (P : zw_P D c B h s H locs) (hE : ze_ex B s) (hl : l.stackTraces = false) (hr : ze_toss d h = some r) (hk : kc + 1 ≤ 601024 ∧ ks + 6 ≤ 7293034) (hls : ls0.size = 8)
    (kk : ∀ (H1 : Heap) (locs1 : List Loc), zw_P D c B h s H1 locs1 → W p l e room_1 s m args below meth cd H1 locs1 (kc + 1) (ks + 6) Q (F0 m (1677 + 3) ls0 [.int r])) : W p l e room_1 s m args below meth cd H locs kc ks Q (F0 m 1677 ls0 [.int d, .ref (B + 0)]) := by
  have hts := X.2.2.2.2.1
  have run : va_Run p l e room_1 s m args below meth cd H locs kc ks 1 6 (F0 m 1677 ls0 [.int d, .ref (B + 0)]) [] (zc_mI (r, h) D c B _) (zc_ge B) :=
    vx_runVW (nL := 8) (Ts := zg_tbl) (own := RL) (C := RX10) (b := B + 0) (As := [.int d]) (n := 1) (bytes := cX10_toss) (maxL := 6) (ret := some .int) (hh := ze_hhT) (index := 202) ⟨X.1, X.2.1, X.2.2.1, X.2.2.2.1, hts⟩ (zt_X10_toss hr l D c B hl)
      (vx_cwVW (ws' := zg_tbl) 1 hts (zg_good (fun w hw => by
        simp only [wsV, List.mem_append, List.mem_cons, List.not_mem_nil, or_false] at hw
        rcases hw with (rfl | rfl | rfl | rfl) | rfl | hw
        · exact zk_807
        · exact zk_808
        · exact zk_809
        · exact zw_1
        · exact zk_810
        · exact hw)) rfl rfl rfl (by decide +kernel) ⟨by decide, by decide⟩)
      ⟨ze_blind, zw_rcv (a := 0) (ci := 10) (n0 := 0) (q := (RX10, TX10, 12)) P rfl (by decide) rfl, (zc_pre2 (As := [.ref 0, .int d]) X P hE).2⟩ rfl rfl hls rfl (lv_room (show 0 ≤ 8 by decide)) dL_law_1677 hk
  refine va_calli run P.2.2 (fun q _ h => h) (fun q h => h) (fun r1 u t H1 locs1 ht hvm hpost hB hz hk hS1 => ?_)
  obtain ⟨rfl, rfl⟩ := hpost
  exact kk H1 locs1 ⟨by rw [← ht]; exact hB.1, P.2.1, hS1⟩
end ZLE
section ZLD
variable {p : Program} {l : Launch} {e : Env} {s : State} {m : MethodId} {args : Array Value} {below : List Frame} {meth : Method} {cd : Code} {H : Heap} {locs : List Loc} {kc ks : Nat} {Q : State → Prop}
variable {ls0 : Array Slot} {D : va_G} {c : zCS} {B b L n : Nat} {xs : Nat → Int32} {h : zHp}
theorem zl_c0 (C : zl_C l p s m args cd D c B b L n xs h H locs kc ks ls0) (K : zl_K p l e s m args below meth cd D c B b n kc ks Q) : W p l e room_1 s m args below meth cd H locs kc ks Q (F0 m 228 ls0 []) := by
  obtain ⟨X, P, hI, hkb, hv, hS, -⟩ := C
  obtain ⟨r, h1, h2, e1, e2, hI2⟩ := ok_province (xs (6 * n + 1)) h hI
  refine lv_aload_n X.1 X.2.1 dL_law_228 rfl (lv_at hv 3 rfl) ?_
  refine zl_push 1 X P hv hS (by decide) (by decide) dL_law_229 dL_law_230 dL_law_232 dL_law_233 dL_law_234 ?_
  refine zw_ki P (zw_V (z := zM_X10_province) (As := [.int (xs (6 * n + 1))]) (a := 0) (ci := 10) (n0 := 0) (q := (RX10, TX10, 12)) X P (zt_X10_province (xs (6 * n + 1)) h e1) zp_X10_province zk_223 zk_224 zk_225 rfl (by decide) rfl rfl rfl (by decide) ⟨by decide, by decide⟩ ⟨show kc ≤ 601024 by omega, show ks ≤ 7293034 by omega⟩ hv.1 dL_law_235) (fun H locs P => ?_)
  refine lv_aload_n X.1 X.2.1 dL_law_238 rfl (lv_at hv 2 rfl) ?_
  refine zl_push 1 X P hv hS (by decide) (by decide) dL_law_239 dL_law_240 dL_law_242 dL_law_243 dL_law_244 ?_
  refine zw_ki P (zw_V (z := zM_X11_province) (As := [.int (xs (6 * n + 1))]) (a := 60) (ci := 11) (n0 := 0) (q := (RX11, TX11, 35)) X P (zt_X11_province (xs (6 * n + 1)) _ e2) zp_X11_province zk_1062 zk_1063 zk_1064 rfl (by decide) rfl rfl rfl (show 1 + 0 ≤ 8 by decide) ⟨by decide, by decide⟩ ⟨show kc ≤ 601024 by omega, show ks ≤ 7293034 by omega⟩ hv.1 dL_law_245) (fun H locs P => ?_)
  exact lv_icmp_eq (tgt := 1695) X.1 X.2.1 dL_law_248 (by decide) (fun _ => K _ _ _ _ _ _ P hI2 (by omega) (by omega) hv) (fun q => absurd rfl q)
theorem zl_c1 (C : zl_C l p s m args cd D c B b L n xs h H locs kc ks ls0) (K : zl_K p l e s m args below meth cd D c B b n kc ks Q) : W p l e room_1 s m args below meth cd H locs kc ks Q (F0 m 253 ls0 []) := by
  obtain ⟨X, P, hI, hkb, hv, hS, -⟩ := C
  obtain ⟨r, h2, e1, e2, hI2⟩ := ok_village (xs (6 * n + 1)) (xs (6 * n + 2)) h hI
  refine lv_aload_n X.1 X.2.1 dL_law_253 rfl (lv_at hv 3 rfl) ?_
  refine zl_push 1 X P hv hS (by decide) (by decide) dL_law_254 dL_law_255 dL_law_257 dL_law_258 dL_law_259 ?_
  refine zl_push 2 X P hv hS (by decide) (by decide) dL_law_260 dL_law_261 dL_law_263 dL_law_264 dL_law_265 ?_
  refine zw_ki P (zw_V (z := zM_X10_village) (As := [.int (xs (6 * n + 1)), .int (xs (6 * n + 2))]) (a := 0) (ci := 10) (n0 := 0) (q := (RX10, TX10, 12)) X P (zt_X10_village (xs (6 * n + 1)) (xs (6 * n + 2)) h e1) zp_X10_village zk_466 zk_467 zk_468 rfl (by decide) rfl rfl rfl (by decide) ⟨by decide, by decide⟩ ⟨show kc ≤ 601024 by omega, show ks ≤ 7293034 by omega⟩ hv.1 dL_law_266) (fun H locs P => ?_)
  refine lv_aload_n X.1 X.2.1 dL_law_269 rfl (lv_at hv 2 rfl) ?_
  refine zl_push 1 X P hv hS (by decide) (by decide) dL_law_270 dL_law_271 dL_law_273 dL_law_274 dL_law_275 ?_
  refine zl_push 2 X P hv hS (by decide) (by decide) dL_law_276 dL_law_277 dL_law_279 dL_law_280 dL_law_281 ?_
  refine zw_ki P (zw_V (z := zM_X11_village) (As := [.int (xs (6 * n + 1)), .int (xs (6 * n + 2))]) (a := 60) (ci := 11) (n0 := 0) (q := (RX11, TX11, 35)) X P (zt_X11_village (xs (6 * n + 1)) (xs (6 * n + 2)) _ e2) zp_X11_village zk_1182 zk_1183 zk_1184 rfl (by decide) rfl rfl rfl (show 1 + 0 ≤ 8 by decide) ⟨by decide, by decide⟩ ⟨show kc ≤ 601024 by omega, show ks ≤ 7293034 by omega⟩ hv.1 dL_law_282) (fun H locs P => ?_)
  exact lv_icmp_eq (tgt := 1695) X.1 X.2.1 dL_law_285 (by decide) (fun _ => K _ _ _ _ _ _ P hI2 (by omega) (by omega) hv) (fun q => absurd rfl q)
theorem zl_c2 (C : zl_C l p s m args cd D c B b L n xs h H locs kc ks ls0) (K : zl_K p l e s m args below meth cd D c B b n kc ks Q) : W p l e room_1 s m args below meth cd H locs kc ks Q (F0 m 290 ls0 []) := by
  obtain ⟨X, P, hI, hkb, hv, hS, -⟩ := C
  obtain ⟨r, h1, h2, e1, e2, hI2⟩ := ok_comes (xs (6 * n + 1)) (xs (6 * n + 2)) h hI
  refine lv_aload_n X.1 X.2.1 dL_law_290 rfl (lv_at hv 3 rfl) ?_
  refine zl_push 1 X P hv hS (by decide) (by decide) dL_law_291 dL_law_292 dL_law_294 dL_law_295 dL_law_296 ?_
  refine zl_push 2 X P hv hS (by decide) (by decide) dL_law_297 dL_law_298 dL_law_300 dL_law_301 dL_law_302 ?_
  refine zw_ki P (zw_V (z := zM_X10_comes) (As := [.int (xs (6 * n + 1)), .int (xs (6 * n + 2))]) (a := 0) (ci := 10) (n0 := 0) (q := (RX10, TX10, 12)) X P (zt_X10_comes (xs (6 * n + 1)) (xs (6 * n + 2)) h e1) zp_X10_comes zk_477 zk_478 zk_479 rfl (by decide) rfl rfl rfl (by decide) ⟨by decide, by decide⟩ ⟨show kc ≤ 601024 by omega, show ks ≤ 7293034 by omega⟩ hv.1 dL_law_303) (fun H locs P => ?_)
  refine lv_aload_n X.1 X.2.1 dL_law_306 rfl (lv_at hv 2 rfl) ?_
  refine zl_push 1 X P hv hS (by decide) (by decide) dL_law_307 dL_law_308 dL_law_310 dL_law_311 dL_law_312 ?_
  refine zl_push 2 X P hv hS (by decide) (by decide) dL_law_313 dL_law_314 dL_law_316 dL_law_317 dL_law_318 ?_
  refine zw_ki P (zw_V (z := zM_X11_comes) (As := [.int (xs (6 * n + 1)), .int (xs (6 * n + 2))]) (a := 60) (ci := 11) (n0 := 0) (q := (RX11, TX11, 35)) X P (zt_X11_comes (xs (6 * n + 1)) (xs (6 * n + 2)) _ e2) zp_X11_comes zk_1186 zk_1187 zk_1188 rfl (by decide) rfl rfl rfl (show 1 + 0 ≤ 8 by decide) ⟨by decide, by decide⟩ ⟨show kc ≤ 601024 by omega, show ks ≤ 7293034 by omega⟩ hv.1 dL_law_319) (fun H locs P => ?_)
  exact lv_icmp_eq (tgt := 1695) X.1 X.2.1 dL_law_322 (by decide) (fun _ => K _ _ _ _ _ _ P hI2 (by omega) (by omega) hv) (fun q => absurd rfl q)
theorem zl_c3 (C : zl_C l p s m args cd D c B b L n xs h H locs kc ks ls0) (K : zl_K p l e s m args below meth cd D c B b n kc ks Q) : W p l e room_1 s m args below meth cd H locs kc ks Q (F0 m 327 ls0 []) := by
  obtain ⟨X, P, hI, hkb, hv, hS, -⟩ := C
  obtain ⟨r, h1, h2, e1, e2, hI2⟩ := ok_moves (xs (6 * n + 1)) (xs (6 * n + 2)) h hI
  refine lv_aload_n X.1 X.2.1 dL_law_327 rfl (lv_at hv 3 rfl) ?_
  refine zl_push 1 X P hv hS (by decide) (by decide) dL_law_328 dL_law_329 dL_law_331 dL_law_332 dL_law_333 ?_
  refine zl_push 2 X P hv hS (by decide) (by decide) dL_law_334 dL_law_335 dL_law_337 dL_law_338 dL_law_339 ?_
  refine zw_ki P (zw_V (z := zM_X10_moves) (As := [.int (xs (6 * n + 1)), .int (xs (6 * n + 2))]) (a := 0) (ci := 10) (n0 := 0) (q := (RX10, TX10, 12)) X P (zt_X10_moves (xs (6 * n + 1)) (xs (6 * n + 2)) h e1) zp_X10_moves zk_486 zk_487 zk_488 rfl (by decide) rfl rfl rfl (by decide) ⟨by decide, by decide⟩ ⟨show kc ≤ 601024 by omega, show ks ≤ 7293034 by omega⟩ hv.1 dL_law_340) (fun H locs P => ?_)
  refine lv_aload_n X.1 X.2.1 dL_law_343 rfl (lv_at hv 2 rfl) ?_
  refine zl_push 1 X P hv hS (by decide) (by decide) dL_law_344 dL_law_345 dL_law_347 dL_law_348 dL_law_349 ?_
  refine zl_push 2 X P hv hS (by decide) (by decide) dL_law_350 dL_law_351 dL_law_353 dL_law_354 dL_law_355 ?_
  refine zw_ki P (zw_V (z := zM_X11_moves) (As := [.int (xs (6 * n + 1)), .int (xs (6 * n + 2))]) (a := 60) (ci := 11) (n0 := 0) (q := (RX11, TX11, 35)) X P (zt_X11_moves (xs (6 * n + 1)) (xs (6 * n + 2)) _ e2) zp_X11_moves zk_1194 zk_1195 zk_1196 rfl (by decide) rfl rfl rfl (show 1 + 0 ≤ 8 by decide) ⟨by decide, by decide⟩ ⟨show kc ≤ 601024 by omega, show ks ≤ 7293034 by omega⟩ hv.1 dL_law_356) (fun H locs P => ?_)
  exact lv_icmp_eq (tgt := 1695) X.1 X.2.1 dL_law_359 (by decide) (fun _ => K _ _ _ _ _ _ P hI2 (by omega) (by omega) hv) (fun q => absurd rfl q)
theorem zl_c4 (C : zl_C l p s m args cd D c B b L n xs h H locs kc ks ls0) (K : zl_K p l e s m args below meth cd D c B b n kc ks Q) : W p l e room_1 s m args below meth cd H locs kc ks Q (F0 m 364 ls0 []) := by
  obtain ⟨X, P, hI, hkb, hv, hS, -⟩ := C
  obtain ⟨r, h1, h2, e1, e2, hI2⟩ := ok_fetches (xs (6 * n + 1)) (xs (6 * n + 2)) h hI
  refine lv_aload_n X.1 X.2.1 dL_law_364 rfl (lv_at hv 3 rfl) ?_
  refine zl_push 1 X P hv hS (by decide) (by decide) dL_law_365 dL_law_366 dL_law_368 dL_law_369 dL_law_370 ?_
  refine zl_push 2 X P hv hS (by decide) (by decide) dL_law_371 dL_law_372 dL_law_374 dL_law_375 dL_law_376 ?_
  refine zw_ki P (zw_V (z := zM_X10_fetches) (As := [.int (xs (6 * n + 1)), .int (xs (6 * n + 2))]) (a := 0) (ci := 10) (n0 := 0) (q := (RX10, TX10, 12)) X P (zt_X10_fetches (xs (6 * n + 1)) (xs (6 * n + 2)) h e1) zp_X10_fetches zk_490 zk_491 zk_492 rfl (by decide) rfl rfl rfl (by decide) ⟨by decide, by decide⟩ ⟨show kc ≤ 601024 by omega, show ks ≤ 7293034 by omega⟩ hv.1 dL_law_377) (fun H locs P => ?_)
  refine lv_aload_n X.1 X.2.1 dL_law_380 rfl (lv_at hv 2 rfl) ?_
  refine zl_push 1 X P hv hS (by decide) (by decide) dL_law_381 dL_law_382 dL_law_384 dL_law_385 dL_law_386 ?_
  refine zl_push 2 X P hv hS (by decide) (by decide) dL_law_387 dL_law_388 dL_law_390 dL_law_391 dL_law_392 ?_
  refine zw_ki P (zw_V (z := zM_X11_fetches) (As := [.int (xs (6 * n + 1)), .int (xs (6 * n + 2))]) (a := 60) (ci := 11) (n0 := 0) (q := (RX11, TX11, 35)) X P (zt_X11_fetches (xs (6 * n + 1)) (xs (6 * n + 2)) _ e2) zp_X11_fetches zk_1198 zk_1199 zk_1200 rfl (by decide) rfl rfl rfl (show 1 + 0 ≤ 8 by decide) ⟨by decide, by decide⟩ ⟨show kc ≤ 601024 by omega, show ks ≤ 7293034 by omega⟩ hv.1 dL_law_393) (fun H locs P => ?_)
  exact lv_icmp_eq (tgt := 1695) X.1 X.2.1 dL_law_396 (by decide) (fun _ => K _ _ _ _ _ _ P hI2 (by omega) (by omega) hv) (fun q => absurd rfl q)
theorem zl_c5 (C : zl_C l p s m args cd D c B b L n xs h H locs kc ks ls0) (K : zl_K p l e s m args below meth cd D c B b n kc ks Q) : W p l e room_1 s m args below meth cd H locs kc ks Q (F0 m 401 ls0 []) := by
  obtain ⟨X, P, hI, hkb, hv, hS, -⟩ := C
  obtain ⟨r, h1, h2, e1, e2, hI2⟩ := ok_stocks (xs (6 * n + 1)) (xs (6 * n + 2)) h hI
  refine lv_aload_n X.1 X.2.1 dL_law_401 rfl (lv_at hv 3 rfl) ?_
  refine zl_push 1 X P hv hS (by decide) (by decide) dL_law_402 dL_law_403 dL_law_405 dL_law_406 dL_law_407 ?_
  refine zl_push 2 X P hv hS (by decide) (by decide) dL_law_408 dL_law_409 dL_law_411 dL_law_412 dL_law_413 ?_
  refine zw_ki P (zw_V (z := zM_X10_stocks) (As := [.int (xs (6 * n + 1)), .int (xs (6 * n + 2))]) (a := 0) (ci := 10) (n0 := 0) (q := (RX10, TX10, 12)) X P (zt_X10_stocks (xs (6 * n + 1)) (xs (6 * n + 2)) h e1) zp_X10_stocks zk_494 zk_495 zk_496 rfl (by decide) rfl rfl rfl (by decide) ⟨by decide, by decide⟩ ⟨show kc ≤ 601024 by omega, show ks ≤ 7293034 by omega⟩ hv.1 dL_law_414) (fun H locs P => ?_)
  refine lv_aload_n X.1 X.2.1 dL_law_417 rfl (lv_at hv 2 rfl) ?_
  refine zl_push 1 X P hv hS (by decide) (by decide) dL_law_418 dL_law_419 dL_law_421 dL_law_422 dL_law_423 ?_
  refine zl_push 2 X P hv hS (by decide) (by decide) dL_law_424 dL_law_425 dL_law_427 dL_law_428 dL_law_429 ?_
  refine zw_ki P (zw_V (z := zM_X11_stocks) (As := [.int (xs (6 * n + 1)), .int (xs (6 * n + 2))]) (a := 60) (ci := 11) (n0 := 0) (q := (RX11, TX11, 35)) X P (zt_X11_stocks (xs (6 * n + 1)) (xs (6 * n + 2)) _ e2) zp_X11_stocks zk_1203 zk_1204 zk_1205 rfl (by decide) rfl rfl rfl (show 1 + 0 ≤ 8 by decide) ⟨by decide, by decide⟩ ⟨show kc ≤ 601024 by omega, show ks ≤ 7293034 by omega⟩ hv.1 dL_law_430) (fun H locs P => ?_)
  exact lv_icmp_eq (tgt := 1695) X.1 X.2.1 dL_law_433 (by decide) (fun _ => K _ _ _ _ _ _ P hI2 (by omega) (by omega) hv) (fun q => absurd rfl q)
theorem zl_c6 (C : zl_C l p s m args cd D c B b L n xs h H locs kc ks ls0) (K : zl_K p l e s m args below meth cd D c B b n kc ks Q) : W p l e room_1 s m args below meth cd H locs kc ks Q (F0 m 438 ls0 []) := by
  obtain ⟨X, P, hI, hkb, hv, hS, -⟩ := C
  obtain ⟨r, h1, h2, e1, e2, hI2⟩ := ok_sits (xs (6 * n + 1)) h hI
  refine lv_aload_n X.1 X.2.1 dL_law_438 rfl (lv_at hv 3 rfl) ?_
  refine zl_push 1 X P hv hS (by decide) (by decide) dL_law_439 dL_law_440 dL_law_442 dL_law_443 dL_law_444 ?_
  refine zw_ki P (zw_V (z := zM_X10_sits) (As := [.int (xs (6 * n + 1))]) (a := 0) (ci := 10) (n0 := 0) (q := (RX10, TX10, 12)) X P (zt_X10_sits (xs (6 * n + 1)) h e1) zp_X10_sits zk_498 zk_499 zk_500 rfl (by decide) rfl rfl rfl (by decide) ⟨by decide, by decide⟩ ⟨show kc ≤ 601024 by omega, show ks ≤ 7293034 by omega⟩ hv.1 dL_law_445) (fun H locs P => ?_)
  refine lv_aload_n X.1 X.2.1 dL_law_448 rfl (lv_at hv 2 rfl) ?_
  refine zl_push 1 X P hv hS (by decide) (by decide) dL_law_449 dL_law_450 dL_law_452 dL_law_453 dL_law_454 ?_
  refine zw_ki P (zw_V (z := zM_X11_sits) (As := [.int (xs (6 * n + 1))]) (a := 60) (ci := 11) (n0 := 0) (q := (RX11, TX11, 35)) X P (zt_X11_sits (xs (6 * n + 1)) _ e2) zp_X11_sits zk_1208 zk_1209 zk_1210 rfl (by decide) rfl rfl rfl (show 1 + 0 ≤ 8 by decide) ⟨by decide, by decide⟩ ⟨show kc ≤ 601024 by omega, show ks ≤ 7293034 by omega⟩ hv.1 dL_law_455) (fun H locs P => ?_)
  exact lv_icmp_eq (tgt := 1695) X.1 X.2.1 dL_law_458 (by decide) (fun _ => K _ _ _ _ _ _ P hI2 (by omega) (by omega) hv) (fun q => absurd rfl q)
theorem zl_c7 (C : zl_C l p s m args cd D c B b L n xs h H locs kc ks ls0) (K : zl_K p l e s m args below meth cd D c B b n kc ks Q) : W p l e room_1 s m args below meth cd H locs kc ks Q (F0 m 463 ls0 []) := by
  obtain ⟨X, P, hI, hkb, hv, hS, -⟩ := C
  obtain ⟨r, h1, h2, e1, e2, hI2⟩ := ok_sun (xs (6 * n + 1)) (xs (6 * n + 2)) h hI
  refine lv_aload_n X.1 X.2.1 dL_law_463 rfl (lv_at hv 3 rfl) ?_
  refine zl_push 1 X P hv hS (by decide) (by decide) dL_law_464 dL_law_465 dL_law_467 dL_law_468 dL_law_469 ?_
  refine zl_push 2 X P hv hS (by decide) (by decide) dL_law_470 dL_law_471 dL_law_473 dL_law_474 dL_law_475 ?_
  refine zw_ki P (zw_V (z := zM_X10_sun) (As := [.int (xs (6 * n + 1)), .int (xs (6 * n + 2))]) (a := 0) (ci := 10) (n0 := 0) (q := (RX10, TX10, 12)) X P (zt_X10_sun (xs (6 * n + 1)) (xs (6 * n + 2)) h e1) zp_X10_sun zk_502 zk_503 zk_504 rfl (by decide) rfl rfl rfl (by decide) ⟨by decide, by decide⟩ ⟨show kc ≤ 601024 by omega, show ks ≤ 7293034 by omega⟩ hv.1 dL_law_476) (fun H locs P => ?_)
  refine lv_aload_n X.1 X.2.1 dL_law_479 rfl (lv_at hv 2 rfl) ?_
  refine zl_push 1 X P hv hS (by decide) (by decide) dL_law_480 dL_law_481 dL_law_483 dL_law_484 dL_law_485 ?_
  refine zl_push 2 X P hv hS (by decide) (by decide) dL_law_486 dL_law_487 dL_law_489 dL_law_490 dL_law_491 ?_
  refine zw_ki P (zw_V (z := zM_X11_sun) (As := [.int (xs (6 * n + 1)), .int (xs (6 * n + 2))]) (a := 60) (ci := 11) (n0 := 0) (q := (RX11, TX11, 35)) X P (zt_X11_sun (xs (6 * n + 1)) (xs (6 * n + 2)) _ e2) zp_X11_sun zk_1212 zk_1213 zk_1214 rfl (by decide) rfl rfl rfl (show 1 + 0 ≤ 8 by decide) ⟨by decide, by decide⟩ ⟨show kc ≤ 601024 by omega, show ks ≤ 7293034 by omega⟩ hv.1 dL_law_492) (fun H locs P => ?_)
  exact lv_icmp_eq (tgt := 1695) X.1 X.2.1 dL_law_495 (by decide) (fun _ => K _ _ _ _ _ _ P hI2 (by omega) (by omega) hv) (fun q => absurd rfl q)
theorem zl_c8 (C : zl_C l p s m args cd D c B b L n xs h H locs kc ks ls0) (K : zl_K p l e s m args below meth cd D c B b n kc ks Q) : W p l e room_1 s m args below meth cd H locs kc ks Q (F0 m 500 ls0 []) := by
  obtain ⟨X, P, hI, hkb, hv, hS, -⟩ := C
  obtain ⟨r, h1, h2, e1, e2, hI2⟩ := ok_days (xs (6 * n + 1)) h hI
  refine lv_aload_n X.1 X.2.1 dL_law_500 rfl (lv_at hv 3 rfl) ?_
  refine zl_push 1 X P hv hS (by decide) (by decide) dL_law_501 dL_law_502 dL_law_504 dL_law_505 dL_law_506 ?_
  refine zw_ki P (zw_V (z := zM_X10_days) (As := [.int (xs (6 * n + 1))]) (a := 0) (ci := 10) (n0 := 0) (q := (RX10, TX10, 12)) X P (zt_X10_days (xs (6 * n + 1)) h e1) zp_X10_days zk_506 zk_507 zk_508 rfl (by decide) rfl rfl rfl (by decide) ⟨by decide, by decide⟩ ⟨show kc ≤ 601024 by omega, show ks ≤ 7293034 by omega⟩ hv.1 dL_law_507) (fun H locs P => ?_)
  refine lv_aload_n X.1 X.2.1 dL_law_510 rfl (lv_at hv 2 rfl) ?_
  refine zl_push 1 X P hv hS (by decide) (by decide) dL_law_511 dL_law_512 dL_law_514 dL_law_515 dL_law_516 ?_
  refine zw_ki P (zw_V (z := zM_X11_days) (As := [.int (xs (6 * n + 1))]) (a := 60) (ci := 11) (n0 := 0) (q := (RX11, TX11, 35)) X P (zt_X11_days (xs (6 * n + 1)) _ e2) zp_X11_days zk_1217 zk_1218 zk_1219 rfl (by decide) rfl rfl rfl (show 1 + 0 ≤ 8 by decide) ⟨by decide, by decide⟩ ⟨show kc ≤ 601024 by omega, show ks ≤ 7293034 by omega⟩ hv.1 dL_law_517) (fun H locs P => ?_)
  exact lv_icmp_eq (tgt := 1695) X.1 X.2.1 dL_law_520 (by decide) (fun _ => K _ _ _ _ _ _ P hI2 (by omega) (by omega) hv) (fun q => absurd rfl q)
theorem zl_c9 (C : zl_C l p s m args cd D c B b L n xs h H locs kc ks ls0) (K : zl_K p l e s m args below meth cd D c B b n kc ks Q) : W p l e room_1 s m args below meth cd H locs kc ks Q (F0 m 525 ls0 []) := by
  obtain ⟨X, P, hI, hkb, hv, hS, -⟩ := C
  obtain ⟨r, h1, h2, e1, e2, hI2⟩ := ok_then (xs (6 * n + 1)) (xs (6 * n + 2)) h hI
  refine lv_aload_n X.1 X.2.1 dL_law_525 rfl (lv_at hv 3 rfl) ?_
  refine zl_push 1 X P hv hS (by decide) (by decide) dL_law_526 dL_law_527 dL_law_529 dL_law_530 dL_law_531 ?_
  refine zl_push 2 X P hv hS (by decide) (by decide) dL_law_532 dL_law_533 dL_law_535 dL_law_536 dL_law_537 ?_
  refine zw_ki P (zw_V (z := zM_X10_then) (As := [.int (xs (6 * n + 1)), .int (xs (6 * n + 2))]) (a := 0) (ci := 10) (n0 := 0) (q := (RX10, TX10, 12)) X P (zt_X10_then (xs (6 * n + 1)) (xs (6 * n + 2)) h e1) zp_X10_then zk_514 zk_515 zk_516 rfl (by decide) rfl rfl rfl (by decide) ⟨by decide, by decide⟩ ⟨show kc ≤ 601024 by omega, show ks ≤ 7293034 by omega⟩ hv.1 dL_law_538) (fun H locs P => ?_)
  refine lv_aload_n X.1 X.2.1 dL_law_541 rfl (lv_at hv 2 rfl) ?_
  refine zl_push 1 X P hv hS (by decide) (by decide) dL_law_542 dL_law_543 dL_law_545 dL_law_546 dL_law_547 ?_
  refine zl_push 2 X P hv hS (by decide) (by decide) dL_law_548 dL_law_549 dL_law_551 dL_law_552 dL_law_553 ?_
  refine zw_ki P (zw_V (z := zM_X11_then) (As := [.int (xs (6 * n + 1)), .int (xs (6 * n + 2))]) (a := 60) (ci := 11) (n0 := 0) (q := (RX11, TX11, 35)) X P (zt_X11_then (xs (6 * n + 1)) (xs (6 * n + 2)) _ e2) zp_X11_then zk_1225 zk_1226 zk_1227 rfl (by decide) rfl rfl rfl (show 1 + 0 ≤ 8 by decide) ⟨by decide, by decide⟩ ⟨show kc ≤ 601024 by omega, show ks ≤ 7293034 by omega⟩ hv.1 dL_law_554) (fun H locs P => ?_)
  exact lv_icmp_eq (tgt := 1695) X.1 X.2.1 dL_law_557 (by decide) (fun _ => K _ _ _ _ _ _ P hI2 (by omega) (by omega) hv) (fun q => absurd rfl q)
theorem zl_c10 (C : zl_C l p s m args cd D c B b L n xs h H locs kc ks ls0) (K : zl_K p l e s m args below meth cd D c B b n kc ks Q) : W p l e room_1 s m args below meth cd H locs kc ks Q (F0 m 562 ls0 []) := by
  obtain ⟨X, P, hI, hkb, hv, hS, -⟩ := C
  obtain ⟨r, h1, h2, e1, e2, hI2⟩ := ok_stockThen (xs (6 * n + 1)) (xs (6 * n + 2)) h hI
  refine lv_aload_n X.1 X.2.1 dL_law_562 rfl (lv_at hv 3 rfl) ?_
  refine zl_push 1 X P hv hS (by decide) (by decide) dL_law_563 dL_law_564 dL_law_566 dL_law_567 dL_law_568 ?_
  refine zl_push 2 X P hv hS (by decide) (by decide) dL_law_569 dL_law_570 dL_law_572 dL_law_573 dL_law_574 ?_
  refine zw_ki P (zw_V (z := zM_X10_stockThen) (As := [.int (xs (6 * n + 1)), .int (xs (6 * n + 2))]) (a := 0) (ci := 10) (n0 := 0) (q := (RX10, TX10, 12)) X P (zt_X10_stockThen (xs (6 * n + 1)) (xs (6 * n + 2)) h e1) zp_X10_stockThen zk_525 zk_526 zk_527 rfl (by decide) rfl rfl rfl (by decide) ⟨by decide, by decide⟩ ⟨show kc ≤ 601024 by omega, show ks ≤ 7293034 by omega⟩ hv.1 dL_law_575) (fun H locs P => ?_)
  refine lv_aload_n X.1 X.2.1 dL_law_578 rfl (lv_at hv 2 rfl) ?_
  refine zl_push 1 X P hv hS (by decide) (by decide) dL_law_579 dL_law_580 dL_law_582 dL_law_583 dL_law_584 ?_
  refine zl_push 2 X P hv hS (by decide) (by decide) dL_law_585 dL_law_586 dL_law_588 dL_law_589 dL_law_590 ?_
  refine zw_ki P (zw_V (z := zM_X11_stockThen) (As := [.int (xs (6 * n + 1)), .int (xs (6 * n + 2))]) (a := 60) (ci := 11) (n0 := 0) (q := (RX11, TX11, 35)) X P (zt_X11_stockThen (xs (6 * n + 1)) (xs (6 * n + 2)) _ e2) zp_X11_stockThen zk_1234 zk_1235 zk_1236 rfl (by decide) rfl rfl rfl (show 1 + 0 ≤ 8 by decide) ⟨by decide, by decide⟩ ⟨show kc ≤ 601024 by omega, show ks ≤ 7293034 by omega⟩ hv.1 dL_law_591) (fun H locs P => ?_)
  exact lv_icmp_eq (tgt := 1695) X.1 X.2.1 dL_law_594 (by decide) (fun _ => K _ _ _ _ _ _ P hI2 (by omega) (by omega) hv) (fun q => absurd rfl q)
theorem zl_c11 (C : zl_C l p s m args cd D c B b L n xs h H locs kc ks ls0) (K : zl_K p l e s m args below meth cd D c B b n kc ks Q) : W p l e room_1 s m args below meth cd H locs kc ks Q (F0 m 599 ls0 []) := by
  obtain ⟨X, P, hI, hkb, hv, hS, -⟩ := C
  obtain ⟨r, h1, h2, e1, e2, hI2⟩ := ok_firstCan (xs (6 * n + 1)) h hI
  refine lv_aload_n X.1 X.2.1 dL_law_599 rfl (lv_at hv 3 rfl) ?_
  refine zl_push 1 X P hv hS (by decide) (by decide) dL_law_600 dL_law_601 dL_law_603 dL_law_604 dL_law_605 ?_
  refine zw_ki P (zw_V (z := zM_X10_firstCan) (As := [.int (xs (6 * n + 1))]) (a := 0) (ci := 10) (n0 := 0) (q := (RX10, TX10, 12)) X P (zt_X10_firstCan (xs (6 * n + 1)) h e1) zp_X10_firstCan zk_529 zk_530 zk_531 rfl (by decide) rfl rfl rfl (by decide) ⟨by decide, by decide⟩ ⟨show kc ≤ 601024 by omega, show ks ≤ 7293034 by omega⟩ hv.1 dL_law_606) (fun H locs P => ?_)
  refine lv_aload_n X.1 X.2.1 dL_law_609 rfl (lv_at hv 2 rfl) ?_
  refine zl_push 1 X P hv hS (by decide) (by decide) dL_law_610 dL_law_611 dL_law_613 dL_law_614 dL_law_615 ?_
  refine zw_ki P (zw_V (z := zM_X11_firstCan) (As := [.int (xs (6 * n + 1))]) (a := 60) (ci := 11) (n0 := 0) (q := (RX11, TX11, 35)) X P (zt_X11_firstCan (xs (6 * n + 1)) _ e2) zp_X11_firstCan zk_1238 zk_1239 zk_1240 rfl (by decide) rfl rfl rfl (show 1 + 0 ≤ 8 by decide) ⟨by decide, by decide⟩ ⟨show kc ≤ 601024 by omega, show ks ≤ 7293034 by omega⟩ hv.1 dL_law_616) (fun H locs P => ?_)
  exact lv_icmp_eq (tgt := 1695) X.1 X.2.1 dL_law_619 (by decide) (fun _ => K _ _ _ _ _ _ P hI2 (by omega) (by omega) hv) (fun q => absurd rfl q)
theorem zl_c12 (C : zl_C l p s m args cd D c B b L n xs h H locs kc ks ls0) (K : zl_K p l e s m args below meth cd D c B b n kc ks Q) : W p l e room_1 s m args below meth cd H locs kc ks Q (F0 m 624 ls0 []) := by
  obtain ⟨X, P, hI, hkb, hv, hS, -⟩ := C
  obtain ⟨r, h1, h2, e1, e2, hI2⟩ := ok_hungry (xs (6 * n + 1)) h hI
  refine lv_aload_n X.1 X.2.1 dL_law_624 rfl (lv_at hv 3 rfl) ?_
  refine zl_push 1 X P hv hS (by decide) (by decide) dL_law_625 dL_law_626 dL_law_628 dL_law_629 dL_law_630 ?_
  refine zw_ki P (zw_V (z := zM_X10_hungry) (As := [.int (xs (6 * n + 1))]) (a := 0) (ci := 10) (n0 := 0) (q := (RX10, TX10, 12)) X P (zt_X10_hungry (xs (6 * n + 1)) h e1) zp_X10_hungry zk_534 zk_535 zk_536 rfl (by decide) rfl rfl rfl (by decide) ⟨by decide, by decide⟩ ⟨show kc ≤ 601024 by omega, show ks ≤ 7293034 by omega⟩ hv.1 dL_law_631) (fun H locs P => ?_)
  refine lv_aload_n X.1 X.2.1 dL_law_634 rfl (lv_at hv 2 rfl) ?_
  refine zl_push 1 X P hv hS (by decide) (by decide) dL_law_635 dL_law_636 dL_law_638 dL_law_639 dL_law_640 ?_
  refine zw_ki P (zw_V (z := zM_X11_hungry) (As := [.int (xs (6 * n + 1))]) (a := 60) (ci := 11) (n0 := 0) (q := (RX11, TX11, 35)) X P (zt_X11_hungry (xs (6 * n + 1)) _ e2) zp_X11_hungry zk_1242 zk_1243 zk_1244 rfl (by decide) rfl rfl rfl (show 1 + 0 ≤ 8 by decide) ⟨by decide, by decide⟩ ⟨show kc ≤ 601024 by omega, show ks ≤ 7293034 by omega⟩ hv.1 dL_law_641) (fun H locs P => ?_)
  exact lv_icmp_eq (tgt := 1695) X.1 X.2.1 dL_law_644 (by decide) (fun _ => K _ _ _ _ _ _ P hI2 (by omega) (by omega) hv) (fun q => absurd rfl q)
theorem zl_c13 (C : zl_C l p s m args cd D c B b L n xs h H locs kc ks ls0) (K : zl_K p l e s m args below meth cd D c B b n kc ks Q) : W p l e room_1 s m args below meth cd H locs kc ks Q (F0 m 649 ls0 []) := by
  obtain ⟨X, P, hI, hkb, hv, hS, -⟩ := C
  obtain ⟨r, h1, h2, e1, e2, hI2⟩ := ok_round  h hI
  refine lv_aload_n X.1 X.2.1 dL_law_649 rfl (lv_at hv 3 rfl) ?_
  refine zw_ki P (zw_V (z := zM_X10_round) (As := []) (a := 0) (ci := 10) (n0 := 0) (q := (RX10, TX10, 12)) X P (zt_X10_round  h e1) zp_X10_round zk_542 zk_543 zk_544 rfl (by decide) rfl rfl rfl (by decide) ⟨by decide, by decide⟩ ⟨show kc ≤ 601024 by omega, show ks ≤ 7293034 by omega⟩ hv.1 dL_law_650) (fun H locs P => ?_)
  refine lv_aload_n X.1 X.2.1 dL_law_653 rfl (lv_at hv 2 rfl) ?_
  refine zw_ki P (zw_V (z := zM_X11_round) (As := []) (a := 60) (ci := 11) (n0 := 0) (q := (RX11, TX11, 35)) X P (zt_X11_round  _ e2) zp_X11_round zk_1251 zk_1252 zk_1253 rfl (by decide) rfl rfl rfl (show 1 + 0 ≤ 8 by decide) ⟨by decide, by decide⟩ ⟨show kc ≤ 601024 by omega, show ks ≤ 7293034 by omega⟩ hv.1 dL_law_654) (fun H locs P => ?_)
  exact lv_icmp_eq (tgt := 1695) X.1 X.2.1 dL_law_657 (by decide) (fun _ => K _ _ _ _ _ _ P hI2 (by omega) (by omega) hv) (fun q => absurd rfl q)
theorem zl_c14 (C : zl_C l p s m args cd D c B b L n xs h H locs kc ks ls0) (K : zl_K p l e s m args below meth cd D c B b n kc ks Q) : W p l e room_1 s m args below meth cd H locs kc ks Q (F0 m 662 ls0 []) := by
  obtain ⟨X, P, hI, hkb, hv, hS, -⟩ := C
  obtain ⟨r, h2, e1, e2, hI2⟩ := ok_way (xs (6 * n + 1)) (xs (6 * n + 2)) h hI
  refine lv_aload_n X.1 X.2.1 dL_law_662 rfl (lv_at hv 3 rfl) ?_
  refine zl_push 1 X P hv hS (by decide) (by decide) dL_law_663 dL_law_664 dL_law_666 dL_law_667 dL_law_668 ?_
  refine zl_push 2 X P hv hS (by decide) (by decide) dL_law_669 dL_law_670 dL_law_672 dL_law_673 dL_law_674 ?_
  refine zw_ki P (zw_V (z := zM_X10_way) (As := [.int (xs (6 * n + 1)), .int (xs (6 * n + 2))]) (a := 0) (ci := 10) (n0 := 0) (q := (RX10, TX10, 12)) X P (zt_X10_way (xs (6 * n + 1)) (xs (6 * n + 2)) h e1) zp_X10_way zk_546 zk_547 zk_548 rfl (by decide) rfl rfl rfl (by decide) ⟨by decide, by decide⟩ ⟨show kc ≤ 601024 by omega, show ks ≤ 7293034 by omega⟩ hv.1 dL_law_675) (fun H locs P => ?_)
  refine lv_aload_n X.1 X.2.1 dL_law_678 rfl (lv_at hv 2 rfl) ?_
  refine zl_push 1 X P hv hS (by decide) (by decide) dL_law_679 dL_law_680 dL_law_682 dL_law_683 dL_law_684 ?_
  refine zl_push 2 X P hv hS (by decide) (by decide) dL_law_685 dL_law_686 dL_law_688 dL_law_689 dL_law_690 ?_
  refine zw_ki P (zw_V (z := zM_X11_way) (As := [.int (xs (6 * n + 1)), .int (xs (6 * n + 2))]) (a := 60) (ci := 11) (n0 := 0) (q := (RX11, TX11, 35)) X P (zt_X11_way (xs (6 * n + 1)) (xs (6 * n + 2)) _ e2) zp_X11_way zk_1255 zk_1256 zk_1257 rfl (by decide) rfl rfl rfl (show 1 + 0 ≤ 8 by decide) ⟨by decide, by decide⟩ ⟨show kc ≤ 601024 by omega, show ks ≤ 7293034 by omega⟩ hv.1 dL_law_691) (fun H locs P => ?_)
  exact lv_icmp_eq (tgt := 1695) X.1 X.2.1 dL_law_694 (by decide) (fun _ => K _ _ _ _ _ _ P hI2 (by omega) (by omega) hv) (fun q => absurd rfl q)
theorem zl_c15 (C : zl_C l p s m args cd D c B b L n xs h H locs kc ks ls0) (K : zl_K p l e s m args below meth cd D c B b n kc ks Q) : W p l e room_1 s m args below meth cd H locs kc ks Q (F0 m 699 ls0 []) := by
  obtain ⟨X, P, hI, hkb, hv, hS, -⟩ := C
  obtain ⟨r, h1, h2, e1, e2, hI2⟩ := ok_sit (xs (6 * n + 1)) h hI
  refine lv_aload_n X.1 X.2.1 dL_law_699 rfl (lv_at hv 3 rfl) ?_
  refine zl_push 1 X P hv hS (by decide) (by decide) dL_law_700 dL_law_701 dL_law_703 dL_law_704 dL_law_705 ?_
  refine zw_ki P (zw_V (z := zM_X10_sit) (As := [.int (xs (6 * n + 1))]) (a := 0) (ci := 10) (n0 := 0) (q := (RX10, TX10, 12)) X P (zt_X10_sit (xs (6 * n + 1)) h e1) zp_X10_sit zk_551 zk_552 zk_553 rfl (by decide) rfl rfl rfl (by decide) ⟨by decide, by decide⟩ ⟨show kc ≤ 601024 by omega, show ks ≤ 7293034 by omega⟩ hv.1 dL_law_706) (fun H locs P => ?_)
  refine lv_aload_n X.1 X.2.1 dL_law_709 rfl (lv_at hv 2 rfl) ?_
  refine zl_push 1 X P hv hS (by decide) (by decide) dL_law_710 dL_law_711 dL_law_713 dL_law_714 dL_law_715 ?_
  refine zw_ki P (zw_V (z := zM_X11_sit) (As := [.int (xs (6 * n + 1))]) (a := 60) (ci := 11) (n0 := 0) (q := (RX11, TX11, 35)) X P (zt_X11_sit (xs (6 * n + 1)) _ e2) zp_X11_sit zk_1259 zk_1260 zk_1261 rfl (by decide) rfl rfl rfl (show 1 + 0 ≤ 8 by decide) ⟨by decide, by decide⟩ ⟨show kc ≤ 601024 by omega, show ks ≤ 7293034 by omega⟩ hv.1 dL_law_716) (fun H locs P => ?_)
  exact lv_icmp_eq (tgt := 1695) X.1 X.2.1 dL_law_719 (by decide) (fun _ => K _ _ _ _ _ _ P hI2 (by omega) (by omega) hv) (fun q => absurd rfl q)
theorem zl_c16 (C : zl_C l p s m args cd D c B b L n xs h H locs kc ks ls0) (K : zl_K p l e s m args below meth cd D c B b n kc ks Q) : W p l e room_1 s m args below meth cd H locs kc ks Q (F0 m 724 ls0 []) := by
  obtain ⟨X, P, hI, hkb, hv, hS, -⟩ := C
  obtain ⟨r, h1, h2, e1, e2, hI2⟩ := ok_sitFor (xs (6 * n + 1)) h hI
  refine lv_aload_n X.1 X.2.1 dL_law_724 rfl (lv_at hv 3 rfl) ?_
  refine zl_push 1 X P hv hS (by decide) (by decide) dL_law_725 dL_law_726 dL_law_728 dL_law_729 dL_law_730 ?_
  refine zw_ki P (zw_V (z := zM_X10_sitFor) (As := [.int (xs (6 * n + 1))]) (a := 0) (ci := 10) (n0 := 0) (q := (RX10, TX10, 12)) X P (zt_X10_sitFor (xs (6 * n + 1)) h e1) zp_X10_sitFor zk_561 zk_562 zk_563 rfl (by decide) rfl rfl rfl (by decide) ⟨by decide, by decide⟩ ⟨show kc ≤ 601024 by omega, show ks ≤ 7293034 by omega⟩ hv.1 dL_law_731) (fun H locs P => ?_)
  refine lv_aload_n X.1 X.2.1 dL_law_734 rfl (lv_at hv 2 rfl) ?_
  refine zl_push 1 X P hv hS (by decide) (by decide) dL_law_735 dL_law_736 dL_law_738 dL_law_739 dL_law_740 ?_
  refine zw_ki P (zw_V (z := zM_X11_sitFor) (As := [.int (xs (6 * n + 1))]) (a := 60) (ci := 11) (n0 := 0) (q := (RX11, TX11, 35)) X P (zt_X11_sitFor (xs (6 * n + 1)) _ e2) zp_X11_sitFor zk_1267 zk_1268 zk_1269 rfl (by decide) rfl rfl rfl (show 1 + 0 ≤ 8 by decide) ⟨by decide, by decide⟩ ⟨show kc ≤ 601024 by omega, show ks ≤ 7293034 by omega⟩ hv.1 dL_law_741) (fun H locs P => ?_)
  exact lv_icmp_eq (tgt := 1695) X.1 X.2.1 dL_law_744 (by decide) (fun _ => K _ _ _ _ _ _ P hI2 (by omega) (by omega) hv) (fun q => absurd rfl q)
theorem zl_c17 (C : zl_C l p s m args cd D c B b L n xs h H locs kc ks ls0) (K : zl_K p l e s m args below meth cd D c B b n kc ks Q) : W p l e room_1 s m args below meth cd H locs kc ks Q (F0 m 749 ls0 []) := by
  obtain ⟨X, P, hI, hkb, hv, hS, -⟩ := C
  obtain ⟨r, h1, h2, e1, e2, hI2⟩ := ok_move (xs (6 * n + 1)) (xs (6 * n + 2)) h hI
  refine lv_aload_n X.1 X.2.1 dL_law_749 rfl (lv_at hv 3 rfl) ?_
  refine zl_push 1 X P hv hS (by decide) (by decide) dL_law_750 dL_law_751 dL_law_753 dL_law_754 dL_law_755 ?_
  refine zl_push 2 X P hv hS (by decide) (by decide) dL_law_756 dL_law_757 dL_law_759 dL_law_760 dL_law_761 ?_
  refine zw_ki P (zw_V (z := zM_X10_move) (As := [.int (xs (6 * n + 1)), .int (xs (6 * n + 2))]) (a := 0) (ci := 10) (n0 := 0) (q := (RX10, TX10, 12)) X P (zt_X10_move (xs (6 * n + 1)) (xs (6 * n + 2)) h e1) zp_X10_move zk_565 zk_566 zk_567 rfl (by decide) rfl rfl rfl (by decide) ⟨by decide, by decide⟩ ⟨show kc ≤ 601024 by omega, show ks ≤ 7293034 by omega⟩ hv.1 dL_law_762) (fun H locs P => ?_)
  refine lv_aload_n X.1 X.2.1 dL_law_765 rfl (lv_at hv 2 rfl) ?_
  refine zl_push 1 X P hv hS (by decide) (by decide) dL_law_766 dL_law_767 dL_law_769 dL_law_770 dL_law_771 ?_
  refine zl_push 2 X P hv hS (by decide) (by decide) dL_law_772 dL_law_773 dL_law_775 dL_law_776 dL_law_777 ?_
  refine zw_ki P (zw_V (z := zM_X11_move) (As := [.int (xs (6 * n + 1)), .int (xs (6 * n + 2))]) (a := 60) (ci := 11) (n0 := 0) (q := (RX11, TX11, 35)) X P (zt_X11_move (xs (6 * n + 1)) (xs (6 * n + 2)) _ e2) zp_X11_move zk_1271 zk_1272 zk_1273 rfl (by decide) rfl rfl rfl (show 1 + 0 ≤ 8 by decide) ⟨by decide, by decide⟩ ⟨show kc ≤ 601024 by omega, show ks ≤ 7293034 by omega⟩ hv.1 dL_law_778) (fun H locs P => ?_)
  exact lv_icmp_eq (tgt := 1695) X.1 X.2.1 dL_law_781 (by decide) (fun _ => K _ _ _ _ _ _ P hI2 (by omega) (by omega) hv) (fun q => absurd rfl q)
theorem zl_c18 (C : zl_C l p s m args cd D c B b L n xs h H locs kc ks ls0) (K : zl_K p l e s m args below meth cd D c B b n kc ks Q) : W p l e room_1 s m args below meth cd H locs kc ks Q (F0 m 786 ls0 []) := by
  obtain ⟨X, P, hI, hkb, hv, hS, -⟩ := C
  obtain ⟨r, h1, h2, e1, e2, hI2⟩ := ok_fetch (xs (6 * n + 1)) (xs (6 * n + 2)) h hI
  refine lv_aload_n X.1 X.2.1 dL_law_786 rfl (lv_at hv 3 rfl) ?_
  refine zl_push 1 X P hv hS (by decide) (by decide) dL_law_787 dL_law_788 dL_law_790 dL_law_791 dL_law_792 ?_
  refine zl_push 2 X P hv hS (by decide) (by decide) dL_law_793 dL_law_794 dL_law_796 dL_law_797 dL_law_798 ?_
  refine zw_ki P (zw_V (z := zM_X10_fetch) (As := [.int (xs (6 * n + 1)), .int (xs (6 * n + 2))]) (a := 0) (ci := 10) (n0 := 0) (q := (RX10, TX10, 12)) X P (zt_X10_fetch (xs (6 * n + 1)) (xs (6 * n + 2)) h e1) zp_X10_fetch zk_569 zk_570 zk_571 rfl (by decide) rfl rfl rfl (by decide) ⟨by decide, by decide⟩ ⟨show kc ≤ 601024 by omega, show ks ≤ 7293034 by omega⟩ hv.1 dL_law_799) (fun H locs P => ?_)
  refine lv_aload_n X.1 X.2.1 dL_law_802 rfl (lv_at hv 2 rfl) ?_
  refine zl_push 1 X P hv hS (by decide) (by decide) dL_law_803 dL_law_804 dL_law_806 dL_law_807 dL_law_808 ?_
  refine zl_push 2 X P hv hS (by decide) (by decide) dL_law_809 dL_law_810 dL_law_812 dL_law_813 dL_law_814 ?_
  refine zw_ki P (zw_V (z := zM_X11_fetch) (As := [.int (xs (6 * n + 1)), .int (xs (6 * n + 2))]) (a := 60) (ci := 11) (n0 := 0) (q := (RX11, TX11, 35)) X P (zt_X11_fetch (xs (6 * n + 1)) (xs (6 * n + 2)) _ e2) zp_X11_fetch zk_1275 zk_1276 zk_1277 rfl (by decide) rfl rfl rfl (show 1 + 0 ≤ 8 by decide) ⟨by decide, by decide⟩ ⟨show kc ≤ 601024 by omega, show ks ≤ 7293034 by omega⟩ hv.1 dL_law_815) (fun H locs P => ?_)
  exact lv_icmp_eq (tgt := 1695) X.1 X.2.1 dL_law_818 (by decide) (fun _ => K _ _ _ _ _ _ P hI2 (by omega) (by omega) hv) (fun q => absurd rfl q)
theorem zl_c19 (C : zl_C l p s m args cd D c B b L n xs h H locs kc ks ls0) (K : zl_K p l e s m args below meth cd D c B b n kc ks Q) : W p l e room_1 s m args below meth cd H locs kc ks Q (F0 m 823 ls0 []) := by
  obtain ⟨X, P, hI, hkb, hv, hS, -⟩ := C
  obtain ⟨r, h1, h2, e1, e2, hI2⟩ := ok_stepBest (xs (6 * n + 1)) h hI
  refine lv_aload_n X.1 X.2.1 dL_law_823 rfl (lv_at hv 3 rfl) ?_
  refine zl_push 1 X P hv hS (by decide) (by decide) dL_law_824 dL_law_825 dL_law_827 dL_law_828 dL_law_829 ?_
  refine zw_ki P (zw_V (z := zM_X10_stepBest) (As := [.int (xs (6 * n + 1))]) (a := 0) (ci := 10) (n0 := 0) (q := (RX10, TX10, 12)) X P (zt_X10_stepBest (xs (6 * n + 1)) h e1) zp_X10_stepBest zk_573 zk_574 zk_575 rfl (by decide) rfl rfl rfl (by decide) ⟨by decide, by decide⟩ ⟨show kc ≤ 601024 by omega, show ks ≤ 7293034 by omega⟩ hv.1 dL_law_830) (fun H locs P => ?_)
  refine lv_aload_n X.1 X.2.1 dL_law_833 rfl (lv_at hv 2 rfl) ?_
  refine zl_push 1 X P hv hS (by decide) (by decide) dL_law_834 dL_law_835 dL_law_837 dL_law_838 dL_law_839 ?_
  refine zw_ki P (zw_V (z := zM_X11_stepBest) (As := [.int (xs (6 * n + 1))]) (a := 60) (ci := 11) (n0 := 0) (q := (RX11, TX11, 35)) X P (zt_X11_stepBest (xs (6 * n + 1)) _ e2) zp_X11_stepBest zk_1279 zk_1280 zk_1281 rfl (by decide) rfl rfl rfl (show 1 + 0 ≤ 8 by decide) ⟨by decide, by decide⟩ ⟨show kc ≤ 601024 by omega, show ks ≤ 7293034 by omega⟩ hv.1 dL_law_840) (fun H locs P => ?_)
  exact lv_icmp_eq (tgt := 1695) X.1 X.2.1 dL_law_843 (by decide) (fun _ => K _ _ _ _ _ _ P hI2 (by omega) (by omega) hv) (fun q => absurd rfl q)
theorem zl_c20 (C : zl_C l p s m args cd D c B b L n xs h H locs kc ks ls0) (K : zl_K p l e s m args below meth cd D c B b n kc ks Q) : W p l e room_1 s m args below meth cd H locs kc ks Q (F0 m 848 ls0 []) := by
  obtain ⟨X, P, hI, hkb, hv, hS, -⟩ := C
  obtain ⟨r, h1, h2, e1, e2, hI2⟩ := ok_match (xs (6 * n + 1)) h hI
  refine lv_aload_n X.1 X.2.1 dL_law_848 rfl (lv_at hv 3 rfl) ?_
  refine zl_push 1 X P hv hS (by decide) (by decide) dL_law_849 dL_law_850 dL_law_852 dL_law_853 dL_law_854 ?_
  refine zw_ki P (zw_V (z := zM_X10_match) (As := [.int (xs (6 * n + 1))]) (a := 0) (ci := 10) (n0 := 0) (q := (RX10, TX10, 12)) X P (zt_X10_match (xs (6 * n + 1)) h e1) zp_X10_match zk_577 zk_578 zk_579 rfl (by decide) rfl rfl rfl (by decide) ⟨by decide, by decide⟩ ⟨show kc ≤ 601024 by omega, show ks ≤ 7293034 by omega⟩ hv.1 dL_law_855) (fun H locs P => ?_)
  refine lv_aload_n X.1 X.2.1 dL_law_858 rfl (lv_at hv 2 rfl) ?_
  refine zl_push 1 X P hv hS (by decide) (by decide) dL_law_859 dL_law_860 dL_law_862 dL_law_863 dL_law_864 ?_
  refine zw_ki P (zw_V (z := zM_X11_match) (As := [.int (xs (6 * n + 1))]) (a := 60) (ci := 11) (n0 := 0) (q := (RX11, TX11, 35)) X P (zt_X11_match (xs (6 * n + 1)) _ e2) zp_X11_match zk_1283 zk_1284 zk_1285 rfl (by decide) rfl rfl rfl (show 1 + 0 ≤ 8 by decide) ⟨by decide, by decide⟩ ⟨show kc ≤ 601024 by omega, show ks ≤ 7293034 by omega⟩ hv.1 dL_law_865) (fun H locs P => ?_)
  exact lv_icmp_eq (tgt := 1695) X.1 X.2.1 dL_law_868 (by decide) (fun _ => K _ _ _ _ _ _ P hI2 (by omega) (by omega) hv) (fun q => absurd rfl q)
theorem zl_c21 (C : zl_C l p s m args cd D c B b L n xs h H locs kc ks ls0) (K : zl_K p l e s m args below meth cd D c B b n kc ks Q) : W p l e room_1 s m args below meth cd H locs kc ks Q (F0 m 873 ls0 []) := by
  obtain ⟨X, P, hI, hkb, hv, hS, -⟩ := C
  obtain ⟨r, h1, h2, e1, e2, hI2⟩ := ok_feed (xs (6 * n + 1)) h hI
  refine lv_aload_n X.1 X.2.1 dL_law_873 rfl (lv_at hv 3 rfl) ?_
  refine zl_push 1 X P hv hS (by decide) (by decide) dL_law_874 dL_law_875 dL_law_877 dL_law_878 dL_law_879 ?_
  refine zw_ki P (zw_V (z := zM_X10_feed) (As := [.int (xs (6 * n + 1))]) (a := 0) (ci := 10) (n0 := 0) (q := (RX10, TX10, 12)) X P (zt_X10_feed (xs (6 * n + 1)) h e1) zp_X10_feed zk_611 zk_612 zk_613 rfl (by decide) rfl rfl rfl (by decide) ⟨by decide, by decide⟩ ⟨show kc ≤ 601024 by omega, show ks ≤ 7293034 by omega⟩ hv.1 dL_law_880) (fun H locs P => ?_)
  refine lv_aload_n X.1 X.2.1 dL_law_883 rfl (lv_at hv 2 rfl) ?_
  refine zl_push 1 X P hv hS (by decide) (by decide) dL_law_884 dL_law_885 dL_law_887 dL_law_888 dL_law_889 ?_
  refine zw_ki P (zw_V (z := zM_X11_feed) (As := [.int (xs (6 * n + 1))]) (a := 60) (ci := 11) (n0 := 0) (q := (RX11, TX11, 35)) X P (zt_X11_feed (xs (6 * n + 1)) _ e2) zp_X11_feed zk_1299 zk_1300 zk_1301 rfl (by decide) rfl rfl rfl (show 1 + 0 ≤ 8 by decide) ⟨by decide, by decide⟩ ⟨show kc ≤ 601024 by omega, show ks ≤ 7293034 by omega⟩ hv.1 dL_law_890) (fun H locs P => ?_)
  exact lv_icmp_eq (tgt := 1695) X.1 X.2.1 dL_law_893 (by decide) (fun _ => K _ _ _ _ _ _ P hI2 (by omega) (by omega) hv) (fun q => absurd rfl q)
theorem zl_c22 (C : zl_C l p s m args cd D c B b L n xs h H locs kc ks ls0) (K : zl_K p l e s m args below meth cd D c B b n kc ks Q) : W p l e room_1 s m args below meth cd H locs kc ks Q (F0 m 898 ls0 []) := by
  obtain ⟨X, P, hI, hkb, hv, hS, -⟩ := C
  obtain ⟨r, h2, e1, e2, hI2⟩ := ok_shade (xs (6 * n + 1)) h hI
  refine lv_aload_n X.1 X.2.1 dL_law_898 rfl (lv_at hv 3 rfl) ?_
  refine zl_push 1 X P hv hS (by decide) (by decide) dL_law_899 dL_law_900 dL_law_902 dL_law_903 dL_law_904 ?_
  refine zw_ki P (zw_V (z := zM_X10_shade) (As := [.int (xs (6 * n + 1))]) (a := 0) (ci := 10) (n0 := 0) (q := (RX10, TX10, 12)) X P (zt_X10_shade (xs (6 * n + 1)) h e1) zp_X10_shade zk_619 zk_620 zk_621 rfl (by decide) rfl rfl rfl (by decide) ⟨by decide, by decide⟩ ⟨show kc ≤ 601024 by omega, show ks ≤ 7293034 by omega⟩ hv.1 dL_law_905) (fun H locs P => ?_)
  refine lv_aload_n X.1 X.2.1 dL_law_908 rfl (lv_at hv 2 rfl) ?_
  refine zl_push 1 X P hv hS (by decide) (by decide) dL_law_909 dL_law_910 dL_law_912 dL_law_913 dL_law_914 ?_
  refine zw_ki P (zw_V (z := zM_X11_shade) (As := [.int (xs (6 * n + 1))]) (a := 60) (ci := 11) (n0 := 0) (q := (RX11, TX11, 35)) X P (zt_X11_shade (xs (6 * n + 1)) _ e2) zp_X11_shade zk_1307 zk_1308 zk_1309 rfl (by decide) rfl rfl rfl (show 1 + 0 ≤ 8 by decide) ⟨by decide, by decide⟩ ⟨show kc ≤ 601024 by omega, show ks ≤ 7293034 by omega⟩ hv.1 dL_law_915) (fun H locs P => ?_)
  exact lv_icmp_eq (tgt := 1695) X.1 X.2.1 dL_law_918 (by decide) (fun _ => K _ _ _ _ _ _ P hI2 (by omega) (by omega) hv) (fun q => absurd rfl q)
theorem zl_c23 (C : zl_C l p s m args cd D c B b L n xs h H locs kc ks ls0) (K : zl_K p l e s m args below meth cd D c B b n kc ks Q) : W p l e room_1 s m args below meth cd H locs kc ks Q (F0 m 923 ls0 []) := by
  obtain ⟨X, P, hI, hkb, hv, hS, -⟩ := C
  obtain ⟨r, h2, e1, e2, hI2⟩ := ok_jam (xs (6 * n + 1)) h hI
  refine lv_aload_n X.1 X.2.1 dL_law_923 rfl (lv_at hv 3 rfl) ?_
  refine zl_push 1 X P hv hS (by decide) (by decide) dL_law_924 dL_law_925 dL_law_927 dL_law_928 dL_law_929 ?_
  refine zw_ki P (zw_V (z := zM_X10_jam) (As := [.int (xs (6 * n + 1))]) (a := 0) (ci := 10) (n0 := 0) (q := (RX10, TX10, 12)) X P (zt_X10_jam (xs (6 * n + 1)) h e1) zp_X10_jam zk_624 zk_625 zk_626 rfl (by decide) rfl rfl rfl (by decide) ⟨by decide, by decide⟩ ⟨show kc ≤ 601024 by omega, show ks ≤ 7293034 by omega⟩ hv.1 dL_law_930) (fun H locs P => ?_)
  refine lv_aload_n X.1 X.2.1 dL_law_933 rfl (lv_at hv 2 rfl) ?_
  refine zl_push 1 X P hv hS (by decide) (by decide) dL_law_934 dL_law_935 dL_law_937 dL_law_938 dL_law_939 ?_
  refine zw_ki P (zw_V (z := zM_X11_jam) (As := [.int (xs (6 * n + 1))]) (a := 60) (ci := 11) (n0 := 0) (q := (RX11, TX11, 35)) X P (zt_X11_jam (xs (6 * n + 1)) _ e2) zp_X11_jam zk_1311 zk_1312 zk_1313 rfl (by decide) rfl rfl rfl (show 1 + 0 ≤ 8 by decide) ⟨by decide, by decide⟩ ⟨show kc ≤ 601024 by omega, show ks ≤ 7293034 by omega⟩ hv.1 dL_law_940) (fun H locs P => ?_)
  exact lv_icmp_eq (tgt := 1695) X.1 X.2.1 dL_law_943 (by decide) (fun _ => K _ _ _ _ _ _ P hI2 (by omega) (by omega) hv) (fun q => absurd rfl q)
theorem zl_c24 (C : zl_C l p s m args cd D c B b L n xs h H locs kc ks ls0) (K : zl_K p l e s m args below meth cd D c B b n kc ks Q) : W p l e room_1 s m args below meth cd H locs kc ks Q (F0 m 948 ls0 []) := by
  obtain ⟨X, P, hI, hkb, hv, hS, -⟩ := C
  obtain ⟨r, h2, e1, e2, hI2⟩ := ok_chain (xs (6 * n + 1)) h hI
  refine lv_aload_n X.1 X.2.1 dL_law_948 rfl (lv_at hv 3 rfl) ?_
  refine zl_push 1 X P hv hS (by decide) (by decide) dL_law_949 dL_law_950 dL_law_952 dL_law_953 dL_law_954 ?_
  refine zw_ki P (zw_V (z := zM_X10_chain) (As := [.int (xs (6 * n + 1))]) (a := 0) (ci := 10) (n0 := 0) (q := (RX10, TX10, 12)) X P (zt_X10_chain (xs (6 * n + 1)) h e1) zp_X10_chain zk_645 zk_646 zk_647 rfl (by decide) rfl rfl rfl (by decide) ⟨by decide, by decide⟩ ⟨show kc ≤ 601024 by omega, show ks ≤ 7293034 by omega⟩ hv.1 dL_law_955) (fun H locs P => ?_)
  refine lv_aload_n X.1 X.2.1 dL_law_958 rfl (lv_at hv 2 rfl) ?_
  refine zl_push 1 X P hv hS (by decide) (by decide) dL_law_959 dL_law_960 dL_law_962 dL_law_963 dL_law_964 ?_
  refine zw_ki P (zw_V (z := zM_X11_chain) (As := [.int (xs (6 * n + 1))]) (a := 60) (ci := 11) (n0 := 0) (q := (RX11, TX11, 35)) X P (zt_X11_chain (xs (6 * n + 1)) _ e2) zp_X11_chain zk_1323 zk_1324 zk_1325 rfl (by decide) rfl rfl rfl (show 1 + 0 ≤ 8 by decide) ⟨by decide, by decide⟩ ⟨show kc ≤ 601024 by omega, show ks ≤ 7293034 by omega⟩ hv.1 dL_law_965) (fun H locs P => ?_)
  exact lv_icmp_eq (tgt := 1695) X.1 X.2.1 dL_law_968 (by decide) (fun _ => K _ _ _ _ _ _ P hI2 (by omega) (by omega) hv) (fun q => absurd rfl q)
theorem zl_c25 (C : zl_C l p s m args cd D c B b L n xs h H locs kc ks ls0) (K : zl_K p l e s m args below meth cd D c B b n kc ks Q) : W p l e room_1 s m args below meth cd H locs kc ks Q (F0 m 973 ls0 []) := by
  obtain ⟨X, P, hI, hkb, hv, hS, -⟩ := C
  obtain ⟨r, h1, h2, e1, e2, hI2⟩ := ok_whereSat (xs (6 * n + 1)) (xs (6 * n + 2)) h hI
  refine lv_aload_n X.1 X.2.1 dL_law_973 rfl (lv_at hv 3 rfl) ?_
  refine zl_push 1 X P hv hS (by decide) (by decide) dL_law_974 dL_law_975 dL_law_977 dL_law_978 dL_law_979 ?_
  refine zl_push 2 X P hv hS (by decide) (by decide) dL_law_980 dL_law_981 dL_law_983 dL_law_984 dL_law_985 ?_
  refine zw_ki P (zw_V (z := zM_X10_whereSat) (As := [.int (xs (6 * n + 1)), .int (xs (6 * n + 2))]) (a := 0) (ci := 10) (n0 := 0) (q := (RX10, TX10, 12)) X P (zt_X10_whereSat (xs (6 * n + 1)) (xs (6 * n + 2)) h e1) zp_X10_whereSat zk_649 zk_650 zk_651 rfl (by decide) rfl rfl rfl (by decide) ⟨by decide, by decide⟩ ⟨show kc ≤ 601024 by omega, show ks ≤ 7293034 by omega⟩ hv.1 dL_law_986) (fun H locs P => ?_)
  refine lv_aload_n X.1 X.2.1 dL_law_989 rfl (lv_at hv 2 rfl) ?_
  refine zl_push 1 X P hv hS (by decide) (by decide) dL_law_990 dL_law_991 dL_law_993 dL_law_994 dL_law_995 ?_
  refine zl_push 2 X P hv hS (by decide) (by decide) dL_law_996 dL_law_997 dL_law_999 dL_law_1000 dL_law_1001 ?_
  refine zw_ki P (zw_V (z := zM_X11_whereSat) (As := [.int (xs (6 * n + 1)), .int (xs (6 * n + 2))]) (a := 60) (ci := 11) (n0 := 0) (q := (RX11, TX11, 35)) X P (zt_X11_whereSat (xs (6 * n + 1)) (xs (6 * n + 2)) _ e2) zp_X11_whereSat zk_1327 zk_1328 zk_1329 rfl (by decide) rfl rfl rfl (show 1 + 0 ≤ 8 by decide) ⟨by decide, by decide⟩ ⟨show kc ≤ 601024 by omega, show ks ≤ 7293034 by omega⟩ hv.1 dL_law_1002) (fun H locs P => ?_)
  exact lv_icmp_eq (tgt := 1695) X.1 X.2.1 dL_law_1005 (by decide) (fun _ => K _ _ _ _ _ _ P hI2 (by omega) (by omega) hv) (fun q => absurd rfl q)
theorem zl_c26 (C : zl_C l p s m args cd D c B b L n xs h H locs kc ks ls0) (K : zl_K p l e s m args below meth cd D c B b n kc ks Q) : W p l e room_1 s m args below meth cd H locs kc ks Q (F0 m 1010 ls0 []) := by
  obtain ⟨X, P, hI, hkb, hv, hS, -⟩ := C
  obtain ⟨r, h1, h2, e1, e2, hI2⟩ := ok_whatIs (xs (6 * n + 1)) (xs (6 * n + 2)) (xs (6 * n + 3)) h hI
  refine lv_aload_n X.1 X.2.1 dL_law_1010 rfl (lv_at hv 3 rfl) ?_
  refine zl_push 1 X P hv hS (by decide) (by decide) dL_law_1011 dL_law_1012 dL_law_1014 dL_law_1015 dL_law_1016 ?_
  refine zl_push 2 X P hv hS (by decide) (by decide) dL_law_1017 dL_law_1018 dL_law_1020 dL_law_1021 dL_law_1022 ?_
  refine zl_push 3 X P hv hS (by decide) (by decide) dL_law_1023 dL_law_1024 dL_law_1026 dL_law_1027 dL_law_1028 ?_
  refine zw_ki P (zw_V (z := zM_X10_whatIs) (As := [.int (xs (6 * n + 1)), .int (xs (6 * n + 2)), .int (xs (6 * n + 3))]) (a := 0) (ci := 10) (n0 := 0) (q := (RX10, TX10, 12)) X P (zt_X10_whatIs (xs (6 * n + 1)) (xs (6 * n + 2)) (xs (6 * n + 3)) h e1) zp_X10_whatIs zk_662 zk_663 zk_664 rfl (by decide) rfl rfl rfl (by decide) ⟨by decide, by decide⟩ ⟨show kc ≤ 601024 by omega, show ks ≤ 7293034 by omega⟩ hv.1 dL_law_1029) (fun H locs P => ?_)
  refine lv_aload_n X.1 X.2.1 dL_law_1032 rfl (lv_at hv 2 rfl) ?_
  refine zl_push 1 X P hv hS (by decide) (by decide) dL_law_1033 dL_law_1034 dL_law_1036 dL_law_1037 dL_law_1038 ?_
  refine zl_push 2 X P hv hS (by decide) (by decide) dL_law_1039 dL_law_1040 dL_law_1042 dL_law_1043 dL_law_1044 ?_
  refine zl_push 3 X P hv hS (by decide) (by decide) dL_law_1045 dL_law_1046 dL_law_1048 dL_law_1049 dL_law_1050 ?_
  refine zw_ki P (zw_V (z := zM_X11_whatIs) (As := [.int (xs (6 * n + 1)), .int (xs (6 * n + 2)), .int (xs (6 * n + 3))]) (a := 60) (ci := 11) (n0 := 0) (q := (RX11, TX11, 35)) X P (zt_X11_whatIs (xs (6 * n + 1)) (xs (6 * n + 2)) (xs (6 * n + 3)) _ e2) zp_X11_whatIs zk_1346 zk_1347 zk_1348 rfl (by decide) rfl rfl rfl (show 1 + 0 ≤ 8 by decide) ⟨by decide, by decide⟩ ⟨show kc ≤ 601024 by omega, show ks ≤ 7293034 by omega⟩ hv.1 dL_law_1051) (fun H locs P => ?_)
  exact lv_icmp_eq (tgt := 1695) X.1 X.2.1 dL_law_1054 (by decide) (fun _ => K _ _ _ _ _ _ P hI2 (by omega) (by omega) hv) (fun q => absurd rfl q)
theorem zl_c27 (C : zl_C l p s m args cd D c B b L n xs h H locs kc ks ls0) (K : zl_K p l e s m args below meth cd D c B b n kc ks Q) : W p l e room_1 s m args below meth cd H locs kc ks Q (F0 m 1059 ls0 []) := by
  obtain ⟨X, P, hI, hkb, hv, hS, -⟩ := C
  obtain ⟨r, h1, h2, e1, e2, hI2⟩ := ok_two (xs (6 * n + 1)) (xs (6 * n + 2)) (xs (6 * n + 3)) h hI
  refine lv_aload_n X.1 X.2.1 dL_law_1059 rfl (lv_at hv 3 rfl) ?_
  refine zl_push 1 X P hv hS (by decide) (by decide) dL_law_1060 dL_law_1061 dL_law_1063 dL_law_1064 dL_law_1065 ?_
  refine zl_push 2 X P hv hS (by decide) (by decide) dL_law_1066 dL_law_1067 dL_law_1069 dL_law_1070 dL_law_1071 ?_
  refine zl_push 3 X P hv hS (by decide) (by decide) dL_law_1072 dL_law_1073 dL_law_1075 dL_law_1076 dL_law_1077 ?_
  refine zw_ki P (zw_V (z := zM_X10_two) (As := [.int (xs (6 * n + 1)), .int (xs (6 * n + 2)), .int (xs (6 * n + 3))]) (a := 0) (ci := 10) (n0 := 0) (q := (RX10, TX10, 12)) X P (zt_X10_two (xs (6 * n + 1)) (xs (6 * n + 2)) (xs (6 * n + 3)) h e1) zp_X10_two zk_671 zk_672 zk_673 rfl (by decide) rfl rfl rfl (by decide) ⟨by decide, by decide⟩ ⟨show kc ≤ 601024 by omega, show ks ≤ 7293034 by omega⟩ hv.1 dL_law_1078) (fun H locs P => ?_)
  refine lv_aload_n X.1 X.2.1 dL_law_1081 rfl (lv_at hv 2 rfl) ?_
  refine zl_push 1 X P hv hS (by decide) (by decide) dL_law_1082 dL_law_1083 dL_law_1085 dL_law_1086 dL_law_1087 ?_
  refine zl_push 2 X P hv hS (by decide) (by decide) dL_law_1088 dL_law_1089 dL_law_1091 dL_law_1092 dL_law_1093 ?_
  refine zl_push 3 X P hv hS (by decide) (by decide) dL_law_1094 dL_law_1095 dL_law_1097 dL_law_1098 dL_law_1099 ?_
  refine zw_ki P (zw_V (z := zM_X11_two) (As := [.int (xs (6 * n + 1)), .int (xs (6 * n + 2)), .int (xs (6 * n + 3))]) (a := 60) (ci := 11) (n0 := 0) (q := (RX11, TX11, 35)) X P (zt_X11_two (xs (6 * n + 1)) (xs (6 * n + 2)) (xs (6 * n + 3)) _ e2) zp_X11_two zk_1350 zk_1351 zk_1352 rfl (by decide) rfl rfl rfl (show 1 + 0 ≤ 8 by decide) ⟨by decide, by decide⟩ ⟨show kc ≤ 601024 by omega, show ks ≤ 7293034 by omega⟩ hv.1 dL_law_1100) (fun H locs P => ?_)
  exact lv_icmp_eq (tgt := 1695) X.1 X.2.1 dL_law_1103 (by decide) (fun _ => K _ _ _ _ _ _ P hI2 (by omega) (by omega) hv) (fun q => absurd rfl q)
theorem zl_c28 (C : zl_C l p s m args cd D c B b L n xs h H locs kc ks ls0) (K : zl_K p l e s m args below meth cd D c B b n kc ks Q) : W p l e room_1 s m args below meth cd H locs kc ks Q (F0 m 1108 ls0 []) := by
  obtain ⟨X, P, hI, hkb, hv, hS, -⟩ := C
  obtain ⟨r, h1, h2, e1, e2, hI2⟩ := ok_rain (xs (6 * n + 1)) (xs (6 * n + 2)) (xs (6 * n + 3)) (xs (6 * n + 4)) h hI
  refine lv_aload_n X.1 X.2.1 dL_law_1108 rfl (lv_at hv 3 rfl) ?_
  refine zl_push 1 X P hv hS (by decide) (by decide) dL_law_1109 dL_law_1110 dL_law_1112 dL_law_1113 dL_law_1114 ?_
  refine zl_push 2 X P hv hS (by decide) (by decide) dL_law_1115 dL_law_1116 dL_law_1118 dL_law_1119 dL_law_1120 ?_
  refine zl_push 3 X P hv hS (by decide) (by decide) dL_law_1121 dL_law_1122 dL_law_1124 dL_law_1125 dL_law_1126 ?_
  refine zl_push 4 X P hv hS (by decide) (by decide) dL_law_1127 dL_law_1128 dL_law_1130 dL_law_1131 dL_law_1132 ?_
  refine zw_kl P (zw_V (z := zM_X10_rain) (As := [.int (xs (6 * n + 1)), .int (xs (6 * n + 2)), .int (xs (6 * n + 3)), .int (xs (6 * n + 4))]) (a := 0) (ci := 10) (n0 := 0) (q := (RX10, TX10, 12)) X P (zt_X10_rain (xs (6 * n + 1)) (xs (6 * n + 2)) (xs (6 * n + 3)) (xs (6 * n + 4)) h e1) zp_X10_rain zk_679 zk_680 zk_681 rfl (by decide) rfl rfl rfl (by decide) ⟨by decide, by decide⟩ ⟨show kc ≤ 601024 by omega, show ks ≤ 7293034 by omega⟩ hv.1 dL_law_1133) (fun H locs P => ?_)
  refine lv_aload_n X.1 X.2.1 dL_law_1136 rfl (lv_at hv 2 rfl) ?_
  refine zl_push 1 X P hv hS (by decide) (by decide) dL_law_1137 dL_law_1138 dL_law_1140 dL_law_1141 dL_law_1142 ?_
  refine zl_push 2 X P hv hS (by decide) (by decide) dL_law_1143 dL_law_1144 dL_law_1146 dL_law_1147 dL_law_1148 ?_
  refine zl_push 3 X P hv hS (by decide) (by decide) dL_law_1149 dL_law_1150 dL_law_1152 dL_law_1153 dL_law_1154 ?_
  refine zl_push 4 X P hv hS (by decide) (by decide) dL_law_1155 dL_law_1156 dL_law_1158 dL_law_1159 dL_law_1160 ?_
  refine zw_kl P (zw_V (z := zM_X11_rain) (As := [.int (xs (6 * n + 1)), .int (xs (6 * n + 2)), .int (xs (6 * n + 3)), .int (xs (6 * n + 4))]) (a := 60) (ci := 11) (n0 := 0) (q := (RX11, TX11, 35)) X P (zt_X11_rain (xs (6 * n + 1)) (xs (6 * n + 2)) (xs (6 * n + 3)) (xs (6 * n + 4)) _ e2) zp_X11_rain zk_1355 zk_1356 zk_1357 rfl (by decide) rfl rfl rfl (show 2 + 0 ≤ 8 by decide) ⟨by decide, by decide⟩ ⟨show kc ≤ 601024 by omega, show ks ≤ 7293034 by omega⟩ hv.1 dL_law_1161) (fun H locs P => ?_)
  refine W.lcmp X.1 X.2.1 dL_law_1164 ?_
  rw [zl_cmp]
  exact lv_if_eq (tgt := 1695) X.1 X.2.1 dL_law_1165 (by decide) (fun _ => K _ _ _ _ _ _ P hI2 (by omega) (by omega) hv) (fun q => absurd rfl q)
theorem zl_c29 (C : zl_C l p s m args cd D c B b L n xs h H locs kc ks ls0) (K : zl_K p l e s m args below meth cd D c B b n kc ks Q) : W p l e room_1 s m args below meth cd H locs kc ks Q (F0 m 1170 ls0 []) := by
  obtain ⟨X, P, hI, hkb, hv, hS, -⟩ := C
  obtain ⟨r, h2, e1, e2, hI2⟩ := ok_mean (xs (6 * n + 1)) h hI
  refine lv_aload_n X.1 X.2.1 dL_law_1170 rfl (lv_at hv 3 rfl) ?_
  refine zl_push 1 X P hv hS (by decide) (by decide) dL_law_1171 dL_law_1172 dL_law_1174 dL_law_1175 dL_law_1176 ?_
  refine zw_kl P (zw_V (z := zM_X10_mean) (As := [.int (xs (6 * n + 1))]) (a := 0) (ci := 10) (n0 := 0) (q := (RX10, TX10, 12)) X P (zt_X10_mean (xs (6 * n + 1)) h e1) zp_X10_mean zk_705 zk_706 zk_707 rfl (by decide) rfl rfl rfl (by decide) ⟨by decide, by decide⟩ ⟨show kc ≤ 601024 by omega, show ks ≤ 7293034 by omega⟩ hv.1 dL_law_1177) (fun H locs P => ?_)
  refine lv_aload_n X.1 X.2.1 dL_law_1180 rfl (lv_at hv 2 rfl) ?_
  refine zl_push 1 X P hv hS (by decide) (by decide) dL_law_1181 dL_law_1182 dL_law_1184 dL_law_1185 dL_law_1186 ?_
  refine zw_kl P (zw_V (z := zM_X11_mean) (As := [.int (xs (6 * n + 1))]) (a := 60) (ci := 11) (n0 := 0) (q := (RX11, TX11, 35)) X P (zt_X11_mean (xs (6 * n + 1)) _ e2) zp_X11_mean zk_1367 zk_1368 zk_1369 rfl (by decide) rfl rfl rfl (show 2 + 0 ≤ 8 by decide) ⟨by decide, by decide⟩ ⟨show kc ≤ 601024 by omega, show ks ≤ 7293034 by omega⟩ hv.1 dL_law_1187) (fun H locs P => ?_)
  refine W.lcmp X.1 X.2.1 dL_law_1190 ?_
  rw [zl_cmp]
  exact lv_if_eq (tgt := 1695) X.1 X.2.1 dL_law_1191 (by decide) (fun _ => K _ _ _ _ _ _ P hI2 (by omega) (by omega) hv) (fun q => absurd rfl q)
theorem zl_c30 (C : zl_C l p s m args cd D c B b L n xs h H locs kc ks ls0) (K : zl_K p l e s m args below meth cd D c B b n kc ks Q) : W p l e room_1 s m args below meth cd H locs kc ks Q (F0 m 1196 ls0 []) := by
  obtain ⟨X, P, hI, hkb, hv, hS, -⟩ := C
  obtain ⟨r, h2, e1, e2, hI2⟩ := ok_forged (xs (6 * n + 1)) h hI
  refine lv_aload_n X.1 X.2.1 dL_law_1196 rfl (lv_at hv 3 rfl) ?_
  refine zl_push 1 X P hv hS (by decide) (by decide) dL_law_1197 dL_law_1198 dL_law_1200 dL_law_1201 dL_law_1202 ?_
  refine zw_ki P (zw_V (z := zM_X10_forged) (As := [.int (xs (6 * n + 1))]) (a := 0) (ci := 10) (n0 := 0) (q := (RX10, TX10, 12)) X P (zt_X10_forged (xs (6 * n + 1)) h e1) zp_X10_forged zk_709 zk_710 zk_711 rfl (by decide) rfl rfl rfl (by decide) ⟨by decide, by decide⟩ ⟨show kc ≤ 601024 by omega, show ks ≤ 7293034 by omega⟩ hv.1 dL_law_1203) (fun H locs P => ?_)
  refine lv_aload_n X.1 X.2.1 dL_law_1206 rfl (lv_at hv 2 rfl) ?_
  refine zl_push 1 X P hv hS (by decide) (by decide) dL_law_1207 dL_law_1208 dL_law_1210 dL_law_1211 dL_law_1212 ?_
  refine zw_ki P (zw_V (z := zM_X11_forged) (As := [.int (xs (6 * n + 1))]) (a := 60) (ci := 11) (n0 := 0) (q := (RX11, TX11, 35)) X P (zt_X11_forged (xs (6 * n + 1)) _ e2) zp_X11_forged zk_1371 zk_1372 zk_1373 rfl (by decide) rfl rfl rfl (show 1 + 0 ≤ 8 by decide) ⟨by decide, by decide⟩ ⟨show kc ≤ 601024 by omega, show ks ≤ 7293034 by omega⟩ hv.1 dL_law_1213) (fun H locs P => ?_)
  exact lv_icmp_eq (tgt := 1695) X.1 X.2.1 dL_law_1216 (by decide) (fun _ => K _ _ _ _ _ _ P hI2 (by omega) (by omega) hv) (fun q => absurd rfl q)
theorem zl_c31 (C : zl_C l p s m args cd D c B b L n xs h H locs kc ks ls0) (K : zl_K p l e s m args below meth cd D c B b n kc ks Q) : W p l e room_1 s m args below meth cd H locs kc ks Q (F0 m 1221 ls0 []) := by
  obtain ⟨X, P, hI, hkb, hv, hS, -⟩ := C
  obtain ⟨r, h1, h2, e1, e2, hI2⟩ := ok_judge (xs (6 * n + 1)) h hI
  refine lv_aload_n X.1 X.2.1 dL_law_1221 rfl (lv_at hv 3 rfl) ?_
  refine zl_push 1 X P hv hS (by decide) (by decide) dL_law_1222 dL_law_1223 dL_law_1225 dL_law_1226 dL_law_1227 ?_
  refine zw_ki P (zw_V (z := zM_X10_judge) (As := [.int (xs (6 * n + 1))]) (a := 0) (ci := 10) (n0 := 0) (q := (RX10, TX10, 12)) X P (zt_X10_judge (xs (6 * n + 1)) h e1) zp_X10_judge zk_713 zk_714 zk_715 rfl (by decide) rfl rfl rfl (by decide) ⟨by decide, by decide⟩ ⟨show kc ≤ 601024 by omega, show ks ≤ 7293034 by omega⟩ hv.1 dL_law_1228) (fun H locs P => ?_)
  refine lv_aload_n X.1 X.2.1 dL_law_1231 rfl (lv_at hv 2 rfl) ?_
  refine zl_push 1 X P hv hS (by decide) (by decide) dL_law_1232 dL_law_1233 dL_law_1235 dL_law_1236 dL_law_1237 ?_
  refine zw_ki P (zw_V (z := zM_X11_judge) (As := [.int (xs (6 * n + 1))]) (a := 60) (ci := 11) (n0 := 0) (q := (RX11, TX11, 35)) X P (zt_X11_judge (xs (6 * n + 1)) _ e2) zp_X11_judge zk_1375 zk_1376 zk_1377 rfl (by decide) rfl rfl rfl (show 1 + 0 ≤ 8 by decide) ⟨by decide, by decide⟩ ⟨show kc ≤ 601024 by omega, show ks ≤ 7293034 by omega⟩ hv.1 dL_law_1238) (fun H locs P => ?_)
  exact lv_icmp_eq (tgt := 1695) X.1 X.2.1 dL_law_1241 (by decide) (fun _ => K _ _ _ _ _ _ P hI2 (by omega) (by omega) hv) (fun q => absurd rfl q)
theorem zl_c32 (C : zl_C l p s m args cd D c B b L n xs h H locs kc ks ls0) (K : zl_K p l e s m args below meth cd D c B b n kc ks Q) : W p l e room_1 s m args below meth cd H locs kc ks Q (F0 m 1246 ls0 []) := by
  obtain ⟨X, P, hI, hkb, hv, hS, -⟩ := C
  obtain ⟨r, h1, h2, e1, e2, hI2⟩ := ok_years (xs (6 * n + 1)) (xs (6 * n + 2)) (xs (6 * n + 3)) h hI
  refine lv_aload_n X.1 X.2.1 dL_law_1246 rfl (lv_at hv 3 rfl) ?_
  refine zl_push 1 X P hv hS (by decide) (by decide) dL_law_1247 dL_law_1248 dL_law_1250 dL_law_1251 dL_law_1252 ?_
  refine zl_push 2 X P hv hS (by decide) (by decide) dL_law_1253 dL_law_1254 dL_law_1256 dL_law_1257 dL_law_1258 ?_
  refine zl_push 3 X P hv hS (by decide) (by decide) dL_law_1259 dL_law_1260 dL_law_1262 dL_law_1263 dL_law_1264 ?_
  refine zw_ki P (zw_V (z := zM_X10_years) (As := [.int (xs (6 * n + 1)), .int (xs (6 * n + 2)), .int (xs (6 * n + 3))]) (a := 0) (ci := 10) (n0 := 0) (q := (RX10, TX10, 12)) X P (zt_X10_years (xs (6 * n + 1)) (xs (6 * n + 2)) (xs (6 * n + 3)) h e1) zp_X10_years zk_717 zk_718 zk_719 rfl (by decide) rfl rfl rfl (by decide) ⟨by decide, by decide⟩ ⟨show kc ≤ 601024 by omega, show ks ≤ 7293034 by omega⟩ hv.1 dL_law_1265) (fun H locs P => ?_)
  refine lv_aload_n X.1 X.2.1 dL_law_1268 rfl (lv_at hv 2 rfl) ?_
  refine zl_push 1 X P hv hS (by decide) (by decide) dL_law_1269 dL_law_1270 dL_law_1272 dL_law_1273 dL_law_1274 ?_
  refine zl_push 2 X P hv hS (by decide) (by decide) dL_law_1275 dL_law_1276 dL_law_1278 dL_law_1279 dL_law_1280 ?_
  refine zl_push 3 X P hv hS (by decide) (by decide) dL_law_1281 dL_law_1282 dL_law_1284 dL_law_1285 dL_law_1286 ?_
  refine zw_ki P (zw_V (z := zM_X11_years) (As := [.int (xs (6 * n + 1)), .int (xs (6 * n + 2)), .int (xs (6 * n + 3))]) (a := 60) (ci := 11) (n0 := 0) (q := (RX11, TX11, 35)) X P (zt_X11_years (xs (6 * n + 1)) (xs (6 * n + 2)) (xs (6 * n + 3)) _ e2) zp_X11_years zk_1379 zk_1380 zk_1381 rfl (by decide) rfl rfl rfl (show 1 + 0 ≤ 8 by decide) ⟨by decide, by decide⟩ ⟨show kc ≤ 601024 by omega, show ks ≤ 7293034 by omega⟩ hv.1 dL_law_1287) (fun H locs P => ?_)
  exact lv_icmp_eq (tgt := 1695) X.1 X.2.1 dL_law_1290 (by decide) (fun _ => K _ _ _ _ _ _ P hI2 (by omega) (by omega) hv) (fun q => absurd rfl q)
theorem zl_c33 (C : zl_C l p s m args cd D c B b L n xs h H locs kc ks ls0) (K : zl_K p l e s m args below meth cd D c B b n kc ks Q) : W p l e room_1 s m args below meth cd H locs kc ks Q (F0 m 1295 ls0 []) := by
  obtain ⟨X, P, hI, hkb, hv, hS, -⟩ := C
  obtain ⟨r, h1, h2, e1, e2, hI2⟩ := ok_image  h hI
  refine lv_aload_n X.1 X.2.1 dL_law_1295 rfl (lv_at hv 3 rfl) ?_
  refine zw_ki P (zw_V (z := zM_X10_image) (As := []) (a := 0) (ci := 10) (n0 := 0) (q := (RX10, TX10, 12)) X P (zt_X10_image  h e1) zp_X10_image zk_724 zk_725 zk_726 rfl (by decide) rfl rfl rfl (by decide) ⟨by decide, by decide⟩ ⟨show kc ≤ 601024 by omega, show ks ≤ 7293034 by omega⟩ hv.1 dL_law_1296) (fun H locs P => ?_)
  refine lv_aload_n X.1 X.2.1 dL_law_1299 rfl (lv_at hv 2 rfl) ?_
  refine zw_ki P (zw_V (z := zM_X11_image) (As := []) (a := 60) (ci := 11) (n0 := 0) (q := (RX11, TX11, 35)) X P (zt_X11_image  _ e2) zp_X11_image zk_1174 zk_1175 zk_1176 rfl (by decide) rfl rfl rfl (show 1 + 0 ≤ 8 by decide) ⟨by decide, by decide⟩ ⟨show kc ≤ 601024 by omega, show ks ≤ 7293034 by omega⟩ hv.1 dL_law_1300) (fun H locs P => ?_)
  exact lv_icmp_eq (tgt := 1695) X.1 X.2.1 dL_law_1303 (by decide) (fun _ => K _ _ _ _ _ _ P hI2 (by omega) (by omega) hv) (fun q => absurd rfl q)
theorem zl_c34 (C : zl_C l p s m args cd D c B b L n xs h H locs kc ks ls0) (K : zl_K p l e s m args below meth cd D c B b n kc ks Q) : W p l e room_1 s m args below meth cd H locs kc ks Q (F0 m 1308 ls0 []) := by
  obtain ⟨X, P, hI, hkb, hv, hS, -⟩ := C
  obtain ⟨r, h1, h2, e1, e2, hI2⟩ := ok_restore  h hI
  refine lv_aload_n X.1 X.2.1 dL_law_1308 rfl (lv_at hv 3 rfl) ?_
  refine zw_ki P (zw_V (z := zM_X10_restore) (As := []) (a := 0) (ci := 10) (n0 := 0) (q := (RX10, TX10, 12)) X P (zt_X10_restore  h e1) zp_X10_restore zk_728 zk_729 zk_730 rfl (by decide) rfl rfl rfl (by decide) ⟨by decide, by decide⟩ ⟨show kc ≤ 601024 by omega, show ks ≤ 7293034 by omega⟩ hv.1 dL_law_1309) (fun H locs P => ?_)
  refine lv_aload_n X.1 X.2.1 dL_law_1312 rfl (lv_at hv 2 rfl) ?_
  refine zw_ki P (zw_V (z := zM_X11_restore) (As := []) (a := 60) (ci := 11) (n0 := 0) (q := (RX11, TX11, 35)) X P (zt_X11_restore  _ e2) zp_X11_restore zk_1178 zk_1179 zk_1180 rfl (by decide) rfl rfl rfl (show 1 + 0 ≤ 8 by decide) ⟨by decide, by decide⟩ ⟨show kc ≤ 601024 by omega, show ks ≤ 7293034 by omega⟩ hv.1 dL_law_1313) (fun H locs P => ?_)
  exact lv_icmp_eq (tgt := 1695) X.1 X.2.1 dL_law_1316 (by decide) (fun _ => K _ _ _ _ _ _ P hI2 (by omega) (by omega) hv) (fun q => absurd rfl q)
theorem zl_c35 (C : zl_C l p s m args cd D c B b L n xs h H locs kc ks ls0) (K : zl_K p l e s m args below meth cd D c B b n kc ks Q) : W p l e room_1 s m args below meth cd H locs kc ks Q (F0 m 1321 ls0 []) := by
  obtain ⟨X, P, hI, hkb, hv, hS, -⟩ := C
  obtain ⟨r, h2, e1, e2, hI2⟩ := ok_count (xs (6 * n + 1)) h hI
  refine lv_aload_n X.1 X.2.1 dL_law_1321 rfl (lv_at hv 3 rfl) ?_
  refine zl_push 1 X P hv hS (by decide) (by decide) dL_law_1322 dL_law_1323 dL_law_1325 dL_law_1326 dL_law_1327 ?_
  refine zw_ki P (zw_V (z := zM_X10_count) (As := [.int (xs (6 * n + 1))]) (a := 0) (ci := 10) (n0 := 0) (q := (RX10, TX10, 12)) X P (zt_X10_count (xs (6 * n + 1)) h e1) zp_X10_count zk_732 zk_733 zk_734 rfl (by decide) rfl rfl rfl (by decide) ⟨by decide, by decide⟩ ⟨show kc ≤ 601024 by omega, show ks ≤ 7293034 by omega⟩ hv.1 dL_law_1328) (fun H locs P => ?_)
  refine lv_aload_n X.1 X.2.1 dL_law_1331 rfl (lv_at hv 2 rfl) ?_
  refine zl_push 1 X P hv hS (by decide) (by decide) dL_law_1332 dL_law_1333 dL_law_1335 dL_law_1336 dL_law_1337 ?_
  refine zw_ki P (zw_V (z := zM_X11_count) (As := [.int (xs (6 * n + 1))]) (a := 60) (ci := 11) (n0 := 0) (q := (RX11, TX11, 35)) X P (zt_X11_count (xs (6 * n + 1)) _ e2) zp_X11_count zk_1390 zk_1391 zk_1392 rfl (by decide) rfl rfl rfl (show 1 + 0 ≤ 8 by decide) ⟨by decide, by decide⟩ ⟨show kc ≤ 601024 by omega, show ks ≤ 7293034 by omega⟩ hv.1 dL_law_1338) (fun H locs P => ?_)
  exact lv_icmp_eq (tgt := 1695) X.1 X.2.1 dL_law_1341 (by decide) (fun _ => K _ _ _ _ _ _ P hI2 (by omega) (by omega) hv) (fun q => absurd rfl q)
theorem zl_c36 (C : zl_C l p s m args cd D c B b L n xs h H locs kc ks ls0) (K : zl_K p l e s m args below meth cd D c B b n kc ks Q) : W p l e room_1 s m args below meth cd H locs kc ks Q (F0 m 1346 ls0 []) := by
  obtain ⟨X, P, hI, hkb, hv, hS, -⟩ := C
  obtain ⟨r, h1, h2, e1, e2, hI2⟩ := ok_keep (xs (6 * n + 1)) (xs (6 * n + 2)) (xs (6 * n + 3)) (xs (6 * n + 4)) h hI
  refine lv_aload_n X.1 X.2.1 dL_law_1346 rfl (lv_at hv 3 rfl) ?_
  refine zl_push 1 X P hv hS (by decide) (by decide) dL_law_1347 dL_law_1348 dL_law_1350 dL_law_1351 dL_law_1352 ?_
  refine zl_push 2 X P hv hS (by decide) (by decide) dL_law_1353 dL_law_1354 dL_law_1356 dL_law_1357 dL_law_1358 ?_
  refine zl_push 3 X P hv hS (by decide) (by decide) dL_law_1359 dL_law_1360 dL_law_1362 dL_law_1363 dL_law_1364 ?_
  refine zl_push 4 X P hv hS (by decide) (by decide) dL_law_1365 dL_law_1366 dL_law_1368 dL_law_1369 dL_law_1370 ?_
  refine zw_ki P (zw_V (z := zM_X10_keep) (As := [.int (xs (6 * n + 1)), .int (xs (6 * n + 2)), .int (xs (6 * n + 3)), .int (xs (6 * n + 4))]) (a := 0) (ci := 10) (n0 := 0) (q := (RX10, TX10, 12)) X P (zt_X10_keep (xs (6 * n + 1)) (xs (6 * n + 2)) (xs (6 * n + 3)) (xs (6 * n + 4)) h e1) zp_X10_keep zk_736 zk_737 zk_738 rfl (by decide) rfl rfl rfl (by decide) ⟨by decide, by decide⟩ ⟨show kc ≤ 601024 by omega, show ks ≤ 7293034 by omega⟩ hv.1 dL_law_1371) (fun H locs P => ?_)
  refine lv_aload_n X.1 X.2.1 dL_law_1374 rfl (lv_at hv 2 rfl) ?_
  refine zl_push 1 X P hv hS (by decide) (by decide) dL_law_1375 dL_law_1376 dL_law_1378 dL_law_1379 dL_law_1380 ?_
  refine zl_push 2 X P hv hS (by decide) (by decide) dL_law_1381 dL_law_1382 dL_law_1384 dL_law_1385 dL_law_1386 ?_
  refine zl_push 3 X P hv hS (by decide) (by decide) dL_law_1387 dL_law_1388 dL_law_1390 dL_law_1391 dL_law_1392 ?_
  refine zl_push 4 X P hv hS (by decide) (by decide) dL_law_1393 dL_law_1394 dL_law_1396 dL_law_1397 dL_law_1398 ?_
  refine zw_ki P (zw_V (z := zM_X11_keep) (As := [.int (xs (6 * n + 1)), .int (xs (6 * n + 2)), .int (xs (6 * n + 3)), .int (xs (6 * n + 4))]) (a := 60) (ci := 11) (n0 := 0) (q := (RX11, TX11, 35)) X P (zt_X11_keep (xs (6 * n + 1)) (xs (6 * n + 2)) (xs (6 * n + 3)) (xs (6 * n + 4)) _ e2) zp_X11_keep zk_1394 zk_1395 zk_1396 rfl (by decide) rfl rfl rfl (show 1 + 0 ≤ 8 by decide) ⟨by decide, by decide⟩ ⟨show kc ≤ 601024 by omega, show ks ≤ 7293034 by omega⟩ hv.1 dL_law_1399) (fun H locs P => ?_)
  exact lv_icmp_eq (tgt := 1695) X.1 X.2.1 dL_law_1402 (by decide) (fun _ => K _ _ _ _ _ _ P hI2 (by omega) (by omega) hv) (fun q => absurd rfl q)
theorem zl_c37 (C : zl_C l p s m args cd D c B b L n xs h H locs kc ks ls0) (K : zl_K p l e s m args below meth cd D c B b n kc ks Q) : W p l e room_1 s m args below meth cd H locs kc ks Q (F0 m 1407 ls0 []) := by
  obtain ⟨X, P, hI, hkb, hv, hS, -⟩ := C
  obtain ⟨r, h1, h2, e1, e2, hI2⟩ := ok_row (xs (6 * n + 1)) (xs (6 * n + 2)) (xs (6 * n + 3)) h hI
  refine lv_aload_n X.1 X.2.1 dL_law_1407 rfl (lv_at hv 3 rfl) ?_
  refine zl_push 1 X P hv hS (by decide) (by decide) dL_law_1408 dL_law_1409 dL_law_1411 dL_law_1412 dL_law_1413 ?_
  refine zl_push 2 X P hv hS (by decide) (by decide) dL_law_1414 dL_law_1415 dL_law_1417 dL_law_1418 dL_law_1419 ?_
  refine zl_push 3 X P hv hS (by decide) (by decide) dL_law_1420 dL_law_1421 dL_law_1423 dL_law_1424 dL_law_1425 ?_
  refine zw_ki P (zw_V (z := zM_X10_row) (As := [.int (xs (6 * n + 1)), .int (xs (6 * n + 2)), .int (xs (6 * n + 3))]) (a := 0) (ci := 10) (n0 := 0) (q := (RX10, TX10, 12)) X P (zt_X10_row (xs (6 * n + 1)) (xs (6 * n + 2)) (xs (6 * n + 3)) h e1) zp_X10_row zk_746 zk_747 zk_748 rfl (by decide) rfl rfl rfl (by decide) ⟨by decide, by decide⟩ ⟨show kc ≤ 601024 by omega, show ks ≤ 7293034 by omega⟩ hv.1 dL_law_1426) (fun H locs P => ?_)
  refine lv_aload_n X.1 X.2.1 dL_law_1429 rfl (lv_at hv 2 rfl) ?_
  refine zl_push 1 X P hv hS (by decide) (by decide) dL_law_1430 dL_law_1431 dL_law_1433 dL_law_1434 dL_law_1435 ?_
  refine zl_push 2 X P hv hS (by decide) (by decide) dL_law_1436 dL_law_1437 dL_law_1439 dL_law_1440 dL_law_1441 ?_
  refine zl_push 3 X P hv hS (by decide) (by decide) dL_law_1442 dL_law_1443 dL_law_1445 dL_law_1446 dL_law_1447 ?_
  refine zw_ki P (zw_V (z := zM_X11_row) (As := [.int (xs (6 * n + 1)), .int (xs (6 * n + 2)), .int (xs (6 * n + 3))]) (a := 60) (ci := 11) (n0 := 0) (q := (RX11, TX11, 35)) X P (zt_X11_row (xs (6 * n + 1)) (xs (6 * n + 2)) (xs (6 * n + 3)) _ e2) zp_X11_row zk_1399 zk_1400 zk_1401 rfl (by decide) rfl rfl rfl (show 1 + 0 ≤ 8 by decide) ⟨by decide, by decide⟩ ⟨show kc ≤ 601024 by omega, show ks ≤ 7293034 by omega⟩ hv.1 dL_law_1448) (fun H locs P => ?_)
  exact lv_icmp_eq (tgt := 1695) X.1 X.2.1 dL_law_1451 (by decide) (fun _ => K _ _ _ _ _ _ P hI2 (by omega) (by omega) hv) (fun q => absurd rfl q)
theorem zl_c38 (C : zl_C l p s m args cd D c B b L n xs h H locs kc ks ls0) (K : zl_K p l e s m args below meth cd D c B b n kc ks Q) : W p l e room_1 s m args below meth cd H locs kc ks Q (F0 m 1456 ls0 []) := by
  obtain ⟨X, P, hI, hkb, hv, hS, -⟩ := C
  obtain ⟨r, h1, h2, e1, e2, hI2⟩ := ok_put (xs (6 * n + 1)) (xs (6 * n + 2)) (xs (6 * n + 3)) h hI
  refine lv_aload_n X.1 X.2.1 dL_law_1456 rfl (lv_at hv 3 rfl) ?_
  refine zl_push 1 X P hv hS (by decide) (by decide) dL_law_1457 dL_law_1458 dL_law_1460 dL_law_1461 dL_law_1462 ?_
  refine zl_push 2 X P hv hS (by decide) (by decide) dL_law_1463 dL_law_1464 dL_law_1466 dL_law_1467 dL_law_1468 ?_
  refine zl_push 3 X P hv hS (by decide) (by decide) dL_law_1469 dL_law_1470 dL_law_1472 dL_law_1473 dL_law_1474 ?_
  refine zw_ki P (zw_V (z := zM_X10_put) (As := [.int (xs (6 * n + 1)), .int (xs (6 * n + 2)), .int (xs (6 * n + 3))]) (a := 0) (ci := 10) (n0 := 0) (q := (RX10, TX10, 12)) X P (zt_X10_put (xs (6 * n + 1)) (xs (6 * n + 2)) (xs (6 * n + 3)) h e1) zp_X10_put zk_757 zk_758 zk_759 rfl (by decide) rfl rfl rfl (by decide) ⟨by decide, by decide⟩ ⟨show kc ≤ 601024 by omega, show ks ≤ 7293034 by omega⟩ hv.1 dL_law_1475) (fun H locs P => ?_)
  refine lv_aload_n X.1 X.2.1 dL_law_1478 rfl (lv_at hv 2 rfl) ?_
  refine zl_push 1 X P hv hS (by decide) (by decide) dL_law_1479 dL_law_1480 dL_law_1482 dL_law_1483 dL_law_1484 ?_
  refine zl_push 2 X P hv hS (by decide) (by decide) dL_law_1485 dL_law_1486 dL_law_1488 dL_law_1489 dL_law_1490 ?_
  refine zl_push 3 X P hv hS (by decide) (by decide) dL_law_1491 dL_law_1492 dL_law_1494 dL_law_1495 dL_law_1496 ?_
  refine zw_ki P (zw_V (z := zM_X11_put) (As := [.int (xs (6 * n + 1)), .int (xs (6 * n + 2)), .int (xs (6 * n + 3))]) (a := 60) (ci := 11) (n0 := 0) (q := (RX11, TX11, 35)) X P (zt_X11_put (xs (6 * n + 1)) (xs (6 * n + 2)) (xs (6 * n + 3)) _ e2) zp_X11_put zk_1403 zk_1404 zk_1405 rfl (by decide) rfl rfl rfl (show 1 + 0 ≤ 8 by decide) ⟨by decide, by decide⟩ ⟨show kc ≤ 601024 by omega, show ks ≤ 7293034 by omega⟩ hv.1 dL_law_1497) (fun H locs P => ?_)
  exact lv_icmp_eq (tgt := 1695) X.1 X.2.1 dL_law_1500 (by decide) (fun _ => K _ _ _ _ _ _ P hI2 (by omega) (by omega) hv) (fun q => absurd rfl q)
theorem zl_c40 (C : zl_C l p s m args cd D c B b L n xs h H locs kc ks ls0) (K : zl_K p l e s m args below meth cd D c B b n kc ks Q) : W p l e room_1 s m args below meth cd H locs kc ks Q (F0 m 1572 ls0 []) := by
  obtain ⟨X, P, hI, hkb, hv, hS, -⟩ := C
  obtain ⟨r, h1, h2, e1, e2, hI2⟩ := ok_copy (xs (6 * n + 1)) (xs (6 * n + 2)) (xs (6 * n + 3)) (xs (6 * n + 4)) (xs (6 * n + 5)) h hI
  refine lv_aload_n X.1 X.2.1 dL_law_1572 rfl (lv_at hv 3 rfl) ?_
  refine zl_push 1 X P hv hS (by decide) (by decide) dL_law_1573 dL_law_1574 dL_law_1576 dL_law_1577 dL_law_1578 ?_
  refine zl_push 2 X P hv hS (by decide) (by decide) dL_law_1579 dL_law_1580 dL_law_1582 dL_law_1583 dL_law_1584 ?_
  refine zl_push 3 X P hv hS (by decide) (by decide) dL_law_1585 dL_law_1586 dL_law_1588 dL_law_1589 dL_law_1590 ?_
  refine zl_push 4 X P hv hS (by decide) (by decide) dL_law_1591 dL_law_1592 dL_law_1594 dL_law_1595 dL_law_1596 ?_
  refine zl_push 5 X P hv hS (by decide) (by decide) dL_law_1597 dL_law_1598 dL_law_1600 dL_law_1601 dL_law_1602 ?_
  refine zw_ki P (zw_V (z := zM_X10_copy) (As := [.int (xs (6 * n + 1)), .int (xs (6 * n + 2)), .int (xs (6 * n + 3)), .int (xs (6 * n + 4)), .int (xs (6 * n + 5))]) (a := 0) (ci := 10) (n0 := 0) (q := (RX10, TX10, 12)) X P (zt_X10_copy (xs (6 * n + 1)) (xs (6 * n + 2)) (xs (6 * n + 3)) (xs (6 * n + 4)) (xs (6 * n + 5)) h e1) zp_X10_copy zk_769 zk_770 zk_771 rfl (by decide) rfl rfl rfl (by decide) ⟨by decide, by decide⟩ ⟨show kc ≤ 601024 by omega, show ks ≤ 7293034 by omega⟩ hv.1 dL_law_1603) (fun H locs P => ?_)
  refine lv_aload_n X.1 X.2.1 dL_law_1606 rfl (lv_at hv 2 rfl) ?_
  refine zl_push 1 X P hv hS (by decide) (by decide) dL_law_1607 dL_law_1608 dL_law_1610 dL_law_1611 dL_law_1612 ?_
  refine zl_push 2 X P hv hS (by decide) (by decide) dL_law_1613 dL_law_1614 dL_law_1616 dL_law_1617 dL_law_1618 ?_
  refine zl_push 3 X P hv hS (by decide) (by decide) dL_law_1619 dL_law_1620 dL_law_1622 dL_law_1623 dL_law_1624 ?_
  refine zl_push 4 X P hv hS (by decide) (by decide) dL_law_1625 dL_law_1626 dL_law_1628 dL_law_1629 dL_law_1630 ?_
  refine zl_push 5 X P hv hS (by decide) (by decide) dL_law_1631 dL_law_1632 dL_law_1634 dL_law_1635 dL_law_1636 ?_
  refine zw_ki P (zw_V (z := zM_X11_copy) (As := [.int (xs (6 * n + 1)), .int (xs (6 * n + 2)), .int (xs (6 * n + 3)), .int (xs (6 * n + 4)), .int (xs (6 * n + 5))]) (a := 60) (ci := 11) (n0 := 0) (q := (RX11, TX11, 35)) X P (zt_X11_copy (xs (6 * n + 1)) (xs (6 * n + 2)) (xs (6 * n + 3)) (xs (6 * n + 4)) (xs (6 * n + 5)) _ e2) zp_X11_copy zk_1414 zk_1415 zk_1416 rfl (by decide) rfl rfl rfl (show 1 + 0 ≤ 8 by decide) ⟨by decide, by decide⟩ ⟨show kc ≤ 601024 by omega, show ks ≤ 7293034 by omega⟩ hv.1 dL_law_1637) (fun H locs P => ?_)
  exact lv_icmp_eq (tgt := 1695) X.1 X.2.1 dL_law_1640 (by decide) (fun _ => K _ _ _ _ _ _ P hI2 (by omega) (by omega) hv) (fun q => absurd rfl q)
theorem zl_c41 (C : zl_C l p s m args cd D c B b L n xs h H locs kc ks ls0) (K : zl_K p l e s m args below meth cd D c B b n kc ks Q) : W p l e room_1 s m args below meth cd H locs kc ks Q (F0 m 1645 ls0 []) := by
  obtain ⟨X, P, hI, hkb, hv, hS, -⟩ := C
  obtain ⟨r, h2, e1, e2, hI2⟩ := ok_cost (xs (6 * n + 1)) h hI
  refine lv_aload_n X.1 X.2.1 dL_law_1645 rfl (lv_at hv 3 rfl) ?_
  refine zl_push 1 X P hv hS (by decide) (by decide) dL_law_1646 dL_law_1647 dL_law_1649 dL_law_1650 dL_law_1651 ?_
  refine zw_ki P (zw_V (z := zM_X10_cost) (As := [.int (xs (6 * n + 1))]) (a := 0) (ci := 10) (n0 := 0) (q := (RX10, TX10, 12)) X P (zt_X10_cost (xs (6 * n + 1)) h e1) zp_X10_cost zk_773 zk_774 zk_775 rfl (by decide) rfl rfl rfl (by decide) ⟨by decide, by decide⟩ ⟨show kc ≤ 601024 by omega, show ks ≤ 7293034 by omega⟩ hv.1 dL_law_1652) (fun H locs P => ?_)
  refine lv_aload_n X.1 X.2.1 dL_law_1655 rfl (lv_at hv 2 rfl) ?_
  refine zl_push 1 X P hv hS (by decide) (by decide) dL_law_1656 dL_law_1657 dL_law_1659 dL_law_1660 dL_law_1661 ?_
  refine zw_ki P (zw_V (z := zM_X11_cost) (As := [.int (xs (6 * n + 1))]) (a := 60) (ci := 11) (n0 := 0) (q := (RX11, TX11, 35)) X P (zt_X11_cost (xs (6 * n + 1)) _ e2) zp_X11_cost zk_1418 zk_1419 zk_1420 rfl (by decide) rfl rfl rfl (show 1 + 0 ≤ 8 by decide) ⟨by decide, by decide⟩ ⟨show kc ≤ 601024 by omega, show ks ≤ 7293034 by omega⟩ hv.1 dL_law_1662) (fun H locs P => ?_)
  exact lv_icmp_eq (tgt := 1695) X.1 X.2.1 dL_law_1665 (by decide) (fun _ => K _ _ _ _ _ _ P hI2 (by omega) (by omega) hv) (fun q => absurd rfl q)
theorem zl_c39 (C : zl_C l p s m args cd D c B b L n xs h H locs kc ks ls0) (K : zl_K p l e s m args below meth cd D c B b n kc ks Q) : W p l e room_1 s m args below meth cd H locs kc ks Q (F0 m 1505 ls0 []) := by
  obtain ⟨X, P, hI, hkb, hv, hS, hE, hl⟩ := C
  obtain ⟨r, bv, h2, e1, e2, e3, e4, hI2⟩ := ok_element (xs (6 * n + 1)) (xs (6 * n + 2)) h hI
  refine lv_aload_n X.1 X.2.1 dL_law_1505 rfl (lv_at hv 3 rfl) ?_
  refine zl_push 1 X P hv hS (by decide) (by decide) dL_law_1506 dL_law_1507 dL_law_1509 dL_law_1510 dL_law_1511 ?_
  refine zl_push 2 X P hv hS (by decide) (by decide) dL_law_1512 dL_law_1513 dL_law_1515 dL_law_1516 dL_law_1517 ?_
  refine lv_aload_n X.1 X.2.1 dL_law_1518 rfl (lv_at hv 1 rfl) ?_
  refine zl_runEl X P hE hl e1 ⟨hkb.1, hkb.2⟩ hv.1 (fun H locs P => ?_)
  refine lv_istore X.1 X.2.1 dL_law_1522 hv (by decide) rfl (fun ls1 hv1 => ?_)
  have hv2 := lv_sub hv1 [1, 2, 3, 4, 5] (rfl : _ = zl_ls b B (nI (6 * n)))
  refine lv_aload_n X.1 X.2.1 dL_law_1524 rfl (lv_at hv2 2 rfl) ?_
  refine zl_push 1 X P hv2 hS (by decide) (by decide) dL_law_1525 dL_law_1526 dL_law_1528 dL_law_1529 dL_law_1530 ?_
  refine zl_push 2 X P hv2 hS (by decide) (by decide) dL_law_1531 dL_law_1532 dL_law_1534 dL_law_1535 dL_law_1536 ?_
  refine zw_kl P (zw_V (z := zM_X11_element) (As := [.int (xs (6 * n + 1)), .int (xs (6 * n + 2))]) (a := 60) (ci := 11) (n0 := 0) (q := (RX11, TX11, 35)) X P (zt_X11_element (xs (6 * n + 1)) (xs (6 * n + 2)) _ e2) zp_X11_element zk_1410 zk_1411 zk_1412 rfl (by decide) rfl rfl rfl (by decide) ⟨by decide, by decide⟩ ⟨show kc + 1 ≤ 601024 by omega, show ks + 6 ≤ 7293034 by omega⟩ hv2.1 dL_law_1537) (fun H locs P => ?_)
  refine lv_lstore X.1 X.2.1 dL_law_1540 hv1 (by decide) rfl (fun ls2 hv3 => ?_)
  refine lv_aload_n X.1 X.2.1 dL_law_1542 rfl (lv_at hv3 4 rfl) ?_
  refine zw_ki P (zw_V (z := zM_X11_thrown) (As := []) (a := 60) (ci := 11) (n0 := 0) (q := (RX11, TX11, 35)) X P (zt_X11_thrown h2 rfl) zp_X11_thrown zk_1058 zk_1059 zk_1060 rfl (by decide) rfl rfl rfl (by decide) ⟨by decide, by decide⟩ ⟨show kc + 1 ≤ 601024 by omega, show ks + 6 ≤ 7293034 by omega⟩ hv3.1 dL_law_1543) (fun H locs P => ?_)
  refine lv_iload X.1 X.2.1 dL_law_1546 (lv_at hv3 1 rfl) ?_
  have hv4 := lv_sub hv3 [2, 3, 4, 5, 6] (rfl : _ = zl_ls b B (nI (6 * n)))
  refine lv_icmp_eq (tgt := 1553) X.1 X.2.1 dL_law_1548 (by decide) (fun _ => ?_) (fun q => absurd e3 q)
  have fin : W p l e room_1 s m args below meth cd H locs (kc + 1) (ks + 6) Q (F0 m 1569 ls2 []) := lv_goto (tgt := 1695) X.1 X.2.1 dL_law_1569 (by decide) (K _ _ _ _ _ _ P hI2 (by omega) (by omega) hv4)
  refine lv_iload X.1 X.2.1 dL_law_1553 (lv_at hv3 1 rfl) ?_
  refine lv_if_ne (tgt := 1569) X.1 X.2.1 dL_law_1555 (by decide) (fun _ => fin) (fun q => ?_)
  refine lv_aload_n X.1 X.2.1 dL_law_1558 rfl (lv_at hv3 3 rfl) ?_
  refine lv_iconst (v := 0) X.1 X.2.1 dL_law_1559 (by decide) ?_
  refine zw_aldl (a := 80) (n := 1) X P rfl (by decide) dL_law_1560 ?_
  refine lv_lload X.1 X.2.1 dL_law_1561 (lv_at hv3 0 rfl) ?_
  refine W.lcmp X.1 X.2.1 dL_law_1563 ?_
  have e5 : lg_cmp (h2.2 80 (0 : Int32).toNatClampNeg) bv = 0 := by rw [show h2.2 80 (0 : Int32).toNatClampNeg = bv from e4 q]; exact zl_cmp bv
  exact lv_if_eq (tgt := 1569) X.1 X.2.1 dL_law_1564 (by decide) (fun _ => fin) (fun q => absurd e5 q)
theorem zl_c42 (C : zl_C l p s m args cd D c B b L n xs h H locs kc ks ls0) (K : zl_K p l e s m args below meth cd D c B b n kc ks Q) : W p l e room_1 s m args below meth cd H locs kc ks Q (F0 m 1670 ls0 []) := by
  obtain ⟨X, P, hI, hkb, hv, hS, hE, hl⟩ := C
  obtain ⟨r, h2, e1, e2, hI2⟩ := ok_toss (xs (6 * n + 1)) h hI
  refine lv_aload_n X.1 X.2.1 dL_law_1670 rfl (lv_at hv 3 rfl) ?_
  refine zl_push 1 X P hv hS (by decide) (by decide) dL_law_1671 dL_law_1672 dL_law_1674 dL_law_1675 dL_law_1676 ?_
  refine zl_runTo X P hE hl e1 ⟨hkb.1, hkb.2⟩ hv.1 (fun H locs P => ?_)
  refine lv_aload_n X.1 X.2.1 dL_law_1680 rfl (lv_at hv 2 rfl) ?_
  refine zl_push 1 X P hv hS (by decide) (by decide) dL_law_1681 dL_law_1682 dL_law_1684 dL_law_1685 dL_law_1686 ?_
  refine zw_ki P (zw_V (z := zM_X11_toss) (As := [.int (xs (6 * n + 1))]) (a := 60) (ci := 11) (n0 := 0) (q := (RX11, TX11, 35)) X P (zt_X11_toss (xs (6 * n + 1)) _ e2) zp_X11_toss zk_1425 zk_1426 zk_1427 rfl (by decide) rfl rfl rfl (show 1 + 0 ≤ 8 by decide) ⟨by decide, by decide⟩ ⟨show kc + 1 ≤ 601024 by omega, show ks + 6 ≤ 7293034 by omega⟩ hv.1 dL_law_1687) (fun H locs P => ?_)
  exact lv_icmp_eq (tgt := 1695) X.1 X.2.1 dL_law_1690 (by decide) (fun _ => K _ _ _ _ _ _ P hI2 (by omega) (by omega) hv) (fun q => absurd rfl q)
end ZLD

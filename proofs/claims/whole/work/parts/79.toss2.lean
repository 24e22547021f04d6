theorem zc_ixlt {i : Int32} {n : Nat} (g : zc_ix i n) : i.toNatClampNeg < n := Nat.not_le.mp fun q => g (Or.inr q)
theorem zc_Lst0 {nL B i : Nat} {w : Value} {ls : List (Option Value)} {ls0 ls1 : Array Slot} (hL : zc_L nL B ls ls0) (ok : zc_okS ls i = true)
    (h1 : lv_has ls1 nL ((i, w) :: (zc_full nL ls0).filter (fun q => !(q.1 == i) && !(q.1 + 1 == i && q.2.category == 2)))) : zc_L nL B (ls.set i none) ls1 := by
  refine ⟨h1.1, h1.2.1, fun n v hn => ?_⟩
  rw [List.getElem?_set] at hn
  by_cases e : i = n
  · rw [if_pos e] at hn
    split at hn <;> simp at hn
  · rw [if_neg e] at hn
    refine h1.2.2 (n, zc_tr B v) (List.mem_cons_of_mem _ (List.mem_filter.mpr ⟨zc_Lmem hL hn, ?_⟩))
    have e2 : (n == i) = false := by simp; omega
    simp only [e2, Bool.not_false, Bool.true_and, Bool.not_eq_true', Bool.and_eq_false_iff, zc_tr_cat]
    by_cases e3 : n + 1 = i
    · right; rw [zc_okS_at ok e3 hn]; rfl
    · left; simpa using e3
theorem ze_fk_or {j : Nat} {E : String} (hj : j < 8) (h : ze_fk j = some E) : E = zIAE ∨ E = zISE ∨ E = zUOE := by
  match j, hj with
  | 0, _ => cases h; exact Or.inl rfl
  | 1, _ => cases h; exact Or.inl rfl
  | 2, _ => cases h; exact Or.inr (Or.inl rfl)
  | 3, _ => cases h; exact Or.inr (Or.inl rfl)
  | 4, _ => cases h; exact Or.inr (Or.inr rfl)
  | 5, _ => cases h
  | 6, _ => cases h; exact Or.inr (Or.inr rfl)
  | 7, _ => cases h; exact Or.inr (Or.inl rfl)
  | j + 8, hj => exact absurd hj (Nat.not_lt_of_le (Nat.le_add_left 8 j))
theorem zt_X10_toss {d : Int32} {h : zHp} {r : Int32} (hr : ze_toss d h = some r) (l : Launch) (D : va_G) (c : zCS) (B : Nat) (hl : l.stackTraces = false) :
    Met l yX10_toss ze_wsT (zi_room zM_X10_toss (1, 6)) (va_Pc [.ref (B + 0), .int d] (ze_Pr D c B h)) (zc_mI (r, h) D c B) 1 6 (zc_ge B) := by
  refine va_MetW (cc := cX10_toss) (maxL := 6) (ret := some .int) (hh := ze_hhT) (by decide +kernel) rfl ?_
  intro p e s m args below meth cd s₁ Bd hml hv
  obtain ⟨rfl, ⟨⟨hP, hK⟩, hN⟩, hE⟩ := hv
  have hts := atoms_spec (ws := ze_wsT) Bd.pre
  have htab := vx_table (x := yX10_toss) Bd (hts _ List.mem_cons_self)
  have hts2 : ∀ w ∈ zg_tbl, w.before _ s = true := fun w hw => hts w (List.mem_cons_of_mem _ hw)
  have hown := findClass_of_methodNamed Bd.named
  have X : zw_X RX10 cX10_toss 6 p s m _ cd := ⟨Bd.exec, Bd.bytes, hml, hown, hts2, hN⟩
  have P : zw_P D c B h s s.heap [] := ⟨hP, hK, va_S.rf⟩
  have hL := zc_entL (nL := 6) (B := B) (av := [.ref 0, .int d]) (show 2 ≤ 6 by decide)
  rw [lg_entry_eq]
  show W _ _ _ _ _ _ _ _ _ _ _ _ _ _ _ (F0 m 0 ((lg_sl ([Value.ref 0, .int d].map (zc_tr B)) ++ List.replicate (6 - (lg_sl ([Value.ref 0, .int d].map (zc_tr B))).length) Slot.unset).toArray) [])
  generalize (lg_sl ([Value.ref 0, .int d].map (zc_tr B)) ++ List.replicate (6 - (lg_sl ([Value.ref 0, .int d].map (zc_tr B))).length) Slot.unset).toArray = ls0 at hL ⊢
  have iret : ∀ {pc : Nat} {ls1 : Array Slot} {H : Heap} {locs : List Loc} {v : Int32}, zw_P D c B h s H locs → decode cX10_toss pc = .ok (.ireturn, 1) → r = v → W p l e (zi_room zM_X10_toss (1, 6)) s m #[Value.ref (B + 0), .int d] below meth cd H locs 1 6 (MQ below (zc_mI (r, h) D c B) #[Value.ref (B + 0), .int d] s 1 6 (zc_ge B)) (F0 m pc ls1 [.int v]) := by
    intro pc ls1 H locs v P hd e
    subst e
    exact W.iret Bd.exec Bd.bytes Bd.returns (fun t ht hW => ⟨⟨_, h, rfl, ⟨rfl, rfl⟩, by rw [ht]; exact P.1, va_K.moved hW.alike P.2.1⟩, P.2.2.F ht⟩) P.2.2.2.2 hd Bd.notSynchronized
  unfold ze_toss at hr
  refine lv_aload_n X.1 X.2.1 dX10_toss_0 rfl (hL.2.2 0 _ rfl) ?_
  refine lv_iload_n X.1 X.2.1 dX10_toss_1 rfl (hL.2.2 1 _ rfl) ?_
  cases h1 : zf_X10_refuseKind d h with
  | none => rw [h1] at hr; cases hr
  | some r1 =>
  rw [h1] at hr
  replace hr : (if r1 = 0 then _ else some r1) = some r := hr
  refine zw_ki P (zw_V (z := zM_X10_refuseKind) (As := [.int d]) (a := 0) (ci := 10) (n0 := 0) (q := (RX10, TX10, 12)) X P (zt_X10_refuseKind d h h1) zo_X10_refuseKind zw_482 zw_484 zs_4 rfl (by decide) rfl rfl rfl (by decide) ⟨by decide, by decide⟩ ⟨by decide, by decide⟩ hL.1 dX10_toss_2) (fun H locs P => ?_)
  refine lv_istore_n X.1 X.2.1 dX10_toss_5 rfl (zc_Lhas hL) (by decide) rfl (fun ls1 hq => ?_)
  have hL1 := zc_Lst1 (v := .int r1) hL rfl (show 2 < 6 by decide) hq
  refine lv_iload_n X.1 X.2.1 dX10_toss_6 rfl (hL1.2.2 2 _ rfl) ?_
  refine lv_if_eq (tgt := 12) X.1 X.2.1 dX10_toss_7 (by decide) (fun hc => ?_) (fun hc => ?_)
  · rw [if_pos hc] at hr
    by_cases g : zc_ix d 8
    · rw [if_pos g] at hr
      by_cases g2 : zc_ix (h.1 (43 + 1 + 2 * d.toNatClampNeg) 1) 8
      · rw [if_pos g2] at hr
        refine lv_aload_n X.1 X.2.1 dX10_toss_12 rfl (hL1.2.2 0 _ rfl) ?_
        refine zw_get (a := 0) (.ref (B + 43)) X P zF_X10_74 rfl rfl dX10_toss_13 ?_
        refine lv_iload_n X.1 X.2.1 dX10_toss_16 rfl (hL1.2.2 1 _ rfl) ?_
        refine zw_aldS (a := 43) X P rfl g dX10_toss_17 ?_
        refine zw_get (a := 43 + 1 + 2 * d.toNatClampNeg) (.int (h.1 (43 + 1 + 2 * d.toNatClampNeg) 2)) X P zF_X10_150 (zs_s g) rfl dX10_toss_18 ?_
        refine lv_istore_n X.1 X.2.1 dX10_toss_21 rfl (zc_Lhas hL1) (by decide) rfl (fun ls2 hq => ?_)
        have hL2 := zc_Lst1 (v := .int (h.1 (43 + 1 + 2 * d.toNatClampNeg) 2)) hL1 rfl (show 3 < 6 by decide) hq
        refine lv_aload_n X.1 X.2.1 dX10_toss_22 rfl (hL2.2.2 0 _ rfl) ?_
        refine zw_get (a := 0) (.ref (B + 7)) X P zF_X10_53 rfl rfl dX10_toss_23 ?_
        refine lv_aload_n X.1 X.2.1 dX10_toss_26 rfl (hL2.2.2 0 _ rfl) ?_
        refine zw_get (a := 0) (.ref (B + 43)) X P zF_X10_74 rfl rfl dX10_toss_27 ?_
        refine lv_iload_n X.1 X.2.1 dX10_toss_30 rfl (hL2.2.2 1 _ rfl) ?_
        refine zw_aldS (a := 43) X P rfl g dX10_toss_31 ?_
        refine zw_get (a := 43 + 1 + 2 * d.toNatClampNeg) (.int (h.1 (43 + 1 + 2 * d.toNatClampNeg) 1)) X P zF_X10_148 (zs_s g) rfl dX10_toss_32 ?_
        refine zw_aldV (a := 7) X P rfl g2 dX10_toss_35 ?_
        refine lv_astore X.1 X.2.1 dX10_toss_36 (zc_Lhas hL2) (by decide) rfl (fun ls3 hq => ?_)
        have hL3 := zc_Lst1 (v := .ref (7 + 1 + (h.1 (43 + 1 + 2 * d.toNatClampNeg) 1).toNatClampNeg)) hL2 rfl (show 4 < 6 by decide) hq
        have hj := zc_ixlt g2
        generalize (h.1 (43 + 1 + 2 * d.toNatClampNeg) 1).toNatClampNeg = j at hr hL3 hj
        generalize h.1 (43 + 1 + 2 * d.toNatClampNeg) 2 = f at hr hL3
        refine lv_iload_n X.1 X.2.1 dX10_toss_38 rfl (hL3.2.2 3 _ rfl) ?_
        refine lv_if_ne (tgt := 45) X.1 X.2.1 dX10_toss_39 (by decide) (fun hc2 => ?_) (fun hc2 => ?_)
        · rw [if_neg hc2] at hr
          refine lv_aload X.1 X.2.1 dX10_toss_45 (hL3.2.2 4 _ rfl) ?_
          refine vx_callv (zr_fail X P hE hl (by decide) ⟨by decide, by decide⟩ ⟨by decide, by decide⟩ hL3.1 j hj) P.2.2 (fun q _ h => h) (fun q h => h) (fun q _ h => h) ?_ ?_
          · intro E ce q9 u t H1 locs1 ht hvm hpx hBX hz hk hS1 hcell hcv hcl
            obtain ⟨hfk, hRp⟩ := hBX
            have P1 : zw_P D c B h s H1 locs1 := ⟨by rw [← ht]; exact hRp.1, P.2.1, hS1⟩
            rw [hfk] at hr
            replace hr : (if E = zIAE then some f else if E = zISE then some (100 + f) else (zv_costs j f).bind (fun v => some (200 + v))) = some r := hr
            rcases ze_fk_or hj hfk with rfl | rfl | rfl
            · rw [if_pos rfl] at hr
              refine vx_catch (own := RX10) (name := zIAE) hown [] ⟨45, 50, 53, 311⟩ [⟨45, 50, 57, 318⟩, ⟨45, 50, 64, 337⟩] htab (fun z hz => nomatch hz) (by decide) (by decide) (hts2 _ zk_811) (va_Nw.use rfl (hE.2.2.2.1 zIAE (by decide))) hcell hcv hcl ?_
              refine lv_astore X.1 X.2.1 dX10_toss_53 (zc_Lhas hL3) (by decide) rfl (fun ls4 hq => ?_)
              have hL4 := zc_Lst0 hL3 rfl hq
              refine lv_iload_n X.1 X.2.1 dX10_toss_55 rfl (hL4.2.2 3 _ rfl) ?_
              exact iret P1 dX10_toss_56 (Option.some.inj hr).symm
            · rw [if_neg (by decide), if_pos rfl] at hr
              refine vx_catch (own := RX10) (name := zISE) hown [⟨45, 50, 53, 311⟩] ⟨45, 50, 57, 318⟩ [⟨45, 50, 64, 337⟩] htab (fun z hz => ?_) (by decide) (by decide) (hts2 _ zk_812) (va_Nw.use rfl (hE.2.2.2.1 zISE (by decide))) hcell hcv hcl ?_
              · rw [List.mem_singleton.mp hz]
                exact Or.inr ⟨by decide, zIAE, hts2 _ zk_811, hE.2.2.2.2.1 (zISE, zIAE) (by decide)⟩
              refine lv_astore X.1 X.2.1 dX10_toss_57 (zc_Lhas hL3) (by decide) rfl (fun ls4 hq => ?_)
              have hL4 := zc_Lst0 hL3 rfl hq
              refine lv_bipush (v := 100) X.1 X.2.1 dX10_toss_59 (by decide) ?_
              refine lv_iload_n X.1 X.2.1 dX10_toss_61 rfl (hL4.2.2 3 _ rfl) ?_
              refine lv_iadd X.1 X.2.1 dX10_toss_62 ?_
              exact iret P1 dX10_toss_63 (Option.some.inj hr).symm
            · rw [if_neg (by decide), if_neg (by decide)] at hr
              refine vx_catch (own := RX10) (name := zUOE) hown [⟨45, 50, 53, 311⟩, ⟨45, 50, 57, 318⟩] ⟨45, 50, 64, 337⟩ [] htab (fun z hz => ?_) (by decide) (by decide) (hts2 _ zk_813) (va_Nw.use rfl (hE.2.2.2.1 zUOE (by decide))) hcell hcv hcl ?_
              · rcases List.mem_cons.mp hz with rfl | hz
                · exact Or.inr ⟨by decide, zIAE, hts2 _ zk_811, hE.2.2.2.2.1 (zUOE, zIAE) (by decide)⟩
                · rw [List.mem_singleton.mp hz]
                  exact Or.inr ⟨by decide, zISE, hts2 _ zk_812, hE.2.2.2.2.1 (zUOE, zISE) (by decide)⟩
              refine lv_astore X.1 X.2.1 dX10_toss_64 (zc_Lhas hL3) (by decide) rfl (fun ls4 hq => ?_)
              have hL4 := zc_Lst0 hL3 rfl hq
              refine lv_sipush (v := 200) X.1 X.2.1 dX10_toss_66 (by decide) ?_
              refine lv_aload X.1 X.2.1 dX10_toss_69 (hL4.2.2 4 _ rfl) ?_
              refine lv_iload_n X.1 X.2.1 dX10_toss_71 rfl (hL4.2.2 3 _ rfl) ?_
              cases hv : zv_costs j f with
              | none => rw [hv] at hr; cases hr
              | some v =>
              rw [hv] at hr
              obtain ⟨a1, run⟩ := zr_tcost (l := l) (e := e) (below := below) (meth := meth) (R := zi_room zM_X10_toss (1, 6)) (kc := 1) (ks := 6) (rest := [.int 200]) X P1 (by decide) ⟨by decide, by decide⟩ ⟨by decide, by decide⟩ hL4.1 j hj v hv
              refine zw_ki P1 run (fun H2 locs2 P2 => ?_)
              refine lv_iadd X.1 X.2.1 dX10_toss_75 ?_
              exact iret P2 dX10_toss_76 (Option.some.inj hr).symm
          · intro u t H1 locs1 ht hvm hpost hB hz hk hS1
            have P1 : zw_P D c B h s H1 locs1 := ⟨by rw [← ht]; exact hB.1, P.2.1, hS1⟩
            rw [hpost] at hr
            refine lv_goto (tgt := 77) X.1 X.2.1 dX10_toss_50 (by decide) ?_
            refine lv_bipush (v := -15) X.1 X.2.1 dX10_toss_77 (by decide) ?_
            exact iret P1 dX10_toss_79 (Option.some.inj hr).symm
        · rw [if_pos hc2] at hr
          refine lv_bipush (v := -15) X.1 X.2.1 dX10_toss_42 (by decide) ?_
          exact W.widen (k := 1) (n := 6) (by decide) (by decide) (iret P dX10_toss_44 (Option.some.inj hr).symm)
      · rw [if_neg g2] at hr; cases hr
    · rw [if_neg g] at hr; cases hr
  · rw [if_neg hc] at hr
    refine lv_iload_n X.1 X.2.1 dX10_toss_10 rfl (hL1.2.2 2 _ rfl) ?_
    exact W.widen (k := 1) (n := 6) (by decide) (by decide) (iret P dX10_toss_11 (Option.some.inj hr).symm)

theorem zt_X3_fail : ze_FC zM_X3_fail (some zISE) := by
  intro l D c B h a hl
  refine vx_ofW (cc := cX3_fail) (maxL := 1) (ret := none) (by decide +kernel) rfl ?_
  intro p e s m args below meth cd s₁ Bd hml htab hv
  obtain ⟨rfl, ⟨⟨hP, hK⟩, hN⟩, hE⟩ := hv
  have hts := atoms_spec (ws := zc_ws zM_X3_fail) Bd.pre
  have hts2 : ∀ w ∈ zg_tbl, w.before _ s = true := fun w hw => hts w (List.mem_cons_of_mem _ hw)
  have P : zw_P D c B h s s.heap [] := ⟨hP, hK, va_S.rf⟩
  obtain ⟨sa, hstr⟩ := hE.2.2.1 (RX3, 9, "a doctor fails") (by decide)
  rw [lg_entry_eq]
  exact vx_throwS Bd.exec Bd.bytes hl (own := RX3) (cls := zISE) (names := zNMS) (ik := 7) (is := 9) (ic := 11) (findClass_of_methodNamed Bd.named) (by decide +kernel) (by decide +kernel) (hts2 _ zk_894) (hts2 _ zk_21) hstr (ze_hat ze_at3 (by decide) hts2 hE) (ze_good ze_at3 (by decide +kernel) (by decide +kernel)) hE.1 hE.2.1 va_S.rf (hml ▸ (lv_entry [.ref (B + a)] (n := 1) (show 1 ≤ 1 by decide)).1) dX3_fail_0 dX3_fail_3 dX3_fail_4 dX3_fail_6 dX3_fail_9
    (fun x hx => (htab x hx).elim) (by decide) (by decide) (by decide) (by decide) Bd.notSynchronized (ze_x P rfl) (fun z hz => nomatch hz) (by decide) (by decide)
theorem zt_X2_fail : ze_FC zM_X2_fail (some zUOE) := by
  intro l D c B h a hl
  refine vx_ofW (cc := cX2_fail) (maxL := 1) (ret := none) (by decide +kernel) rfl ?_
  intro p e s m args below meth cd s₁ Bd hml htab hv
  obtain ⟨rfl, ⟨⟨hP, hK⟩, hN⟩, hE⟩ := hv
  have hts := atoms_spec (ws := zc_ws zM_X2_fail) Bd.pre
  have hts2 : ∀ w ∈ zg_tbl, w.before _ s = true := fun w hw => hts w (List.mem_cons_of_mem _ hw)
  have P : zw_P D c B h s s.heap [] := ⟨hP, hK, va_S.rf⟩
  obtain ⟨sa, hstr⟩ := hE.2.2.1 (RX2, 26, "a bishop fails") (by decide)
  rw [lg_entry_eq]
  exact vx_throwS Bd.exec Bd.bytes hl (own := RX2) (cls := zUOE) (names := zNMS) (ik := 24) (is := 26) (ic := 28) (findClass_of_methodNamed Bd.named) (by decide +kernel) (by decide +kernel) (hts2 _ zk_821) (hts2 _ zk_22) hstr (ze_hat ze_at2 (by decide) hts2 hE) (ze_good ze_at2 (by decide +kernel) (by decide +kernel)) hE.1 hE.2.1 va_S.rf (hml ▸ (lv_entry [.ref (B + a)] (n := 1) (show 1 ≤ 1 by decide)).1) dX2_fail_0 dX2_fail_3 dX2_fail_4 dX2_fail_6 dX2_fail_9
    (fun x hx => (htab x hx).elim) (by decide) (by decide) (by decide) (by decide) Bd.notSynchronized (ze_x P rfl) (fun z hz => nomatch hz) (by decide) (by decide)
theorem zt_X6_fail : ze_FC zM_X6_fail none := by
  intro l D c B h a hl
  refine vx_ofW (cc := cX6_fail) (maxL := 1) (ret := none) (by decide +kernel) rfl ?_
  intro p e s m args below meth cd s₁ Bd hml htab hv
  obtain ⟨rfl, ⟨⟨hP, hK⟩, hN⟩, hE⟩ := hv
  rw [lg_entry_eq]
  refine W.widen (k := 1) (n := 6) (by decide) (by decide) (vx_ret ?_)
  exact W.vret Bd.exec Bd.bytes Bd.returns (fun t ht hW => ⟨⟨(), rfl, rfl, by rw [ht]; exact hP, va_K.moved hW.alike hK⟩, va_S.rf.F ht⟩) (fun z hz => nomatch hz) dX6_fail_0 Bd.notSynchronized
/-- the class's own answer to element: a number, or an exception -/
def ze_el (d i : Int32) (h : zHp) : Option (Int64 ⊕ String) :=
  (zf_X10_isShelf d).bind (fun r1 => if r1 = 0 then some (.inr zIAE) else
    (zf_X10_refuseRow d h).bind (fun r2 => if r2 = 0 then
      (if zc_ix d 8 then (zf_X8_hasPlaces (43 + 1 + 2 * d.toNatClampNeg) i 1 h).bind (fun r3 => if r3 = 0 then some (.inr zISE) else
        (if zc_ix i 100 then some (.inl (h.1 (43 + 1 + 2 * d.toNatClampNeg + 1) i.toNatClampNeg).toInt64) else none)) else none)
      else some (.inr zISE)))
abbrev zM_X10_element : zMI := (yX10_element, cX10_element, 3, (some .long), 6, 82)
theorem zp_X10_element : zc_okM zM_X10_element 2 := ⟨zk_940, zw_1, by decide +kernel, by decide +kernel, by decide +kernel⟩
theorem zt_X10_element {d i : Int32} {h : zHp} {r : Int64 ⊕ String} (hr : ze_el d i h = some r) (l : Launch) (D : va_G) (c : zCS) (B : Nat) (hl : l.stackTraces = false) :
    vx_Met l zM_X10_element.1 (zc_ws zM_X10_element) (zi_room zM_X10_element (1, 6)) (va_Pc [.ref (B + 0), .int d, .int i] (ze_Pr D c B h)) (va_Ql (fun v (h2 : zHp) => r = .inl v ∧ h2 = h) (zc_Rp D c B) (zc_ge B)) (vx_X (fun _ : Unit => True) (fun E _ t => r = .inr E ∧ zc_Rp D c B h t) (zc_ge B)) 1 6 (zc_ge B) := by
  refine vx_ofW (cc := cX10_element) (maxL := 3) (ret := some .long) (by decide +kernel) rfl ?_
  intro p e s m args below meth cd s₁ Bd hml htab hv
  obtain ⟨rfl, ⟨⟨hP, hK⟩, hN⟩, hE⟩ := hv
  have hts := atoms_spec (ws := zc_ws zM_X10_element) Bd.pre
  have hts2 : ∀ w ∈ zg_tbl, w.before _ s = true := fun w hw => hts w (List.mem_cons_of_mem _ hw)
  have hown := findClass_of_methodNamed Bd.named
  have X : zw_X RX10 cX10_element 3 p s m _ cd := ⟨Bd.exec, Bd.bytes, hml, hown, hts2, hN⟩
  have P : zw_P D c B h s s.heap [] := ⟨hP, hK, va_S.rf⟩
  have hL := zc_entL (nL := 3) (B := B) (av := [.ref 0, .int d, .int i]) (show 3 ≤ 3 by decide)
  rw [lg_entry_eq]
  show W _ _ _ _ _ _ _ _ _ _ _ _ _ _ _ (F0 m 0 ((lg_sl ([Value.ref 0, .int d, .int i].map (zc_tr B)) ++ List.replicate (3 - (lg_sl ([Value.ref 0, .int d, .int i].map (zc_tr B))).length) Slot.unset).toArray) [])
  generalize (lg_sl ([Value.ref 0, .int d, .int i].map (zc_tr B)) ++ List.replicate (3 - (lg_sl ([Value.ref 0, .int d, .int i].map (zc_tr B))).length) Slot.unset).toArray = ls0 at hL ⊢
  have out : ∀ (pc : Nat), ∀ x ∈ cd.exceptionTable.toList, covers x pc = false := fun pc x hx => (htab x hx).elim
  refine lv_iload_n X.1 X.2.1 dX10_element_0 rfl (hL.2.2 1 _ rfl) ?_
  unfold ze_el at hr
  cases h1 : zf_X10_isShelf d with
  | none => rw [h1] at hr; cases hr
  | some r1 =>
  rw [h1] at hr
  replace hr : (if r1 = 0 then some (.inr zIAE) else _) = some r := hr
  refine zw_ki P (zw_S (z := zM_X10_isShelf) (As := [.int d]) X P (zt_X10_isShelf d h h1) zo_X10_isShelf zw_235 zw_236 rfl rfl (by decide) ⟨by decide, by decide⟩ ⟨by decide, by decide⟩ hL.1 dX10_element_1) (fun H locs P => ?_)
  refine lv_if_ne (tgt := 18) X.1 X.2.1 dX10_element_4 (by decide) (fun hc => ?_) (fun hc => ?_)
  · rw [if_neg hc] at hr
    refine lv_aload_n X.1 X.2.1 dX10_element_18 rfl (hL.2.2 0 _ rfl) ?_
    refine lv_iload_n X.1 X.2.1 dX10_element_19 rfl (hL.2.2 1 _ rfl) ?_
    cases h2 : zf_X10_refuseRow d h with
    | none => rw [h2] at hr; cases hr
    | some r2 =>
    rw [h2] at hr
    replace hr : (if r2 = 0 then _ else some (.inr zISE)) = some r := hr
    refine zw_ki P (zw_V (z := zM_X10_refuseRow) (As := [.int d]) (a := 0) (ci := 10) (n0 := 0) (q := (RX10, TX10, 12)) X P (zt_X10_refuseRow d h h2) zo_X10_refuseRow zw_227 zw_229 zs_0 rfl (by decide) rfl rfl rfl (by decide) ⟨by decide, by decide⟩ ⟨by decide, by decide⟩ hL.1 dX10_element_20) (fun H locs P => ?_)
    refine lv_if_eq (tgt := 37) X.1 X.2.1 dX10_element_23 (by decide) (fun hc2 => ?_) (fun hc2 => ?_)
    · rw [if_pos hc2] at hr
      by_cases g : zc_ix d 8
      · rw [if_pos g] at hr
        refine lv_aload_n X.1 X.2.1 dX10_element_37 rfl (hL.2.2 0 _ rfl) ?_
        refine zw_get (a := 0) (.ref (B + 43)) X P zF_X10_74 rfl rfl dX10_element_38 ?_
        refine lv_iload_n X.1 X.2.1 dX10_element_41 rfl (hL.2.2 1 _ rfl) ?_
        refine zw_aldS (a := 43) X P rfl g dX10_element_42 ?_
        refine lv_iload_n X.1 X.2.1 dX10_element_43 rfl (hL.2.2 2 _ rfl) ?_
        refine lv_iconst (v := 1) X.1 X.2.1 dX10_element_44 (by decide) ?_
        cases h3 : zf_X8_hasPlaces (43 + 1 + 2 * d.toNatClampNeg) i 1 h with
        | none => rw [h3] at hr; cases hr
        | some r3 =>
        rw [h3] at hr
        replace hr : (if r3 = 0 then some (.inr zISE) else _) = some r := hr
        refine zw_ki P (zw_V (z := zM_X8_hasPlaces) (As := [.int i, .int 1]) (a := 43 + 1 + 2 * d.toNatClampNeg) (ci := 8) (n0 := 0) (q := (RX8, TX8, 6)) X P (zt_X8_hasPlaces (43 + 1 + 2 * d.toNatClampNeg) (zs_s g) i 1 h h3) zo_X8_hasPlaces zw_761 zw_762 zw_763 (zs_s g) (by decide) rfl rfl rfl (by decide) ⟨by decide, by decide⟩ ⟨by decide, by decide⟩ hL.1 dX10_element_45) (fun H locs P => ?_)
        refine lv_if_ne (tgt := 62) X.1 X.2.1 dX10_element_48 (by decide) (fun hc3 => ?_) (fun hc3 => ?_)
        · rw [if_neg hc3] at hr
          by_cases g2 : zc_ix i 100
          · rw [if_pos g2] at hr
            cases hr
            refine lv_aload_n X.1 X.2.1 dX10_element_62 rfl (hL.2.2 0 _ rfl) ?_
            refine zw_get (a := 0) (.ref (B + 43)) X P zF_X10_74 rfl rfl dX10_element_63 ?_
            refine lv_iload_n X.1 X.2.1 dX10_element_66 rfl (hL.2.2 1 _ rfl) ?_
            refine zw_aldS (a := 43) X P rfl g dX10_element_67 ?_
            refine zw_get (a := 43 + 1 + 2 * d.toNatClampNeg) (.ref (B + (43 + 1 + 2 * d.toNatClampNeg + 1))) X P zF_X10_102 (zs_s g) rfl dX10_element_68 ?_
            refine lv_iload_n X.1 X.2.1 dX10_element_71 rfl (hL.2.2 2 _ rfl) ?_
            refine zw_aldi (a := 43 + 1 + 2 * d.toNatClampNeg + 1) X P (zs_q (zs_s g)) g2 dX10_element_72 ?_
            refine lv_i2l X.1 X.2.1 dX10_element_73 rfl ?_
            refine W.widen (k := 1) (n := 6) (by decide) (by decide) (vx_ret ?_)
            exact W.lret Bd.exec Bd.bytes Bd.returns (fun t ht hW => ⟨⟨_, h, rfl, ⟨rfl, rfl⟩, by rw [ht]; exact P.1, va_K.moved hW.alike P.2.1⟩, P.2.2.F ht⟩) P.2.2.2.2 dX10_element_74 Bd.notSynchronized
          · rw [if_neg g2] at hr; cases hr
        · rw [if_pos hc3] at hr
          cases hr
          obtain ⟨sa, hstr⟩ := hE.2.2.1 (RX10, 323, "no such place") (by decide)
          exact vx_throwSW Bd.exec Bd.bytes hl (own := RX10) (cls := zISE) (names := zNMS) (ik := 318) (is := 323) (ic := 322) hown (by decide +kernel) (by decide +kernel) (hts2 _ zk_812) (hts2 _ zk_21) hstr (ze_hat ze_at322 (by decide) hts2 hE) (ze_good ze_at322 (by decide +kernel) (by decide +kernel)) hE.1 hE.2.1 P.2.2 (hL.1.trans hml.symm) dX10_element_51 dX10_element_54 dX10_element_55 dX10_element_58 dX10_element_61
            (out _) (by decide) (by decide) (by decide) (by decide) Bd.notSynchronized (ze_x P rfl) P.2.2.2.2 (by decide) (by decide)
      · rw [if_neg g] at hr; cases hr
    · rw [if_neg hc2] at hr
      cases hr
      obtain ⟨sa, hstr⟩ := hE.2.2.1 (RX10, 320, "no row") (by decide)
      exact vx_throwSW Bd.exec Bd.bytes hl (own := RX10) (cls := zISE) (names := zNMS) (ik := 318) (is := 320) (ic := 322) hown (by decide +kernel) (by decide +kernel) (hts2 _ zk_812) (hts2 _ zk_21) hstr (ze_hat ze_at322 (by decide) hts2 hE) (ze_good ze_at322 (by decide +kernel) (by decide +kernel)) hE.1 hE.2.1 P.2.2 (hL.1.trans hml.symm) dX10_element_26 dX10_element_29 dX10_element_30 dX10_element_33 dX10_element_36
        (out _) (by decide) (by decide) (by decide) (by decide) Bd.notSynchronized (ze_x P rfl) P.2.2.2.2 (by decide) (by decide)
  · rw [if_pos hc] at hr
    cases hr
    obtain ⟨sa, hstr⟩ := hE.2.2.1 (RX10, 313, "no such shelf") (by decide)
    exact vx_throwSW Bd.exec Bd.bytes hl (own := RX10) (cls := zIAE) (names := zNMS) (ik := 311) (is := 313) (ic := 315) hown (by decide +kernel) (by decide +kernel) (hts2 _ zk_811) (hts2 _ zk_20) hstr (ze_hat ze_at315 (by decide) hts2 hE) (ze_good ze_at315 (by decide +kernel) (by decide +kernel)) hE.1 hE.2.1 P.2.2 (hL.1.trans hml.symm) dX10_element_7 dX10_element_10 dX10_element_11 dX10_element_14 dX10_element_17
      (out _) (by decide) (by decide) (by decide) (by decide) Bd.notSynchronized (ze_x P rfl) P.2.2.2.2 (by decide) (by decide)

/-! the law's own element: it catches -/
theorem ze_el_or {d i : Int32} {h : zHp} {E : String} (hr : ze_el d i h = some (.inr E)) : E = zIAE ∨ E = zISE := by
  unfold ze_el at hr
  cases h1 : zf_X10_isShelf d with
  | none => rw [h1] at hr; cases hr
  | some r1 =>
  rw [h1] at hr
  replace hr : (if r1 = 0 then some (.inr zIAE) else _) = some (Sum.inr E) := hr
  by_cases c1 : r1 = 0
  · rw [if_pos c1] at hr; cases hr; exact Or.inl rfl
  rw [if_neg c1] at hr
  cases h2 : zf_X10_refuseRow d h with
  | none => rw [h2] at hr; cases hr
  | some r2 =>
  rw [h2] at hr
  replace hr : (if r2 = 0 then _ else some (.inr zISE)) = some (Sum.inr E) := hr
  by_cases c2 : r2 = 0
  · rw [if_pos c2] at hr
    by_cases g : zc_ix d 8
    · rw [if_pos g] at hr
      cases h3 : zf_X8_hasPlaces (43 + 1 + 2 * d.toNatClampNeg) i 1 h with
      | none => rw [h3] at hr; cases hr
      | some r3 =>
      rw [h3] at hr
      replace hr : (if r3 = 0 then some (.inr zISE) else _) = some (Sum.inr E) := hr
      by_cases c3 : r3 = 0
      · rw [if_pos c3] at hr; cases hr; exact Or.inr rfl
      · rw [if_neg c3] at hr
        by_cases g2 : zc_ix i 100
        · rw [if_pos g2] at hr; cases hr
        · rw [if_neg g2] at hr; cases hr
    · rw [if_neg g] at hr; cases hr
  · rw [if_neg c2] at hr; cases hr; exact Or.inr rfl
def ze_res : Int64 ⊕ String → zHp → Int32 × zHp
  | .inl v, h => (0, zc_ul h 80 0 v)
  | .inr E, h => (if E = zIAE then 1 else 2, h)
abbrev ze_hhL : List (Nat × Nat × Nat × Nat) := [(0, 9, 12, 13), (0, 9, 16, 15)]
abbrev ze_wsL : List Cond := Cond.codeWith yL_element cL_element 5 (some .int) ze_hhL :: zg_tbl
abbrev zM_L_element : zMI := (yL_element, cL_element, 5, (some .int), 7, 104)
theorem zc_pre2 {D : va_G} {c : zCS} {B : Nat} {h : zHp} {s : State} {H : Heap} {locs : List Loc} {own : String} {cc : ByteArray} {nL : Nat} {p : Program} {m : MethodId} {args : Array Value} {cd : Code} {As : List Value} (X : zw_X own cc nL p s m args cd) (P : zw_P D c B h s H locs) (hE : ze_ex B s) : PreS s H (va_Pc (As.map (zc_tr B)) (ze_Pr D c B h)) (As.map (zc_tr B)) :=
  ⟨ze_blind, fun U hU hW => ⟨rfl, ⟨⟨by rw [hU]; exact P.1, va_K.moved hW.alike P.2.1⟩, zn_warm hW X.2.2.2.2.2⟩, ze_exW hW (fun a h3 h4 => by rw [hU]; exact P.2.2.2.1 a h3 h4) hE⟩⟩
theorem zt_L_element {d i : Int32} {h : zHp} {r : Int64 ⊕ String} (hr : ze_el d i h = some r) (l : Launch) (D : va_G) (c : zCS) (B : Nat) (hl : l.stackTraces = false) :
    Met l yL_element ze_wsL (zi_room zM_L_element (1, 6)) (va_Pc [.ref (B + 0), .int d, .int i, .ref (B + 80)] (ze_Pr D c B h)) (zc_mI (ze_res r h) D c B) 1 6 (zc_ge B) := by
  refine va_MetW (cc := cL_element) (maxL := 5) (ret := some .int) (hh := ze_hhL) (by decide +kernel) rfl ?_
  intro p e s m args below meth cd s₁ Bd hml hv
  obtain ⟨rfl, ⟨⟨hP, hK⟩, hN⟩, hE⟩ := hv
  have hts := atoms_spec (ws := ze_wsL) Bd.pre
  have htab := vx_table (x := yL_element) Bd (hts _ List.mem_cons_self)
  have hts2 : ∀ w ∈ zg_tbl, w.before _ s = true := fun w hw => hts w (List.mem_cons_of_mem _ hw)
  have hown := findClass_of_methodNamed Bd.named
  have X : zw_X RL cL_element 5 p s m _ cd := ⟨Bd.exec, Bd.bytes, hml, hown, hts2, hN⟩
  have P : zw_P D c B h s s.heap [] := ⟨hP, hK, va_S.rf⟩
  have hL := zc_entL (nL := 5) (B := B) (av := [.ref 0, .int d, .int i, .ref 80]) (show 4 ≤ 5 by decide)
  rw [lg_entry_eq]
  show W _ _ _ _ _ _ _ _ _ _ _ _ _ _ _ (F0 m 0 ((lg_sl ([Value.ref 0, .int d, .int i, .ref 80].map (zc_tr B)) ++ List.replicate (5 - (lg_sl ([Value.ref 0, .int d, .int i, .ref 80].map (zc_tr B))).length) Slot.unset).toArray) [])
  generalize (lg_sl ([Value.ref 0, .int d, .int i, .ref 80].map (zc_tr B)) ++ List.replicate (5 - (lg_sl ([Value.ref 0, .int d, .int i, .ref 80].map (zc_tr B))).length) Slot.unset).toArray = ls0 at hL ⊢
  refine lv_aload_n X.1 X.2.1 dL_element_0 rfl (hL.2.2 3 _ rfl) ?_
  refine lv_iconst (v := 0) X.1 X.2.1 dL_element_1 (by decide) ?_
  refine lv_aload_n X.1 X.2.1 dL_element_2 rfl (hL.2.2 0 _ rfl) ?_
  refine lv_iload_n X.1 X.2.1 dL_element_3 rfl (hL.2.2 1 _ rfl) ?_
  refine lv_iload_n X.1 X.2.1 dL_element_4 rfl (hL.2.2 2 _ rfl) ?_
  have run : vx_Run p l e (zi_room zM_L_element (1, 6)) s m #[Value.ref (B + 0), .int d, .int i, .ref (B + 80)] below meth cd s.heap [] 0 0 1 6 (F0 m 5 ls0 [.int i, .int d, .ref (B + 0), .int 0, .ref (B + 80)]) [.int 0, .ref (B + 80)] _ _ (zc_ge B) :=
    vx_runV (nL := 5) (Ts := zg_tbl) (own := RL) (C := RX10) (b := B + 0) (As := [.int d, .int i]) (n := 2) (bytes := cX10_element) (maxL := 3) (ret := some .long) (index := 7) ⟨X.1, X.2.1, X.2.2.1, X.2.2.2.1, hts2⟩ (zt_X10_element hr l D c B hl)
      ⟨callB_of 2 hts2 (zg_good (zc_inws zp_X10_element)) rfl rfl rfl (hts2 _ zw_1) (hts2 _ zk_937) zp_X10_element.2.2 ⟨by decide, by decide⟩, hts2 _ zk_938, hts2 _ zk_939⟩
      ⟨ze_blind, zw_rcv (a := 0) (ci := 10) (n0 := 0) (q := (RX10, TX10, 12)) P rfl (by decide) rfl, (zc_pre2 (As := [.ref 0, .int d, .int i]) X P hE).2⟩ rfl rfl hL.1 rfl (lv_room (show 1 + (1 + 0) ≤ 8 by decide)) dL_element_5 ⟨by decide, by decide⟩
  refine vx_calll run P.2.2 (fun q _ h => h) (fun q h => h) (fun q _ h => h) ?_ ?_
  · intro E ce q9 u t H1 locs1 ht hvm hpx hBX hz hk hS1 hcell hcv hcl
    obtain ⟨rfl, hRp⟩ := hBX
    have P1 : zw_P D c B h s H1 locs1 := ⟨by rw [← ht]; exact hRp.1, P.2.1, hS1⟩
    rcases ze_el_or hr with rfl | rfl
    · refine vx_catch (own := RL) (name := zIAE) hown [] ⟨0, 9, 12, 13⟩ [⟨0, 9, 16, 15⟩] htab (fun z hz => nomatch hz) (by decide) (by decide) (hts2 _ zk_935) (va_Nw.use rfl (hE.2.2.2.1 zIAE (by decide))) hcell hcv hcl ?_
      refine lv_astore X.1 X.2.1 dL_element_12 (zc_Lhas hL) (by decide) rfl (fun ls1 h1 => ?_)
      refine lv_iconst (v := 1) X.1 X.2.1 dL_element_14 (by decide) ?_
      exact W.iret Bd.exec Bd.bytes Bd.returns (fun t ht hW => ⟨⟨_, h, rfl, ⟨rfl, rfl⟩, by rw [ht]; exact P1.1, va_K.moved hW.alike P1.2.1⟩, P1.2.2.F ht⟩) P1.2.2.2.2 dL_element_15 Bd.notSynchronized
    · refine vx_catch (own := RL) (name := zISE) hown [⟨0, 9, 12, 13⟩] ⟨0, 9, 16, 15⟩ [] htab (fun z hz => ?_) (by decide) (by decide) (hts2 _ zk_936) (va_Nw.use rfl (hE.2.2.2.1 zISE (by decide))) hcell hcv hcl ?_
      · rw [List.mem_singleton.mp hz]
        exact Or.inr ⟨by decide, zIAE, hts2 _ zk_935, hE.2.2.2.2.1 (zISE, zIAE) (by decide)⟩
      refine lv_astore X.1 X.2.1 dL_element_16 (zc_Lhas hL) (by decide) rfl (fun ls1 h1 => ?_)
      refine lv_iconst (v := 2) X.1 X.2.1 dL_element_18 (by decide) ?_
      exact W.iret Bd.exec Bd.bytes Bd.returns (fun t ht hW => ⟨⟨_, h, rfl, ⟨rfl, rfl⟩, by rw [ht]; exact P1.1, va_K.moved hW.alike P1.2.1⟩, P1.2.2.F ht⟩) P1.2.2.2.2 dL_element_19 Bd.notSynchronized
  · intro v u t H1 locs1 ht hvm hpost hB hz hk hS1
    obtain ⟨rfl, rfl⟩ := hpost
    have P1 : zw_P D c B u s H1 locs1 := ⟨by rw [← ht]; exact hB.1, P.2.1, hS1⟩
    refine zw_astl (a := 80) (n := 1) X P1 rfl (by decide) dL_element_8 (fun H2 locs2 P2 => ?_)
    refine lv_goto (tgt := 20) X.1 X.2.1 dL_element_9 (by decide) ?_
    refine lv_iconst (v := 0) X.1 X.2.1 dL_element_20 (by decide) ?_
    exact W.iret Bd.exec Bd.bytes Bd.returns (fun t ht hW => ⟨⟨_, _, rfl, ⟨rfl, rfl⟩, by rw [ht]; exact P2.1, va_K.moved hW.alike P2.2.1⟩, P2.2.2.F ht⟩) P2.2.2.2.2 dL_element_21 Bd.notSynchronized

/-! exceptions: what they want of the tables and of the heap; the kinds' own failures -/
abbrev zIAE : String := "java/lang/IllegalArgumentException"
abbrev zISE : String := "java/lang/IllegalStateException"
abbrev zUOE : String := "java/lang/UnsupportedOperationException"
abbrev zNMS : List String := ["java/lang/RuntimeException", "java/lang/Exception"]
def ze_castL : List String := [zIAE, zISE, zUOE]
def ze_ncL : List (String × String) := [(zISE, zIAE), (zUOE, zIAE), (zIAE, zISE), (zUOE, zISE), (zIAE, zUOE), (zISE, zUOE)]
def ze_strL : List (String × Nat × String) := [(RX9, 9, "a village fails"), (RX3, 9, "a doctor fails"), (RX2, 26, "a bishop fails"), (RX10, 313, "no such shelf"), (RX10, 320, "no row"), (RX10, 323, "no such place")]
def ze_decL : List MethodName := [⟨"java/lang/RuntimeException", "<init>", "(Ljava/lang/String;)V"⟩, ⟨"java/lang/Exception", "<init>", "(Ljava/lang/String;)V"⟩, ⟨"java/lang/Throwable", "<init>", "(Ljava/lang/String;)V"⟩]
def ze_ex (B : Nat) (U : State) : Prop := vx_Zq Bundle.tN "UNASSIGNED_STACK" Bundle.steD (zc_ge B) U U.heap ∧ vx_Zq Bundle.tN "SUPPRESSED_SENTINEL" Bundle.listD (zc_ge B) U U.heap ∧
  (∀ q ∈ ze_strL, ∃ a, vk_R q.1 q.2.1 q.2.2 a U) ∧ (∀ E ∈ ze_castL, va_Nw (.castable E E) U) ∧ (∀ q ∈ ze_ncL, va_Nc q.1 q.2 U) ∧ ∀ x ∈ ze_decL, va_Nw (.declares x) U
theorem ze_exW {B : Nat} {s U : State} (hW : s.WarmedH U.vm) (hk : ∀ a : Nat, a < s.heap.size → ¬ zc_ge B a → U.heap[a]? = s.heap[a]?) (h : ze_ex B s) : ze_ex B U :=
  ⟨(vx_Zq.moved hW.alike h.1).kept hk, (vx_Zq.moved hW.alike h.2.1).kept hk, fun q hq => (h.2.2.1 q hq).imp fun a ha => vk_R.warm hW ha, fun E hE => va_Nw.warmC hW (h.2.2.2.1 E hE), fun q hq => va_Nc.moved hW.alike (h.2.2.2.2.1 q hq), fun x hx => va_Nw.warmD hW (h.2.2.2.2.2 x hx)⟩
theorem ze_exS {B : Nat} {s U : State} (e : U.vm = s.vm) (eh : U.heap = s.heap) (h : ze_ex B s) : ze_ex B U := by
  have ha : s.vm.Alike U.vm := e ▸ Vm.Alike.refl s.vm
  have hk : ∀ a : Nat, a < s.heap.size → ¬ zc_ge B a → U.heap[a]? = s.heap[a]? := fun a _ _ => by rw [eh]
  exact ⟨(vx_Zq.moved ha h.1).kept hk, (vx_Zq.moved ha h.2.1).kept hk, fun q hq => (h.2.2.1 q hq).imp fun a ha => vk_R.same e ha, fun E hE => va_Nw.same rfl e.symm (h.2.2.2.1 E hE), fun q hq => va_Nc.moved ha (h.2.2.2.2.1 q hq), fun x hx => va_Nw.same rfl e.symm (h.2.2.2.2.2 x hx)⟩
def ze_Pr (D : va_G) (c : zCS) (B : Nat) (h : zHp) (U : State) : Prop := zc_Pr D c B h U ∧ ze_ex B U
theorem ze_blind {D : va_G} {c : zCS} {B : Nat} {h : zHp} {av : List Value} : FrameBlind (va_Pc av (ze_Pr D c B h)) := fun a U g mk q => by
  obtain ⟨q0, q1, qE⟩ := q
  obtain ⟨r0, r1⟩ := zc_blind (av := av) a U g mk ⟨q0, q1⟩
  exact ⟨r0, r1, ze_exS (s := U) (U := U.calling g mk a) rfl rfl qE⟩
/-- a kind's failure: nothing (none), or an exception of that class -/
def ze_FC (z : zMI) (oE : Option String) : Prop :=
  ∀ (l : Launch) (D : va_G) (c : zCS) (B : Nat) (h : zHp) (a : Nat), l.stackTraces = false →
    vx_Met l z.1 (zc_ws z) (zi_room z (1, 6)) (va_Pc [.ref (B + a)] (ze_Pr D c B h)) (va_Qv (fun _ : Unit => oE = none) (fun _ t => zc_Rp D c B h t) (zc_ge B)) (vx_X (fun _ : Unit => True) (fun E _ t => oE = some E ∧ zc_Rp D c B h t) (zc_ge B)) 1 6 (zc_ge B)
abbrev zM_X9_fail : zMI := (yX9_fail, cX9_fail, 1, none, 6, 82)
abbrev zM_X3_fail : zMI := (yX3_fail, cX3_fail, 1, none, 6, 82)
abbrev zM_X2_fail : zMI := (yX2_fail, cX2_fail, 1, none, 6, 82)
abbrev zM_X6_fail : zMI := (yX6_fail, cX6_fail, 1, none, 6, 82)
theorem zp_X9_fail : zc_okM zM_X9_fail 0 := ⟨zk_915, zw_2, by decide +kernel, by decide +kernel, by decide +kernel⟩
theorem zp_X3_fail : zc_okM zM_X3_fail 0 := ⟨zk_893, zw_4, by decide +kernel, by decide +kernel, by decide +kernel⟩
theorem zp_X2_fail : zc_okM zM_X2_fail 0 := ⟨zk_820, zw_6, by decide +kernel, by decide +kernel, by decide +kernel⟩
theorem zp_X6_fail : zc_okM zM_X6_fail 0 := ⟨zk_914, zw_7, by decide +kernel, by decide +kernel, by decide +kernel⟩
/-- the words of a throw, of the tables alone -/
def ze_at (own : String) (ic : Nat) (E : String) : Prop := (∀ w ∈ (vx_atS own ic E zNMS).filter goodWord, w ∈ zg_tbl) ∧ (∀ w ∈ (vx_atS own ic E zNMS).filter (fun w => !goodWord w), w ∈ Cond.castable E E :: ze_decL.map Cond.declares)
theorem ze_at_mk {own : String} {ic : Nat} {E : String} (h1 : ∀ w ∈ (vx_atS own ic E zNMS).filter goodWord, w ∈ lw_tbl) (h2 : ∀ w ∈ (vx_atS own ic E zNMS).filter (fun w => !goodWord w), w ∈ Cond.castable E E :: ze_decL.map Cond.declares) : ze_at own ic E :=
  ⟨fun w hw => zg_mem (h1 w hw) (List.mem_filter.mp hw).2, h2⟩
theorem ze_at9 : ze_at RX9 11 zIAE := ze_at_mk (by decide +kernel) (by decide +kernel)
theorem ze_at3 : ze_at RX3 11 zISE := ze_at_mk (by decide +kernel) (by decide +kernel)
theorem ze_at2 : ze_at RX2 28 zUOE := ze_at_mk (by decide +kernel) (by decide +kernel)
theorem ze_at315 : ze_at RX10 315 zIAE := ze_at_mk (by decide +kernel) (by decide +kernel)
theorem ze_at322 : ze_at RX10 322 zISE := ze_at_mk (by decide +kernel) (by decide +kernel)
theorem ze_hat {own E : String} {ic : Nat} {B : Nat} {s : State} {args : Array Value} (ha : ze_at own ic E) (hE : E ∈ ze_castL) (hts : ∀ w ∈ zg_tbl, w.before args s = true) (hx : ze_ex B s) : ∀ w ∈ vx_atS own ic E zNMS, w.before args s = true :=
  vx_hat (fun w hw => hts w (ha.1 w hw)) ha.2 (vx_c (va_Nw.use rfl (hx.2.2.2.1 E hE)) (fun w hw => by obtain ⟨x, h1, h2⟩ := List.mem_map.mp hw; subst h2; exact va_Nw.use rfl (hx.2.2.2.2.2 x h1)))
theorem ze_good {own E : String} {ik ic : Nat} (ha : ze_at own ic E) (h1 : goodWord (Cond.classLink own ik E) = true) (h2 : goodWord (Cond.initialized E) = true) : ∀ w ∈ Cond.classLink own ik E :: Cond.initialized E :: vx_atS own ic E zNMS, vx_ot w = true := by
  intro w hw
  rcases List.mem_cons.mp hw with rfl | hw
  · simp [vx_ot, h1]
  rcases List.mem_cons.mp hw with rfl | hw
  · simp [vx_ot, h2]
  by_cases g : goodWord w = true
  · simp [vx_ot, g]
  · have h3 := ha.2 w (List.mem_filter.mpr ⟨hw, by cases hg : goodWord w <;> first | rfl | exact absurd hg g⟩)
    rcases List.mem_cons.mp h3 with rfl | h3
    · rfl
    · obtain ⟨x, -, h2⟩ := List.mem_map.mp h3
      subst h2
      rfl
theorem ze_x {D : va_G} {c : zCS} {B : Nat} {h : zHp} {s : State} {H : Heap} {locs : List Loc} {E : String} {φ : String → Prop} (P : zw_P D c B h s H locs) (hφ : φ E) : ∀ t : State, s.vm.Alike t.vm → H.size ≤ t.heap.size → (∀ q : Nat, q < H.size → t.heap[q]? = H[q]?) → vx_X (fun _ : Unit => True) (fun E _ t => φ E ∧ zc_Rp D c B h t) (zc_ge B) E s t := by
  intro t hvm hz hq
  refine ⟨(), trivial, ⟨hφ, P.1.kept (fun k x hx => hq x.1 (vx_lt P.1 hx)), va_K.moved hvm P.2.1⟩, Nat.le_trans P.2.2.1 hz, fun q h1 h2 => ?_⟩
  rw [hq q (Nat.lt_of_lt_of_le h1 P.2.2.1)]
  exact P.2.2.2.1 q h1 h2
theorem zt_X9_fail : ze_FC zM_X9_fail (some zIAE) := by
  intro l D c B h a hl
  refine vx_ofW (cc := cX9_fail) (maxL := 1) (ret := none) (by decide +kernel) rfl ?_
  intro p e s m args below meth cd s₁ Bd hml htab hv
  obtain ⟨rfl, ⟨⟨hP, hK⟩, hN⟩, hE⟩ := hv
  have hts := atoms_spec (ws := zc_ws zM_X9_fail) Bd.pre
  have hts2 : ∀ w ∈ zg_tbl, w.before _ s = true := fun w hw => hts w (List.mem_cons_of_mem _ hw)
  have P : zw_P D c B h s s.heap [] := ⟨hP, hK, va_S.rf⟩
  obtain ⟨sa, hstr⟩ := hE.2.2.1 (RX9, 9, "a village fails") (by decide)
  rw [lg_entry_eq]
  exact vx_throwS Bd.exec Bd.bytes hl (own := RX9) (cls := zIAE) (names := zNMS) (ik := 7) (is := 9) (ic := 11) (findClass_of_methodNamed Bd.named) (by decide +kernel) (by decide +kernel) (hts2 _ zk_916) (hts2 _ zk_20) hstr (ze_hat ze_at9 (by decide) hts2 hE) (ze_good ze_at9 (by decide +kernel) (by decide +kernel)) hE.1 hE.2.1 va_S.rf (hml ▸ (lv_entry [.ref (B + a)] (n := 1) (show 1 ≤ 1 by decide)).1) dX9_fail_0 dX9_fail_3 dX9_fail_4 dX9_fail_6 dX9_fail_9
    (fun x hx => (htab x hx).elim) (by decide) (by decide) (by decide) (by decide) Bd.notSynchronized (ze_x P rfl) (fun z hz => nomatch hz) (by decide) (by decide)

/-! single steps and calls over the fixed world, in any frame and room -/
def zw_X (own : String) (cc : ByteArray) (nL : Nat) (p : Program) (s : State) (m : MethodId) (args : Array Value) (cd : Code) : Prop :=
  p.tables.exec = Jvm.exec ∧ cd.code = cc ∧ cd.maxLocals = nL ∧ s.vm.findClass own = some m.cls ∧ (∀ w ∈ zg_tbl, w.before args s = true) ∧ zn_ok s
/-- the world holds h; what has been written lies at B or above -/
def zw_P (D : va_G) (c : zCS) (B : Nat) (h : zHp) (s : State) (H : Heap) (locs : List Loc) : Prop :=
  va_P D vwCl (zc_wld c B h) H ∧ va_K D vwCl (zc_tys c) s ∧ va_S (zc_ge B) s.heap H locs
section ZWR
variable {p : Program} {l : Launch} {e : Env} {R : Room} {s : State} {m : MethodId} {args : Array Value} {below : List Frame} {meth : Method} {cd : Code} {H : Heap} {locs : List Loc} {kc ks : Nat} {Q : State → Prop}
variable {own : String} {cc : ByteArray} {nL pc : Nat} {ls0 : Array Slot} {rest stk : List Value} {D : va_G} {c : zCS} {B a n idx : Nat} {h : zHp} {z : zMI} {As : List Value} {T : zRT}
theorem zw_get {ci n0 k : Nat} {d : Nat × Nat} {ty : FieldType} {fin : Bool} (v : Value) (X : zw_X own cc nL p s m args cd) (P : zw_P D c B h s H locs) (hF : zc_F own idx ci k d ty fin) (hs : zc_lay[a]? = some (ci, n0)) (hv : zc_val B a (h.1 a) k d = v) (hd : decode cc pc = .ok (.getfield idx, 3)) (kk : W p l e R s m args below meth cd H locs kc ks Q (F0 m (pc + 3) ls0 (v :: rest))) : W p l e R s m args below meth cd H locs kc ks Q (F0 m pc ls0 (.ref (B + a) :: rest)) := by
  obtain ⟨C, T, N, ty0, h1, h2, h3, h4, h5, h6, h7, h8, h9, h10, h11⟩ := hF
  have hg := zc_wld_get (c := c) (B := B) (h := h) hs
  rw [zc_obj h2] at hg
  have hv2 : (zc_fields B a (h.1 a) (zc_slots ci))[k]? = some v := by rw [zc_fields_get h4, hv]
  rcases h11 with h11 | ⟨host, h11⟩
  · exact va_get X.1 X.2.1 X.2.2.2.2.1 h5 X.2.2.2.1 P.2.1 P.1 a hg h1 k h3 (X.2.2.2.2.1 _ h11) (fun x hx => by rw [h8]; exact hx) hv2 hd kk
  · exact va_getN X.1 X.2.1 X.2.2.2.2.1 h5 X.2.2.2.1 P.2.1 P.1 a hg h1 k h3 (zn_use X.2.2.2.2.2 h11) (fun x hx => by rw [h8]; exact hx) hv2 hd kk
theorem zw_aldi {i : Int32} (X : zw_X own cc nL p s m args cd) (P : zw_P D c B h s H locs) (hs : zc_lay[a]? = some (12, n)) (hi : zc_ix i n) (hd : decode cc pc = .ok (.iaload, 1)) (kk : W p l e R s m args below meth cd H locs kc ks Q (F0 m (pc + 1) ls0 (.int (h.1 a i.toNatClampNeg) :: rest))) : W p l e R s m args below meth cd H locs kc ks Q (F0 m pc ls0 (.int i :: .ref (B + a) :: rest)) :=
  va_iald X.1 X.2.1 P.2.1 P.1 a 0 (cA := c.1) (zc_wld_get (c := c) (B := B) (h := h) hs) rfl hi hd kk
theorem zw_aldl {i : Int32} (X : zw_X own cc nL p s m args cd) (P : zw_P D c B h s H locs) (hs : zc_lay[a]? = some (13, n)) (hi : zc_ix i n) (hd : decode cc pc = .ok (.laload, 1)) (kk : W p l e R s m args below meth cd H locs kc ks Q (F0 m (pc + 1) ls0 (.long (h.2 a i.toNatClampNeg) :: rest))) : W p l e R s m args below meth cd H locs kc ks Q (F0 m pc ls0 (.int i :: .ref (B + a) :: rest)) :=
  va_lald X.1 X.2.1 P.2.1 P.1 a 1 (cA := c.2.1) (zc_wld_get (c := c) (B := B) (h := h) hs) rfl hi hd kk
theorem zw_aldS {i : Int32} (X : zw_X own cc nL p s m args cd) (P : zw_P D c B h s H locs) (hs : zc_lay[a]? = some (14, n)) (hi : zc_ix i n) (hd : decode cc pc = .ok (.aaload, 1)) (kk : W p l e R s m args below meth cd H locs kc ks Q (F0 m (pc + 1) ls0 (.ref (B + (a + 1 + 2 * i.toNatClampNeg)) :: rest))) : W p l e R s m args below meth cd H locs kc ks Q (F0 m pc ls0 (.int i :: .ref (B + a) :: rest)) :=
  va_aldq X.1 X.2.1 P.2.1 P.1 a 2 (cA := c.2.2.1) (zc_wld_get (c := c) (B := B) (h := h) hs) rfl hi hd kk
theorem zw_aldV {i : Int32} (X : zw_X own cc nL p s m args cd) (P : zw_P D c B h s H locs) (hs : zc_lay[a]? = some (15, n)) (hi : zc_ix i n) (hd : decode cc pc = .ok (.aaload, 1)) (kk : W p l e R s m args below meth cd H locs kc ks Q (F0 m (pc + 1) ls0 (.ref (B + (a + 1 + i.toNatClampNeg)) :: rest))) : W p l e R s m args below meth cd H locs kc ks Q (F0 m pc ls0 (.int i :: .ref (B + a) :: rest)) :=
  va_aldq X.1 X.2.1 P.2.1 P.1 a 3 (cA := c.2.2.2) (zc_wld_get (c := c) (B := B) (h := h) hs) rfl hi hd kk
theorem zw_astl {i : Int32} {x : Int64} (X : zw_X own cc nL p s m args cd) (P : zw_P D c B h s H locs) (hs : zc_lay[a]? = some (13, n)) (hi : zc_ix i n) (hd : decode cc pc = .ok (.lastore, 1)) (kk : ∀ (H1 : Heap) (locs1 : List Loc), zw_P D c B (zc_ul h a i.toNatClampNeg x) s H1 locs1 → W p l e R s m args below meth cd H1 locs1 kc ks Q (F0 m (pc + 1) ls0 rest)) : W p l e R s m args below meth cd H locs kc ks Q (F0 m pc ls0 (.long x :: .int i :: .ref (B + a) :: rest)) := by
  have hset : (zc_wld c B h).set a (B + a, .inl (c.2.1, n, .inr (.inl (vp_updL (h.2 a) i.toNatClampNeg x)))) = zc_wld c B (zc_ul h a i.toNatClampNeg x) := by
    refine zc_wld_set hs ?_ zc_ul_o
    rw [zc_ul_s]; rfl
  exact va_last X.1 X.2.1 P.2.1 P.1 zc_wld_D P.2.2 a 1 (cA := c.2.1) (zc_wld_get (c := c) (B := B) (h := h) hs) rfl hi hd (fun H1 locs1 hP1 hD1 hS1 => kk H1 locs1 ⟨by rw [hset] at hP1; exact hP1, P.2.1, hS1⟩)
abbrev zw_fit (R : Room) (z : zMI) : Prop := z.2.2.2.2.1 + 1 ≤ R.frames ∧ 8 + (z.2.2.1 + 11) + z.2.2.2.2.2 ≤ R.locals
theorem zw_preS (X : zw_X own cc nL p s m args cd) (P : zw_P D c B h s H locs) : PreS s H (va_Pc (As.map (zc_tr B)) (zc_Pr D c B h)) (As.map (zc_tr B)) :=
  ⟨zc_blind, fun U hU hW => ⟨rfl, ⟨by rw [hU]; exact P.1, va_K.moved hW.alike P.2.1⟩, zn_warm hW X.2.2.2.2.2⟩⟩
theorem zw_S (X : zw_X own cc nL p s m args cd) (P : zw_P D c B h s H locs) (hM : zc_Cn z As h T) (ok : zc_okM z n) (hlink : Cond.methodLink own idx z.1 ∈ zg_tbl) (hst : Cond.static z.1 ∈ zg_tbl) (hn : As.length = n) (hstk : stk = (As.map (zc_tr B)).reverse ++ rest) (h8 : (rest.map fun v => v.category).sum ≤ 8) (hR : zw_fit R z) (hf : kc ≤ R.cells ∧ ks ≤ R.slots) (hls : ls0.size = nL) (hd : decode cc pc = .ok (.invokestatic idx, 3)) :
    va_Run p l e R s m args below meth cd H locs kc ks 0 0 (F0 m pc ls0 stk) rest (T D c B (As.map (zc_tr B)).toArray) (zc_ge B) :=
  va_runS (nL := nL) (Ts := zg_tbl) (own := own) (n := n) (bytes := z.2.1) (maxL := z.2.2.1) (ret := z.2.2.2.1) (index := idx) ⟨X.1, X.2.1, X.2.2.1, X.2.2.2.1, X.2.2.2.2.1⟩ (hM l D c B)
    ⟨callB_of n X.2.2.2.2.1 (zg_good (zc_inws ok)) rfl rfl rfl (X.2.2.2.2.1 _ ok.2.1) (X.2.2.2.2.1 _ hlink) ok.2.2 hR, X.2.2.2.2.1 _ hst⟩ (zw_preS X P) rfl (by rw [List.length_map]; exact hn) hls hstk (lv_room h8) hd hf
theorem zw_rcv {ci n0 : Nat} {q : vw_C} (P : zw_P D c B h s H locs) (hs : zc_lay[a]? = some (ci, n0)) (hci : ci < 12) (hq : vwCl[ci]? = some q) : ∃ cell : Cell, H[B + a]? = some cell ∧ cell.vm.isStatics = false ∧ s.vm.findClass q.1 = some cell.cls := zc_rcv P.1 P.2.1 hs hci hq
theorem zw_V {ci n0 : Nat} {q : vw_C} (X : zw_X own cc nL p s m args cd) (P : zw_P D c B h s H locs) (hM : zc_Cn z (.ref a :: As) h T) (ok : zc_okM z n) (hlink : Cond.methodLink own idx z.1 ∈ zg_tbl) (hin : Cond.instanceMethod z.1 ∈ zg_tbl) (hsel : Cond.selects q.1 z.1 z.1 ∈ zg_tbl) (hs : zc_lay[a]? = some (ci, n0)) (hci : ci < 12) (hq : vwCl[ci]? = some q) (hn : As.length = n) (hstk : stk = (As.map (zc_tr B)).reverse ++ .ref (B + a) :: rest) (h8 : (rest.map fun v => v.category).sum ≤ 8) (hR : zw_fit R z) (hf : kc ≤ R.cells ∧ ks ≤ R.slots) (hls : ls0.size = nL) (hd : decode cc pc = .ok (.invokevirtual idx, 3)) :
    va_Run p l e R s m args below meth cd H locs kc ks 0 0 (F0 m pc ls0 stk) rest (T D c B (.ref (B + a) :: As.map (zc_tr B)).toArray) (zc_ge B) := by
  refine va_runV (nL := nL) (Ts := zg_tbl) (own := own) (C := q.1) (b := B + a) (As := As.map (zc_tr B)) (n := n) (bytes := z.2.1) (maxL := z.2.2.1) (ret := z.2.2.2.1) (index := idx) ⟨X.1, X.2.1, X.2.2.1, X.2.2.2.1, X.2.2.2.2.1⟩ (hM l D c B)
    ⟨callB_of n X.2.2.2.2.1 (zg_good (zc_inws ok)) rfl rfl rfl (X.2.2.2.2.1 _ ok.2.1) (X.2.2.2.2.1 _ hlink) ok.2.2 hR, X.2.2.2.2.1 _ hin, X.2.2.2.2.1 _ hsel⟩ ⟨zc_blind, zw_rcv P hs hci hq, ?_⟩ rfl (by rw [List.length_map]; exact hn) hls hstk (lv_room h8) hd hf
  exact (zw_preS (As := .ref a :: As) X P).2
theorem zw_O {ci n0 : Nat} {q : vw_C} {x : MethodName} {b0 : ByteArray} {m0 : Nat} {r0 : Option FieldType} (X : zw_X own cc nL p s m args cd) (P : zw_P D c B h s H locs) (hM : zc_Cn z (.ref a :: As) h T) (ok : zc_okM z n) (hlink : Cond.methodLink own idx x ∈ zg_tbl) (hsame : Cond.sameMethod x.cls x.cls x.name x.desc ∈ zg_tbl) (hinx : Cond.instanceMethod x ∈ zg_tbl) (hx : Cond.code x b0 m0 r0 ∈ zg_tbl) (hxd : x.cls ≠ "java/lang/invoke/MethodHandle" ∧ x.cls ≠ "java/lang/invoke/VarHandle" ∧ (parseMethodDescriptor x.desc).map (fun d => d.parameters.length) = some n) (hin : Cond.instanceMethod z.1 ∈ zg_tbl) (hsel : Cond.selects q.1 x z.1 ∈ zg_tbl) (hs : zc_lay[a]? = some (ci, n0)) (hci : ci < 12) (hq : vwCl[ci]? = some q) (hn : As.length = n) (hstk : stk = (As.map (zc_tr B)).reverse ++ .ref (B + a) :: rest) (h8 : (rest.map fun v => v.category).sum ≤ 8) (hR : zw_fit R z) (hf : kc ≤ R.cells ∧ ks ≤ R.slots) (hls : ls0.size = nL) (hd : decode cc pc = .ok (.invokevirtual idx, 3)) :
    va_Run p l e R s m args below meth cd H locs kc ks 0 0 (F0 m pc ls0 stk) rest (T D c B (.ref (B + a) :: As.map (zc_tr B)).toArray) (zc_ge B) := by
  have hts := X.2.2.2.2.1
  refine va_runU (nL := nL) (Ts := zg_tbl) (own := own) (C := q.1) (owner := x.cls) (x := x) (b := B + a) (As := As.map (zc_tr B)) (n := n) (bytes := z.2.1) (maxL := z.2.2.1) (ret := z.2.2.2.1) (index := idx) ⟨X.1, X.2.1, X.2.2.1, X.2.2.2.1, hts⟩ (hM l D c B) ?_ ⟨zc_blind, zw_rcv P hs hci hq, ?_⟩ rfl (by rw [List.length_map]; exact hn) hls hstk (lv_room h8) hd hf
  · refine va_cwO (b0 := b0) (m0 := m0) (r0 := r0) n hts (zg_good ?_) rfl rfl rfl hx hxd hR
    intro w hw
    simp only [va_wsO, List.mem_append, List.mem_cons, List.not_mem_nil, or_false] at hw
    rcases hw with (rfl | rfl | rfl | rfl | rfl | rfl) | hw
    · exact hlink
    · exact hsame
    · exact hinx
    · exact hsel
    · exact hin
    · exact ok.2.1
    · exact zc_inws ok w hw
  · exact (zw_preS (As := .ref a :: As) X P).2
/-- behind such a call: the int, and the world -/
theorem zw_ki {a : Array Value} {r : Int32 × zHp} (P : zw_P D c B h s H locs) (run : va_Run p l e R s m args below meth cd H locs kc ks 0 0 (F0 m pc ls0 stk) rest (zc_mI r D c B a) (zc_ge B)) (kk : ∀ (H1 : Heap) (locs1 : List Loc), zw_P D c B r.2 s H1 locs1 → W p l e R s m args below meth cd H1 locs1 kc ks Q (F0 m (pc + 3) ls0 (.int r.1 :: rest))) : W p l e R s m args below meth cd H locs kc ks Q (F0 m pc ls0 stk) := by
  refine va_calli run P.2.2 (fun q _ h => h) (fun q h => h) (fun r1 u t H1 locs1 ht hvm hpost hB hz hk hS1 => ?_)
  obtain ⟨rfl, rfl⟩ := hpost
  exact kk H1 locs1 ⟨by rw [← ht]; exact hB.1, P.2.1, hS1⟩
theorem zw_kl {a : Array Value} {r : Int64 × zHp} (P : zw_P D c B h s H locs) (run : va_Run p l e R s m args below meth cd H locs kc ks 0 0 (F0 m pc ls0 stk) rest (zc_mL r D c B a) (zc_ge B)) (kk : ∀ (H1 : Heap) (locs1 : List Loc), zw_P D c B r.2 s H1 locs1 → W p l e R s m args below meth cd H1 locs1 kc ks Q (F0 m (pc + 3) ls0 (.long r.1 :: rest))) : W p l e R s m args below meth cd H locs kc ks Q (F0 m pc ls0 stk) := by
  refine va_calll run P.2.2 (fun q _ h => h) (fun q h => h) (fun r1 u t H1 locs1 ht hvm hpost hB hz hk hS1 => ?_)
  obtain ⟨rfl, rfl⟩ := hpost
  exact kk H1 locs1 ⟨by rw [← ht]; exact hB.1, P.2.1, hS1⟩
end ZWR

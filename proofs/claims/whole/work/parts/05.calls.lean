/-! calls over the abstract heap -/
def zc_okM (y : zMI) (n : Nat) : Prop :=
  Cond.code y.1 y.2.1 y.2.2.1 y.2.2.2.1 ∈ zg_tbl ∧ Cond.initialized y.1.cls ∈ zg_tbl ∧ y.1.cls ≠ "java/lang/invoke/MethodHandle" ∧ y.1.cls ≠ "java/lang/invoke/VarHandle" ∧ (parseMethodDescriptor y.1.desc).map (fun d => d.parameters.length) = some n
def zc_fit (y z : zMI) : Prop := z.2.2.2.2.1 + 1 ≤ y.2.2.2.2.1 ∧ 8 + (z.2.2.1 + 11) + z.2.2.2.2.2 ≤ y.2.2.2.2.2
def zc_Run (y z : zMI) (pc : Nat) (av : List Value) (h : zHp) : Prop :=
  ∀ (l : Launch) (D : va_G) (c : zCS) (B : Nat) (p : Program) (e : Env) (s : State) (m : MethodId) (args : Array Value) (below : List Frame) (meth : Method) (cd : Code) (H : Heap) (locs : List Loc) (ls0 : Array Slot) (rest : List Value) (Qc : Array Value → State → Outcome → State → Prop),
    zc_Cx y p s m args meth cd → va_P D vwCl (zc_wld c B h) H → va_K D vwCl (zc_tys c) s → ls0.size = y.2.2.1 → (rest.map fun v => v.category).sum ≤ 8 →
    Met l z.1 (zc_ws z) (zc_room z) (va_Pc (av.map (zc_tr B)) (zc_Pr D c B h)) Qc 0 0 (zc_ge B) →
    va_Run p l e (zc_room y) s m args below meth cd H locs 0 0 0 0 (F0 m pc ls0 ((av.map (zc_tr B)).reverse ++ rest)) rest (Qc (av.map (zc_tr B)).toArray) (zc_ge B)
theorem zc_blind {D : va_G} {c : zCS} {B : Nat} {h : zHp} {av : List Value} : FrameBlind (va_Pc av (zc_Pr D c B h)) := fun a U g mk q => by
  obtain ⟨q0, ⟨qP, qK⟩, qN⟩ := q
  exact ⟨q0, ⟨qP, va_K.moved (u := U) (U := U.calling g mk a) (Vm.Alike.refl U.vm) qK⟩, zn_same (s := U) (U := U.calling g mk a) rfl qN⟩
theorem zc_inws {z : zMI} {n : Nat} (ok : zc_okM z n) : ∀ w ∈ zc_ws z, w ∈ zg_tbl := fun w hw => (List.mem_cons.mp hw).elim (fun e => e ▸ ok.1) (fun h => h)
section ZR
variable {y z : zMI} {pc : Nat} {h : zHp} {n idx : Nat} {As : List Value}
theorem zc_runS (ok : zc_okM z n) (hfit : zc_fit y z) (hlink : Cond.methodLink y.1.cls idx z.1 ∈ zg_tbl) (hst : Cond.static z.1 ∈ zg_tbl) (hn : As.length = n) (hd : decode y.2.1 pc = .ok (.invokestatic idx, 3)) : zc_Run y z pc As h := by
  intro l D c B p e s m args below meth cd H locs ls0 rest Qc X hP hK hsz h8 hM
  have hts := X.2.2.2.2.2.1
  refine va_runS (nL := y.2.2.1) (Ts := zg_tbl) (own := y.1.cls) (n := n) (bytes := z.2.1) (maxL := z.2.2.1) (ret := z.2.2.2.1) (index := idx) ⟨X.1, X.2.1, X.2.2.2.1, X.2.2.2.2.1, hts⟩ hM ⟨?_, hts _ hst⟩ ⟨zc_blind, ?_⟩ rfl (by rw [List.length_map]; exact hn) hsz rfl (lv_room h8) hd ⟨Nat.le_refl _, Nat.le_refl _⟩
  · exact callB_of n hts (zg_good (zc_inws ok)) rfl rfl rfl (hts _ ok.2.1) (hts _ hlink) ok.2.2 hfit
  · exact fun U hU hW => ⟨rfl, ⟨by rw [hU]; exact hP, va_K.moved hW.alike hK⟩, zn_warm hW X.2.2.2.2.2.2.2⟩
theorem zc_runSN {host : String} (ok : zc_okM z n) (hfit : zc_fit y z) (hlink : Cond.methodLinkNest y.1.cls idx z.1 host ∈ zn_tbl) (hst : Cond.static z.1 ∈ zg_tbl) (hn : As.length = n) (hd : decode y.2.1 pc = .ok (.invokestatic idx, 3)) : zc_Run y z pc As h := by
  intro l D c B p e s m args below meth cd H locs ls0 rest Qc X hP hK hsz h8 hM
  have hts := X.2.2.2.2.2.1
  refine va_runSN (nL := y.2.2.1) (Ts := zg_tbl) (own := y.1.cls) (host := host) (n := n) (bytes := z.2.1) (maxL := z.2.2.1) (ret := z.2.2.2.1) (index := idx) ⟨X.1, X.2.1, X.2.2.2.1, X.2.2.2.2.1, hts⟩ hM ⟨?_, hts _ hst, trivial⟩ ⟨zc_blind, ?_⟩ rfl (by rw [List.length_map]; exact hn) hsz rfl (lv_room h8) hd ⟨Nat.le_refl _, Nat.le_refl _⟩
  · exact va_cnB n hts (zg_good (zc_inws ok)) rfl rfl rfl (X.2.2.2.2.2.2.2 _ hlink) (hts _ ok.2.1) ok.2.2 hfit
  · exact fun U hU hW => ⟨rfl, ⟨by rw [hU]; exact hP, va_K.moved hW.alike hK⟩, zn_warm hW X.2.2.2.2.2.2.2⟩
theorem zc_rcv {D : va_G} {c : zCS} {B a ci n0 : Nat} {s : State} {H : Heap} {q : vw_C} (hP : va_P D vwCl (zc_wld c B h) H) (hK : va_K D vwCl (zc_tys c) s) (hs : zc_lay[a]? = some (ci, n0)) (hci : ci < 12) (hq : vwCl[ci]? = some q) : ∃ cell : Cell, H[B + a]? = some cell ∧ cell.vm.isStatics = false ∧ s.vm.findClass q.1 = some cell.cls := by
  have hg := zc_wld_get (c := c) (B := B) (h := h) hs
  rw [zc_obj hci] at hg
  exact va_recv hK hP hq hg
theorem zc_runV {a ci n0 : Nat} {q : vw_C} (ok : zc_okM z n) (hfit : zc_fit y z) (hlink : Cond.methodLink y.1.cls idx z.1 ∈ zg_tbl) (hin : Cond.instanceMethod z.1 ∈ zg_tbl) (hsel : Cond.selects q.1 z.1 z.1 ∈ zg_tbl) (hs : zc_lay[a]? = some (ci, n0)) (hci : ci < 12) (hq : vwCl[ci]? = some q) (hn : As.length = n) (hd : decode y.2.1 pc = .ok (.invokevirtual idx, 3)) : zc_Run y z pc (.ref a :: As) h := by
  intro l D c B p e s m args below meth cd H locs ls0 rest Qc X hP hK hsz h8 hM
  have hts := X.2.2.2.2.2.1
  refine va_runV (nL := y.2.2.1) (Ts := zg_tbl) (own := y.1.cls) (C := q.1) (b := B + a) (As := As.map (zc_tr B)) (n := n) (bytes := z.2.1) (maxL := z.2.2.1) (ret := z.2.2.2.1) (index := idx) ⟨X.1, X.2.1, X.2.2.2.1, X.2.2.2.2.1, hts⟩ hM ⟨?_, hts _ hin, hts _ hsel⟩ ⟨zc_blind, zc_rcv hP hK hs hci hq, ?_⟩ rfl (by rw [List.length_map]; exact hn) hsz ?_ (lv_room h8) hd ⟨Nat.le_refl _, Nat.le_refl _⟩
  · exact callB_of n hts (zg_good (zc_inws ok)) rfl rfl rfl (hts _ ok.2.1) (hts _ hlink) ok.2.2 hfit
  · exact fun U hU hW => ⟨rfl, ⟨by rw [hU]; exact hP, va_K.moved hW.alike hK⟩, zn_warm hW X.2.2.2.2.2.2.2⟩
  · show ((Value.ref (B + a)) :: As.map (zc_tr B)).reverse ++ rest = _
    rw [List.reverse_cons, List.append_assoc]; rfl
theorem zc_runO {a ci n0 : Nat} {q : vw_C} {x : MethodName} {b0 : ByteArray} {m0 : Nat} {r0 : Option FieldType} (ok : zc_okM z n) (hfit : zc_fit y z) (hlink : Cond.methodLink y.1.cls idx x ∈ zg_tbl) (hsame : Cond.sameMethod x.cls x.cls x.name x.desc ∈ zg_tbl) (hinx : Cond.instanceMethod x ∈ zg_tbl) (hx : Cond.code x b0 m0 r0 ∈ zg_tbl) (hxd : x.cls ≠ "java/lang/invoke/MethodHandle" ∧ x.cls ≠ "java/lang/invoke/VarHandle" ∧ (parseMethodDescriptor x.desc).map (fun d => d.parameters.length) = some n) (hin : Cond.instanceMethod z.1 ∈ zg_tbl) (hsel : Cond.selects q.1 x z.1 ∈ zg_tbl) (hs : zc_lay[a]? = some (ci, n0)) (hci : ci < 12) (hq : vwCl[ci]? = some q) (hn : As.length = n) (hd : decode y.2.1 pc = .ok (.invokevirtual idx, 3)) : zc_Run y z pc (.ref a :: As) h := by
  intro l D c B p e s m args below meth cd H locs ls0 rest Qc X hP hK hsz h8 hM
  have hts := X.2.2.2.2.2.1
  refine va_runU (nL := y.2.2.1) (Ts := zg_tbl) (own := y.1.cls) (C := q.1) (owner := x.cls) (x := x) (b := B + a) (As := As.map (zc_tr B)) (n := n) (bytes := z.2.1) (maxL := z.2.2.1) (ret := z.2.2.2.1) (index := idx) ⟨X.1, X.2.1, X.2.2.2.1, X.2.2.2.2.1, hts⟩ hM ?_ ⟨zc_blind, zc_rcv hP hK hs hci hq, ?_⟩ rfl (by rw [List.length_map]; exact hn) hsz ?_ (lv_room h8) hd ⟨Nat.le_refl _, Nat.le_refl _⟩
  · refine va_cwO (b0 := b0) (m0 := m0) (r0 := r0) n hts (zg_good ?_) rfl rfl rfl hx hxd hfit
    intro w hw
    simp only [va_wsO, List.mem_append, List.mem_cons, List.not_mem_nil, or_false] at hw
    rcases hw with (rfl | rfl | rfl | rfl | rfl | rfl) | hw
    · exact hlink
    · exact hsame
    · exact hinx
    · exact hsel
    · exact hin
    · exact ok.2.1
    · exact zc_inws ok w hw
  · exact fun U hU hW => ⟨rfl, ⟨by rw [hU]; exact hP, va_K.moved hW.alike hK⟩, zn_warm hW X.2.2.2.2.2.2.2⟩
  · show ((Value.ref (B + a)) :: As.map (zc_tr B)).reverse ++ rest = _
    rw [List.reverse_cons, List.append_assoc]; rfl
theorem zc_runSU {a ci n0 : Nat} {q : vw_C} (ok : zc_okM z n) (hfit : zc_fit y z) (hlink : Cond.methodLink y.1.cls idx z.1 ∈ zg_tbl) (hsame : Cond.sameMethod z.1.cls z.1.cls z.1.name z.1.desc ∈ zg_tbl) (hsup : Cond.superclass y.1.cls z.1.cls ∈ zg_tbl) (hin : Cond.instanceMethod z.1 ∈ zg_tbl) (hni : z.1.name ≠ "<init>") (hs : zc_lay[a]? = some (ci, n0)) (hci : ci < 12) (hq : vwCl[ci]? = some q) (hn : As.length = n) (hd : decode y.2.1 pc = .ok (.invokespecial idx, 3)) : zc_Run y z pc (.ref a :: As) h := by
  intro l D c B p e s m args below meth cd H locs ls0 rest Qc X hP hK hsz h8 hM
  have hts := X.2.2.2.2.2.1
  refine va_runSU (nL := y.2.2.1) (Ts := zg_tbl) (own := y.1.cls) (C := q.1) (cC := D.1 ci) (b := B + a) (As := As.map (zc_tr B)) (n := n) (bytes := z.2.1) (maxL := z.2.2.1) (ret := z.2.2.2.1) (index := idx) (hK.1 ci q hq).2 ⟨X.1, X.2.1, X.2.2.2.1, X.2.2.2.2.1, hts⟩ hM ?_ ⟨zc_blind, zc_rcv hP hK hs hci hq, ?_⟩ rfl (by rw [List.length_map]; exact hn) hsz ?_ (lv_room h8) hd ⟨Nat.le_refl _, Nat.le_refl _⟩
  · refine va_cwSU n hts (zg_good ?_) rfl rfl rfl ⟨hni, ok.2.2.2.2⟩ hfit
    intro w hw
    simp only [va_wsSU, List.mem_append, List.mem_cons, List.not_mem_nil, or_false] at hw
    rcases hw with (rfl | rfl | rfl | rfl | rfl) | hw
    · exact hlink
    · exact hsame
    · exact hsup
    · exact hin
    · exact ok.2.1
    · exact zc_inws ok w hw
  · exact fun U hU hW => ⟨rfl, ⟨by rw [hU]; exact hP, va_K.moved hW.alike hK⟩, zn_warm hW X.2.2.2.2.2.2.2⟩
  · show ((Value.ref (B + a)) :: As.map (zc_tr B)).reverse ++ rest = _
    rw [List.reverse_cons, List.append_assoc]; rfl
end ZR
section ZK
variable {ρ α β : Type} {y : zMI} {mk : ρ → zRT} {pc : Nat} {ls : List (Option Value)} {st stk : List Value} {h : zHp} {o o1 o2 : Option ρ} {k2 : α → Option ρ} {q q1 q2 : Option α}
theorem zc_stk {B : Nat} {av : List Value} (hstk : stk = av.reverse ++ st) : stk.map (zc_tr B) = (av.map (zc_tr B)).reverse ++ st.map (zc_tr B) := by rw [hstk, List.map_append, List.map_reverse]
theorem zc_cat8 {B : Nat} (h8 : (st.map fun v => v.category).sum ≤ 8) : ((st.map (zc_tr B)).map fun v => v.category).sum ≤ 8 := by
  rw [List.map_map, show ((fun v => Value.category v) ∘ zc_tr B) = (fun v => v.category) from funext (zc_tr_cat B)]; exact h8
theorem zc_callI {z : zMI} {oc : Option (Int32 × zHp)} {kk : Int32 × zHp → Option α} (av : List Value) (hstk : stk = av.reverse ++ st) (hR : zc_Run y z pc av h) (h8 : (st.map fun v => v.category).sum ≤ 8) (hc : ∀ r, oc = some r → zc_Cn z av h (zc_mI r)) (k : ∀ r, zc_G y mk (pc + 3) ls (.int r.1 :: st) r.2 ((kk r).bind k2)) : zc_G y mk pc ls stk h ((oc.bind kk).bind k2) := by
  intro r hr l D c B p e s m args below meth cd H locs ls0 X hP hK hS hL
  cases hoc : oc with
  | none => rw [hoc] at hr; cases hr
  | some rc =>
    rw [hoc] at hr
    have run := hR l D c B p e s m args below meth cd H locs ls0 (st.map (zc_tr B)) _ X hP hK hL.1 (zc_cat8 h8) (hc rc hoc l D c B)
    rw [zc_stk hstk]
    refine va_calli run hS (fun q _ h => h) (fun q h => h) (fun r1 u t H1 locs1 ht hvm hpost hB hz hk hS1 => ?_)
    obtain ⟨rfl, rfl⟩ := hpost
    exact k rc r hr l D c B p e s m args below meth cd H1 locs1 ls0 X (by rw [← ht]; exact hB.1) hK hS1 hL
theorem zc_callL {z : zMI} {oc : Option (Int64 × zHp)} {kk : Int64 × zHp → Option α} (av : List Value) (hstk : stk = av.reverse ++ st) (hR : zc_Run y z pc av h) (h8 : (st.map fun v => v.category).sum ≤ 8) (hc : ∀ r, oc = some r → zc_Cn z av h (zc_mL r)) (k : ∀ r, zc_G y mk (pc + 3) ls (.long r.1 :: st) r.2 ((kk r).bind k2)) : zc_G y mk pc ls stk h ((oc.bind kk).bind k2) := by
  intro r hr l D c B p e s m args below meth cd H locs ls0 X hP hK hS hL
  cases hoc : oc with
  | none => rw [hoc] at hr; cases hr
  | some rc =>
    rw [hoc] at hr
    have run := hR l D c B p e s m args below meth cd H locs ls0 (st.map (zc_tr B)) _ X hP hK hL.1 (zc_cat8 h8) (hc rc hoc l D c B)
    rw [zc_stk hstk]
    refine va_calll run hS (fun q _ h => h) (fun q h => h) (fun r1 u t H1 locs1 ht hvm hpost hB hz hk hS1 => ?_)
    obtain ⟨rfl, rfl⟩ := hpost
    exact k rc r hr l D c B p e s m args below meth cd H1 locs1 ls0 X (by rw [← ht]; exact hB.1) hK hS1 hL
theorem zc_callV {z : zMI} {oc : Option zHp} {kk : zHp → Option α} (av : List Value) (hstk : stk = av.reverse ++ st) (hR : zc_Run y z pc av h) (h8 : (st.map fun v => v.category).sum ≤ 8) (hc : ∀ r, oc = some r → zc_Cn z av h (zc_mV r)) (k : ∀ r, zc_G y mk (pc + 3) ls st r ((kk r).bind k2)) : zc_G y mk pc ls stk h ((oc.bind kk).bind k2) := by
  intro r hr l D c B p e s m args below meth cd H locs ls0 X hP hK hS hL
  cases hoc : oc with
  | none => rw [hoc] at hr; cases hr
  | some rc =>
    rw [hoc] at hr
    have run := hR l D c B p e s m args below meth cd H locs ls0 (st.map (zc_tr B)) _ X hP hK hL.1 (zc_cat8 h8) (hc rc hoc l D c B)
    rw [zc_stk hstk]
    refine va_callv run hS (fun q _ h => h) (fun q h => h) (fun u t H1 locs1 ht hvm hpost hB hz hk hS1 => ?_)
    obtain rfl := hpost
    exact k u r hr l D c B p e s m args below meth cd H1 locs1 ls0 X (by rw [← ht]; exact hB.1) hK hS1 hL
theorem zc_callIp {z : zMI} {oc : Option Int32} {kk : Int32 → Option α} (av : List Value) (hstk : stk = av.reverse ++ st) (hR : zc_Run y z pc av h) (h8 : (st.map fun v => v.category).sum ≤ 8) (hc : ∀ r, oc = some r → zc_Cn z av h (zc_mI (r, h))) (k : ∀ r, zc_G y mk (pc + 3) ls (.int r :: st) h ((kk r).bind k2)) : zc_G y mk pc ls stk h ((oc.bind kk).bind k2) := by
  intro r hr l D c B p e s m args below meth cd H locs ls0 X hP hK hS hL
  cases hoc : oc with
  | none => rw [hoc] at hr; cases hr
  | some rc =>
    rw [hoc] at hr
    have run := hR l D c B p e s m args below meth cd H locs ls0 (st.map (zc_tr B)) _ X hP hK hL.1 (zc_cat8 h8) (hc rc hoc l D c B)
    rw [zc_stk hstk]
    refine va_calli run hS (fun q _ h => h) (fun q h => h) (fun r1 u t H1 locs1 ht hvm hpost hB hz hk hS1 => ?_)
    obtain ⟨rfl, rfl⟩ := hpost
    exact k r1 r hr l D c B p e s m args below meth cd H1 locs1 ls0 X (by rw [← ht]; exact hB.1) hK hS1 hL
theorem zc_callLp {z : zMI} {oc : Option Int64} {kk : Int64 → Option α} (av : List Value) (hstk : stk = av.reverse ++ st) (hR : zc_Run y z pc av h) (h8 : (st.map fun v => v.category).sum ≤ 8) (hc : ∀ r, oc = some r → zc_Cn z av h (zc_mL (r, h))) (k : ∀ r, zc_G y mk (pc + 3) ls (.long r :: st) h ((kk r).bind k2)) : zc_G y mk pc ls stk h ((oc.bind kk).bind k2) := by
  intro r hr l D c B p e s m args below meth cd H locs ls0 X hP hK hS hL
  cases hoc : oc with
  | none => rw [hoc] at hr; cases hr
  | some rc =>
    rw [hoc] at hr
    have run := hR l D c B p e s m args below meth cd H locs ls0 (st.map (zc_tr B)) _ X hP hK hL.1 (zc_cat8 h8) (hc rc hoc l D c B)
    rw [zc_stk hstk]
    refine va_calll run hS (fun q _ h => h) (fun q h => h) (fun r1 u t H1 locs1 ht hvm hpost hB hz hk hS1 => ?_)
    obtain ⟨rfl, rfl⟩ := hpost
    exact k r1 r hr l D c B p e s m args below meth cd H1 locs1 ls0 X (by rw [← ht]; exact hB.1) hK hS1 hL
-- the JDK's own
theorem zc_mmax {idx : Nat} {a b : Int32} (hlink : Cond.methodLink y.1.cls idx Lib.Math.max.name ∈ zg_tbl) (hst : Cond.static Lib.Math.max.name ∈ zg_tbl) (hini : Cond.initialized "java/lang/Math" ∈ zg_tbl) (hcode : Cond.code Lib.Math.max.name Lib.Math.max.code 2 (some .int) ∈ zg_tbl) (h8 : (st.map fun v => v.category).sum ≤ 8) (hf : 1 ≤ y.2.2.2.2.1 ∧ 21 ≤ y.2.2.2.2.2) (hd : decode y.2.1 pc = .ok (.invokestatic idx, 3)) (k : zc_G y mk (pc + 3) ls (.int (if a < b then b else a) :: st) h o) : zc_G y mk pc ls (.int b :: .int a :: st) h o := by
  intro r hr l D c B p e s m args below meth cd H locs ls0 X hP hK hS hL
  have hts := X.2.2.2.2.2.1
  have h9 := zc_cat8 (B := B) h8
  exact va_mmax X.1 X.2.1 (X.2.2.2.1.trans hL.1.symm) X.2.2.2.2.1 (hts _ hlink) (hts _ hst) (hts _ hini) (hts _ hcode) hf.1 (Nat.le_trans (Nat.add_le_add_right h9 13) hf.2) (Nat.le_refl _) (Nat.le_refl _) hd (k r hr l D c B p e s m args below meth cd H locs ls0 X hP hK hS hL)
theorem zc_mmin {idx : Nat} {a b : Int32} (hlink : Cond.methodLink y.1.cls idx Lib.Math.min.name ∈ zg_tbl) (hst : Cond.static Lib.Math.min.name ∈ zg_tbl) (hini : Cond.initialized "java/lang/Math" ∈ zg_tbl) (hcode : Cond.code Lib.Math.min.name Lib.Math.min.code 2 (some .int) ∈ zg_tbl) (h8 : (st.map fun v => v.category).sum ≤ 8) (hf : 1 ≤ y.2.2.2.2.1 ∧ 21 ≤ y.2.2.2.2.2) (hd : decode y.2.1 pc = .ok (.invokestatic idx, 3)) (k : zc_G y mk (pc + 3) ls (.int (if b < a then b else a) :: st) h o) : zc_G y mk pc ls (.int b :: .int a :: st) h o := by
  intro r hr l D c B p e s m args below meth cd H locs ls0 X hP hK hS hL
  have hts := X.2.2.2.2.2.1
  have h9 := zc_cat8 (B := B) h8
  exact va_mmin X.1 X.2.1 (X.2.2.2.1.trans hL.1.symm) X.2.2.2.2.1 (hts _ hlink) (hts _ hst) (hts _ hini) (hts _ hcode) hf.1 (Nat.le_trans (Nat.add_le_add_right h9 13) hf.2) (Nat.le_refl _) (Nat.le_refl _) hd (k r hr l D c B p e s m args below meth cd H locs ls0 X hP hK hS hL)
theorem zc_mabs {idx : Nat} {a : Int32} (hlink : Cond.methodLink y.1.cls idx Lib.Math.abs.name ∈ zg_tbl) (hst : Cond.static Lib.Math.abs.name ∈ zg_tbl) (hini : Cond.initialized "java/lang/Math" ∈ zg_tbl) (hcode : Cond.code Lib.Math.abs.name Lib.Math.abs.code 1 (some .int) ∈ zg_tbl) (h8 : (st.map fun v => v.category).sum ≤ 8) (hf : 1 ≤ y.2.2.2.2.1 ∧ 21 ≤ y.2.2.2.2.2) (hd : decode y.2.1 pc = .ok (.invokestatic idx, 3)) (k : zc_G y mk (pc + 3) ls (.int (if 0 ≤ a then a else 0 - a) :: st) h o) : zc_G y mk pc ls (.int a :: st) h o := by
  intro r hr l D c B p e s m args below meth cd H locs ls0 X hP hK hS hL
  have hts := X.2.2.2.2.2.1
  have h9 := zc_cat8 (B := B) h8
  exact va_mabs X.1 X.2.1 (X.2.2.2.1.trans hL.1.symm) X.2.2.2.2.1 (hts _ hlink) (hts _ hst) (hts _ hini) (hts _ hcode) hf.1 (Nat.le_trans (Nat.add_le_add_right h9 13) hf.2) (Nat.le_refl _) (Nat.le_refl _) hd (k r hr l D c B p e s m args below meth cd H locs ls0 X hP hK hS hL)
abbrev zc_cp (sp dp n : Int32) (n0 n1 : Nat) : Prop := ¬ sp < 0 ∧ ¬ dp < 0 ∧ ¬ n < 0 ∧ sp.toNatClampNeg + n.toNatClampNeg ≤ n0 ∧ dp.toNatClampNeg + n.toNatClampNeg ≤ n1
theorem zc_acpi {idx a0 a n0 n1 : Nat} {sp dp n : Int32} (hlink : Cond.methodLink y.1.cls idx arraycopyName ∈ zg_tbl) (hnat : Cond.native arraycopyName ∈ zg_tbl) (hst : Cond.static arraycopyName ∈ zg_tbl) (hini : Cond.initialized "java/lang/System" ∈ zg_tbl) (hs0 : zc_lay[a0]? = some (12, n0)) (hs1 : zc_lay[a]? = some (12, n1)) (hg : zc_cp sp dp n n0 n1) (h8 : (st.map fun v => v.category).sum ≤ 8) (hf : 1 ≤ y.2.2.2.2.1 ∧ 26 ≤ y.2.2.2.2.2) (hd : decode y.2.1 pc = .ok (.invokestatic idx, 3))
    (k : zc_G y mk (pc + 3) ls st (zc_ri h a (va_cpy (h.1 a0) (h.1 a) sp.toNatClampNeg dp.toNatClampNeg n.toNatClampNeg)) o) : zc_G y mk pc ls (.int n :: .int dp :: .ref a :: .int sp :: .ref a0 :: st) h o := by
  intro r hr l D c B p e s m args below meth cd H locs ls0 X hP hK hS hL
  have hts := X.2.2.2.2.2.1
  have h9 := zc_cat8 (B := B) h8
  have hset : (zc_wld c B h).set a (B + a, .inl (c.1, n1, .inl (va_cpy (h.1 a0) (h.1 a) sp.toNatClampNeg dp.toNatClampNeg n.toNatClampNeg))) = zc_wld c B (zc_ri h a (va_cpy (h.1 a0) (h.1 a) sp.toNatClampNeg dp.toNatClampNeg n.toNatClampNeg)) := by
    refine zc_wld_set hs1 ?_ zc_ri_o
    rw [zc_ri_s]; rfl
  have hw : nativeFrameWords "java/lang/System" "arraycopy" 5 + 11 = 18 := by decide
  exact va_copyi X.1 X.2.1 (X.2.2.2.1.trans hL.1.symm) X.2.2.2.2.1 (hts _ hlink) (hts _ hnat) (hts _ hst) (hts _ hini) hK hP zc_wld_D hS a0 a 0 0 (c0 := c.1) (c1 := c.1) (f := h.1 a0) (g := h.1 a) (zc_wld_get hs0) (zc_wld_get hs1) rfl rfl rfl hg.1 hg.2.1 hg.2.2.1 hg.2.2.2.1 hg.2.2.2.2 (fun i _ => rfl) hf.1 (by rw [hw]; exact Nat.le_trans (Nat.add_le_add_right h9 18) hf.2) hd
    (fun H1 locs1 hP1 hD1 hS1 => k r hr l D c B p e s m args below meth cd H1 locs1 ls0 X (by rw [hset] at hP1; exact hP1) hK hS1 hL)
theorem zc_acpl {idx a0 a n0 n1 : Nat} {sp dp n : Int32} (hlink : Cond.methodLink y.1.cls idx arraycopyName ∈ zg_tbl) (hnat : Cond.native arraycopyName ∈ zg_tbl) (hst : Cond.static arraycopyName ∈ zg_tbl) (hini : Cond.initialized "java/lang/System" ∈ zg_tbl) (hs0 : zc_lay[a0]? = some (13, n0)) (hs1 : zc_lay[a]? = some (13, n1)) (hg : zc_cp sp dp n n0 n1) (h8 : (st.map fun v => v.category).sum ≤ 8) (hf : 1 ≤ y.2.2.2.2.1 ∧ 26 ≤ y.2.2.2.2.2) (hd : decode y.2.1 pc = .ok (.invokestatic idx, 3))
    (k : zc_G y mk (pc + 3) ls st (zc_rl h a (va_cpy (h.2 a0) (h.2 a) sp.toNatClampNeg dp.toNatClampNeg n.toNatClampNeg)) o) : zc_G y mk pc ls (.int n :: .int dp :: .ref a :: .int sp :: .ref a0 :: st) h o := by
  intro r hr l D c B p e s m args below meth cd H locs ls0 X hP hK hS hL
  have hts := X.2.2.2.2.2.1
  have h9 := zc_cat8 (B := B) h8
  have hset : (zc_wld c B h).set a (B + a, .inl (c.2.1, n1, .inr (.inl (va_cpy (h.2 a0) (h.2 a) sp.toNatClampNeg dp.toNatClampNeg n.toNatClampNeg)))) = zc_wld c B (zc_rl h a (va_cpy (h.2 a0) (h.2 a) sp.toNatClampNeg dp.toNatClampNeg n.toNatClampNeg)) := by
    refine zc_wld_set hs1 ?_ zc_rl_o
    rw [zc_rl_s]; rfl
  have hw : nativeFrameWords "java/lang/System" "arraycopy" 5 + 11 = 18 := by decide
  exact va_copyl X.1 X.2.1 (X.2.2.2.1.trans hL.1.symm) X.2.2.2.2.1 (hts _ hlink) (hts _ hnat) (hts _ hst) (hts _ hini) hK hP zc_wld_D hS a0 a 1 1 (c0 := c.2.1) (c1 := c.2.1) (f := h.2 a0) (g := h.2 a) (zc_wld_get hs0) (zc_wld_get hs1) rfl rfl rfl hg.1 hg.2.1 hg.2.2.1 hg.2.2.2.1 hg.2.2.2.2 (fun i _ => rfl) hf.1 (by rw [hw]; exact Nat.le_trans (Nat.add_le_add_right h9 18) hf.2) hd
    (fun H1 locs1 hP1 hD1 hS1 => k r hr l D c B p e s m args below meth cd H1 locs1 ls0 X (by rw [hset] at hP1; exact hP1) hK hS1 hL)
end ZK

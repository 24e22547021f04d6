/-! constructors: a world that grows; its cells lie at B, B + 1 .. in the order in which they are made -/
/-- an object: its class and its fields (addresses counted from B); an array that nobody has written but for references -/
abbrev zX : Type := (Nat × List Value) ⊕ (Nat × Nat × (Nat → Option Nat))
def zx_refs (B : Nat) (f : Nat → Option Nat) : Nat → Option Nat := fun i => (f i).map (fun a => B + a)
def zx_abs (c : zCS) (B : Nat) : zX → va_E
  | .inl o => .inr (o.1, o.2.map (zc_tr B))
  | .inr r => if r.1 = 12 then .inl (c.1, r.2.1, .inl (fun _ => 0)) else if r.1 = 13 then .inl (c.2.1, r.2.1, .inr (.inl (fun _ => 0))) else if r.1 = 14 then .inl (c.2.2.1, r.2.1, .inr (.inr (.inr (.inr (zx_refs B r.2.2))))) else .inl (c.2.2.2, r.2.1, .inr (.inr (.inr (.inr (zx_refs B r.2.2)))))
def zx_wld (c : zCS) (B : Nat) (xs : List zX) : va_W := xs.zipIdx.map (fun q => (B + q.2, zx_abs c B q.1))
theorem zx_len {c : zCS} {B : Nat} {xs : List zX} : (zx_wld c B xs).length = xs.length := by simp [zx_wld]
theorem zx_get {c : zCS} {B a : Nat} {xs : List zX} {x : zX} (h : xs[a]? = some x) : (zx_wld c B xs)[a]? = some (B + a, zx_abs c B x) := by
  simp [zx_wld, List.getElem?_map, List.getElem?_zipIdx, h]
theorem zx_at {c : zCS} {B k : Nat} {xs : List zX} {q : Nat × va_E} (hq : (zx_wld c B xs)[k]? = some q) : k < xs.length ∧ q.1 = B + k := by
  have hk : k < xs.length := by
    have := (List.getElem?_eq_some_iff.mp hq).1
    rwa [zx_len] at this
  refine ⟨hk, ?_⟩
  rw [zx_get (List.getElem?_eq_getElem hk)] at hq
  rw [← Option.some.inj hq]
theorem zx_D {c : zCS} {B : Nat} {xs : List zX} : va_D (zc_ge B) (zx_wld c B xs) := by
  refine ⟨fun i j p q hp hq e => ?_, fun k q hq => ?_⟩
  · have h1 := (zx_at hp).2
    have h2 := (zx_at hq).2
    omega
  · have h1 := (zx_at hq).2
    show B ≤ q.1
    omega
theorem zx_push {c : zCS} {B : Nat} {xs : List zX} {x : zX} : zx_wld c B (xs ++ [x]) = zx_wld c B xs ++ [(B + xs.length, zx_abs c B x)] := by
  simp [zx_wld, List.zipIdx_append]
theorem zx_set {c : zCS} {B a : Nat} {xs : List zX} {x : zX} {e : va_E} (ha : a < xs.length) (he : zx_abs c B x = e) : (zx_wld c B xs).set a (B + a, e) = zx_wld c B (xs.set a x) := by
  apply List.ext_getElem?
  intro j
  rw [List.getElem?_set]
  by_cases hj : a = j
  · subst hj
    rw [if_pos rfl, if_pos (by rw [zx_len]; exact ha), zx_get (x := x) (by rw [List.getElem?_set, if_pos rfl, if_pos ha]), he]
  · rw [if_neg hj]
    cases hx : xs[j]? with
    | none =>
      have h1 : ¬ j < (zx_wld c B xs).length := by rw [zx_len]; exact fun h => by rw [List.getElem?_eq_getElem h] at hx; cases hx
      have h2 : ¬ j < (zx_wld c B (xs.set a x)).length := by rw [zx_len, List.length_set]; exact fun h => by rw [List.getElem?_eq_getElem h] at hx; cases hx
      rw [List.getElem?_eq_none (Nat.not_lt.mp h1), List.getElem?_eq_none (Nat.not_lt.mp h2)]
    | some y => rw [zx_get hx, zx_get (x := y) (by rw [List.getElem?_set, if_neg hj]; exact hx)]
theorem zx_trd {B : Nat} (t : FieldType) : zc_tr B (defaultValue t) = defaultValue t := by cases t <;> rfl
theorem zx_dflt {N B j : Nat} {ty : Nat → FieldType} (hj : j < N) : defaultValue (ty j) = vp_V (((List.range N).map (fun k => defaultValue (ty k))).map (zc_tr B)) j := by
  simp [vp_V, List.getD, hj, zx_trd]
theorem zx_up {B i b : Nat} {f : Nat → Option Nat} : zx_refs B (va_up f i (some b)) = va_up (zx_refs B f) i (some (B + b)) := by
  funext j
  by_cases hj : j = i <;> simp [zx_refs, va_up, hj]
/-- what else the constructors want of the tables -/
def zi_castL : List Cond := [.castable RX1 RX9, .castable RX3 RX9, .castable RX4 RX9, .castable RX2 RX9, .castable RX6 RX9, .castable RX0 RX9, .castable RX5 RX9]
def zi_ex (s : State) : Prop := va_AO RX9 s ∧ va_AO RX8 s ∧ ∀ w ∈ zi_castL, va_Nw w s
theorem zi_exW {s U : State} (hW : s.WarmedH U.vm) (h : zi_ex s) : zi_ex U := by
  refine ⟨h.1.moved hW.alike, h.2.1.moved hW.alike, fun w hw => ?_⟩
  have h2 := h.2.2 w hw
  simp only [zi_castL, List.mem_cons, List.not_mem_nil, or_false] at hw
  rcases hw with rfl | rfl | rfl | rfl | rfl | rfl | rfl <;> exact va_Nw.warmC hW h2
theorem zi_exS {s U : State} (e : s.vm = U.vm) (h : zi_ex s) : zi_ex U := by
  have ha : s.vm.Alike U.vm := e ▸ Vm.Alike.refl s.vm
  refine ⟨h.1.moved ha, h.2.1.moved ha, fun w hw => ?_⟩
  have h2 := h.2.2 w hw
  simp only [zi_castL, List.mem_cons, List.not_mem_nil, or_false] at hw
  rcases hw with rfl | rfl | rfl | rfl | rfl | rfl | rfl <;> exact va_Nw.same rfl e h2
def zi_Rp (D : va_G) (c : zCS) (B : Nat) (xs : List zX) (t : State) : Prop := t.heap.size = B + xs.length ∧ va_P D vwCl (zx_wld c B xs) t.heap ∧ va_K D vwCl (zc_tys c) t
def zi_Pr (D : va_G) (c : zCS) (B : Nat) (xs : List zX) (t : State) : Prop := zi_Rp D c B xs t ∧ zn_ok t ∧ zi_ex t
def zi_room (y : zMI) (rm : Nat × Nat) : Room := { frames := y.2.2.2.2.1, cells := rm.1, slots := rm.2, locals := y.2.2.2.2.2 }
abbrev zi_Q (D : va_G) (c : zCS) (B : Nat) (xs : List zX) : Array Value → State → Outcome → State → Prop := va_Qv (fun _ : Unit => True) (fun _ t => zi_Rp D c B xs t) (zc_ge B)
/-- a constructor's contract: from the world xs it makes the world xs', with so many cells and slots -/
def zi_Cn (y : zMI) (rm : Nat × Nat) (av : List Value) (xs xs' : List zX) : Prop :=
  ∀ (l : Launch) (D : va_G) (c : zCS) (B : Nat), Met l y.1 (zc_ws y) (zi_room y rm) (va_Pc (av.map (zc_tr B)) (zi_Pr D c B xs)) (zi_Q D c B xs') rm.1 rm.2 (zc_ge B)
/-- what stays: the machine, the code, the tables -/
def zj_X (own : String) (cc : ByteArray) (nL : Nat) (p : Program) (s : State) (m : MethodId) (args : Array Value) (cd : Code) : Prop :=
  p.tables.exec = Jvm.exec ∧ cd.code = cc ∧ cd.maxLocals = nL ∧ s.vm.findClass own = some m.cls ∧ (∀ w ∈ zg_tbl, w.before args s = true) ∧ zn_ok s ∧ zi_ex s
/-- what moves: the world -/
def zj_P (D : va_G) (c : zCS) (B : Nat) (xs : List zX) (s : State) (H : Heap) (locs : List Loc) : Prop :=
  B ≤ s.heap.size ∧ H.size = B + xs.length ∧ va_P D vwCl (zx_wld c B xs) H ∧ va_K D vwCl (zc_tys c) s ∧ va_S (zc_ge B) s.heap H locs
section ZJ
variable {p : Program} {l : Launch} {e : Env} {R : Room} {s : State} {m : MethodId} {args : Array Value} {below : List Frame} {meth : Method} {cd : Code} {H : Heap} {locs : List Loc} {kc ks : Nat} {Q : State → Prop}
variable {own : String} {cc : ByteArray} {nL pc : Nat} {ls0 : Array Slot} {rest stk : List Value} {D : va_G} {c : zCS} {B a n : Nat} {xs xs' : List zX}
/-- one more cell at the heap's end -/
theorem zj_grow {H1 : Heap} {x : zX} (P : zj_P D c B xs s H locs) (hx : xs ++ [x] = xs') (z1 : H1.size = H.size + 1) (o1 : ∀ q, q < H.size → H1[q]? = H[q]?) (hat : va_at D vwCl (B + xs.length, zx_abs c B x) H1) : zj_P D c B xs' s H1 locs := by
  obtain ⟨hB, hz, hP, hK, hS⟩ := P
  subst hx
  refine ⟨hB, by rw [z1, hz, List.length_append]; rfl, ?_, hK, ⟨Nat.le_trans hS.1 (by omega), fun x h1 h2 => (o1 x (Nat.lt_of_lt_of_le h1 hS.1)).trans (hS.2.1 x h1 h2), hS.2.2⟩⟩
  rw [zx_push]
  refine (hP.kept (fun k x hx => o1 x.1 ((hP k x hx).lt))).app (fun k x hx => ?_)
  have hk : k < 1 := (List.getElem?_eq_some_iff.mp hx).1
  rw [show k = 0 by omega] at hx
  cases hx
  exact hat
theorem zj_new {C : String} {T : u_T} {N ci idx : Nat} (ty : Nat → FieldType) (fs : List Value) (xs' : List zX) (X : zj_X own cc nL p s m args cd) (P : zj_P D c B xs s H locs) (hc : vwCl[ci]? = some (C, T, N)) (hin : ∀ w ∈ u_ws C T N, w ∈ zg_tbl) (hty : ∀ k, k < N → parseFieldDescriptor (T k).2.2.1 = some (ty k))
    (hcl : Cond.classLink own idx C ∈ zg_tbl) (hinst : Cond.instantiable C N ∈ zg_tbl) (hini : Cond.initialized C ∈ zg_tbl) (hfs : (List.range N).map (fun k => defaultValue (ty k)) = fs) (hn : xs.length = n) (hx : xs ++ [.inl (ci, fs)] = xs') (hcells : kc + 1 ≤ R.cells) (hslots : ks + N ≤ R.slots) (hd : decode cc pc = .ok (.new idx, 3))
    (kk : ∀ H1 : Heap, zj_P D c B xs' s H1 locs → W p l e R s m args below meth cd H1 locs (kc + 1) (ks + N) Q (F0 m (pc + 3) ls0 (.ref (B + n) :: rest))) : W p l e R s m args below meth cd H locs kc ks Q (F0 m pc ls0 rest) := by
  subst hn
  have hKn := P.2.2.2.1.1 ci _ hc
  refine W.newcK X.1 X.2.1 X.2.2.2.1 (X.2.2.2.2.1 _ hcl) (X.2.2.2.2.1 _ hinst) (X.2.2.2.2.1 _ hini) rfl hd hcells hslots hKn.2.1 P.2.1 fun H1 kC hkC e1 z1 o1 => ?_
  refine kk H1 (zj_grow P hx (by rw [z1, P.2.1]) (fun q hq => o1 q (by rw [← P.2.1]; exact hq)) ?_)
  refine ⟨_, hc, (u_born ty X.2.2.2.2.1 hin hKn hkC e1 hty).to (fun j hj => ?_)⟩
  subst hfs
  exact zx_dflt hj
theorem zj_newI {N : Nat} {x : Int32} (xs' : List zX) (X : zj_X own cc nL p s m args cd) (P : zj_P D c B xs s H locs) (harr : Cond.arrayClass .int ∈ zg_tbl) (h0 : ¬ x < 0) (hN : x.toNatClampNeg = N) (hb : N * 4 ≤ 536870912) (hn : xs.length = n) (hx : xs ++ [.inr (12, N, fun _ => none)] = xs') (hcells : kc + 1 ≤ R.cells) (hslots : ks + N ≤ R.slots) (hd : decode cc pc = .ok (.newarray .int, 2))
    (kk : ∀ H1 : Heap, zj_P D c B xs' s H1 locs → W p l e R s m args below meth cd H1 locs (kc + 1) (ks + N) Q (F0 m (pc + 2) ls0 (.ref (B + n) :: rest))) : W p l e R s m args below meth cd H locs kc ks Q (F0 m pc ls0 (.int x :: rest)) := by
  subst hn
  refine va_newaK (atype := .int) X.1 X.2.1 (X.2.2.2.2.1 _ harr) rfl hd rfl h0 hN hb hcells hslots P.2.1 fun H1 cA e1 z1 o1 hAr hNm => ?_
  have h2 : s.vm.findClass ("[" ++ (FieldType.int).toString) = some c.1 := (P.2.2.2.1.2 0 (c.1, .int) rfl).2
  have hcA : cA = c.1 := Option.some.inj (hNm.symm.trans h2)
  subst hcA
  exact kk H1 (zj_grow P hx (by rw [z1, P.2.1]) (fun q hq => o1 q (by rw [← P.2.1]; exact hq)) e1)
theorem zj_newL {N : Nat} {x : Int32} (xs' : List zX) (X : zj_X own cc nL p s m args cd) (P : zj_P D c B xs s H locs) (harr : Cond.arrayClass .long ∈ zg_tbl) (h0 : ¬ x < 0) (hN : x.toNatClampNeg = N) (hb : N * 8 ≤ 536870912) (hn : xs.length = n) (hx : xs ++ [.inr (13, N, fun _ => none)] = xs') (hcells : kc + 1 ≤ R.cells) (hslots : ks + N ≤ R.slots) (hd : decode cc pc = .ok (.newarray .long, 2))
    (kk : ∀ H1 : Heap, zj_P D c B xs' s H1 locs → W p l e R s m args below meth cd H1 locs (kc + 1) (ks + N) Q (F0 m (pc + 2) ls0 (.ref (B + n) :: rest))) : W p l e R s m args below meth cd H locs kc ks Q (F0 m pc ls0 (.int x :: rest)) := by
  subst hn
  refine va_newaK (atype := .long) X.1 X.2.1 (X.2.2.2.2.1 _ harr) rfl hd rfl h0 hN hb hcells hslots P.2.1 fun H1 cA e1 z1 o1 hAr hNm => ?_
  have h2 : s.vm.findClass ("[" ++ (FieldType.long).toString) = some c.2.1 := (P.2.2.2.1.2 1 (c.2.1, .long) rfl).2
  have hcA : cA = c.2.1 := Option.some.inj (hNm.symm.trans h2)
  subst hcA
  exact kk H1 (zj_grow P hx (by rw [z1, P.2.1]) (fun q hq => o1 q (by rw [← P.2.1]; exact hq)) e1)
theorem zj_anew {E : String} {kd t0 N idx : Nat} {cA : ClassId} {x : Int32} (xs' : List zX) (X : zj_X own cc nL p s m args cd) (P : zj_P D c B xs s H locs) (hcl : Cond.classLink own idx E ∈ zg_tbl) (hov : va_AO E s) (ht : (zc_tys c)[t0]? = some (cA, .object E)) (hab : zx_abs c B (.inr (kd, N, fun _ => none)) = .inl (cA, N, .inr (.inr (.inr (.inr (fun _ => none)))))) (h0 : ¬ x < 0) (hN : x.toNatClampNeg = N) (hb : N * 4 ≤ 536870912) (hn : xs.length = n) (hx : xs ++ [.inr (kd, N, fun _ => none)] = xs') (hcells : kc + 1 ≤ R.cells) (hslots : ks + N ≤ R.slots) (hd : decode cc pc = .ok (.anewarray idx, 3))
    (kk : ∀ H1 : Heap, zj_P D c B xs' s H1 locs → W p l e R s m args below meth cd H1 locs (kc + 1) (ks + N) Q (F0 m (pc + 3) ls0 (.ref (B + n) :: rest))) : W p l e R s m args below meth cd H locs kc ks Q (F0 m pc ls0 (.int x :: rest)) := by
  subst hn
  subst hN
  refine W.anew X.1 X.2.1 X.2.2.2.1 (X.2.2.2.2.1 _ hcl) (va_AO.use hov) rfl hd rfl h0 hb hcells hslots fun cA' kA comp f1 f2 f3 f4 => ?_
  obtain ⟨kA2, comp2, g1, g2, g3, g4⟩ := (P.2.2.2.1.2 t0 _ ht).2
  have hcA : cA' = cA := Option.some.inj (f1.symm.trans g4)
  subst hcA
  generalize hH1 : H.push ({ cls := cA', slots := Array.replicate x.toNatClampNeg .null, vm := .none } : Cell) = H1
  have z1 : H1.size = H.size + 1 := by rw [← hH1, Array.size_push]
  have e1 : H1[H.size]? = some (arrV cA' x.toNatClampNeg (fun _ => .null)) := by rw [← hH1, Array.getElem?_push_size, ← arrV_new]
  have o1 : ∀ q : Nat, q < H.size → H1[q]? = H[q]? := fun q hq => by rw [← hH1, Array.getElem?_push, if_neg (Nat.ne_of_lt hq)]
  rw [P.2.1] at e1 ⊢
  refine kk H1 (zj_grow P hx z1 o1 ?_)
  rw [hab]
  show H1[B + xs.length]? = some (vp_cell _ _)
  rw [vp_cell_q]
  exact e1
theorem zj_get {idx ci k N0 : Nat} {C0 : String} {T0 : u_T} {d : Nat × Nat} {ty : FieldType} {fin : Bool} {fs : List Value} (v : Value) (X : zj_X own cc nL p s m args cd) (P : zj_P D c B xs s H locs) (hF : zc_F own idx ci k d ty fin) (hc : vwCl[ci]? = some (C0, T0, N0)) (hl : Cond.fieldLink own idx C0 (T0 k).2.1 (T0 k).2.2.1 ∈ zg_tbl) (hx : xs[a]? = some (.inl (ci, fs))) (hv : fs[k]? = some v) (hd : decode cc pc = .ok (.getfield idx, 3))
    (kk : W p l e R s m args below meth cd H locs kc ks Q (F0 m (pc + 3) ls0 (zc_tr B v :: rest))) : W p l e R s m args below meth cd H locs kc ks Q (F0 m pc ls0 (.ref (B + a) :: rest)) := by
  obtain ⟨C, T, N, ty0, h1, h2, h3, h4, h5, h6, h7, h8, h9, h10, h11⟩ := hF
  cases h1.symm.trans hc
  exact va_get X.1 X.2.1 X.2.2.2.2.1 h5 X.2.2.2.1 P.2.2.2.1 P.2.2.1 a (zx_get hx) h1 k h3 (X.2.2.2.2.1 _ hl) (fun x hx => by rw [h8]; exact hx) (by rw [List.getElem?_map, hv]; rfl) hd kk
theorem zj_put {idx ci k N0 : Nat} {C0 : String} {T0 : u_T} {d : Nat × Nat} {ty : FieldType} {fin : Bool} {fs : List Value} {v : Value} (xs' : List zX) (X : zj_X own cc nL p s m args cd) (P : zj_P D c B xs s H locs) (hF : zc_F own idx ci k d ty fin) (hc : vwCl[ci]? = some (C0, T0, N0)) (hCo : C0 = own) (hnm : meth.name = "<init>") (hl : Cond.fieldLink own idx C0 (T0 k).2.1 (T0 k).2.2.1 ∈ zg_tbl) (hx : xs[a]? = some (.inl (ci, fs))) (hk : k < fs.length) (hset : xs.set a (.inl (ci, fs.set k v)) = xs') (hv : narrow ty (zc_tr B v) = zc_tr B v ∧ fits ty (zc_tr B v) = true) (hd : decode cc pc = .ok (.putfield idx, 3))
    (kk : ∀ (H1 : Heap) (locs1 : List Loc), zj_P D c B xs' s H1 locs1 → W p l e R s m args below meth cd H1 locs1 kc ks Q (F0 m (pc + 3) ls0 rest)) : W p l e R s m args below meth cd H locs kc ks Q (F0 m pc ls0 (zc_tr B v :: .ref (B + a) :: rest)) := by
  obtain ⟨C, T, N, ty0, h1, h2, h3, h4, h5, h6, h7, h8, h9, h10, h11⟩ := hF
  obtain ⟨hB, hz, hP, hK, hS0⟩ := P
  have hts := X.2.2.2.2.1
  cases h1.symm.trans hc
  have ha : a < xs.length := (List.getElem?_eq_some_iff.mp hx).1
  have hap := va_apart (own := own) hts h5 ty0 h6 h7 hK h1
  have he := zx_get (c := c) (B := B) hx
  obtain ⟨r, g1, cell, q1, q2, q3, q4⟩ := hP a _ he
  have hr : r = (C0, T0, N0) := Option.some.inj (g1.symm.trans h1)
  subst hr
  obtain ⟨hSl, hfc, kC, hkC, hkind⟩ := hK.1 ci _ h1
  obtain ⟨cf, kf, fi, f, hi, hsl⟩ := hSl k h3
  have hlay := hts _ (h5 _ (u_in_lay h3))
  unfold u_lay at hlay
  have hst := (u_facts hfc hkC (u_lays hts h5 h3) hi).1
  have hsame : s.fieldFound? C0 (T0 k).2.1 (T0 k).2.2.1 = some (cf, kf, fi, f) := by rw [h8]; exact hi
  have hlink := hts _ hl
  have fin' : ∀ (H1 : Heap), H1[B + a]? = some (cell.setSlot f.slot (zc_tr B v)) → H1.size = H.size → (∀ q, q ≠ B + a → H1[q]? = H[q]?) → zj_P D c B xs' s H1 (locs ++ [⟨B + a, f.slot⟩]) := by
    intro H1 e1 e2 e3
    rw [hsl] at e1
    refine ⟨hB, by rw [e2, hz, ← hset, List.length_set], ?_, hK, hS0.put e2 e3 (Nat.le_add_right B a)⟩
    have hs2 : (zx_wld c B xs).set a (B + a, .inr (ci, (fs.map (zc_tr B)).set k (zc_tr B v))) = zx_wld c B xs' := by
      rw [← hset]
      exact zx_set ha (by show (Sum.inr (ci, (fs.set k v).map (zc_tr B)) : va_E) = _; rw [List.map_set])
    rw [← hs2]
    exact hP.set zx_D he ⟨_, h1, t_OB.to (V := updV (vp_V (fs.map (zc_tr B))) k (zc_tr B v)) ⟨_, e1, q2, q3, t_set q4 hap h3 (zc_tr B v)⟩ (fun j _ => vp_updV_set (by rw [List.length_map]; exact hk) (zc_tr B v) j)⟩ e3
  cases fin with
  | false =>
    rw [if_neg (by rw [h10]; decide)] at hlay
    have h6' := u_store hfc hkC hkind hlay hi h9 hv.1 hv.2
    exact W.putK X.1 X.2.1 (f := f) ⟨X.2.2.2.1, hlink, ⟨_, _, _, hsame⟩, hst⟩ (by rw [q2]; exact h6') q1 q3 (by rw [hsl]; exact k2_hasslot (q4 k h3)) rfl rfl hd fun H' e1 e2 e3 => kk H' _ (fin' H' e1 e2 e3)
  | true =>
    rw [if_pos h10] at hlay
    have hcf : m.cls = cf := by
      obtain ⟨_, _, c', _, _, _, -, -, hf', -, -, -, hown2, -⟩ := Cond.laysFinal_spec hlay
      have e1 : c' = cf := by have := hi.symm.trans hf'; simp at this; exact this.1.symm
      rw [← h8, hCo] at hown2
      rw [← e1]; exact Option.some.inj (X.2.2.2.1.symm.trans hown2)
    have h6' := u_fits hfc hkC hkind (Or.inr hlay) hi h9 hv.1 hv.2
    exact W.putFinK X.1 X.2.1 X.2.2.2.1 hlink hsame hst hcf hnm (by rw [q2]; exact h6') q1 q3 (by rw [hsl]; exact k2_hasslot (q4 k h3)) rfl rfl hd fun H' e1 e2 e3 => kk H' _ (fin' H' e1 e2 e3)
theorem zj_aast {E : String} {kd t0 N ci b : Nat} {cA : ClassId} {f : Nat → Option Nat} {vs : List Value} {i : Int32} (xs' : List zX) (X : zj_X own cc nL p s m args cd) (P : zj_P D c B xs s H locs) (hx : xs[a]? = some (.inr (kd, N, f))) (ht : (zc_tys c)[t0]? = some (cA, .object E)) (hab : ∀ g : Nat → Option Nat, zx_abs c B (.inr (kd, N, g)) = .inl (cA, N, .inr (.inr (.inr (.inr (zx_refs B g)))))) (hv : xs[b]? = some (.inl (ci, vs))) (hci : ci < 12) (has : ∀ comp, s.vm.findClass E = some comp → s.vm.assignable (D.1 ci) comp = true) (hi : vp_in i N) (hset : xs.set a (.inr (kd, N, va_up f i.toNatClampNeg (some b))) = xs') (hd : decode cc pc = .ok (.aastore, 1))
    (kk : ∀ (H1 : Heap) (locs1 : List Loc), zj_P D c B xs' s H1 locs1 → W p l e R s m args below meth cd H1 locs1 kc ks Q (F0 m (pc + 1) ls0 rest)) : W p l e R s m args below meth cd H locs kc ks Q (F0 m pc ls0 (.ref (B + b) :: .int i :: .ref (B + a) :: rest)) := by
  obtain ⟨hB, hz, hP, hK, hS⟩ := P
  have hlt : i.toNatClampNeg < N := Nat.not_le.mp fun q => hi (Or.inr q)
  have h0 : ¬ i < 0 := fun q => hi (Or.inl q)
  have haL : a < xs.length := (List.getElem?_eq_some_iff.mp hx).1
  have ha := zx_get (c := c) (B := B) hx
  rw [hab] at ha
  obtain ⟨r', hr', cellV, g1, g2, g3, -⟩ := hP b _ (zx_get hv)
  have hcls := (hK.1 ci r' hr').2
  obtain ⟨kA, comp, k1, k2, k3, -⟩ := (hK.2 t0 _ ht).2
  obtain ⟨kE, hkE, -⟩ := Vm.findClass_spec k3
  obtain ⟨kC, hkC, -⟩ := hcls.2
  refine W.aast X.1 X.2.1 (hP a _ ha) (fun q h => by cases h) (fun h => by cases h) k1 k2 rfl hkE ⟨h0, by show _ < (arrV _ _ _).slots.size; rw [arrV_size]; exact hlt⟩ g1 (fun q h => by rw [g3] at h; cases h) (by rw [g2]; exact hkC) (by rw [g2]; exact has _ k3) rfl rfl hd fun H1 e1 z oq => ?_
  refine kk H1 _ ⟨hB, by rw [z, hz, ← hset, List.length_set], ?_, hK, hS.put z oq (Nat.le_add_right B a)⟩
  have hs2 : (zx_wld c B xs).set a (B + a, .inl (cA, N, .inr (.inr (.inr (.inr (va_up (zx_refs B f) i.toNatClampNeg (some (B + b)))))))) = zx_wld c B xs' := by
    rw [← hset]
    exact zx_set haL (by rw [hab, zx_up])
  rw [← hs2]
  refine hP.set zx_D ha ?_ oq
  show H1[B + a]? = some (vp_cell _ _)
  rw [e1, vp_cell_q, vp_cell_q, arrV_store]
  congr 2
  funext q
  by_cases hq : q = i.toNatClampNeg
  · subst hq
    simp [updV, va_up, va_rf]
  · simp [updV, va_up, hq]
theorem zj_same {E : String} {T : u_T} {N ci : Nat} (P : zj_P D c B xs s H locs) (hc : vwCl[ci]? = some (E, T, N)) : ∀ comp, s.vm.findClass E = some comp → s.vm.assignable (D.1 ci) comp = true := by
  intro comp h
  have hcls := (P.2.2.2.1.1 ci _ hc).2
  cases hcls.1.symm.trans h
  exact va_assign hcls
theorem zj_cast {C E : String} {T : u_T} {N ci : Nat} (X : zj_X own cc nL p s m args cd) (P : zj_P D c B xs s H locs) (hc : vwCl[ci]? = some (C, T, N)) (hw : Cond.castable C E ∈ zi_castL) : ∀ comp, s.vm.findClass E = some comp → s.vm.assignable (D.1 ci) comp = true := by
  intro comp h
  have hcls := (P.2.2.2.1.1 ci _ hc).2
  obtain ⟨c0, t1, f1, f2, f3⟩ := Cond.castable_spec (va_Nw.use (A := args) rfl (X.2.2.2.2.2.2.2.2 _ hw))
  cases hcls.1.symm.trans f1
  cases h.symm.trans f2
  exact f3
theorem zj_obj {idx : Nat} {x : Nat} (X : zj_X own cc nL p s m args cd) (hlink : Cond.methodLink own idx Lib.objectInit ∈ zg_tbl) (hls : ls0.size = nL) (hf : 1 ≤ R.frames) (hl : (rest.map fun v => v.category).sum + 12 ≤ R.locals) (hd : decode cc pc = .ok (.invokespecial idx, 3)) (hin : Cond.instanceMethod Lib.objectInit ∈ zg_tbl) (hco : Cond.code Lib.objectInit ⟨#[0xb1]⟩ 1 none ∈ zg_tbl)
    (kk : W p l e R s m args below meth cd H locs kc ks Q (F0 m (pc + 3) ls0 rest)) : W p l e R s m args below meth cd H locs kc ks Q (F0 m pc ls0 (.ref x :: rest)) :=
  W.objInit X.1 X.2.1 X.2.2.2.1 (X.2.2.2.2.1 _ hlink) (X.2.2.2.2.1 _ hin) (X.2.2.2.2.1 _ hco) rfl (hls.trans X.2.2.1.symm) rfl hd hf (by show 2 * 0 + _ + 12 ≤ _; omega) kk
theorem zi_blind {av : List Value} : FrameBlind (va_Pc av (zi_Pr D c B xs)) := fun a U g mk q => by
  obtain ⟨q0, ⟨⟨qz, qP, qK⟩, qN, qE⟩⟩ := q
  exact ⟨q0, ⟨qz, qP, va_K.moved (u := U) (U := U.calling g mk a) (Vm.Alike.refl U.vm) qK⟩, zn_same (s := U) (U := U.calling g mk a) rfl qN, zi_exS (s := U) (U := U.calling g mk a) rfl qE⟩
theorem zj_call {z : zMI} {rm : Nat × Nat} {idx : Nat} (As : List Value) (X : zj_X own cc nL p s m args cd) (P : zj_P D c B xs s H locs) (hM : zi_Cn z rm (.ref a :: As) xs xs') (ok : zc_okM z n) (hret : z.2.2.2.1 = none) (hlink : Cond.methodLink own idx z.1 ∈ zg_tbl ∨ ∃ host, Cond.methodLinkNest own idx z.1 host ∈ zn_tbl) (hin : Cond.instanceMethod z.1 ∈ zg_tbl) (hnm : z.1.name = "<init>") (hn : As.length = n) (hstk : stk = (As.map (zc_tr B)).reverse ++ .ref (B + a) :: rest) (h8 : (rest.map fun v => v.category).sum ≤ 8) (hR : z.2.2.2.2.1 + 1 ≤ R.frames ∧ 8 + (z.2.2.1 + 11) + z.2.2.2.2.2 ≤ R.locals) (hf : kc + rm.1 ≤ R.cells ∧ ks + rm.2 ≤ R.slots) (hls : ls0.size = nL) (hd : decode cc pc = .ok (.invokespecial idx, 3))
    (kk : ∀ (H1 : Heap) (locs1 : List Loc), zj_P D c B xs' s H1 locs1 → W p l e R s m args below meth cd H1 locs1 (kc + rm.1) (ks + rm.2) Q (F0 m (pc + 3) ls0 rest)) : W p l e R s m args below meth cd H locs kc ks Q (F0 m pc ls0 stk) := by
  have hts := X.2.2.2.2.1
  have hok1 := ok.1
  rw [hret] at hok1
  have hws : ∀ w ∈ zc_ws z, w ∈ zg_tbl := zc_inws ok
  have hzw : zc_ws z = Cond.code z.1 z.2.1 z.2.2.1 none :: zg_tbl := by rw [zc_ws, hret]
  have hpre : PreS s H (va_Pc ((Value.ref (B + a) :: As.map (zc_tr B))) (zi_Pr D c B xs)) (.ref (B + a) :: As.map (zc_tr B)) :=
    ⟨zi_blind, fun U hU hW => ⟨rfl, ⟨by rw [hU]; exact P.2.1, by rw [hU]; exact P.2.2.1, va_K.moved hW.alike P.2.2.2.1⟩, zn_warm hW X.2.2.2.2.2.1, zi_exW hW X.2.2.2.2.2.2⟩⟩
  have run : va_Run p l e R s m args below meth cd H locs kc ks rm.1 rm.2 (F0 m pc ls0 stk) rest (zi_Q D c B xs' ((Value.ref (B + a) :: As.map (zc_tr B)).toArray)) (zc_ge B) := by
    rcases hlink with hl | ⟨host, hl⟩
    · exact va_runI (nL := nL) (Ts := zg_tbl) (own := own) (n := n) (bytes := z.2.1) (maxL := z.2.2.1) (index := idx) ⟨X.1, X.2.1, X.2.2.1, X.2.2.2.1, hts⟩ (hM l D c B)
        ⟨callB_of n hts (zg_good hws) hzw rfl rfl (hts _ ok.2.1) (hts _ hl) ok.2.2 hR, hnm, hts _ hin⟩ hpre rfl (by rw [List.length_map]; exact hn) hls hstk (lv_room h8) hd hf
    · exact va_runIN (nL := nL) (Ts := zg_tbl) (own := own) (host := host) (n := n) (bytes := z.2.1) (maxL := z.2.2.1) (index := idx) ⟨X.1, X.2.1, X.2.2.1, X.2.2.2.1, hts⟩ (hM l D c B)
        ⟨va_cnB n hts (zg_good hws) hzw rfl rfl (X.2.2.2.2.2.1 _ hl) (hts _ ok.2.1) ok.2.2 hR, hnm, hts _ hin⟩ hpre rfl (by rw [List.length_map]; exact hn) hls hstk (lv_room h8) hd hf
  refine va_callv run P.2.2.2.2 (fun q _ h => h) (fun q h => h) (fun u t H1 locs1 ht hvm hpost hB hz hk hS1 => ?_)
  exact kk H1 locs1 ⟨P.1, by rw [← ht]; exact hB.1, by rw [← ht]; exact hB.2.1, P.2.2.2.1, hS1⟩
theorem zj_ret {rm : Nat × Nat} (hr : meth.sig.returnType = none) (hlk : meth.locks = false) (X : zj_X own cc nL p s m args cd) (P : zj_P D c B xs s H locs) (hk : kc = rm.1) (hs : ks = rm.2) (hd : decode cc pc = .ok (.return_, 1)) : W p l e R s m args below meth cd H locs kc ks (MQ below (zi_Q D c B xs) args s rm.1 rm.2 (zc_ge B)) (F0 m pc ls0 []) := by
  subst hk
  subst hs
  exact W.vret X.1 X.2.1 hr (fun t ht hW => ⟨⟨(), rfl, trivial, by rw [ht]; exact P.2.1, by rw [ht]; exact P.2.2.1, va_K.moved hW.alike P.2.2.2.1⟩, P.2.2.2.2.F ht⟩) P.2.2.2.2.2.2 hd hlk
end ZJ
theorem zi_body {z : zMI} {rm : Nat × Nat} {av : List Value} {xs xs' : List zX} (hy : plainName z.1.cls = true) (hnm : z.1.name = "<init>") (hret : z.2.2.2.1 = none) (hlen : (zc_flat av).length ≤ z.2.2.1)
    (k : ∀ (l : Launch) (D : va_G) (c : zCS) (B : Nat) (p : Program) (e : Env) (s : State) (m : MethodId) (args : Array Value) (below : List Frame) (meth : Method) (cd : Code) (H : Heap) (locs : List Loc) (ls0 : Array Slot),
      zj_X z.1.cls z.2.1 z.2.2.1 p s m args cd → zj_P D c B xs s H locs → zc_L z.2.2.1 B (zc_ent z.2.2.1 av) ls0 → meth.name = "<init>" → meth.sig.returnType = none → meth.locks = false →
      W p l e (zi_room z rm) s m args below meth cd H locs 0 0 (MQ below (zi_Q D c B xs') args s rm.1 rm.2 (zc_ge B)) (F0 m 0 ls0 [])) : zi_Cn z rm av xs xs' := by
  intro l D c B
  refine Met.ofW (cc := z.2.1) (maxL := z.2.2.1) (ret := z.2.2.2.1) hy rfl ?_
  intro p e s m args below meth cd s₁ Bd hml hv
  obtain ⟨rfl, ⟨hz, hP, hK⟩, hN, hE⟩ := hv
  have hts := atoms_spec (ws := zc_ws z) Bd.pre
  rw [lg_entry_eq]
  exact k l D c B p e s m _ below meth cd s.heap [] _ ⟨Bd.exec, Bd.bytes, hml, findClass_of_methodNamed Bd.named, fun w hw => hts w (List.mem_cons_of_mem _ hw), hN, hE⟩ ⟨by omega, hz, hP, hK, va_S.rf⟩ (zc_entL hlen) ((name_of_methodNamed Bd.named Bd.method).1.trans hnm) (Bd.returns.trans hret) Bd.notSynchronized

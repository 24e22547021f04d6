/-! fields, arrays, returns, bodies, calls over the abstract heap -/
def zc_F (own : String) (idx ci k : Nat) (d : Nat × Nat) (ty : FieldType) (fin : Bool) : Prop :=
  ∃ (C : String) (T : u_T) (N : Nat) (ty0 : Nat → FieldType), vwCl[ci]? = some (C, T, N) ∧ ci < 12 ∧ k < N ∧ (zc_slots ci)[k]? = some d ∧ (∀ w ∈ u_ws C T N, w ∈ zg_tbl) ∧
    (∀ j, j < N → parseFieldDescriptor (T j).2.2.1 = some (ty0 j)) ∧ (∀ a, a < N → ∀ b, b < N → a ≠ b → (T a).2.1 ≠ (T b).2.1) ∧ C = (T k).1 ∧ parseFieldDescriptor (T k).2.2.1 = some ty ∧ (T k).2.2.2 = fin ∧
    ((Cond.fieldLink own idx C (T k).2.1 (T k).2.2.1 ∈ zg_tbl) ∨ ∃ host, Cond.fieldLinkNest own idx C (T k).2.1 (T k).2.2.1 host ∈ zn_tbl)
theorem zc_obj {c : zCS} {B a ci n0 : Nat} {f : Nat → Int32} {g : Nat → Int64} (h : ci < 12) : zc_cell c B a (ci, n0) f g = .inr (ci, zc_fields B a f (zc_slots ci)) := by
  unfold zc_cell
  rw [if_neg (show ¬ ci = 12 by omega), if_neg (show ¬ ci = 13 by omega), if_neg (show ¬ ci = 14 by omega), if_neg (show ¬ ci = 15 by omega)]
section ZH
variable {ρ α β : Type} {y : zMI} {mk : ρ → zRT} {pc : Nat} {ls : List (Option Value)} {st : List Value} {h : zHp} {o o1 o2 : Option ρ} {k2 : α → Option ρ} {q q1 q2 : Option α}
theorem zc_get {a idx ci n0 k : Nat} {d : Nat × Nat} {ty : FieldType} {fin : Bool} {v : Value} (hF : zc_F y.1.cls idx ci k d ty fin) (hs : zc_lay[a]? = some (ci, n0)) (hv : ∀ B, zc_val B a (h.1 a) k d = zc_tr B v) (hd : decode y.2.1 pc = .ok (.getfield idx, 3)) (kk : zc_G y mk (pc + 3) ls (v :: st) h o) : zc_G y mk pc ls (.ref a :: st) h o := by
  intro r hr l D c B p e s m args below meth cd H locs ls0 X hP hK hS hL
  obtain ⟨C, T, N, ty0, h1, h2, h3, h4, h5, h6, h7, h8, h9, h10, h11⟩ := hF
  have hg := zc_wld_get (c := c) (B := B) (h := h) hs
  rw [zc_obj h2] at hg
  have hv2 : (zc_fields B a (h.1 a) (zc_slots ci))[k]? = some (zc_tr B v) := by rw [zc_fields_get h4, hv B]
  rcases h11 with h11 | ⟨host, h11⟩
  · exact va_get X.1 X.2.1 X.2.2.2.2.2.1 h5 X.2.2.2.2.1 hK hP a hg h1 k h3 (X.2.2.2.2.2.1 _ h11) (fun x hx => by rw [h8]; exact hx) hv2 hd (kk r hr l D c B p e s m args below meth cd H locs ls0 X hP hK hS hL)
  · exact va_getN X.1 X.2.1 X.2.2.2.2.2.1 h5 X.2.2.2.2.1 hK hP a hg h1 k h3 (zn_use X.2.2.2.2.2.2.2 h11) (fun x hx => by rw [h8]; exact hx) hv2 hd (kk r hr l D c B p e s m args below meth cd H locs ls0 X hP hK hS hL)
theorem zc_getI {a idx ci n0 k z : Nat} {ty : FieldType} {fin : Bool} (hF : zc_F y.1.cls idx ci k (0, z) ty fin) (hs : zc_lay[a]? = some (ci, n0)) (hd : decode y.2.1 pc = .ok (.getfield idx, 3)) (kk : zc_G y mk (pc + 3) ls (.int (h.1 a k) :: st) h o) : zc_G y mk pc ls (.ref a :: st) h o := zc_get hF hs (fun B => rfl) hd kk
theorem zc_getC {a idx ci n0 k b : Nat} {ty : FieldType} {fin : Bool} (hF : zc_F y.1.cls idx ci k (1, b) ty fin) (hs : zc_lay[a]? = some (ci, n0)) (hd : decode y.2.1 pc = .ok (.getfield idx, 3)) (kk : zc_G y mk (pc + 3) ls (.ref b :: st) h o) : zc_G y mk pc ls (.ref a :: st) h o := zc_get hF hs (fun B => rfl) hd kk
theorem zc_getO {a idx ci n0 k j : Nat} {ty : FieldType} {fin : Bool} (hF : zc_F y.1.cls idx ci k (2, j) ty fin) (hs : zc_lay[a]? = some (ci, n0)) (hd : decode y.2.1 pc = .ok (.getfield idx, 3)) (kk : zc_G y mk (pc + 3) ls (.ref (a + j) :: st) h o) : zc_G y mk pc ls (.ref a :: st) h o := zc_get hF hs (fun B => rfl) hd kk
theorem zc_getD {a idx ci n0 k z : Nat} {ty : FieldType} {fin : Bool} (hF : zc_F y.1.cls idx ci k (3, z) ty fin) (hs : zc_lay[a]? = some (ci, n0)) (h0 : ¬ h.1 a k < 0) (hd : decode y.2.1 pc = .ok (.getfield idx, 3)) (kk : zc_G y mk (pc + 3) ls (.ref (h.1 a k).toNatClampNeg :: st) h o) : zc_G y mk pc ls (.ref a :: st) h o := zc_get hF hs (fun B => by show (if h.1 a k < 0 then Value.null else _) = _; rw [if_neg h0]; rfl) hd kk
theorem zc_put {a idx ci n0 k : Nat} {d : Nat × Nat} {ty : FieldType} {v : Value} {x : Int32} (hF : zc_F y.1.cls idx ci k d ty false) (hs : zc_lay[a]? = some (ci, n0)) (hv : ∀ B, zc_val B a (upd (h.1 a) k x) k d = zc_tr B v) (hn : ∀ B, narrow ty (zc_tr B v) = zc_tr B v ∧ fits ty (zc_tr B v) = true) (hd : decode y.2.1 pc = .ok (.putfield idx, 3)) (kk : zc_G y mk (pc + 3) ls st (zc_ui h a k x) o) : zc_G y mk pc ls (v :: .ref a :: st) h o := by
  intro r hr l D c B p e s m args below meth cd H locs ls0 X hP hK hS hL
  obtain ⟨C, T, N, ty0, h1, h2, h3, h4, h5, h6, h7, h8, h9, h10, h11⟩ := hF
  have hg := zc_wld_get (c := c) (B := B) (h := h) hs
  rw [zc_obj h2] at hg
  have hk : k < (zc_fields B a (h.1 a) (zc_slots ci)).length := by rw [zc_fields_len]; exact (List.getElem?_eq_some_iff.mp h4).1
  have hset : (zc_wld c B h).set a (B + a, .inr (ci, (zc_fields B a (h.1 a) (zc_slots ci)).set k (zc_tr B v))) = zc_wld c B (zc_ui h a k x) := by
    refine zc_wld_set hs ?_ zc_ui_o
    rw [zc_obj h2, zc_ui_s, zc_fields_set h4 (hv B)]
  rcases h11 with h11 | ⟨host, h11⟩
  · exact va_put X.1 X.2.1 X.2.2.2.2.2.1 h5 ty0 h6 h7 X.2.2.2.2.1 hK hP zc_wld_D hS a hg h1 k h3 (X.2.2.2.2.2.1 _ h11) (fun x hx => by rw [h8]; exact hx) h10 h9 (hn B).1 (hn B).2 hk hd (fun H1 locs1 hP1 hD1 hS1 => kk r hr l D c B p e s m args below meth cd H1 locs1 ls0 X (by rw [hset] at hP1; exact hP1) hK hS1 hL)
  · exact va_putN X.1 X.2.1 X.2.2.2.2.2.1 h5 ty0 h6 h7 X.2.2.2.2.1 hK hP zc_wld_D hS a hg h1 k h3 (zn_use X.2.2.2.2.2.2.2 h11) (fun x hx => by rw [h8]; exact hx) h10 h9 (hn B).1 (hn B).2 hk hd (fun H1 locs1 hP1 hD1 hS1 => kk r hr l D c B p e s m args below meth cd H1 locs1 ls0 X (by rw [hset] at hP1; exact hP1) hK hS1 hL)
theorem zc_putI {a idx ci n0 k z : Nat} {x : Int32} (hF : zc_F y.1.cls idx ci k (0, z) .int false) (hs : zc_lay[a]? = some (ci, n0)) (hd : decode y.2.1 pc = .ok (.putfield idx, 3)) (kk : zc_G y mk (pc + 3) ls st (zc_ui h a k x) o) : zc_G y mk pc ls (.int x :: .ref a :: st) h o :=
  zc_put hF hs (fun B => by show Value.int (upd (h.1 a) k x k) = _; simp [upd, zc_tr]) (fun B => ⟨rfl, rfl⟩) hd kk
theorem zc_bo_and {x : Int32} (hx : zc_bo x) : x &&& 1 = x := by rcases hx with rfl | rfl <;> decide
theorem zc_putZ {a idx ci n0 k z : Nat} {x : Int32} (hF : zc_F y.1.cls idx ci k (0, z) .boolean false) (hs : zc_lay[a]? = some (ci, n0)) (hx : zc_bo x) (hd : decode y.2.1 pc = .ok (.putfield idx, 3)) (kk : zc_G y mk (pc + 3) ls st (zc_ui h a k x) o) : zc_G y mk pc ls (.int x :: .ref a :: st) h o :=
  zc_put hF hs (fun B => by show Value.int (upd (h.1 a) k x k) = _; simp [upd, zc_tr]) (fun B => by rcases hx with rfl | rfl <;> exact ⟨rfl, rfl⟩) hd kk
theorem zc_putD {a idx ci n0 k z b : Nat} {ty2 : FieldType} (hF : zc_F y.1.cls idx ci k (3, z) (.array ty2) false) (hs : zc_lay[a]? = some (ci, n0)) (hb : b < 81) (hd : decode y.2.1 pc = .ok (.putfield idx, 3)) (kk : zc_G y mk (pc + 3) ls st (zc_ui h a k (nI b)) o) : zc_G y mk pc ls (.ref b :: .ref a :: st) h o :=
  zc_put hF hs (fun B => by
    have e1 : upd (h.1 a) k (nI b) k = nI b := by simp [upd]
    show (if upd (h.1 a) k (nI b) k < 0 then Value.null else Value.ref (B + (upd (h.1 a) k (nI b) k).toNatClampNeg)) = _
    rw [e1, if_neg (nI_pos (by omega)), nI_clamp (by omega)]; rfl) (fun B => ⟨rfl, rfl⟩) hd kk
-- arrays
theorem zc_aldi {a n : Nat} {i : Int32} (hs : zc_lay[a]? = some (12, n)) (hi : zc_ix i n) (hd : decode y.2.1 pc = .ok (.iaload, 1)) (kk : zc_G y mk (pc + 1) ls (.int (h.1 a i.toNatClampNeg) :: st) h o) : zc_G y mk pc ls (.int i :: .ref a :: st) h o := by
  intro r hr l D c B p e s m args below meth cd H locs ls0 X hP hK hS hL
  have hg := zc_wld_get (c := c) (B := B) (h := h) hs
  exact va_iald X.1 X.2.1 hK hP a 0 (cA := c.1) hg rfl hi hd (kk r hr l D c B p e s m args below meth cd H locs ls0 X hP hK hS hL)
theorem zc_aldl {a n : Nat} {i : Int32} (hs : zc_lay[a]? = some (13, n)) (hi : zc_ix i n) (hd : decode y.2.1 pc = .ok (.laload, 1)) (kk : zc_G y mk (pc + 1) ls (.long (h.2 a i.toNatClampNeg) :: st) h o) : zc_G y mk pc ls (.int i :: .ref a :: st) h o := by
  intro r hr l D c B p e s m args below meth cd H locs ls0 X hP hK hS hL
  have hg := zc_wld_get (c := c) (B := B) (h := h) hs
  exact va_lald X.1 X.2.1 hK hP a 1 (cA := c.2.1) hg rfl hi hd (kk r hr l D c B p e s m args below meth cd H locs ls0 X hP hK hS hL)
theorem zc_aldS {a n : Nat} {i : Int32} (hs : zc_lay[a]? = some (14, n)) (hi : zc_ix i n) (hd : decode y.2.1 pc = .ok (.aaload, 1)) (kk : zc_G y mk (pc + 1) ls (.ref (a + 1 + 2 * i.toNatClampNeg) :: st) h o) : zc_G y mk pc ls (.int i :: .ref a :: st) h o := by
  intro r hr l D c B p e s m args below meth cd H locs ls0 X hP hK hS hL
  have hg := zc_wld_get (c := c) (B := B) (h := h) hs
  exact va_aldq X.1 X.2.1 hK hP a 2 (cA := c.2.2.1) hg rfl hi hd (kk r hr l D c B p e s m args below meth cd H locs ls0 X hP hK hS hL)
theorem zc_aldV {a n : Nat} {i : Int32} (hs : zc_lay[a]? = some (15, n)) (hi : zc_ix i n) (hd : decode y.2.1 pc = .ok (.aaload, 1)) (kk : zc_G y mk (pc + 1) ls (.ref (a + 1 + i.toNatClampNeg) :: st) h o) : zc_G y mk pc ls (.int i :: .ref a :: st) h o := by
  intro r hr l D c B p e s m args below meth cd H locs ls0 X hP hK hS hL
  have hg := zc_wld_get (c := c) (B := B) (h := h) hs
  exact va_aldq X.1 X.2.1 hK hP a 3 (cA := c.2.2.2) hg rfl hi hd (kk r hr l D c B p e s m args below meth cd H locs ls0 X hP hK hS hL)
theorem zc_asti {a n : Nat} {i x : Int32} (hs : zc_lay[a]? = some (12, n)) (hi : zc_ix i n) (hd : decode y.2.1 pc = .ok (.iastore, 1)) (kk : zc_G y mk (pc + 1) ls st (zc_ui h a i.toNatClampNeg x) o) : zc_G y mk pc ls (.int x :: .int i :: .ref a :: st) h o := by
  intro r hr l D c B p e s m args below meth cd H locs ls0 X hP hK hS hL
  have hg := zc_wld_get (c := c) (B := B) (h := h) hs
  have hset : (zc_wld c B h).set a (B + a, .inl (c.1, n, .inl (upd (h.1 a) i.toNatClampNeg x))) = zc_wld c B (zc_ui h a i.toNatClampNeg x) := by
    refine zc_wld_set hs ?_ zc_ui_o
    rw [zc_ui_s]; rfl
  exact va_iast X.1 X.2.1 hK hP zc_wld_D hS a 0 (cA := c.1) hg rfl hi hd (fun H1 locs1 hP1 hD1 hS1 => kk r hr l D c B p e s m args below meth cd H1 locs1 ls0 X (by rw [hset] at hP1; exact hP1) hK hS1 hL)
theorem zc_astl {a n : Nat} {i : Int32} {x : Int64} (hs : zc_lay[a]? = some (13, n)) (hi : zc_ix i n) (hd : decode y.2.1 pc = .ok (.lastore, 1)) (kk : zc_G y mk (pc + 1) ls st (zc_ul h a i.toNatClampNeg x) o) : zc_G y mk pc ls (.long x :: .int i :: .ref a :: st) h o := by
  intro r hr l D c B p e s m args below meth cd H locs ls0 X hP hK hS hL
  have hg := zc_wld_get (c := c) (B := B) (h := h) hs
  have hset : (zc_wld c B h).set a (B + a, .inl (c.2.1, n, .inr (.inl (vp_updL (h.2 a) i.toNatClampNeg x)))) = zc_wld c B (zc_ul h a i.toNatClampNeg x) := by
    refine zc_wld_set hs ?_ zc_ul_o
    rw [zc_ul_s]; rfl
  exact va_last X.1 X.2.1 hK hP zc_wld_D hS a 1 (cA := c.2.1) hg rfl hi hd (fun H1 locs1 hP1 hD1 hS1 => kk r hr l D c B p e s m args below meth cd H1 locs1 ls0 X (by rw [hset] at hP1; exact hP1) hK hS1 hL)
theorem zc_alenI {a n : Nat} (hs : zc_lay[a]? = some (12, n)) (hd : decode y.2.1 pc = .ok (.arraylength, 1)) (kk : zc_G y mk (pc + 1) ls (.int (Int32.ofNat n) :: st) h o) : zc_G y mk pc ls (.ref a :: st) h o := by
  intro r hr l D c B p e s m args below meth cd H locs ls0 X hP hK hS hL
  have hg := zc_wld_get (c := c) (B := B) (h := h) hs
  exact va_alen X.1 X.2.1 hK hP a 0 (cA := c.1) (x := (n, .inl (h.1 a))) hg rfl rfl hd (kk r hr l D c B p e s m args below meth cd H locs ls0 X hP hK hS hL)
theorem zc_alenL {a n : Nat} (hs : zc_lay[a]? = some (13, n)) (hd : decode y.2.1 pc = .ok (.arraylength, 1)) (kk : zc_G y mk (pc + 1) ls (.int (Int32.ofNat n) :: st) h o) : zc_G y mk pc ls (.ref a :: st) h o := by
  intro r hr l D c B p e s m args below meth cd H locs ls0 X hP hK hS hL
  have hg := zc_wld_get (c := c) (B := B) (h := h) hs
  exact va_alen X.1 X.2.1 hK hP a 1 (cA := c.2.1) (x := (n, .inr (.inl (h.2 a)))) hg rfl rfl hd (kk r hr l D c B p e s m args below meth cd H locs ls0 X hP hK hS hL)
-- returns
theorem zc_iret {x : Int32} {r : ρ} (hd : decode y.2.1 pc = .ok (.ireturn, 1)) (hret : y.2.2.2.1 = some .int) (ho : o = some r) (hm : mk r = zc_mI (x, h)) : zc_G y mk pc ls [.int x] h o := by
  intro r' hr l D c B p e s m args below meth cd H locs ls0 X hP hK hS hL
  have e : r = r' := Option.some.inj (ho.symm.trans hr)
  subst e
  rw [hm]
  exact W.iret (v := x) X.1 X.2.1 (X.2.2.1.trans hret) (fun t ht hW => ⟨⟨x, h, rfl, ⟨rfl, rfl⟩, by rw [ht]; exact hP, va_K.moved hW.alike hK⟩, hS.F ht⟩) hS.2.2 hd X.2.2.2.2.2.2.1
theorem zc_zret {x : Int32} {r : ρ} (hd : decode y.2.1 pc = .ok (.ireturn, 1)) (hret : y.2.2.2.1 = some .boolean) (hx : x &&& 1 = x) (ho : o = some r) (hm : mk r = zc_mI (x, h)) : zc_G y mk pc ls [.int x] h o := by
  intro r' hr l D c B p e s m args below meth cd H locs ls0 X hP hK hS hL
  have e : r = r' := Option.some.inj (ho.symm.trans hr)
  subst e
  rw [hm]
  exact W.zret (v := x) X.1 X.2.1 (X.2.2.1.trans hret) (by show Value.int (x &&& 1) = _; rw [hx]) (fun t ht hW => ⟨⟨x, h, rfl, ⟨rfl, rfl⟩, by rw [ht]; exact hP, va_K.moved hW.alike hK⟩, hS.F ht⟩) hS.2.2 hd X.2.2.2.2.2.2.1
theorem zc_lret {x : Int64} {r : ρ} (hd : decode y.2.1 pc = .ok (.lreturn, 1)) (hret : y.2.2.2.1 = some .long) (ho : o = some r) (hm : mk r = zc_mL (x, h)) : zc_G y mk pc ls [.long x] h o := by
  intro r' hr l D c B p e s m args below meth cd H locs ls0 X hP hK hS hL
  have e : r = r' := Option.some.inj (ho.symm.trans hr)
  subst e
  rw [hm]
  exact W.lret (v := x) X.1 X.2.1 (X.2.2.1.trans hret) (fun t ht hW => ⟨⟨x, h, rfl, ⟨rfl, rfl⟩, by rw [ht]; exact hP, va_K.moved hW.alike hK⟩, hS.F ht⟩) hS.2.2 hd X.2.2.2.2.2.2.1
theorem zc_vret {r : ρ} (hd : decode y.2.1 pc = .ok (.return_, 1)) (hret : y.2.2.2.1 = none) (ho : o = some r) (hm : mk r = zc_mV h) : zc_G y mk pc ls [] h o := by
  intro r' hr l D c B p e s m args below meth cd H locs ls0 X hP hK hS hL
  have e : r = r' := Option.some.inj (ho.symm.trans hr)
  subst e
  rw [hm]
  exact W.vret X.1 X.2.1 (X.2.2.1.trans hret) (fun t ht hW => ⟨⟨h, rfl, rfl, by rw [ht]; exact hP, va_K.moved hW.alike hK⟩, hS.F ht⟩) hS.2.2 hd X.2.2.2.2.2.2.1
-- bodies
def zc_flat : List Value → List (Option Value)
  | [] => []
  | v :: vs => (if v.category = 2 then [some v, none] else [some v]) ++ zc_flat vs
def zc_ent (nL : Nat) (av : List Value) : List (Option Value) := zc_flat av ++ List.replicate (nL - (zc_flat av).length) none
def zc_sl (B : Nat) : Option Value → Slot
  | some v => .val (zc_tr B v)
  | none => .second
theorem zc_flat_sl (B : Nat) : ∀ av : List Value, lg_sl (av.map (zc_tr B)) = (zc_flat av).map (zc_sl B)
  | [] => rfl
  | v :: vs => by
    have ih := zc_flat_sl B vs
    show (if (zc_tr B v).category = 2 then [Slot.val (zc_tr B v), .second] else [.val (zc_tr B v)]) ++ lg_sl (vs.map (zc_tr B)) = _
    rw [ih, zc_flat, List.map_append, zc_tr_cat]
    by_cases hc : v.category = 2
    · rw [if_pos hc, if_pos hc]; rfl
    · rw [if_neg hc, if_neg hc]; rfl
theorem zc_entL {nL B : Nat} {av : List Value} (hlen : (zc_flat av).length ≤ nL) : zc_L nL B (zc_ent nL av) ((lg_sl (av.map (zc_tr B)) ++ List.replicate (nL - (lg_sl (av.map (zc_tr B))).length) Slot.unset).toArray) := by
  have hl2 : (lg_sl (av.map (zc_tr B))).length = (zc_flat av).length := by rw [zc_flat_sl, List.length_map]
  have hE := lv_entry (av.map (zc_tr B)) (n := nL) (by rw [hl2]; exact hlen)
  refine ⟨hE.1, hE.2.1, fun n v hn => ?_⟩
  rw [zc_ent] at hn
  by_cases hlt : n < (zc_flat av).length
  · rw [List.getElem?_append_left hlt] at hn
    have h1 : (lg_sl (av.map (zc_tr B)))[n]? = some (.val (zc_tr B v)) := by
      rw [zc_flat_sl, List.getElem?_map, hn]; rfl
    simp only [List.getElem?_toArray]
    rw [List.getElem?_append_left (by rw [hl2]; exact hlt)]
    exact h1
  · rw [List.getElem?_append_right (by omega), List.getElem?_replicate] at hn
    split at hn <;> simp at hn
theorem zc_body {av : List Value} {T : zRT} (hy : plainName y.1.cls = true) (hlen : (zc_flat av).length ≤ y.2.2.1) (k : zc_W y T 0 (zc_ent y.2.2.1 av) [] h) : zc_Cn y av h T := by
  intro l D c B
  refine Met.ofW (cc := y.2.1) (maxL := y.2.2.1) (ret := y.2.2.2.1) hy rfl ?_
  intro p e s m args below meth cd s₁ Bd hml hv
  obtain ⟨rfl, ⟨hP, hK⟩, hN⟩ := hv
  have hts := atoms_spec (ws := zc_ws y) Bd.pre
  rw [lg_entry_eq]
  exact k l D c B p e s m _ below meth cd s.heap [] _ ⟨Bd.exec, Bd.bytes, Bd.returns, hml, findClass_of_methodNamed Bd.named, fun w hw => hts w (List.mem_cons_of_mem _ hw), Bd.notSynchronized, hN⟩ hP hK va_S.rf (zc_entL hlen)
/-- a method's residual gives its contract -/
theorem zc_meth {av : List Value} {r : ρ} (hy : plainName y.1.cls = true) (hlen : (zc_flat av).length ≤ y.2.2.1) (k : zc_G y mk 0 (zc_ent y.2.2.1 av) [] h (o.bind some)) (ho : o = some r) : zc_Cn y av h (mk r) := zc_body hy hlen (zc_top k r ho)
end ZH

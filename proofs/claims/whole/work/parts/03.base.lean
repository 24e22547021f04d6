/-! the abstract heap: ints and longs by address and slot; the layout of the 81 cells that the law makes is fixed -/
abbrev zHp : Type := (Nat → Nat → Int32) × (Nat → Nat → Int64)
abbrev zCS : Type := ClassId × ClassId × ClassId × ClassId
def zc_tys (c : zCS) : List (ClassId × FieldType) := [(c.1, .int), (c.2.1, .long), (c.2.2.1, .object "ChairOnTheRoad$Shelf"), (c.2.2.2, .object "ChairOnTheRoad$Village")]
/-- kind (0..11 an object of that class, 12 ints, 13 longs, 14 shelves, 15 villages) and length, by address -/
def zc_lay : List (Nat × Nat) := [(10, 0), (12, 49), (12, 128), (12, 4), (12, 4), (13, 12), (13, 12), (15, 8), (9, 0), (1, 0), (3, 0), (4, 0), (2, 0), (6, 0), (0, 0), (5, 0), (7, 0), (12, 7), (12, 7), (12, 7), (12, 7), (12, 7), (12, 7), (12, 7), (12, 7), (7, 0), (12, 7), (12, 7), (12, 7), (12, 7), (12, 7), (12, 7), (12, 7), (12, 7), (7, 0), (12, 7), (12, 7), (12, 7), (12, 7), (12, 7), (12, 7), (12, 7), (12, 7), (14, 8), (8, 0), (12, 100), (8, 0), (12, 100), (8, 0), (12, 100), (8, 0), (12, 100), (8, 0), (12, 100), (8, 0), (12, 100), (8, 0), (12, 100), (8, 0), (12, 100), (11, 0), (12, 7), (12, 7), (12, 7), (12, 7), (12, 7), (12, 8), (12, 8), (12, 8), (12, 8), (12, 8), (13, 800), (12, 51), (12, 51), (12, 204), (12, 41), (12, 41), (12, 1024), (12, 8), (13, 100), (13, 1)]
def zc_slots : Nat → List (Nat × Nat)
  | 7 => [(1, 7), (2, 1), (2, 2), (2, 3), (2, 4), (2, 5), (2, 6), (2, 7), (2, 8), (0, 0), (0, 0), (0, 0), (0, 0), (0, 0), (0, 0)]
  | 8 => [(0, 0), (0, 0), (0, 0), (0, 0), (0, 0), (2, 1)]
  | 10 => [(1, 7), (1, 16), (1, 25), (1, 34), (0, 0), (1, 43), (1, 1), (1, 2), (1, 3), (1, 4), (1, 5), (1, 6)]
  | 11 => [(0, 0), (0, 0), (0, 0), (0, 0), (1, 61), (1, 62), (1, 63), (1, 64), (1, 65), (0, 0), (0, 0), (1, 66), (1, 67), (1, 68), (1, 69), (1, 70), (1, 71), (0, 0), (0, 0), (0, 0), (0, 0), (0, 0), (1, 72), (1, 73), (1, 74), (1, 75), (1, 76), (0, 0), (0, 0), (0, 0), (3, 0), (1, 77), (1, 78), (0, 0), (1, 79)]
  | _ => []
def zc_val (B a : Nat) (f : Nat → Int32) (k : Nat) (d : Nat × Nat) : Value := match d.1 with
  | 0 => .int (f k)
  | 1 => .ref (B + d.2)
  | 2 => .ref (B + (a + d.2))
  | _ => if f k < 0 then .null else .ref (B + (f k).toNatClampNeg)
def zc_fields (B a : Nat) (f : Nat → Int32) (ds : List (Nat × Nat)) : List Value := ds.zipIdx.map (fun q => zc_val B a f q.2 q.1)
def zc_cell (c : zCS) (B a : Nat) (s : Nat × Nat) (f : Nat → Int32) (g : Nat → Int64) : va_E :=
  if s.1 = 12 then .inl (c.1, s.2, .inl f)
  else if s.1 = 13 then .inl (c.2.1, s.2, .inr (.inl g))
  else if s.1 = 14 then .inl (c.2.2.1, s.2, .inr (.inr (.inr (.inr (fun i => some (B + (a + 1 + 2 * i)))))))
  else if s.1 = 15 then .inl (c.2.2.2, s.2, .inr (.inr (.inr (.inr (fun i => some (B + (a + 1 + i)))))))
  else .inr (s.1, zc_fields B a f (zc_slots s.1))
def zc_wld (c : zCS) (B : Nat) (h : zHp) : va_W := (List.range 81).map (fun a => (B + a, zc_cell c B a (zc_lay.getD a (0, 0)) (h.1 a) (h.2 a)))
def zc_ui (h : zHp) (a k : Nat) (x : Int32) : zHp := (va_up h.1 a (upd (h.1 a) k x), h.2)
def zc_ul (h : zHp) (a k : Nat) (x : Int64) : zHp := (h.1, va_up h.2 a (vp_updL (h.2 a) k x))
def zc_ri (h : zHp) (a : Nat) (f : Nat → Int32) : zHp := (va_up h.1 a f, h.2)
def zc_rl (h : zHp) (a : Nat) (f : Nat → Int64) : zHp := (h.1, va_up h.2 a f)
def zc_ge (B : Nat) : Nat → Prop := fun q => B ≤ q
theorem zc_fields_get {B a k : Nat} {f : Nat → Int32} {ds : List (Nat × Nat)} {d : Nat × Nat} (h : ds[k]? = some d) : (zc_fields B a f ds)[k]? = some (zc_val B a f k d) := by
  simp [zc_fields, List.getElem?_map, List.getElem?_zipIdx, h]
theorem zc_fields_len {B a : Nat} {f : Nat → Int32} {ds : List (Nat × Nat)} : (zc_fields B a f ds).length = ds.length := by simp [zc_fields]
theorem zc_val_ne {B a k j : Nat} {f : Nat → Int32} {x : Int32} {d : Nat × Nat} (h : j ≠ k) : zc_val B a (upd f k x) j d = zc_val B a f j d := by
  have e : upd f k x j = f j := by simp [upd, h]
  simp only [zc_val, e]
theorem zc_fields_set {B a k : Nat} {f : Nat → Int32} {ds : List (Nat × Nat)} {d : Nat × Nat} {x : Int32} {v : Value} (h : ds[k]? = some d) (hv : zc_val B a (upd f k x) k d = v) : (zc_fields B a f ds).set k v = zc_fields B a (upd f k x) ds := by
  have hk : k < ds.length := (List.getElem?_eq_some_iff.mp h).1
  apply List.ext_getElem?
  intro j
  rw [List.getElem?_set]
  by_cases hj : k = j
  · subst hj
    rw [if_pos rfl, if_pos (by rw [zc_fields_len]; exact hk), zc_fields_get h, hv]
  · rw [if_neg hj]
    cases hd : ds[j]? with
    | none =>
      have e1 : (zc_fields B a f ds)[j]? = none := by simp [zc_fields, List.getElem?_map, List.getElem?_zipIdx, hd]
      have e2 : (zc_fields B a (upd f k x) ds)[j]? = none := by simp [zc_fields, List.getElem?_map, List.getElem?_zipIdx, hd]
      rw [e1, e2]
    | some d2 =>
      rw [zc_fields_get hd, zc_fields_get hd, zc_val_ne (fun q => hj q.symm)]
theorem zc_lay_len : zc_lay.length = 81 := rfl
theorem zc_lt {a : Nat} {s : Nat × Nat} (h : zc_lay[a]? = some s) : a < 81 := by
  have := (List.getElem?_eq_some_iff.mp h).1
  rwa [zc_lay_len] at this
theorem zc_wld_get {c : zCS} {B a : Nat} {h : zHp} {s : Nat × Nat} (hs : zc_lay[a]? = some s) : (zc_wld c B h)[a]? = some (B + a, zc_cell c B a s (h.1 a) (h.2 a)) := by
  have hlt := zc_lt hs
  simp [zc_wld, List.getElem?_map, List.getElem?_range, hlt, List.getD, hs]
theorem zc_wld_len {c : zCS} {B : Nat} {h : zHp} : (zc_wld c B h).length = 81 := by simp [zc_wld]
theorem zc_wld_at {c : zCS} {B k : Nat} {h : zHp} {q : Nat × va_E} (hq : (zc_wld c B h)[k]? = some q) : k < 81 ∧ q.1 = B + k := by
  have hk : k < 81 := by
    have := (List.getElem?_eq_some_iff.mp hq).1
    rwa [zc_wld_len] at this
  refine ⟨hk, ?_⟩
  simp [zc_wld, List.getElem?_map, List.getElem?_range, hk] at hq
  rw [← hq]
theorem zc_wld_D {c : zCS} {B : Nat} {h : zHp} : va_D (zc_ge B) (zc_wld c B h) := by
  refine ⟨fun i j p q hp hq e => ?_, fun k q hq => ?_⟩
  · have h1 := (zc_wld_at hp).2
    have h2 := (zc_wld_at hq).2
    omega
  · have h1 := (zc_wld_at hq).2
    show B ≤ q.1
    omega
theorem zc_wld_set {c : zCS} {B a : Nat} {h h2 : zHp} {s : Nat × Nat} {e : va_E} (hs : zc_lay[a]? = some s) (he : zc_cell c B a s (h2.1 a) (h2.2 a) = e) (ho : ∀ b, b ≠ a → h2.1 b = h.1 b ∧ h2.2 b = h.2 b) : (zc_wld c B h).set a (B + a, e) = zc_wld c B h2 := by
  have hlt := zc_lt hs
  apply List.ext_getElem?
  intro j
  rw [List.getElem?_set]
  by_cases hj : a = j
  · subst hj
    rw [if_pos rfl, if_pos (by rw [zc_wld_len]; exact hlt), zc_wld_get hs, he]
  · rw [if_neg hj]
    by_cases hj2 : j < 81
    · simp [zc_wld, List.getElem?_map, List.getElem?_range, hj2, (ho j (fun q => hj q.symm)).1, (ho j (fun q => hj q.symm)).2]
    · simp [zc_wld, List.getElem?_map, List.getElem?_range, hj2]
theorem zc_ui_o {h : zHp} {a k : Nat} {x : Int32} : ∀ b, b ≠ a → (zc_ui h a k x).1 b = h.1 b ∧ (zc_ui h a k x).2 b = h.2 b := fun b hb => ⟨va_up_ne _ _ hb, rfl⟩
theorem zc_ul_o {h : zHp} {a k : Nat} {x : Int64} : ∀ b, b ≠ a → (zc_ul h a k x).1 b = h.1 b ∧ (zc_ul h a k x).2 b = h.2 b := fun b hb => ⟨rfl, va_up_ne _ _ hb⟩
theorem zc_ri_o {h : zHp} {a : Nat} {f : Nat → Int32} : ∀ b, b ≠ a → (zc_ri h a f).1 b = h.1 b ∧ (zc_ri h a f).2 b = h.2 b := fun b hb => ⟨va_up_ne _ _ hb, rfl⟩
theorem zc_rl_o {h : zHp} {a : Nat} {f : Nat → Int64} : ∀ b, b ≠ a → (zc_rl h a f).1 b = h.1 b ∧ (zc_rl h a f).2 b = h.2 b := fun b hb => ⟨rfl, va_up_ne _ _ hb⟩
theorem zc_ui_s {h : zHp} {a k : Nat} {x : Int32} : (zc_ui h a k x).1 a = upd (h.1 a) k x := va_up_self _ _ _
theorem zc_ul_s {h : zHp} {a k : Nat} {x : Int64} : (zc_ul h a k x).2 a = vp_updL (h.2 a) k x := va_up_self _ _ _
theorem zc_ri_s {h : zHp} {a : Nat} {f : Nat → Int32} : (zc_ri h a f).1 a = f := va_up_self _ _ _
theorem zc_rl_s {h : zHp} {a : Nat} {f : Nat → Int64} : (zc_rl h a f).2 a = f := va_up_self _ _ _

/-! methods, contexts, the judgement -/
/-- name, code, maxLocals, return type, frames below, words of locals below -/
abbrev zMI : Type := MethodName × ByteArray × Nat × Option FieldType × Nat × Nat
def zc_room (y : zMI) : Room := { frames := y.2.2.2.2.1, cells := 0, slots := 0, locals := y.2.2.2.2.2 }
def zc_ws (y : zMI) : List Cond := .code y.1 y.2.1 y.2.2.1 y.2.2.2.1 :: zg_tbl
def zc_tr (B : Nat) : Value → Value
  | .ref a => .ref (B + a)
  | v => v
theorem zc_tr_cat (B : Nat) (v : Value) : (zc_tr B v).category = v.category := by cases v <;> rfl
def zc_Cx (y : zMI) (p : Program) (s : State) (m : MethodId) (args : Array Value) (meth : Method) (cd : Code) : Prop :=
  p.tables.exec = Jvm.exec ∧ cd.code = y.2.1 ∧ meth.sig.returnType = y.2.2.2.1 ∧ cd.maxLocals = y.2.2.1 ∧ s.vm.findClass y.1.cls = some m.cls ∧ (∀ w ∈ zg_tbl, w.before args s = true) ∧ meth.locks = false ∧ zn_ok s
def zc_Rp (D : va_G) (c : zCS) (B : Nat) (h : zHp) (t : State) : Prop := va_P D vwCl (zc_wld c B h) t.heap ∧ va_K D vwCl (zc_tys c) t
def zc_Pr (D : va_G) (c : zCS) (B : Nat) (h : zHp) (t : State) : Prop := zc_Rp D c B h t ∧ zn_ok t
def zc_L (nL B : Nat) (ls : List (Option Value)) (ls0 : Array Slot) : Prop := ls0.size = nL ∧ lv_wf ls0 ∧ ∀ (n : Nat) (v : Value), ls[n]? = some (some v) → ls0[n]? = some (.val (zc_tr B v))
abbrev zRT : Type := va_G → zCS → Nat → Array Value → State → Outcome → State → Prop
def zc_mI (x : Int32 × zHp) : zRT := fun D c B => va_Qi (fun r h2 => r = x.1 ∧ h2 = x.2) (zc_Rp D c B) (zc_ge B)
def zc_mL (x : Int64 × zHp) : zRT := fun D c B => va_Ql (fun r h2 => r = x.1 ∧ h2 = x.2) (zc_Rp D c B) (zc_ge B)
def zc_mV (x : zHp) : zRT := fun D c B => va_Qv (fun h2 => h2 = x) (zc_Rp D c B) (zc_ge B)
def zc_W (y : zMI) (T : zRT) (pc : Nat) (ls : List (Option Value)) (st : List Value) (h : zHp) : Prop :=
  ∀ (l : Launch) (D : va_G) (c : zCS) (B : Nat) (p : Program) (e : Env) (s : State) (m : MethodId) (args : Array Value) (below : List Frame) (meth : Method) (cd : Code) (H : Heap) (locs : List Loc) (ls0 : Array Slot),
    zc_Cx y p s m args meth cd → va_P D vwCl (zc_wld c B h) H → va_K D vwCl (zc_tys c) s → va_S (zc_ge B) s.heap H locs → zc_L y.2.2.1 B ls ls0 →
    W p l e (zc_room y) s m args below meth cd H locs 0 0 (MQ below (T D c B) args s 0 0 (zc_ge B)) (F0 m pc ls0 (st.map (zc_tr B)))
/-- at pc, with these locals, this stack and this heap, the machine does what the residual o says, where o says something -/
def zc_G {ρ : Type} (y : zMI) (mk : ρ → zRT) (pc : Nat) (ls : List (Option Value)) (st : List Value) (h : zHp) (o : Option ρ) : Prop := ∀ r, o = some r → zc_W y (mk r) pc ls st h
/-- a method's contract: from these arguments and this heap it does T -/
def zc_Cn (y : zMI) (av : List Value) (h : zHp) (T : zRT) : Prop :=
  ∀ (l : Launch) (D : va_G) (c : zCS) (B : Nat), Met l y.1 (zc_ws y) (zc_room y) (va_Pc (av.map (zc_tr B)) (zc_Pr D c B h)) (T D c B) 0 0 (zc_ge B)
abbrev zc_ix (i : Int32) (n : Nat) : Prop := ¬ (i < 0 ∨ n ≤ i.toNatClampNeg)
abbrev zc_bo (v : Int32) : Prop := v = 0 ∨ v = 1
section ZC
variable {ρ α β : Type} {y : zMI} {mk : ρ → zRT} {pc : Nat} {ls : List (Option Value)} {st : List Value} {h : zHp} {o o1 o2 : Option ρ} {k2 : α → Option ρ} {q q1 q2 : Option α}
theorem zc_none : zc_G y mk pc ls st h (none : Option ρ) := fun r hr => nomatch hr
theorem zc_noneb : zc_G y mk pc ls st h ((none : Option α).bind k2) := fun r hr => nomatch hr
theorem zc_top (k : zc_G y mk pc ls st h (o.bind some)) : zc_G y mk pc ls st h o := fun r hr => k r (by rw [hr]; rfl)
theorem zc_assoc {k1 : β → Option α} {qb : Option β} (k : zc_G y mk pc ls st h (qb.bind (fun x => (k1 x).bind k2))) : zc_G y mk pc ls st h ((qb.bind k1).bind k2) := fun r hr => k r (by rw [← hr]; exact (Option.bind_assoc qb k1 k2).symm)
/-- a join: what comes behind it, for every value with which it is reached
-/
theorem zc_join {k1 : β → Option α} {qb : Option β} (pcJ : Nat) (lsJ : β → List (Option Value)) (stJ : β → List Value) (hJ : β → zHp)
    (J : ∀ v, zc_G y mk pcJ (lsJ v) (stJ v) (hJ v) ((k1 v).bind k2))
    (K : (∀ v, zc_G y mk pcJ (lsJ v) (stJ v) (hJ v) ((k1 v).bind k2)) → zc_G y mk pc ls st h (qb.bind (fun x => (k1 x).bind k2))) : zc_G y mk pc ls st h ((qb.bind k1).bind k2) := zc_assoc (K J)
theorem zc_guard {g : Prop} [Decidable g] (k : g → zc_G y mk pc ls st h (q.bind k2)) : zc_G y mk pc ls st h ((if g then q else none).bind k2) := by
  by_cases hg : g
  · rw [if_pos hg]; exact k hg
  · rw [if_neg hg]; exact zc_noneb
theorem zc_sw {g : Prop} [Decidable g] (k1 : g → zc_G y mk pc ls st h (q1.bind k2)) (k0 : ¬ g → zc_G y mk pc ls st h (q2.bind k2)) : zc_G y mk pc ls st h ((if g then q1 else q2).bind k2) := by
  by_cases hg : g
  · rw [if_pos hg]; exact k1 hg
  · rw [if_neg hg]; exact k0 hg
theorem zc_drop (n : Nat) (k : zc_G y mk pc (ls.set n none) st h o) : zc_G y mk pc ls st h o := by
  intro r hr l D c B p e s m args below meth cd H locs ls0 X hP hK hS hL
  refine k r hr l D c B p e s m args below meth cd H locs ls0 X hP hK hS ⟨hL.1, hL.2.1, fun i v hi => hL.2.2 i v ?_⟩
  rw [List.getElem?_set] at hi
  by_cases hn : n = i
  · rw [if_pos hn] at hi
    split at hi <;> simp at hi
  · rw [if_neg hn] at hi; exact hi
def zc_one (n : Nat) : Option Slot → Option (Nat × Value)
  | some (Slot.val v) => some (n, v)
  | _ => none
def zc_full (nL : Nat) (ls0 : Array Slot) : List (Nat × Value) := (List.range nL).filterMap (fun n => zc_one n ls0[n]?)
theorem zc_Lhas {nL B : Nat} {ls0 : Array Slot} (hL : zc_L nL B ls ls0) : lv_has ls0 nL (zc_full nL ls0) := by
  refine ⟨hL.1, hL.2.1, fun q hq => ?_⟩
  obtain ⟨n, -, hn⟩ := List.mem_filterMap.mp hq
  cases hs : ls0[n]? with
  | none => rw [hs] at hn; cases hn
  | some z =>
    rw [hs] at hn
    cases z with
    | val v => cases hn; exact hs
    | _ => cases hn
theorem zc_Lmem {nL B n : Nat} {v : Value} {ls0 : Array Slot} (hL : zc_L nL B ls ls0) (hn : ls[n]? = some (some v)) : (n, zc_tr B v) ∈ (zc_full nL ls0) := by
  have h1 := hL.2.2 n v hn
  have h2 : n < nL := by rw [← hL.1]; exact lv_lt h1
  exact List.mem_filterMap.mpr ⟨n, List.mem_range.mpr h2, by rw [h1]; rfl⟩
/-- the place below is no long -/
def zc_okS (ls : List (Option Value)) : Nat → Bool
  | 0 => true
  | n + 1 => match ls[n]? with
    | some (some v) => v.category == 1
    | _ => true
theorem zc_okS_at {n i : Nat} {v : Value} (h : zc_okS ls n = true) (hi : i + 1 = n) (hv : ls[i]? = some (some v)) : v.category = 1 := by
  subst hi
  simp only [zc_okS, hv] at h
  simpa using h
theorem zc_Lst1 {nL B i : Nat} {v : Value} {ls0 ls1 : Array Slot} (hL : zc_L nL B ls ls0) (ok : zc_okS ls i = true) (hi : i < ls.length)
    (h1 : lv_has ls1 nL ((i, zc_tr B v) :: (zc_full nL ls0).filter (fun q => !(q.1 == i) && !(q.1 + 1 == i && q.2.category == 2)))) : zc_L nL B (ls.set i (some v)) ls1 := by
  refine ⟨h1.1, h1.2.1, fun n w hn => ?_⟩
  rw [List.getElem?_set] at hn
  by_cases e : i = n
  · subst e
    rw [if_pos rfl, if_pos hi] at hn
    cases hn
    exact h1.2.2 _ List.mem_cons_self
  · rw [if_neg e] at hn
    refine h1.2.2 (n, zc_tr B w) (List.mem_cons_of_mem _ (List.mem_filter.mpr ⟨zc_Lmem hL hn, ?_⟩))
    have e2 : (n == i) = false := by simp; omega
    simp only [e2, Bool.not_false, Bool.true_and, Bool.not_eq_true', Bool.and_eq_false_iff, zc_tr_cat]
    by_cases e3 : n + 1 = i
    · right; rw [zc_okS_at ok e3 hn]; rfl
    · left; simpa using e3
theorem zc_Lst2 {nL B i : Nat} {v : Value} {ls0 ls1 : Array Slot} (hL : zc_L nL B ls ls0) (ok : zc_okS ls i = true) (hi : i < ls.length)
    (h1 : lv_has ls1 nL ((i, zc_tr B v) :: (zc_full nL ls0).filter (fun q => !(q.1 == i) && (!(q.1 == i + 1) && !(q.1 + 1 == i && q.2.category == 2))))) : zc_L nL B ((ls.set i (some v)).set (i + 1) none) ls1 := by
  refine ⟨h1.1, h1.2.1, fun n w hn => ?_⟩
  rw [List.getElem?_set] at hn
  by_cases e1 : i + 1 = n
  · rw [if_pos e1] at hn
    split at hn <;> simp at hn
  · rw [if_neg e1, List.getElem?_set] at hn
    by_cases e : i = n
    · subst e
      rw [if_pos rfl, if_pos hi] at hn
      cases hn
      exact h1.2.2 _ List.mem_cons_self
    · rw [if_neg e] at hn
      refine h1.2.2 (n, zc_tr B w) (List.mem_cons_of_mem _ (List.mem_filter.mpr ⟨zc_Lmem hL hn, ?_⟩))
      have e2 : (n == i) = false := by simp; omega
      have e4 : (n == i + 1) = false := by simp; omega
      simp only [e2, e4, Bool.not_false, Bool.true_and, Bool.not_eq_true', Bool.and_eq_false_iff, zc_tr_cat]
      by_cases e3 : n + 1 = i
      · right; rw [zc_okS_at ok e3 hn]; rfl
      · left; simpa using e3

theorem zc_iconst {n : Int} (v : Int32) (hd : decode y.2.1 pc = .ok (.iconst n, 1)) (hv : Int32.ofInt n = v) (k : zc_G y mk (pc + 1) ls (.int v :: st) h o) : zc_G y mk pc ls (st) h o := by
  intro r hr l D c B p e s m args below meth cd H locs ls0 X hP hK hS hL
  exact lv_iconst X.1 X.2.1 hd hv (k r hr l D c B p e s m args below meth cd H locs ls0 X hP hK hS hL)
theorem zc_bipush {n : Int} (v : Int32) (hd : decode y.2.1 pc = .ok (.bipush n, 2)) (hv : (Int8.ofInt n).toInt32 = v) (k : zc_G y mk (pc + 2) ls (.int v :: st) h o) : zc_G y mk pc ls (st) h o := by
  intro r hr l D c B p e s m args below meth cd H locs ls0 X hP hK hS hL
  exact lv_bipush X.1 X.2.1 hd hv (k r hr l D c B p e s m args below meth cd H locs ls0 X hP hK hS hL)
theorem zc_sipush {n : Int} (v : Int32) (hd : decode y.2.1 pc = .ok (.sipush n, 3)) (hv : (Int16.ofInt n).toInt32 = v) (k : zc_G y mk (pc + 3) ls (.int v :: st) h o) : zc_G y mk pc ls (st) h o := by
  intro r hr l D c B p e s m args below meth cd H locs ls0 X hP hK hS hL
  exact lv_sipush X.1 X.2.1 hd hv (k r hr l D c B p e s m args below meth cd H locs ls0 X hP hK hS hL)
theorem zc_lconst {n : Fin 2} (v : Int64) (hd : decode y.2.1 pc = .ok (.lconst n, 1)) (hv : Int64.ofNat (n : Nat) = v) (k : zc_G y mk (pc + 1) ls (.long v :: st) h o) : zc_G y mk pc ls (st) h o := by
  intro r hr l D c B p e s m args below meth cd H locs ls0 X hP hK hS hL
  exact lv_lconst X.1 X.2.1 hd hv (k r hr l D c B p e s m args below meth cd H locs ls0 X hP hK hS hL)
theorem zc_iload_n {kk : Fin 4} {i : Nat} {x : Int32} (hd : decode y.2.1 pc = .ok (.iload_n kk, 1)) (hi : (kk : Nat) = i) (hl : ls[i]? = some (some (.int x))) (k : zc_G y mk (pc + 1) ls (.int x :: st) h o) : zc_G y mk pc ls (st) h o := by
  intro r hr l D c B p e s m args below meth cd H locs ls0 X hP hK hS hL
  exact lv_iload_n X.1 X.2.1 hd hi (hL.2.2 i _ hl) (k r hr l D c B p e s m args below meth cd H locs ls0 X hP hK hS hL)
theorem zc_iload {i : Nat} {x : Int32} (hd : decode y.2.1 pc = .ok (.iload i, 2)) (hl : ls[i]? = some (some (.int x))) (k : zc_G y mk (pc + 2) ls (.int x :: st) h o) : zc_G y mk pc ls (st) h o := by
  intro r hr l D c B p e s m args below meth cd H locs ls0 X hP hK hS hL
  exact lv_iload X.1 X.2.1 hd (hL.2.2 i _ hl) (k r hr l D c B p e s m args below meth cd H locs ls0 X hP hK hS hL)
theorem zc_lload_n {kk : Fin 4} {i : Nat} {x : Int64} (hd : decode y.2.1 pc = .ok (.lload_n kk, 1)) (hi : (kk : Nat) = i) (hl : ls[i]? = some (some (.long x))) (k : zc_G y mk (pc + 1) ls (.long x :: st) h o) : zc_G y mk pc ls (st) h o := by
  intro r hr l D c B p e s m args below meth cd H locs ls0 X hP hK hS hL
  exact lv_lload_n X.1 X.2.1 hd hi (hL.2.2 i _ hl) (k r hr l D c B p e s m args below meth cd H locs ls0 X hP hK hS hL)
theorem zc_lload {i : Nat} {x : Int64} (hd : decode y.2.1 pc = .ok (.lload i, 2)) (hl : ls[i]? = some (some (.long x))) (k : zc_G y mk (pc + 2) ls (.long x :: st) h o) : zc_G y mk pc ls (st) h o := by
  intro r hr l D c B p e s m args below meth cd H locs ls0 X hP hK hS hL
  exact lv_lload X.1 X.2.1 hd (hL.2.2 i _ hl) (k r hr l D c B p e s m args below meth cd H locs ls0 X hP hK hS hL)
theorem zc_aload_n {kk : Fin 4} {i x : Nat} (hd : decode y.2.1 pc = .ok (.aload_n kk, 1)) (hi : (kk : Nat) = i) (hl : ls[i]? = some (some (.ref x))) (k : zc_G y mk (pc + 1) ls (.ref x :: st) h o) : zc_G y mk pc ls (st) h o := by
  intro r hr l D c B p e s m args below meth cd H locs ls0 X hP hK hS hL
  exact lv_aload_n X.1 X.2.1 hd hi (hL.2.2 i _ hl) (k r hr l D c B p e s m args below meth cd H locs ls0 X hP hK hS hL)
theorem zc_aload {i x : Nat} (hd : decode y.2.1 pc = .ok (.aload i, 2)) (hl : ls[i]? = some (some (.ref x))) (k : zc_G y mk (pc + 2) ls (.ref x :: st) h o) : zc_G y mk pc ls (st) h o := by
  intro r hr l D c B p e s m args below meth cd H locs ls0 X hP hK hS hL
  exact lv_aload X.1 X.2.1 hd (hL.2.2 i _ hl) (k r hr l D c B p e s m args below meth cd H locs ls0 X hP hK hS hL)
theorem zc_iadd {a b : Int32} (hd : decode y.2.1 pc = .ok (.iadd, 1)) (k : zc_G y mk (pc + 1) ls (.int (a + b) :: st) h o) : zc_G y mk pc ls (.int b :: .int a :: st) h o := by
  intro r hr l D c B p e s m args below meth cd H locs ls0 X hP hK hS hL
  exact lv_iadd X.1 X.2.1 hd (k r hr l D c B p e s m args below meth cd H locs ls0 X hP hK hS hL)
theorem zc_isub {a b : Int32} (hd : decode y.2.1 pc = .ok (.isub, 1)) (k : zc_G y mk (pc + 1) ls (.int (a - b) :: st) h o) : zc_G y mk pc ls (.int b :: .int a :: st) h o := by
  intro r hr l D c B p e s m args below meth cd H locs ls0 X hP hK hS hL
  exact lv_isub X.1 X.2.1 hd (k r hr l D c B p e s m args below meth cd H locs ls0 X hP hK hS hL)
theorem zc_imul {a b : Int32} (hd : decode y.2.1 pc = .ok (.imul, 1)) (k : zc_G y mk (pc + 1) ls (.int (a * b) :: st) h o) : zc_G y mk pc ls (.int b :: .int a :: st) h o := by
  intro r hr l D c B p e s m args below meth cd H locs ls0 X hP hK hS hL
  exact lv_imul X.1 X.2.1 hd (k r hr l D c B p e s m args below meth cd H locs ls0 X hP hK hS hL)
theorem zc_iand {a b : Int32} (hd : decode y.2.1 pc = .ok (.iand, 1)) (k : zc_G y mk (pc + 1) ls (.int (a &&& b) :: st) h o) : zc_G y mk pc ls (.int b :: .int a :: st) h o := by
  intro r hr l D c B p e s m args below meth cd H locs ls0 X hP hK hS hL
  exact lv_iand X.1 X.2.1 hd (k r hr l D c B p e s m args below meth cd H locs ls0 X hP hK hS hL)
theorem zc_ior {a b : Int32} (hd : decode y.2.1 pc = .ok (.ior, 1)) (k : zc_G y mk (pc + 1) ls (.int (a ||| b) :: st) h o) : zc_G y mk pc ls (.int b :: .int a :: st) h o := by
  intro r hr l D c B p e s m args below meth cd H locs ls0 X hP hK hS hL
  exact lv_ior X.1 X.2.1 hd (k r hr l D c B p e s m args below meth cd H locs ls0 X hP hK hS hL)
theorem zc_ixor {a b : Int32} (hd : decode y.2.1 pc = .ok (.ixor, 1)) (k : zc_G y mk (pc + 1) ls (.int (a ^^^ b) :: st) h o) : zc_G y mk pc ls (.int b :: .int a :: st) h o := by
  intro r hr l D c B p e s m args below meth cd H locs ls0 X hP hK hS hL
  exact lv_ixor X.1 X.2.1 hd (k r hr l D c B p e s m args below meth cd H locs ls0 X hP hK hS hL)
theorem zc_ishl {a b : Int32} (hd : decode y.2.1 pc = .ok (.ishl, 1)) (k : zc_G y mk (pc + 1) ls (.int (a <<< (b &&& 31)) :: st) h o) : zc_G y mk pc ls (.int b :: .int a :: st) h o := by
  intro r hr l D c B p e s m args below meth cd H locs ls0 X hP hK hS hL
  exact lv_ishl X.1 X.2.1 hd (k r hr l D c B p e s m args below meth cd H locs ls0 X hP hK hS hL)
theorem zc_ishr {a b : Int32} (hd : decode y.2.1 pc = .ok (.ishr, 1)) (k : zc_G y mk (pc + 1) ls (.int (a >>> (b &&& 31)) :: st) h o) : zc_G y mk pc ls (.int b :: .int a :: st) h o := by
  intro r hr l D c B p e s m args below meth cd H locs ls0 X hP hK hS hL
  exact lv_ishr X.1 X.2.1 hd (k r hr l D c B p e s m args below meth cd H locs ls0 X hP hK hS hL)
theorem zc_iushr {a b : Int32} (hd : decode y.2.1 pc = .ok (.iushr, 1)) (k : zc_G y mk (pc + 1) ls (.int ((a.toUInt32 >>> (b.toUInt32 &&& Int32.toUInt32 31)).toInt32) :: st) h o) : zc_G y mk pc ls (.int b :: .int a :: st) h o := by
  intro r hr l D c B p e s m args below meth cd H locs ls0 X hP hK hS hL
  exact lv_iushr X.1 X.2.1 hd rfl (k r hr l D c B p e s m args below meth cd H locs ls0 X hP hK hS hL)
theorem zc_ineg {a : Int32} (hd : decode y.2.1 pc = .ok (.ineg, 1)) (k : zc_G y mk (pc + 1) ls (.int (0 - a) :: st) h o) : zc_G y mk pc ls (.int a :: st) h o := by
  intro r hr l D c B p e s m args below meth cd H locs ls0 X hP hK hS hL
  exact lv_ineg X.1 X.2.1 hd (k r hr l D c B p e s m args below meth cd H locs ls0 X hP hK hS hL)
theorem zc_idiv {a b : Int32} (hd : decode y.2.1 pc = .ok (.idiv, 1)) (hne : ¬ b = 0) (k : zc_G y mk (pc + 1) ls (.int (a / b) :: st) h o) : zc_G y mk pc ls (.int b :: .int a :: st) h o := by
  intro r hr l D c B p e s m args below meth cd H locs ls0 X hP hK hS hL
  exact lv_idiv X.1 X.2.1 hd hne (k r hr l D c B p e s m args below meth cd H locs ls0 X hP hK hS hL)
theorem zc_irem {a b : Int32} (hd : decode y.2.1 pc = .ok (.irem, 1)) (hne : ¬ b = 0) (k : zc_G y mk (pc + 1) ls (.int (a - a / b * b) :: st) h o) : zc_G y mk pc ls (.int b :: .int a :: st) h o := by
  intro r hr l D c B p e s m args below meth cd H locs ls0 X hP hK hS hL
  exact lv_irem X.1 X.2.1 hd hne (k r hr l D c B p e s m args below meth cd H locs ls0 X hP hK hS hL)
theorem zc_ladd {a b : Int64} (hd : decode y.2.1 pc = .ok (.ladd, 1)) (k : zc_G y mk (pc + 1) ls (.long (a + b) :: st) h o) : zc_G y mk pc ls (.long b :: .long a :: st) h o := by
  intro r hr l D c B p e s m args below meth cd H locs ls0 X hP hK hS hL
  exact lv_ladd X.1 X.2.1 hd (k r hr l D c B p e s m args below meth cd H locs ls0 X hP hK hS hL)
theorem zc_lsub {a b : Int64} (hd : decode y.2.1 pc = .ok (.lsub, 1)) (k : zc_G y mk (pc + 1) ls (.long (a - b) :: st) h o) : zc_G y mk pc ls (.long b :: .long a :: st) h o := by
  intro r hr l D c B p e s m args below meth cd H locs ls0 X hP hK hS hL
  exact lv_lsub X.1 X.2.1 hd (k r hr l D c B p e s m args below meth cd H locs ls0 X hP hK hS hL)
theorem zc_lmul {a b : Int64} (hd : decode y.2.1 pc = .ok (.lmul, 1)) (k : zc_G y mk (pc + 1) ls (.long (a * b) :: st) h o) : zc_G y mk pc ls (.long b :: .long a :: st) h o := by
  intro r hr l D c B p e s m args below meth cd H locs ls0 X hP hK hS hL
  exact lv_lmul X.1 X.2.1 hd (k r hr l D c B p e s m args below meth cd H locs ls0 X hP hK hS hL)
theorem zc_ldiv {a b : Int64} (hd : decode y.2.1 pc = .ok (.ldiv, 1)) (hne : ¬ b = 0) (k : zc_G y mk (pc + 1) ls (.long (a / b) :: st) h o) : zc_G y mk pc ls (.long b :: .long a :: st) h o := by
  intro r hr l D c B p e s m args below meth cd H locs ls0 X hP hK hS hL
  exact lv_ldiv X.1 X.2.1 hd hne (k r hr l D c B p e s m args below meth cd H locs ls0 X hP hK hS hL)
theorem zc_lrem {a b : Int64} (hd : decode y.2.1 pc = .ok (.lrem, 1)) (hne : ¬ b = 0) (k : zc_G y mk (pc + 1) ls (.long (a - a / b * b) :: st) h o) : zc_G y mk pc ls (.long b :: .long a :: st) h o := by
  intro r hr l D c B p e s m args below meth cd H locs ls0 X hP hK hS hL
  exact lv_lrem X.1 X.2.1 hd hne (k r hr l D c B p e s m args below meth cd H locs ls0 X hP hK hS hL)
theorem zc_i2l {a : Int32} (hd : decode y.2.1 pc = .ok (.i2l, 1)) (k : zc_G y mk (pc + 1) ls (.long a.toInt64 :: st) h o) : zc_G y mk pc ls (.int a :: st) h o := by
  intro r hr l D c B p e s m args below meth cd H locs ls0 X hP hK hS hL
  exact lv_i2l X.1 X.2.1 hd rfl (k r hr l D c B p e s m args below meth cd H locs ls0 X hP hK hS hL)
theorem zc_l2i {a : Int64} (hd : decode y.2.1 pc = .ok (.l2i, 1)) (k : zc_G y mk (pc + 1) ls (.int a.toInt32 :: st) h o) : zc_G y mk pc ls (.long a :: st) h o := by
  intro r hr l D c B p e s m args below meth cd H locs ls0 X hP hK hS hL
  exact lv_l2i X.1 X.2.1 hd rfl (k r hr l D c B p e s m args below meth cd H locs ls0 X hP hK hS hL)
theorem zc_i2b {a : Int32} (hd : decode y.2.1 pc = .ok (.i2b, 1)) (k : zc_G y mk (pc + 1) ls (.int a.toInt8.toInt32 :: st) h o) : zc_G y mk pc ls (.int a :: st) h o := by
  intro r hr l D c B p e s m args below meth cd H locs ls0 X hP hK hS hL
  exact lv_i2b X.1 X.2.1 hd rfl (k r hr l D c B p e s m args below meth cd H locs ls0 X hP hK hS hL)
theorem zc_i2s {a : Int32} (hd : decode y.2.1 pc = .ok (.i2s, 1)) (k : zc_G y mk (pc + 1) ls (.int a.toInt16.toInt32 :: st) h o) : zc_G y mk pc ls (.int a :: st) h o := by
  intro r hr l D c B p e s m args below meth cd H locs ls0 X hP hK hS hL
  exact lv_i2s X.1 X.2.1 hd rfl (k r hr l D c B p e s m args below meth cd H locs ls0 X hP hK hS hL)
theorem zc_lcmp {a b : Int64} (hd : decode y.2.1 pc = .ok (.lcmp, 1)) (k : zc_G y mk (pc + 1) ls (.int (lg_cmp a b) :: st) h o) : zc_G y mk pc ls (.long b :: .long a :: st) h o := by
  intro r hr l D c B p e s m args below meth cd H locs ls0 X hP hK hS hL
  exact W.lcmp X.1 X.2.1 hd (k r hr l D c B p e s m args below meth cd H locs ls0 X hP hK hS hL)
theorem zc_dup {a : Value} (hd : decode y.2.1 pc = .ok (.dup, 1)) (ha : a.category = 1) (k : zc_G y mk (pc + 1) ls (a :: a :: st) h o) : zc_G y mk pc ls (a :: st) h o := by
  intro r hr l D c B p e s m args below meth cd H locs ls0 X hP hK hS hL
  exact lv_dup X.1 X.2.1 hd ((zc_tr_cat B a).trans ha) (k r hr l D c B p e s m args below meth cd H locs ls0 X hP hK hS hL)
theorem zc_pop {a : Value} (hd : decode y.2.1 pc = .ok (.pop, 1)) (ha : a.category = 1) (k : zc_G y mk (pc + 1) ls (st) h o) : zc_G y mk pc ls (a :: st) h o := by
  intro r hr l D c B p e s m args below meth cd H locs ls0 X hP hK hS hL
  exact lv_pop X.1 X.2.1 hd ((zc_tr_cat B a).trans ha) (k r hr l D c B p e s m args below meth cd H locs ls0 X hP hK hS hL)
theorem zc_dup2 {a b : Value} (hd : decode y.2.1 pc = .ok (.dup2, 1)) (ha : a.category = 1) (hb : b.category = 1) (k : zc_G y mk (pc + 1) ls (a :: b :: a :: b :: st) h o) : zc_G y mk pc ls (a :: b :: st) h o := by
  intro r hr l D c B p e s m args below meth cd H locs ls0 X hP hK hS hL
  exact lv_dup2_11 X.1 X.2.1 hd ((zc_tr_cat B a).trans ha) ((zc_tr_cat B b).trans hb) (k r hr l D c B p e s m args below meth cd H locs ls0 X hP hK hS hL)
theorem zc_ldc {idx : Nat} {v : Int32} (hd : decode y.2.1 pc = .ok (.ldc idx, 2)) (hw : Cond.constant y.1.cls idx v ∈ zg_tbl) (k : zc_G y mk (pc + 2) ls (.int v :: st) h o) : zc_G y mk pc ls (st) h o := by
  intro r hr l D c B p e s m args below meth cd H locs ls0 X hP hK hS hL
  exact lv_ldc X.1 X.2.1 X.2.2.2.2.1 (X.2.2.2.2.2.1 _ hw) hd (k r hr l D c B p e s m args below meth cd H locs ls0 X hP hK hS hL)
theorem zc_ldcw {idx : Nat} {v : Int32} (hd : decode y.2.1 pc = .ok (.ldc_w idx, 3)) (hw : Cond.constant y.1.cls idx v ∈ zg_tbl) (k : zc_G y mk (pc + 3) ls (.int v :: st) h o) : zc_G y mk pc ls (st) h o := by
  intro r hr l D c B p e s m args below meth cd H locs ls0 X hP hK hS hL
  exact lv_ldcw X.1 X.2.1 X.2.2.2.2.1 (X.2.2.2.2.2.1 _ hw) hd (k r hr l D c B p e s m args below meth cd H locs ls0 X hP hK hS hL)
theorem zc_ldc2 {idx : Nat} {v : Int64} (hd : decode y.2.1 pc = .ok (.ldc2_w idx, 3)) (hw : Cond.constantLong y.1.cls idx v ∈ zg_tbl) (k : zc_G y mk (pc + 3) ls (.long v :: st) h o) : zc_G y mk pc ls (st) h o := by
  intro r hr l D c B p e s m args below meth cd H locs ls0 X hP hK hS hL
  exact lv_ldc2 X.1 X.2.1 X.2.2.2.2.1 (X.2.2.2.2.2.1 _ hw) hd (k r hr l D c B p e s m args below meth cd H locs ls0 X hP hK hS hL)
theorem zc_istore_n {kk : Fin 4} {i : Nat} {x : Int32} (hd : decode y.2.1 pc = .ok (.istore_n kk, 1)) (hi : (kk : Nat) = i) (hn : i < y.2.2.1) (ok : zc_okS ls i = true) (hlen : i < ls.length) (k : zc_G y mk (pc + 1) (ls.set i (some (.int x))) st h o) : zc_G y mk pc ls (.int x :: st) h o := by
  intro r hr l D c B p e s m args below meth cd H locs ls0 X hP hK hS hL
  exact lv_istore_n X.1 X.2.1 hd hi (zc_Lhas hL) hn rfl (fun ls1 h1 => k r hr l D c B p e s m args below meth cd H locs ls1 X hP hK hS (zc_Lst1 (v := .int x) hL ok hlen h1))
theorem zc_istore {i : Nat} {x : Int32} (hd : decode y.2.1 pc = .ok (.istore i, 2)) (hn : i < y.2.2.1) (ok : zc_okS ls i = true) (hlen : i < ls.length) (k : zc_G y mk (pc + 2) (ls.set i (some (.int x))) st h o) : zc_G y mk pc ls (.int x :: st) h o := by
  intro r hr l D c B p e s m args below meth cd H locs ls0 X hP hK hS hL
  exact lv_istore X.1 X.2.1 hd (zc_Lhas hL) hn rfl (fun ls1 h1 => k r hr l D c B p e s m args below meth cd H locs ls1 X hP hK hS (zc_Lst1 (v := .int x) hL ok hlen h1))
theorem zc_astore_n {kk : Fin 4} {i : Nat} {x : Nat} (hd : decode y.2.1 pc = .ok (.astore_n kk, 1)) (hi : (kk : Nat) = i) (hn : i < y.2.2.1) (ok : zc_okS ls i = true) (hlen : i < ls.length) (k : zc_G y mk (pc + 1) (ls.set i (some (.ref x))) st h o) : zc_G y mk pc ls (.ref x :: st) h o := by
  intro r hr l D c B p e s m args below meth cd H locs ls0 X hP hK hS hL
  exact lv_astore_n X.1 X.2.1 hd hi (zc_Lhas hL) hn rfl (fun ls1 h1 => k r hr l D c B p e s m args below meth cd H locs ls1 X hP hK hS (zc_Lst1 (v := .ref x) hL ok hlen h1))
theorem zc_astore {i : Nat} {x : Nat} (hd : decode y.2.1 pc = .ok (.astore i, 2)) (hn : i < y.2.2.1) (ok : zc_okS ls i = true) (hlen : i < ls.length) (k : zc_G y mk (pc + 2) (ls.set i (some (.ref x))) st h o) : zc_G y mk pc ls (.ref x :: st) h o := by
  intro r hr l D c B p e s m args below meth cd H locs ls0 X hP hK hS hL
  exact lv_astore X.1 X.2.1 hd (zc_Lhas hL) hn rfl (fun ls1 h1 => k r hr l D c B p e s m args below meth cd H locs ls1 X hP hK hS (zc_Lst1 (v := .ref x) hL ok hlen h1))
theorem zc_lstore_n {kk : Fin 4} {i : Nat} {x : Int64} (hd : decode y.2.1 pc = .ok (.lstore_n kk, 1)) (hi : (kk : Nat) = i) (hn : i + 1 < y.2.2.1) (ok : zc_okS ls i = true) (hlen : i < ls.length) (k : zc_G y mk (pc + 1) ((ls.set i (some (.long x))).set (i + 1) none) st h o) : zc_G y mk pc ls (.long x :: st) h o := by
  intro r hr l D c B p e s m args below meth cd H locs ls0 X hP hK hS hL
  exact lv_lstore_n X.1 X.2.1 hd hi (zc_Lhas hL) hn rfl (fun ls1 h1 => k r hr l D c B p e s m args below meth cd H locs ls1 X hP hK hS (zc_Lst2 (v := .long x) hL ok hlen h1))
theorem zc_lstore {i : Nat} {x : Int64} (hd : decode y.2.1 pc = .ok (.lstore i, 2)) (hn : i + 1 < y.2.2.1) (ok : zc_okS ls i = true) (hlen : i < ls.length) (k : zc_G y mk (pc + 2) ((ls.set i (some (.long x))).set (i + 1) none) st h o) : zc_G y mk pc ls (.long x :: st) h o := by
  intro r hr l D c B p e s m args below meth cd H locs ls0 X hP hK hS hL
  exact lv_lstore X.1 X.2.1 hd (zc_Lhas hL) hn rfl (fun ls1 h1 => k r hr l D c B p e s m args below meth cd H locs ls1 X hP hK hS (zc_Lst2 (v := .long x) hL ok hlen h1))
theorem zc_iinc {i : Nat} {n : Int} {x : Int32} (v : Int32) (hd : decode y.2.1 pc = .ok (.iinc i n, 3)) (hv : Int32.ofInt n = v) (hl : ls[i]? = some (some (.int x))) (hn : i < y.2.2.1) (ok : zc_okS ls i = true) (k : zc_G y mk (pc + 3) (ls.set i (some (.int (x + v)))) st h o) : zc_G y mk pc ls st h o := by
  intro r hr l D c B p e s m args below meth cd H locs ls0 X hP hK hS hL
  obtain ⟨j, hj⟩ := List.mem_iff_getElem?.mp (zc_Lmem hL hl)
  exact lv_iinc X.1 X.2.1 hd (zc_Lhas hL) (k := j) hj (by rw [hv]) hn rfl (fun ls1 h1 => k r hr l D c B p e s m args below meth cd H locs ls1 X hP hK hS (zc_Lst1 (v := .int (x + v)) hL ok (List.getElem?_eq_some_iff.mp hl).1 h1))
theorem zc_goto {off : Int} (tgt : Nat) (hd : decode y.2.1 pc = .ok (.goto off, 3)) (ht : (pc : Int) + off = (tgt : Int)) (k : zc_G y mk tgt ls st h o) : zc_G y mk pc ls st h o := by
  intro r hr l D c B p e s m args below meth cd H locs ls0 X hP hK hS hL
  exact lv_goto X.1 X.2.1 hd ht (k r hr l D c B p e s m args below meth cd H locs ls0 X hP hK hS hL)
theorem zc_if_eq {x : Int32} {off : Int} (tgt : Nat) (hd : decode y.2.1 pc = .ok (.ifCond .eq off, 3)) (ht : (pc : Int) + off = (tgt : Int)) (ka : x = 0 → zc_G y mk tgt ls st h (q1.bind k2)) (kb : ¬ x = 0 → zc_G y mk (pc + 3) ls st h (q2.bind k2)) : zc_G y mk pc ls (.int x :: st) h ((if x = 0 then q1 else q2).bind k2) := by
  intro r hr l D c B p e s m args below meth cd H locs ls0 X hP hK hS hL
  exact lv_if_eq X.1 X.2.1 hd ht (fun hc => ka hc r (by rw [if_pos hc] at hr; exact hr) l D c B p e s m args below meth cd H locs ls0 X hP hK hS hL) (fun hc => kb hc r (by rw [if_neg hc] at hr; exact hr) l D c B p e s m args below meth cd H locs ls0 X hP hK hS hL)
theorem zc_if_ne {x : Int32} {off : Int} (tgt : Nat) (hd : decode y.2.1 pc = .ok (.ifCond .ne off, 3)) (ht : (pc : Int) + off = (tgt : Int)) (ka : x = 0 → zc_G y mk (pc + 3) ls st h (q1.bind k2)) (kb : ¬ x = 0 → zc_G y mk tgt ls st h (q2.bind k2)) : zc_G y mk pc ls (.int x :: st) h ((if x = 0 then q1 else q2).bind k2) := by
  intro r hr l D c B p e s m args below meth cd H locs ls0 X hP hK hS hL
  exact lv_if_ne X.1 X.2.1 hd ht (fun hc => kb hc r (by rw [if_neg hc] at hr; exact hr) l D c B p e s m args below meth cd H locs ls0 X hP hK hS hL) (fun hc => ka hc r (by rw [if_pos hc] at hr; exact hr) l D c B p e s m args below meth cd H locs ls0 X hP hK hS hL)
theorem zc_if_lt {x : Int32} {off : Int} (tgt : Nat) (hd : decode y.2.1 pc = .ok (.ifCond .lt off, 3)) (ht : (pc : Int) + off = (tgt : Int)) (ka : x < 0 → zc_G y mk tgt ls st h (q1.bind k2)) (kb : ¬ x < 0 → zc_G y mk (pc + 3) ls st h (q2.bind k2)) : zc_G y mk pc ls (.int x :: st) h ((if x < 0 then q1 else q2).bind k2) := by
  intro r hr l D c B p e s m args below meth cd H locs ls0 X hP hK hS hL
  exact lv_if_lt X.1 X.2.1 hd ht (fun hc => ka hc r (by rw [if_pos hc] at hr; exact hr) l D c B p e s m args below meth cd H locs ls0 X hP hK hS hL) (fun hc => kb hc r (by rw [if_neg hc] at hr; exact hr) l D c B p e s m args below meth cd H locs ls0 X hP hK hS hL)
theorem zc_if_ge {x : Int32} {off : Int} (tgt : Nat) (hd : decode y.2.1 pc = .ok (.ifCond .ge off, 3)) (ht : (pc : Int) + off = (tgt : Int)) (ka : 0 ≤ x → zc_G y mk tgt ls st h (q1.bind k2)) (kb : ¬ 0 ≤ x → zc_G y mk (pc + 3) ls st h (q2.bind k2)) : zc_G y mk pc ls (.int x :: st) h ((if 0 ≤ x then q1 else q2).bind k2) := by
  intro r hr l D c B p e s m args below meth cd H locs ls0 X hP hK hS hL
  exact lv_if_ge X.1 X.2.1 hd ht (fun hc => ka hc r (by rw [if_pos hc] at hr; exact hr) l D c B p e s m args below meth cd H locs ls0 X hP hK hS hL) (fun hc => kb hc r (by rw [if_neg hc] at hr; exact hr) l D c B p e s m args below meth cd H locs ls0 X hP hK hS hL)
theorem zc_if_gt {x : Int32} {off : Int} (tgt : Nat) (hd : decode y.2.1 pc = .ok (.ifCond .gt off, 3)) (ht : (pc : Int) + off = (tgt : Int)) (ka : 0 < x → zc_G y mk tgt ls st h (q1.bind k2)) (kb : ¬ 0 < x → zc_G y mk (pc + 3) ls st h (q2.bind k2)) : zc_G y mk pc ls (.int x :: st) h ((if 0 < x then q1 else q2).bind k2) := by
  intro r hr l D c B p e s m args below meth cd H locs ls0 X hP hK hS hL
  exact lv_if_gt X.1 X.2.1 hd ht (fun hc => ka hc r (by rw [if_pos hc] at hr; exact hr) l D c B p e s m args below meth cd H locs ls0 X hP hK hS hL) (fun hc => kb hc r (by rw [if_neg hc] at hr; exact hr) l D c B p e s m args below meth cd H locs ls0 X hP hK hS hL)
theorem zc_if_le {x : Int32} {off : Int} (tgt : Nat) (hd : decode y.2.1 pc = .ok (.ifCond .le off, 3)) (ht : (pc : Int) + off = (tgt : Int)) (ka : x ≤ 0 → zc_G y mk tgt ls st h (q1.bind k2)) (kb : ¬ x ≤ 0 → zc_G y mk (pc + 3) ls st h (q2.bind k2)) : zc_G y mk pc ls (.int x :: st) h ((if x ≤ 0 then q1 else q2).bind k2) := by
  intro r hr l D c B p e s m args below meth cd H locs ls0 X hP hK hS hL
  exact lv_if_le X.1 X.2.1 hd ht (fun hc => ka hc r (by rw [if_pos hc] at hr; exact hr) l D c B p e s m args below meth cd H locs ls0 X hP hK hS hL) (fun hc => kb hc r (by rw [if_neg hc] at hr; exact hr) l D c B p e s m args below meth cd H locs ls0 X hP hK hS hL)
theorem zc_icmp_eq {x z : Int32} {off : Int} (tgt : Nat) (hd : decode y.2.1 pc = .ok (.if_icmp .eq off, 3)) (ht : (pc : Int) + off = (tgt : Int)) (ka : x = z → zc_G y mk tgt ls st h (q1.bind k2)) (kb : ¬ x = z → zc_G y mk (pc + 3) ls st h (q2.bind k2)) : zc_G y mk pc ls (.int z :: .int x :: st) h ((if x = z then q1 else q2).bind k2) := by
  intro r hr l D c B p e s m args below meth cd H locs ls0 X hP hK hS hL
  exact lv_icmp_eq X.1 X.2.1 hd ht (fun hc => ka hc r (by rw [if_pos hc] at hr; exact hr) l D c B p e s m args below meth cd H locs ls0 X hP hK hS hL) (fun hc => kb hc r (by rw [if_neg hc] at hr; exact hr) l D c B p e s m args below meth cd H locs ls0 X hP hK hS hL)
theorem zc_icmp_ne {x z : Int32} {off : Int} (tgt : Nat) (hd : decode y.2.1 pc = .ok (.if_icmp .ne off, 3)) (ht : (pc : Int) + off = (tgt : Int)) (ka : x = z → zc_G y mk (pc + 3) ls st h (q1.bind k2)) (kb : ¬ x = z → zc_G y mk tgt ls st h (q2.bind k2)) : zc_G y mk pc ls (.int z :: .int x :: st) h ((if x = z then q1 else q2).bind k2) := by
  intro r hr l D c B p e s m args below meth cd H locs ls0 X hP hK hS hL
  exact lv_icmp_ne X.1 X.2.1 hd ht (fun hc => kb hc r (by rw [if_neg hc] at hr; exact hr) l D c B p e s m args below meth cd H locs ls0 X hP hK hS hL) (fun hc => ka hc r (by rw [if_pos hc] at hr; exact hr) l D c B p e s m args below meth cd H locs ls0 X hP hK hS hL)
theorem zc_icmp_lt {x z : Int32} {off : Int} (tgt : Nat) (hd : decode y.2.1 pc = .ok (.if_icmp .lt off, 3)) (ht : (pc : Int) + off = (tgt : Int)) (ka : x < z → zc_G y mk tgt ls st h (q1.bind k2)) (kb : ¬ x < z → zc_G y mk (pc + 3) ls st h (q2.bind k2)) : zc_G y mk pc ls (.int z :: .int x :: st) h ((if x < z then q1 else q2).bind k2) := by
  intro r hr l D c B p e s m args below meth cd H locs ls0 X hP hK hS hL
  exact lv_icmp_lt X.1 X.2.1 hd ht (fun hc => ka hc r (by rw [if_pos hc] at hr; exact hr) l D c B p e s m args below meth cd H locs ls0 X hP hK hS hL) (fun hc => kb hc r (by rw [if_neg hc] at hr; exact hr) l D c B p e s m args below meth cd H locs ls0 X hP hK hS hL)
theorem zc_icmp_ge {x z : Int32} {off : Int} (tgt : Nat) (hd : decode y.2.1 pc = .ok (.if_icmp .ge off, 3)) (ht : (pc : Int) + off = (tgt : Int)) (ka : z ≤ x → zc_G y mk tgt ls st h (q1.bind k2)) (kb : ¬ z ≤ x → zc_G y mk (pc + 3) ls st h (q2.bind k2)) : zc_G y mk pc ls (.int z :: .int x :: st) h ((if z ≤ x then q1 else q2).bind k2) := by
  intro r hr l D c B p e s m args below meth cd H locs ls0 X hP hK hS hL
  exact lv_icmp_ge X.1 X.2.1 hd ht (fun hc => ka hc r (by rw [if_pos hc] at hr; exact hr) l D c B p e s m args below meth cd H locs ls0 X hP hK hS hL) (fun hc => kb hc r (by rw [if_neg hc] at hr; exact hr) l D c B p e s m args below meth cd H locs ls0 X hP hK hS hL)
theorem zc_icmp_gt {x z : Int32} {off : Int} (tgt : Nat) (hd : decode y.2.1 pc = .ok (.if_icmp .gt off, 3)) (ht : (pc : Int) + off = (tgt : Int)) (ka : z < x → zc_G y mk tgt ls st h (q1.bind k2)) (kb : ¬ z < x → zc_G y mk (pc + 3) ls st h (q2.bind k2)) : zc_G y mk pc ls (.int z :: .int x :: st) h ((if z < x then q1 else q2).bind k2) := by
  intro r hr l D c B p e s m args below meth cd H locs ls0 X hP hK hS hL
  exact lv_icmp_gt X.1 X.2.1 hd ht (fun hc => ka hc r (by rw [if_pos hc] at hr; exact hr) l D c B p e s m args below meth cd H locs ls0 X hP hK hS hL) (fun hc => kb hc r (by rw [if_neg hc] at hr; exact hr) l D c B p e s m args below meth cd H locs ls0 X hP hK hS hL)
theorem zc_icmp_le {x z : Int32} {off : Int} (tgt : Nat) (hd : decode y.2.1 pc = .ok (.if_icmp .le off, 3)) (ht : (pc : Int) + off = (tgt : Int)) (ka : x ≤ z → zc_G y mk tgt ls st h (q1.bind k2)) (kb : ¬ x ≤ z → zc_G y mk (pc + 3) ls st h (q2.bind k2)) : zc_G y mk pc ls (.int z :: .int x :: st) h ((if x ≤ z then q1 else q2).bind k2) := by
  intro r hr l D c B p e s m args below meth cd H locs ls0 X hP hK hS hL
  exact lv_icmp_le X.1 X.2.1 hd ht (fun hc => ka hc r (by rw [if_pos hc] at hr; exact hr) l D c B p e s m args below meth cd H locs ls0 X hP hK hS hL) (fun hc => kb hc r (by rw [if_neg hc] at hr; exact hr) l D c B p e s m args below meth cd H locs ls0 X hP hK hS hL)
theorem zc_tblIn {dflt lo hi : Int} {offs : Array Int} {len : Nat} {x v : Int32} {off : Int} (tgt : Nat) (hx : x = v) (hd : decode y.2.1 pc = .ok (.tableswitch dflt lo hi offs, len)) (h12 : ¬ v.toInt < lo ∧ ¬ hi < v.toInt ∧ offs[(v.toInt - lo).toNat]? = some off ∧ (pc : Int) + off = (tgt : Int)) (k : zc_G y mk tgt ls st h o) : zc_G y mk pc ls (.int x :: st) h o := by
  intro r hr l D c B p e s m args below meth cd H locs ls0 X hP hK hS hL
  subst hx
  exact lv_tableIn X.1 X.2.1 hd h12.1 h12.2.1 h12.2.2.1 h12.2.2.2 (k r hr l D c B p e s m args below meth cd H locs ls0 X hP hK hS hL)
theorem zc_tblOut {dflt lo hi : Int} {offs : Array Int} {len : Nat} {x : Int32} (tgt : Nat) (hd : decode y.2.1 pc = .ok (.tableswitch dflt lo hi offs, len)) (hx : x.toInt < lo ∨ hi < x.toInt) (ht : (pc : Int) + dflt = (tgt : Int)) (k : zc_G y mk tgt ls st h o) : zc_G y mk pc ls (.int x :: st) h o := by
  intro r hr l D c B p e s m args below meth cd H locs ls0 X hP hK hS hL
  exact lv_tableOut X.1 X.2.1 hd hx ht (k r hr l D c B p e s m args below meth cd H locs ls0 X hP hK hS hL)
theorem zc_lsw {dflt : Int} {ps : Array (Int × Int)} {len : Nat} {x : Int32} {off : Int} (tgt : Nat) (hd : decode y.2.1 pc = .ok (.lookupswitch dflt ps, len)) (hp : (ps.toList.zip (ps.toList.drop 1)).all (fun (a, next) => a.1 < next.1) = true) (ho : Op.lookupswitch.offset ps.toList dflt x.toInt = off) (ht : (pc : Int) + off = (tgt : Int)) (k : zc_G y mk tgt ls st h o) : zc_G y mk pc ls (.int x :: st) h o := by
  intro r hr l D c B p e s m args below meth cd H locs ls0 X hP hK hS hL
  exact lv_lookup X.1 X.2.1 hd hp ho ht (k r hr l D c B p e s m args below meth cd H locs ls0 X hP hK hS hL)
theorem zc_neI {x : Int32} {v : Int32} (hx : ¬ x = v) : x.toInt ≠ v.toInt := fun e => hx (Int32.toInt_inj.mp e)

end ZC

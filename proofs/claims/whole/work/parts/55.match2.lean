/-! match: the class -/
def zfr (b : Nat) (h g : zHp) : Prop := (∀ a, a ≠ b → g.1 a = h.1 a) ∧ g.2 = h.2
theorem zfr.rf {b : Nat} {h : zHp} : zfr b h h := ⟨fun _ _ => rfl, rfl⟩
theorem zfr.tr {b : Nat} {h h1 h2 : zHp} (x : zfr b h h1) (y : zfr b h1 h2) : zfr b h h2 := ⟨fun a ha => (y.1 a ha).trans (x.1 a ha), y.2.trans x.2⟩
theorem zfr.u {b k : Nat} {h : zHp} {x : Int32} : zfr b h (zc_ui h b k x) := ⟨fun a ha => by funext j; rw [zu_n (by omega)], rfl⟩
theorem zfr.RC {b p : Nat} {h g : zHp} {P : zP} (x : zfr b h g) (hR : RC h p P) (hb : b < p ∨ p + 8 < b) : RC g p P := RC_of hR (fun a _ _ => x.1 a (by omega))
theorem zfr.C {b : Nat} {h g : zHp} (x : zfr b h g) (hb : 0 < b ∧ b < 16) : zEC h g := ⟨fun a _ => x.1 a (by omega), fun a _ => by rw [x.2]⟩
theorem wb_ix {v o : Nat} (hv : v < 7) (ho : o < 7) : nI v * (7 : Int32) + nI o = nI (7 * v + o) ∧ 7 * v + o < 49 := by
  refine ⟨?_, by omega⟩
  rw [zi_lit7, pk_mul, nI_add, Nat.mul_comm]
theorem c_mesI {h : zHp} {P : zP} {D v : Nat} (hR : RC h 16 P) (hW : zWF D P) (hD : D < 10000) (hv : v < nV P) : ∃ g, zl_X10_measureWaysBetween_15 (nI v) zFU 0 h = some g ∧ (∀ o, o < nV P → g.1 1 (7 * v + o) = nI (wayN P v (pl P o))) ∧ (∀ j, j < 7 * v → g.1 1 j = h.1 1 j) ∧ zfr 1 h g := by
  have h7 := hW.2.1
  refine zl_inv0 (fun fu (g : zHp) i => zl_X10_measureWaysBetween_15 (nI v) fu i g) (fun i g => (∀ o, o < i → g.1 1 (7 * v + o) = nI (wayN P v (pl P o))) ∧ (∀ j, j < 7 * v → g.1 1 j = h.1 1 j) ∧ zfr 1 h g) (fun g => (∀ o, o < nV P → g.1 1 (7 * v + o) = nI (wayN P v (pl P o))) ∧ (∀ j, j < 7 * v → g.1 1 j = h.1 1 j) ∧ zfr 1 h g) (nV P) (by omega) h ⟨fun j hj => absurd hj (by omega), fun _ _ => rfl, zfr.rf⟩ (fun fu i g hi hI => Or.inr ⟨zc_ui g 1 (7 * v + i) (nI (wayN P v (pl P i))), ?_, fun j hj => ?_, fun j hj => ?_, hI.2.2.tr zfr.u⟩) (fun fu g hI => ⟨g, ?_, hI⟩)
  · have r := hI.2.2.RC hR (by omega)
    obtain ⟨w1, w2⟩ := wb_ix (show v < 7 by omega) (show i < 7 by omega)
    show zl_X10_measureWaysBetween_15 (nI v) (fu + 1) (nI i) g = zl_X10_measureWaysBetween_15 (nI v) fu (nI (i + 1)) _
    conv => lhs; unfold zl_X10_measureWaysBetween_15
    rw [r.2.2.1, if_neg (by rw [zi_le (by omega) (by omega)]; omega), if_pos (zi_ix (show i < 7 by omega) (by omega)), zi_clamp (show i < 2000000000 by omega), (r.1 i (by omega)).2.2.1, c_wayTo r hW hD (by omega) (hW.1 i (by omega)).2.2.1, zbs, w1, if_pos (zi_ix w2 (by omega)), zbs, zi_clamp (by omega), zi_one]
  · rw [zu_w]
    by_cases c : 7 * v + j = 7 * v + i
    · rw [if_pos c, show j = i by omega]
    · rw [if_neg c]; exact hI.1 j (by omega)
  · rw [zu_w, if_neg (by omega)]; exact hI.2.1 j hj
  · have r := hI.2.2.RC hR (by omega)
    show zl_X10_measureWaysBetween_15 (nI v) (fu + 1) (nI (nV P)) g = _
    conv => lhs; unfold zl_X10_measureWaysBetween_15
    rw [r.2.2.1, if_pos (by rw [zi_le (by omega) (by omega)]; omega)]
def wbI (P : zP) (h : zHp) : Prop := ∀ v, v < nV P → ∀ o, o < nV P → h.1 1 (7 * v + o) = nI (wayN P v (pl P o))
theorem c_mes {h : zHp} {P : zP} {D : Nat} (hR : RC h 16 P) (hW : zWF D P) (hD : D < 10000) : ∃ g, zf_X10_measureWaysBetween h = some g ∧ wbI P g ∧ zfr 1 h g := by
  have h7 := hW.2.1
  have key : ∃ g, zl_X10_measureWaysBetween_2 zFU 0 h = some g ∧ wbI P g ∧ zfr 1 h g := by
    refine zl_inv0 (fun fu (g : zHp) i => zl_X10_measureWaysBetween_2 fu i g) (fun i g => (∀ v, v < i → ∀ o, o < nV P → g.1 1 (7 * v + o) = nI (wayN P v (pl P o))) ∧ zfr 1 h g) (fun g => wbI P g ∧ zfr 1 h g) (nV P) (by omega) h ⟨fun j hj => absurd hj (by omega), zfr.rf⟩ (fun fu i g hi hI => ?_) (fun fu g hI => ⟨g, ?_, hI⟩)
    · have r := hI.2.RC hR (by omega)
      obtain ⟨g1, a1, a2, a3, a4⟩ := c_mesI r hW hD hi
      refine Or.inr ⟨g1, ?_, fun v hv o ho => ?_, hI.2.tr a4⟩
      · show zl_X10_measureWaysBetween_2 (fu + 1) (nI i) g = zl_X10_measureWaysBetween_2 fu (nI (i + 1)) g1
        conv => lhs; unfold zl_X10_measureWaysBetween_2
        rw [r.2.2.1, if_neg (by rw [zi_le (by omega) (by omega)]; omega), a1, zbs, zi_one]
      · by_cases c : v = i
        · subst c; exact a2 o ho
        · rw [a3 _ (by omega)]; exact hI.1 v (by omega) o ho
    · have r := hI.2.RC hR (by omega)
      show zl_X10_measureWaysBetween_2 (fu + 1) (nI (nV P)) g = _
      conv => lhs; unfold zl_X10_measureWaysBetween_2
      rw [r.2.2.1, if_pos (by rw [zi_le (by omega) (by omega)]; omega)]
  obtain ⟨g, a1, a2⟩ := key
  exact ⟨g, by unfold zf_X10_measureWaysBetween; rw [a1, zbs], a2⟩
theorem c_may {v s o : Nat} (hv : v < 7) (hs : s < 128) (ho : o < 7) : zf_X10_mayMatch (nI v) (nI o) (nI s) = some (if okM v s o then 1 else 0) := by
  unfold zf_X10_mayMatch okM
  by_cases c : o = v
  · rw [if_pos (by rw [c])]
    simp [c]
  · rw [if_neg (by rw [zi_eq (by omega) (by omega)]; exact c), bt_i hs ho]
    cases hb : s.testBit o <;> simp [c]
theorem ad_gt {n s f : Nat} (hn : n ≤ 7) (hs : s < 2 ^ n) (hf : f < n) (hb : s.testBit f = false) : s < ad s f := by
  have key : ∀ s, s < 128 → ∀ f, f < 7 → s.testBit f = false → s < ad s f := by decide +kernel
  exact key s (p2_le hn hs) f (by omega) hb
theorem bc_ok {s : Nat} (hs : s < 128) : zf_J6_bitCount_0f7a4 (nI s) = some (nI (pc s)) := by
  have key : ∀ s, s < 128 → zf_J6_bitCount_0f7a4 (nI s) = some (nI (pc s)) := by decide +kernel
  exact key s hs
theorem pc_lt {n s : Nat} (hn : n ≤ 7) (hs : s + 1 < 2 ^ n) : pc s < n := by
  have key : ∀ n, n < 8 → ∀ s, s < 2 ^ n → s + 1 < 2 ^ n → pc s < n := by decide +kernel
  exact key n (by omega) s (by omega) hs
theorem pc_full {n : Nat} (hn : n ≤ 7) : pc (2 ^ n - 1) = n := by
  have key : ∀ n, n < 8 → pc (2 ^ n - 1) = n := by decide +kernel
  exact key n (by omega)
/-- the rests laid from k on -/
def lrI (P : zP) (k : Nat) (h : zHp) : Prop := ∀ s, k ≤ s → s < 2 ^ nV P → h.1 2 s = nI (lrN P 1000000 (nV P - pc s) s)
theorem c_thr {h : zHp} {P : zP} {D v s o k : Nat} (hW : zWF D P) (hb : wbI P h) (hl : lrI P k h) (hs : s < 2 ^ nV P) (hk : k ≤ s + 1) (hp : pc s = v) (hv : v < nV P) (ho : o < nV P) (hok : okM v s o = true) : zf_X10_waysThrough (nI v) (nI o) (nI s) h = some (nI (min 1000000 (wayN P v (pl P o) + lrN P 1000000 (nV P - (v + 1)) (ad s o)))) := by
  have h7 := hW.2.1
  have s128 := p2_le h7 hs
  have hbit : s.testBit o = false := by
    unfold okM at hok
    simp only [Bool.and_eq_true, Bool.not_eq_true'] at hok
    exact hok.2
  have a1 := ad_lt h7 hs ho
  have a2 := p2_le h7 a1
  have a3 := ad_gt h7 hs ho hbit
  have a4 := ad_pc s128 (show o < 7 by omega) hbit
  obtain ⟨w1, w2⟩ := wb_ix (show v < 7 by omega) (show o < 7 by omega)
  have e1 := hl (ad s o) (by omega) a1
  rw [a4, hp] at e1
  have l1 := lrN_le P 1000000 (nV P - (v + 1)) (ad s o)
  have l2 := wayN_lt (v := v) hW (by omega) (hW.1 o (by omega)).2.2.1
  unfold zf_X10_waysThrough
  rw [ad_i s128 (by omega), if_pos (zi_ix a2 (by omega)), zbs, zi_clamp (by omega), w1, if_pos (zi_ix w2 (by omega)), zbs, zi_clamp (by omega), hb v hv o ho, e1, nI_add, show (1000000 : Int32) = nI 1000000 by decide, zi_min (by omega) (by omega)]
theorem c_lrI {h : zHp} {P : zP} {D v s k : Nat} (hR : RC h 16 P) (hW : zWF D P) (hb : wbI P h) (hl : lrI P k h) (hs : s < 2 ^ nV P) (hk : k ≤ s + 1) (hp : pc s = v) (hv : v < nV P) : zl_X10_measureLeastRests_39 (nI s) h (nI v) zFU 1000000 0 = some (nI (lrN P 1000000 (nV P - v) s)) := by
  have h7 := hW.2.1
  have s128 := p2_le h7 hs
  rw [lr_at hv, ← mnF_sat]
  obtain ⟨t, h1, h2⟩ := zl_inv0 (fun fu (x : Int32) i => zl_X10_measureLeastRests_39 (nI s) h (nI v) fu x i) (fun i x => x = nI (mnF (okM v s) (fun o => min 1000000 (wayN P v (pl P o) + lrN P 1000000 (nV P - (v + 1)) (ad s o))) 1000000 i)) (fun x => x = nI (mnF (okM v s) (fun o => min 1000000 (wayN P v (pl P o) + lrN P 1000000 (nV P - (v + 1)) (ad s o))) 1000000 (nV P))) (nV P) (by omega) 1000000 (by show (1000000 : Int32) = nI 1000000; decide)
    (fun fu i x hi hI => by
      refine Or.inr ⟨nI (mnF (okM v s) (fun o => min 1000000 (wayN P v (pl P o) + lrN P 1000000 (nV P - (v + 1)) (ad s o))) 1000000 (i + 1)), ?_, rfl⟩
      have l1 := mnF_le (ok := okM v s) (f := fun o => min 1000000 (wayN P v (pl P o) + lrN P 1000000 (nV P - (v + 1)) (ad s o))) (I := 1000000) i
      show zl_X10_measureLeastRests_39 (nI s) h (nI v) (fu + 1) x (nI i) = _
      conv => lhs; unfold zl_X10_measureLeastRests_39
      rw [hR.2.2.1, if_neg (by rw [zi_le (by omega) (by omega)]; omega), c_may (by omega) s128 (by omega), zbs, zi_one, hI]
      conv => rhs; unfold mnF
      cases c : okM v s i
      · simp only [Bool.false_eq_true, if_false, if_true]
      · simp only [if_true, z10, if_false]
        rw [c_thr hW hb hl hs hk hp hv hi c]
        simp only [zbs]
        rw [zi_min (by omega) (by omega)])
    (fun fu x hI => by
      refine ⟨x, ?_, hI⟩
      show zl_X10_measureLeastRests_39 (nI s) h (nI v) (fu + 1) x (nI (nV P)) = _
      conv => lhs; unfold zl_X10_measureLeastRests_39
      rw [hR.2.2.1, if_pos (by rw [zi_le (by omega) (by omega)]; omega)])
  rw [show zl_X10_measureLeastRests_39 (nI s) h (nI v) zFU 1000000 0 = some t from h1, h2]
theorem c_lrL {P : zP} {D : Nat} (hW : zWF D P) : ∀ (k fu : Nat) (h : zHp), k + 1 ≤ 2 ^ nV P → k < fu → RC h 16 P → wbI P h → lrI P k h → ∃ g, zl_X10_measureLeastRests_23 fu (nI k - 1) h = some g ∧ wbI P g ∧ lrI P 0 g ∧ zfr 2 h g := by
  have h7 := hW.2.1
  intro k
  induction k with
  | zero =>
    intro fu h hk hfu hR hb hl
    obtain ⟨fu, rfl⟩ : ∃ f, fu = f + 1 := ⟨fu - 1, by omega⟩
    refine ⟨h, ?_, hb, hl, zfr.rf⟩
    unfold zl_X10_measureLeastRests_23
    rw [if_pos (by decide)]
  | succ k ih =>
    intro fu h hk hfu hR hb hl
    obtain ⟨fu, rfl⟩ : ∃ f, fu = f + 1 := ⟨fu - 1, by omega⟩
    have s128 := p2_le h7 (show k < 2 ^ nV P by omega)
    have hp := pc_lt h7 hk
    have e := c_lrI (v := pc k) hR hW hb hl (show k < 2 ^ nV P by omega) (by omega) rfl hp
    have F : zfr 2 h (zc_ui h 2 k (nI (lrN P 1000000 (nV P - pc k) k))) := zfr.u
    have hb2 : wbI P (zc_ui h 2 k (nI (lrN P 1000000 (nV P - pc k) k))) := fun v hv o ho => by rw [F.1 1 (by omega)]; exact hb v hv o ho
    have hl2 : lrI P k (zc_ui h 2 k (nI (lrN P 1000000 (nV P - pc k) k))) := fun s h1 h2 => by
      rw [zu_w]
      by_cases c : s = k
      · rw [if_pos c, c]
      · rw [if_neg c]; exact hl s (by omega) h2
    obtain ⟨g, a1, a2, a3, a4⟩ := ih fu _ (by omega) (by omega) (F.RC hR (by omega)) hb2 hl2
    refine ⟨g, ?_, a2, a3, F.tr a4⟩
    unfold zl_X10_measureLeastRests_23
    rw [nI_pred, if_neg (nI_pos (by omega)), bc_ok s128, zbs, e, zbs, if_pos (zi_ix s128 (by omega)), zbs, zi_clamp (by omega), ← Int32.sub_eq_add_neg]
    exact a1
theorem c_lr {h : zHp} {P : zP} {D : Nat} (hR : RC h 16 P) (hW : zWF D P) (hb : wbI P h) : ∃ g, zf_X10_measureLeastRests h = some g ∧ wbI P g ∧ lrI P 0 g ∧ zfr 2 h g := by
  have h7 := hW.2.1
  obtain ⟨p1, p2⟩ := p2_i h7
  have hpos : 0 < 2 ^ nV P := Nat.pow_pos (by omega)
  have F : zfr 2 h (zc_ui h 2 (2 ^ nV P - 1) 0) := zfr.u
  have hl : lrI P (2 ^ nV P - 1) (zc_ui h 2 (2 ^ nV P - 1) 0) := fun s h1 h2 => by
    have e : s = 2 ^ nV P - 1 := by omega
    rw [e, zu_y, pc_full h7, Nat.sub_self]; rfl
  obtain ⟨g, a1, a2, a3, a4⟩ := c_lrL hW (2 ^ nV P - 1) zFU (zc_ui h 2 (2 ^ nV P - 1) 0) (by omega) (by rw [zFU_eq]; omega) (F.RC hR (by omega)) (fun v hv o ho => by rw [F.1 1 (by omega)]; exact hb v hv o ho) hl
  refine ⟨g, ?_, a2, a3, F.tr a4⟩
  unfold zf_X10_measureLeastRests
  rw [hR.2.2.1, p1, zi_lit1, pk_sub (show 1 ≤ 2 ^ nV P by omega), zbs, if_pos (zi_ix (show 2 ^ nV P - 1 < 128 by omega) (by omega)), zbs, zi_clamp (by omega), ← zi_lit1, a1, zbs]
/-- the class chooses as the reference does -/
theorem c_first {h : zHp} {P : zP} {D v s : Nat} (hR : RC h 16 P) (hW : zWF D P) (hb : wbI P h) (hl : lrI P 0 h) (hs : s < 2 ^ nV P) (hp : pc s = v) (hv : v < nV P) (hf : lrN P 99999 (nV P - v) s < 99999) : zf_X10_firstBestSource (nI v) (nI s) h = some (nI (piM P v s)) := by
  have h7 := hW.2.1
  have s128 := p2_le h7 hs
  obtain ⟨b1, b2, b3, -⟩ := pi_ok h7 hv hf
  have r1 := lr_rl hW (nV P - v) (by omega) s
  obtain ⟨t, h1, h2⟩ := zl_inv0 (fun fu (_ : Unit) i => zl_X10_firstBestSource_2 (nI v) (nI s) h fu i) (fun i _ => i ≤ piM P v s) (fun t => t = Sum.inl (nI (piM P v s))) (nV P) (by omega) () (Nat.zero_le _)
    (fun fu i x hi hI => by
      have u : zl_X10_firstBestSource_2 (nI v) (nI s) h (fu + 1) (nI i) = if pkM P v s i then some (Sum.inl (nI i)) else zl_X10_firstBestSource_2 (nI v) (nI s) h fu (nI (i + 1)) := by
        conv => lhs; unfold zl_X10_firstBestSource_2
        rw [hR.2.2.1, if_neg (by rw [zi_le (by omega) (by omega)]; omega), c_may (by omega) s128 (by omega), zbs, zi_one]
        unfold pkM
        cases c : okM v s i
        · simp only [Bool.false_eq_true, if_false, if_true, Bool.false_and]
        · have r2 := lr_rl hW (nV P - (v + 1)) (by omega) (ad s i)
          have l1 := lrN_le P 1000000 (nV P - (v + 1)) (ad s i)
          have l2 := lrN_le P 1000000 (nV P - v) s
          have l3 := wayN_lt (v := v) hW (by omega) (hW.1 i (by omega)).2.2.1
          simp only [if_true, z10, if_false, Bool.true_and]
          rw [c_thr hW hb hl hs (by omega) hp hv hi c]
          simp only [zbs, if_pos (zi_ix s128 (show 128 < 2000000000 by omega)), zi_clamp (show s < 2000000000 by omega)]
          rw [hl s (by omega) hs, hp]
          have e : (nI (min 1000000 (wayN P v (pl P i) + lrN P 1000000 (nV P - (v + 1)) (ad s i))) = nI (lrN P 1000000 (nV P - v) s)) ↔ wayN P v (pl P i) + lrN P 99999 (nV P - (v + 1)) (ad s i) = lrN P 99999 (nV P - v) s := by
            rw [zi_eq (by omega) (by omega)]
            unfold rlM at r1 r2
            omega
          by_cases q : wayN P v (pl P i) + lrN P 99999 (nV P - (v + 1)) (ad s i) = lrN P 99999 (nV P - v) s
          · rw [if_pos (e.mpr q), decide_eq_true q]; rfl
          · rw [if_neg (fun z => q (e.mp z)), decide_eq_false q]; rfl
      by_cases c : i = piM P v s
      · exact Or.inl ⟨_, by show zl_X10_firstBestSource_2 (nI v) (nI s) h (fu + 1) (nI i) = _; rw [u, c, b2]; rfl, rfl⟩
      · have hI' : i ≤ piM P v s := hI
        refine Or.inr ⟨(), by show zl_X10_firstBestSource_2 (nI v) (nI s) h (fu + 1) (nI i) = _; rw [u, b3 i (by omega)]; rfl, show i + 1 ≤ piM P v s by omega⟩)
    (fun fu x hI => absurd (show nV P ≤ piM P v s from hI) (by omega))
  unfold zf_X10_firstBestSource
  rw [show zl_X10_firstBestSource_2 (nI v) (nI s) h zFU 0 = some t from h1, h2]
  rfl
theorem c_matched {h : zHp} {P : zP} {D v : Nat} (hR : RC h 16 P) (hW : zWF D P) (h2 : 2 ≤ nV P) (hb : wbI P h) (hl : lrI P 0 h) (hv : v < nV P) : zf_X10_matchedSource (nI v) h = some (nI (piM P v (stM P v))) := by
  have h7 := hW.2.1
  obtain ⟨t, h1, h2'⟩ := zl_inv0 (fun fu (y : Int32) i => zl_X10_matchedSource_4 (nI v) h fu y i) (fun i y => i ≤ v ∧ y = nI (stM P i)) (fun t => t = Sum.inl (nI (piM P v (stM P v)))) (nV P) (by omega) 0 ⟨Nat.zero_le _, rfl⟩
    (fun fu i y hi hI => by
      obtain ⟨e1, e2⟩ := hI
      obtain ⟨s1, s2, s3⟩ := st_ok hW h2 i (by omega)
      obtain ⟨b1, -⟩ := pi_ok h7 hi s3
      have f := c_first hR hW hb hl s1 s2 hi s3
      have u : zl_X10_matchedSource_4 (nI v) h (fu + 1) y (nI i) = if i = v then some (Sum.inl (nI (piM P i (stM P i)))) else zl_X10_matchedSource_4 (nI v) h fu (nI (stM P (i + 1))) (nI (i + 1)) := by
        conv => lhs; unfold zl_X10_matchedSource_4
        rw [hR.2.2.1, if_neg (by rw [zi_le (by omega) (by omega)]; omega), e2, f, zbs, zbs, zi_one, ad_i (p2_le h7 s1) (by omega)]
        by_cases c : i = v
        · rw [if_pos c, if_pos (by rw [c])]
        · rw [if_neg c, if_neg (by rw [zi_eq (by omega) (by omega)]; exact c)]; rfl
      by_cases c : i = v
      · exact Or.inl ⟨_, by show zl_X10_matchedSource_4 (nI v) h (fu + 1) y (nI i) = _; rw [u, if_pos c], by rw [c]⟩
      · exact Or.inr ⟨nI (stM P (i + 1)), by show zl_X10_matchedSource_4 (nI v) h (fu + 1) y (nI i) = _; rw [u, if_neg c], by omega, rfl⟩)
    (fun fu y hI => absurd hI.1 (by omega))
  unfold zf_X10_matchedSource
  rw [show zl_X10_matchedSource_4 (nI v) h zFU 0 0 = some t from h1, h2']
  rfl

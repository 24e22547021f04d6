/-! years -/
theorem zi_mask (x : Int32) : ∃ a, a < 2 ^ 31 ∧ x &&& 2147483647 = nI a := by
  have h : ¬ (x &&& 2147483647) < 0 := by
    rw [Int32.lt_iff_toInt_lt, zi_T0]
    have m : (x &&& 2147483647).toBitVec.msb = false := by
      rw [Int32.toBitVec_and, BitVec.msb_and, show (2147483647 : Int32).toBitVec.msb = false by decide, Bool.and_false]
    have e : (x &&& 2147483647).toInt = (x &&& 2147483647).toBitVec.toInt := rfl
    rw [e, BitVec.toInt_eq_toNat_of_msb m]; omega
  exact nI_of h
def lcgI (z : Int32) : Int32 := z * 1103515245 + 12345
def drI (z : Int32) : Int32 := (z &&& 2147483647) / 65536 - (z &&& 2147483647) / 65536 / 12 * 12
def drw (z : Int32) : Nat := (drI z).toNatClampNeg
theorem drw_ok (z : Int32) : drI z = nI (drw z) ∧ drw z < 12 := by
  obtain ⟨a, ha, e⟩ := zi_mask z
  have h1 : drI z = nI (a / 65536 % 12) := by
    unfold drI
    rw [e, show (65536 : Int32) = nI 65536 by decide, pk_div ha (by omega) (by omega), zi_lit12, pk_rem (by omega) (by omega) (by omega)]
  have h2 : a / 65536 % 12 < 12 := Nat.mod_lt _ (by omega)
  unfold drw
  rw [h1, zi_clamp (by omega)]
  exact ⟨rfl, h2⟩
def sdN (z : Int32) : Nat → Int32
  | 0 => z
  | n + 1 => lcgI (sdN z n)
def plY (z : Int32) (f : Nat → Nat) (n : Nat) : Nat → Nat := fun v => if v < n then drw (sdN z (v + 1)) else f v
theorem plY_un (z : Int32) (f : Nat → Nat) (n : Nat) : un (plY z f n) n (drw (sdN z (n + 1))) = plY z f (n + 1) := by
  funext v
  unfold un plY
  by_cases c : v = n
  · subst c; rw [if_pos rfl, if_pos (by omega)]
  · rw [if_neg c]
    by_cases c2 : v < n
    · rw [if_pos c2, if_pos (by omega)]
    · rw [if_neg c2, if_neg (by omega)]
theorem plY_0 (z : Int32) (f : Nat → Nat) : plY z f 0 = f := by funext v; unfold plY; rw [if_neg (by omega)]
def yrQ (P : zP) (z : Int32) (n : Nat) : zP := setPl P (plY z (pl P) n)
theorem yrQ_wf {P : zP} {D : Nat} {z : Int32} {n : Nat} (h : zWF D P) : zWF D (yrQ P z n) := by
  obtain ⟨h1, h2⟩ := h
  refine ⟨fun w hw => ?_, h2⟩
  obtain ⟨a, b, c, d⟩ := h1 w hw
  refine ⟨a, b, ?_, d⟩
  show plY z (pl P) n w < 12
  unfold plY
  split
  · exact (drw_ok _).2
  · exact c
theorem c_yrI {h : zHp} {P : zP} {D : Nat} {z : Int32} (hR : RC h 25 P) (hW : zWF D P) : ∃ g, RC g 25 (yrQ P z (nV P)) ∧ zE 25 h g ∧ zl_X10_years_54 zFU z 0 h = some (sdN z (nV P), g) := by
  have h7 := hW.2.1
  obtain ⟨t, h1, h2⟩ := zl_inv0 (fun fu (s : Int32 × zHp) i => zl_X10_years_54 fu s.1 i s.2) (fun i s => s.1 = sdN z i ∧ RC s.2 25 (yrQ P z i) ∧ zE 25 h s.2) (fun t => t.1 = sdN z (nV P) ∧ RC t.2 25 (yrQ P z (nV P)) ∧ zE 25 h t.2) (nV P) (by omega) (z, h)
    ⟨rfl, by unfold yrQ; rw [plY_0]; exact hR, zE.rf⟩
    (fun fu i s hi hI => by
      obtain ⟨y, g⟩ := s
      obtain ⟨j1, j2, j3⟩ := hI
      change y = _ at j1
      have e3 : g.1 25 9 = nI (nV P) := j2.2.2.1
      obtain ⟨d1, d2⟩ := drw_ok (sdN z (i + 1))
      have q : lcgI y = sdN z (i + 1) := by rw [j1]; rfl
      refine Or.inr ⟨(sdN z (i + 1), zc_ui g (25 + 3) i (nI (drw (sdN z (i + 1))))), ?_, rfl, ?_, j3.tr (zE.ui (by omega))⟩
      · show zl_X10_years_54 (fu + 1) y (nI i) g = zl_X10_years_54 fu (sdN z (i + 1)) (nI (i + 1)) (zc_ui g (25 + 3) i (nI (drw (sdN z (i + 1)))))
        conv => lhs; unfold zl_X10_years_54
        rw [e3, if_neg (by rw [zi_le (by omega) (by omega)]; omega), zbs, ← d1, ← q]
        simp only [if_pos (zi_ix (show i < 7 by omega) (show 7 < 2000000000 by omega)), zi_clamp (show i < 2000000000 by omega), zbs, zi_one]
        rfl
      · have := RC_pl (w := i) (x := drw (sdN z (i + 1))) j2
        unfold yrQ
        rw [← plY_un]
        exact this)
    (fun fu s hI => by
      obtain ⟨y, g⟩ := s
      have e3 : g.1 25 9 = nI (nV P) := hI.2.1.2.2.1
      refine ⟨(y, g), ?_, hI⟩
      show zl_X10_years_54 (fu + 1) y (nI (nV P)) g = _
      conv => lhs; unfold zl_X10_years_54
      rw [e3, if_pos (by rw [zi_le (by omega) (by omega)]; omega)])
  obtain ⟨y, g⟩ := t
  obtain ⟨k1, k2, k3⟩ := h2
  change y = _ at k1
  subst k1
  exact ⟨g, k2, k3, h1⟩
theorem m_yrI {h : zHp} {P : zP} {D : Nat} {z : Int32} (hR : RM h P) (hW : zWF D P) (hz : h.1 60 33 = z) (hA : KA h 75 P) : ∃ g, RM g (yrQ P z (nV P)) ∧ KA g 75 P ∧ zEM h g ∧ g.1 60 33 = sdN z (nV P) ∧ zl_X11_years_59 zFU 0 h = some g := by
  have h7 := hW.2.1
  obtain ⟨t, h1, h2⟩ := zl_inv0 (fun fu (s : zHp) i => zl_X11_years_59 fu i s) (fun i s => s.1 60 33 = sdN z i ∧ RM s (yrQ P z i) ∧ KA s 75 P ∧ zEM h s) (fun t => t.1 60 33 = sdN z (nV P) ∧ RM t (yrQ P z (nV P)) ∧ KA t 75 P ∧ zEM h t) (nV P) (by omega) h
    ⟨hz, by unfold yrQ; rw [plY_0]; exact hR, hA, zEM.rf⟩
    (fun fu i g hi hI => by
      obtain ⟨j1, j2, j3, j4⟩ := hI
      have e3 : g.1 60 3 = nI (nV P) := j2.2.1
      obtain ⟨d1, d2⟩ := drw_ok (sdN z (i + 1))
      have q : g.1 60 33 * 1103515245 + 12345 = sdN z (i + 1) := by rw [j1]; rfl
      have d3 : (sdN z (i + 1) &&& 2147483647) / 65536 - (sdN z (i + 1) &&& 2147483647) / 65536 / 12 * 12 = nI (drw (sdN z (i + 1))) := d1
      have k2 : RM (zc_ui g 60 33 (sdN z (i + 1))) (yrQ P z i) := RM_u j2 (by omega)
      refine Or.inr ⟨zc_ui (zc_ui g 60 33 (sdN z (i + 1))) 63 i (nI (drw (sdN z (i + 1)))), ?_, ?_, ?_, ?_, ?_⟩
      · show zl_X11_years_59 (fu + 1) (nI i) g = zl_X11_years_59 fu (nI (i + 1)) _
        conv => lhs; unfold zl_X11_years_59
        rw [e3, if_neg (by rw [zi_le (by omega) (by omega)]; omega)]
        unfold zf_X11_drawBelow
        rw [q, zbs, if_pos (by decide), zbs, zu_y, d3]
        simp only [if_pos (zi_ix (show i < 7 by omega) (show 7 < 2000000000 by omega)), zi_clamp (show i < 2000000000 by omega), zbs, zi_one]
      · rw [zu_n (by omega), zu_y]
      · have := RM_pl (w := i) (x := drw (sdN z (i + 1))) k2
        unfold yrQ
        rw [← plY_un]
        exact this
      · exact KA_of j3 (by funext j; rw [zu_n (by omega), zu_n (by omega)])
      · exact (j4.tr (zEM.u (by unfold zK; omega) (by omega))).tr (zEM.u (by unfold zK; omega) (by omega)))
    (fun fu g hI => by
      have e3 : g.1 60 3 = nI (nV P) := hI.2.1.2.1
      refine ⟨g, ?_, hI⟩
      show zl_X11_years_59 (fu + 1) (nI (nV P)) g = _
      conv => lhs; unfold zl_X11_years_59
      rw [e3, if_pos (by rw [zi_le (by omega) (by omega)]; omega)])
  obtain ⟨k1, k2, k3, k4⟩ := h2
  exact ⟨t, k2, k3, k4, k1, h1⟩
def yrG (P : zP) (m : Nat) (s : Int32 × Int32 × Int32) (_ : Nat) : Int32 × Int32 × Int32 := (sdN s.1 (nV P), s.2.1 + nI (stockN (daysN m (yrQ P s.1 (nV P)))), s.2.2 + (nI (nd (daysN m (yrQ P s.1 (nV P)))) - nI (nd P)))
theorem c_yrL {h : zHp} {P : zP} {n m : Nat} {z : Int32} (hm : (12 : Int32) = nI m) (hm2 : m ≤ 200) (c1 : zWF 999 P) (c2 : RC h 16 P) (hn : n ≤ 20) : ∃ g, zEC h g ∧ zl_X10_years_34 (nI n) zFU z 0 0 0 h = some ((accN (yrG P m) n (z, 0, 0)).2.1, (accN (yrG P m) n (z, 0, 0)).2.2, g) := by
  have h7 := c1.2.1
  obtain ⟨t, h1, h2⟩ := zl_inv0 (fun fu (s : (Int32 × Int32 × Int32) × zHp) i => zl_X10_years_34 (nI n) fu s.1.1 s.1.2.1 s.1.2.2 i s.2) (fun i s => s.1 = accN (yrG P m) i (z, 0, 0) ∧ zEC h s.2) (fun t => (t.1, t.2.1) = (accN (yrG P m) n (z, 0, 0)).2 ∧ zEC h t.2.2) n (by omega) ((z, 0, 0), h)
    ⟨rfl, zEC.rf⟩
    (fun fu i s hi hI => by
      obtain ⟨⟨a, b, c⟩, g⟩ := s
      obtain ⟨j1, j2⟩ := hI
      change (a, b, c) = _ at j1
      change zEC h g at j2
      have jr : RC g 16 P := RC_of c2 (fun a h1 h2 => j2.1 a (by omega))
      obtain ⟨g1, a1, a2, a3, a4⟩ := c_mind jr c1
      obtain ⟨g2, b1, b2, b3⟩ := c_yrI (z := a) a2 c1
      obtain ⟨g3, d1, d2, d3⟩ := c_goDays (n := m) b1 (yrQ_wf c1) (by omega) (by omega)
      have d4 := c_allStock d2 (daysN_wf (yrQ_wf c1))
      have e1 : g3.1 25 13 = nI (nd (daysN m (yrQ P a (nV P)))) := d2.2.2.2.2.2.2.1
      have e2 : g3.1 16 13 = nI (nd P) := by
        rw [d3.1 16 (by omega), b2.1 16 (by omega)]; exact a3.2.2.2.2.2.2.1
      refine Or.inr ⟨(yrG P m (a, b, c) i, g3), ?_, by show yrG P m (a, b, c) i = yrG P m (accN _ i _) i; rw [j1], ((j2.tr a4.C).tr b2.C).tr d3.C⟩
      show zl_X10_years_34 (nI n) (fu + 1) a b c (nI i) g = zl_X10_years_34 (nI n) fu (sdN a (nV P)) (b + nI (stockN (daysN m (yrQ P a (nV P))))) (c + (nI (nd (daysN m (yrQ P a (nV P)))) - nI (nd P))) (nI (i + 1)) g3
      conv => lhs; unfold zl_X10_years_34
      rw [if_neg (by rw [zi_le (by omega) (by omega)]; omega), a1, zbs, b3, zbs, hm]
      simp only []
      rw [d1, zbs, d4, zbs, e1, e2, zbs, zi_one])
    (fun fu s hI => by
      obtain ⟨⟨a, b, c⟩, g⟩ := s
      obtain ⟨j1, j2⟩ := hI
      change (a, b, c) = _ at j1
      refine ⟨(b, c, g), ?_, by rw [← j1], j2⟩
      show zl_X10_years_34 (nI n) (fu + 1) a b c (nI n) g = _
      conv => lhs; unfold zl_X10_years_34
      rw [if_pos (by rw [zi_le (by omega) (by omega)]; omega)])
  obtain ⟨b, c, g⟩ := t
  obtain ⟨k1, k2⟩ := h2
  refine ⟨g, k2, ?_⟩
  change (b, c) = _ at k1
  rw [← k1]
  exact h1
theorem m_yrL {h h4 g0 : zHp} {P : zP} {n m : Nat} {z x3 : Int32} (hm : (12 : Int32) = nI m) (hm2 : m ≤ 200) (c1 : zWF 999 P) (hJ : JM h P g0) (hz : g0.1 60 33 = z) (h4n : h4.1 60 9 = nI (nd P)) (hn : n ≤ 20) : ∃ g, JM h P g ∧ zl_X11_years_50 (nI n) x3 h4 zFU 0 0 g0 = some (if x3 = 0 then (accN (yrG P m) n (z, 0, 0)).2.1 else (accN (yrG P m) n (z, 0, 0)).2.2, g) := by
  have h7 := c1.2.1
  obtain ⟨t, h1, h2⟩ := zl_inv0 (fun fu (s : Int32 × zHp) i => zl_X11_years_50 (nI n) x3 h4 fu s.1 i s.2) (fun i s => s.1 = (if x3 = 0 then (accN (yrG P m) i (z, 0, 0)).2.1 else (accN (yrG P m) i (z, 0, 0)).2.2) ∧ s.2.1 60 33 = (accN (yrG P m) i (z, 0, 0)).1 ∧ JM h P s.2) (fun t => t.1 = (if x3 = 0 then (accN (yrG P m) n (z, 0, 0)).2.1 else (accN (yrG P m) n (z, 0, 0)).2.2) ∧ JM h P t.2) n (by omega) (0, g0)
    ⟨by show (0 : Int32) = if x3 = 0 then 0 else 0; split <;> rfl, hz, hJ⟩
    (fun fu i s hi hI => by
      obtain ⟨y, g⟩ := s
      obtain ⟨j1, j2, j3⟩ := hI
      change y = _ at j1
      change g.1 60 33 = _ at j2
      change JM h P g at j3
      have j4 : accN (yrG P m) (i + 1) (z, 0, 0) = yrG P m (accN (yrG P m) i (z, 0, 0)) i := rfl
      generalize accN (yrG P m) i (z, 0, 0) = A at j1 j2 j4
      obtain ⟨a, b, c⟩ := A
      obtain ⟨g1, b1, b2, b3, b4, b5⟩ := m_yrI (z := a) j3.1 c1 j2 j3.2.1
      obtain ⟨g2, d1, d2, d3⟩ := m_goDays (n := m) b1 (yrQ_wf c1) (by omega) (by omega)
      have d4 := m_allStock d2 (daysN_wf (yrQ_wf c1))
      have e1 : g2.1 60 9 = nI (nd (daysN m (yrQ P a (nV P)))) := d2.2.2.2.2.2.1
      obtain ⟨g3, s1, s2, s3⟩ := m_again (KA_m b2 d3)
      have e2 : g3.1 60 33 = sdN a (nV P) := by
        rw [s3.2.1 33 (by omega) (by omega) (by omega) (by omega) (by omega) (by omega) (by omega) (by omega) (by omega), d3.2.1 33 (by omega) (by omega) (by omega) (by omega) (by omega) (by omega)]; exact b4
      refine Or.inr ⟨(y + (if x3 = 0 then nI (stockN (daysN m (yrQ P a (nV P)))) else nI (nd (daysN m (yrQ P a (nV P)))) - nI (nd P)), g3), ?_, ?_, ?_, s2, KA_a (KA_m b2 d3) s3, ((j3.2.2.tr b3).tr d3.M).tr s3.M⟩
      · show zl_X11_years_50 (nI n) x3 h4 (fu + 1) y (nI i) g = zl_X11_years_50 (nI n) x3 h4 fu (y + (if x3 = 0 then nI (stockN (daysN m (yrQ P a (nV P)))) else nI (nd (daysN m (yrQ P a (nV P)))) - nI (nd P))) (nI (i + 1)) g3
        conv => lhs; unfold zl_X11_years_50
        rw [if_neg (by rw [zi_le (by omega) (by omega)]; omega), b5, zbs, hm, d1, zbs, d4, s1, e1, h4n]
        by_cases c : x3 = 0
        · rw [if_pos c, if_pos c]; simp only [zbs, zi_one]
        · rw [if_neg c, if_neg c]; simp only [zbs, zi_one]
      · rw [j4, j1]
        show _ = if x3 = 0 then b + nI (stockN (daysN m (yrQ P a (nV P)))) else c + (nI (nd (daysN m (yrQ P a (nV P)))) - nI (nd P))
        by_cases c : x3 = 0
        · simp only [if_pos c]
        · simp only [if_neg c]
      · rw [j4]; exact e2)
    (fun fu s hI => by
      obtain ⟨y, g⟩ := s
      refine ⟨(y, g), ?_, hI.1, hI.2.2⟩
      show zl_X11_years_50 (nI n) x3 h4 (fu + 1) y (nI n) g = _
      conv => lhs; unfold zl_X11_years_50
      rw [if_pos (by rw [zi_le (by omega) (by omega)]; omega)])
  obtain ⟨y, g⟩ := t
  obtain ⟨k1, k2⟩ := h2
  change y = _ at k1
  subst k1
  exact ⟨g, k2, h1⟩
theorem ok_years (x1 x2 x3 : Int32) : zOK (zf_X10_years x1 x2 x3) (zf_X11_years x1 x2 x3) := by
  refine zOK_ask2 (fun h h' P I S hC hM => ?_)
  obtain ⟨c1, c2, -, -, c5, c6⟩ := hC
  obtain ⟨t1, t2⟩ := m_thr hM.1
  unfold zf_X10_years zf_X11_years
  simp only [zbs]
  generalize zc_ui h' 60 17 0 = g at t1 t2
  have o1 : (1 : Int32).toInt = 1 := by decide
  have o2 : (20 : Int32).toInt = 20 := by decide
  rw [m_in32 x1 1 20 (by decide) (by decide)]
  simp only [zi_leT, zi_ltT, o1, o2, zi_T0]
  by_cases k1 : x1.toInt < 1
  · rw [if_pos k1, if_neg (show ¬ (1 ≤ x1.toInt ∧ x1.toInt ≤ 20) by omega)]
    exact ⟨_, _, _, rfl, zEC.rf, rfl, t1, t2⟩
  rw [if_neg k1]
  by_cases k2 : 20 < x1.toInt
  · rw [if_pos k2, if_neg (show ¬ (1 ≤ x1.toInt ∧ x1.toInt ≤ 20) by omega)]
    exact ⟨_, _, _, rfl, zEC.rf, rfl, t1, t2⟩
  rw [if_neg k2, if_pos (show (1 ≤ x1.toInt ∧ x1.toInt ≤ 20) by omega), m_in32 x3 0 1 (by decide) (by decide)]
  simp only [zbs, z10, if_false, zi_leT, o1, zi_T0]
  by_cases k3 : x3.toInt < 0
  · rw [if_pos k3, if_neg (show ¬ (0 ≤ x3.toInt ∧ x3.toInt ≤ 1) by omega)]
    exact ⟨_, _, _, rfl, zEC.rf, rfl, t1, t2⟩
  rw [if_neg k3]
  by_cases k4 : x3.toInt ≤ 1
  rotate_left
  · rw [if_neg k4, if_neg (show ¬ (0 ≤ x3.toInt ∧ x3.toInt ≤ 1) by omega)]
    exact ⟨_, _, _, rfl, zEC.rf, rfl, t1, t2⟩
  rw [if_pos k4, if_pos (show (0 ≤ x3.toInt ∧ x3.toInt ≤ 1) by omega)]
  simp only [zbs, z10, if_false]
  obtain ⟨n, hn, rfl⟩ := zi_nat (x := x1) (L := 20) (by omega) (by omega) (by omega)
  have t3 : RM (zc_ui g 60 33 x2) P := RM_u t1 (by omega)
  obtain ⟨k1', p1, p2, p3, p4⟩ := m_think t3
  have e33 : k1'.1 60 33 = x2 := by rw [p4.2.1 33 (by omega) (by omega) (by omega), zu_y]
  obtain ⟨g1, u1, u2⟩ := c_yrL (z := x2) (m := 12) (by decide) (by omega) c1 c2 hn
  obtain ⟨g2, v1, v2⟩ := m_yrL (h := h') (h4 := zc_ui g 60 33 x2) (x3 := x3) (m := 12) (by decide) (by omega) c1 ⟨p2, p3, (t2.tr (zEM.u (by unfold zK; omega) (by omega))).tr p4.M⟩ e33 t3.2.2.2.2.2.1 hn
  generalize accN (yrG P 12) n (x2, 0, 0) = A at u2 v2
  rw [u2, p1]
  simp only [zbs]
  rw [v2]
  simp only [zbs]
  by_cases c : x3 = 0
  · simp only [if_pos c]
    exact ⟨_, _, _, rfl, u1, rfl, v1.1, v1.2.2⟩
  · simp only [if_neg c]
    exact ⟨_, _, _, rfl, u1, rfl, v1.1, v1.2.2⟩

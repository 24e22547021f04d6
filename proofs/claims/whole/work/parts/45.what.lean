/-! whatIs -/
theorem RM_kf {h : zHp} {P : zP} {v k f : Nat} (hR : RM h P) : RM (zc_ui (zc_ui h 61 v (nI k)) 62 v (nI f)) (setKF P v k f) := by
  obtain ⟨r1, r2, r3, r4, r5, r6, r7⟩ := hR
  refine ⟨fun w hw => ?_, ?_, ?_, ?_, ?_, ?_, ?_⟩
  · obtain ⟨q1, q2, q3, q4, q5⟩ := r1 w hw
    refine ⟨?_, ?_, ?_, ?_, ?_⟩
    · rw [zu_i, if_neg (by omega), zu_i]
      show _ = nI (un (kd P) v k w)
      unfold un
      by_cases c : w = v
      · rw [if_pos ⟨rfl, c⟩, if_pos c]
      · rw [if_neg (by omega), if_neg c]; exact q1
    · rw [zu_i]
      show _ = nI (un (fg P) v f w)
      unfold un
      by_cases c : w = v
      · rw [if_pos ⟨rfl, c⟩, if_pos c]
      · rw [if_neg (by omega), if_neg c, zu_i, if_neg (by omega)]; exact q2
    · rw [zu_i, if_neg (by omega), zu_i, if_neg (by omega)]; exact q3
    · rw [zu_i, if_neg (by omega), zu_i, if_neg (by omega)]; exact q4
    · rw [zu_i, if_neg (by omega), zu_i, if_neg (by omega)]; exact q5
  · rw [zu_i, if_neg (by omega), zu_i, if_neg (by omega)]; exact r2
  · rw [zu_i, if_neg (by omega), zu_i, if_neg (by omega)]; exact r3
  · rw [zu_i, if_neg (by omega), zu_i, if_neg (by omega)]; exact r4
  · rw [zu_i, if_neg (by omega), zu_i, if_neg (by omega)]; exact r5
  · rw [zu_i, if_neg (by omega), zu_i, if_neg (by omega)]; exact r6
  · rw [zu_i, if_neg (by omega), zu_i, if_neg (by omega)]; exact r7
def wiQ (P : zP) (v : Nat) (z : Bool) (i : Nat) : zP := if z then setKF P v i (fg P v) else setKF P v (kd P v) i
def wiX (z : Bool) : Int32 := if z then 0 else 1
def wiN (z : Bool) : Nat := if z then 8 else 10
def wiP (P : zP) (S : zS) (d v : Nat) (z : Bool) (i : Nat) : Bool := okB (bad (vlV (wiQ P v z i) v) S d) (sL S d)
def wiG (p : Nat → Bool) (a : Int32) (i : Nat) : Int32 := a ||| (if p i then (1 : Int32) <<< (nI i &&& 31) else 0)
theorem wi_lim (z : Bool) : (if wiX z = 0 then some (8 : Int32) else some (10 : Int32)) = some (nI (wiN z)) := by cases z <;> decide
theorem wiQ_wf {P : zP} {D v i : Nat} {z : Bool} (h : zWF D P) (hv : v < 7) (hi : i < wiN z) : zWF D (wiQ P v z i) := by
  have w := h.1 v hv
  cases z
  · exact wf_kf h w.1 hi
  · exact wf_kf h hi w.2.1
theorem wiQ_V (P : zP) (v : Nat) (z : Bool) (i : Nat) : nV (wiQ P v z i) = nV P := by cases z <;> rfl
theorem c_whatL {h g : zHp} {P : zP} {S : zS} {d v : Nat} {z : Bool} (c1 : zWF 999 P) (c2 : RC h 16 P) (hW : zSW S) (hS : SC h S) (hd : d < 8) (hv : v < 7) (hJ : zEC h g) :
    ∃ g', zEC h g' ∧ zl_X10_whatIs_43 (nI d) (nI v) (wiX z) zFU 0 0 g = some (accN (wiG (wiP P S d v z)) (wiN z) 0, g') := by
  have hN : wiN z ≤ 10 := by cases z <;> decide
  obtain ⟨t, h1, h2⟩ := zl_inv0 (fun fu (s : Int32 × zHp) i => zl_X10_whatIs_43 (nI d) (nI v) (wiX z) fu s.1 i s.2) (fun i s => s.1 = accN (wiG (wiP P S d v z)) i 0 ∧ zEC h s.2) (fun t => t.1 = accN (wiG (wiP P S d v z)) (wiN z) 0 ∧ zEC h t.2) (wiN z) (by omega) (0, g)
    ⟨rfl, hJ⟩
    (fun fu i s hi hI => by
      obtain ⟨a, g⟩ := s
      obtain ⟨j1, j2⟩ := hI
      change a = _ at j1
      change zEC h g at j2
      have jr : RC g 16 P := RC_of c2 (fun a h1 h2 => j2.1 a (by omega))
      obtain ⟨g1, a1, a2, a3, a4⟩ := c_mind jr c1
      have w := c1.1 v hv
      have s1 : ∃ g2, ((if wiX z = 0 then (if zc_ix (nI v) 7 then ((zf_X7_dress 25 (nI v) (nI i) (g1.1 (16 + 2) (nI v).toNatClampNeg) g1).bind (fun r9 => some r9)) else none) else (if zc_ix (nI v) 7 then ((zf_X7_dress 25 (nI v) (g1.1 (16 + 1) (nI v).toNatClampNeg) (nI i) g1).bind (fun r11 => some r11)) else none)) : Option zHp) = some g2 ∧ RC g2 25 (wiQ P v z i) ∧ zE 25 g1 g2 := by
        simp only [if_pos (zi_ix hv (show 7 < 2000000000 by omega)), zi_clamp (show v < 2000000000 by omega), (a3.1 v hv).1, (a3.1 v hv).2.1]
        cases z
        · obtain ⟨g2, e1, e2, e3⟩ := c_dress hv w.1 hi a2
          exact ⟨g2, by rw [if_neg (by decide), e1, zbs], e2, e3⟩
        · obtain ⟨g2, e1, e2, e3⟩ := c_dress hv hi w.2.1 a2
          exact ⟨g2, by rw [if_pos (by decide), e1, zbs], e2, e3⟩
      obtain ⟨g2, p1, p2, p3⟩ := s1
      obtain ⟨g3, u1, u2⟩ := c_untrue (x2 := nI v) (val := vlV (wiQ P v z i) v) (wiQ_wf c1 hv hi) hW hS hd p2 ((j2.tr a4.C).tr p3.C) (fun k g hg => by
        rw [if_neg (nI_pos (by omega)), if_pos (zi_ix hv (by omega)), zi_clamp (by omega), (hg.1 v hv).2.2.2.2]; rfl)
      have hf := okB_fst (bad (vlV (wiQ P v z i) v) S d) (sL S d) (by have := (hW d hd).2.2.2.2; have : sL S d ≤ 100 := this; omega)
      refine Or.inr ⟨(wiG (wiP P S d v z) a i, g3), ?_, by show wiG _ a i = wiG _ (accN _ i 0) i; rw [j1], u1⟩
      show zl_X10_whatIs_43 (nI d) (nI v) (wiX z) (fu + 1) a (nI i) g = zl_X10_whatIs_43 (nI d) (nI v) (wiX z) fu (wiG (wiP P S d v z) a i) (nI (i + 1)) g3
      conv => lhs; unfold zl_X10_whatIs_43
      rw [wi_lim, zbs, if_neg (by rw [zi_le (by omega) (by omega)]; omega), a1, zbs, p1, zbs, if_pos (zi_ix hd (by omega)), zi_clamp (show d < 2000000000 by omega), show 43 + 1 + 2 * d = 44 + 2 * d from rfl, u2, zbs]
      simp only [zbs, zi_one]
      unfold wiG wiP
      by_cases c : okB (bad (vlV (wiQ P v z i) v) S d) (sL S d) = true
      · rw [if_pos (hf.mpr c), if_pos c]
      · rw [if_neg (fun q => c (hf.mp q)), if_neg c]; simp)
    (fun fu s hI => by
      obtain ⟨a, g⟩ := s
      refine ⟨(a, g), ?_, hI⟩
      show zl_X10_whatIs_43 (nI d) (nI v) (wiX z) (fu + 1) a (nI (wiN z)) g = _
      conv => lhs; unfold zl_X10_whatIs_43
      rw [wi_lim, zbs, if_pos (by rw [zi_le (by omega) (by omega)]; omega)])
  obtain ⟨a, g'⟩ := t
  obtain ⟨k1, k2⟩ := h2
  change a = _ at k1
  subst k1
  exact ⟨g', k2, h1⟩
theorem m_whatL {h g : zHp} {P : zP} {S : zS} {d v : Nat} {z : Bool} (c1 : zWF 999 P) (hW : zSW S) (hS : SM h S) (hd : d < 8) (hv : v < 7) (hJ : JM h P g) :
    ∃ g', JM h P g' ∧ zl_X11_whatIs_52 (nI d) (nI v) (wiX z) zFU 0 0 g = some (accN (wiG (wiP P S d v z)) (wiN z) 0, g') := by
  have hN : wiN z ≤ 10 := by cases z <;> decide
  obtain ⟨t, h1, h2⟩ := zl_inv0 (fun fu (s : Int32 × zHp) i => zl_X11_whatIs_52 (nI d) (nI v) (wiX z) fu s.1 i s.2) (fun i s => s.1 = accN (wiG (wiP P S d v z)) i 0 ∧ JM h P s.2) (fun t => t.1 = accN (wiG (wiP P S d v z)) (wiN z) 0 ∧ JM h P t.2) (wiN z) (by omega) (0, g)
    ⟨rfl, hJ⟩
    (fun fu i s hi hI => by
      obtain ⟨a, g⟩ := s
      obtain ⟨j1, j2⟩ := hI
      change a = _ at j1
      change JM h P g at j2
      have w := c1.1 v hv
      have q := j2.1.1 v hv
      have s1 : ∃ k f, ((if wiX z = 0 then some (nI i) else some (g.1 61 v)) : Option Int32) = some (nI k) ∧ ((if wiX z = (1 : Int32) then some (nI i) else some ((zc_ui g 61 v (nI k)).1 62 v)) : Option Int32) = some (nI f) ∧ setKF P v k f = wiQ P v z i := by
        cases z
        · refine ⟨kd P v, i, by rw [if_neg (by decide), q.1], by rw [if_pos (by decide)], rfl⟩
        · refine ⟨i, fg P v, by rw [if_pos (by decide)], by rw [if_neg (by decide), zu_i, if_neg (by omega), q.2.1], rfl⟩
      obtain ⟨k, f, p1, p2, p3⟩ := s1
      have b1 : RM (zc_ui (zc_ui g 61 v (nI k)) 62 v (nI f)) (wiQ P v z i) := by rw [← p3]; exact RM_kf j2.1
      have b2 : zEm g (zc_ui (zc_ui g 61 v (nI k)) 62 v (nI f)) := (zEm.ua (by omega)).tr (zEm.ua (by omega))
      have hv8 : ¬ nI v = 7 := by rw [show (7 : Int32) = nI 7 by decide, zi_eq (by omega) (by omega)]; omega
      obtain ⟨g3, u1, u2⟩ := m_isRow (h := h) (P := P) (x2 := nI v) (val := vlV (wiQ P v z i) v) (wiQ_wf c1 hv hi) hW hS hd b1 (KA_m j2.2.1 b2) (j2.2.2.tr b2.M) (fun k g _ hg => by
        rw [if_pos (nI_pos' (by omega)), if_neg hv8, if_pos (zi_ix hv (by omega)), zi_clamp (by omega), (hg.1 v hv).2.2.2.2]; rfl)
      refine Or.inr ⟨(wiG (wiP P S d v z) a i, g3), ?_, by show wiG _ a i = wiG _ (accN _ i 0) i; rw [j1], u1⟩
      show zl_X11_whatIs_52 (nI d) (nI v) (wiX z) (fu + 1) a (nI i) g = zl_X11_whatIs_52 (nI d) (nI v) (wiX z) fu (wiG (wiP P S d v z) a i) (nI (i + 1)) g3
      conv => lhs; unfold zl_X11_whatIs_52
      simp only [if_pos (zi_ix hv (show 7 < 2000000000 by omega)), zi_clamp (show v < 2000000000 by omega), zi_one]
      rw [wi_lim, zbs, if_neg (by rw [zi_le (by omega) (by omega)]; omega), p1, zbs, zbs, p2, zbs, zbs, u2, zbs]
      unfold wiG wiP
      cases okB (bad (vlV (wiQ P v z i) v) S d) (sL S d) <;> rfl)
    (fun fu s hI => by
      obtain ⟨a, g⟩ := s
      refine ⟨(a, g), ?_, hI⟩
      show zl_X11_whatIs_52 (nI d) (nI v) (wiX z) (fu + 1) a (nI (wiN z)) g = _
      conv => lhs; unfold zl_X11_whatIs_52
      rw [wi_lim, zbs, if_pos (by rw [zi_le (by omega) (by omega)]; omega)])
  obtain ⟨a, g'⟩ := t
  obtain ⟨k1, k2⟩ := h2
  change a = _ at k1
  subst k1
  exact ⟨g', k2, h1⟩
theorem ok_whatIs (x1 x2 x3 : Int32) : zOK (zf_X10_whatIs x1 x2 x3) (zf_X11_whatIs x1 x2 x3) := by
  refine zOK_ask2 (fun h h' P I S hC hM => ?_)
  obtain ⟨c1, c2, -, -, c5, c6⟩ := hC
  have h7 := c1.2.1
  obtain ⟨t1, t2⟩ := m_thr hM.1
  have t3 := m_thrS hM.2.2.2
  have nm : ¬ (0 : Int32) ≤ -1 := by decide
  unfold zf_X10_whatIs zf_X11_whatIs
  simp only [zbs]
  rcases zr x2 (N := nV P) (by omega) with hx | ⟨v, hv, rfl⟩
  · rw [c_isThere_out c2 hx, m_isOne_out t1 h7 hx]
    simp only [zbs, if_true, if_neg nm]
    exact ⟨_, _, _, rfl, zEC.rf, rfl, t1, t2⟩
  rw [c_isThere_in c2 c1 hv, m_isOne_in t1 h7 hv]
  simp only [zbs, z10, if_false]
  rcases zr x3 (N := 2) (by omega) with hx | ⟨w, hw, rfl⟩
  · rw [m_in_out (N := 2) (by omega) (by omega) (by decide) hx]
    simp only [zbs, if_true, if_neg nm]
    have h1 := zr_toInt (by omega) hx
    refine ⟨-1, h, _, ?_, zEC.rf, rfl, t1, t2⟩
    by_cases c : x3 < 0
    · rw [if_pos c]
    · rw [if_neg c, if_neg (fun q => by
        rw [Int32.le_iff_toInt_le] at q
        have : (1 : Int32).toInt = 1 := by decide
        rw [Int32.lt_iff_toInt_lt] at c
        simp only [Int32.toInt_zero] at c
        omega)]
  rw [m_in_in (N := 2) (by omega) hw (by decide), if_neg (nI_pos (by omega)), if_pos (by rw [zi_lit1, zi_le (by omega) (by omega)]; omega)]
  simp only [zbs, z10, if_false]
  obtain ⟨z, hz⟩ : ∃ z, nI w = wiX z := by
    have : w = 0 ∨ w = 1 := by omega
    rcases this with rfl | rfl
    · exact ⟨true, rfl⟩
    · exact ⟨false, rfl⟩
  rw [hz]
  rcases zr x1 (N := 8) (by omega) with hx | ⟨d, hd, rfl⟩
  · rw [c_ref_out hx, m_ref_out hx]
    exact ⟨_, _, _, rfl, zEC.rf, rfl, t1, t2⟩
  rw [c_ref_in c5 c6 hd, m_ref_in c5 t3 hd]
  simp only [zbs]
  by_cases k : (S d).1 = 2
  · rw [k, refI_2, if_pos rfl, if_pos (show (0 : Int32) ≤ 0 by decide)]
    obtain ⟨k1, p1, p2, p3, p4⟩ := m_think t1
    obtain ⟨g1, u1, u2⟩ := c_whatL (z := z) c1 c2 c5 c6 hd (show v < 7 by omega) zEC.rf
    obtain ⟨g2, v1, v2⟩ := m_whatL (h := h') (z := z) c1 c5 hM.2.2.2 hd (show v < 7 by omega) ⟨p2, p3, t2.tr p4.M⟩
    rw [u2, p1]
    simp only [zbs]
    rw [v2]
    exact ⟨_, _, _, rfl, u1, rfl, v1.1, v1.2.2⟩
  · have hn := refI_n (c5 d hd).1 k
    rw [if_neg (fun q => by rw [q] at hn; exact absurd hn (by decide)), if_neg (fun q => zi_nle.mp q hn)]
    exact ⟨_, _, _, rfl, zEC.rf, rfl, t1, t2⟩

theorem wf_tight {D : Nat} {P : zP} (h : zWF D P) : zWF (dy P) P := by
  obtain ⟨h1, h2, h3, h4, h5, h6, h7⟩ := h
  exact ⟨h1, h2, h3, h4, h5, h6, Nat.le_refl _⟩
theorem zi_litL (n : Nat) (h : (OfNat.ofNat n : Int32) = nI n := by decide) : (OfNat.ofNat n : Int32) = nI n := h
theorem ok_days (x1 : Int32) : zOK (zf_X10_days x1) (zf_X11_days x1) := by
  refine zOK_now (fun h h' P I S hC hM => ?_)
  obtain ⟨c1, c2, -⟩ := hC
  obtain ⟨t1, t2⟩ := m_thr hM.1
  have hdy : dy P ≤ 999 := c1.2.2.2.2.2.2
  unfold zf_X10_days zf_X11_days zf_X7_refuseDays
  simp only [Option.bind_some]
  have e1 : (1 : Int32).toInt = 1 := by decide
  have e60 : (60 : Int32).toInt = 60 := by decide
  rw [m_in32 x1 1 60 (by decide) (by decide)]
  by_cases hx : 1 ≤ x1 ∧ x1 ≤ 60
  · have hx' := hx
    rw [Int32.le_iff_toInt_le, Int32.le_iff_toInt_le, e1, e60] at hx'
    rcases zr x1 (N := 61) (by omega) with ho | ⟨n, hn, rfl⟩
    · have := zr_toInt (by omega) ho
      omega
    · have hn1 : 1 ≤ n := by rw [nI_toInt (by omega)] at hx'; omega
      rw [if_pos hx, if_neg (by rw [Int32.lt_iff_toInt_lt, e1]; omega), if_pos hx.2, t1.2.2.2.2.2.2, c2.2.2.2.2.2.2.2, nI_add, show (999 : Int32) = nI 999 by decide]
      simp only [Option.bind_some, z10, if_false]
      by_cases hd : dy P + n ≤ 999
      · have hle : nI (dy P + n) ≤ nI 999 := by rw [zi_le (by omega) (by omega)]; exact hd
        simp only [if_pos hle, if_true, Option.bind_some]
        obtain ⟨g1, a1, a2, a3⟩ := c_goDays c2 (wf_tight c1) (n := n) (by omega) (by omega)
        obtain ⟨g2, b1, b2, b3⟩ := m_goDays t1 (wf_tight c1) (n := n) (by omega) (by omega)
        have hW2 : zWF 999 (daysN n P) := zWF_mono (daysN_wf (wf_tight c1)) hd
        rw [a1, b1]
        simp only [Option.bind_some]
        rw [c_allStock a2 hW2, m_allStock b2 hW2]
        exact ⟨_, _, _, daysN n P, rfl, a2, a3, hW2, rfl, b2, t2.tr b3.M⟩
      · have hle : ¬ nI (dy P + n) ≤ nI 999 := by rw [zi_le (by omega) (by omega)]; exact hd
        simp only [if_neg hle, Option.bind_some]
        rw [if_neg (by decide)]
        exact ⟨_, _, _, P, rfl, c2, zE.rf, c1, rfl, t1, t2⟩
  · rw [if_neg hx]
    simp only [Option.bind_some, if_true]
    by_cases q1 : x1 < 1
    · rw [if_pos q1]
      simp only [Option.bind_some]
      rw [if_neg (by decide)]
      exact ⟨_, _, _, P, rfl, c2, zE.rf, c1, rfl, t1, t2⟩
    · rw [if_neg q1, if_neg]
      · simp only [Option.bind_some]
        rw [if_neg (by decide)]
        exact ⟨_, _, _, P, rfl, c2, zE.rf, c1, rfl, t1, t2⟩
      · intro q2
        apply hx
        refine ⟨?_, q2⟩
        rw [Int32.lt_iff_toInt_lt] at q1
        rw [Int32.le_iff_toInt_le]
        omega
/-- in mind: the class's province 25 becomes what is now -/
theorem c_mind {h : zHp} {P : zP} {D : Nat} (hR : RC h 16 P) (hW : zWF D P) : ∃ h2, zf_X7_become 25 16 h = some h2 ∧ RC h2 25 P ∧ RC h2 16 P ∧ zE 25 h h2 := by
  obtain ⟨h2, g1, g2, g3⟩ := c_become (p := 25) (x := 16) (by omega) (by omega) (by omega) hR hW.2.1
  exact ⟨h2, g1, g2, RC_of hR (fun a h1 h2 => g3.1 a (by omega)), g3⟩
/-- n days on in mind, on both sides -/
theorem c_on {h : zHp} {P : zP} {n : Nat} (hR : RC h 25 P) (hW : zWF 999 P) (hn : n ≤ 200) : ∃ h2, zf_X7_goDays 25 (nI n) h = some h2 ∧ RC h2 25 (daysN n P) ∧ zE 25 h h2 ∧ zWF 1999 (daysN n P) := by
  obtain ⟨h2, g1, g2, g3⟩ := c_goDays hR hW (n := n) (by omega) (by omega)
  exact ⟨h2, g1, g2, g3, zWF_mono (daysN_wf hW) (by omega)⟩
theorem m_on {h : zHp} {P : zP} {n : Nat} (hR : RM h P) (hW : zWF 999 P) (hn : n ≤ 200) : ∃ h2, zf_X11_goDays (nI n) h = some h2 ∧ RM h2 (daysN n P) ∧ zEm h h2 ∧ zWF 1999 (daysN n P) := by
  obtain ⟨h2, g1, g2, g3⟩ := m_goDays hR hW (n := n) (by omega) (by omega)
  exact ⟨h2, g1, g2, g3, zWF_mono (daysN_wf hW) (by omega)⟩
theorem KA_m {h h2 : zHp} {P : zP} (hA : KA h 75 P) (hE : zEm h h2) : KA h2 75 P := KA_of hA (hE.1 75 (by omega))
theorem KA_a {h h2 : zHp} {P : zP} (hA : KA h 75 P) (hE : zEa h h2) : KA h2 75 P := KA_of hA (hE.1 75 (by omega))
theorem ok_then (x1 x2 : Int32) : zOK (zf_X10_then x1 x2) (zf_X11_then x1 x2) := by
  refine zOK_ask2 (fun h h' P I S hC hM => ?_)
  obtain ⟨c1, c2, -⟩ := hC
  obtain ⟨t1, t2⟩ := m_thr hM.1
  unfold zf_X10_then zf_X11_then
  simp only [Option.bind_some]
  rcases zr x1 (N := 61) (by omega) with hx | ⟨n, hn, rfl⟩
  · rw [c_isDaysOn_out hx, m_in_out (N := 61) (by omega) (by omega) (by decide) hx]
    exact ⟨_, _, _, rfl, zEC.rf, rfl, t1, t2⟩
  · rw [c_isDaysOn_in hn, m_in_in (N := 61) (by omega) hn (by decide)]
    simp only [Option.bind_some, z10, if_false]
    rcases zr x2 (N := 4) (by omega) with hx | ⟨w, hw, rfl⟩
    · rw [m_in_out (N := 4) (by omega) (by omega) (by decide) hx]
      by_cases c : x2 < 0
      · rw [if_pos c]
        exact ⟨_, _, _, rfl, zEC.rf, rfl, t1, t2⟩
      · rw [if_neg c, if_neg]
        · exact ⟨_, _, _, rfl, zEC.rf, rfl, t1, t2⟩
        · have h1 := zr_toInt (by omega) hx
          rw [Int32.le_iff_toInt_le]
          rw [Int32.lt_iff_toInt_lt, Int32.toInt_zero] at c
          have : (3 : Int32).toInt = 3 := by decide
          omega
    · rw [m_in_in (N := 4) (by omega) hw (by decide), if_neg (nI_pos (by omega)), if_pos (by rw [show (3 : Int32) = nI 3 by decide, zi_le (by omega) (by omega)]; omega)]
      simp only [Option.bind_some, z10, if_false]
      obtain ⟨g1, a1, a2, a3, a4⟩ := c_mind c2 c1
      obtain ⟨g2, b1, b2, b3, b4⟩ := c_on a2 c1 (n := n) (by omega)
      obtain ⟨k1, p1, p2, p3, p4⟩ := m_think t1
      obtain ⟨k2, q1, q2, q3, q4⟩ := m_on p2 c1 (n := n) (by omega)
      obtain ⟨k3, s1, s2, s3⟩ := m_again (KA_m p3 q3)
      rw [a1, p1]
      simp only [Option.bind_some]
      rw [b1, q1]
      simp only [Option.bind_some]
      rw [s1, b2.2.2.2.1, b2.2.2.2.2.2.2.1, q2.2.2.1, q2.2.2.2.2.2.1, c_ableBits b2 b4 (by omega), c_allStock b2 b4, m_ableBits q2 q4 (by omega), m_allStock q2 q4]
      simp only [Option.bind_some]
      have fin : zEM h' k3 := ((t2.tr p4.M).tr q3.M).tr s3.M
      have fin2 : zEC h g2 := a4.C.tr b3.C
      match w, hw with
      | 0, _ => exact ⟨_, _, _, rfl, fin2, rfl, s2, fin⟩
      | 1, _ => exact ⟨_, _, _, rfl, fin2, rfl, s2, fin⟩
      | 2, _ => exact ⟨_, _, _, rfl, fin2, rfl, s2, fin⟩
      | 3, _ => exact ⟨_, _, _, rfl, fin2, rfl, s2, fin⟩
theorem ok_stockThen (x1 x2 : Int32) : zOK (zf_X10_stockThen x1 x2) (zf_X11_stockThen x1 x2) := by
  refine zOK_ask2 (fun h h' P I S hC hM => ?_)
  obtain ⟨c1, c2, -⟩ := hC
  have h7 := c1.2.1
  obtain ⟨t1, t2⟩ := m_thr hM.1
  unfold zf_X10_stockThen zf_X11_stockThen
  simp only [Option.bind_some]
  rcases zr x1 (N := nV P) (by omega) with hx | ⟨v, hv, rfl⟩
  · rw [c_isThere_out c2 hx, m_isOne_out t1 h7 hx]
    exact ⟨_, _, _, rfl, zEC.rf, rfl, t1, t2⟩
  · rw [c_isThere_in c2 c1 hv, m_isOne_in t1 h7 hv]
    simp only [Option.bind_some, z10, if_false]
    rcases zr x2 (N := 61) (by omega) with hx | ⟨n, hn, rfl⟩
    · rw [c_isDaysOn_out hx, m_in_out (N := 61) (by omega) (by omega) (by decide) hx]
      exact ⟨_, _, _, rfl, zEC.rf, rfl, t1, t2⟩
    · rw [c_isDaysOn_in hn, m_in_in (N := 61) (by omega) hn (by decide)]
      simp only [Option.bind_some, z10, if_false]
      obtain ⟨g1, a1, a2, a3, a4⟩ := c_mind c2 c1
      obtain ⟨g2, b1, b2, b3, b4⟩ := c_on a2 c1 (n := n) (by omega)
      obtain ⟨k1, p1, p2, p3, p4⟩ := m_think t1
      obtain ⟨k2, q1, q2, q3, q4⟩ := m_on p2 c1 (n := n) (by omega)
      obtain ⟨k3, s1, s2, s3⟩ := m_again (KA_m p3 q3)
      rw [a1, p1]
      simp only [Option.bind_some]
      rw [b1, q1]
      simp only [Option.bind_some]
      rw [s1]
      simp only [if_pos (zi_ix (show v < 7 by omega) (show 7 < 2000000000 by omega)), zi_clamp (show v < 2000000000 by omega), Option.bind_some]
      rw [(b2.1 v (by omega)).2.2.2.2, (q2.1 v (by omega)).2.2.2.2]
      exact ⟨_, _, _, rfl, a4.C.tr b3.C, rfl, s2, ((t2.tr p4.M).tr q3.M).tr s3.M⟩
theorem ok_way (x1 x2 : Int32) : zOKp (zf_X10_way x1 x2) (zf_X11_way x1 x2) := by
  refine zOKp_ask2 (fun h h' P I S hC hM => ?_)
  obtain ⟨c1, c2, -⟩ := hC
  have h7 := c1.2.1
  obtain ⟨t1, t2⟩ := m_thr hM.1
  unfold zf_X10_way zf_X11_way
  simp only [Option.bind_some]
  rcases zr x1 (N := nV P) (by omega) with hx | ⟨v, hv, rfl⟩
  · rw [c_isThere_out c2 hx, m_isOne_out t1 h7 hx]
    exact ⟨_, _, rfl, rfl, t1, t2⟩
  · rw [c_isThere_in c2 c1 hv, m_isOne_in t1 h7 hv]
    simp only [Option.bind_some, z10, if_false]
    rcases zr x2 (N := 12) (by omega) with hx | ⟨j, hj, rfl⟩
    · rw [c_isPlace_out hx, m_isPlace_out hx]
      exact ⟨_, _, rfl, rfl, t1, t2⟩
    · rw [c_isPlace_in hj, m_isPlace_in hj]
      simp only [Option.bind_some, z10, if_false]
      rw [c_wayTo c2 c1 (by omega) (by omega) hj, m_wayOf t1 c1 (by omega) (by omega) hj]
      exact ⟨_, _, rfl, rfl, t1, t2⟩
theorem ok_count (x1 : Int32) : zOKp (zf_X10_count x1) (zf_X11_count x1) := by
  refine zOKp_ask2 (fun h h' P I S hC hM => ?_)
  obtain ⟨c1, c2, -⟩ := hC
  obtain ⟨t1, t2⟩ := m_thr hM.1
  unfold zf_X10_count zf_X11_count
  simp only [Option.bind_some]
  rw [c_allStock c2 c1, m_allStock t1 c1, t1.2.1, t1.2.2.1, t1.2.2.2.1, t1.2.2.2.2.1, t1.2.2.2.2.2.1, t1.2.2.2.2.2.2, c2.2.2.1, c2.2.2.2.1, c2.2.2.2.2.1, c2.2.2.2.2.2.1, c2.2.2.2.2.2.2.1, c2.2.2.2.2.2.2.2]
  simp only [Option.bind_some]
  repeat' split
  all_goals exact ⟨_, _, rfl, rfl, t1, t2⟩
theorem ok_village (x1 x2 : Int32) : zOKp (zf_X10_village x1 x2) (zf_X11_village x1 x2) := by
  refine zOKp_ask2 (fun h h' P I S hC hM => ?_)
  obtain ⟨c1, c2, -⟩ := hC
  have h7 := c1.2.1
  obtain ⟨t1, t2⟩ := m_thr hM.1
  unfold zf_X10_village zf_X11_village
  simp only [Option.bind_some]
  rcases zr x1 (N := nV P) (by omega) with hx | ⟨v, hv, rfl⟩
  · rw [c_isThere_out c2 hx, m_isOne_out t1 h7 hx]
    exact ⟨_, _, rfl, rfl, t1, t2⟩
  · have hv7 : v < 7 := by omega
    have hb := c1.1 v hv7
    have hb2 := c1.1 (fr P v) hb.2.2.2.1
    rw [c_isThere_in c2 c1 hv, m_isOne_in t1 h7 hv, c_hasSource c2 c1 hv7, c_wayToSource c2 c1 (by omega) hv7, c_isAble c2 c1 (by omega) hv, m_isFetching t1 c1 hv7, m_isAble t1 c1 (by omega) hv7, m_goesOf t1 c1 hv7]
    obtain ⟨e1, e2, e3, e4, e5⟩ := c2.1 v hv7
    obtain ⟨f1, f2, f3, f4, f5⟩ := t1.1 v hv7
    have f9 := (t1.1 (fr P v) hb.2.2.2.1).2.2.1
    simp only [Option.bind_some, z10, if_false, if_pos (zi_ix hv7 (show 7 < 2000000000 by omega)), zi_clamp (show v < 2000000000 by omega), e1, e2, e3, e4, e5, (c2.2.1 v hv).1, f1, f2, f3, f4, f5, if_pos (zi_ix hb.2.2.2.1 (show 7 < 2000000000 by omega)), zi_clamp (show fr P v < 2000000000 by omega), f9, m_wayOf t1 c1 (show 999 < 10000 by omega) hv7 hb2.2.2.1]
    rcases zr x2 (N := 8) (by omega) with hx | ⟨w, hw, rfl⟩
    · rw [m_in_out (N := 8) (by omega) (by omega) (by decide) hx]
      have ne : ∀ j : Nat, j < 8 → ¬ x2 = nI j := by
        intro j hj e
        have h1 := zr_toInt (by omega) hx
        rw [e, nI_toInt (by omega)] at h1
        omega
      have n0 : ¬ x2 = 0 := ne 0 (by omega)
      have n1 : ¬ x2 = 1 := ne 1 (by omega)
      have n2 : ¬ x2 = 2 := ne 2 (by omega)
      have n3 : ¬ x2 = 3 := ne 3 (by omega)
      have n4 : ¬ x2 = 4 := ne 4 (by omega)
      have n5 : ¬ x2 = 5 := ne 5 (by omega)
      have n6 : ¬ x2 = 6 := ne 6 (by omega)
      have n7 : ¬ x2 = 7 := ne 7 (by omega)
      simp only [n0, n1, n2, n3, n4, n5, n6, n7, if_false, Option.bind_some, if_true]
      exact ⟨_, _, rfl, rfl, t1, t2⟩
    · rw [m_in_in (N := 8) (by omega) hw (by decide)]
      simp only [Option.bind_some, z10, if_false, zi_b0]
      match w, hw with
      | 0, _ => exact ⟨_, _, rfl, rfl, t1, t2⟩
      | 1, _ => exact ⟨_, _, rfl, rfl, t1, t2⟩
      | 2, _ => exact ⟨_, _, rfl, rfl, t1, t2⟩
      | 3, _ => exact ⟨_, _, rfl, rfl, t1, t2⟩
      | 4, _ => exact ⟨_, _, rfl, rfl, t1, t2⟩
      | 5, _ =>
        by_cases hf : fetchN P v = true
        · simp only [hf, if_true]
          exact ⟨_, _, rfl, rfl, t1, t2⟩
        · simp only [hf]
          exact ⟨_, _, rfl, rfl, t1, t2⟩
      | 6, _ =>
        by_cases hf : ableN P v = true
        · simp only [hf, if_true]
          exact ⟨_, _, rfl, rfl, t1, t2⟩
        · simp only [hf]
          exact ⟨_, _, rfl, rfl, t1, t2⟩
      | 7, _ => exact ⟨_, _, rfl, rfl, t1, t2⟩

/-! the best of some, the first that is best -/
def bestG (K : Int32 → Int32 → Prop) [∀ a b, Decidable (K a b)] (val : Nat → Int32) (s : Int32 × Int32) (i : Nat) : Int32 × Int32 := if K (val i) s.2 then s else (nI i, val i)
theorem best_loop {K : Int32 → Int32 → Prop} [∀ a b, Decidable (K a b)] (L : Nat → (Int32 × Int32 × zHp) → Int32 → Option (Int32 × zHp)) (N : Nat) (hN : N < 3000) (val : Nat → Int32) (J : zHp → Prop) (b0 m0 : Int32) (h : zHp) (h0 : J h)
    (hstep : ∀ fu i b m g, i < N → J g → ∃ g', J g' ∧ L (fu + 1) (b, m, g) (nI i) = if K (val i) m then L fu (b, m, g') (nI (i + 1)) else L fu (nI i, val i, g') (nI (i + 1)))
    (hend : ∀ fu b m g, J g → L (fu + 1) (b, m, g) (nI N) = some (b, g)) : ∃ g, J g ∧ L zFU (b0, m0, h) 0 = some ((accN (bestG K val) N (b0, m0)).1, g) := by
  obtain ⟨t, h1, h2⟩ := zl_inv0 L (fun i s => (s.1, s.2.1) = accN (bestG K val) i (b0, m0) ∧ J s.2.2) (fun t => t.1 = (accN (bestG K val) N (b0, m0)).1 ∧ J t.2) N hN (b0, m0, h) ⟨rfl, h0⟩
    (fun fu i s hi hI => by
      obtain ⟨b, m, g⟩ := s
      obtain ⟨e, hJ⟩ := hI
      obtain ⟨g', hJ', e2⟩ := hstep fu i b m g hi hJ
      right
      have e3 : accN (bestG K val) (i + 1) (b0, m0) = bestG K val (b, m) i := by show bestG K val (accN (bestG K val) i (b0, m0)) i = _; rw [← e]
      by_cases c : K (val i) m
      · rw [if_pos c] at e2
        exact ⟨(b, m, g'), e2, by rw [e3]; simp [bestG, c], hJ'⟩
      · rw [if_neg c] at e2
        exact ⟨(nI i, val i, g'), e2, by rw [e3]; simp [bestG, c], hJ'⟩)
    (fun fu s hI => by
      obtain ⟨b, m, g⟩ := s
      obtain ⟨e, hJ⟩ := hI
      exact ⟨_, hend fu b m g hJ, by rw [← e], hJ⟩)
  refine ⟨t.2, h2.2, ?_⟩
  rw [h1, ← h2.1]
/-- the class between its tries -/
def JC (h : zHp) (P : zP) (g : zHp) : Prop := RC g 16 P ∧ zEC h g
/-- the reference between its tries -/
def JM (h : zHp) (P : zP) (g : zHp) : Prop := RM g P ∧ KA g 75 P ∧ zEM h g
/-- one try of the class: in mind, changed, n days on -/
theorem c_try {h g : zHp} {P Q : zP} {n : Nat} (hW : zWF 999 P) (hJ : JC h P g) (hQ : zWF 999 Q) (hn : n ≤ 200) (f : zHp → zHp) (hf : ∀ g1, RC g1 25 P → RC (f g1) 25 Q ∧ zE 25 g1 (f g1)) :
    ∃ g1 g2, zf_X7_become 25 16 g = some g1 ∧ RC g1 25 P ∧ zf_X7_goDays 25 (nI n) (f g1) = some g2 ∧ RC g2 25 (daysN n Q) ∧ zWF 1999 (daysN n Q) ∧ JC h P g2 := by
  obtain ⟨g1, a1, a2, a3, a4⟩ := c_mind hJ.1 hW
  obtain ⟨b1, b2⟩ := hf g1 a2
  obtain ⟨g2, d1, d2, d3, d4⟩ := c_on b1 hQ hn
  have hE : zE 25 g g2 := (a4.tr b2).tr d3
  exact ⟨g1, g2, a1, a2, d1, d2, d4, RC_of hJ.1 (fun a h1 h2 => hE.1 a (by omega)), hJ.2.tr hE.C⟩
/-- one try of the reference: changed, n days on, put back -/
theorem m_try {h g : zHp} {P Q : zP} {n : Nat} (hJ : JM h P g) (hQ : zWF 999 Q) (hn : n ≤ 200) (f : zHp) (hf : RM f Q) (hE : zEm g f) :
    ∃ g2 g3, zf_X11_goDays (nI n) f = some g2 ∧ RM g2 (daysN n Q) ∧ zWF 1999 (daysN n Q) ∧ zf_X11_again g2 = some g3 ∧ JM h P g3 := by
  obtain ⟨g2, d1, d2, d3, d4⟩ := m_on hf hQ hn
  obtain ⟨g3, s1, s2, s3⟩ := m_again (KA_m (KA_m hJ.2.1 hE) d3)
  exact ⟨g2, g3, d1, d2, d4, s1, s2, KA_a (KA_m (KA_m hJ.2.1 hE) d3) s3, ((hJ.2.2.tr hE.M).tr d3.M).tr s3.M⟩
theorem RC_sp {h : zHp} {p : Nat} {P : zP} {x : Nat} (hR : RC h p P) : RC (zc_ui h p 11 (nI x)) p (setSun P x (hm P)) := by
  have h1 := RC_sun (a := x) (b := hm P) hR
  rwa [zu_same] at h1
  rw [zu_i, if_neg (by omega)]; exact hR.2.2.2.2.2.1
theorem RM_sp {h : zHp} {P : zP} {x : Nat} (hR : RM h P) : RM (zc_ui h 60 1 (nI x)) (setSun P x (hm P)) := by
  have h1 := RM_sun (a := x) (b := hm P) hR
  rwa [zu_same] at h1
  rw [zu_i, if_neg (by omega)]; exact hR.2.2.2.2.1
theorem zi_m1 : ((-1 : Int32) = 0) = False := eq_false (by decide)
theorem ok_sitFor (x1 : Int32) : zOK (zf_X10_sitFor x1) (zf_X11_sitFor x1) := by
  refine zOK_ask2 (fun h h' P I S hC hM => ?_)
  obtain ⟨c1, c2, -⟩ := hC
  obtain ⟨t1, t2⟩ := m_thr hM.1
  unfold zf_X10_sitFor zf_X11_sitFor
  simp only [Option.bind_some]
  rcases zr x1 (N := 61) (by omega) with hx | ⟨n, hn, rfl⟩
  · rw [c_isDaysOn_out hx, m_in_out (N := 61) (by omega) (by omega) (by decide) hx]
    exact ⟨_, _, _, rfl, zEC.rf, rfl, t1, t2⟩
  · rw [c_isDaysOn_in hn, m_in_in (N := 61) (by omega) hn (by decide)]
    simp only [Option.bind_some, z10, if_false]
    obtain ⟨k1, p1, p2, p3, p4⟩ := m_think t1
    obtain ⟨g1, u1, u2⟩ := best_loop (K := fun a b => a ≤ b) (fun fu s i => zl_X10_sitFor_16 (nI n) fu s.1 s.2.1 i s.2.2) 12 (by omega) (fun i => nI (stockN (daysN n (setCh P i (dy P))))) (JC h P) 0 (-1) h ⟨c2, zEC.rf⟩
      (fun fu i b m g hi hJ => by
        obtain ⟨q1, q2, a1, a2, a3, a4, a5, a6⟩ := c_try (n := n) c1 hJ (wf_ch (x := i) c1 hi) (by omega) (fun q => zc_ui q 25 10 (nI i)) (fun q hq => ⟨RC_ch hq, zE.ui ⟨by omega, by omega⟩⟩)
        refine ⟨q2, a6, ?_⟩
        show zl_X10_sitFor_16 (nI n) (fu + 1) b m (nI i) g = _
        conv => lhs; unfold zl_X10_sitFor_16
        rw [if_neg (by rw [zi_lit12, zi_le (by omega) (by omega)]; omega), a1]
        simp only [Option.bind_some]
        rw [a3]
        simp only [Option.bind_some]
        rw [c_allStock a4 a5]
        simp only [Option.bind_some, zi_one])
      (fun fu b m g hJ => by
        show zl_X10_sitFor_16 (nI n) (fu + 1) b m (nI 12) g = _
        conv => lhs; unfold zl_X10_sitFor_16
        rw [if_pos (by decide)])
    obtain ⟨g2, v1, v2⟩ := best_loop (K := fun a b => a ≤ b) (fun fu s i => zl_X11_sitFor_30 (nI n) fu s.1 s.2.1 i s.2.2) 12 (by omega) (fun i => nI (stockN (daysN n (setCh P i (dy P))))) (JM h' P) 0 (-1) k1 ⟨p2, p3, t2.tr p4.M⟩
      (fun fu i b m g hi hJ => by
        obtain ⟨q2, q3, a1, a2, a3, a4, a5⟩ := m_try (n := n) hJ (wf_ch (x := i) c1 hi) (by omega) (zc_ui g 60 0 (nI i)) (RM_ch hJ.1) (zEm.uf (by omega))
        refine ⟨q3, a5, ?_⟩
        show zl_X11_sitFor_30 (nI n) (fu + 1) b m (nI i) g = _
        conv => lhs; unfold zl_X11_sitFor_30
        rw [if_neg (by rw [zi_lit12, zi_le (by omega) (by omega)]; omega)]
        simp only [Option.bind_some]
        rw [a1]
        simp only [Option.bind_some]
        rw [m_allStock a2 a3]
        simp only [Option.bind_some]
        rw [a4]
        simp only [Option.bind_some, zi_one]
        by_cases c : nI (stockN (daysN n (setCh P i (dy P)))) ≤ m
        · simp [c]
        · simp [c])
      (fun fu b m g hJ => by
        show zl_X11_sitFor_30 (nI n) (fu + 1) b m (nI 12) g = _
        conv => lhs; unfold zl_X11_sitFor_30
        rw [if_pos (by decide)])
    rw [u2, p1]
    simp only [Option.bind_some]
    rw [v2]
    simp only [Option.bind_some]
    exact ⟨_, _, _, rfl, u1.2, rfl, v1.1, v1.2.2⟩
theorem ok_stepBest (x1 : Int32) : zOK (zf_X10_stepBest x1) (zf_X11_stepBest x1) := by
  refine zOK_ask2 (fun h h' P I S hC hM => ?_)
  obtain ⟨c1, c2, -⟩ := hC
  obtain ⟨t1, t2⟩ := m_thr hM.1
  unfold zf_X10_stepBest zf_X11_stepBest
  simp only [Option.bind_some]
  rcases zr x1 (N := 61) (by omega) with hx | ⟨n, hn, rfl⟩
  · rw [c_isDaysOn_out hx, m_in_out (N := 61) (by omega) (by omega) (by decide) hx]
    exact ⟨_, _, _, rfl, zEC.rf, rfl, t1, t2⟩
  · rw [c_isDaysOn_in hn, m_in_in (N := 61) (by omega) hn (by decide)]
    simp only [Option.bind_some, z10, if_false]
    obtain ⟨k1, p1, p2, p3, p4⟩ := m_think t1
    obtain ⟨g1, u1, u2⟩ := best_loop (K := fun a b => a ≤ b) (fun fu s i => zl_X10_stepBest_16 (nI n) fu s.1 s.2.1 i s.2.2) 6 (by omega) (fun i => nI (stockN (daysN n (setSun P i (hm P))))) (JC h P) 0 (-1) h ⟨c2, zEC.rf⟩
      (fun fu i b m g hi hJ => by
        obtain ⟨q1, q2, a1, a2, a3, a4, a5, a6⟩ := c_try (n := n) c1 hJ (wf_sun (a := i) c1 (by omega) c1.2.2.2.2.1) (by omega) (fun q => zc_ui q 25 11 (nI i)) (fun q hq => ⟨RC_sp hq, zE.ui ⟨by omega, by omega⟩⟩)
        refine ⟨q2, a6, ?_⟩
        show zl_X10_stepBest_16 (nI n) (fu + 1) b m (nI i) g = _
        conv => lhs; unfold zl_X10_stepBest_16
        rw [if_neg (by rw [show (5 : Int32) = nI 5 by decide, zi_lt (by omega) (by omega)]; omega), a1]
        simp only [Option.bind_some]
        rw [a3]
        simp only [Option.bind_some]
        rw [c_allStock a4 a5]
        simp only [Option.bind_some, zi_one])
      (fun fu b m g hJ => by
        show zl_X10_stepBest_16 (nI n) (fu + 1) b m (nI 6) g = _
        conv => lhs; unfold zl_X10_stepBest_16
        rw [if_pos (by decide)])
    obtain ⟨g2, v1, v2⟩ := best_loop (K := fun a b => a ≤ b) (fun fu s i => zl_X11_stepBest_30 (nI n) fu s.1 s.2.1 i s.2.2) 6 (by omega) (fun i => nI (stockN (daysN n (setSun P i (hm P))))) (JM h' P) 0 (-1) k1 ⟨p2, p3, t2.tr p4.M⟩
      (fun fu i b m g hi hJ => by
        obtain ⟨q2, q3, a1, a2, a3, a4, a5⟩ := m_try (n := n) hJ (wf_sun (a := i) c1 (by omega) c1.2.2.2.2.1) (by omega) (zc_ui g 60 1 (nI i)) (RM_sp hJ.1) (zEm.uf (by omega))
        refine ⟨q3, a5, ?_⟩
        show zl_X11_stepBest_30 (nI n) (fu + 1) b m (nI i) g = _
        conv => lhs; unfold zl_X11_stepBest_30
        rw [if_neg (by rw [show (6 : Int32) = nI 6 by decide, zi_le (by omega) (by omega)]; omega)]
        simp only [Option.bind_some]
        rw [a1]
        simp only [Option.bind_some]
        rw [m_allStock a2 a3]
        simp only [Option.bind_some]
        rw [a4]
        simp only [Option.bind_some, zi_one]
        by_cases c : nI (stockN (daysN n (setSun P i (hm P)))) ≤ m
        · simp [c]
        · simp [c])
      (fun fu b m g hJ => by
        show zl_X11_stepBest_30 (nI n) (fu + 1) b m (nI 6) g = _
        conv => lhs; unfold zl_X11_stepBest_30
        rw [if_pos (by decide)])
    rw [u2, p1]
    simp only [Option.bind_some]
    rw [v2]
    simp only [Option.bind_some]
    exact ⟨_, _, _, rfl, u1.2, rfl, v1.1, v1.2.2⟩

/-! whereSat -/
def chV (Q : zP) (i : Nat) : Int32 := nI (ch (daysN i Q))
theorem c_isSeenSo {h g : zHp} {P : zP} {S : zS} {d r s : Nat} (c1 : zWF 999 P) (hW : zSW S) (hS : SC h S) (hd : d < 8) (hr : r ≤ 5) (hs : s < 12) (hJ : JC h P g) :
    ∃ g', JC h P g' ∧ zf_X10_isSeenSo (44 + 2 * d) (nI r) (nI s) g = some (if okB (bad (chV (setSun P r s)) S d) (sL S d) then 1 else 0, g') := by
  have w : sL S d ≤ 100 := (hW d hd).2.2.2.2
  have cQ := wf_sun c1 hr hs
  have hch : ∀ n, ch (daysN n (setSun P r s)) = ch (movsN n (setSun P r s)) := fun n => (eqv_movs n _).2.2.2.2.2.1
  obtain ⟨g0, a1, a2, a3, a4⟩ := c_mind hJ.1 c1
  have b1 : RC (zc_ui (zc_ui g0 25 11 (nI r)) 25 12 (nI s)) 25 (setSun P r s) := RC_sun a2
  have b2 : zE 25 g0 (zc_ui (zc_ui g0 25 11 (nI r)) 25 12 (nI s)) := (zE.ui (by omega)).tr (zE.ui (by omega))
  have b3 : JC h P (zc_ui (zc_ui g0 25 11 (nI r)) 25 12 (nI s)) := ⟨RC_of hJ.1 (fun a h1 h2 => (a4.tr b2).1 a (by omega)), hJ.2.tr (a4.tr b2).C⟩
  generalize hgg : zc_ui (zc_ui g0 25 11 (nI r)) 25 12 (nI s) = g1 at b1 b2 b3
  generalize hQ : setSun P r s = Q at b1 cQ hch
  obtain ⟨t, h1, h2⟩ := zl_inv0 (fun fu s i => zl_X10_isSeenSo_30 (44 + 2 * d) fu i s) (fun i g => okB (bad (chV Q) S d) i = true ∧ RC g 25 (movsN i Q) ∧ JC h P g) (fun t => ∃ g', JC h P g' ∧ Sum.elim (fun r => some r) (fun v10 => some ((1 : Int32), v10)) t = some (if okB (bad (chV Q) S d) (sL S d) then 1 else 0, g')) (sL S d) (by omega) g1
    ⟨rfl, b1, b3⟩
    (fun fu i g hi hI => by
      obtain ⟨j1, j2, j3⟩ := hI
      have e := j3.2.S hS d hd
      have e4 : g.1 (44 + 2 * d) 4 = nI (sL S d) := e.2.2.2.1
      have e5 : g.1 (44 + 2 * d + 1) i = sV S d i := e.2.2.2.2 i (by omega)
      have e6 : g.1 25 10 = chV Q i := by rw [j2.2.2.2.1]; unfold chV; rw [hch]
      obtain ⟨g', b1, b2, b3⟩ := c_moveChair j2 (movsN_wf cQ) (by omega)
      have ok1 : okB (bad (chV Q) S d) (i + 1) = !bad (chV Q) S d i := by show (okB (bad (chV Q) S d) i && _) = _; rw [j1]; rfl
      have u : zl_X10_isSeenSo_30 (44 + 2 * d) (fu + 1) (nI i) g = if bad (chV Q) S d i = true then some (Sum.inl (0, g)) else zl_X10_isSeenSo_30 (44 + 2 * d) fu (nI (i + 1)) g' := by
        conv => lhs; unfold zl_X10_isSeenSo_30
        rw [e4, if_neg (by rw [zi_le (by omega) (by omega)]; omega), c_isSkipped hW (j3.2.S hS) hd (by omega), b1]
        simp only [zbs, zi_one, if_pos (zi_ix (show i < 100 by omega) (show 100 < 2000000000 by omega)), zi_clamp (show i < 2000000000 by omega), e5, e6]
        by_cases q : skN S d i = true
        · rw [bad_f1 q, q]; rfl
        · have q2 : skN S d i = false := by simpa using q
          rw [q2]
          simp only [Bool.false_eq_true, if_false, if_true]
          by_cases q3 : sV S d i = chV Q i
          · rw [bad_f2 q3, if_pos q3]; rfl
          · rw [bad_t q2 q3, if_neg q3]; rfl
      by_cases c : bad (chV Q) S d i = true
      · refine Or.inl ⟨.inl (0, g), by show zl_X10_isSeenSo_30 (44 + 2 * d) (fu + 1) (nI i) g = _; rw [u, if_pos c], g, j3, ?_⟩
        rw [okB_no (i := i + 1) (by rw [ok1, c]; rfl) (by omega)]; rfl
      · have c2 : bad (chV Q) S d i = false := by simpa using c
        refine Or.inr ⟨g', by show zl_X10_isSeenSo_30 (44 + 2 * d) (fu + 1) (nI i) g = _; rw [u, if_neg c], by rw [ok1, c2]; rfl, b2, RC_of j3.1 (fun a h1 h2 => b3.1 a (by omega)), j3.2.tr b3.C⟩)
    (fun fu g hI => by
      obtain ⟨j1, j2, j3⟩ := hI
      have e4 : g.1 (44 + 2 * d) 4 = nI (sL S d) := (j3.2.S hS d hd).2.2.2.1
      refine ⟨.inr g, ?_, g, j3, by rw [j1]; rfl⟩
      show zl_X10_isSeenSo_30 (44 + 2 * d) (fu + 1) (nI (sL S d)) g = _
      conv => lhs; unfold zl_X10_isSeenSo_30
      rw [e4, if_pos (by rw [zi_le (by omega) (by omega)]; omega)])
  obtain ⟨g', q1, q2⟩ := h2
  refine ⟨g', q1, ?_⟩
  unfold zf_X10_isSeenSo
  rw [a1]
  simp only [zbs]
  rw [hgg, show zl_X10_isSeenSo_30 (44 + 2 * d) zFU 0 g1 = some t from h1, zbs]
  exact q2
def wsVal (y : Nat) : Int32 := nI (100 * (y / 12) + y % 12)
def wsG (p : Nat → Bool) (st : Int32 × Int32 × Int32) (y : Nat) : Int32 × Int32 × Int32 := if p y then (st.1 + 1, if st.2.1 = -4 then wsVal y else st.2.1, wsVal y) else st
theorem nest_acc {σ : Type} (G : σ → Nat → σ) (s : σ) : accN (fun st r => accN (fun st q => G st (12 * r + q)) 12 st) 6 s = accN G 72 s := rfl
def wsP (P : zP) (S : zS) (d y : Nat) : Bool := okB (bad (chV (setSun P (y / 12) (y % 12))) S d) (sL S d)
theorem ws_d {y : Nat} (hy : y < 72) : nI y / (12 : Int32) = nI (y / 12) ∧ nI y - nI y / (12 : Int32) * (12 : Int32) = nI (y % 12) ∧ (100 : Int32) * nI (y / 12) + nI (y % 12) = wsVal y := by
  have key : ∀ y, y < 72 → nI y / (12 : Int32) = nI (y / 12) ∧ nI y - nI y / (12 : Int32) * (12 : Int32) = nI (y % 12) ∧ (100 : Int32) * nI (y / 12) + nI (y % 12) = nI (100 * (y / 12) + y % 12) := by decide +kernel
  exact key y hy
theorem c_whereL {h g : zHp} {P : zP} {S : zS} {d : Nat} (c1 : zWF 999 P) (hW : zSW S) (hS : SC h S) (hd : d < 8) (hJ : JC h P g) :
    ∃ g', JC h P g' ∧ zl_X10_whereSat_37 (nI d) zFU 0 (-4) (-4) 0 g = some ((accN (wsG (wsP P S d)) 72 (0, -4, -4)).1, (accN (wsG (wsP P S d)) 72 (0, -4, -4)).2.1, (accN (wsG (wsP P S d)) 72 (0, -4, -4)).2.2, g') := by
  obtain ⟨t, h1, h2⟩ := zl_inv0 (fun fu (s : Int32 × Int32 × Int32 × zHp) i => zl_X10_whereSat_37 (nI d) fu s.1 s.2.1 s.2.2.1 i s.2.2.2) (fun i s => (s.1, s.2.1, s.2.2.1) = accN (wsG (wsP P S d)) i (0, -4, -4) ∧ JC h P s.2.2.2) (fun t => (t.1, t.2.1, t.2.2.1) = accN (wsG (wsP P S d)) 72 (0, -4, -4) ∧ JC h P t.2.2.2) 72 (by omega) (0, -4, -4, g)
    ⟨rfl, hJ⟩
    (fun fu i s hi hI => by
      obtain ⟨a, b, c, g⟩ := s
      obtain ⟨j1, j2⟩ := hI
      change (a, b, c) = _ at j1
      obtain ⟨d1, d2, d3⟩ := ws_d hi
      obtain ⟨g', e1, e2⟩ := c_isSeenSo (r := i / 12) (s := i % 12) c1 hW hS hd (by omega) (by omega) j2
      have e3 : zf_X10_isSeenSo (44 + 2 * d) (nI (i / 12)) (nI (i % 12)) g = some (if wsP P S d i then 1 else 0, g') := e2
      refine Or.inr ⟨((wsG (wsP P S d) (a, b, c) i).1, (wsG (wsP P S d) (a, b, c) i).2.1, (wsG (wsP P S d) (a, b, c) i).2.2, g'), ?_, ?_, e1⟩
      · show zl_X10_whereSat_37 (nI d) (fu + 1) a b c (nI i) g = zl_X10_whereSat_37 (nI d) fu (wsG (wsP P S d) (a, b, c) i).1 (wsG (wsP P S d) (a, b, c) i).2.1 (wsG (wsP P S d) (a, b, c) i).2.2 (nI (i + 1)) g'
        conv => lhs; unfold zl_X10_whereSat_37
        rw [if_neg (by rw [show (72 : Int32) = nI 72 by decide, zi_le (by omega) (by omega)]; omega), d2, d1]
        simp only [zbs, if_pos (zi_ix hd (show 8 < 2000000000 by omega)), zi_clamp (show d < 2000000000 by omega), show 43 + 1 + 2 * d = 44 + 2 * d from rfl, d3, zi_one]
        rw [e3]
        simp only [zbs]
        unfold wsG
        cases wsP P S d i
        · simp only [Bool.false_eq_true, if_false, if_true]
        · simp only [if_true, z10, if_false]
          split <;> rfl
      · show wsG (wsP P S d) (a, b, c) i = wsG (wsP P S d) (accN (wsG (wsP P S d)) i (0, -4, -4)) i
        rw [← j1])
    (fun fu s hI => by
      obtain ⟨a, b, c, g⟩ := s
      refine ⟨(a, b, c, g), ?_, hI⟩
      show zl_X10_whereSat_37 (nI d) (fu + 1) a b c (nI 72) g = _
      conv => lhs; unfold zl_X10_whereSat_37
      rw [if_pos (by decide)])
  obtain ⟨a, b, c, g⟩ := t
  refine ⟨g, h2.2, ?_⟩
  rw [← h2.1]
  exact h1
def wsK (st : Int32 × Int32 × Int32) : Prop := st.2.1 = -4 ∨ 0 ≤ st.2.1
theorem wsK_G {p : Nat → Bool} {st : Int32 × Int32 × Int32} {y : Nat} (hy : y < 72) (h : wsK st) : wsK (wsG p st y) := by
  unfold wsG
  split
  · unfold wsK
    show (if st.2.1 = -4 then wsVal y else st.2.1) = -4 ∨ 0 ≤ (if st.2.1 = -4 then wsVal y else st.2.1)
    split
    · exact Or.inr (nI_pos' (by omega))
    · exact h
  · exact h
theorem m_whereI {h g : zHp} {P : zP} {S : zS} {d r : Nat} (st : Int32 × Int32 × Int32) (c1 : zWF 999 P) (hW : zSW S) (hS : SM h S) (hd : d < 8) (hr : r < 6) (hJ : JM h P g) (hst : wsK st) :
    ∃ g', JM h P g' ∧ wsK (accN (fun st q => wsG (wsP P S d) st (12 * r + q)) 12 st) ∧ zl_X11_whereSat_61 (nI d) (nI r) zFU st.1 st.2.1 st.2.2 0 g = some ((accN (fun st q => wsG (wsP P S d) st (12 * r + q)) 12 st).1, (accN (fun st q => wsG (wsP P S d) st (12 * r + q)) 12 st).2.1, (accN (fun st q => wsG (wsP P S d) st (12 * r + q)) 12 st).2.2, g') := by
  generalize hG : (fun st q => wsG (wsP P S d) st (12 * r + q)) = G
  have hG' : ∀ st q, G st q = wsG (wsP P S d) st (12 * r + q) := fun st q => by rw [← hG]
  obtain ⟨t, h1, h2⟩ := zl_inv0 (fun fu (s : Int32 × Int32 × Int32 × zHp) i => zl_X11_whereSat_61 (nI d) (nI r) fu s.1 s.2.1 s.2.2.1 i s.2.2.2) (fun i s => (s.1, s.2.1, s.2.2.1) = accN G i st ∧ wsK (s.1, s.2.1, s.2.2.1) ∧ JM h P s.2.2.2) (fun t => (t.1, t.2.1, t.2.2.1) = accN G 12 st ∧ wsK (t.1, t.2.1, t.2.2.1) ∧ JM h P t.2.2.2) 12 (by omega) (st.1, st.2.1, st.2.2, g)
    ⟨rfl, hst, hJ⟩
    (fun fu i s hi hI => by
      obtain ⟨a, b, c, g⟩ := s
      obtain ⟨j1, j2, j3⟩ := hI
      change (a, b, c) = _ at j1
      change wsK (a, b, c) at j2
      obtain ⟨d1, d2, d3⟩ := ws_d (y := 12 * r + i) (by omega)
      have q1 : (12 * r + i) / 12 = r := by omega
      have q2 : (12 * r + i) % 12 = i := by omega
      rw [q1, q2] at d3
      have b1 : RM (zc_ui (zc_ui g 60 1 (nI r)) 60 2 (nI i)) (setSun P r i) := RM_sun j3.1
      have b2 : zEm g (zc_ui (zc_ui g 60 1 (nI r)) 60 2 (nI i)) := (zEm.uf (by omega)).tr (zEm.uf (by omega))
      obtain ⟨g', e1, e2⟩ := m_isRow (h := h) (P := P) (x2 := -1) (val := chV (setSun P r i)) (wf_sun c1 (show r ≤ 5 by omega) hi) hW hS hd b1 (KA_m j3.2.1 b2) (j3.2.2.tr b2.M) (fun k g _ hg => by
        rw [if_neg (by decide), hg.2.2.1]; rfl)
      have e3 : zf_X11_isRow (nI d) (-1) (zc_ui (zc_ui g 60 1 (nI r)) 60 2 (nI i)) = some (if wsP P S d (12 * r + i) then 1 else 0, g') := by
        rw [e2]; unfold wsP; rw [q1, q2]
      refine Or.inr ⟨((wsG (wsP P S d) (a, b, c) (12 * r + i)).1, (wsG (wsP P S d) (a, b, c) (12 * r + i)).2.1, (wsG (wsP P S d) (a, b, c) (12 * r + i)).2.2, g'), ?_, ?_, wsK_G (by omega) j2, e1⟩
      · show zl_X11_whereSat_61 (nI d) (nI r) (fu + 1) a b c (nI i) g = zl_X11_whereSat_61 (nI d) (nI r) fu (wsG (wsP P S d) (a, b, c) (12 * r + i)).1 (wsG (wsP P S d) (a, b, c) (12 * r + i)).2.1 (wsG (wsP P S d) (a, b, c) (12 * r + i)).2.2 (nI (i + 1)) g'
        conv => lhs; unfold zl_X11_whereSat_61
        rw [if_neg (by rw [show (12 : Int32) = nI 12 by decide, zi_le (by omega) (by omega)]; omega), d3]
        simp only [zbs, zi_one]
        rw [e3]
        simp only [zbs]
        unfold wsG
        cases wsP P S d (12 * r + i)
        · simp only [Bool.false_eq_true, if_false, if_true]
        · simp only [if_true, z10, if_false]
          rcases j2 with k | k
          · change b = -4 at k
            subst k
            rw [if_neg (by decide), if_pos rfl, zbs]
          · change 0 ≤ b at k
            rw [if_pos k, if_neg (fun q => by rw [q] at k; exact absurd k (by decide)), zbs]
      · show wsG (wsP P S d) (a, b, c) (12 * r + i) = G (accN G i st) i
        rw [← j1, hG'])
    (fun fu s hI => by
      obtain ⟨a, b, c, g⟩ := s
      refine ⟨(a, b, c, g), ?_, hI⟩
      show zl_X11_whereSat_61 (nI d) (nI r) (fu + 1) a b c (nI 12) g = _
      conv => lhs; unfold zl_X11_whereSat_61
      rw [if_pos (by decide)])
  obtain ⟨a, b, c, g⟩ := t
  obtain ⟨k1, k2, k3⟩ := h2
  change (a, b, c) = _ at k1
  change wsK (a, b, c) at k2
  rw [← k1]
  exact ⟨g, k3, k2, h1⟩
theorem m_whereL {h g : zHp} {P : zP} {S : zS} {d : Nat} (c1 : zWF 999 P) (hW : zSW S) (hS : SM h S) (hd : d < 8) (hJ : JM h P g) :
    ∃ g', JM h P g' ∧ zl_X11_whereSat_51 (nI d) zFU 0 (-4) (-4) 0 g = some ((accN (wsG (wsP P S d)) 72 (0, -4, -4)).1, (accN (wsG (wsP P S d)) 72 (0, -4, -4)).2.1, (accN (wsG (wsP P S d)) 72 (0, -4, -4)).2.2, g') := by
  rw [← nest_acc]
  generalize hG : (fun st r => accN (fun st q => wsG (wsP P S d) st (12 * r + q)) 12 st) = G
  have hG' : ∀ st r, G st r = accN (fun st q => wsG (wsP P S d) st (12 * r + q)) 12 st := fun st r => by rw [← hG]
  obtain ⟨t, h1, h2⟩ := zl_inv0 (fun fu (s : Int32 × Int32 × Int32 × zHp) i => zl_X11_whereSat_51 (nI d) fu s.1 s.2.1 s.2.2.1 i s.2.2.2) (fun i s => (s.1, s.2.1, s.2.2.1) = accN G i (0, -4, -4) ∧ wsK (s.1, s.2.1, s.2.2.1) ∧ JM h P s.2.2.2) (fun t => (t.1, t.2.1, t.2.2.1) = accN G 6 (0, -4, -4) ∧ JM h P t.2.2.2) 6 (by omega) (0, -4, -4, g)
    ⟨rfl, Or.inl rfl, hJ⟩
    (fun fu i s hi hI => by
      obtain ⟨a, b, c, g⟩ := s
      obtain ⟨j1, j2, j3⟩ := hI
      change (a, b, c) = _ at j1
      change wsK (a, b, c) at j2
      obtain ⟨g', e1, e2, e3⟩ := m_whereI (a, b, c) c1 hW hS hd hi j3 j2
      rw [← hG'] at e2 e3
      refine Or.inr ⟨((G (a, b, c) i).1, (G (a, b, c) i).2.1, (G (a, b, c) i).2.2, g'), ?_, ?_, e2, e1⟩
      · show zl_X11_whereSat_51 (nI d) (fu + 1) a b c (nI i) g = zl_X11_whereSat_51 (nI d) fu (G (a, b, c) i).1 (G (a, b, c) i).2.1 (G (a, b, c) i).2.2 (nI (i + 1)) g'
        conv => lhs; unfold zl_X11_whereSat_51
        rw [if_neg (by rw [show (6 : Int32) = nI 6 by decide, zi_le (by omega) (by omega)]; omega), show zl_X11_whereSat_61 (nI d) (nI i) zFU a b c 0 g = _ from e3]
        simp only [zbs, zi_one]
      · show G (a, b, c) i = G (accN G i (0, -4, -4)) i
        rw [← j1])
    (fun fu s hI => by
      obtain ⟨a, b, c, g⟩ := s
      refine ⟨(a, b, c, g), ?_, hI.1, hI.2.2⟩
      show zl_X11_whereSat_51 (nI d) (fu + 1) a b c (nI 6) g = _
      conv => lhs; unfold zl_X11_whereSat_51
      rw [if_pos (by decide)])
  obtain ⟨a, b, c, g⟩ := t
  refine ⟨g, h2.2, ?_⟩
  rw [← h2.1]
  exact h1
theorem ok_whereSat (x1 x2 : Int32) : zOK (zf_X10_whereSat x1 x2) (zf_X11_whereSat x1 x2) := by
  refine zOK_ask2 (fun h h' P I S hC hM => ?_)
  obtain ⟨c1, c2, -, -, c5, c6⟩ := hC
  obtain ⟨t1, t2⟩ := m_thr hM.1
  have t3 := m_thrS hM.2.2.2
  unfold zf_X10_whereSat zf_X11_whereSat
  simp only [zbs]
  rcases zr x2 (N := 3) (by omega) with hx | ⟨w, hw, rfl⟩
  · rw [m_in_out (N := 3) (by omega) (by omega) (by decide) hx]
    simp only [zbs, if_true, if_neg (show ¬ (0 : Int32) ≤ -1 by decide)]
    have h1 := zr_toInt (by omega) hx
    refine ⟨-1, h, _, ?_, zEC.rf, rfl, t1, t2⟩
    by_cases c : x2 < 0
    · rw [if_pos c]
    · rw [if_neg c, if_neg (fun q => by
        rw [Int32.le_iff_toInt_le] at q
        have : (2 : Int32).toInt = 2 := by decide
        rw [Int32.lt_iff_toInt_lt] at c
        simp only [Int32.toInt_zero] at c
        omega)]
  rw [m_in_in (N := 3) (by omega) hw (by decide), if_neg (nI_pos (by omega)), if_pos (by rw [show (2 : Int32) = nI 2 by decide, zi_le (by omega) (by omega)]; omega)]
  simp only [zbs, z10, if_false]
  rcases zr x1 (N := 8) (by omega) with hx | ⟨d, hd, rfl⟩
  · rw [c_ref_out hx, m_ref_out hx]
    exact ⟨_, _, _, rfl, zEC.rf, rfl, t1, t2⟩
  rw [c_ref_in c5 c6 hd, m_ref_in c5 t3 hd]
  simp only [zbs]
  by_cases k : (S d).1 = 2
  · rw [k, refI_2, if_pos rfl, if_pos (show (0 : Int32) ≤ 0 by decide)]
    obtain ⟨k1, p1, p2, p3, p4⟩ := m_think t1
    obtain ⟨g1, u1, u2⟩ := c_whereL (h := h) c1 c5 c6 hd ⟨c2, zEC.rf⟩
    obtain ⟨g2, v1, v2⟩ := m_whereL (h := h') c1 c5 hM.2.2.2 hd ⟨p2, p3, t2.tr p4.M⟩
    rw [u2, p1]
    simp only [zbs]
    rw [v2]
    simp only [zbs]
    by_cases w0 : nI w = 0
    · rw [if_pos w0, if_pos w0]
      exact ⟨_, _, _, rfl, u1.2, rfl, v1.1, v1.2.2⟩
    · rw [if_neg w0, if_neg w0]
      by_cases w1 : nI w = 1
      · rw [if_pos w1, if_pos w1]
        exact ⟨_, _, _, rfl, u1.2, rfl, v1.1, v1.2.2⟩
      · rw [if_neg w1, if_neg w1]
        exact ⟨_, _, _, rfl, u1.2, rfl, v1.1, v1.2.2⟩
  · have hn := refI_n (c5 d hd).1 k
    rw [if_neg (fun q => by rw [q] at hn; exact absurd hn (by decide)), if_neg (fun q => zi_nle.mp q hn)]
    exact ⟨_, _, _, rfl, zEC.rf, rfl, t1, t2⟩

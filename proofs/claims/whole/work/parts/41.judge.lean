/-! a row held against the days -/
def bad (val : Nat → Int32) (S : zS) (d i : Nat) : Bool := !skN S d i && decide (sV S d i ≠ val i)
def okB (p : Nat → Bool) : Nat → Bool
  | 0 => true
  | n + 1 => okB p n && !p n
theorem okB_no {p : Nat → Bool} {i : Nat} (h : okB p i = false) : ∀ {n}, i ≤ n → okB p n = false
  | 0, hn => by rw [show i = 0 by omega] at h; exact h
  | n + 1, hn => by
    by_cases c : i = n + 1
    · rw [← c]; exact h
    · unfold okB; rw [okB_no h (n := n) (by omega)]; rfl
theorem okB_fst (p : Nat → Bool) : ∀ n, n < 2000000000 → (fstI p n = -4 ↔ okB p n = true) := by
  intro n hn
  rcases fst_cases p n with ⟨e, h⟩ | ⟨i, h1, h2, h3⟩
  · refine ⟨fun _ => ?_, fun _ => e⟩
    have : ∀ m, m ≤ n → okB p m = true := by
      intro m
      induction m with
      | zero => intro _; rfl
      | succ m ih => intro hm; unfold okB; rw [ih (by omega), h m (by omega)]; rfl
    exact this n (Nat.le_refl n)
  · have e := fst_at h3 h2 (by omega) h1
    have b : okB p n = false := okB_no (i := i + 1) (by unfold okB; rw [h2]; simp) (by omega)
    rw [e, b]
    refine ⟨fun q => ?_, fun q => absurd q (by decide)⟩
    exact absurd q (fun q => by
      have h := nI_pos (n := i) (by omega)
      rw [q] at h
      exact h (by decide))
theorem bad_t {val : Nat → Int32} {S : zS} {d i : Nat} (h1 : skN S d i = false) (h2 : ¬ sV S d i = val i) : bad val S d i = true := by simp [bad, h1, h2]
theorem bad_f1 {val : Nat → Int32} {S : zS} {d i : Nat} (h1 : skN S d i = true) : bad val S d i = false := by simp [bad, h1]
theorem bad_f2 {val : Nat → Int32} {S : zS} {d i : Nat} (h2 : sV S d i = val i) : bad val S d i = false := by simp [bad, h2]
theorem c_untrue {h g0 : zHp} {P : zP} {S : zS} {d : Nat} {x2 : Int32} {val : Nat → Int32} (c1 : zWF 999 P) (hW : zSW S) (hS : SC h S) (hd : d < 8) (a2 : RC g0 25 P) (a4 : zEC h g0)
    (hval : ∀ i g, RC g 25 (daysN i P) → ((if x2 < 0 then ((zf_X7_allStock 25 g).bind (fun r3 => some r3)) else (if zc_ix x2 7 then some (g.1 (25 + 5) x2.toNatClampNeg) else none)) : Option Int32) = some (val i)) :
    ∃ g, zEC h g ∧ zf_X10_firstUntrueStock (44 + 2 * d) x2 g0 = some (fstI (bad val S d) (sL S d), g) := by
  have w : sL S d ≤ 100 := (hW d hd).2.2.2.2
  obtain ⟨g1, i1, u1, u2⟩ := fst_loopC (fun fu s i => zl_X10_firstUntrueStock_2 (44 + 2 * d) x2 fu i s) (bad val S d) (sL S d) (by omega) (fun i g => RC g 25 (daysN i P) ∧ zEC h g) 0 (by omega) (fun j hj => absurd hj (by omega)) g0 ⟨a2, a4⟩
    (fun fu i g hi hJ hp => by
      have e := hJ.2.S hS d hd
      have e4 : g.1 (44 + 2 * d) 4 = nI (sL S d) := e.2.2.2.1
      have k1 : skN S d i = false := by
        by_cases q : skN S d i = true
        · rw [bad_f1 q] at hp; exact absurd hp (by decide)
        · simpa using q
      have k2 : ¬ sV S d i = val i := fun q => by rw [bad_f2 q] at hp; exact absurd hp (by decide)
      refine ⟨g, ?_, i, hJ⟩
      show zl_X10_firstUntrueStock_2 (44 + 2 * d) x2 (fu + 1) (nI i) g = _
      conv => lhs; unfold zl_X10_firstUntrueStock_2
      rw [e4, if_neg (by rw [zi_le (by omega) (by omega)]; omega), hval i g hJ.1, c_isSkipped hW (hJ.2.S hS) hd (by omega), k1]
      simp only [zbs, Bool.false_eq_true, if_false, if_true, if_pos (zi_ix (show i < 100 by omega) (show 100 < 2000000000 by omega)), zi_clamp (show i < 2000000000 by omega), e.2.2.2.2 i (by omega)]
      rw [if_neg k2]
      rfl)
    (fun fu i g hi hJ hp => by
      have e := hJ.2.S hS d hd
      have e4 : g.1 (44 + 2 * d) 4 = nI (sL S d) := e.2.2.2.1
      obtain ⟨g', b1, b2, b3⟩ := c_goDays (n := 1) hJ.1 (daysN_wf (n := i) c1) (by omega) (by omega)
      refine ⟨g', ?_, b2, hJ.2.tr b3.C⟩
      show zl_X10_firstUntrueStock_2 (44 + 2 * d) x2 (fu + 1) (nI i) g = zl_X10_firstUntrueStock_2 (44 + 2 * d) x2 fu (nI (i + 1)) g'
      conv => lhs; unfold zl_X10_firstUntrueStock_2
      rw [e4, if_neg (by rw [zi_le (by omega) (by omega)]; omega), hval i g hJ.1, c_isSkipped hW (hJ.2.S hS) hd (by omega), show zf_X7_goDays 25 1 g = some g' from b1]
      simp only [zbs, zi_one]
      by_cases q : skN S d i = true
      · rw [q, if_pos rfl, if_neg (by decide)]; rfl
      · have q2 : skN S d i = false := by simpa using q
        have k2 : sV S d i = val i := by
          by_cases q3 : sV S d i = val i
          · exact q3
          · rw [bad_t q2 q3] at hp; exact absurd hp (by decide)
        simp only [q2, Bool.false_eq_true, if_false, if_true, if_pos (zi_ix (show i < 100 by omega) (show 100 < 2000000000 by omega)), zi_clamp (show i < 2000000000 by omega), e.2.2.2.2 i (by omega)]
        rw [if_pos k2]
        rfl)
    (fun fu g hJ => by
      have e4 : g.1 (44 + 2 * d) 4 = nI (sL S d) := (hJ.2.S hS d hd).2.2.2.1
      show zl_X10_firstUntrueStock_2 (44 + 2 * d) x2 (fu + 1) (nI (sL S d)) g = _
      conv => lhs; unfold zl_X10_firstUntrueStock_2
      rw [e4, if_pos (by rw [zi_le (by omega) (by omega)]; omega)])
  refine ⟨g1, u1.2, ?_⟩
  unfold zf_X10_firstUntrueStock
  rw [zi_lit0]
  exact u2
theorem m_isRow {h g0 : zHp} {P Q : zP} {S : zS} {d : Nat} {x2 : Int32} {val : Nat → Int32} (c1 : zWF 999 Q) (hW : zSW S) (hS : SM h S) (hd : d < 8) (a2 : RM g0 Q) (a3 : KA g0 75 P) (a4 : zEM h g0)
    (hval : ∀ i g, i ≤ 100 → RM g (daysN i Q) → ((if 0 ≤ x2 then (if x2 = (7 : Int32) then ((zf_X11_allStock g).bind (fun r5 => some r5)) else (if zc_ix x2 7 then some (g.1 65 x2.toNatClampNeg) else none)) else some (g.1 60 0)) : Option Int32) = some (val i)) :
    ∃ g, JM h P g ∧ zf_X11_isRow (nI d) x2 g0 = some (if okB (bad val S d) (sL S d) then 1 else 0, g) := by
  have w : sL S d ≤ 100 := (hW d hd).2.2.2.2
  obtain ⟨t, h1, h2⟩ := zl_inv0 (fun fu (s : Int32 × zHp) i => zl_X11_isRow_5 (nI d) x2 fu s.1 i s.2) (fun i s => s.1 = (if okB (bad val S d) i then 1 else 0) ∧ RM s.2 (daysN i Q) ∧ KA s.2 75 P ∧ zEM h s.2) (fun t => t.1 = (if okB (bad val S d) (sL S d) then 1 else 0) ∧ KA t.2 75 P ∧ zEM h t.2) (sL S d) (by omega) (1, g0)
    ⟨rfl, a2, a3, a4⟩
    (fun fu i s hi hI => by
      obtain ⟨f, g⟩ := s
      obtain ⟨j1, j2, j3, j4⟩ := hI
      have e := j4.S hS d hd
      have e4 : g.1 70 d = nI (sL S d) := e.2.2.2.1
      obtain ⟨r1, r2⟩ := row_ix hd (show i < 100 by omega)
      have e5 : g.2 71 (100 * d + i) = (sV S d i).toInt64 := e.2.2.2.2 i (by omega)
      change f = _ at j1
      by_cases c : okB (bad val S d) i = true
      · rw [c, if_pos rfl] at j1
        subst j1
        obtain ⟨g', b1, b2, b3⟩ := m_dayBy j2 (daysN_wf c1) (by omega) false
        have b1' : zf_X11_dayBy 0 g = some g' := b1
        refine Or.inr ⟨(if okB (bad val S d) (i + 1) then 1 else 0, g'), ?_, rfl, b2, KA_m j3 b3, j4.tr b3.M⟩
        show zl_X11_isRow_5 (nI d) x2 (fu + 1) 1 (nI i) g = zl_X11_isRow_5 (nI d) x2 fu (if okB (bad val S d) (i + 1) then 1 else 0) (nI (i + 1)) g'
        conv => lhs; unfold zl_X11_isRow_5
        rw [hval i g (by omega) j2, m_isSkipped hW (j4.S hS) hd (by omega), b1', r1]
        simp only [zi_clamp (show d < 2000000000 by omega), if_pos (zi_ix hd (show 8 < 2000000000 by omega)), e4, if_pos (zi_ix r2 (show 800 < 2000000000 by omega)), zi_clamp (show 100 * d + i < 2000000000 by omega), e5, zi_one, lc_eq, zbs, z10, if_false]
        rw [if_neg (by rw [zi_le (by omega) (by omega)]; omega)]
        have ok1 : okB (bad val S d) (i + 1) = !bad val S d i := by show (okB (bad val S d) i && _) = _; rw [c]; rfl
        rw [ok1]
        by_cases q : skN S d i = true
        · rw [bad_f1 q, q, if_pos rfl, if_neg (by decide)]; rfl
        · have q2 : skN S d i = false := by simpa using q
          rw [q2]
          simp only [Bool.false_eq_true, if_false, if_true]
          by_cases q3 : sV S d i = val i
          · rw [bad_f2 q3, if_pos q3]; rfl
          · rw [bad_t q2 q3, if_neg q3]; rfl
      · have c2 : okB (bad val S d) i = false := by simpa using c
        rw [c2, if_neg (by decide)] at j1
        subst j1
        refine Or.inl ⟨(0, g), ?_, ?_, j3, j4⟩
        · show zl_X11_isRow_5 (nI d) x2 (fu + 1) 0 (nI i) g = _
          conv => lhs; unfold zl_X11_isRow_5
          simp only [zi_clamp (show d < 2000000000 by omega), if_pos (zi_ix hd (show 8 < 2000000000 by omega)), e4, if_true]
          rw [if_neg (by rw [zi_le (by omega) (by omega)]; omega)]
        · rw [okB_no c2 (show i ≤ sL S d by omega)]; rfl)
    (fun fu s hI => by
      obtain ⟨f, g⟩ := s
      obtain ⟨j1, j2, j3, j4⟩ := hI
      have e4 : g.1 70 d = nI (sL S d) := (j4.S hS d hd).2.2.2.1
      refine ⟨(f, g), ?_, j1, j3, j4⟩
      show zl_X11_isRow_5 (nI d) x2 (fu + 1) f (nI (sL S d)) g = _
      conv => lhs; unfold zl_X11_isRow_5
      simp only [zi_clamp (show d < 2000000000 by omega), if_pos (zi_ix hd (show 8 < 2000000000 by omega)), e4]
      rw [if_pos (by rw [zi_le (by omega) (by omega)]; omega)])
  obtain ⟨f, g⟩ := t
  obtain ⟨q1, q2, q3⟩ := h2
  change f = _ at q1
  subst q1
  obtain ⟨k3, s1, s2, s3⟩ := m_again q2
  refine ⟨k3, ⟨s2, KA_a q2 s3, q3.tr s3.M⟩, ?_⟩
  unfold zf_X11_isRow
  rw [show zl_X11_isRow_5 (nI d) x2 zFU 1 0 g0 = _ from h1, zbs]
  simp only []
  rw [s1, zbs, if_pos (by cases okB (bad val S d) (sL S d) <;> decide)]
def stV (P : zP) (i : Nat) : Int32 := nI (stockN (daysN i P))
def vlV (P : zP) (v i : Nat) : Int32 := nI (sk (daysN i P) v)
theorem fst_loopJ {σ : Type} (L : Nat → (Int32 × σ) → Int32 → Option (Int32 × σ)) (p : Nat → Bool) (N : Nat) (hN : N < 3000) (J : σ → Prop) (K : Nat → σ → Prop) (hKJ : ∀ i s, K i s → J s) (s : σ) (h0 : K 0 s)
    (hdone : ∀ fu i f s, i < N → 0 ≤ f → J s → L (fu + 1) (f, s) (nI i) = some (f, s))
    (hstep : ∀ fu i f s, i < N → ¬ 0 ≤ f → K i s → ∃ s', L (fu + 1) (f, s) (nI i) = L fu (if p i then nI i else -4, s') (nI (i + 1)) ∧ K (i + 1) s')
    (hend : ∀ fu f s, J s → L (fu + 1) (f, s) (nI N) = some (f, s)) :
    ∃ s', J s' ∧ L zFU (-4, s) 0 = some (fstI p N, s') := by
  obtain ⟨t, h1, h2⟩ := zl_inv0 L (fun i s => s.1 = fstI p i ∧ J s.2 ∧ (¬ 0 ≤ s.1 → K i s.2)) (fun t => t.1 = fstI p N ∧ J t.2) N hN (-4, s) ⟨rfl, hKJ 0 s h0, fun _ => h0⟩
    (fun fu i s hi hI => by
      obtain ⟨f, s⟩ := s
      obtain ⟨j1, j2, j3⟩ := hI
      change f = _ at j1
      by_cases c : 0 ≤ f
      · refine Or.inl ⟨(f, s), hdone fu i f s hi c j2, ?_, j2⟩
        show f = _
        rw [j1] at c ⊢
        exact (fst_stay c (by omega)).symm
      · obtain ⟨s', e, k⟩ := hstep fu i f s hi c (j3 c)
        refine Or.inr ⟨_, e, ?_, hKJ _ _ k, fun _ => k⟩
        show _ = fstI p (i + 1)
        conv => rhs; unfold fstI
        rw [if_neg (show ¬ 0 ≤ fstI p i by rw [← j1]; exact c)])
    (fun fu s hI => by
      obtain ⟨f, s⟩ := s
      exact ⟨(f, s), hend fu f s hI.2.1, hI.1, hI.2.1⟩)
  obtain ⟨f, s'⟩ := t
  obtain ⟨q1, q2⟩ := h2
  change f = _ at q1
  subst q1
  exact ⟨s', q2, h1⟩
theorem m_judgeL {h g0 : zHp} {P : zP} {S : zS} {d : Nat} (c1 : zWF 999 P) (hW : zSW S) (hS : SM h S) (hd : d < 8) (a2 : RM g0 P) (a3 : KA g0 75 P) (a4 : zEM h g0) :
    ∃ g, (KA g 75 P ∧ zEM h g) ∧ zl_X11_judge_27 (nI d) zFU (-4) 0 g0 = some (fstI (bad (stV P) S d) (sL S d), g) := by
  have w : sL S d ≤ 100 := (hW d hd).2.2.2.2
  exact fst_loopJ (fun fu s i => zl_X11_judge_27 (nI d) fu s.1 i s.2) (bad (stV P) S d) (sL S d) (by omega) (fun g => KA g 75 P ∧ zEM h g) (fun i g => RM g (daysN i P) ∧ KA g 75 P ∧ zEM h g) (fun i g hK => hK.2) g0 ⟨a2, a3, a4⟩
    (fun fu i f g hi hf hJ => by
      have e4 : g.1 70 d = nI (sL S d) := (hJ.2.S hS d hd).2.2.2.1
      show zl_X11_judge_27 (nI d) (fu + 1) f (nI i) g = _
      conv => lhs; unfold zl_X11_judge_27
      simp only [zi_clamp (show d < 2000000000 by omega), if_pos (zi_ix hd (show 8 < 2000000000 by omega)), e4, if_pos hf]
      rw [if_neg (by rw [zi_le (by omega) (by omega)]; omega)])
    (fun fu i f g hi hf hK => by
      have e := hK.2.2.S hS d hd
      have e4 : g.1 70 d = nI (sL S d) := e.2.2.2.1
      obtain ⟨r1, r2⟩ := row_ix hd (show i < 100 by omega)
      have hW2 := daysN_wf (n := i) c1
      obtain ⟨g', b1, b2, b3⟩ := m_dayBy hK.1 hW2 (by omega) false
      have b1' : zf_X11_dayBy 0 g = some g' := b1
      refine ⟨g', ?_, b2, KA_m hK.2.1 b3, hK.2.2.tr b3.M⟩
      show zl_X11_judge_27 (nI d) (fu + 1) f (nI i) g = zl_X11_judge_27 (nI d) fu (if bad (stV P) S d i = true then nI i else -4) (nI (i + 1)) g'
      conv => lhs; unfold zl_X11_judge_27
      rw [m_isSkipped hW (hK.2.2.S hS) hd (by omega), b1', r1, show zf_X11_allStock g = some (stV P i) from m_allStock hK.1 hW2]
      simp only [zi_clamp (show d < 2000000000 by omega), if_pos (zi_ix hd (show 8 < 2000000000 by omega)), e4, if_pos (zi_ix r2 (show 800 < 2000000000 by omega)), zi_clamp (show 100 * d + i < 2000000000 by omega), e.2.2.2.2 i (by omega), zi_one, lc_eq, zbs, if_neg hf]
      rw [if_neg (by rw [zi_le (by omega) (by omega)]; omega)]
      by_cases q : skN S d i = true
      · rw [bad_f1 q, q, if_pos rfl, if_neg (by decide)]; rfl
      · have q2 : skN S d i = false := by simpa using q
        rw [q2]
        simp only [Bool.false_eq_true, if_false, if_true]
        by_cases q3 : sV S d i = stV P i
        · rw [bad_f2 q3, if_pos q3]; rfl
        · rw [bad_t q2 q3, if_neg q3]; rfl)
    (fun fu f g hJ => by
      have e4 : g.1 70 d = nI (sL S d) := (hJ.2.S hS d hd).2.2.2.1
      show zl_X11_judge_27 (nI d) (fu + 1) f (nI (sL S d)) g = _
      conv => lhs; unfold zl_X11_judge_27
      simp only [zi_clamp (show d < 2000000000 by omega), if_pos (zi_ix hd (show 8 < 2000000000 by omega)), e4]
      rw [if_pos (by rw [zi_le (by omega) (by omega)]; omega)])
theorem ok_judge (x1 : Int32) : zOK (zf_X10_judge x1) (zf_X11_judge x1) := by
  refine zOK_ask2 (fun h h' P I S hC hM => ?_)
  obtain ⟨c1, c2, -, -, c5, c6⟩ := hC
  obtain ⟨t1, t2⟩ := m_thr hM.1
  have t3 := m_thrS hM.2.2.2
  unfold zf_X10_judge zf_X11_judge
  simp only [zbs]
  rcases zr x1 (N := 8) (by omega) with hx | ⟨d, hd, rfl⟩
  · rw [c_ref_out hx, m_ref_out hx]
    exact ⟨_, _, _, rfl, zEC.rf, rfl, t1, t2⟩
  rw [c_ref_in c5 c6 hd, m_ref_in c5 t3 hd]
  simp only [zbs]
  by_cases k : (S d).1 = 2
  · rw [k, refI_2, if_pos rfl, if_pos (show (0 : Int32) ≤ 0 by decide)]
    simp only [if_pos (zi_ix hd (show 8 < 2000000000 by omega))]
    obtain ⟨g0, a1, a2, a3, a4⟩ := c_mind c2 c1
    obtain ⟨k1, p1, p2, p3, p4⟩ := m_think t1
    obtain ⟨g1, u1, u2⟩ := c_untrue (x2 := -1) (val := stV P) c1 c5 c6 hd a2 a4.C (fun i g hg => by
      rw [if_pos (by decide), c_allStock hg (daysN_wf c1)]; rfl)
    obtain ⟨g2, v1, v2⟩ := m_judgeL (h := h') c1 c5 hM.2.2.2 hd p2 p3 (t2.tr p4.M)
    obtain ⟨k3, s1, s2, s3⟩ := m_again v1.1
    simp only [zi_clamp (show d < 2000000000 by omega), show 43 + 1 + 2 * d = 44 + 2 * d from rfl]
    rw [a1, p1]
    simp only [zbs]
    rw [u2, v2]
    simp only [zbs]
    rw [s1]
    exact ⟨_, _, _, rfl, u1, rfl, s2, v1.2.tr s3.M⟩
  · have hn := refI_n (c5 d hd).1 k
    rw [if_neg (fun q => by rw [q] at hn; exact absurd hn (by decide)), if_neg (fun q => zi_nle.mp q hn)]
    exact ⟨_, _, _, rfl, zEC.rf, rfl, t1, t2⟩

/-! one more village -/
def addP (P : zP) (k f a b : Nat) : zP := (un (kd P) (nV P) k, un (fg P) (nV P) f, un (pl P) (nV P) a, un (fr P) (nV P) b, un (sk P) (nV P) 10, nV P + 1, ch P, sp P, hm P, nd P, dy P)
theorem un_at {f : Nat → Nat} {k x w : Nat} : nI (un f k x w) = if w = k then nI x else nI (f w) := by
  unfold un; split <;> rfl
theorem wf_add {D : Nat} {P : zP} {k f a b : Nat} (h : zWF D P) (hV : nV P < 7) (hk : k < 8) (hf : f < 10) (ha : a < 12) (hb : b < 7) : zWF D (addP P k f a b) := by
  obtain ⟨h1, h2, h3⟩ := h
  refine ⟨fun w hw => ?_, show nV P + 1 ≤ 7 by omega, h3⟩
  obtain ⟨q1, q2, q3, q4, q5⟩ := h1 w hw
  refine ⟨?_, ?_, ?_, ?_, ?_⟩
  · show un (kd P) (nV P) k w < 8
    unfold un; split <;> omega
  · show un (fg P) (nV P) f w < 10
    unfold un; split <;> omega
  · show un (pl P) (nV P) a w < 12
    unfold un; split <;> omega
  · show un (fr P) (nV P) b w < 7
    unfold un; split <;> omega
  · show un (sk P) (nV P) 10 w ≤ 99
    unfold un; split <;> omega
theorem dress_eq {h : zHp} {p v k f : Nat} (hv : v < 7) (hk : k < 8) (hf : f < 10) : zf_X7_dress p (nI v) (nI k) (nI f) h = some (zc_ui (zc_ui (zc_ui (zc_ui (zc_ui h (p + 1) v (nI k)) (p + 2) v (nI f)) (p + 6) v (nI (goesN k f))) (p + 7) v (nI (bringsN k f))) (p + 8) v (nI (eatsN k f))) := by
  obtain ⟨d1, d2, d3⟩ := dress_v hk hf
  unfold zf_X7_dress
  simp only [if_pos (zi_ix hv (show 7 < 2000000000 by omega)), if_pos (zi_ix hk (show 8 < 2000000000 by omega)), zi_clamp (show v < 2000000000 by omega), zi_clamp (show k < 2000000000 by omega), zbs]
  rw [d1, d2, d3]
  simp only [zbs]
theorem zu_n {h : zHp} {a k b j : Nat} {x : Int32} (c : ¬ (b = a ∧ j = k)) : (zc_ui h a k x).1 b j = h.1 b j := by rw [zu_i, if_neg c]
theorem zu_y {h : zHp} {a k : Nat} {x : Int32} : (zc_ui h a k x).1 a k = x := by rw [zu_i, if_pos ⟨rfl, rfl⟩]
theorem zu_w {h : zHp} {a k j : Nat} {x : Int32} : (zc_ui h a k x).1 a j = if j = k then x else h.1 a j := by rw [zu_i]; simp only [true_and]
theorem c_add_ok {h : zHp} {p : Nat} {P : zP} {k f a b : Nat} (hR : RC h p P) (hV : nV P < 7) (hk : k < 8) (hf : f < 10) (ha : a < 12) (hb : b < 7) : ∃ h2, zf_X7_add p (nI k) (nI f) (nI a) (nI b) h = some (nI (nV P), h2) ∧ RC h2 p (addP P k f a b) ∧ zE p h h2 := by
  have e9 : h.1 p 9 = nI (nV P) := hR.2.2.1
  refine ⟨zc_ui (zc_ui (zc_ui (zc_ui (zc_ui (zc_ui (zc_ui (zc_ui (zc_ui h p 9 (nI (nV P + 1))) (p + 3) (nV P) (nI a)) (p + 4) (nV P) (nI b)) (p + 5) (nV P) 10) (p + 1) (nV P) (nI k)) (p + 2) (nV P) (nI f)) (p + 6) (nV P) (nI (goesN k f))) (p + 7) (nV P) (nI (bringsN k f))) (p + 8) (nV P) (nI (eatsN k f)), ?_, ?_, ?_⟩
  · unfold zf_X7_add
    rw [e9, if_pos (by rw [zi_lit7, zi_lt (by omega) (by omega)]; exact hV), c_isKind_in hk, c_isFigure_in hf, c_isPlace_in ha, c_isNumber_in hb]
    simp only [zbs, z10, if_false, if_pos (zi_ix hV (show 7 < 2000000000 by omega)), zi_clamp (show nV P < 2000000000 by omega)]
    rw [dress_eq hV hk hf, zbs, zi_one]
  · obtain ⟨r1, r2, r3, r4, r5, r6, r7, r8⟩ := hR
    refine ⟨fun w hw => ?_, fun w hw => ?_, ?_, ?_, ?_, ?_, ?_, ?_⟩
    · obtain ⟨q1, q2, q3, q4, q5⟩ := r1 w hw
      refine ⟨?_, ?_, ?_, ?_, ?_⟩
      · rw [zu_n (by omega), zu_n (by omega), zu_n (by omega), zu_n (by omega), zu_w, zu_n (by omega), zu_n (by omega), zu_n (by omega), zu_n (by omega), q1]
        exact un_at.symm
      · rw [zu_n (by omega), zu_n (by omega), zu_n (by omega), zu_w, zu_n (by omega), zu_n (by omega), zu_n (by omega), zu_n (by omega), zu_n (by omega), q2]
        exact un_at.symm
      · rw [zu_n (by omega), zu_n (by omega), zu_n (by omega), zu_n (by omega), zu_n (by omega), zu_n (by omega), zu_n (by omega), zu_w, zu_n (by omega), q3]
        exact un_at.symm
      · rw [zu_n (by omega), zu_n (by omega), zu_n (by omega), zu_n (by omega), zu_n (by omega), zu_n (by omega), zu_w, zu_n (by omega), zu_n (by omega), q4]
        exact un_at.symm
      · rw [zu_n (by omega), zu_n (by omega), zu_n (by omega), zu_n (by omega), zu_n (by omega), zu_w, zu_n (by omega), zu_n (by omega), zu_n (by omega), q5]
        exact un_at.symm
    · have hw' : w < nV P + 1 := hw
      rw [show kd (addP P k f a b) w = if w = nV P then k else kd P w from rfl, show fg (addP P k f a b) w = if w = nV P then f else fg P w from rfl]
      by_cases c : w = nV P
      · rw [if_pos c, if_pos c, c]
        exact ⟨by rw [zu_n (by omega), zu_n (by omega), zu_y], by rw [zu_n (by omega), zu_y], by rw [zu_y]⟩
      · rw [if_neg c, if_neg c]
        obtain ⟨q1, q2, q3⟩ := r2 w (by omega)
        refine ⟨?_, ?_, ?_⟩
        · rw [zu_n (by omega), zu_n (by omega), zu_n (by omega), zu_n (by omega), zu_n (by omega), zu_n (by omega), zu_n (by omega), zu_n (by omega), zu_n (by omega), q1]
        · rw [zu_n (by omega), zu_n (by omega), zu_n (by omega), zu_n (by omega), zu_n (by omega), zu_n (by omega), zu_n (by omega), zu_n (by omega), zu_n (by omega), q2]
        · rw [zu_n (by omega), zu_n (by omega), zu_n (by omega), zu_n (by omega), zu_n (by omega), zu_n (by omega), zu_n (by omega), zu_n (by omega), zu_n (by omega), q3]
    · rw [zu_n (by omega), zu_n (by omega), zu_n (by omega), zu_n (by omega), zu_n (by omega), zu_n (by omega), zu_n (by omega), zu_n (by omega), zu_y]; rfl
    · rw [zu_n (by omega), zu_n (by omega), zu_n (by omega), zu_n (by omega), zu_n (by omega), zu_n (by omega), zu_n (by omega), zu_n (by omega), zu_n (by omega)]; exact r4
    · rw [zu_n (by omega), zu_n (by omega), zu_n (by omega), zu_n (by omega), zu_n (by omega), zu_n (by omega), zu_n (by omega), zu_n (by omega), zu_n (by omega)]; exact r5
    · rw [zu_n (by omega), zu_n (by omega), zu_n (by omega), zu_n (by omega), zu_n (by omega), zu_n (by omega), zu_n (by omega), zu_n (by omega), zu_n (by omega)]; exact r6
    · rw [zu_n (by omega), zu_n (by omega), zu_n (by omega), zu_n (by omega), zu_n (by omega), zu_n (by omega), zu_n (by omega), zu_n (by omega), zu_n (by omega)]; exact r7
    · rw [zu_n (by omega), zu_n (by omega), zu_n (by omega), zu_n (by omega), zu_n (by omega), zu_n (by omega), zu_n (by omega), zu_n (by omega), zu_n (by omega)]; exact r8
  · exact ((((((((zE.ui (by omega)).tr (zE.ui (by omega))).tr (zE.ui (by omega))).tr (zE.ui (by omega))).tr (zE.ui (by omega))).tr (zE.ui (by omega))).tr (zE.ui (by omega))).tr (zE.ui (by omega))).tr (zE.ui (by omega))
theorem m_one_ok {h : zHp} {P : zP} {k f a b : Nat} (hR : RM h P) (hV : nV P < 7) (hk : k < 8) (ha : a < 12) (hb : b < 7) : ∃ h2, zf_X11_oneComes (nI k) (nI f) (nI a) (nI b) h = some (1, h2) ∧ RM h2 (addP P k f a b) ∧ zEm h h2 := by
  have e9 : h.1 60 3 = nI (nV P) := hR.2.1
  refine ⟨zc_ui (zc_ui (zc_ui (zc_ui (zc_ui (zc_ui h 61 (nV P) (nI k)) 62 (nV P) (nI f)) 63 (nV P) (nI a)) 64 (nV P) (nI b)) 65 (nV P) 10) 60 3 (nI (nV P + 1)), ?_, ?_, ?_⟩
  · unfold zf_X11_oneComes
    rw [if_neg (by rw [show (8 : Int32) = nI 8 by decide, zi_le (by omega) (by omega)]; omega), m_isPlace_in ha]
    simp only [zbs, z10, if_false]
    rw [if_neg (by rw [zi_lit7, zi_le (by omega) (by omega)]; omega), e9, if_neg (by rw [zi_lit7, zi_le (by omega) (by omega)]; omega)]
    have b1 : zc_bo (1 : Int32) := Or.inr rfl
    have ix := zi_ix hV (show 7 < 2000000000 by omega)
    simp only [zbs, z10, if_false, if_pos b1, if_pos ix, zi_clamp (show nV P < 2000000000 by omega)]
    have s1 : (zc_ui h 61 (nV P) (nI k)).1 60 3 = nI (nV P) := by rw [zu_n (by omega), e9]
    rw [s1, if_pos ix, zi_clamp (show nV P < 2000000000 by omega)]
    have s2 : (zc_ui (zc_ui h 61 (nV P) (nI k)) 62 (nV P) (nI f)).1 60 3 = nI (nV P) := by rw [zu_n (by omega), s1]
    rw [s2, if_pos ix, zi_clamp (show nV P < 2000000000 by omega)]
    have s3 : (zc_ui (zc_ui (zc_ui h 61 (nV P) (nI k)) 62 (nV P) (nI f)) 63 (nV P) (nI a)).1 60 3 = nI (nV P) := by rw [zu_n (by omega), s2]
    rw [s3, if_pos ix, zi_clamp (show nV P < 2000000000 by omega)]
    have s4 : (zc_ui (zc_ui (zc_ui (zc_ui h 61 (nV P) (nI k)) 62 (nV P) (nI f)) 63 (nV P) (nI a)) 64 (nV P) (nI b)).1 60 3 = nI (nV P) := by rw [zu_n (by omega), s3]
    rw [s4, if_pos ix, zi_clamp (show nV P < 2000000000 by omega), zu_n (by omega), s4, zi_one]
  · obtain ⟨r1, r2, r3, r4, r5, r6, r7⟩ := hR
    refine ⟨fun w hw => ?_, ?_, ?_, ?_, ?_, ?_, ?_⟩
    · obtain ⟨q1, q2, q3, q4, q5⟩ := r1 w hw
      refine ⟨?_, ?_, ?_, ?_, ?_⟩
      · rw [zu_n (by omega), zu_n (by omega), zu_n (by omega), zu_n (by omega), zu_n (by omega), zu_w, q1]
        exact un_at.symm
      · rw [zu_n (by omega), zu_n (by omega), zu_n (by omega), zu_n (by omega), zu_w, zu_n (by omega), q2]
        exact un_at.symm
      · rw [zu_n (by omega), zu_n (by omega), zu_n (by omega), zu_w, zu_n (by omega), zu_n (by omega), q3]
        exact un_at.symm
      · rw [zu_n (by omega), zu_n (by omega), zu_w, zu_n (by omega), zu_n (by omega), zu_n (by omega), q4]
        exact un_at.symm
      · rw [zu_n (by omega), zu_w, zu_n (by omega), zu_n (by omega), zu_n (by omega), zu_n (by omega), q5]
        exact un_at.symm
    · rw [zu_y]; rfl
    · rw [zu_n (by omega), zu_n (by omega), zu_n (by omega), zu_n (by omega), zu_n (by omega), zu_n (by omega)]; exact r3
    · rw [zu_n (by omega), zu_n (by omega), zu_n (by omega), zu_n (by omega), zu_n (by omega), zu_n (by omega)]; exact r4
    · rw [zu_n (by omega), zu_n (by omega), zu_n (by omega), zu_n (by omega), zu_n (by omega), zu_n (by omega)]; exact r5
    · rw [zu_n (by omega), zu_n (by omega), zu_n (by omega), zu_n (by omega), zu_n (by omega), zu_n (by omega)]; exact r6
    · rw [zu_n (by omega), zu_n (by omega), zu_n (by omega), zu_n (by omega), zu_n (by omega), zu_n (by omega)]; exact r7
  · exact (((((zEm.ua (by omega)).tr (zEm.ua (by omega))).tr (zEm.ua (by omega))).tr (zEm.ua (by omega))).tr (zEm.ua (by omega))).tr (zEm.uf (by omega))
theorem ok_comes (x1 x2 : Int32) : zOK (zf_X10_comes x1 x2) (zf_X11_comes x1 x2) := by
  refine zOK_now (fun h h' P I S hC hM => ?_)
  obtain ⟨c1, c2, -, -, c5, c6⟩ := hC
  have h7 := c1.2.1
  obtain ⟨t1, t2⟩ := m_thr hM.1
  have t3 := m_thrS hM.2.2.2
  unfold zf_X10_comes zf_X11_comes
  simp only [zbs]
  generalize zc_ui h' 60 17 0 = g at t1 t2 t3
  rcases zr x1 (N := 8) (by omega) with hx | ⟨d, hd, rfl⟩
  · rw [c_isShelf_out hx, m_in_out (N := 8) (by omega) (by omega) (by decide) hx]
    exact ⟨_, _, _, P, rfl, c2, zE.rf, c1, rfl, t1, t2⟩
  rw [c_isShelf_in hd, m_in_in (N := 8) (by omega) hd (by decide)]
  simp only [zbs, z10, if_false]
  rcases zr x2 (N := 12) (by omega) with hx | ⟨j, hj, rfl⟩
  · rw [c_isPlace_out hx, m_isPlace_out hx]
    exact ⟨_, _, _, P, rfl, c2, zE.rf, c1, rfl, t1, t2⟩
  rw [c_isPlace_in hj, m_isPlace_in hj]
  simp only [zbs, z10, if_false]
  rw [c_rfk_in c5 c6 hd, m_rfk_in c5 t3 hd]
  simp only [zbs]
  by_cases k : (S d).1 = 1
  rotate_left
  · have hn := rfkI_n (c5 d hd).1 k
    rw [if_neg (fun q => by rw [q] at hn; exact absurd hn (by decide)), if_pos hn]
    simp only [zbs, Sum.elim_inr, if_neg (fun q => zi_nle.mp q hn)]
    exact ⟨_, _, _, P, rfl, c2, zE.rf, c1, rfl, t1, t2⟩
  have w := c5 d hd
  obtain ⟨e1, e2⟩ := (c6 d hd).2.1 k
  obtain ⟨f1, f2⟩ := (t3 d hd).2.1 k
  have n0 : ¬ (0 : Int32) < 0 := by decide
  rw [k, rfkI_1, if_pos rfl, if_neg n0]
  simp only [if_pos (zi_ix hd (show 8 < 2000000000 by omega)), zi_clamp (show d < 2000000000 by omega), show 43 + 1 + 2 * d = 44 + 2 * d from rfl, e1, e2, f1, f2, c2.2.2.1, t1.2.1]
  by_cases hV : nV P < 7
  · obtain ⟨h2, a1, a2, a3⟩ := c_add_ok c2 hV w.2.1 w.2.2.1 hj hV
    obtain ⟨g2, b1, b2, b3⟩ := m_one_ok (f := (S d).2.2.1) t1 hV w.2.1 hj hV
    rw [a1, if_neg (by rw [zi_lit7, zi_eq (by omega) (by omega)]; omega), b1]
    simp only [zbs, Sum.elim_inl]
    refine ⟨nI (nV P), h2, g2, _, rfl, a2, a3, wf_add c1 hV w.2.1 w.2.2.1 hj hV, ?_, b2, t2.tr b3.M⟩
    rw [b2.2.1]
    show some (nI (nV P + 1) - 1, g2) = _
    rw [nI_pred]
  · have e7 : nV P = 7 := by omega
    rw [e7, if_pos (show nI 7 = 7 by decide)]
    unfold zf_X7_add
    rw [c2.2.2.1, e7, if_neg (by decide)]
    simp only [zbs, Sum.elim_inr, if_pos (show (0 : Int32) ≤ 0 by decide)]
    exact ⟨_, _, _, P, rfl, c2, zE.rf, c1, rfl, t1, t2⟩

/-! match: the reference -/
def lbI (P : zP) (h : zHp) (v : Nat) : Prop := ∀ s, s < 128 → h.1 77 (128 * v + s) = nI (lrN P 99999 (nV P - v) s)
theorem lb_ix {v s : Nat} (hv : v ≤ 7) (hs : s < 128) : (128 : Int32) * nI v + nI s = nI (128 * v + s) ∧ 128 * v + s < 1024 := by
  refine ⟨?_, by omega⟩
  rw [show (128 : Int32) = nI 128 by decide, pk_mul, nI_add]
theorem ad_128 {s f : Nat} (hs : s < 128) (hf : f < 7) : ad s f < 128 := by
  have key : ∀ s, s < 128 → ∀ f, f < 7 → ad s f < 128 := by decide +kernel
  exact key s hs f hf
theorem m_layI {h : zHp} {P : zP} {D v s : Nat} (hR : RM h P) (hW : zWF D P) (hD : D < 10000) (hv : v < nV P) (hs : s < 128) (hl : lbI P h (v + 1)) : zl_X11_layMatch_36 (nI v) (nI s) h zFU 99999 0 = some (nI (lrN P 99999 (nV P - v) s)) := by
  have h7 := hW.2.1
  rw [lr_at hv]
  obtain ⟨t, h1, h2⟩ := zl_inv0 (fun fu (x : Int32) i => zl_X11_layMatch_36 (nI v) (nI s) h fu x i) (fun i x => x = nI (mnF (okM v s) (fun o => wayN P v (pl P o) + lrN P 99999 (nV P - (v + 1)) (ad s o)) 99999 i)) (fun x => x = nI (mnF (okM v s) (fun o => wayN P v (pl P o) + lrN P 99999 (nV P - (v + 1)) (ad s o)) 99999 (nV P))) (nV P) (by omega) 99999 (by show (99999 : Int32) = nI 99999; decide)
    (fun fu i x hi hI => by
      refine Or.inr ⟨nI (mnF (okM v s) (fun o => wayN P v (pl P o) + lrN P 99999 (nV P - (v + 1)) (ad s o)) 99999 (i + 1)), ?_, rfl⟩
      have l1 := mnF_le (ok := okM v s) (f := fun o => wayN P v (pl P o) + lrN P 99999 (nV P - (v + 1)) (ad s o)) (I := 99999) i
      have l2 := lrN_le P 99999 (nV P - (v + 1)) (ad s i)
      have l3 := wayN_lt (v := v) hW (by omega) (hW.1 i (by omega)).2.2.1
      obtain ⟨r1, r2⟩ := lb_ix (show v + 1 ≤ 7 by omega) (ad_128 hs (show i < 7 by omega))
      show zl_X11_layMatch_36 (nI v) (nI s) h (fu + 1) x (nI i) = _
      conv => lhs; unfold zl_X11_layMatch_36
      rw [hR.2.1, if_neg (by rw [zi_le (by omega) (by omega)]; omega), if_neg (by rw [zi_le (by omega) (by omega)]; omega), m_hasBit hs (by omega), zbs, zi_one, zi_one, hI]
      conv => rhs; unfold mnF
      rw [show okM v s i = (!decide (i = v) && !s.testBit i) from rfl]
      by_cases c : i = v
      · rw [if_pos (by rw [c])]
        simp [c]
      · rw [if_neg (by rw [zi_eq (by omega) (by omega)]; exact c)]
        cases hb : s.testBit i
        · simp only [Bool.false_eq_true, if_false, if_true, if_pos (zi_ix (show i < 7 by omega) (show 7 < 2000000000 by omega)), zi_clamp (show i < 2000000000 by omega)]
          rw [(hR.1 i (by omega)).2.2.1, m_wayOf hR hW hD (by omega) (hW.1 i (by omega)).2.2.1, zbs, ad_i hs (by omega), r1, if_pos (zi_ix r2 (by omega)), zi_clamp (by omega), hl _ (ad_128 hs (by omega)), nI_add, zbs]
          simp only [c, decide_false, Bool.not_false, Bool.and_self, if_true]
          by_cases q : mnF (okM v s) (fun o => wayN P v (pl P o) + lrN P 99999 (nV P - (v + 1)) (ad s o)) 99999 i ≤ wayN P v (pl P i) + lrN P 99999 (nV P - (v + 1)) (ad s i)
          · rw [if_pos ((zi_le (by omega) (by omega)).mpr q), Nat.min_eq_left q]
          · rw [if_neg (fun z => q ((zi_le (by omega) (by omega)).mp z)), Nat.min_eq_right (by omega)]
        · simp only [if_true, z10, if_false, Bool.not_true, Bool.and_false, Bool.false_eq_true])
    (fun fu x hI => by
      refine ⟨x, ?_, hI⟩
      show zl_X11_layMatch_36 (nI v) (nI s) h (fu + 1) x (nI (nV P)) = _
      conv => lhs; unfold zl_X11_layMatch_36
      rw [hR.2.1, if_pos (by rw [zi_le (by omega) (by omega)]; omega)])
  rw [show zl_X11_layMatch_36 (nI v) (nI s) h zFU 99999 0 = some t from h1, h2]
theorem m_layE {h : zHp} {P : zP} {s : Nat} (hR : RM h P) (h7 : nV P ≤ 7) : zl_X11_layMatch_36 (nI (nV P)) (nI s) h zFU 0 0 = some 0 := by
  rw [show zFU = 3999 + 1 from zFU_eq]
  unfold zl_X11_layMatch_36
  rw [hR.2.1, if_pos (show nI (nV P) ≤ nI (nV P) by rw [zi_le (by omega) (by omega)]; omega)]
  split <;> rfl
theorem m_layR {h : zHp} {P : zP} {D v : Nat} (hR : RM h P) (hW : zWF D P) (hD : D < 10000) (hv : v ≤ nV P) (hl : v < nV P → lbI P h (v + 1)) : ∃ g, zl_X11_layMatch_11 (nI v) zFU 0 h = some g ∧ lbI P g v ∧ (∀ j, 128 * v + 128 ≤ j → g.1 77 j = h.1 77 j) ∧ zfr 77 h g := by
  have h7 := hW.2.1
  refine zl_inv0 (fun fu (g : zHp) i => zl_X11_layMatch_11 (nI v) fu i g) (fun i g => (∀ s, s < i → g.1 77 (128 * v + s) = nI (lrN P 99999 (nV P - v) s)) ∧ (∀ j, 128 * v + 128 ≤ j → g.1 77 j = h.1 77 j) ∧ zfr 77 h g) (fun g => lbI P g v ∧ (∀ j, 128 * v + 128 ≤ j → g.1 77 j = h.1 77 j) ∧ zfr 77 h g) 128 (by omega) h ⟨fun j hj => absurd hj (by omega), fun _ _ => rfl, zfr.rf⟩ (fun fu i g hi hI => Or.inr ⟨zc_ui g 77 (128 * v + i) (nI (lrN P 99999 (nV P - v) i)), ?_, fun j hj => ?_, fun j hj => ?_, hI.2.2.tr zfr.u⟩) (fun fu g hI => ⟨g, ?_, hI⟩)
  · have r : RM g P := RM_of2 hR (fun a _ _ => hI.2.2.1 a (by omega))
    obtain ⟨w1, w2⟩ := lb_ix (show v ≤ 7 by omega) hi
    have e : ((if nI v = (g.1 60 3) then some (0 : Int32) else some (99999 : Int32)) : Option Int32).bind (fun v5 => zl_X11_layMatch_36 (nI v) (nI i) g zFU v5 0) = some (nI (lrN P 99999 (nV P - v) i)) := by
      rw [r.2.1]
      by_cases c : v = nV P
      · rw [if_pos (by rw [c]), zbs, c, m_layE r h7, Nat.sub_self]; rfl
      · have hv' : v < nV P := by omega
        rw [if_neg (by rw [zi_eq (by omega) (by omega)]; exact c), zbs]
        refine m_layI r hW hD hv' hi (fun s hs => ?_)
        rw [hI.2.1 _ (by omega)]
        exact hl hv' s hs
    show zl_X11_layMatch_11 (nI v) (fu + 1) (nI i) g = zl_X11_layMatch_11 (nI v) fu (nI (i + 1)) _
    conv => lhs; unfold zl_X11_layMatch_11
    rw [if_neg (by rw [show (128 : Int32) = nI 128 by decide, zi_le (by omega) (by omega)]; omega), ← Option.bind_assoc, e, zbs, w1, if_pos (zi_ix w2 (by omega)), zbs, zi_clamp (by omega), zi_one]
  · rw [zu_w]
    by_cases c : 128 * v + j = 128 * v + i
    · rw [if_pos c, show j = i by omega]
    · rw [if_neg c]; exact hI.1 j (by omega)
  · rw [zu_w, if_neg (by omega)]; exact hI.2.1 j hj
  · show zl_X11_layMatch_11 (nI v) (fu + 1) (nI 128) g = _
    conv => lhs; unfold zl_X11_layMatch_11
    rw [if_pos (by decide)]
theorem m_layL {P : zP} {D : Nat} (hW : zWF D P) (hD : D < 10000) : ∀ (k fu : Nat) (h : zHp), k ≤ nV P + 1 → k < fu → RM h P → (∀ v, k ≤ v → v ≤ nV P → lbI P h v) → ∃ g, zl_X11_layMatch_5 fu (nI k - 1) h = some g ∧ (∀ v, v ≤ nV P → lbI P g v) ∧ zfr 77 h g := by
  have h7 := hW.2.1
  intro k
  induction k with
  | zero =>
    intro fu h hk hfu hR hl
    obtain ⟨fu, rfl⟩ : ∃ f, fu = f + 1 := ⟨fu - 1, by omega⟩
    refine ⟨h, ?_, fun v hv => hl v (by omega) hv, zfr.rf⟩
    unfold zl_X11_layMatch_5
    rw [if_pos (by decide)]
  | succ k ih =>
    intro fu h hk hfu hR hl
    obtain ⟨fu, rfl⟩ : ∃ f, fu = f + 1 := ⟨fu - 1, by omega⟩
    obtain ⟨g1, a1, a2, a3, a4⟩ := m_layR (v := k) hR hW hD (by omega) (fun q => hl (k + 1) (by omega) (by omega))
    have r : RM g1 P := RM_of2 hR (fun a _ _ => a4.1 a (by omega))
    obtain ⟨g, b1, b2, b3⟩ := ih fu g1 (by omega) (by omega) r (fun v hv hv2 s hs => by
      by_cases c : v = k
      · subst c; exact a2 s hs
      · rw [a3 _ (by omega)]; exact hl v (by omega) hv2 s hs)
    refine ⟨g, ?_, b2, a4.tr b3⟩
    unfold zl_X11_layMatch_5
    rw [nI_pred, if_neg (nI_pos (by omega)), a1, zbs, ← Int32.sub_eq_add_neg]
    exact b1
theorem m_lay {h : zHp} {P : zP} {D : Nat} (hR : RM h P) (hW : zWF D P) (hD : D < 10000) : ∃ g, zf_X11_layMatch h = some g ∧ (∀ v, v ≤ nV P → lbI P g v) ∧ zfr 77 h g := by
  have h7 := hW.2.1
  obtain ⟨g, a1, a2, a3⟩ := m_layL hW hD (nV P + 1) zFU h (Nat.le_refl _) (by rw [zFU_eq]; omega) hR (fun v h1 h2 => absurd h1 (by omega))
  rw [nI_pred] at a1
  exact ⟨g, by unfold zf_X11_layMatch; rw [hR.2.1, a1, zbs], a2, a3⟩
theorem m_first {h : zHp} {P : zP} {D v s : Nat} (hR : RM h P) (hW : zWF D P) (hD : D < 10000) (hl : ∀ v, v ≤ nV P → lbI P h v) (hs : s < 128) (hv : v < nV P) (hf : lrN P 99999 (nV P - v) s < 99999) : zf_X11_matchOf (nI v) (nI s) h = some (nI (piM P v s)) := by
  have h7 := hW.2.1
  obtain ⟨b1, b2, b3, -⟩ := pi_ok h7 hv hf
  obtain ⟨t, h1, h2⟩ := zl_inv0 (fun fu (_ : Unit) i => zl_X11_matchOf_2 (nI v) (nI s) h fu i) (fun i _ => i ≤ piM P v s) (fun t => t = nI (piM P v s)) (nV P) (by omega) () (Nat.zero_le _)
    (fun fu i x hi hI => by
      have u : zl_X11_matchOf_2 (nI v) (nI s) h (fu + 1) (nI i) = if pkM P v s i then some (nI i) else zl_X11_matchOf_2 (nI v) (nI s) h fu (nI (i + 1)) := by
        conv => lhs; unfold zl_X11_matchOf_2
        rw [m_hasBit hs (by omega), zi_one, zi_one]
        unfold pkM okM
        by_cases c : i = v
        · rw [if_pos (by rw [c])]
          simp [c]
        · rw [if_neg (by rw [zi_eq (by omega) (by omega)]; exact c), zbs]
          obtain ⟨r1, r2⟩ := lb_ix (show v + 1 ≤ 7 by omega) (ad_128 hs (show i < 7 by omega))
          obtain ⟨r3, r4⟩ := lb_ix (show v ≤ 7 by omega) hs
          have l1 := lrN_le P 99999 (nV P - (v + 1)) (ad s i)
          have l2 := lrN_le P 99999 (nV P - v) s
          have l3 := wayN_lt (v := v) hW (by omega) (hW.1 i (by omega)).2.2.1
          cases hb : s.testBit i
          · simp only [Bool.false_eq_true, if_false, if_true, if_pos (zi_ix (show i < 7 by omega) (show 7 < 2000000000 by omega)), zi_clamp (show i < 2000000000 by omega)]
            rw [(hR.1 i (by omega)).2.2.1, m_wayOf hR hW hD (by omega) (hW.1 i (by omega)).2.2.1, zbs, ad_i hs (by omega), r1, if_pos (zi_ix r2 (by omega)), zi_clamp (show 128 * (v + 1) + ad s i < 2000000000 by omega), r3, if_pos (zi_ix r4 (by omega)), zi_clamp (show 128 * v + s < 2000000000 by omega), hl (v + 1) (by omega) _ (ad_128 hs (by omega)), hl v (by omega) s hs, nI_add]
            by_cases q : wayN P v (pl P i) + lrN P 99999 (nV P - (v + 1)) (ad s i) = lrN P 99999 (nV P - v) s
            · rw [if_pos (by rw [q]), decide_eq_true q]; simp [c]
            · rw [if_neg (by rw [zi_eq (by omega) (by omega)]; exact q), decide_eq_false q]; simp [c]
          · simp only [if_true, z10, if_false, Bool.not_true, Bool.and_false, Bool.false_and, Bool.false_eq_true]
      by_cases c : i = piM P v s
      · exact Or.inl ⟨_, by show zl_X11_matchOf_2 (nI v) (nI s) h (fu + 1) (nI i) = _; rw [u, c, b2]; rfl, rfl⟩
      · have hI' : i ≤ piM P v s := hI
        refine Or.inr ⟨(), by show zl_X11_matchOf_2 (nI v) (nI s) h (fu + 1) (nI i) = _; rw [u, b3 i (by omega)]; rfl, show i + 1 ≤ piM P v s by omega⟩)
    (fun fu x hI => absurd (show nV P ≤ piM P v s from hI) (by omega))
  unfold zf_X11_matchOf
  rw [show zl_X11_matchOf_2 (nI v) (nI s) h zFU 0 = some t from h1, h2]
  rfl
theorem m_matched {h : zHp} {P : zP} {D v : Nat} (y0 : Int32) (hR : RM h P) (hW : zWF D P) (hD : D < 10000) (h2 : 2 ≤ nV P) (hl : ∀ v, v ≤ nV P → lbI P h v) (hv : v < nV P) : zl_X11_match_52 (nI v) h zFU 0 y0 0 = some (nI (piM P v (stM P v))) := by
  have h7 := hW.2.1
  obtain ⟨t, h1, h2'⟩ := zl_inv0 (fun fu (s : Int32 × Int32) i => zl_X11_match_52 (nI v) h fu s.1 s.2 i) (fun i s => s.1 = nI (stM P i) ∧ (0 < i → s.2 = nI (piM P (i - 1) (stM P (i - 1))))) (fun t => t = nI (piM P v (stM P v))) (v + 1) (by omega) (0, y0) ⟨rfl, fun q => absurd q (by omega)⟩
    (fun fu i s hi hI => by
      obtain ⟨y, z⟩ := s
      obtain ⟨e1, -⟩ := hI
      change y = _ at e1
      obtain ⟨s1, s2, s3⟩ := st_ok hW h2 i (by omega)
      obtain ⟨b1, -⟩ := pi_ok h7 (show i < nV P by omega) s3
      have f := m_first hR hW hD hl (p2_le h7 s1) (show i < nV P by omega) s3
      refine Or.inr ⟨(nI (stM P (i + 1)), nI (piM P i (stM P i))), ?_, rfl, fun _ => by rw [Nat.add_sub_cancel]⟩
      show zl_X11_match_52 (nI v) h (fu + 1) y z (nI i) = zl_X11_match_52 (nI v) h fu (nI (stM P (i + 1))) (nI (piM P i (stM P i))) (nI (i + 1))
      conv => lhs; unfold zl_X11_match_52
      rw [if_neg (by rw [zi_lt (by omega) (by omega)]; omega), e1, f, zbs, zbs, zi_one, ad_i (p2_le h7 s1) (by omega)]
      rfl)
    (fun fu s hI => by
      obtain ⟨y, z⟩ := s
      have e2 : z = nI (piM P v (stM P v)) := by
        have := hI.2 (by omega)
        rw [Nat.add_sub_cancel] at this
        exact this
      refine ⟨z, ?_, e2⟩
      show zl_X11_match_52 (nI v) h (fu + 1) y z (nI (v + 1)) = _
      conv => lhs; unfold zl_X11_match_52
      rw [if_pos (by rw [zi_lt (by omega) (by omega)]; omega)])
  rw [show zl_X11_match_52 (nI v) h zFU 0 y0 0 = some t from h1, h2']
theorem ok_match (x1 : Int32) : zOK (zf_X10_match x1) (zf_X11_match x1) := by
  refine zOK_ask2 (fun h h' P I S hC hM => ?_)
  obtain ⟨c1, c2, -⟩ := hC
  have h7 := c1.2.1
  obtain ⟨t1, t2⟩ := m_thr hM.1
  unfold zf_X10_match zf_X11_match
  simp only [zbs]
  generalize zc_ui h' 60 17 0 = g at t1 t2
  have om : (-1 : Int32).toInt = -1 := by decide
  have eN : (nI (nV P)).toInt = nV P := nI_toInt (by omega)
  have eM : (nI (nV P) - 1).toInt = (nV P : Int) - 1 := by rw [zi_lit1, pk_sub_toInt (by omega) (by omega)]; rfl
  have no : ∀ x : Int32, ∃ r h1 h2, (some (x, h)) = some (r, h1) ∧ zEC h h1 ∧ (some (x, g)) = some (r, h2) ∧ RM h2 P ∧ zEM h' h2 := fun x => ⟨_, _, _, rfl, zEC.rf, rfl, t1, t2⟩
  rw [c2.2.2.1, t1.2.1, m_in32 x1 (-1) (nI (nV P) - 1) (by decide) rfl]
  simp only [zbs]
  by_cases k1 : x1.toInt < -1
  · rw [if_pos (zi_ltT.mpr (by rw [om]; exact k1)), if_neg (show ¬ (-1 ≤ x1 ∧ x1 ≤ nI (nV P) - 1) from fun q => by have := zi_leT.mp q.1; rw [om] at this; omega)]
    exact no _
  rw [if_neg (show ¬ x1 < -1 from fun q => by have := zi_ltT.mp q; rw [om] at this; omega)]
  by_cases k2 : x1.toInt < nV P
  rotate_left
  · rw [if_neg (show ¬ x1 < nI (nV P) from fun q => by have := zi_ltT.mp q; rw [eN] at this; omega), if_neg (show ¬ (-1 ≤ x1 ∧ x1 ≤ nI (nV P) - 1) from fun q => by have := zi_leT.mp q.2; rw [eM] at this; omega)]
    exact no _
  rw [if_pos (zi_ltT.mpr (by rw [eN]; exact k2)), if_pos (show (-1 ≤ x1 ∧ x1 ≤ nI (nV P) - 1) from ⟨zi_leT.mpr (by rw [om]; omega), zi_leT.mpr (by rw [eM]; omega)⟩)]
  simp only [z10, if_false]
  by_cases k3 : 2 ≤ nV P
  rotate_left
  · rw [if_neg (by rw [zi_lit2, zi_le (by omega) (by omega)]; exact k3), if_neg (by rw [zi_lit2, zi_le (by omega) (by omega)]; exact k3)]
    exact no _
  rw [if_pos (by rw [zi_lit2, zi_le (by omega) (by omega)]; exact k3), if_pos (by rw [zi_lit2, zi_le (by omega) (by omega)]; exact k3)]
  obtain ⟨g1, a1, a2, a3⟩ := c_mes c2 c1 (by omega)
  have r1 := a3.RC c2 (by omega)
  obtain ⟨g2, b1, b2, b3, b4⟩ := c_lr r1 c1 a2
  have r2 := b4.RC r1 (by omega)
  have hE : zEC h g2 := (a3.C (by omega)).tr (b4.C (by omega))
  obtain ⟨f1, d1, d2, d3⟩ := m_lay t1 c1 (by omega)
  have r3 : RM f1 P := RM_of2 t1 (fun a _ _ => d3.1 a (by omega))
  have hF : zEM h' f1 := t2.tr ⟨fun a ha => d3.1 a (by unfold zK at ha; omega), by rw [d3.1 60 (by omega)], fun a _ => by rw [d3.2]⟩
  rw [a1, d1]
  simp only [zbs]
  rw [b1]
  simp only [zbs]
  have z0 : (0 : Int32).toNatClampNeg = 0 := by decide
  rw [z0]
  by_cases k4 : x1.toInt = -1
  · have e1 : x1 = -1 := Int32.toInt_inj.mp (k4.trans om.symm)
    subst e1
    have q1 : g2.1 2 0 = nI (lrN P 1000000 (nV P) 0) := b3 0 (Nat.le_refl _) (Nat.pow_pos (by omega))
    have q2 : f1.1 77 0 = nI (lrN P 99999 (nV P) 0) := d2 0 (Nat.zero_le _) 0 (by omega)
    have q3 := lr_rl c1 (nV P) (Nat.le_refl _) 0
    have q4 := (st_ok c1 k3 0 (by omega)).2.2
    have q5 : lrN P 99999 (nV P) 0 < 99999 := q4
    have q6 : lrN P 1000000 (nV P) 0 = lrN P 99999 (nV P) 0 := by
      unfold rlM at q3; omega
    have q7 : zl_X11_match_52 (-1) f1 zFU 0 (f1.1 77 0) 0 = some (f1.1 77 0) := by
      rw [show zFU = 3999 + 1 from zFU_eq]
      unfold zl_X11_match_52
      rw [if_pos (by decide)]
    rw [if_pos rfl, q7]
    simp only [zbs]
    refine ⟨nI (lrN P 99999 (nV P) 0), _, _, ?_, hE, ?_, r3, hF⟩
    · rw [q1, q6]
    · rw [q2]
  · obtain ⟨v, hv, rfl⟩ := zi_nat (x := x1) (L := nV P - 1) (by omega) (by omega) (by omega)
    rw [if_neg (fun q => k4 (by rw [q]; decide)), c_matched r2 c1 k3 b2 b3 (by omega), m_matched _ r3 c1 (by omega) k3 d2 (by omega)]
    exact ⟨_, _, _, rfl, hE, rfl, r3, hF⟩

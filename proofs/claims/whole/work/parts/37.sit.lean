/-! hungry with all, shade, sit -/
theorem fst_cases (p : Nat → Bool) : ∀ N, (fstI p N = -4 ∧ ∀ j, j < N → p j = false) ∨ ∃ i, i < N ∧ p i = true ∧ ∀ j, j < i → p j = false := by
  intro N
  induction N with
  | zero => exact Or.inl ⟨rfl, fun j hj => absurd hj (by omega)⟩
  | succ n ih =>
    rcases ih with ⟨e, h⟩ | ⟨i, h1, h2, h3⟩
    · by_cases c : p n = true
      · exact Or.inr ⟨n, by omega, c, h⟩
      · have c2 : p n = false := by simpa using c
        have hh : ∀ j, j < n + 1 → p j = false := fun j hj => by
          by_cases q : j = n
          · subst q; exact c2
          · exact h j (by omega)
        exact Or.inl ⟨fst_no hh, hh⟩
    · exact Or.inr ⟨i, by omega, h2, h3⟩
theorem c_firstHungry {h : zHp} {p : Nat} {P : zP} {D : Nat} (hR : RC h p P) (hW : zWF D P) : zf_X7_firstHungry p h = some (fstI (hungN P) (nV P)) := by
  have h7 := hW.2.1
  have e3 := hR.2.2.1
  obtain ⟨t, h1, h2⟩ := zl_inv0 (fun fu (_ : Unit) i => zl_X7_firstHungry_2 p h fu i) (fun i _ => ∀ j, j < i → hungN P j = false) (fun t => Sum.elim (fun r => some r) (fun _ => some (-4 : Int32)) t = some (fstI (hungN P) (nV P))) (nV P) (by omega) ()
    (fun j hj => absurd hj (by omega))
    (fun fu i s hi hI => by
      have e5 := (hR.1 i (by omega)).2.2.2.2
      have hs := (hW.1 i (by omega)).2.2.2.2
      by_cases c : sk P i = 0
      · refine Or.inl ⟨.inl (nI i), ?_, ?_⟩
        · show zl_X7_firstHungry_2 p h (fu + 1) (nI i) = _
          conv => lhs; unfold zl_X7_firstHungry_2
          rw [e3, if_neg (by rw [zi_le (by omega) (by omega)]; omega), if_pos (zi_ix (show i < 7 by omega) (show 7 < 2000000000 by omega)), zi_clamp (by omega), e5, if_pos ((zi_sk0 (by omega)).mpr c)]
        · rw [fst_at hI (by simp [hungN, c]) (by omega) hi]; rfl
      · refine Or.inr ⟨(), ?_, fun j hj => ?_⟩
        · show zl_X7_firstHungry_2 p h (fu + 1) (nI i) = zl_X7_firstHungry_2 p h fu (nI (i + 1))
          conv => lhs; unfold zl_X7_firstHungry_2
          rw [e3, if_neg (by rw [zi_le (by omega) (by omega)]; omega), if_pos (zi_ix (show i < 7 by omega) (show 7 < 2000000000 by omega)), zi_clamp (by omega), e5, if_neg (fun q => c ((zi_sk0 (by omega)).mp q)), zi_one]
        · by_cases q : j = i
          · subst q; simp [hungN, c]
          · exact hI j (by omega))
    (fun fu s hI => ⟨.inr (), by
      show zl_X7_firstHungry_2 p h (fu + 1) _ = _
      conv => lhs; unfold zl_X7_firstHungry_2
      rw [e3, if_pos (by rw [zi_le (by omega) (by omega)]; omega)], by rw [fst_no hI]; rfl⟩)
  unfold zf_X7_firstHungry
  rw [show zl_X7_firstHungry_2 p h zFU 0 = some t from h1, zbs]
  exact h2
/-- the village that is hungry first -/
def hunR (q : Nat → Nat → Bool) (n : Nat) (r : Int32) : Prop := (r = -4 ∧ ∀ w, w < n → ∀ e, e < 61 → q w e = false) ∨ ∃ b d, r = nI b ∧ b < n ∧ d < 61 ∧ q b d = true ∧ (∀ w, w < n → ∀ e, e < d → q w e = false) ∧ ∀ w, w < b → q w d = false
theorem hunR_eq {q : Nat → Nat → Bool} {n : Nat} {r r' : Int32} (h : hunR q n r) (h' : hunR q n r') : r = r' := by
  rcases h with ⟨e, a⟩ | ⟨b, d, e, b1, b2, b3, b4, b5⟩ <;> rcases h' with ⟨e', a'⟩ | ⟨b', d', e', b1', b2', b3', b4', b5'⟩
  · rw [e, e']
  · have := a b' b1' d' b2'; rw [b3'] at this; exact absurd this (by decide)
  · have := a' b b1 d b2; rw [b3] at this; exact absurd this (by decide)
  · have hd : d = d' := by
      rcases Nat.lt_trichotomy d d' with c | c | c
      · have := b4' b b1 d c; rw [b3] at this; exact absurd this (by decide)
      · exact c
      · have := b4 b' b1' d' c; rw [b3'] at this; exact absurd this (by decide)
    subst hd
    have hb : b = b' := by
      rcases Nat.lt_trichotomy b b' with c | c | c
      · have := b5' b c; rw [b3] at this; exact absurd this (by decide)
      · exact c
      · have := b5 b' c; rw [b3'] at this; exact absurd this (by decide)
    rw [e, e', hb]
theorem c_hungryA {h g0 : zHp} {P : zP} {x : Int32} (hx : x < 0) (c1 : zWF 999 P) (a2 : RC g0 25 P) (a4 : zEC h g0) : ∃ g r, zEC h g ∧ hunR (hunP P) (nV P) r ∧ (zl_X10_hungry_31 x zFU 0 g0).bind (Sum.elim (fun r => some r) (fun v => some (-4, v))) = some (r, g) := by
  have h7 := c1.2.1
  obtain ⟨t, h1, h2⟩ := zl_inv0 (fun fu s i => zl_X10_hungry_31 x fu i s) (fun i g => (RC g 25 (daysN i P) ∧ zEC h g) ∧ ∀ e, e < i → ∀ w, w < nV P → hunP P w e = false) (fun t => ∃ g r, zEC h g ∧ hunR (hunP P) (nV P) r ∧ Sum.elim (fun r => some r) (fun v => some ((-4 : Int32), v)) t = some (r, g)) 61 (by omega) g0
    ⟨⟨a2, a4⟩, fun e he => absurd he (by omega)⟩
    (fun fu i g hi hI => by
      obtain ⟨⟨j1, j2⟩, j3⟩ := hI
      have hW := daysN_wf (n := i) c1
      have ef := c_firstHungry j1 hW
      rw [daysN_V] at ef
      have hun : ∀ w, hungN (daysN i P) w = hunP P w i := fun w => rfl
      rcases fst_cases (hungN (daysN i P)) (nV P) with ⟨e, q⟩ | ⟨b, q1, q2, q3⟩
      · obtain ⟨g', b1, b2, b3⟩ := c_goDays (n := 1) j1 hW (by omega) (by omega)
        refine Or.inr ⟨g', ?_, ⟨b2, j2.tr b3.C⟩, fun e he w hw => ?_⟩
        · show zl_X10_hungry_31 x (fu + 1) (nI i) g = zl_X10_hungry_31 x fu (nI (i + 1)) g'
          conv => lhs; unfold zl_X10_hungry_31
          rw [if_neg (by rw [show (60 : Int32) = nI 60 by decide, zi_lt (by omega) (by omega)]; omega)]
          simp only [if_pos hx, zbs]
          rw [ef, e]
          simp only [zbs, Sum.elim_inr]
          rw [if_pos (show (-4 : Int32) < 0 by decide), show zf_X7_goDays 25 1 g = some g' from b1]
          simp only [zbs, zi_one]
        · by_cases q5 : e = i
          · subst q5; exact q w hw
          · exact j3 e (by omega) w hw
      · have e := fst_at q3 q2 (by omega) q1
        refine Or.inl ⟨.inl (nI b, g), ?_, g, nI b, j2, Or.inr ⟨b, i, rfl, q1, hi, q2, fun w hw e he => j3 e he w hw, q3⟩, rfl⟩
        show zl_X10_hungry_31 x (fu + 1) (nI i) g = _
        conv => lhs; unfold zl_X10_hungry_31
        rw [if_neg (by rw [show (60 : Int32) = nI 60 by decide, zi_lt (by omega) (by omega)]; omega)]
        simp only [if_pos hx, zbs]
        rw [ef, e]
        simp only [zbs]
        rw [if_neg (nI_pos (by omega))])
    (fun fu g hI => by
      refine ⟨.inr g, ?_, g, -4, hI.1.2, Or.inl ⟨rfl, fun w hw e he => hI.2 e he w hw⟩, rfl⟩
      show zl_X10_hungry_31 x (fu + 1) (nI 61) g = _
      conv => lhs; unfold zl_X10_hungry_31
      rw [if_pos (by decide)])
  obtain ⟨g, r, q1, q2, q3⟩ := h2
  exact ⟨g, r, q1, q2, by rw [show zl_X10_hungry_31 x zFU 0 g0 = some t from h1, zbs]; exact q3⟩
def hunM (q : Nat → Nat → Bool) (n : Nat) (b l : Int32) : Prop := (b = -4 ∧ l = nI 61 ∧ ∀ w, w < n → ∀ e, e < 61 → q w e = false) ∨ ∃ w d, b = nI w ∧ l = nI d ∧ w < n ∧ d < 61 ∧ q w d = true ∧ (∀ w', w' < n → ∀ e, e < d → q w' e = false) ∧ ∀ w', w' < w → q w' d = false
theorem m_hungryA {h : zHp} {P : zP} (c1 : zWF 999 P) (hR : RM h P) : ∃ g r, RM g P ∧ zEM h g ∧ hunR (hunP P) (nV P) r ∧ zl_X11_hungry_44 zFU (-4) 61 0 h = some (r, g) := by
  have h7 := c1.2.1
  obtain ⟨t, h1, h2⟩ := zl_inv0 (fun fu (s : Int32 × Int32 × zHp) i => zl_X11_hungry_44 fu s.1 s.2.1 i s.2.2) (fun i s => (RM s.2.2 P ∧ zEM h s.2.2) ∧ hunM (hunP P) i s.1 s.2.1) (fun t => RM t.2 P ∧ zEM h t.2 ∧ hunR (hunP P) (nV P) t.1) (nV P) (by omega) (-4, 61, h)
    ⟨⟨hR, zEM.rf⟩, Or.inl ⟨rfl, (show (61 : Int32) = nI 61 by decide), fun w hw => absurd hw (by omega)⟩⟩
    (fun fu i s hi hI => by
      obtain ⟨b, l, g⟩ := s
      obtain ⟨⟨j1, j2⟩, j3⟩ := hI
      obtain ⟨g', k1, k2, k3⟩ := m_hungryIn c1 hi j1
      refine Or.inr ?_
      have e3 := j1.2.1
      rcases fst_cases (hunP P i) 61 with ⟨e, q⟩ | ⟨d, q1, q2, q3⟩
      · refine ⟨(b, l, g'), ?_, ⟨k1, j2.tr k2⟩, ?_⟩
        · show zl_X11_hungry_44 (fu + 1) b l (nI i) g = zl_X11_hungry_44 fu b l (nI (i + 1)) g'
          conv => lhs; unfold zl_X11_hungry_44
          rw [e3, if_neg (by rw [zi_le (by omega) (by omega)]; omega), k3, e]
          simp only [zbs, if_pos (show (-4 : Int32) < 0 by decide), zi_one]
        · have ext : ∀ (D : Nat), D ≤ 61 → (∀ w, w < i → ∀ e, e < D → hunP P w e = false) → ∀ w, w < i + 1 → ∀ e, e < D → hunP P w e = false := fun D hD hh w hw k he => by
            by_cases c : w = i
            · rw [c]; exact q k (by omega)
            · exact hh w (by omega) k he
          rcases j3 with ⟨a1, a2, a3⟩ | ⟨w, D, a1, a2, a3, a4, a5, a6, a7⟩
          · exact Or.inl ⟨a1, a2, ext 61 (by omega) a3⟩
          · exact Or.inr ⟨w, D, a1, a2, by omega, a4, a5, ext D (by omega) a6, a7⟩
      · have e := fst_at q3 q2 (by omega) q1
        have hneg : ¬ nI d < 0 := nI_pos (by omega)
        have new : (∀ w, w < i → ∀ e, e < d → hunP P w e = false) → (∀ w, w < i → hunP P w d = false) → hunM (hunP P) (i + 1) (nI i) (nI d) := fun hh h2 => Or.inr ⟨i, d, rfl, rfl, by omega, q1, q2, fun w hw k he => by
            by_cases c : w = i
            · rw [c]; exact q3 k he
            · exact hh w (by omega) k he, h2⟩
        by_cases c : l ≤ nI d
        · refine ⟨(b, l, g'), ?_, ⟨k1, j2.tr k2⟩, ?_⟩
          · show zl_X11_hungry_44 (fu + 1) b l (nI i) g = zl_X11_hungry_44 fu b l (nI (i + 1)) g'
            conv => lhs; unfold zl_X11_hungry_44
            rw [e3, if_neg (by rw [zi_le (by omega) (by omega)]; omega), k3, e]
            simp only [zbs, if_neg hneg, if_pos c, zi_one]
          · rcases j3 with ⟨a1, a2, a3⟩ | ⟨w, D, a1, a2, a3, a4, a5, a6, a7⟩
            · exfalso
              change l = _ at a2
              rw [a2, zi_le (by omega) (by omega)] at c; omega
            · change l = _ at a2
              rw [a2, zi_le (by omega) (by omega)] at c
              refine Or.inr ⟨w, D, a1, a2, by omega, a4, a5, fun w' hw k he => ?_, a7⟩
              by_cases c9 : w' = i
              · rw [c9]; exact q3 k (by omega)
              · exact a6 w' (by omega) k he
        · refine ⟨(nI i, nI d, g'), ?_, ⟨k1, j2.tr k2⟩, ?_⟩
          · show zl_X11_hungry_44 (fu + 1) b l (nI i) g = zl_X11_hungry_44 fu (nI i) (nI d) (nI (i + 1)) g'
            conv => lhs; unfold zl_X11_hungry_44
            rw [e3, if_neg (by rw [zi_le (by omega) (by omega)]; omega), k3, e]
            simp only [zbs, if_neg hneg, if_neg c, zi_one]
          · rcases j3 with ⟨a1, a2, a3⟩ | ⟨w, D, a1, a2, a3, a4, a5, a6, a7⟩
            · exact new (fun w hw e he => a3 w hw e (by omega)) (fun w hw => a3 w hw d q1)
            · change l = _ at a2
              rw [a2, zi_le (by omega) (by omega)] at c
              exact new (fun w hw e he => a6 w hw e (by omega)) (fun w hw => a6 w hw d (by omega)))
    (fun fu s hI => by
      obtain ⟨b, l, g⟩ := s
      obtain ⟨⟨j1, j2⟩, j3⟩ := hI
      refine ⟨(b, g), ?_, j1, j2, ?_⟩
      · show zl_X11_hungry_44 (fu + 1) b l (nI (nV P)) g = _
        conv => lhs; unfold zl_X11_hungry_44
        rw [j1.2.1, if_pos (by rw [zi_le (by omega) (by omega)]; omega)]
      · rcases j3 with ⟨a1, a2, a3⟩ | ⟨w, D, a1, a2, a3, a4, a5, a6, a7⟩
        · exact Or.inl ⟨a1, a3⟩
        · exact Or.inr ⟨w, D, a1, a3, a4, a5, a6, a7⟩)
  exact ⟨t.2, t.1, h2.1, h2.2.1, h2.2.2, h1⟩
theorem zi_mm {x : Int32} (h1 : x < 0) (h2 : ¬ x < -1) : x = -1 := by
  rw [Int32.lt_iff_toInt_lt] at h1 h2
  apply Int32.toInt_inj.mp
  have : (-1 : Int32).toInt = -1 := by decide
  simp only [Int32.toInt_zero] at h1
  omega
theorem zi_sub1 {n : Nat} (h : n ≤ 7) : (nI n - 1).toInt = (n : Int) - 1 := by rw [zi_lit1, pk_sub_toInt (by omega) (by omega)]; rfl
theorem ok_hungry (x1 : Int32) : zOK (zf_X10_hungry x1) (zf_X11_hungry x1) := by
  refine zOK_ask2 (fun h h' P I S hC hM => ?_)
  obtain ⟨c1, c2, -⟩ := hC
  have h7 := c1.2.1
  obtain ⟨t1, t2⟩ := m_thr hM.1
  unfold zf_X10_hungry zf_X11_hungry
  simp only [zbs]
  rw [c2.2.2.1, t1.2.1]
  have em1 : (-1 : Int32).toInt = -1 := by decide
  by_cases k1 : x1 < -1
  · rw [if_pos k1, m_in32 x1 (-1) (nI (nV P) - 1) (by decide) rfl, if_neg (fun q => by
      have := q.1
      rw [Int32.le_iff_toInt_le] at this
      rw [Int32.lt_iff_toInt_lt] at k1
      omega)]
    exact ⟨_, _, _, rfl, zEC.rf, rfl, t1, t2⟩
  rw [if_neg k1]
  by_cases k2 : x1 < 0
  · have := zi_mm k2 k1
    subst this
    obtain ⟨g0, a1, a2, a3, a4⟩ := c_mind c2 c1
    obtain ⟨g, r, u1, u2, u3⟩ := c_hungryA k2 c1 a2 a4.C
    obtain ⟨g2, r2, v1, v2, v3, v4⟩ := m_hungryA c1 t1
    have := hunR_eq u2 v3
    subst this
    rw [if_pos (show (-1 : Int32) < nI (nV P) by rw [Int32.lt_iff_toInt_lt, nI_toInt (by omega)]; omega), m_in32 (-1) (-1) (nI (nV P) - 1) (by decide) rfl, if_pos (by
      rw [Int32.le_iff_toInt_le, Int32.le_iff_toInt_le, zi_sub1 h7]; omega)]
    simp only [zbs, z10, if_false, if_pos k2]
    rw [a1, v4]
    simp only [zbs]
    exact ⟨_, _, _, u3, u1, rfl, v1, t2.tr v2⟩
  rcases zr x1 (N := nV P) (by omega) with hx | ⟨v, hv, rfl⟩
  · have hx2 := hx.resolve_left k2
    have h1 := zr_toInt (by omega) hx
    rw [if_neg (show ¬ x1 < nI (nV P) by rw [Int32.lt_iff_toInt_lt]; rw [Int32.le_iff_toInt_le] at hx2; omega), m_in32 x1 (-1) (nI (nV P) - 1) (by decide) rfl, if_neg (fun q => by
      have := q.2
      rw [Int32.le_iff_toInt_le, zi_lit1, pk_sub_toInt (by omega) (by omega)] at this
      rw [Int32.le_iff_toInt_le, nI_toInt (by omega)] at hx2
      omega)]
    exact ⟨_, _, _, rfl, zEC.rf, rfl, t1, t2⟩
  obtain ⟨g0, a1, a2, a3, a4⟩ := c_mind c2 c1
  obtain ⟨g, u1, u3⟩ := c_hungryL c1 hv a2 a4.C
  obtain ⟨g2, v1, v2, v4⟩ := m_hungryIn c1 hv t1
  rw [if_pos (show nI v < nI (nV P) by rw [zi_lt (by omega) (by omega)]; exact hv), m_in32 (nI v) (-1) (nI (nV P) - 1) (by decide) rfl, if_pos (by
    rw [Int32.le_iff_toInt_le, Int32.le_iff_toInt_le, zi_sub1 h7, nI_toInt (by omega)]; omega)]
  simp only [zbs, z10, if_false, if_neg k2]
  rw [a1, v4]
  simp only [zbs]
  exact ⟨_, _, _, u3, u1, rfl, v1, t2.tr v2⟩
theorem c_shadeL {h : zHp} {P : zP} {D : Nat} (x : Int32) (hR : RC h 16 P) (hW : zWF D P) : zl_X10_shade_16 x h zFU 0 0 = some (bitsI (fun v => !decide (x < nI (farN (pl P v) (ch P)))) (nV P)) := by
  have h7 := hW.2.1
  have e3 := hR.2.2.1
  exact zl_acc (fun fu (a : Int32) i => zl_X10_shade_16 x h fu a i) (fun a v => a ||| (if !decide (x < nI (farN (pl P v) (ch P))) then (1 : Int32) <<< (nI v &&& 31) else 0)) id (nV P) (by omega) 0
    (fun fu i a hi => by
      have e1 := (hR.1 i (by omega)).2.2.1
      have hk := (hW.1 i (by omega)).2.2.1
      show zl_X10_shade_16 x h (fu + 1) a (nI i) = zl_X10_shade_16 x h fu _ (nI (i + 1))
      conv => lhs; unfold zl_X10_shade_16
      rw [e3, if_neg (by rw [zi_le (by omega) (by omega)]; omega), if_pos (zi_ix (show i < 7 by omega) (show 7 < 2000000000 by omega)), zi_clamp (by omega), e1, hR.2.2.2.1, c_far hk hW.2.2.1]
      simp only [zbs, zi_one]
      by_cases c : x < nI (farN (pl P i) (ch P))
      · rw [if_pos c]; simp [c]
      · rw [if_neg c]; simp [c])
    (fun fu a => by
      show zl_X10_shade_16 x h (fu + 1) a _ = _
      conv => lhs; unfold zl_X10_shade_16
      rw [e3, if_pos (by rw [zi_le (by omega) (by omega)]; omega)]; rfl)
theorem m_shadeL {h : zHp} {P : zP} {D : Nat} (x : Int32) (hR : RM h P) (hW : zWF D P) : zl_X11_shade_23 x h zFU 0 0 = some (bitsI (fun v => !decide (x < nI (farN (pl P v) (ch P)))) (nV P)) := by
  have h7 := hW.2.1
  have e3 := hR.2.1
  exact zl_acc (fun fu (a : Int32) i => zl_X11_shade_23 x h fu a i) (fun a v => a ||| (if !decide (x < nI (farN (pl P v) (ch P))) then (1 : Int32) <<< (nI v &&& 31) else 0)) id (nV P) (by omega) 0
    (fun fu i a hi => by
      have e1 := (hR.1 i (by omega)).2.2.1
      have hk := (hW.1 i (by omega)).2.2.1
      show zl_X11_shade_23 x h (fu + 1) a (nI i) = zl_X11_shade_23 x h fu _ (nI (i + 1))
      conv => lhs; unfold zl_X11_shade_23
      rw [e3, if_neg (by rw [zi_le (by omega) (by omega)]; omega), if_pos (zi_ix (show i < 7 by omega) (show 7 < 2000000000 by omega)), zi_clamp (by omega), e1, hR.2.2.1, m_farOf hk hW.2.2.1]
      simp only [zbs, zi_one]
      by_cases c : x < nI (farN (pl P i) (ch P))
      · rw [if_pos c]; simp [c]
      · rw [if_neg c]; simp [c])
    (fun fu a => by
      show zl_X11_shade_23 x h (fu + 1) a _ = _
      conv => lhs; unfold zl_X11_shade_23
      rw [e3, if_pos (by rw [zi_le (by omega) (by omega)]; omega)]; rfl)
theorem ok_shade (x1 : Int32) : zOKp (zf_X10_shade x1) (zf_X11_shade x1) := by
  refine zOKp_ask2 (fun h h' P I S hC hM => ?_)
  obtain ⟨c1, c2, -⟩ := hC
  obtain ⟨t1, t2⟩ := m_thr hM.1
  unfold zf_X10_shade zf_X11_shade
  simp only [zbs]
  rcases zr x1 (N := 7) (by omega) with hx | ⟨v, hv, rfl⟩
  · rw [m_in_out (N := 7) (by omega) (by omega) (by decide) hx]
    simp only [zbs, if_true]
    have h1 := zr_toInt (by omega) hx
    refine ⟨-1, _, ?_, rfl, t1, t2⟩
    by_cases c : x1 < 0
    · rw [if_pos c]
    · rw [if_neg c, if_neg (fun q => by
        rw [Int32.le_iff_toInt_le] at q
        have : (6 : Int32).toInt = 6 := by decide
        rw [Int32.lt_iff_toInt_lt] at c
        simp only [Int32.toInt_zero] at c
        omega)]
  · rw [m_in_in (N := 7) (by omega) hv (by decide), if_neg (nI_pos (by omega)), if_pos (by rw [show (6 : Int32) = nI 6 by decide, zi_le (by omega) (by omega)]; omega), c_shadeL _ c2 c1]
    simp only [zbs, z10, if_false]
    rw [m_shadeL _ t1 c1]
    simp only [zbs]
    exact ⟨_, _, rfl, rfl, t1, t2⟩
theorem wayK_le {k b s f d : Nat} (hb : b ≤ 12) (hs : s ≤ 6) (hf : f ≤ 6) : wayK k b s f d ≤ 23 := by
  unfold wayK
  split <;> omega
theorem wayN_le {P : zP} {D v w : Nat} (hW : zWF D P) (hv : v < 7) (hw : w < 12) : wayN P v w ≤ 23 := by
  have h1 := (hW.1 v hv).2.2.1
  have h2 := farN_le h1 hW.2.2.1
  have h3 := farN_le hW.2.2.1 hw
  have h4 := farN_le h1 hw
  exact wayK_le (by omega) h4 h3
theorem waysI_lt {P : zP} {D : Nat} (hW : zWF D P) : ∃ n, n < 1000 ∧ waysI P = nI n := by
  have key : ∀ m, m ≤ 7 → ∃ n, n ≤ 23 * m ∧ accN (fun a v => a + (if fetchN P v then nI (wayN P v (pl P (fr P v))) else 0)) m 0 = nI n := by
    intro m
    induction m with
    | zero => intro _; exact ⟨0, by omega, rfl⟩
    | succ m ih =>
      intro hm
      obtain ⟨n, h1, h2⟩ := ih (by omega)
      have hb := hW.1 m (by omega)
      have hb2 := hW.1 (fr P m) hb.2.2.2.1
      have := wayN_le hW (v := m) (by omega) hb2.2.2.1
      show ∃ n, n ≤ 23 * (m + 1) ∧ accN (fun a v => a + (if fetchN P v then nI (wayN P v (pl P (fr P v))) else 0)) m 0 + (if fetchN P m then nI (wayN P m (pl P (fr P m))) else 0) = nI n
      rw [h2]
      by_cases c : fetchN P m = true
      · rw [if_pos c, nI_add]; exact ⟨_, by omega, rfl⟩
      · rw [if_neg c, zi_lit0, nI_add]; exact ⟨_, by omega, rfl⟩
  obtain ⟨n, h1, h2⟩ := key (nV P) hW.2.1
  exact ⟨n, by have := hW.2.1; omega, h2⟩
def sitC (f : Nat → Int32) (s : Int32 × Int32) (i : Nat) : Int32 × Int32 := if s.2 ≤ f i then s else (nI i, f i)
def sitM (f : Nat → Int32) (s : Int32 × Int32) (i : Nat) : Int32 × Int32 := if s.1 < 0 then (nI i, f i) else if s.2 ≤ f i then s else (nI i, f i)
theorem sit_eq {f : Nat → Int32} (h0 : ¬ (1000000 : Int32) ≤ f 0) : ∀ n, n < 1000 → accN (sitC f) (n + 1) (0, 1000000) = accN (sitM f) (n + 1) (-1, 0) ∧ ¬ (accN (sitM f) (n + 1) (-1, 0)).1 < 0 := by
  intro n
  induction n with
  | zero =>
    intro _
    have a : accN (sitC f) 1 (0, 1000000) = (nI 0, f 0) := by show sitC f (0, 1000000) 0 = _; unfold sitC; rw [if_neg h0]
    have b : accN (sitM f) 1 (-1, 0) = (nI 0, f 0) := by show sitM f (-1, 0) 0 = _; unfold sitM; rw [if_pos (by decide)]
    rw [a, b]
    exact ⟨rfl, nI_pos (by omega)⟩
  | succ n ih =>
    intro hn
    obtain ⟨i1, i2⟩ := ih (by omega)
    have a : accN (sitC f) (n + 1 + 1) (0, 1000000) = sitC f (accN (sitM f) (n + 1) (-1, 0)) (n + 1) := by rw [← i1]; rfl
    have b : accN (sitM f) (n + 1 + 1) (-1, 0) = sitC f (accN (sitM f) (n + 1) (-1, 0)) (n + 1) := by
      show sitM f (accN (sitM f) (n + 1) (-1, 0)) (n + 1) = _
      generalize accN (sitM f) (n + 1) (-1, 0) = s at i2
      unfold sitM
      rw [if_neg i2]
      rfl
    refine ⟨by rw [a, b], ?_⟩
    rw [b]
    unfold sitC
    split
    · exact i2
    · exact nI_pos (by omega)
def sitV (P : zP) (i : Nat) : Int32 := waysI (setCh P i (dy P))
theorem sitV_eq (P : zP) (c d i : Nat) : sitV (setCh P c d) i = waysI (setCh P i d) := rfl
theorem c_sitL {h g0 : zHp} {P : zP} (c1 : zWF 999 P) (a2 : RC g0 25 P) (a4 : zEC h g0) : ∃ g, zEC h g ∧ zl_X10_sit_30 zFU 0 1000000 0 g0 = some ((accN (sitC (sitV P)) 12 (0, 1000000)).1, (accN (sitC (sitV P)) 12 (0, 1000000)).2, g) := by
  obtain ⟨t, h1, h2⟩ := zl_inv0 (fun fu (s : Int32 × Int32 × zHp) i => zl_X10_sit_30 fu s.1 s.2.1 i s.2.2) (fun i s => (s.1, s.2.1) = accN (sitC (sitV P)) i (0, 1000000) ∧ (∃ c, c < 12 ∧ RC s.2.2 25 (setCh P c (dy P))) ∧ zEC h s.2.2) (fun t => (t.1, t.2.1) = accN (sitC (sitV P)) 12 (0, 1000000) ∧ zEC h t.2.2) 12 (by omega) (0, 1000000, g0)
    ⟨rfl, ⟨ch P, c1.2.2.1, a2⟩, a4⟩
    (fun fu i s hi hI => by
      obtain ⟨b, l, g⟩ := s
      obtain ⟨j1, ⟨c, j2, j3⟩, j4⟩ := hI
      have r1 : RC (zc_ui g 25 10 (nI i)) 25 (setCh P i (dy P)) := RC_ch (P := setCh P c (dy P)) (x := i) j3
      have e1 := c_allWays r1 (wf_ch c1 hi) (by omega)
      refine Or.inr ⟨((sitC (sitV P) (b, l) i).1, (sitC (sitV P) (b, l) i).2, zc_ui g 25 10 (nI i)), ?_, ?_, ⟨i, hi, r1⟩, j4.tr (zEC.u (by omega))⟩
      · show zl_X10_sit_30 (fu + 1) b l (nI i) g = zl_X10_sit_30 fu (sitC (sitV P) (b, l) i).1 (sitC (sitV P) (b, l) i).2 (nI (i + 1)) (zc_ui g 25 10 (nI i))
        conv => lhs; unfold zl_X10_sit_30
        rw [if_neg (by rw [show (12 : Int32) = nI 12 by decide, zi_le (by omega) (by omega)]; omega)]
        simp only [zbs]
        rw [e1]
        simp only [zbs, zi_one]
        unfold sitC
        show _ = zl_X10_sit_30 fu (if l ≤ waysI (setCh P i (dy P)) then (b, l) else (nI i, waysI (setCh P i (dy P)))).1 (if l ≤ waysI (setCh P i (dy P)) then (b, l) else (nI i, waysI (setCh P i (dy P)))).2 (nI (i + 1)) (zc_ui g 25 10 (nI i))
        split <;> rfl
      · show sitC (sitV P) (b, l) i = sitC (sitV P) (accN (sitC (sitV P)) i (0, 1000000)) i
        rw [← j1])
    (fun fu s hI => by
      obtain ⟨b, l, g⟩ := s
      refine ⟨(b, l, g), ?_, hI.1, hI.2.2⟩
      show zl_X10_sit_30 (fu + 1) b l (nI 12) g = _
      conv => lhs; unfold zl_X10_sit_30
      rw [if_pos (by decide)])
  obtain ⟨b, l, g⟩ := t
  refine ⟨g, h2.2, ?_⟩
  rw [← h2.1]
  exact h1
theorem m_sitL {h g0 : zHp} {P : zP} (c1 : zWF 999 P) (a2 : RM g0 P) (a3 : KA g0 75 P) (a4 : zEM h g0) : ∃ g, KA g 75 P ∧ zEM h g ∧ zl_X11_sit_28 zFU (-1) 0 0 g0 = some ((accN (sitM (sitV P)) 12 (-1, 0)).1, (accN (sitM (sitV P)) 12 (-1, 0)).2, g) := by
  obtain ⟨t, h1, h2⟩ := zl_inv0 (fun fu (s : Int32 × Int32 × zHp) i => zl_X11_sit_28 fu s.1 s.2.1 i s.2.2) (fun i s => (s.1, s.2.1) = accN (sitM (sitV P)) i (-1, 0) ∧ (∃ c, c < 12 ∧ RM s.2.2 (setCh P c (dy P))) ∧ KA s.2.2 75 P ∧ zEM h s.2.2) (fun t => (t.1, t.2.1) = accN (sitM (sitV P)) 12 (-1, 0) ∧ KA t.2.2 75 P ∧ zEM h t.2.2) 12 (by omega) (-1, 0, g0)
    ⟨rfl, ⟨ch P, c1.2.2.1, a2⟩, a3, a4⟩
    (fun fu i s hi hI => by
      obtain ⟨b, l, g⟩ := s
      obtain ⟨j1, ⟨c, j2, j3⟩, j4, j5⟩ := hI
      have r1 : RM (zc_ui g 60 0 (nI i)) (setCh P i (dy P)) := RM_ch (P := setCh P c (dy P)) (x := i) j3
      have r2 : zEm g (zc_ui g 60 0 (nI i)) := zEm.uf (Or.inl rfl)
      have e1 := m_allWays r1 (wf_ch c1 hi) (by omega)
      refine Or.inr ⟨((sitM (sitV P) (b, l) i).1, (sitM (sitV P) (b, l) i).2, zc_ui g 60 0 (nI i)), ?_, ?_, ⟨i, hi, r1⟩, KA_m j4 r2, j5.tr r2.M⟩
      · show zl_X11_sit_28 (fu + 1) b l (nI i) g = zl_X11_sit_28 fu (sitM (sitV P) (b, l) i).1 (sitM (sitV P) (b, l) i).2 (nI (i + 1)) (zc_ui g 60 0 (nI i))
        conv => lhs; unfold zl_X11_sit_28
        rw [if_neg (by rw [show (12 : Int32) = nI 12 by decide, zi_le (by omega) (by omega)]; omega)]
        simp only [zbs]
        rw [e1]
        simp only [zbs, zi_one]
        unfold sitM
        show _ = zl_X11_sit_28 fu (if b < 0 then (nI i, waysI (setCh P i (dy P))) else if l ≤ waysI (setCh P i (dy P)) then (b, l) else (nI i, waysI (setCh P i (dy P)))).1 (if b < 0 then (nI i, waysI (setCh P i (dy P))) else if l ≤ waysI (setCh P i (dy P)) then (b, l) else (nI i, waysI (setCh P i (dy P)))).2 (nI (i + 1)) (zc_ui g 60 0 (nI i))
        by_cases k1 : b < 0
        · simp only [if_pos k1, zbs, z10, if_false]
        · by_cases k2 : l ≤ waysI (setCh P i (dy P))
          · simp only [if_neg k1, if_pos k2, zbs, if_true]
          · simp only [if_neg k1, if_neg k2, zbs, z10, if_false]
      · show sitM (sitV P) (b, l) i = sitM (sitV P) (accN (sitM (sitV P)) i (-1, 0)) i
        rw [← j1])
    (fun fu s hI => by
      obtain ⟨b, l, g⟩ := s
      refine ⟨(b, l, g), ?_, hI.1, hI.2.2.1, hI.2.2.2⟩
      show zl_X11_sit_28 (fu + 1) b l (nI 12) g = _
      conv => lhs; unfold zl_X11_sit_28
      rw [if_pos (by decide)])
  obtain ⟨b, l, g⟩ := t
  refine ⟨g, h2.2.1, h2.2.2, ?_⟩
  rw [← h2.1]
  exact h1
theorem ok_sit (x1 : Int32) : zOK (zf_X10_sit x1) (zf_X11_sit x1) := by
  refine zOK_ask2 (fun h h' P I S hC hM => ?_)
  obtain ⟨c1, c2, -⟩ := hC
  obtain ⟨t1, t2⟩ := m_thr hM.1
  obtain ⟨w, w1, w2⟩ := waysI_lt (wf_ch c1 (x := 0) (by omega))
  have es := (sit_eq (f := sitV P) (by
    show ¬ (1000000 : Int32) ≤ waysI (setCh P 0 (dy P))
    rw [w2, show (1000000 : Int32) = nI 1000000 by decide, zi_le (by omega) (by omega)]; omega) 11 (by omega)).1
  unfold zf_X10_sit zf_X11_sit
  simp only [zbs]
  obtain ⟨g0, a1, a2, a3, a4⟩ := c_mind c2 c1
  obtain ⟨k1, p1, p2, p3, p4⟩ := m_think t1
  obtain ⟨g1, u1, u2⟩ := c_sitL c1 a2 a4.C
  obtain ⟨g2, v1, v2, v3⟩ := m_sitL c1 p2 p3 (t2.tr p4.M)
  obtain ⟨k3, s1, s2, s3⟩ := m_again v1
  rw [es] at u2
  rcases zr x1 (N := 2) (by omega) with hx | ⟨v, hv, rfl⟩
  · rw [m_in_out (N := 2) (by omega) (by omega) (by decide) hx]
    have n0 : ¬ x1 = 0 := fun q => by subst q; exact absurd hx (by decide)
    have n1 : ¬ x1 = 1 := fun q => by subst q; exact absurd hx (by decide)
    simp only [zbs, if_true, if_neg n0, if_neg n1, Sum.elim_inl]
    exact ⟨_, _, _, rfl, zEC.rf, rfl, t1, t2⟩
  · rw [m_in_in (N := 2) (by omega) hv (by decide)]
    have hv2 : v = 0 ∨ v = 1 := by omega
    rcases hv2 with rfl | rfl
    · simp only [show nI 0 = 0 from rfl, zbs, if_true, z10, if_false, Sum.elim_inr]
      rw [a1, p1]
      simp only [zbs]
      rw [u2, v3]
      simp only [zbs]
      rw [s1]
      exact ⟨_, _, _, rfl, u1, rfl, s2, v2.tr s3.M⟩
    · simp only [show nI 1 = 1 from rfl, zbs, if_true, z10, if_false, Sum.elim_inr]
      rw [a1, p1]
      simp only [zbs]
      rw [u2, v3]
      simp only [zbs]
      rw [s1]
      exact ⟨_, _, _, rfl, u1, rfl, s2, v2.tr s3.M⟩

/-! a whole statement, and all of them -/
theorem m_isLetter (c : Int32) : zf_X11_isLetter c = some (if nD c = 0 then 0 else 1) := by
  unfold zf_X11_isLetter
  by_cases h : nD c = 0
  · rw [if_pos h]
    have h1 : ¬ c = 118 := fun q => by subst q; exact absurd h (by decide)
    have h2 : ¬ c = 99 := fun q => by subst q; exact absurd h (by decide)
    have h3 : ¬ c = 115 := fun q => by subst q; exact absurd h (by decide)
    have h4 : ¬ c = 107 := fun q => by subst q; exact absurd h (by decide)
    have h5 : ¬ c = 102 := fun q => by subst q; exact absurd h (by decide)
    have h6 : ¬ c = 100 := fun q => by subst q; exact absurd h (by decide)
    rw [if_neg h1, if_neg h2, if_neg h3, if_neg h4, if_neg h5, if_neg h6]
  · rw [if_neg h]
    rcases nD_c h with (h | h) | h | h | h | h <;> subst h <;> rfl
/-- the rows of the statements ahead of k -/
def zPr (k : Nat) (h g : zHp) : Prop := (∀ i, i < k → g.1 72 i = h.1 72 i ∧ g.1 73 i = h.1 73 i) ∧ ∀ i, i < 4 * k → g.1 74 i = h.1 74 i
theorem RS_f {g0 g : zHp} {d p k p' k' : Nat} {bad bad' : Bool} (hR : RS g0 g d p k bad) (b' : Int32) (hb : b' = if bad' then 1 else 0) : RS g0 (zc_ui g 60 20 b') d p k bad' := by
  obtain ⟨r1, r2, r3, r4, r5⟩ := hR
  exact ⟨r1.tr (zRd.f (by omega)), by rw [zu_n (by omega)]; exact r2, by rw [zu_n (by omega)]; exact r3, by rw [zu_y]; exact hb, by rw [zu_n (by omega)]; exact r5⟩
theorem RS_p {g0 g : zHp} {d p k p' : Nat} {bad : Bool} (hR : RS g0 g d p k bad) : RS g0 (zc_ui g 60 19 (nI p')) d p' k bad := by
  obtain ⟨r1, r2, r3, r4, r5⟩ := hR
  exact ⟨r1.tr (zRd.f (by omega)), by rw [zu_n (by omega)]; exact r2, by rw [zu_y], by rw [zu_n (by omega)]; exact r4, by rw [zu_n (by omega)]; exact r5⟩
theorem RS_k {g0 g : zHp} {d p k k' : Nat} {bad : Bool} (hR : RS g0 g d p k bad) : RS g0 (zc_ui g 60 21 (nI k')) d p k' bad := by
  obtain ⟨r1, r2, r3, r4, r5⟩ := hR
  exact ⟨r1.tr (zRd.f (by omega)), by rw [zu_n (by omega)]; exact r2, by rw [zu_n (by omega)]; exact r3, by rw [zu_n (by omega)]; exact r4, by rw [zu_y]⟩
theorem m_stmt {g0 g : zHp} {S : zS} {d p k : Nat} (hW : zSW S) (hS : SM g0 S) (hd : d < 8) (hp : p ≤ sL S d) (hk : k < 51) (hR : RS g0 g d p k false) :
    ∃ g', zf_X11_readStatement g = some g' ∧ zPr k g g' ∧ (match psS (sV S d) (sL S d) p with
      | .inl j => RS g0 g' d j (k + 1) true
      | .inr j => RS g0 g' d j (k + 1) false ∧ g'.1 72 k = nI p ∧ g'.1 73 k = sV S d p ∧ tdV (sV S d) g' k (sV S d p) (p + 1)) := by
  have w : sL S d ≤ 100 := (hW d hd).2.2.2.2
  have e1 := m_here hW hS hd hp hR
  have hR1 := hR
  obtain ⟨r1, r2, r3, r4, r5⟩ := hR1
  generalize hc : hrN (sV S d) (sL S d) p = c at e1
  -- the letter
  have hR5 : RS g0 (zc_ui (zc_ui g 72 k (nI p)) 73 k c) d p k false := RS_u (RS_u hR (by omega)) (by omega)
  have e5 : ((if ((zc_ui (zc_ui g 72 k (nI p)) 73 k c).1 60 20) = 0 then ((zf_X11_isLetter c).bind (fun r6 => (if r6 = 0 then some (1 : Int32) else some (0 : Int32)))) else some (1 : Int32)) : Option Int32) = some (if decide (nD c = 0) then 1 else 0) := by
    rw [hR5.2.2.2.1, if_pos (by decide), m_isLetter, zbs]
    by_cases q : nD c = 0
    · rw [if_pos q, decide_eq_true q]; rfl
    · rw [if_neg q, decide_eq_false q]; rfl
  have E5 : ∀ a, a ≠ 60 → a ≠ 72 → a ≠ 73 → (zc_ui (zc_ui g 72 k (nI p)) 73 k c).1 a = g.1 a := fun a _ h2 h3 => by funext j; rw [zu_n (by omega), zu_n (by omega)]
  have E72 : ∀ j, (zc_ui (zc_ui g 72 k (nI p)) 73 k c).1 72 j = if j = k then nI p else g.1 72 j := fun j => by rw [zu_n (by omega), zu_w]
  have E73 : ∀ j, (zc_ui (zc_ui g 72 k (nI p)) 73 k c).1 73 j = if j = k then c else g.1 73 j := fun j => by rw [zu_w, zu_n (by omega)]
  have hx : zc_ix (nI k) 51 := zi_ix hk (by omega)
  unfold zf_X11_readStatement
  rw [e1, zbs, r5, if_pos hx, zbs, if_pos hx, zbs, zi_clamp (show k < 2000000000 by omega), r3, e5, zbs, show (4 : Int32) * nI k = nI (4 * k) by rw [show (4 : Int32) = nI 4 by decide, pk_mul]]
  generalize zc_ui (zc_ui g 72 k (nI p)) 73 k c = g5 at hR5 E5 E72 E73
  clear e5
  have bo1 : zc_bo (if decide (nD c = 0) = true then (1 : Int32) else 0) := by cases decide (nD c = 0) <;> decide
  rw [if_pos bo1, zbs]
  have hR9 : RS g0 (zc_ui g5 60 20 (if decide (nD c = 0) then 1 else 0)) d p k (decide (nD c = 0)) := RS_f (p' := 0) (k' := 0) hR5 _ rfl
  have E9 : ∀ a, a ≠ 60 → (zc_ui g5 60 20 (if decide (nD c = 0) then 1 else 0)).1 a = g5.1 a := fun a h1 => by funext j; rw [zu_n (by omega)]
  generalize zc_ui g5 60 20 (if decide (nD c = 0) = true then 1 else 0) = g9 at hR9 E9
  rw [hR9.2.2.2.1]
  by_cases q : nD c = 0
  · -- no letter
    rw [decide_eq_true q] at hR9 ⊢
    simp only [if_true, z10, if_false, zbs]
    have ps : psS (sV S d) (sL S d) p = .inl p := by
      unfold psS
      by_cases c1 : sL S d ≤ p
      · rw [if_pos c1]
      · have : c = sV S d p := by rw [← hc]; unfold hrN; rw [if_pos (by omega)]
        rw [if_neg c1, ← this, if_pos q]
    rw [hR9.2.2.1, show nI p + 0 = nI p by rw [zi_lit0, nI_add]; rfl]
    have hR11 : RS g0 (zc_ui g9 60 19 (nI p)) d p k true := RS_p hR9
    have E11 : ∀ a, a ≠ 60 → (zc_ui g9 60 19 (nI p)).1 a = g9.1 a := fun a h1 => by funext j; rw [zu_n (by omega)]
    generalize zc_ui g9 60 19 (nI p) = g11 at hR11 E11
    rw [hR11.2.2.2.1]
    simp only [if_true, z10, if_false, zbs]
    rw [hR11.2.2.2.1]
    simp only [if_true, z10, if_false, zbs]
    rw [if_pos (show zc_bo (1 : Int32) from Or.inr rfl)]
    have hR17 : RS g0 (zc_ui g11 60 20 1) d p k true := RS_f (p' := 0) (k' := 0) hR11 _ rfl
    have E17 : ∀ a, a ≠ 60 → (zc_ui g11 60 20 1).1 a = g11.1 a := fun a h1 => by funext j; rw [zu_n (by omega)]
    generalize zc_ui g11 60 20 1 = g17 at hR17 E17
    rw [hR17.2.2.2.1, hR17.2.2.1]
    simp only [if_true, z10, if_false, zbs]
    rw [show nI p + 0 = nI p by rw [zi_lit0, nI_add]; rfl]
    have hR19 : RS g0 (zc_ui g17 60 19 (nI p)) d p k true := RS_p hR17
    have E19 : ∀ a, a ≠ 60 → (zc_ui g17 60 19 (nI p)).1 a = g17.1 a := fun a h1 => by funext j; rw [zu_n (by omega)]
    generalize zc_ui g17 60 19 (nI p) = g19 at hR19 E19
    rw [hR19.2.2.2.2, zi_one]
    refine ⟨_, rfl, ⟨fun i hi => ?_, fun i hi => ?_⟩, ?_⟩
    · constructor
      · rw [zu_n (by omega), E19 72 (by omega), E17 72 (by omega), E11 72 (by omega), E9 72 (by omega), E72, if_neg (by omega)]
      · rw [zu_n (by omega), E19 73 (by omega), E17 73 (by omega), E11 73 (by omega), E9 73 (by omega), E73, if_neg (by omega)]
    · rw [zu_n (by omega), E19 74 (by omega), E17 74 (by omega), E11 74 (by omega), E9 74 (by omega), E5 74 (by omega) (by omega) (by omega)]
    · rw [ps]; exact RS_k hR19
  · -- a letter
    rw [decide_eq_false q] at hR9 ⊢
    have hpL : p < sL S d := by
      by_cases c1 : p < sL S d
      · exact c1
      · have : c = -999 := by rw [← hc]; unfold hrN; rw [if_neg c1]
        rw [this] at q; exact absurd (by decide) q
    have hcT : c = sV S d p := by rw [← hc]; unfold hrN; rw [if_pos hpL]
    simp only [Bool.false_eq_true, if_false, if_true, zbs]
    rw [hR9.2.2.1, zi_one]
    have hR11 : RS g0 (zc_ui g9 60 19 (nI (p + 1))) d (p + 1) k false := RS_p hR9
    have E11 : ∀ a, a ≠ 60 → (zc_ui g9 60 19 (nI (p + 1))).1 a = g9.1 a := fun a h1 => by funext j; rw [zu_n (by omega)]
    generalize zc_ui g9 60 19 (nI (p + 1)) = g11 at hR11 E11
    rw [hR11.2.2.2.1]
    simp only [Bool.false_eq_true, if_false, if_true, zbs]
    obtain ⟨g13, a1, a2, a3, a4, a5⟩ := m_numbers hW hS hd (show p + 1 ≤ sL S d by omega) hk q hR11
    rw [a1, zbs, zbs]
    have hsl := sc_le (T := sV S d) (L := sL S d) (nD c) (p + 1) (show p + 1 ≤ sL S d by omega)
    have ps : psS (sV S d) (sL S d) p = if (scS (sV S d) (sL S d) (nD c) (p + 1, false)).2 then .inl (scS (sV S d) (sL S d) (nD c) (p + 1, false)).1 else if (scS (sV S d) (sL S d) (nD c) (p + 1, false)).1 < sL S d ∧ sV S d (scS (sV S d) (sL S d) (nD c) (p + 1, false)).1 = 59 then .inr ((scS (sV S d) (sL S d) (nD c) (p + 1, false)).1 + 1) else .inl (scS (sV S d) (sL S d) (nD c) (p + 1, false)).1 := by
      unfold psS
      rw [if_neg (show ¬ sL S d ≤ p by omega), ← hcT, if_neg q]
    rw [ps]
    generalize hs : scS (sV S d) (sL S d) (nD c) (p + 1, false) = s at a2 a3 hsl
    obtain ⟨j, b⟩ := s
    change RS g0 g13 d j k b at a2
    change b = false → tdV (sV S d) g13 k c (p + 1) at a3
    change j ≤ sL S d at hsl
    have e2 := m_here hW hS hd hsl a2
    have e15 : ((if (g13.1 60 20) = 0 then ((zf_X11_here g13).bind (fun r14 => (if r14 = (59 : Int32) then some (0 : Int32) else some (1 : Int32)))) else some (1 : Int32)) : Option Int32) = some (if (b || !decide (j < sL S d ∧ sV S d j = 59)) then 1 else 0) := by
      rw [a2.2.2.2.1, e2, zbs]
      cases b
      · rw [if_pos (by decide)]
        unfold hrN
        by_cases c1 : j < sL S d
        · rw [if_pos c1]
          by_cases c2 : sV S d j = 59
          · rw [if_pos c2, decide_eq_true (show j < sL S d ∧ sV S d j = 59 from ⟨c1, c2⟩)]; rfl
          · rw [if_neg c2, decide_eq_false (show ¬ (j < sL S d ∧ sV S d j = 59) from fun q => c2 q.2)]; rfl
        · rw [if_neg c1, if_neg (by decide), decide_eq_false (show ¬ (j < sL S d ∧ sV S d j = 59) from fun q => c1 q.1)]; rfl
      · rfl
    rw [e15, zbs]
    generalize hb : (b || !decide (j < sL S d ∧ sV S d j = 59)) = bb
    rw [if_pos (show zc_bo (if bb = true then (1 : Int32) else 0) by cases bb <;> decide)]
    have hR17 : RS g0 (zc_ui g13 60 20 (if bb then 1 else 0)) d j k bb := RS_f (p' := 0) (k' := 0) a2 _ rfl
    have E17 : ∀ a, a ≠ 60 → (zc_ui g13 60 20 (if bb then 1 else 0)).1 a = g13.1 a := fun a h1 => by funext i; rw [zu_n (by omega)]
    generalize zc_ui g13 60 20 (if bb = true then 1 else 0) = g17 at hR17 E17
    have e18 : ((if (g17.1 60 20) = 0 then some (1 : Int32) else some (0 : Int32)) : Option Int32) = some (if bb then 0 else 1) := by
      rw [hR17.2.2.2.1]; cases bb <;> rfl
    rw [e18, zbs, hR17.2.2.1]
    have e19 : nI j + (if bb = true then (0 : Int32) else 1) = nI (if bb then j else j + 1) := by
      cases bb
      · exact zi_one j
      · show nI j + 0 = nI j
        rw [zi_lit0, nI_add]; rfl
    rw [e19]
    have hR19 : RS g0 (zc_ui g17 60 19 (nI (if bb then j else j + 1))) d (if bb then j else j + 1) k bb := RS_p hR17
    have E19 : ∀ a, a ≠ 60 → (zc_ui g17 60 19 (nI (if bb then j else j + 1))).1 a = g17.1 a := fun a h1 => by funext i; rw [zu_n (by omega)]
    generalize zc_ui g17 60 19 (nI (if bb then j else j + 1)) = g19 at hR19 E19
    rw [hR19.2.2.2.2, zi_one]
    have hR20 : RS g0 (zc_ui g19 60 21 (nI (k + 1))) d (if bb then j else j + 1) (k + 1) bb := RS_k hR19
    have E20 : ∀ a, a ≠ 60 → (zc_ui g19 60 21 (nI (k + 1))).1 a = g13.1 a := fun a h1 => by
      rw [← E17 a h1, ← E19 a h1]; funext i; rw [zu_n (by omega)]
    refine ⟨_, rfl, ⟨fun i hi => ?_, fun i hi => ?_⟩, ?_⟩
    · constructor
      · rw [E20 72 (by omega), a5 72 (by omega) (by omega), E11 72 (by omega), E9 72 (by omega), E72, if_neg (by omega)]
      · rw [E20 73 (by omega), a5 73 (by omega) (by omega), E11 73 (by omega), E9 73 (by omega), E73, if_neg (by omega)]
    · rw [E20 74 (by omega), a4 i hi, E11 74 (by omega), E9 74 (by omega), E5 74 (by omega) (by omega) (by omega)]
    · dsimp only
      cases b
      · by_cases c1 : j < sL S d ∧ sV S d j = 59
        · rw [decide_eq_true c1] at hb
          have hb' : bb = false := by rw [← hb]; rfl
          subst hb'
          rw [if_neg (show ¬ (false = true) by decide), if_pos c1]
          refine ⟨hR20, ?_, ?_, ?_⟩
          · rw [E20 72 (by omega), a5 72 (by omega) (by omega), E11 72 (by omega), E9 72 (by omega), E72, if_pos rfl]
          · rw [E20 73 (by omega), a5 73 (by omega) (by omega), E11 73 (by omega), E9 73 (by omega), E73, if_pos rfl, hcT]
          · rw [← hcT]
            exact tdV_of (a3 rfl) (fun i _ _ => by rw [E20 74 (by omega)])
        · rw [decide_eq_false c1] at hb
          have hb' : bb = true := by rw [← hb]; rfl
          subst hb'
          rw [if_neg (show ¬ (false = true) by decide), if_neg c1]
          exact hR20
      · have hb' : bb = true := by rw [← hb]; rfl
        subst hb'
        rw [if_pos rfl]
        exact hR20

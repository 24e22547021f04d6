/-! the reference reads a statement -/
theorem sc1_le {T : Nat → Int32} {L : Nat} {s : Nat × Bool} (h : s.1 ≤ L) : (sc1 T L s).1 ≤ L := by
  unfold sc1
  by_cases c : (!s.2 && okD T L s.1) = true
  · rw [if_pos c]
    rw [Bool.and_eq_true] at c
    exact (dv_ok c.2).1
  · rw [if_neg c]; exact h
theorem RS_u {g0 g : zHp} {d p k a j : Nat} {bad : Bool} {x : Int32} (hR : RS g0 g d p k bad) (ha : a = 72 ∨ a = 73 ∨ a = 74) : RS g0 (zc_ui g a j x) d p k bad := by
  obtain ⟨r1, r2, r3, r4, r5⟩ := hR
  exact ⟨r1.tr (zRd.u ha), by rw [zu_n (by omega)]; exact r2, by rw [zu_n (by omega)]; exact r3, by rw [zu_n (by omega)]; exact r4, by rw [zu_n (by omega)]; exact r5⟩
def oth (h g : zHp) : Prop := ∀ a, a ≠ 60 → a ≠ 74 → g.1 a = h.1 a
theorem m_rn1 {g0 g : zHp} {S : zS} {d k j : Nat} {s : Nat × Bool} {X : Int32} (K : zHp → Option zHp) (hW : zSW S) (hS : SM g0 S) (hd : d < 8) (hp : s.1 ≤ sL S d) (hR : RS g0 g d s.1 k s.2) (hX : X = nI j) (hj : j < 204) :
    ∃ g', ((zf_X11_readDigits 1 g).bind (fun r => if zc_ix X 204 then ((some (zc_ui r.2 74 X.toNatClampNeg r.1) : Option zHp).bind K) else none)) = K g' ∧ RS g0 g' d (sc1 (sV S d) (sL S d) s).1 k (sc1 (sV S d) (sL S d) s).2 ∧ g'.1 74 j = nI (rdV (sV S d) (sL S d) s) ∧ (∀ i, i ≠ j → g'.1 74 i = g.1 74 i) ∧ oth g g' := by
  obtain ⟨g1, a1, a2, a3⟩ := m_rd1 hW hS hd hp hR
  refine ⟨zc_ui g1 74 j (nI (rdV (sV S d) (sL S d) s)), ?_, RS_u a2 (by omega), by rw [zu_y], fun i hi => ?_, fun a h1 h2 => ?_⟩
  · rw [a1, zbs, hX, if_pos (zi_ix hj (by omega)), zbs, zi_clamp (by omega)]
  · rw [zu_n (by omega), a3 74 (by omega)]
  · funext i; rw [zu_n (by omega), a3 a h1]
theorem m_rn2 {g0 g : zHp} {S : zS} {d k j : Nat} {s : Nat × Bool} {X : Int32} (K : zHp → Option zHp) (hW : zSW S) (hS : SM g0 S) (hd : d < 8) (hp : s.1 ≤ sL S d) (hR : RS g0 g d s.1 k s.2) (hX : X = nI j) (hj : j < 204) :
    ∃ g', ((zf_X11_readDigits 2 g).bind (fun r => if zc_ix X 204 then ((some (zc_ui r.2 74 X.toNatClampNeg r.1) : Option zHp).bind K) else none)) = K g' ∧ RS g0 g' d (sc1 (sV S d) (sL S d) (sc1 (sV S d) (sL S d) s)).1 k (sc1 (sV S d) (sL S d) (sc1 (sV S d) (sL S d) s)).2 ∧ g'.1 74 j = nI (rdW (sV S d) (sL S d) s) ∧ (∀ i, i ≠ j → g'.1 74 i = g.1 74 i) ∧ oth g g' := by
  obtain ⟨g1, a1, a2, a3⟩ := m_rd2 hW hS hd hp hR
  refine ⟨zc_ui g1 74 j (nI (rdW (sV S d) (sL S d) s)), ?_, RS_u a2 (by omega), by rw [zu_y], fun i hi => ?_, fun a h1 h2 => ?_⟩
  · rw [a1, zbs, hX, if_pos (zi_ix hj (by omega)), zbs, zi_clamp (by omega)]
  · rw [zu_n (by omega), a3 74 (by omega)]
  · funext i; rw [zu_n (by omega), a3 a h1]
theorem sc1_y {T : Nat → Int32} {L p : Nat} (h : okD T L p = true) : sc1 T L (p, false) = (p + 1, false) := by
  unfold sc1; rw [h]; rfl
theorem rdV_y {T : Nat → Int32} {L p : Nat} (h : okD T L p = true) : rdV T L (p, false) = dv T p := by
  unfold rdV; rw [h]; rfl
theorem rdW_y {T : Nat → Int32} {L p : Nat} (h : okD T L p = true) (h2 : okD T L (p + 1) = true) : rdW T L (p, false) = 10 * dv T p + dv T (p + 1) := by
  unfold rdW; rw [sc1_y h, sc1_y h2]; rfl
/-- what is told of statement k: letter c, its digits from p on -/
def tdV (T : Nat → Int32) (h : zHp) (k : Nat) (c : Int32) (p : Nat) : Prop :=
  (c = 99 ∨ c = 100 → h.1 74 (4 * k) = nI (10 * dv T p + dv T (p + 1))) ∧
  (c = 102 → h.1 74 (4 * k) = nI (dv T p) ∧ h.1 74 (4 * k + 1) = nI (dv T (p + 1))) ∧
  (c = 107 ∨ c = 115 → h.1 74 (4 * k) = nI (dv T p) ∧ h.1 74 (4 * k + 1) = nI (10 * dv T (p + 1) + dv T (p + 2))) ∧
  (c = 118 → h.1 74 (4 * k) = nI (dv T p) ∧ h.1 74 (4 * k + 1) = nI (dv T (p + 1)) ∧ h.1 74 (4 * k + 2) = nI (10 * dv T (p + 2) + dv T (p + 3)) ∧ h.1 74 (4 * k + 3) = nI (dv T (p + 4)))
theorem tdV_of {T : Nat → Int32} {h g : zHp} {k p : Nat} {c : Int32} (ht : tdV T h k c p) (e : ∀ j, 4 * k ≤ j → j < 4 * k + 4 → g.1 74 j = h.1 74 j) : tdV T g k c p := by
  unfold tdV at ht ⊢
  rw [e (4 * k) (by omega) (by omega), e (4 * k + 1) (by omega) (by omega), e (4 * k + 2) (by omega) (by omega), e (4 * k + 3) (by omega) (by omega)]
  exact ht
theorem nD_c {c : Int32} (h : nD c ≠ 0) : (c = 99 ∨ c = 100) ∨ c = 102 ∨ c = 107 ∨ c = 115 ∨ c = 118 := by
  unfold nD at h
  by_cases c1 : c = 99
  · exact Or.inl (Or.inl c1)
  by_cases c2 : c = 100
  · exact Or.inl (Or.inr c2)
  by_cases c3 : c = 102
  · exact Or.inr (Or.inl c3)
  by_cases c4 : c = 107
  · exact Or.inr (Or.inr (Or.inl c4))
  by_cases c5 : c = 115
  · exact Or.inr (Or.inr (Or.inr (Or.inl c5)))
  by_cases c6 : c = 118
  · exact Or.inr (Or.inr (Or.inr (Or.inr c6)))
  rw [if_neg c1, if_neg c2, if_neg c3, if_neg c4, if_neg c5, if_neg c6] at h
  exact absurd rfl h
theorem m_numbers {g0 g : zHp} {S : zS} {d p k : Nat} {c : Int32} (hW : zSW S) (hS : SM g0 S) (hd : d < 8) (hp : p ≤ sL S d) (hk : k < 51) (hc : nD c ≠ 0) (hR : RS g0 g d p k false) :
    ∃ g', zf_X11_readNumbers c (nI (4 * k)) g = some g' ∧ RS g0 g' d (scS (sV S d) (sL S d) (nD c) (p, false)).1 k (scS (sV S d) (sL S d) (nD c) (p, false)).2 ∧ ((scS (sV S d) (sL S d) (nD c) (p, false)).2 = false → tdV (sV S d) g' k c p) ∧ (∀ i, i < 4 * k → g'.1 74 i = g.1 74 i) ∧ oth g g' := by
  have x0 : nI (4 * k) = nI (4 * k) := rfl
  have x1 : nI (4 * k) + 1 = nI (4 * k + 1) := zi_one _
  have x2 : nI (4 * k) + 2 = nI (4 * k + 2) := by rw [zi_lit2, nI_add]
  have x3 : nI (4 * k) + 3 = nI (4 * k + 3) := by rw [show (3 : Int32) = nI 3 by decide, nI_add]
  generalize hT : sV S d = T at *
  generalize hL : sL S d = L at *
  rcases nD_c hc with c1 | c1 | c1 | c1 | c1
  · have n2 : nD c = 2 := by rcases c1 with rfl | rfl <;> decide
    rw [n2]
    obtain ⟨g1, a1, a2, a3, a4, a5⟩ := m_rn2 (s := (p, false)) (X := nI (4 * k)) (j := 4 * k) (fun h4 => (if c = (118 : Int32) then ((zf_X11_readDigits (1 : Int32) h4).bind (fun r5 => (if zc_ix (nI (4 * k) + (1 : Int32)) 204 then ((some (zc_ui r5.2 74 (nI (4 * k) + (1 : Int32)).toNatClampNeg r5.1) : Option zHp).bind (fun h7 => ((zf_X11_readDigits (2 : Int32) h7).bind (fun r8 => (if zc_ix (nI (4 * k) + (2 : Int32)) 204 then ((some (zc_ui r8.2 74 (nI (4 * k) + (2 : Int32)).toNatClampNeg r8.1) : Option zHp).bind (fun h10 => ((zf_X11_readDigits (1 : Int32) h10).bind (fun r11 => (if zc_ix (nI (4 * k) + (3 : Int32)) 204 then ((some (zc_ui r11.2 74 (nI (4 * k) + (3 : Int32)).toNatClampNeg r11.1) : Option zHp).bind (fun h13 => some h13)) else none))))) else none))))) else none))) else (if c = (115 : Int32) then ((zf_X11_readDigits (2 : Int32) h4).bind (fun r14 => (if zc_ix (nI (4 * k) + (1 : Int32)) 204 then ((some (zc_ui r14.2 74 (nI (4 * k) + (1 : Int32)).toNatClampNeg r14.1) : Option zHp).bind (fun h16 => some h16)) else none))) else (if c = (107 : Int32) then ((zf_X11_readDigits (2 : Int32) h4).bind (fun r17 => (if zc_ix (nI (4 * k) + (1 : Int32)) 204 then ((some (zc_ui r17.2 74 (nI (4 * k) + (1 : Int32)).toNatClampNeg r17.1) : Option zHp).bind (fun h19 => some h19)) else none))) else (if c = (102 : Int32) then ((zf_X11_readDigits (1 : Int32) h4).bind (fun r20 => (if zc_ix (nI (4 * k) + (1 : Int32)) 204 then ((some (zc_ui r20.2 74 (nI (4 * k) + (1 : Int32)).toNatClampNeg r20.1) : Option zHp).bind (fun h22 => some h22)) else none))) else some h4))))) hW hS hd (by rw [hL]; exact hp) hR x0 (by omega)
    rw [hT, hL] at a2 a3
    refine ⟨g1, ?_, a2, fun hb => ?_, fun i hi => a4 i (by omega), a5⟩
    · unfold zf_X11_readNumbers
      have e2 : ((if c = (99 : Int32) then some (2 : Int32) else (if c = (100 : Int32) then some (2 : Int32) else some (1 : Int32))) : Option Int32) = some 2 := by rcases c1 with rfl | rfl <;> rfl
      rw [e2, zbs]
      refine Eq.trans a1 ?_
      rcases c1 with rfl | rfl <;> rfl
    · obtain ⟨-, ok⟩ := sc_good 2 p hb
      have o0 : okD T L p = true := ok 0 (by omega)
      have o1 : okD T L (p + 1) = true := ok 1 (by omega)
      rw [rdW_y o0 o1] at a3
      refine ⟨fun _ => a3, fun q => ?_, fun q => ?_, fun q => ?_⟩
      · rcases c1 with rfl | rfl <;> exact absurd q (by decide)
      · rcases c1 with rfl | rfl <;> exact absurd q (by decide)
      · rcases c1 with rfl | rfl <;> exact absurd q (by decide)
  · subst c1
    obtain ⟨g1, a1, a2, a3, a4, a5⟩ := m_rn1 (s := (p, false)) (X := nI (4 * k)) (j := 4 * k) (fun h4 => ((zf_X11_readDigits (1 : Int32) h4).bind (fun r20 => (if zc_ix (nI (4 * k) + (1 : Int32)) 204 then ((some (zc_ui r20.2 74 (nI (4 * k) + (1 : Int32)).toNatClampNeg r20.1) : Option zHp).bind (fun h22 => some h22)) else none)))) hW hS hd (by rw [hL]; exact hp) hR x0 (by omega)
    obtain ⟨g2, b1, b2, b3, b4, b5⟩ := m_rn1 (fun h22 => some h22) hW hS hd (sc1_le (by rw [hL]; exact hp)) a2 x1 (by omega)
    rw [hT, hL] at a3 b2 b3
    refine ⟨g2, ?_, b2, fun hb => ?_, fun i hi => by rw [b4 i (by omega), a4 i (by omega)], fun a h1 h2 => (b5 a h1 h2).trans (a5 a h1 h2)⟩
    · unfold zf_X11_readNumbers
      exact Eq.trans a1 b1
    · obtain ⟨-, ok⟩ := sc_good 2 p hb
      have o0 : okD T L p = true := ok 0 (by omega)
      have o1 : okD T L (p + 1) = true := ok 1 (by omega)
      rw [rdV_y o0] at a3
      rw [sc1_y o0, rdV_y o1] at b3
      refine ⟨fun q => absurd q (by decide), fun _ => ⟨by rw [b4 _ (by omega)]; exact a3, b3⟩, fun q => absurd q (by decide), fun q => absurd q (by decide)⟩
  · subst c1
    obtain ⟨g1, a1, a2, a3, a4, a5⟩ := m_rn1 (s := (p, false)) (X := nI (4 * k)) (j := 4 * k) (fun h4 => ((zf_X11_readDigits (2 : Int32) h4).bind (fun r17 => (if zc_ix (nI (4 * k) + (1 : Int32)) 204 then ((some (zc_ui r17.2 74 (nI (4 * k) + (1 : Int32)).toNatClampNeg r17.1) : Option zHp).bind (fun h19 => some h19)) else none)))) hW hS hd (by rw [hL]; exact hp) hR x0 (by omega)
    obtain ⟨g2, b1, b2, b3, b4, b5⟩ := m_rn2 (fun h22 => some h22) hW hS hd (sc1_le (by rw [hL]; exact hp)) a2 x1 (by omega)
    rw [hT, hL] at a3 b2 b3
    refine ⟨g2, ?_, b2, fun hb => ?_, fun i hi => by rw [b4 i (by omega), a4 i (by omega)], fun a h1 h2 => (b5 a h1 h2).trans (a5 a h1 h2)⟩
    · unfold zf_X11_readNumbers
      exact Eq.trans a1 b1
    · obtain ⟨-, ok⟩ := sc_good 3 p hb
      have o0 : okD T L p = true := ok 0 (by omega)
      have o1 : okD T L (p + 1) = true := ok 1 (by omega)
      have o2 : okD T L (p + 1 + 1) = true := ok 2 (by omega)
      rw [rdV_y o0] at a3
      rw [sc1_y o0, rdW_y o1 o2] at b3
      refine ⟨fun q => absurd q (by decide), fun q => absurd q (by decide), fun _ => ⟨by rw [b4 _ (by omega)]; exact a3, b3⟩, fun q => absurd q (by decide)⟩
  · subst c1
    obtain ⟨g1, a1, a2, a3, a4, a5⟩ := m_rn1 (s := (p, false)) (X := nI (4 * k)) (j := 4 * k) (fun h4 => ((zf_X11_readDigits (2 : Int32) h4).bind (fun r17 => (if zc_ix (nI (4 * k) + (1 : Int32)) 204 then ((some (zc_ui r17.2 74 (nI (4 * k) + (1 : Int32)).toNatClampNeg r17.1) : Option zHp).bind (fun h19 => some h19)) else none)))) hW hS hd (by rw [hL]; exact hp) hR x0 (by omega)
    obtain ⟨g2, b1, b2, b3, b4, b5⟩ := m_rn2 (fun h22 => some h22) hW hS hd (sc1_le (by rw [hL]; exact hp)) a2 x1 (by omega)
    rw [hT, hL] at a3 b2 b3
    refine ⟨g2, ?_, b2, fun hb => ?_, fun i hi => by rw [b4 i (by omega), a4 i (by omega)], fun a h1 h2 => (b5 a h1 h2).trans (a5 a h1 h2)⟩
    · unfold zf_X11_readNumbers
      exact Eq.trans a1 b1
    · obtain ⟨-, ok⟩ := sc_good 3 p hb
      have o0 : okD T L p = true := ok 0 (by omega)
      have o1 : okD T L (p + 1) = true := ok 1 (by omega)
      have o2 : okD T L (p + 1 + 1) = true := ok 2 (by omega)
      rw [rdV_y o0] at a3
      rw [sc1_y o0, rdW_y o1 o2] at b3
      refine ⟨fun q => absurd q (by decide), fun q => absurd q (by decide), fun _ => ⟨by rw [b4 _ (by omega)]; exact a3, b3⟩, fun q => absurd q (by decide)⟩
  · subst c1
    obtain ⟨g1, a1, a2, a3, a4, a5⟩ := m_rn1 (s := (p, false)) (X := nI (4 * k)) (j := 4 * k) (fun h4 => ((zf_X11_readDigits (1 : Int32) h4).bind (fun r5 => (if zc_ix (nI (4 * k) + (1 : Int32)) 204 then ((some (zc_ui r5.2 74 (nI (4 * k) + (1 : Int32)).toNatClampNeg r5.1) : Option zHp).bind (fun h7 => ((zf_X11_readDigits (2 : Int32) h7).bind (fun r8 => (if zc_ix (nI (4 * k) + (2 : Int32)) 204 then ((some (zc_ui r8.2 74 (nI (4 * k) + (2 : Int32)).toNatClampNeg r8.1) : Option zHp).bind (fun h10 => ((zf_X11_readDigits (1 : Int32) h10).bind (fun r11 => (if zc_ix (nI (4 * k) + (3 : Int32)) 204 then ((some (zc_ui r11.2 74 (nI (4 * k) + (3 : Int32)).toNatClampNeg r11.1) : Option zHp).bind (fun h13 => some h13)) else none))))) else none))))) else none)))) hW hS hd (by rw [hL]; exact hp) hR x0 (by omega)
    obtain ⟨g2, b1, b2, b3, b4, b5⟩ := m_rn1 (fun h7 => ((zf_X11_readDigits (2 : Int32) h7).bind (fun r8 => (if zc_ix (nI (4 * k) + (2 : Int32)) 204 then ((some (zc_ui r8.2 74 (nI (4 * k) + (2 : Int32)).toNatClampNeg r8.1) : Option zHp).bind (fun h10 => ((zf_X11_readDigits (1 : Int32) h10).bind (fun r11 => (if zc_ix (nI (4 * k) + (3 : Int32)) 204 then ((some (zc_ui r11.2 74 (nI (4 * k) + (3 : Int32)).toNatClampNeg r11.1) : Option zHp).bind (fun h13 => some h13)) else none))))) else none)))) hW hS hd (sc1_le (by rw [hL]; exact hp)) a2 x1 (by omega)
    obtain ⟨g3, d1, d2, d3, d4, d5⟩ := m_rn2 (fun h10 => ((zf_X11_readDigits (1 : Int32) h10).bind (fun r11 => (if zc_ix (nI (4 * k) + (3 : Int32)) 204 then ((some (zc_ui r11.2 74 (nI (4 * k) + (3 : Int32)).toNatClampNeg r11.1) : Option zHp).bind (fun h13 => some h13)) else none)))) hW hS hd (sc1_le (sc1_le (by rw [hL]; exact hp))) b2 x2 (by omega)
    obtain ⟨g4, f1, f2, f3, f4, f5⟩ := m_rn1 (fun h13 => some h13) hW hS hd (sc1_le (sc1_le (sc1_le (sc1_le (by rw [hL]; exact hp))))) d2 x3 (by omega)
    rw [hT, hL] at a3 b3 d3 f2 f3
    refine ⟨g4, ?_, f2, fun hb => ?_, fun i hi => by rw [f4 i (by omega), d4 i (by omega), b4 i (by omega), a4 i (by omega)], fun a h1 h2 => (((f5 a h1 h2).trans (d5 a h1 h2)).trans (b5 a h1 h2)).trans (a5 a h1 h2)⟩
    · unfold zf_X11_readNumbers
      exact Eq.trans a1 (Eq.trans b1 (Eq.trans d1 f1))
    · obtain ⟨-, ok⟩ := sc_good 5 p hb
      have o0 : okD T L p = true := ok 0 (by omega)
      have o1 : okD T L (p + 1) = true := ok 1 (by omega)
      have o2 : okD T L (p + 1 + 1) = true := ok 2 (by omega)
      have o3 : okD T L (p + 1 + 1 + 1) = true := ok 3 (by omega)
      have o4 : okD T L (p + 1 + 1 + 1 + 1) = true := ok 4 (by omega)
      rw [rdV_y o0] at a3
      rw [sc1_y o0, rdV_y o1] at b3
      rw [sc1_y o0, sc1_y o1, rdW_y o2 o3] at d3
      rw [sc1_y o0, sc1_y o1, sc1_y o2, sc1_y o3, rdV_y o4] at f3
      refine ⟨fun q => absurd q (by decide), fun q => absurd q (by decide), fun q => absurd q (by decide), fun _ => ⟨?_, ?_, ?_, f3⟩⟩
      · rw [f4 _ (by omega), d4 _ (by omega), b4 _ (by omega)]; exact a3
      · rw [f4 _ (by omega), d4 _ (by omega)]; exact b3
      · rw [f4 _ (by omega)]; exact d3

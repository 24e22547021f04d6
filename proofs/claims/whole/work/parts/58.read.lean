/-! the reference reads the text -/
def hrN (T : Nat → Int32) (L p : Nat) : Int32 := if p < L then T p else -999
def zRd (h g : zHp) : Prop := (∀ a, a ≠ 60 → a ≠ 72 → a ≠ 73 → a ≠ 74 → g.1 a = h.1 a) ∧ (∀ k, k ≠ 19 → k ≠ 20 → k ≠ 21 → g.1 60 k = h.1 60 k) ∧ g.2 = h.2
theorem zRd.rf {h : zHp} : zRd h h := ⟨fun _ _ _ _ _ => rfl, fun _ _ _ _ => rfl, rfl⟩
theorem zRd.tr {h h1 h2 : zHp} (x : zRd h h1) (y : zRd h1 h2) : zRd h h2 := ⟨fun a a1 a2 a3 a4 => (y.1 a a1 a2 a3 a4).trans (x.1 a a1 a2 a3 a4), fun k a1 a2 a3 => (y.2.1 k a1 a2 a3).trans (x.2.1 k a1 a2 a3), y.2.2.trans x.2.2⟩
theorem zRd.u {h : zHp} {a k : Nat} {x : Int32} (ha : a = 72 ∨ a = 73 ∨ a = 74) : zRd h (zc_ui h a k x) := ⟨fun b b1 b2 b3 b4 => by funext j; rw [zu_n (by omega)], fun j _ _ _ => by rw [zu_n (by omega)], rfl⟩
theorem zRd.f {h : zHp} {k : Nat} {x : Int32} (hk : k = 19 ∨ k = 20 ∨ k = 21) : zRd h (zc_ui h 60 k x) := ⟨fun b b1 b2 b3 b4 => by funext j; rw [zu_n (by omega)], fun j _ _ _ => by rw [zu_n (by omega)], rfl⟩
theorem zRd.S {h g : zHp} {S : zS} (x : zRd h g) (hS : SM h S) : SM g S := fun d hd => by
  rw [x.1 66 (by omega) (by omega) (by omega) (by omega), x.1 67 (by omega) (by omega) (by omega) (by omega), x.1 68 (by omega) (by omega) (by omega) (by omega), x.1 69 (by omega) (by omega) (by omega) (by omega), x.1 70 (by omega) (by omega) (by omega) (by omega), x.2.2]; exact hS d hd
theorem zRd.R {h g : zHp} {P : zP} (x : zRd h g) (hR : RM h P) : RM g P := by
  obtain ⟨r1, r2, r3, r4, r5, r6, r7⟩ := hR
  refine ⟨fun v hv => ?_, ?_, ?_, ?_, ?_, ?_, ?_⟩
  · rw [x.1 61 (by omega) (by omega) (by omega) (by omega), x.1 62 (by omega) (by omega) (by omega) (by omega), x.1 63 (by omega) (by omega) (by omega) (by omega), x.1 64 (by omega) (by omega) (by omega) (by omega), x.1 65 (by omega) (by omega) (by omega) (by omega)]; exact r1 v hv
  · rw [x.2.1 _ (by omega) (by omega) (by omega)]; exact r2
  · rw [x.2.1 _ (by omega) (by omega) (by omega)]; exact r3
  · rw [x.2.1 _ (by omega) (by omega) (by omega)]; exact r4
  · rw [x.2.1 _ (by omega) (by omega) (by omega)]; exact r5
  · rw [x.2.1 _ (by omega) (by omega) (by omega)]; exact r6
  · rw [x.2.1 _ (by omega) (by omega) (by omega)]; exact r7
def RS (g0 g : zHp) (d p k : Nat) (bad : Bool) : Prop := zRd g0 g ∧ g.1 60 18 = nI d ∧ g.1 60 19 = nI p ∧ g.1 60 20 = (if bad then 1 else 0) ∧ g.1 60 21 = nI k
theorem zi_back (x : Int32) : x.toInt64.toInt32 = x := by
  apply Int32.toInt_inj.mp
  rw [Int64.toInt_toInt32, Int32.toInt_toInt64]
  have u1 := Int32.toInt_lt x
  have u2 := Int32.le_toInt x
  exact Int.bmod_eq_of_le (by omega) (by omega)
theorem m_here {g0 g : zHp} {S : zS} {d p k : Nat} {bad : Bool} (hW : zSW S) (hS : SM g0 S) (hd : d < 8) (hp : p ≤ sL S d) (hR : RS g0 g d p k bad) : zf_X11_here g = some (hrN (sV S d) (sL S d) p) := by
  have w : sL S d ≤ 100 := (hW d hd).2.2.2.2
  obtain ⟨r1, r2, r3, r4, r5⟩ := hR
  have e := r1.S hS d hd
  have e4 : g.1 70 d = nI (sL S d) := e.2.2.2.1
  unfold zf_X11_here hrN
  rw [r2, r3, if_pos (zi_ix hd (by omega)), zi_clamp (show d < 2000000000 by omega), e4]
  by_cases c : sL S d ≤ p
  · rw [if_pos (by rw [zi_le (by omega) (by omega)]; exact c), if_neg (by omega)]
  · obtain ⟨q1, q2⟩ := row_ix hd (show p < 100 by omega)
    rw [if_neg (by rw [zi_le (by omega) (by omega)]; exact c), q1, if_pos (zi_ix q2 (by omega)), if_pos (show p < sL S d by omega), zi_clamp (by omega), e.2.2.2.2 p (by omega)]
    exact congrArg some (zi_back _)
theorem hr_ok {T : Nat → Int32} {L p : Nat} : okD T L p = decide (48 ≤ hrN T L p ∧ hrN T L p ≤ 57) := by
  unfold okD hrN
  by_cases c : p < L
  · rw [if_pos c, decide_eq_true c, Bool.true_and]
  · rw [if_neg c, decide_eq_false c, Bool.false_and, decide_eq_false (by decide)]
/-- one digit, read -/
def rdH (g : zHp) (p : Nat) (ok : Bool) : zHp := zc_ui (zc_ui g 60 20 (if ok then 0 else 1)) 60 19 (nI (if ok then p + 1 else p))
theorem rdH_RS {g0 g : zHp} {d p k : Nat} {bad ok : Bool} (hR : RS g0 g d p k bad) : RS g0 (rdH g p ok) d (if ok then p + 1 else p) k (!ok) ∧ ∀ a, a ≠ 60 → (rdH g p ok).1 a = g.1 a := by
  obtain ⟨r1, r2, r3, r4, r5⟩ := hR
  refine ⟨⟨(r1.tr (zRd.f (by omega))).tr (zRd.f (by omega)), ?_, ?_, ?_, ?_⟩, fun a ha => ?_⟩
  · unfold rdH; rw [zu_n (by omega), zu_n (by omega)]; exact r2
  · unfold rdH; rw [zu_y]
  · unfold rdH; rw [zu_n (by omega), zu_y]; cases ok <;> rfl
  · unfold rdH; rw [zu_n (by omega), zu_n (by omega)]; exact r5
  · unfold rdH; funext j; rw [zu_n (by omega), zu_n (by omega)]
theorem m_dig {g0 g : zHp} {S : zS} {d p k n i fu : Nat} {bad : Bool} {y : Int32} (hW : zSW S) (hS : SM g0 S) (hd : d < 8) (hp : p ≤ sL S d) (hR : RS g0 g d p k bad) (hi : i < n) (hn : n < 10) : zl_X11_readDigits_4 (nI n) (fu + 1) y (nI i) g = zl_X11_readDigits_4 (nI n) fu (if !bad && okD (sV S d) (sL S d) p then 10 * y + sV S d p - 48 else 0) (nI (i + 1)) (rdH g p (!bad && okD (sV S d) (sL S d) p)) := by
  have w : sL S d ≤ 100 := (hW d hd).2.2.2.2
  have e1 := m_here hW hS hd hp hR
  have hR' := hR
  obtain ⟨r1, r2, r3, r4, r5⟩ := hR
  have e2 : ((if (g.1 60 20) = 0 then ((zf_X11_here g).bind (fun r4 => ((zf_X11_in r4.toInt64 (48 : Int64) (57 : Int64)).bind (fun r5 => (if r5 = 0 then some (1 : Int32) else some (0 : Int32)))))) else some (1 : Int32)) : Option Int32) = some (if !bad && okD (sV S d) (sL S d) p then 0 else 1) := by
    rw [r4, e1, zbs, m_in32 _ 48 57 (by decide) (by decide), zbs, hr_ok]
    cases bad
    · by_cases c : 48 ≤ hrN (sV S d) (sL S d) p ∧ hrN (sV S d) (sL S d) p ≤ 57
      · rw [if_pos (by decide), if_pos c, decide_eq_true c]; rfl
      · rw [if_pos (by decide), if_neg c, decide_eq_false c]; rfl
    · rfl
  generalize hok : (!bad && okD (sV S d) (sL S d) p) = ok at e2
  have bo : zc_bo (if ok then (0 : Int32) else 1) := by cases ok <;> decide
  have hR2 : RS g0 (zc_ui g 60 20 (if ok then 0 else 1)) d p k (!ok) := ⟨r1.tr (zRd.f (by omega)), by rw [zu_n (by omega)]; exact r2, by rw [zu_n (by omega)]; exact r3, by rw [zu_y]; cases ok <;> rfl, by rw [zu_n (by omega)]; exact r5⟩
  have e3 := m_here hW hS hd hp hR2
  conv => lhs; unfold zl_X11_readDigits_4
  rw [if_neg (by rw [zi_le (by omega) (by omega)]; omega), e2, zbs, if_pos bo, zbs, zu_y, e3, zbs, zi_one, zu_n (by omega), r3]
  cases ok
  · simp only [Bool.false_eq_true, if_false, z10, zbs]
    unfold rdH
    simp only [Bool.false_eq_true, if_false]
    rw [show nI p + 0 = nI p by rw [zi_lit0, nI_add]; rfl]
  · rw [Bool.and_eq_true] at hok
    have h1 := (dv_ok hok.2).1
    simp only [if_true, zbs]
    unfold rdH hrN
    simp only [if_true, if_pos h1, zi_one]
def rdV (T : Nat → Int32) (L : Nat) (s : Nat × Bool) : Nat := if !s.2 && okD T L s.1 then dv T s.1 else 0
theorem sc1_eq {T : Nat → Int32} {L p : Nat} {bad : Bool} : sc1 T L (p, bad) = ((if !bad && okD T L p then p + 1 else p), !(!bad && okD T L p)) := by
  unfold sc1
  show (if !bad && okD T L p then (p + 1, false) else (p, true)) = _
  cases !bad && okD T L p <;> rfl
theorem m_rd1 {g0 g : zHp} {S : zS} {d p k : Nat} {bad : Bool} (hW : zSW S) (hS : SM g0 S) (hd : d < 8) (hp : p ≤ sL S d) (hR : RS g0 g d p k bad) : ∃ g', zf_X11_readDigits 1 g = some (nI (rdV (sV S d) (sL S d) (p, bad)), g') ∧ RS g0 g' d (sc1 (sV S d) (sL S d) (p, bad)).1 k (sc1 (sV S d) (sL S d) (p, bad)).2 ∧ ∀ a, a ≠ 60 → g'.1 a = g.1 a := by
  obtain ⟨q1, q2⟩ := rdH_RS (ok := !bad && okD (sV S d) (sL S d) p) hR
  refine ⟨_, ?_, by rw [sc1_eq]; exact q1, q2⟩
  unfold zf_X11_readDigits
  rw [show zl_X11_readDigits_4 1 zFU 0 0 g = zl_X11_readDigits_4 (nI 1) (3999 + 1) 0 (nI 0) g by rw [zFU_eq]; rfl, m_dig hW hS hd hp hR (by omega) (by omega)]
  rw [show (3999 : Nat) = 3998 + 1 from rfl]
  conv => lhs; unfold zl_X11_readDigits_4
  rw [if_pos (by decide), zbs]
  have e : (if (!bad && okD (sV S d) (sL S d) p) = true then 10 * (0 : Int32) + sV S d p - 48 else 0) = nI (rdV (sV S d) (sL S d) (p, bad)) := by
    unfold rdV
    by_cases c : (!bad && okD (sV S d) (sL S d) p) = true
    · rw [if_pos c, if_pos c, show 10 * (0 : Int32) = 0 by decide, Int32.zero_add]
      rw [Bool.and_eq_true] at c
      exact (dv_ok c.2).2.2.2
    · rw [if_neg c, if_neg c]; rfl
  rw [e]
def rdW (T : Nat → Int32) (L : Nat) (s : Nat × Bool) : Nat := if (sc1 T L (sc1 T L s)).2 then 0 else 10 * dv T s.1 + dv T (s.1 + 1)
theorem m_rd2 {g0 g : zHp} {S : zS} {d p k : Nat} {bad : Bool} (hW : zSW S) (hS : SM g0 S) (hd : d < 8) (hp : p ≤ sL S d) (hR : RS g0 g d p k bad) : ∃ g', zf_X11_readDigits 2 g = some (nI (rdW (sV S d) (sL S d) (p, bad)), g') ∧ RS g0 g' d (sc1 (sV S d) (sL S d) (sc1 (sV S d) (sL S d) (p, bad))).1 k (sc1 (sV S d) (sL S d) (sc1 (sV S d) (sL S d) (p, bad))).2 ∧ ∀ a, a ≠ 60 → g'.1 a = g.1 a := by
  obtain ⟨q1, q2⟩ := rdH_RS (ok := !bad && okD (sV S d) (sL S d) p) hR
  have hp1 : (if (!bad && okD (sV S d) (sL S d) p) = true then p + 1 else p) ≤ sL S d := by
    by_cases c : (!bad && okD (sV S d) (sL S d) p) = true
    · rw [if_pos c]
      rw [Bool.and_eq_true] at c
      exact (dv_ok c.2).1
    · rw [if_neg c]; exact hp
  have s1 : sc1 (sV S d) (sL S d) (p, bad) = ((if !bad && okD (sV S d) (sL S d) p then p + 1 else p), !(!bad && okD (sV S d) (sL S d) p)) := sc1_eq
  have s2 : sc1 (sV S d) (sL S d) (sc1 (sV S d) (sL S d) (p, bad)) = _ := congrArg (sc1 (sV S d) (sL S d)) s1
  obtain ⟨q3, q4⟩ := rdH_RS (ok := !!(!bad && okD (sV S d) (sL S d) p) && okD (sV S d) (sL S d) (if !bad && okD (sV S d) (sL S d) p then p + 1 else p)) q1
  refine ⟨_, ?_, by rw [s2, sc1_eq]; exact q3, fun a ha => (q4 a ha).trans (q2 a ha)⟩
  unfold zf_X11_readDigits
  rw [show zl_X11_readDigits_4 2 zFU 0 0 g = zl_X11_readDigits_4 (nI 2) (3999 + 1) 0 (nI 0) g by rw [zFU_eq]; rfl, m_dig hW hS hd hp hR (by omega) (by omega), show (3999 : Nat) = 3998 + 1 from rfl, m_dig hW hS hd hp1 q1 (by omega) (by omega), show (3998 : Nat) = 3997 + 1 from rfl]
  conv => lhs; unfold zl_X11_readDigits_4
  rw [if_pos (by decide), zbs]
  congr 2
  unfold rdW
  rw [s2, sc1_eq]
  cases c : (!bad && okD (sV S d) (sL S d) p)
  · rfl
  · simp only [Bool.not_true, Bool.not_false, Bool.true_and, if_true]
    rw [Bool.and_eq_true] at c
    obtain ⟨d1, d2, d3, d4⟩ := dv_ok c.2
    cases c2 : okD (sV S d) (sL S d) (p + 1)
    · rfl
    · obtain ⟨f1, f2, f3, f4⟩ := dv_ok c2
      simp only [if_true, Bool.not_true, Bool.false_eq_true, if_false]
      rw [show 10 * (0 : Int32) + sV S d p - 48 = nI (dv (sV S d) p) by rw [show 10 * (0 : Int32) = 0 by decide, Int32.zero_add]; exact d4, f2, show (10 : Int32) = nI 10 by decide, pk_mul, nI_add, show (48 : Int32) = nI 48 by decide, pk_sub (by omega)]
      congr 1; omega

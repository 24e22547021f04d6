/-! ranges, on both sides; the reference's sums -/
theorem zr (x : Int32) {N : Nat} (hN : N < 2000000000) : (x < 0 ∨ nI N ≤ x) ∨ ∃ j, j < N ∧ x = nI j := by
  rcases pk_ix x (n := N) (by omega) with h | h | h
  · exact Or.inl (Or.inl h)
  · exact Or.inl (Or.inr h)
  · exact Or.inr h
theorem zr_toInt {x : Int32} {N : Nat} (hN : N < 2000000000) (h : x < 0 ∨ nI N ≤ x) : x.toInt < 0 ∨ (N : Int) ≤ x.toInt := by
  rcases h with h | h
  · left; rw [Int32.lt_iff_toInt_lt] at h; simpa using h
  · right; rw [Int32.le_iff_toInt_le, nI_toInt (by omega)] at h; exact h
theorem m_in_out {x : Int32} {N : Nat} {H : Int64} (hN : N < 1000000) (h0 : 0 < N) (hH : H = (nI (N - 1)).toInt64) (h : x < 0 ∨ nI N ≤ x) : zf_X11_in x.toInt64 0 H = some 0 := by
  have h1 := zr_toInt (by omega) h
  rw [m_in32 x 0 (nI (N - 1)) (L := 0) (by decide) hH, if_neg]
  rw [Int32.le_iff_toInt_le, Int32.le_iff_toInt_le, nI_toInt (by omega)]
  simp only [Int32.toInt_zero]
  omega
theorem m_in_in {j N : Nat} {H : Int64} (hN : N < 1000000) (h0 : j < N) (hH : H = (nI (N - 1)).toInt64) : zf_X11_in (nI j).toInt64 0 H = some 1 := m_inN (lo := 0) (hi := N - 1) (by decide) hH (by omega) (by omega) (by omega)
theorem m_isOne_out {h : zHp} {P : zP} {x : Int32} (hR : RM h P) (hV : nV P ≤ 7) (hx : x < 0 ∨ nI (nV P) ≤ x) : zf_X11_isOne x h = some 0 := by
  have h1 := zr_toInt (by omega) hx
  unfold zf_X11_isOne
  rw [hR.2.1, m_in32 x 0 (nI (nV P) - 1) (L := 0) (by decide) rfl, if_neg]
  · rfl
  · rw [Int32.le_iff_toInt_le, Int32.le_iff_toInt_le, zi_lit1, pk_sub_toInt (by omega) (by omega)]
    simp only [Int32.toInt_zero]
    omega
theorem m_isOne_in {h : zHp} {P : zP} {v : Nat} (hR : RM h P) (hV : nV P ≤ 7) (hv : v < nV P) : zf_X11_isOne (nI v) h = some 1 := by
  unfold zf_X11_isOne
  rw [hR.2.1, m_in32 (nI v) 0 (nI (nV P) - 1) (L := 0) (by decide) rfl, if_pos]
  · rfl
  · rw [Int32.le_iff_toInt_le, Int32.le_iff_toInt_le, zi_lit1, pk_sub_toInt (by omega) (by omega), nI_toInt (by omega)]
    simp only [Int32.toInt_zero]
    omega
theorem m_isPlace_out {x : Int32} (h : x < 0 ∨ nI 12 ≤ x) : zf_X11_isPlace x = some 0 := by
  unfold zf_X11_isPlace
  rw [m_in_out (N := 12) (by omega) (by omega) (by decide) h]; rfl
theorem m_isPlace_in {j : Nat} (h : j < 12) : zf_X11_isPlace (nI j) = some 1 := by
  unfold zf_X11_isPlace
  rw [m_in_in (N := 12) (by omega) h (by decide)]; rfl
theorem c_rng_out {x N : Int32} {n : Nat} (hN : N = nI n) (h : x < 0 ∨ nI n ≤ x) : ((if x < 0 then some (0 : Int32) else (if N ≤ x then some (0 : Int32) else some (1 : Int32))) : Option Int32) = some 0 := by
  by_cases c : x < 0
  · rw [if_pos c]
  · rw [if_neg c, hN, if_pos (h.resolve_left c)]
theorem c_rng_in {N : Int32} {n j : Nat} (hN : N = nI n) (hn : n < 2000000000) (h : j < n) : ((if nI j < 0 then some (0 : Int32) else (if N ≤ nI j then some (0 : Int32) else some (1 : Int32))) : Option Int32) = some 1 := by
  rw [if_neg (nI_pos (by omega)), hN, if_neg (fun q => by rw [zi_le (by omega) (by omega)] at q; omega)]
theorem c_isPlace_out {x : Int32} (h : x < 0 ∨ nI 12 ≤ x) : zf_X10_isPlace x = some 0 := c_rng_out (by decide) h
theorem c_isPlace_in {j : Nat} (h : j < 12) : zf_X10_isPlace (nI j) = some 1 := c_rng_in (n := 12) (by decide) (by omega) h
theorem c_isKind_out {x : Int32} (h : x < 0 ∨ nI 8 ≤ x) : zf_X10_isKind x = some 0 := c_rng_out (by decide) h
theorem c_isKind_in {j : Nat} (h : j < 8) : zf_X10_isKind (nI j) = some 1 := c_rng_in (n := 8) (by decide) (by omega) h
theorem c_isFigure_out {x : Int32} (h : x < 0 ∨ nI 10 ≤ x) : zf_X10_isFigure x = some 0 := c_rng_out (by decide) h
theorem c_isFigure_in {j : Nat} (h : j < 10) : zf_X10_isFigure (nI j) = some 1 := c_rng_in (n := 10) (by decide) (by omega) h
theorem c_isNumber_out {x : Int32} (h : x < 0 ∨ nI 7 ≤ x) : zf_X7_isNumber x = some 0 := c_rng_out (by decide) h
theorem c_isNumber_in {j : Nat} (h : j < 7) : zf_X7_isNumber (nI j) = some 1 := c_rng_in (n := 7) (by decide) (by omega) h
theorem c_isShelf_out {x : Int32} (h : x < 0 ∨ nI 8 ≤ x) : zf_X10_isShelf x = some 0 := c_rng_out (by decide) h
theorem c_isShelf_in {j : Nat} (h : j < 8) : zf_X10_isShelf (nI j) = some 1 := c_rng_in (n := 8) (by decide) (by omega) h
theorem c_isDaysOn_out {x : Int32} (h : x < 0 ∨ nI 61 ≤ x) : zf_X10_isDaysOn x = some 0 := by
  unfold zf_X10_isDaysOn
  have h1 := zr_toInt (by omega) h
  by_cases c : x < 0
  · rw [if_pos c]
  · rw [if_neg c, if_pos]
    rw [Int32.lt_iff_toInt_lt] at c ⊢
    simp only [Int32.toInt_zero] at c
    have : (60 : Int32).toInt = 60 := by decide
    omega
theorem c_isDaysOn_in {j : Nat} (h : j < 61) : zf_X10_isDaysOn (nI j) = some 1 := by
  unfold zf_X10_isDaysOn
  rw [if_neg (nI_pos (by omega)), show (60 : Int32) = nI 60 by decide, if_neg (by rw [zi_lt (by omega) (by omega)]; omega)]
theorem m_allStock {h : zHp} {P : zP} {D : Nat} (hR : RM h P) (hW : zWF D P) : zf_X11_allStock h = some (nI (stockN P)) := by
  have h7 := hW.2.1
  have e3 := hR.2.1
  have key := zl_acc (fun fu (a : Int32) i => zl_X11_allStock_4 h fu a i) (fun a v => a + nI (sk P v)) id (nV P) (by omega) 0
    (fun fu i a hi => by
      have e5 := (hR.1 i (by omega)).2.2.2.2
      show zl_X11_allStock_4 h (fu + 1) a (nI i) = _
      conv => lhs; unfold zl_X11_allStock_4
      rw [e3, if_neg (by rw [zi_le (by omega) (by omega)]; omega)]
      simp only [zi_clamp (show i < 2000000000 by omega), if_pos (zi_ix (show i < 7 by omega) (show 7 < 2000000000 by omega)), e5, Option.bind_some, zi_one])
    (fun fu a => by
      show zl_X11_allStock_4 h (fu + 1) a _ = _
      conv => lhs; unfold zl_X11_allStock_4
      rw [e3, if_pos (by rw [zi_le (by omega) (by omega)]; omega)]; rfl)
  have e : ∀ n, accN (fun a v => a + nI (sk P v)) n 0 = nI (sumN (sk P) n) := by
    intro n
    induction n with
    | zero => rfl
    | succ n ih => show accN _ n 0 + nI (sk P n) = _; rw [ih, nI_add]; rfl
  unfold zf_X11_allStock
  rw [key, e]
  rfl
theorem m_ableBits {h : zHp} {P : zP} {D : Nat} (hR : RM h P) (hW : zWF D P) (hD : D < 10000) : zf_X11_ableBits h = some (bitsI (ableN P) (nV P)) := by
  have h7 := hW.2.1
  have e3 := hR.2.1
  have key := zl_acc (fun fu (a : Int32) i => zl_X11_ableBits_4 h fu a i) (fun a v => a ||| (if ableN P v then (1 : Int32) <<< (nI v &&& 31) else 0)) id (nV P) (by omega) 0
    (fun fu i a hi => by
      show zl_X11_ableBits_4 h (fu + 1) a (nI i) = _
      conv => lhs; unfold zl_X11_ableBits_4
      rw [e3, if_neg (by rw [zi_le (by omega) (by omega)]; omega), m_isAble hR hW hD (by omega)]
      simp only [Option.bind_some, zi_b0, zi_one]
      cases ableN P i <;> rfl)
    (fun fu a => by
      show zl_X11_ableBits_4 h (fu + 1) a _ = _
      conv => lhs; unfold zl_X11_ableBits_4
      rw [e3, if_pos (by rw [zi_le (by omega) (by omega)]; omega)]; rfl)
  unfold zf_X11_ableBits
  rw [key]
  rfl
theorem m_allWays {h : zHp} {P : zP} {D : Nat} (hR : RM h P) (hW : zWF D P) (hD : D < 10000) : zf_X11_allWays h = some (waysI P) := by
  have h7 := hW.2.1
  have e3 := hR.2.1
  have key := zl_acc (fun fu (a : Int32) i => zl_X11_allWays_4 h fu a i) (fun a v => a + (if fetchN P v then nI (wayN P v (pl P (fr P v))) else 0)) id (nV P) (by omega) 0
    (fun fu i a hi => by
      have hb := hW.1 i (by omega)
      have e4 := (hR.1 i (by omega)).2.2.2.1
      have e9 := (hR.1 (fr P i) hb.2.2.2.1).2.2.1
      have hb2 := hW.1 (fr P i) hb.2.2.2.1
      show zl_X11_allWays_4 h (fu + 1) a (nI i) = _
      conv => lhs; unfold zl_X11_allWays_4
      rw [e3, if_neg (by rw [zi_le (by omega) (by omega)]; omega), m_isFetching hR hW (by omega)]
      simp only [Option.bind_some, zi_b0, zi_one, zi_clamp (show i < 2000000000 by omega), zi_clamp (show fr P i < 2000000000 by omega), if_pos (zi_ix (show i < 7 by omega) (show 7 < 2000000000 by omega)), e4, e9, if_pos (zi_ix hb.2.2.2.1 (show 7 < 2000000000 by omega)), m_wayOf hR hW hD (show i < 7 by omega) hb2.2.2.1]
      cases fetchN P i <;> rfl)
    (fun fu a => by
      show zl_X11_allWays_4 h (fu + 1) a _ = _
      conv => lhs; unfold zl_X11_allWays_4
      rw [e3, if_pos (by rw [zi_le (by omega) (by omega)]; omega)]; rfl)
  unfold zf_X11_allWays
  rw [key]
  rfl
theorem m_hungryMany {h : zHp} {P : zP} {D : Nat} (hR : RM h P) (hW : zWF D P) : zf_X11_hungryMany h = some (cntI (hungN P) (nV P)) := by
  have h7 := hW.2.1
  have e3 := hR.2.1
  have key := zl_acc (fun fu (a : Int32) i => zl_X11_hungryMany_4 h fu a i) (fun a v => a + (if hungN P v then (1 : Int32) else 0)) id (nV P) (by omega) 0
    (fun fu i a hi => by
      have e5 := (hR.1 i (by omega)).2.2.2.2
      have hs := (hW.1 i (by omega)).2.2.2.2
      show zl_X11_hungryMany_4 h (fu + 1) a (nI i) = _
      conv => lhs; unfold zl_X11_hungryMany_4
      rw [e3, if_neg (by rw [zi_le (by omega) (by omega)]; omega)]
      simp only [zi_clamp (show i < 2000000000 by omega), if_pos (zi_ix (show i < 7 by omega) (show 7 < 2000000000 by omega)), e5, zi_one]
      have ez : (nI (sk P i) = 0) ↔ sk P i = 0 := by rw [zi_lit0, zi_eq (by omega) (by omega)]
      by_cases c : sk P i = 0
      · rw [if_pos (ez.mpr c)]; simp [hungN, c]
      · rw [if_neg (fun q => c (ez.mp q))]; simp [hungN, c])
    (fun fu a => by
      show zl_X11_hungryMany_4 h (fu + 1) a _ = _
      conv => lhs; unfold zl_X11_hungryMany_4
      rw [e3, if_pos (by rw [zi_le (by omega) (by omega)]; omega)]; rfl)
  unfold zf_X11_hungryMany
  rw [key]
  rfl

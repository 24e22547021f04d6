/-! two -/
theorem un_self (f : Nat → Nat) (k : Nat) : un f k (f k) = f := by
  funext j
  unfold un
  by_cases c : j = k
  · rw [if_pos c, c]
  · rw [if_neg c]
theorem setFr_self (P : zP) : setFr P (fr P) = P := rfl
def twoA (P : zP) (a y : Nat) : zP := if y / 2 = 1 then P else setFr P (un (fr P) a a)
def twoB (P : zP) (a b y : Nat) : zP := if y % 2 = 1 then twoA P a y else setFr (twoA P a y) (un (fr (twoA P a y)) b b)
def payA (P : zP) (a b n y : Nat) : Int32 := nI (sk (daysN n (twoB P a b y)) a) + (if y / 2 = 1 then 0 else 5)
def payB (P : zP) (a b n y : Nat) : Int32 := nI (sk (daysN n (twoB P a b y)) b) + (if y % 2 = 1 then 0 else 5)
theorem twoA_wf {D : Nat} {P : zP} {a y : Nat} (h : zWF D P) (ha : a < 7) : zWF D (twoA P a y) := by
  unfold twoA
  split
  · exact h
  · exact wf_fr h ha
theorem twoB_wf {D : Nat} {P : zP} {a b y : Nat} (h : zWF D P) (ha : a < 7) (hb : b < 7) : zWF D (twoB P a b y) := by
  unfold twoB
  split
  · exact twoA_wf h ha
  · exact wf_fr (twoA_wf h ha) hb
def JC2 (h : zHp) (P : zP) (a b n y : Nat) (g : zHp) : Prop := (RC g 16 P ∧ zEC h g) ∧ ∀ j, j < y → g.1 3 j = payA P a b n j ∧ g.1 4 j = payB P a b n j
theorem tw_hi {y : Nat} (hy : y < 4) : (if (nI y >>> ((1 : Int32) &&& 31)) = 0 then some (1 : Int32) else some (0 : Int32)) = some (if y / 2 = 1 then 0 else 1) := by
  have key : ∀ y, y < 4 → (if (nI y >>> ((1 : Int32) &&& 31)) = 0 then some (1 : Int32) else some (0 : Int32)) = some (if y / 2 = 1 then 0 else 1) := by decide +kernel
  exact key y hy
theorem tw_lo {y : Nat} (hy : y < 4) : (if (nI y &&& (1 : Int32)) = 0 then some (1 : Int32) else some (0 : Int32)) = some (if y % 2 = 1 then 0 else 1) := by
  have key : ∀ y, y < 4 → (if (nI y &&& (1 : Int32)) = 0 then some (1 : Int32) else some (0 : Int32)) = some (if y % 2 = 1 then 0 else 1) := by decide +kernel
  exact key y hy
theorem tw_z (c : Prop) [Decidable c] {α : Type} (x y : α) : (if (if c then (0 : Int32) else 1) = 0 then x else y) = if c then x else y := by
  by_cases h : c
  · rw [if_pos h, if_pos rfl, if_pos h]
  · rw [if_neg h, if_neg (by decide), if_neg h]
theorem c_payPair {h g : zHp} {P : zP} {a b n y : Nat} (c1 : zWF 999 P) (ha : a < 7) (hb : b < 7) (hn : n ≤ 30) (hy : y < 4) (hJ : JC2 h P a b n y g) : ∃ g', zf_X10_payPair (nI a) (nI b) (nI n) (nI y) g = some g' ∧ JC2 h P a b n (y + 1) g' := by
  obtain ⟨⟨j1, j2⟩, j3⟩ := hJ
  obtain ⟨g1, a1, a2, a3, a4⟩ := c_mind j1 c1
  have s1 : ∃ g2, ((if (if y / 2 = 1 then (0 : Int32) else 1) = 0 then some g1 else (if zc_ix (nI a) 7 then ((some (zc_ui g1 (25 + 4) (nI a).toNatClampNeg (nI a)) : Option zHp).bind (fun h5 => some h5)) else none)) : Option zHp) = some g2 ∧ RC g2 25 (twoA P a y) ∧ zE 25 g1 g2 := by
    rw [tw_z]
    unfold twoA
    by_cases c : y / 2 = 1
    · rw [if_pos c, if_pos c]; exact ⟨g1, rfl, a2, zE.rf⟩
    · rw [if_neg c, if_neg c, if_pos (zi_ix ha (by omega)), zi_clamp (by omega), zbs]
      exact ⟨_, rfl, RC_fr a2, zE.ui (by omega)⟩
  obtain ⟨g2, p1, p2, p3⟩ := s1
  have s2 : ∃ g3, ((if (if y % 2 = 1 then (0 : Int32) else 1) = 0 then some g2 else (if zc_ix (nI b) 7 then ((some (zc_ui g2 (25 + 4) (nI b).toNatClampNeg (nI b)) : Option zHp).bind (fun h5 => some h5)) else none)) : Option zHp) = some g3 ∧ RC g3 25 (twoB P a b y) ∧ zE 25 g2 g3 := by
    rw [tw_z]
    unfold twoB
    by_cases c : y % 2 = 1
    · rw [if_pos c, if_pos c]; exact ⟨g2, rfl, p2, zE.rf⟩
    · rw [if_neg c, if_neg c, if_pos (zi_ix hb (by omega)), zi_clamp (by omega), zbs]
      exact ⟨_, rfl, RC_fr p2, zE.ui (by omega)⟩
  obtain ⟨g3, q1, q2, q3⟩ := s2
  obtain ⟨g4, d1, d2, d3⟩ := c_goDays (n := n) q2 (twoB_wf c1 ha hb) (by omega) (by omega)
  have hE : zE 25 g g4 := ((a4.tr p3).tr q3).tr d3
  have va : (nI (sk (daysN n (twoB P a b y)) a) + (if y / 2 = 1 then (0 : Int32) else 5)) = payA P a b n y := rfl
  have vb : (nI (sk (daysN n (twoB P a b y)) b) + (if y % 2 = 1 then (0 : Int32) else 5)) = payB P a b n y := rfl
  refine ⟨zc_ui (zc_ui g4 3 y (payA P a b n y)) 4 y (payB P a b n y), ?_, ⟨RC_of j1 (fun k h1 h2 => ?_), (j2.tr hE.C).tr ((zEC.u (by omega)).tr (zEC.u (by omega)))⟩, fun j hj => ?_⟩
  · unfold zf_X10_payPair
    rw [tw_hi hy, tw_lo hy]
    simp only [zbs]
    rw [a1]
    simp only [zbs] at p1 q1 ⊢
    rw [p1]
    simp only [zbs]
    rw [q1]
    simp only [zbs]
    rw [d1]
    simp only [zbs, if_pos (zi_ix ha (show 7 < 2000000000 by omega)), if_pos (zi_ix hb (show 7 < 2000000000 by omega)), if_pos (zi_ix hy (show 4 < 2000000000 by omega)), zi_clamp (show a < 2000000000 by omega), zi_clamp (show b < 2000000000 by omega), zi_clamp (show y < 2000000000 by omega), tw_z, zo_ite]
    rw [(d2.1 a ha).2.2.2.2, va]
    congr 2
    rw [zu_i, if_neg (by omega), (d2.1 b hb).2.2.2.2, vb]
  · funext v
    rw [zu_i, if_neg (by omega), zu_i, if_neg (by omega), hE.1 k (by omega)]
  · rw [zu_i, zu_i, zu_i, zu_i]
    by_cases c : j = y
    · subst c
      rw [if_neg (by omega), if_pos ⟨rfl, rfl⟩, if_pos ⟨rfl, rfl⟩]
      exact ⟨rfl, rfl⟩
    · rw [if_neg (by omega), if_neg (by omega), if_neg (by omega), if_neg (by omega), hE.1 3 (by omega), hE.1 4 (by omega)]
      exact j3 j (by omega)
theorem c_twoL {h g : zHp} {P : zP} {a b n : Nat} (c1 : zWF 999 P) (ha : a < 7) (hb : b < 7) (hn : n ≤ 30) (hJ : JC2 h P a b n 0 g) : ∃ g', zl_X10_two_42 (nI a) (nI b) (nI n) zFU 0 g = some g' ∧ JC2 h P a b n 4 g' := by
  exact zl_inv0 (fun fu s i => zl_X10_two_42 (nI a) (nI b) (nI n) fu i s) (JC2 h P a b n) (JC2 h P a b n 4) 4 (by omega) g hJ
    (fun fu i s hi hI => by
      obtain ⟨g', e1, e2⟩ := c_payPair c1 ha hb hn hi hI
      refine Or.inr ⟨g', ?_, e2⟩
      show zl_X10_two_42 (nI a) (nI b) (nI n) (fu + 1) (nI i) s = zl_X10_two_42 (nI a) (nI b) (nI n) fu (nI (i + 1)) g'
      conv => lhs; unfold zl_X10_two_42
      rw [if_neg (by rw [show (4 : Int32) = nI 4 by decide, zi_le (by omega) (by omega)]; omega), e1, zbs, zi_one])
    (fun fu s hI => ⟨s, by
      show zl_X10_two_42 (nI a) (nI b) (nI n) (fu + 1) (nI 4) s = _
      conv => lhs; unfold zl_X10_two_42
      rw [if_pos (by decide)], hI⟩)
def JM2 (h : zHp) (P : zP) (a b n y : Nat) (g : zHp) : Prop := (RM g P ∧ KA g 75 P ∧ zEM h g) ∧ ∀ j, j < y → g.1 78 (2 * j) = payA P a b n j ∧ g.1 78 (2 * j + 1) = payB P a b n j
theorem tw_d {y : Nat} (hy : y < 4) : nI y / (2 : Int32) = nI (y / 2) ∧ nI y - nI y / (2 : Int32) * (2 : Int32) = nI (y % 2) ∧ (2 : Int32) * nI y = nI (2 * y) ∧ (nI (y / 2) = 1 ↔ y / 2 = 1) ∧ (nI (y % 2) = 1 ↔ y % 2 = 1) ∧ (5 : Int32) * ((1 : Int32) - nI (y / 2)) = (if y / 2 = 1 then 0 else 5) ∧ (5 : Int32) * ((1 : Int32) - nI (y % 2)) = (if y % 2 = 1 then 0 else 5) := by
  have key : ∀ y, y < 4 → nI y / (2 : Int32) = nI (y / 2) ∧ nI y - nI y / (2 : Int32) * (2 : Int32) = nI (y % 2) ∧ (2 : Int32) * nI y = nI (2 * y) ∧ (nI (y / 2) = 1 ↔ y / 2 = 1) ∧ (nI (y % 2) = 1 ↔ y % 2 = 1) ∧ (5 : Int32) * ((1 : Int32) - nI (y / 2)) = (if y / 2 = 1 then 0 else 5) ∧ (5 : Int32) * ((1 : Int32) - nI (y % 2)) = (if y % 2 = 1 then 0 else 5) := by decide +kernel
  exact key y hy
theorem m_twoS {h g : zHp} {P : zP} {a b n y : Nat} (fu : Nat) (c1 : zWF 999 P) (ha : a < 7) (hb : b < 7) (hn : n ≤ 30) (hy : y < 4) (hJ : JM2 h P a b n y g) : ∃ g', zl_X11_two_47 (nI a) (nI b) (nI n) (fu + 1) (nI y) g = zl_X11_two_47 (nI a) (nI b) (nI n) fu (nI (y + 1)) g' ∧ JM2 h P a b n (y + 1) g' := by
  obtain ⟨⟨j1, j2, j3⟩, j4⟩ := hJ
  obtain ⟨t1, t2, t3, t4, t5, t6, t7⟩ := tw_d hy
  have s1 : ∃ v9, ((if nI (y / 2) = (1 : Int32) then (if zc_ix (nI a) 7 then some (g.1 64 (nI a).toNatClampNeg) else none) else some (nI a)) : Option Int32) = some v9 ∧ RM (zc_ui g 64 a v9) (twoA P a y) := by
    rw [if_pos (zi_ix ha (by omega)), zi_clamp (by omega), (j1.1 a ha).2.2.2.1]
    unfold twoA
    by_cases c : y / 2 = 1
    · rw [if_pos (t4.mpr c), if_pos c]
      refine ⟨_, rfl, ?_⟩
      have := RM_fr (w := a) (x := fr P a) j1
      rw [un_self, setFr_self] at this
      exact this
    · rw [if_neg (fun q => c (t4.mp q)), if_neg c]
      exact ⟨_, rfl, RM_fr j1⟩
  obtain ⟨v9, p1, p2⟩ := s1
  have s2 : ∃ v13, ((if nI (y % 2) = (1 : Int32) then (if zc_ix (nI b) 7 then some ((zc_ui g 64 a v9).1 64 (nI b).toNatClampNeg) else none) else some (nI b)) : Option Int32) = some v13 ∧ RM (zc_ui (zc_ui g 64 a v9) 64 b v13) (twoB P a b y) := by
    rw [if_pos (zi_ix hb (by omega)), zi_clamp (by omega), (p2.1 b hb).2.2.2.1]
    unfold twoB
    by_cases c : y % 2 = 1
    · rw [if_pos (t5.mpr c), if_pos c]
      refine ⟨_, rfl, ?_⟩
      have := RM_fr (w := b) (x := fr (twoA P a y) b) p2
      rw [un_self, setFr_self] at this
      exact this
    · rw [if_neg (fun q => c (t5.mp q)), if_neg c]
      exact ⟨_, rfl, RM_fr p2⟩
  obtain ⟨v13, q1, q2⟩ := s2
  have q3 : zEm g (zc_ui (zc_ui g 64 a v9) 64 b v13) := (zEm.ua (by omega)).tr (zEm.ua (by omega))
  obtain ⟨g4, d1, d2, d3⟩ := m_goDays (n := n) q2 (twoB_wf c1 ha hb) (by omega) (by omega)
  have hE : zEm g g4 := q3.tr d3
  have va : (nI (sk (daysN n (twoB P a b y)) a) + (if y / 2 = 1 then (0 : Int32) else 5)) = payA P a b n y := rfl
  have vb : (nI (sk (daysN n (twoB P a b y)) b) + (if y % 2 = 1 then (0 : Int32) else 5)) = payB P a b n y := rfl
  have hK : KA (zc_ui (zc_ui g4 78 (2 * y) (payA P a b n y)) 78 (2 * y + 1) (payB P a b n y)) 75 P := KA_of (KA_m j2 hE) (by funext v; rw [zu_i, if_neg (by omega), zu_i, if_neg (by omega)])
  obtain ⟨g6, w1, w2, w3⟩ := m_again hK
  have hM : zEM g4 (zc_ui (zc_ui g4 78 (2 * y) (payA P a b n y)) 78 (2 * y + 1) (payB P a b n y)) := (zEM.u (by unfold zK; omega) (by omega)).tr (zEM.u (by unfold zK; omega) (by omega))
  refine ⟨g6, ?_, ⟨w2, KA_a hK w3, ((j3.tr hE.M).tr hM).tr w3.M⟩, fun j hj => ?_⟩
  · conv => lhs; unfold zl_X11_two_47
    rw [if_neg (by rw [show (4 : Int32) = nI 4 by decide, zi_le (by omega) (by omega)]; omega)]
    rw [t2, t1, t3, t6, t7]
    simp only [if_pos (zi_ix ha (show 7 < 2000000000 by omega)), if_pos (zi_ix hb (show 7 < 2000000000 by omega)), if_pos (zi_ix (show 2 * y < 8 by omega) (show 8 < 2000000000 by omega)), if_pos (zi_ix (show 2 * y + 1 < 8 by omega) (show 8 < 2000000000 by omega)), zi_clamp (show a < 2000000000 by omega), zi_clamp (show b < 2000000000 by omega), zi_clamp (show 2 * y < 2000000000 by omega), zi_clamp (show 2 * y + 1 < 2000000000 by omega), zi_one, zbs] at p1 q1 ⊢
    rw [p1]
    simp only [zbs]
    rw [q1]
    simp only [zbs]
    rw [d1]
    simp only [zbs]
    rw [(d2.1 a ha).2.2.2.2, va, zu_i, if_neg (by omega), (d2.1 b hb).2.2.2.2, vb]
    rw [w1]
    simp only [zbs, zi_one]
  · rw [w3.1 78 (by omega), zu_i, zu_i, zu_i, zu_i]
    by_cases c : j = y
    · subst c
      rw [if_neg (by omega), if_pos ⟨rfl, rfl⟩, if_pos ⟨rfl, rfl⟩]
      exact ⟨rfl, rfl⟩
    · rw [if_neg (by omega), if_neg (by omega), if_neg (by omega), if_neg (by omega), hE.1 78 (by omega)]
      exact j4 j (by omega)
theorem m_twoL {h g : zHp} {P : zP} {a b n : Nat} (c1 : zWF 999 P) (ha : a < 7) (hb : b < 7) (hn : n ≤ 30) (hJ : JM2 h P a b n 0 g) : ∃ g', zl_X11_two_47 (nI a) (nI b) (nI n) zFU 0 g = some g' ∧ JM2 h P a b n 4 g' := by
  exact zl_inv0 (fun fu s i => zl_X11_two_47 (nI a) (nI b) (nI n) fu i s) (JM2 h P a b n) (JM2 h P a b n 4) 4 (by omega) g hJ
    (fun fu i s hi hI => by
      obtain ⟨g', e1, e2⟩ := m_twoS fu c1 ha hb hn hi hI
      exact Or.inr ⟨g', e1, e2⟩)
    (fun fu s hI => ⟨s, by
      show zl_X11_two_47 (nI a) (nI b) (nI n) (fu + 1) (nI 4) s = _
      conv => lhs; unfold zl_X11_two_47
      rw [if_pos (by decide)], hI⟩)
def twF (A B : Nat → Int32) : Nat → Nat → Option Nat
  | 0, _ => none
  | k + 1, y => if A y < A (y ^^^ 2) then twF A B k (y + 1) else if B y < B (y ^^^ 1) then twF A B k (y + 1) else some y
def twR (v : zHp) (o : Option Nat) : (Int32 × zHp) ⊕ Int32 := match o with
  | none => .inl (-4, v)
  | some r => .inr (nI r)
theorem twF_lt {A B : Nat → Int32} : ∀ k y r, twF A B k y = some r → r < y + k := by
  intro k
  induction k with
  | zero => intro y r h; exact absurd h (by simp [twF])
  | succ k ih =>
    intro y r h
    unfold twF at h
    split at h
    · have := ih _ _ h; omega
    · split at h
      · have := ih _ _ h; omega
      · have := Option.some.inj h; omega
theorem tw_x {y : Nat} (hy : y < 4) : y ^^^ 2 < 4 ∧ y ^^^ 1 < 4 ∧ nI y ^^^ (2 : Int32) = nI (y ^^^ 2) ∧ nI y ^^^ (1 : Int32) = nI (y ^^^ 1) ∧ ((2 : Int32) * ((1 : Int32) - nI (y / 2)) + nI (y % 2)) = nI (y ^^^ 2) ∧ ((((2 : Int32) * nI (y / 2)) + (1 : Int32)) - nI (y % 2)) = nI (y ^^^ 1) := by
  have key : ∀ y, y < 4 → y ^^^ 2 < 4 ∧ y ^^^ 1 < 4 ∧ nI y ^^^ (2 : Int32) = nI (y ^^^ 2) ∧ nI y ^^^ (1 : Int32) = nI (y ^^^ 1) ∧ ((2 : Int32) * ((1 : Int32) - nI (y / 2)) + nI (y % 2)) = nI (y ^^^ 2) ∧ ((((2 : Int32) * nI (y / 2)) + (1 : Int32)) - nI (y % 2)) = nI (y ^^^ 1) := by decide +kernel
  exact key y hy
theorem c_twF {v : zHp} {A B : Nat → Int32} (hA : ∀ j, j < 4 → v.1 3 j = A j ∧ v.1 4 j = B j) : ∀ k y fu, y + k = 4 → k < fu → zl_X10_two_66 v fu (nI y) = some (twR v (twF A B k y)) := by
  intro k
  induction k with
  | zero =>
    intro y fu hy hf
    obtain ⟨fu, rfl⟩ : ∃ q, fu = q + 1 := ⟨fu - 1, by omega⟩
    conv => lhs; unfold zl_X10_two_66
    rw [show y = 4 by omega, if_pos (by decide)]
    rfl
  | succ k ih =>
    intro y fu hy hf
    obtain ⟨fu, rfl⟩ : ∃ q, fu = q + 1 := ⟨fu - 1, by omega⟩
    obtain ⟨x1, x2, x3, x4, -⟩ := tw_x (show y < 4 by omega)
    conv => lhs; unfold zl_X10_two_66
    rw [if_neg (by rw [show (4 : Int32) = nI 4 by decide, zi_le (by omega) (by omega)]; omega), x3, x4]
    simp only [if_pos (zi_ix (show y < 4 by omega) (show 4 < 2000000000 by omega)), if_pos (zi_ix x1 (show 4 < 2000000000 by omega)), if_pos (zi_ix x2 (show 4 < 2000000000 by omega)), zi_clamp (show y < 2000000000 by omega), zi_clamp (show y ^^^ 2 < 2000000000 by omega), zi_clamp (show y ^^^ 1 < 2000000000 by omega), zi_one]
    rw [(hA y (by omega)).1, (hA y (by omega)).2, (hA _ x1).1, (hA _ x2).2, ih (y + 1) fu (by omega) (by omega)]
    conv => rhs; rw [twF]
    split
    · rfl
    · split <;> rfl
theorem m_twF {v : zHp} {A B : Nat → Int32} (hA : ∀ j, j < 4 → v.1 78 (2 * j) = A j ∧ v.1 78 (2 * j + 1) = B j) : ∀ k y fu, y + k = 4 → k < fu → zl_X11_two_169 v fu (nI y) = some (twR v (twF A B k y)) := by
  intro k
  induction k with
  | zero =>
    intro y fu hy hf
    obtain ⟨fu, rfl⟩ : ∃ q, fu = q + 1 := ⟨fu - 1, by omega⟩
    conv => lhs; unfold zl_X11_two_169
    rw [show y = 4 by omega, if_pos (by decide)]
    rfl
  | succ k ih =>
    intro y fu hy hf
    obtain ⟨fu, rfl⟩ : ∃ q, fu = q + 1 := ⟨fu - 1, by omega⟩
    obtain ⟨x1, x2, -, -, x3, x4⟩ := tw_x (show y < 4 by omega)
    obtain ⟨t1, t2, t3, -⟩ := tw_d (show y < 4 by omega)
    have t4 := (tw_d x1).2.2.1
    have t5 := (tw_d x2).2.2.1
    conv => lhs; unfold zl_X11_two_169
    rw [if_neg (by rw [show (4 : Int32) = nI 4 by decide, zi_le (by omega) (by omega)]; omega), t2, t1, x3, x4]
    simp only [zbs, t3, t4, t5, zi_one]
    simp only [if_pos (zi_ix (show 2 * y < 8 by omega) (show 8 < 2000000000 by omega)), if_pos (zi_ix (show 2 * y + 1 < 8 by omega) (show 8 < 2000000000 by omega)), if_pos (zi_ix (show 2 * (y ^^^ 2) < 8 by omega) (show 8 < 2000000000 by omega)), if_pos (zi_ix (show 2 * (y ^^^ 1) + 1 < 8 by omega) (show 8 < 2000000000 by omega)), zi_clamp (show 2 * y < 2000000000 by omega), zi_clamp (show 2 * y + 1 < 2000000000 by omega), zi_clamp (show 2 * (y ^^^ 2) < 2000000000 by omega), zi_clamp (show 2 * (y ^^^ 1) + 1 < 2000000000 by omega)]
    rw [(hA y (by omega)).1, (hA y (by omega)).2, (hA _ x1).1, (hA _ x2).2, ih (y + 1) fu (by omega) (by omega)]
    conv => rhs; rw [twF]
    split
    · rfl
    · split <;> rfl
theorem tw_e {r : Nat} (hr : r < 4) : ((10 : Int32) * (nI r >>> ((1 : Int32) &&& 31))) + (nI r &&& (1 : Int32)) = ((10 : Int32) * (nI r / (2 : Int32))) + (nI r - nI r / (2 : Int32) * (2 : Int32)) := by
  have key : ∀ r, r < 4 → ((10 : Int32) * (nI r >>> ((1 : Int32) &&& 31))) + (nI r &&& (1 : Int32)) = ((10 : Int32) * (nI r / (2 : Int32))) + (nI r - nI r / (2 : Int32) * (2 : Int32)) := by decide +kernel
  exact key r hr
theorem ok_two (x1 x2 x3 : Int32) : zOK (zf_X10_two x1 x2 x3) (zf_X11_two x1 x2 x3) := by
  refine zOK_ask2 (fun h h' P I S hC hM => ?_)
  obtain ⟨c1, c2, -⟩ := hC
  have h7 := c1.2.1
  obtain ⟨t1, t2⟩ := m_thr hM.1
  unfold zf_X10_two zf_X11_two
  simp only [zbs]
  rcases zr x1 (N := nV P) (by omega) with hx | ⟨a, ha, rfl⟩
  · rw [c_isThere_out c2 hx, m_isOne_out t1 h7 hx]
    exact ⟨_, _, _, rfl, zEC.rf, rfl, t1, t2⟩
  rw [c_isThere_in c2 c1 ha, m_isOne_in t1 h7 ha]
  simp only [zbs, z10, if_false]
  rcases zr x2 (N := nV P) (by omega) with hx | ⟨b, hb, rfl⟩
  · rw [c_isThere_out c2 hx, m_isOne_out t1 h7 hx]
    exact ⟨_, _, _, rfl, zEC.rf, rfl, t1, t2⟩
  rw [c_isThere_in c2 c1 hb, m_isOne_in t1 h7 hb]
  simp only [zbs, z10, if_false]
  by_cases ce : nI a = nI b
  · rw [if_pos ce, if_pos ce]
    exact ⟨_, _, _, rfl, zEC.rf, rfl, t1, t2⟩
  rw [if_neg ce, if_neg ce]
  rcases zr x3 (N := 31) (by omega) with hx | ⟨n, hn, rfl⟩
  · rw [m_in_out (N := 31) (by omega) (by omega) (by decide) hx]
    simp only [zbs, if_true]
    have h1 := zr_toInt (by omega) hx
    refine ⟨-1, h, _, ?_, zEC.rf, rfl, t1, t2⟩
    by_cases c : x3 < 0
    · rw [if_pos c]
    · rw [if_neg c, if_neg (fun q => by
        rw [Int32.le_iff_toInt_le] at q
        have : (30 : Int32).toInt = 30 := by decide
        rw [Int32.lt_iff_toInt_lt] at c
        simp only [Int32.toInt_zero] at c
        omega)]
  rw [m_in_in (N := 31) (by omega) hn (by decide), if_neg (nI_pos (by omega)), if_pos (by rw [show (30 : Int32) = nI 30 by decide, zi_le (by omega) (by omega)]; omega)]
  simp only [zbs, z10, if_false]
  obtain ⟨k1, p1, p2, p3, p4⟩ := m_think t1
  obtain ⟨g1, u1, u2⟩ := c_twoL (h := h) (n := n) c1 (show a < 7 by omega) (show b < 7 by omega) (by omega) ⟨⟨c2, zEC.rf⟩, fun j hj => absurd hj (by omega)⟩
  obtain ⟨g2, v1, v2⟩ := m_twoL (h := h') (n := n) c1 (show a < 7 by omega) (show b < 7 by omega) (by omega) ⟨⟨p2, p3, t2.tr p4.M⟩, fun j hj => absurd hj (by omega)⟩
  rw [u1, p1]
  simp only [zbs]
  rw [v1]
  simp only [zbs]
  have f1 := c_twF u2.2 4 0 zFU (by omega) (by rw [zFU_eq]; omega)
  have f2 := m_twF v2.2 4 0 zFU (by omega) (by rw [zFU_eq]; omega)
  rw [zi_lit0, f1, f2]
  simp only [zbs]
  cases ho : twF (payA P a b n) (payB P a b n) 4 0 with
  | none => exact ⟨_, _, _, rfl, u2.1.2, rfl, v2.1.1, v2.1.2.2⟩
  | some r =>
    have hr := twF_lt 4 0 r ho
    refine ⟨_, _, _, rfl, u2.1.2, ?_, v2.1.1, v2.1.2.2⟩
    show some (((10 : Int32) * (nI r / (2 : Int32))) + (nI r - nI r / (2 : Int32) * (2 : Int32)), g2) = _
    rw [← tw_e (by omega)]

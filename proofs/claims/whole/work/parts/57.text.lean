/-! the text of a province: what it says -/
def okD (T : Nat → Int32) (L p : Nat) : Bool := decide (p < L) && decide (48 ≤ T p ∧ T p ≤ 57)
def dv (T : Nat → Int32) (p : Nat) : Nat := (T p - 48).toNatClampNeg
def sc1 (T : Nat → Int32) (L : Nat) (s : Nat × Bool) : Nat × Bool := if !s.2 && okD T L s.1 then (s.1 + 1, false) else (s.1, true)
def scS (T : Nat → Int32) (L : Nat) : Nat → Nat × Bool → Nat × Bool
  | 0, s => s
  | n + 1, s => scS T L n (sc1 T L s)
def nD (c : Int32) : Nat := if c = 99 then 2 else if c = 100 then 2 else if c = 102 then 2 else if c = 107 then 3 else if c = 115 then 3 else if c = 118 then 5 else 0
theorem nD_le (c : Int32) : nD c ≤ 5 := by
  unfold nD
  repeat' split
  all_goals omega
theorem nD_ge {c : Int32} (h : nD c ≠ 0) : 2 ≤ nD c := by
  unfold nD at h ⊢
  repeat' split
  all_goals simp_all
/-- one statement, from i on: where no province can go on, or where it ends -/
def psS (T : Nat → Int32) (L i : Nat) : Nat ⊕ Nat :=
  if L ≤ i then .inl i else if nD (T i) = 0 then .inl i else
  if (scS T L (nD (T i)) (i + 1, false)).2 then .inl (scS T L (nD (T i)) (i + 1, false)).1 else
  if (scS T L (nD (T i)) (i + 1, false)).1 < L ∧ T (scS T L (nD (T i)) (i + 1, false)).1 = 59 then .inr ((scS T L (nD (T i)) (i + 1, false)).1 + 1) else .inl (scS T L (nD (T i)) (i + 1, false)).1
def fltN (T : Nat → Int32) (L : Nat) : Nat → Nat → Option Nat
  | 0, _ => none
  | f + 1, i => match psS T L i with
    | .inl j => some j
    | .inr j => if j < L then fltN T L f j else none
theorem sc_bad (T : Nat → Int32) (L p : Nat) : ∀ n, scS T L n (p, true) = (p, true)
  | 0 => rfl
  | n + 1 => by
    show scS T L n (sc1 T L (p, true)) = _
    exact sc_bad T L p n
theorem sc_y {T : Nat → Int32} {L p n : Nat} (h : okD T L p = true) : scS T L (n + 1) (p, false) = scS T L n (p + 1, false) := by
  show scS T L n (sc1 T L (p, false)) = _
  unfold sc1
  rw [h]; rfl
theorem sc_n {T : Nat → Int32} {L p n : Nat} (h : okD T L p = false) : scS T L (n + 1) (p, false) = (p, true) := by
  show scS T L n (sc1 T L (p, false)) = _
  unfold sc1
  rw [h]
  exact sc_bad T L p n
theorem sc_good {T : Nat → Int32} {L : Nat} : ∀ (n p : Nat), (scS T L n (p, false)).2 = false → (scS T L n (p, false)).1 = p + n ∧ ∀ x, x < n → okD T L (p + x) = true := by
  intro n
  induction n with
  | zero => intro p _; exact ⟨rfl, fun x hx => absurd hx (by omega)⟩
  | succ n ih =>
    intro p h
    cases c : okD T L p
    · rw [sc_n c] at h; cases h
    · rw [sc_y c] at h ⊢
      obtain ⟨i1, i2⟩ := ih (p + 1) h
      refine ⟨by rw [i1]; omega, fun x hx => ?_⟩
      by_cases c2 : x = 0
      · subst c2; exact c
      · rw [show p + x = p + 1 + (x - 1) by omega]; exact i2 _ (by omega)
theorem sc_le {T : Nat → Int32} {L : Nat} : ∀ (n p : Nat), p ≤ L → (scS T L n (p, false)).1 ≤ L := by
  intro n
  induction n with
  | zero => intro p h; exact h
  | succ n ih =>
    intro p h
    cases c : okD T L p
    · rw [sc_n c]; exact h
    · rw [sc_y c]
      have : p < L := by
        unfold okD at c
        rw [Bool.and_eq_true] at c
        exact of_decide_eq_true c.1
      exact ih (p + 1) (by omega)
theorem ps_ok {T : Nat → Int32} {L i j : Nat} (h : psS T L i = .inr j) : i < L ∧ nD (T i) ≠ 0 ∧ (∀ x, x < nD (T i) → okD T L (i + 1 + x) = true) ∧ j = i + 2 + nD (T i) ∧ j ≤ L := by
  unfold psS at h
  by_cases c1 : L ≤ i
  · rw [if_pos c1] at h; cases h
  rw [if_neg c1] at h
  by_cases c2 : nD (T i) = 0
  · rw [if_pos c2] at h; cases h
  rw [if_neg c2] at h
  cases c3 : (scS T L (nD (T i)) (i + 1, false)).2
  · rw [c3, if_neg (by decide)] at h
    obtain ⟨g1, g2⟩ := sc_good _ _ c3
    by_cases c4 : (scS T L (nD (T i)) (i + 1, false)).1 < L ∧ T (scS T L (nD (T i)) (i + 1, false)).1 = 59
    · rw [if_pos c4] at h
      have e := Sum.inr.inj h
      refine ⟨by omega, c2, g2, by omega, by omega⟩
    · rw [if_neg c4] at h; cases h
  · rw [c3, if_pos rfl] at h; cases h
theorem ps_le {T : Nat → Int32} {L i j : Nat} (hi : i ≤ L) (h : psS T L i = .inl j) : j ≤ L := by
  unfold psS at h
  by_cases c1 : L ≤ i
  · rw [if_pos c1] at h; have := Sum.inl.inj h; omega
  rw [if_neg c1] at h
  have hs := sc_le (T := T) (nD (T i)) (i + 1) (show i + 1 ≤ L by omega)
  by_cases c2 : nD (T i) = 0
  · rw [if_pos c2] at h; have := Sum.inl.inj h; omega
  rw [if_neg c2] at h
  split at h
  · have := Sum.inl.inj h; omega
  · split at h
    · cases h
    · have := Sum.inl.inj h; omega
theorem dv_ok {T : Nat → Int32} {L p : Nat} (h : okD T L p = true) : p < L ∧ T p = nI (48 + dv T p) ∧ dv T p < 10 ∧ T p - 48 = nI (dv T p) := by
  unfold okD at h
  rw [Bool.and_eq_true] at h
  have h1 := of_decide_eq_true h.1
  obtain ⟨h2, h3⟩ := of_decide_eq_true h.2
  rw [zi_leT, show (48 : Int32).toInt = 48 by decide] at h2
  rw [zi_leT, show (57 : Int32).toInt = 57 by decide] at h3
  obtain ⟨n, hn, e⟩ := zi_nat (x := T p) (L := 57) (by omega) (by omega) (by omega)
  rw [e, nI_toInt (by omega)] at h2
  have e2 : T p - 48 = nI (n - 48) := by rw [e, show (48 : Int32) = nI 48 by decide, pk_sub (by omega)]
  have e3 : dv T p = n - 48 := by unfold dv; rw [e2, zi_clamp (by omega)]
  exact ⟨h1, by rw [e, e3, show 48 + (n - 48) = n by omega], by omega, by rw [e2, e3]⟩
/-! the class reads it -/
theorem c_digB (c : Int32) : zf_X10_digitsBehind c = some (if nD c = 0 then -1 else nI (nD c)) := by
  unfold zf_X10_digitsBehind nD
  repeat' split
  all_goals first | rfl | simp_all
theorem c_scanL {h : zHp} {q L : Nat} {T : Nat → Int32} (e4 : h.1 q 4 = nI L) (eT : ∀ i, i < 100 → h.1 (q + 1) i = T i) (hL : L ≤ 100) : ∀ (n fu p : Nat), n < fu → p + n < 1000 → zl_X10_placeOfFault_37 q h (nI (p + n)) fu (nI p) = some (if (scS T L n (p, false)).2 then .inl (nI (scS T L n (p, false)).1) else .inr (nI (scS T L n (p, false)).1)) := by
  intro n
  induction n with
  | zero =>
    intro fu p hfu hp
    obtain ⟨fu, rfl⟩ : ∃ f, fu = f + 1 := ⟨fu - 1, by omega⟩
    unfold zl_X10_placeOfFault_37
    rw [if_pos (by rw [zi_le (by omega) (by omega)]; omega)]
    rfl
  | succ n ih =>
    intro fu p hfu hp
    obtain ⟨fu, rfl⟩ : ∃ f, fu = f + 1 := ⟨fu - 1, by omega⟩
    unfold zl_X10_placeOfFault_37
    rw [if_neg (by rw [zi_le (by omega) (by omega)]; omega), e4]
    by_cases c1 : L ≤ p
    · rw [if_pos (by rw [zi_le (by omega) (by omega)]; exact c1), sc_n (by unfold okD; rw [decide_eq_false (show ¬ p < L by omega)]; rfl)]; rfl
    rw [if_neg (by rw [zi_le (by omega) (by omega)]; exact c1)]
    simp only [if_pos (zi_ix (show p < 100 by omega) (show 100 < 2000000000 by omega)), zi_clamp (show p < 2000000000 by omega), eT p (by omega), zi_one]
    by_cases c2 : T p < 48
    · rw [if_pos c2, sc_n (by unfold okD; rw [decide_eq_false (show ¬ (48 ≤ T p ∧ T p ≤ 57) from fun q => zi_nle.mp q.1 c2), Bool.and_false])]; rfl
    rw [if_neg c2]
    by_cases c3 : T p ≤ 57
    · have ok : okD T L p = true := by unfold okD; rw [decide_eq_true (show p < L by omega), decide_eq_true (show 48 ≤ T p ∧ T p ≤ 57 from ⟨zi_nle.mpr c2, c3⟩)]; rfl
      rw [if_pos c3, sc_y ok, show p + (n + 1) = p + 1 + n by omega]
      exact ih fu (p + 1) (by omega) (by omega)
    · rw [if_neg c3, sc_n (by unfold okD; rw [decide_eq_false (show ¬ (48 ≤ T p ∧ T p ≤ 57) from fun q => c3 q.2), Bool.and_false])]; rfl
theorem c_faultL {h : zHp} {q L : Nat} {T : Nat → Int32} (e4 : h.1 q 4 = nI L) (eT : ∀ i, i < 100 → h.1 (q + 1) i = T i) (hL : L ≤ 100) : ∀ (f fu i : Nat), f < fu → i ≤ L → L < i + 4 * f → zl_X10_placeOfFault_2 q h fu (nI i) = some (match fltN T L f i with | some j => .inl (nI j) | none => .inr ()) := by
  intro f
  induction f with
  | zero => intro fu i _ h1 h2; omega
  | succ f ih =>
    intro fu i hfu hi hm
    obtain ⟨fu, rfl⟩ : ∃ f, fu = f + 1 := ⟨fu - 1, by omega⟩
    have n0 : ¬ (0 : Int32) ≤ -1 := by decide
    unfold zl_X10_placeOfFault_2
    rw [e4]
    by_cases c1 : L ≤ i
    · have e : psS T L i = .inl i := by unfold psS; rw [if_pos c1]
      rw [if_pos (by rw [zi_le (by omega) (by omega)]; exact c1), zbs, if_neg n0]
      unfold fltN
      rw [e]
    rw [if_neg (by rw [zi_le (by omega) (by omega)]; exact c1), if_pos (zi_ix (show i < 100 by omega) (by omega)), zi_clamp (show i < 2000000000 by omega), eT i (by omega), c_digB, zbs, zbs]
    by_cases c2 : nD (T i) = 0
    · have e : psS T L i = .inl i := by unfold psS; rw [if_neg c1, if_pos c2]
      rw [if_pos c2, if_neg n0]
      unfold fltN
      rw [e]
    have hn5 := nD_le (T i)
    rw [if_neg c2, if_pos (nI_pos' (by omega)), zi_one, nI_add, zbs, show i + 1 + nD (T i) = (i + 1) + nD (T i) from rfl, c_scanL e4 eT hL (nD (T i)) zFU (i + 1) (by rw [zFU_eq]; omega) (by omega), zbs]
    cases c3 : (scS T L (nD (T i)) (i + 1, false)).2
    · obtain ⟨g1, g2⟩ := sc_good _ _ c3
      have ep : psS T L i = if i + 1 + nD (T i) < L ∧ T (i + 1 + nD (T i)) = 59 then .inr (i + 1 + nD (T i) + 1) else .inl (i + 1 + nD (T i)) := by
        unfold psS; rw [if_neg c1, if_neg c2, c3, if_neg (by decide), g1]
      have hle := sc_le (T := T) (nD (T i)) (i + 1) (show i + 1 ≤ L by omega)
      rw [g1] at hle
      rw [if_neg (by decide), g1]
      simp only [Sum.elim_inr]
      unfold fltN
      rw [ep]
      by_cases c4 : L ≤ i + 1 + nD (T i)
      · rw [if_pos (by rw [zi_le (by omega) (by omega)]; exact c4), if_neg (show ¬ (i + 1 + nD (T i) < L ∧ T (i + 1 + nD (T i)) = 59) by omega)]
      rw [if_neg (by rw [zi_le (by omega) (by omega)]; exact c4), if_pos (zi_ix (show i + 1 + nD (T i) < 100 by omega) (by omega)), zi_clamp (show i + 1 + nD (T i) < 2000000000 by omega), eT _ (by omega), zi_one]
      by_cases c5 : T (i + 1 + nD (T i)) = 59
      · rw [if_pos c5, if_pos (show (i + 1 + nD (T i) < L ∧ T (i + 1 + nD (T i)) = 59) from ⟨by omega, c5⟩)]
        simp only []
        by_cases c6 : i + 1 + nD (T i) + 1 < L
        · rw [if_pos (by rw [zi_lt (by omega) (by omega)]; exact c6), if_pos c6]
          exact ih fu _ (by omega) (by omega) (by have := nD_ge c2; omega)
        · rw [if_neg (by rw [zi_lt (by omega) (by omega)]; exact c6), if_neg c6]
      · rw [if_neg c5, if_neg (show ¬ (i + 1 + nD (T i) < L ∧ T (i + 1 + nD (T i)) = 59) from fun q => c5 q.2)]
    · have ep : psS T L i = .inl (scS T L (nD (T i)) (i + 1, false)).1 := by
        unfold psS; rw [if_neg c1, if_neg c2, c3, if_pos rfl]
      rw [if_pos rfl]
      simp only [Sum.elim_inl]
      unfold fltN
      rw [ep]
theorem c_fault {h : zHp} {q L : Nat} {T : Nat → Int32} (e4 : h.1 q 4 = nI L) (eT : ∀ i, i < 100 → h.1 (q + 1) i = T i) (hL : L ≤ 100) : zf_X10_placeOfFault q h = some (match fltN T L 26 0 with | some j => nI j | none => -1) := by
  unfold zf_X10_placeOfFault
  rw [show zl_X10_placeOfFault_2 q h zFU 0 = _ from c_faultL e4 eT hL 26 zFU 0 (by rw [zFU_eq]; omega) (by omega) (by omega), zbs]
  cases fltN T L 26 0 <;> rfl
theorem flt_le {T : Nat → Int32} {L : Nat} : ∀ (f i j : Nat), i ≤ L → fltN T L f i = some j → j ≤ L := by
  intro f
  induction f with
  | zero => intro i j _ h; cases h
  | succ f ih =>
    intro i j hi h
    unfold fltN at h
    cases c : psS T L i with
    | inl x =>
      rw [c] at h
      have := Option.some.inj h
      have := ps_le hi c
      omega
    | inr x =>
      rw [c] at h
      have := (ps_ok c).2.2.2.2
      by_cases q : x < L
      · exact ih x j (by omega) (by simpa [q] using h)
      · simp [q] at h

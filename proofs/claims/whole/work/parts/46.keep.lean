/-! keep -/
def setS (S : zS) (d : Nat) (x : Nat × Nat × Nat × Nat × Nat × (Nat → Int32)) : zS := fun e => if e = d then x else S e
theorem CI_S {h h1 : zHp} {P : zP} {I : Option zP} {S S2 : zS} {d : Nat} (hd : d < 8) (hC : CI h P I S) (hE : ∀ a, a ≠ 44 + 2 * d → a ≠ 44 + 2 * d + 1 → h1.1 a = h.1 a) (h2 : h1.2 = h.2) (hW : zSW S2) (hS : SC h1 S2) : CI h1 P I S2 ∧ zFC h h1 := by
  obtain ⟨c1, c2, c3, c4, c5, c6⟩ := hC
  refine ⟨⟨c1, RC_of c2 (fun a _ _ => hE a (by omega) (by omega)), by rw [hE 0 (by omega) (by omega)]; exact c3, fun Q hQ => ⟨(c4 Q hQ).1, RC_of (c4 Q hQ).2 (fun a _ _ => hE a (by omega) (by omega))⟩, hW, hS⟩, fun a ha => ⟨hE a (by omega) (by omega), by rw [h2]⟩⟩
theorem MI_S {g g1 : zHp} {P : zP} {I : Option zP} {S S2 : zS} (hM : MI g P I S) (hE : ∀ a, a < 66 ∨ 71 < a → g1.1 a = g.1 a) (hS : SM g1 S2) : MI g1 P I S2 := by
  obtain ⟨m1, m2, m3, m4⟩ := hM
  exact ⟨RM_of2 m1 (fun a _ _ => hE a (by omega)), by rw [hE 60 (by omega)]; exact m2, fun Q hQ => KA_of (m3 Q hQ) (hE 76 (by omega)), hS⟩
theorem zSW_set {S : zS} {d : Nat} {x : Nat × Nat × Nat × Nat × Nat × (Nat → Int32)} (h : zSW S) (hx : x.1 ≤ 2 ∧ x.2.1 < 8 ∧ x.2.2.1 < 10 ∧ x.2.2.2.1 ≤ 2 ∧ x.2.2.2.2.1 ≤ 100) : zSW (setS S d x) := fun e he => by
  unfold setS
  split
  · exact hx
  · exact h e he
theorem SC_keep {h : zHp} {S : zS} {d n k f : Nat} (hS : SC h S) (hd : d < 8) (h1 : zHp) (hE : ∀ a, a ≠ 44 + 2 * d → h1.1 a = h.1 a) (e0 : h1.1 (44 + 2 * d) 0 = nI n) (e1 : n = 1 → h1.1 (44 + 2 * d) 1 = nI k ∧ h1.1 (44 + 2 * d) 2 = nI f) (e3 : h1.1 (44 + 2 * d) 3 = h.1 (44 + 2 * d) 3) (e4 : h1.1 (44 + 2 * d) 4 = h.1 (44 + 2 * d) 4) : SC h1 (setS S d (n, k, f, (S d).2.2.2)) := fun e he => by
  unfold setS
  by_cases c : e = d
  · subst c
    rw [if_pos rfl]
    have q := hS e he
    refine ⟨e0, e1, by rw [e3]; exact q.2.2.1, by rw [e4]; exact q.2.2.2.1, fun i hi => by rw [hE (44 + 2 * e + 1) (by omega)]; exact q.2.2.2.2 i hi⟩
  · rw [if_neg c, hE (44 + 2 * e) (by omega), hE (44 + 2 * e + 1) (by omega)]
    exact hS e he
theorem SM_keep {h : zHp} {S : zS} {d n k f : Nat} {kx fx : Int32} (hS : SM h S) (hk : n = 1 → kx = nI k ∧ fx = nI f) : SM (zc_ui (zc_ui (zc_ui h 66 d (nI n)) 67 d kx) 68 d fx) (setS S d (n, k, f, (S d).2.2.2)) := fun e he => by
  have q := hS e he
  have z2 : (zc_ui (zc_ui (zc_ui h 66 d (nI n)) 67 d kx) 68 d fx).2 = h.2 := rfl
  have w1 : (zc_ui (zc_ui (zc_ui h 66 d (nI n)) 67 d kx) 68 d fx).1 66 e = if e = d then nI n else h.1 66 e := by
    rw [zu_i, if_neg (by omega), zu_i, if_neg (by omega), zu_i]; simp only [true_and]
  have w2 : (zc_ui (zc_ui (zc_ui h 66 d (nI n)) 67 d kx) 68 d fx).1 67 e = if e = d then kx else h.1 67 e := by
    rw [zu_i, if_neg (by omega), zu_i, zu_i, if_neg (show ¬ (67 = 66 ∧ e = d) by omega)]; simp only [true_and]
  have w3 : (zc_ui (zc_ui (zc_ui h 66 d (nI n)) 67 d kx) 68 d fx).1 68 e = if e = d then fx else h.1 68 e := by
    rw [zu_i, zu_i, if_neg (show ¬ (68 = 67 ∧ e = d) by omega), zu_i, if_neg (show ¬ (68 = 66 ∧ e = d) by omega)]; simp only [true_and]
  have w4 : ∀ j, 68 < j → (zc_ui (zc_ui (zc_ui h 66 d (nI n)) 67 d kx) 68 d fx).1 j e = h.1 j e := fun j hj => by
    rw [zu_i, if_neg (by omega), zu_i, if_neg (by omega), zu_i, if_neg (by omega)]
  rw [z2, w1, w2, w3, w4 69 (by omega), w4 70 (by omega)]
  unfold setS
  by_cases c : e = d
  · subst c
    rw [if_pos rfl, if_pos rfl, if_pos rfl, if_pos rfl]
    exact ⟨rfl, hk, q.2.2⟩
  · rw [if_neg c, if_neg c, if_neg c, if_neg c]
    exact q

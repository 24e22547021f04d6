/-! the reference's rows of what is kept -/
theorem zu_same {h : zHp} {a k : Nat} {x : Int32} (e : h.1 a k = x) : zc_ui h a k x = h := by
  have : va_up h.1 a (upd (h.1 a) k x) = h.1 := by
    funext b j
    simp only [va_up, upd]
    by_cases c : b = a
    · subst c
      by_cases c2 : j = k
      · subst c2; simp [upd, e]
      · simp [upd, c2]
    · simp [c]
  show (va_up h.1 a (upd (h.1 a) k x), h.2) = h
  rw [this]
def KA (h : zHp) (b : Nat) (P : zP) : Prop := h.1 b 0 = nI (nV P) ∧ h.1 b 1 = nI (ch P) ∧ h.1 b 2 = nI (sp P) ∧ h.1 b 3 = nI (hm P) ∧ h.1 b 4 = nI (nd P) ∧ h.1 b 5 = nI (dy P) ∧
  ∀ v, v < 7 → h.1 b (6 + 5 * v) = nI (kd P v) ∧ h.1 b (6 + 5 * v + 1) = nI (fg P v) ∧ h.1 b (6 + 5 * v + 2) = nI (pl P v) ∧ h.1 b (6 + 5 * v + 3) = nI (fr P v) ∧ h.1 b (6 + 5 * v + 4) = nI (sk P v)
/-- where the taking or putting back is -/
def KC (h : zHp) (b : Nat) (t : Int32) (n : Nat) : Prop := h.1 60 29 = t ∧ h.1 60 30 = nI b ∧ h.1 60 28 = nI n
theorem m_carry1 {h : zHp} {b n : Nat} {x : Int32} (hb : b = 75 ∨ b = 76) (hn : n < 41) (hC : KC h b 1 n) : zf_X11_carry x h = some (x, zc_ui (zc_ui h b n x) 60 28 (nI (n + 1))) := by
  obtain ⟨c1, c2, c3⟩ := hC
  have hb3 : (nI b = 75 ∨ nI b = 76) := by rcases hb with rfl | rfl <;> decide
  have hcl : (nI b).toNatClampNeg = b := zi_clamp (by omega)
  have hne : ¬ (60 = b) := by omega
  have hne2 : ¬ (b = 60) := by omega
  simp only [zf_X11_carry, c1, c2, c3, if_pos hb3, hcl, if_pos (zi_ix hn (show 41 < 2000000000 by omega)), zi_clamp (show n < 2000000000 by omega), Option.bind_some, zu_i, hne, hne2, false_and, if_false, zi_one, true_and, and_self, if_true, Nat.reduceEqDiff]
  rw [if_neg (by decide)]
  simp only [Option.bind_some, zu_i, hne, hne2, false_and, if_false, c2, c3, zi_one, true_and, Nat.reduceEqDiff, and_self, if_true, if_pos hb3, hcl]
  rw [show nI (n + 1) - 1 = nI n from nI_pred n]
  simp only [if_pos (zi_ix hn (show 41 < 2000000000 by omega)), zi_clamp (show n < 2000000000 by omega), if_true]
theorem m_carry0 {h : zHp} {b n : Nat} {x : Int32} (hb : b = 75 ∨ b = 76) (hn : n < 41) (hC : KC h b 0 n) : zf_X11_carry x h = some (h.1 b n, zc_ui h 60 28 (nI (n + 1))) := by
  obtain ⟨c1, c2, c3⟩ := hC
  have hb3 : (nI b = 75 ∨ nI b = 76) := by rcases hb with rfl | rfl <;> decide
  have hcl : (nI b).toNatClampNeg = b := zi_clamp (by omega)
  have hne2 : ¬ (b = 60) := by omega
  simp only [zf_X11_carry, c1, c2, c3, if_true, Option.bind_some, zu_i, hne2, false_and, if_false, zi_one, true_and, Nat.reduceEqDiff, and_self, if_pos hb3, hcl]
  rw [show nI (n + 1) - 1 = nI n from nI_pred n]
  simp only [if_pos (zi_ix hn (show 41 < 2000000000 by omega)), zi_clamp (show n < 2000000000 by omega)]
def zEk (b : Nat) (h h2 : zHp) : Prop := (∀ a, a ≠ 60 → a ≠ b → h2.1 a = h.1 a) ∧ (∀ k, k ≠ 28 → k ≠ 29 → k ≠ 30 → h2.1 60 k = h.1 60 k) ∧ h2.2 = h.2
theorem zEk.tr {b : Nat} {h h1 h2 : zHp} (x : zEk b h h1) (y : zEk b h1 h2) : zEk b h h2 := ⟨fun a h1 h2 => (y.1 a h1 h2).trans (x.1 a h1 h2), fun k h1 h2 h3 => (y.2.1 k h1 h2 h3).trans (x.2.1 k h1 h2 h3), y.2.2.trans x.2.2⟩
theorem zEk.ub {b k : Nat} {h : zHp} {x : Int32} (hb : b = 75 ∨ b = 76) : zEk b h (zc_ui h b k x) := by
  refine ⟨fun a h1 h2 => ?_, fun j _ _ _ => ?_, rfl⟩
  · funext j; rw [zu_i, if_neg (by omega)]
  · rw [zu_i, if_neg (by omega)]
theorem zEk.uf {b k : Nat} {h : zHp} {x : Int32} (hk : k = 28 ∨ k = 29 ∨ k = 30) : zEk b h (zc_ui h 60 k x) := by
  refine ⟨fun a h1 h2 => ?_, fun j _ _ _ => ?_, rfl⟩
  · funext j; rw [zu_i, if_neg (by omega)]
  · rw [zu_i, if_neg (by omega)]
/-- one taking: the value stays where it was, and stands in the row -/
def tk1 (h : zHp) (b n : Nat) (x : Int32) : zHp := zc_ui (zc_ui h b n x) 60 28 (nI (n + 1))
theorem tk1_K {h : zHp} {b n : Nat} {x : Int32} (hb : b = 75 ∨ b = 76) (hC : KC h b 1 n) : KC (tk1 h b n x) b 1 (n + 1) := by
  obtain ⟨c1, c2, c3⟩ := hC
  have hne : ¬ (60 = b) := by omega
  refine ⟨?_, ?_, ?_⟩ <;> simp [tk1, zu_i, hne, c1, c2]
theorem tk1_E {h : zHp} {b n : Nat} {x : Int32} (hb : b = 75 ∨ b = 76) : zEk b h (tk1 h b n x) := (zEk.ub hb).tr (zEk.uf (by omega))
theorem tk1_b {h : zHp} {b n j : Nat} {x : Int32} (hb : b = 75 ∨ b = 76) : (tk1 h b n x).1 b j = if j = n then x else h.1 b j := by
  have hne : ¬ (b = 60) := by omega
  simp [tk1, zu_i, hne]
theorem RM_of {h h2 : zHp} {P : zP} (hR : RM h P) (h1 : ∀ a, 61 ≤ a → a ≤ 65 → h2.1 a = h.1 a) (h3 : ∀ k, k < 20 → h2.1 60 k = h.1 60 k) : RM h2 P := by
  obtain ⟨r1, r2, r3, r4, r5, r6, r7⟩ := hR
  refine ⟨fun v hv => ?_, ?_, ?_, ?_, ?_, ?_, ?_⟩
  · rw [h1 61 (by omega) (by omega), h1 62 (by omega) (by omega), h1 63 (by omega) (by omega), h1 64 (by omega) (by omega), h1 65 (by omega) (by omega)]; exact r1 v hv
  · rw [h3 _ (by omega)]; exact r2
  · rw [h3 _ (by omega)]; exact r3
  · rw [h3 _ (by omega)]; exact r4
  · rw [h3 _ (by omega)]; exact r5
  · rw [h3 _ (by omega)]; exact r6
  · rw [h3 _ (by omega)]; exact r7
theorem RM_k {b : Nat} {h h2 : zHp} {P : zP} (hb : b = 75 ∨ b = 76) (hR : RM h P) (hE : zEk b h h2) : RM h2 P := RM_of hR (fun a h1 h3 => hE.1 a (by omega) (by omega)) (fun k hk => hE.2.1 k (by omega) (by omega) (by omega))
theorem m_takeLoop {b : Nat} (hb : b = 75 ∨ b = 76) {P : zP} : ∀ (k i fu : Nat) (h : zHp), i + k = 7 → k < fu → RM h P → KC h b 1 (6 + 5 * i) → ∃ h2, zl_X11_carryAll_89 fu (nI i) h = some h2 ∧ zEk b h h2 ∧ (∀ j, j < 6 + 5 * i → h2.1 b j = h.1 b j) ∧ ∀ v, i ≤ v → v < 7 → h2.1 b (6 + 5 * v) = nI (kd P v) ∧ h2.1 b (6 + 5 * v + 1) = nI (fg P v) ∧ h2.1 b (6 + 5 * v + 2) = nI (pl P v) ∧ h2.1 b (6 + 5 * v + 3) = nI (fr P v) ∧ h2.1 b (6 + 5 * v + 4) = nI (sk P v) := by
  intro k
  induction k with
  | zero =>
    intro i fu h hik hfu hR hC
    obtain ⟨fu, rfl⟩ : ∃ f, fu = f + 1 := ⟨fu - 1, by omega⟩
    have : i = 7 := by omega
    subst this
    refine ⟨h, ?_, ⟨fun _ _ _ => rfl, fun _ _ _ _ => rfl, rfl⟩, fun _ _ => rfl, fun v h1 h2 => absurd h1 (by omega)⟩
    unfold zl_X11_carryAll_89
    rw [if_pos (by decide)]
  | succ k ih =>
    intro i fu h hik hfu hR hC
    obtain ⟨fu, rfl⟩ : ∃ f, fu = f + 1 := ⟨fu - 1, by omega⟩
    have hi : i < 7 := by omega
    obtain ⟨e1, e2, e3, e4, e5⟩ := hR.1 i hi
    have C1 := tk1_K (x := nI (kd P i)) hb hC
    have R1 := RM_k hb hR (tk1_E (n := 6 + 5 * i) (x := nI (kd P i)) hb)
    have C2 := tk1_K (x := nI (fg P i)) hb C1
    have R2 := RM_k hb R1 (tk1_E (n := 6 + 5 * i + 1) (x := nI (fg P i)) hb)
    have C3 := tk1_K (x := nI (pl P i)) hb C2
    have R3 := RM_k hb R2 (tk1_E (n := 6 + 5 * i + 1 + 1) (x := nI (pl P i)) hb)
    have C4 := tk1_K (x := nI (fr P i)) hb C3
    have R4 := RM_k hb R3 (tk1_E (n := 6 + 5 * i + 1 + 1 + 1) (x := nI (fr P i)) hb)
    have C5 := tk1_K (x := nI (sk P i)) hb C4
    have R5 := RM_k hb R4 (tk1_E (n := 6 + 5 * i + 1 + 1 + 1 + 1) (x := nI (sk P i)) hb)
    obtain ⟨h3, s1, s2, s3, s4⟩ := ih (i + 1) fu _ (by omega) (by omega) R5 (by rw [show 6 + 5 * (i + 1) = 6 + 5 * i + 1 + 1 + 1 + 1 + 1 by omega]; exact C5)
    refine ⟨h3, ?_, ((((tk1_E hb).tr (tk1_E hb)).tr (tk1_E hb)).tr (tk1_E hb)).tr ((tk1_E hb).tr s2), fun j hj => ?_, fun v h1 h2 => ?_⟩
    · unfold zl_X11_carryAll_89
      rw [if_neg (by rw [zi_lit7, zi_le (by omega) (by omega)]; omega)]
      simp only [zi_clamp (show i < 2000000000 by omega), if_pos (zi_ix hi (show 7 < 2000000000 by omega)), e1]
      rw [m_carry1 hb (by omega) hC]
      simp only [Option.bind_some]
      rw [show zc_ui (zc_ui h b (6 + 5 * i) (nI (kd P i))) 60 28 (nI (6 + 5 * i + 1)) = tk1 h b (6 + 5 * i) (nI (kd P i)) from rfl, zu_same (R1.1 i hi).1, (R1.1 i hi).2.1, m_carry1 hb (by omega) C1]
      simp only [Option.bind_some]
      rw [show zc_ui (zc_ui (tk1 h b (6 + 5 * i) (nI (kd P i))) b (6 + 5 * i + 1) (nI (fg P i))) 60 28 (nI (6 + 5 * i + 1 + 1)) = tk1 (tk1 h b (6 + 5 * i) (nI (kd P i))) b (6 + 5 * i + 1) (nI (fg P i)) from rfl, zu_same (R2.1 i hi).2.1, (R2.1 i hi).2.2.1, m_carry1 hb (by omega) C2]
      simp only [Option.bind_some]
      rw [← tk1, zu_same (R3.1 i hi).2.2.1, (R3.1 i hi).2.2.2.1, m_carry1 hb (by omega) C3]
      simp only [Option.bind_some]
      rw [← tk1, zu_same (R4.1 i hi).2.2.2.1, (R4.1 i hi).2.2.2.2, m_carry1 hb (by omega) C4]
      simp only [Option.bind_some]
      rw [← tk1, zu_same (R5.1 i hi).2.2.2.2, zi_one]
      exact s1
    · rw [s3 j (by omega), tk1_b hb, if_neg (by omega), tk1_b hb, if_neg (by omega), tk1_b hb, if_neg (by omega), tk1_b hb, if_neg (by omega), tk1_b hb, if_neg (by omega)]
    · by_cases hv : v = i
      · subst hv
        refine ⟨?_, ?_, ?_, ?_, ?_⟩
        · rw [s3 _ (by omega), tk1_b hb, if_neg (by omega), tk1_b hb, if_neg (by omega), tk1_b hb, if_neg (by omega), tk1_b hb, if_neg (by omega), tk1_b hb, if_pos (by omega)]
        · rw [s3 _ (by omega), tk1_b hb, if_neg (by omega), tk1_b hb, if_neg (by omega), tk1_b hb, if_neg (by omega), tk1_b hb, if_pos (by omega)]
        · rw [s3 _ (by omega), tk1_b hb, if_neg (by omega), tk1_b hb, if_neg (by omega), tk1_b hb, if_pos (by omega)]
        · rw [s3 _ (by omega), tk1_b hb, if_neg (by omega), tk1_b hb, if_pos (by omega)]
        · rw [s3 _ (by omega), tk1_b hb, if_pos (by omega)]
      · exact s4 v (by omega) h2

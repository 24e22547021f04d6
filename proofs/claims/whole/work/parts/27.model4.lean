theorem m_take {b : Nat} (hb : b = 75 ∨ b = 76) {h : zHp} {P : zP} (hR : RM h P) : ∃ h2, zf_X11_carryAll b 41 1 h = some h2 ∧ RM h2 P ∧ KA h2 b P ∧ zEk b h h2 := by
  have E0 : zEk b h (zc_ui (zc_ui (zc_ui h 60 30 (nI b)) 60 29 1) 60 28 0) := ((zEk.uf (by omega)).tr (zEk.uf (by omega))).tr (zEk.uf (by omega))
  have C0 : KC (zc_ui (zc_ui (zc_ui h 60 30 (nI b)) 60 29 1) 60 28 0) b 1 0 := by refine ⟨?_, ?_, ?_⟩ <;> simp [zu_i] <;> decide
  generalize hh : zc_ui (zc_ui (zc_ui h 60 30 (nI b)) 60 29 1) 60 28 0 = h0 at E0 C0
  have R0 := RM_k hb hR E0
  have C1 := tk1_K (x := nI (nV P)) hb C0
  have R1 := RM_k hb R0 (tk1_E (n := 0) (x := nI (nV P)) hb)
  have C2 := tk1_K (x := nI (ch P)) hb C1
  have R2 := RM_k hb R1 (tk1_E (n := 0 + 1) (x := nI (ch P)) hb)
  have C3 := tk1_K (x := nI (sp P)) hb C2
  have R3 := RM_k hb R2 (tk1_E (n := 0 + 1 + 1) (x := nI (sp P)) hb)
  have C4 := tk1_K (x := nI (hm P)) hb C3
  have R4 := RM_k hb R3 (tk1_E (n := 0 + 1 + 1 + 1) (x := nI (hm P)) hb)
  have C5 := tk1_K (x := nI (nd P)) hb C4
  have R5 := RM_k hb R4 (tk1_E (n := 0 + 1 + 1 + 1 + 1) (x := nI (nd P)) hb)
  have C6 := tk1_K (x := nI (dy P)) hb C5
  have R6 := RM_k hb R5 (tk1_E (n := 0 + 1 + 1 + 1 + 1 + 1) (x := nI (dy P)) hb)
  obtain ⟨h3, s1, s2, s3, s4⟩ := m_takeLoop hb 7 0 zFU _ (by omega) (by rw [zFU_eq]; omega) R6 C6
  have EE := E0.tr ((((((tk1_E (n := 0) (x := nI (nV P)) hb).tr (tk1_E hb)).tr (tk1_E hb)).tr (tk1_E hb)).tr (tk1_E hb)).tr ((tk1_E hb).tr s2))
  refine ⟨h3, ?_, RM_k hb hR EE, ⟨?_, ?_, ?_, ?_, ?_, ?_, fun v hv => s4 v (by omega) hv⟩, EE⟩
  · unfold zf_X11_carryAll
    simp only [Option.bind_some]
    rw [if_pos (by decide), hh, R0.2.1, m_carry1 hb (by omega) C0]
    simp only [Option.bind_some]
    rw [← tk1, zu_same R1.2.1, R1.2.2.1, m_carry1 hb (by omega) C1]
    simp only [Option.bind_some]
    rw [← tk1, zu_same R2.2.2.1, R2.2.2.2.1, m_carry1 hb (by omega) C2]
    simp only [Option.bind_some]
    rw [← tk1, zu_same R3.2.2.2.1, R3.2.2.2.2.1, m_carry1 hb (by omega) C3]
    simp only [Option.bind_some]
    rw [← tk1, zu_same R4.2.2.2.2.1, R4.2.2.2.2.2.1, m_carry1 hb (by omega) C4]
    simp only [Option.bind_some]
    rw [← tk1, zu_same R5.2.2.2.2.2.1, R5.2.2.2.2.2.2, m_carry1 hb (by omega) C5]
    simp only [Option.bind_some]
    rw [← tk1, zu_same R6.2.2.2.2.2.2, zi_lit0, s1]
    rfl
  · rw [s3 _ (by omega), tk1_b hb, if_neg (by omega), tk1_b hb, if_neg (by omega), tk1_b hb, if_neg (by omega), tk1_b hb, if_neg (by omega), tk1_b hb, if_neg (by omega), tk1_b hb, if_pos (by omega)]
  · rw [s3 _ (by omega), tk1_b hb, if_neg (by omega), tk1_b hb, if_neg (by omega), tk1_b hb, if_neg (by omega), tk1_b hb, if_neg (by omega), tk1_b hb, if_pos (by omega)]
  · rw [s3 _ (by omega), tk1_b hb, if_neg (by omega), tk1_b hb, if_neg (by omega), tk1_b hb, if_neg (by omega), tk1_b hb, if_pos (by omega)]
  · rw [s3 _ (by omega), tk1_b hb, if_neg (by omega), tk1_b hb, if_neg (by omega), tk1_b hb, if_pos (by omega)]
  · rw [s3 _ (by omega), tk1_b hb, if_neg (by omega), tk1_b hb, if_pos (by omega)]
  · rw [s3 _ (by omega), tk1_b hb, if_pos (by omega)]
def zEa (h h2 : zHp) : Prop := (∀ a, a < 60 ∨ 65 < a → h2.1 a = h.1 a) ∧ (∀ k, k ≠ 0 → k ≠ 1 → k ≠ 2 → k ≠ 3 → k ≠ 9 → k ≠ 10 → k ≠ 28 → k ≠ 29 → k ≠ 30 → h2.1 60 k = h.1 60 k) ∧ h2.2 = h.2
theorem zEa.tr {h h1 h2 : zHp} (x : zEa h h1) (y : zEa h1 h2) : zEa h h2 := ⟨fun a h1 => (y.1 a h1).trans (x.1 a h1), fun k a b c d e f g i j => (y.2.1 k a b c d e f g i j).trans (x.2.1 k a b c d e f g i j), y.2.2.trans x.2.2⟩
theorem zEa.uf {k : Nat} {h : zHp} {x : Int32} (hk : k = 0 ∨ k = 1 ∨ k = 2 ∨ k = 3 ∨ k = 9 ∨ k = 10 ∨ k = 28 ∨ k = 29 ∨ k = 30) : zEa h (zc_ui h 60 k x) := by
  refine ⟨fun a h1 => ?_, fun j _ _ _ _ _ _ _ _ _ => ?_, rfl⟩
  · funext j; rw [zu_i, if_neg (by omega)]
  · rw [zu_i, if_neg (by omega)]
theorem zEa.ua {a k : Nat} {h : zHp} {x : Int32} (ha : 61 ≤ a ∧ a ≤ 65) : zEa h (zc_ui h a k x) := by
  refine ⟨fun a h1 => ?_, fun j _ _ _ _ _ _ _ _ _ => ?_, rfl⟩
  · funext j; rw [zu_i, if_neg (by omega)]
  · rw [zu_i, if_neg (by omega)]
/-- one putting back -/
def pb1 (h : zHp) (n a k : Nat) (x : Int32) : zHp := zc_ui (zc_ui h 60 28 (nI (n + 1))) a k x
theorem pb1_K {h : zHp} {b n a k : Nat} {x : Int32} (hak : 61 ≤ a ∧ a ≤ 65 ∨ a = 60 ∧ k < 20) (hC : KC h b 0 n) : KC (pb1 h n a k x) b 0 (n + 1) := by
  obtain ⟨c1, c2, c3⟩ := hC
  refine ⟨?_, ?_, ?_⟩
  · simp only [pb1, zu_i]; rw [if_neg (by omega), if_neg (by omega)]; exact c1
  · simp only [pb1, zu_i]; rw [if_neg (by omega), if_neg (by omega)]; exact c2
  · simp only [pb1, zu_i]; rw [if_neg (by omega)]; simp
theorem pb1_at {h : zHp} {n a k b j : Nat} {x : Int32} (hj : b = 60 → j ≠ 28) : (pb1 h n a k x).1 b j = if b = a ∧ j = k then x else h.1 b j := by
  simp only [pb1, zu_i]
  by_cases c : b = a ∧ j = k
  · rw [if_pos c, if_pos c]
  · rw [if_neg c, if_neg c, if_neg (fun q => hj q.1 q.2)]
theorem pb1_E {h : zHp} {n a k : Nat} {x : Int32} (hak : 61 ≤ a ∧ a ≤ 65 ∨ a = 60 ∧ (k = 0 ∨ k = 1 ∨ k = 2 ∨ k = 3 ∨ k = 9 ∨ k = 10)) : zEa h (pb1 h n a k x) := by
  refine (zEa.uf (k := 28) (x := nI (n + 1)) (by omega)).tr ?_
  rcases hak with hak | ⟨rfl, hk⟩
  · exact zEa.ua hak
  · exact zEa.uf (by omega)
theorem m_putLoop {b : Nat} (hb : b = 75 ∨ b = 76) : ∀ (k i fu : Nat) (h : zHp), i + k = 7 → k < fu → KC h b 0 (6 + 5 * i) → ∃ h2, zl_X11_carryAll_89 fu (nI i) h = some h2 ∧ zEa h h2 ∧ (∀ k, k < 20 → h2.1 60 k = h.1 60 k) ∧ (∀ v, v < i → h2.1 61 v = h.1 61 v ∧ h2.1 62 v = h.1 62 v ∧ h2.1 63 v = h.1 63 v ∧ h2.1 64 v = h.1 64 v ∧ h2.1 65 v = h.1 65 v) ∧ ∀ v, i ≤ v → v < 7 → h2.1 61 v = h.1 b (6 + 5 * v) ∧ h2.1 62 v = h.1 b (6 + 5 * v + 1) ∧ h2.1 63 v = h.1 b (6 + 5 * v + 2) ∧ h2.1 64 v = h.1 b (6 + 5 * v + 3) ∧ h2.1 65 v = h.1 b (6 + 5 * v + 4) := by
  intro k
  induction k with
  | zero =>
    intro i fu h hik hfu hC
    obtain ⟨fu, rfl⟩ : ∃ f, fu = f + 1 := ⟨fu - 1, by omega⟩
    have : i = 7 := by omega
    subst this
    refine ⟨h, ?_, ⟨fun _ _ => rfl, fun _ _ _ _ _ _ _ _ _ _ => rfl, rfl⟩, fun _ _ => rfl, fun _ _ => ⟨rfl, rfl, rfl, rfl, rfl⟩, fun v h1 h2 => absurd h1 (by omega)⟩
    unfold zl_X11_carryAll_89
    rw [if_pos (by decide)]
  | succ k ih =>
    intro i fu h hik hfu hC
    obtain ⟨fu, rfl⟩ : ∃ f, fu = f + 1 := ⟨fu - 1, by omega⟩
    have hi : i < 7 := by omega
    have C1 := pb1_K (a := 61) (k := i) (x := h.1 b (6 + 5 * i)) (by omega) hC
    have B1 : ∀ j, (pb1 h (6 + 5 * i) 61 i (h.1 b (6 + 5 * i))).1 b j = h.1 b j := fun j => by rw [pb1_at (by omega), if_neg (by omega)]
    generalize hg1 : pb1 h (6 + 5 * i) 61 i (h.1 b (6 + 5 * i)) = g1 at C1 B1
    have C2 := pb1_K (a := 62) (k := i) (x := g1.1 b (6 + 5 * i + 1)) (by omega) C1
    have B2 : ∀ j, (pb1 g1 (6 + 5 * i + 1) 62 i (g1.1 b (6 + 5 * i + 1))).1 b j = g1.1 b j := fun j => by rw [pb1_at (by omega), if_neg (by omega)]
    generalize hg2 : pb1 g1 (6 + 5 * i + 1) 62 i (g1.1 b (6 + 5 * i + 1)) = g2 at C2 B2
    have C3 := pb1_K (a := 63) (k := i) (x := g2.1 b (6 + 5 * i + 1 + 1)) (by omega) C2
    have B3 : ∀ j, (pb1 g2 (6 + 5 * i + 1 + 1) 63 i (g2.1 b (6 + 5 * i + 1 + 1))).1 b j = g2.1 b j := fun j => by rw [pb1_at (by omega), if_neg (by omega)]
    generalize hg3 : pb1 g2 (6 + 5 * i + 1 + 1) 63 i (g2.1 b (6 + 5 * i + 1 + 1)) = g3 at C3 B3
    have C4 := pb1_K (a := 64) (k := i) (x := g3.1 b (6 + 5 * i + 1 + 1 + 1)) (by omega) C3
    have B4 : ∀ j, (pb1 g3 (6 + 5 * i + 1 + 1 + 1) 64 i (g3.1 b (6 + 5 * i + 1 + 1 + 1))).1 b j = g3.1 b j := fun j => by rw [pb1_at (by omega), if_neg (by omega)]
    generalize hg4 : pb1 g3 (6 + 5 * i + 1 + 1 + 1) 64 i (g3.1 b (6 + 5 * i + 1 + 1 + 1)) = g4 at C4 B4
    have C5 := pb1_K (a := 65) (k := i) (x := g4.1 b (6 + 5 * i + 1 + 1 + 1 + 1)) (by omega) C4
    have B5 : ∀ j, (pb1 g4 (6 + 5 * i + 1 + 1 + 1 + 1) 65 i (g4.1 b (6 + 5 * i + 1 + 1 + 1 + 1))).1 b j = g4.1 b j := fun j => by rw [pb1_at (by omega), if_neg (by omega)]
    generalize hg5 : pb1 g4 (6 + 5 * i + 1 + 1 + 1 + 1) 65 i (g4.1 b (6 + 5 * i + 1 + 1 + 1 + 1)) = g5 at C5 B5
    obtain ⟨h3, s1, s2, s5, s3, s4⟩ := ih (i + 1) fu g5 (by omega) (by omega) (by rw [show 6 + 5 * (i + 1) = 6 + 5 * i + 1 + 1 + 1 + 1 + 1 by omega]; exact C5)
    have A5 : ∀ c j, (c = 60 → j ≠ 28) → g5.1 c j = if c = 65 ∧ j = i then h.1 b (6 + 5 * i + 4) else if c = 64 ∧ j = i then h.1 b (6 + 5 * i + 3) else if c = 63 ∧ j = i then h.1 b (6 + 5 * i + 2) else if c = 62 ∧ j = i then h.1 b (6 + 5 * i + 1) else if c = 61 ∧ j = i then h.1 b (6 + 5 * i) else h.1 c j := by
      intro c j hj
      rw [← hg5, pb1_at hj, B4, B3, B2, B1, ← hg4, pb1_at hj, B3, B2, B1, ← hg3, pb1_at hj, B2, B1, ← hg2, pb1_at hj, B1, ← hg1, pb1_at hj]
    have EE : zEa h g5 := by
      rw [← hg5, ← hg4, ← hg3, ← hg2, ← hg1]
      exact ((((pb1_E (by omega)).tr (pb1_E (by omega))).tr (pb1_E (by omega))).tr (pb1_E (by omega))).tr (pb1_E (by omega))
    refine ⟨h3, ?_, EE.tr s2, fun k hk => ?_, fun v hv => ?_, fun v h1 h2 => ?_⟩
    · unfold zl_X11_carryAll_89
      rw [if_neg (by rw [zi_lit7, zi_le (by omega) (by omega)]; omega)]
      simp only [zi_clamp (show i < 2000000000 by omega), if_pos (zi_ix hi (show 7 < 2000000000 by omega))]
      rw [m_carry0 hb (by omega) hC]
      simp only [Option.bind_some]
      rw [← pb1, hg1, m_carry0 hb (by omega) C1]
      simp only [Option.bind_some]
      rw [← pb1, hg2, m_carry0 hb (by omega) C2]
      simp only [Option.bind_some]
      rw [← pb1, hg3, m_carry0 hb (by omega) C3]
      simp only [Option.bind_some]
      rw [← pb1, hg4, m_carry0 hb (by omega) C4]
      simp only [Option.bind_some]
      rw [← pb1, hg5, zi_one]
      exact s1
    · rw [s5 k hk, A5 60 k (by omega), if_neg (by omega), if_neg (by omega), if_neg (by omega), if_neg (by omega), if_neg (by omega)]
    · obtain ⟨t1, t2, t3, t4, t5⟩ := s3 v (by omega)
      refine ⟨?_, ?_, ?_, ?_, ?_⟩
      · rw [t1, A5 _ _ (by omega)]; simp; omega
      · rw [t2, A5 _ _ (by omega)]; simp; omega
      · rw [t3, A5 _ _ (by omega)]; simp; omega
      · rw [t4, A5 _ _ (by omega)]; simp; omega
      · rw [t5, A5 _ _ (by omega)]; simp; omega
    · by_cases hv : v = i
      · subst hv
        obtain ⟨t1, t2, t3, t4, t5⟩ := s3 v (by omega)
        refine ⟨?_, ?_, ?_, ?_, ?_⟩
        · rw [t1, A5 _ _ (by omega)]; simp
        · rw [t2, A5 _ _ (by omega)]; simp
        · rw [t3, A5 _ _ (by omega)]; simp
        · rw [t4, A5 _ _ (by omega)]; simp
        · rw [t5, A5 _ _ (by omega)]; simp
      · have bb : ∀ j, g5.1 b j = h.1 b j := fun j => by rw [B5, B4, B3, B2, B1]
        obtain ⟨t1, t2, t3, t4, t5⟩ := s4 v (by omega) h2
        rw [bb] at t1 t2 t3 t4 t5
        exact ⟨t1, t2, t3, t4, t5⟩

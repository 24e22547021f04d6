theorem m_put {b : Nat} (hb : b = 75 ∨ b = 76) {h : zHp} {P : zP} (hA : KA h b P) : ∃ h2, zf_X11_carryAll b 41 0 h = some h2 ∧ RM h2 P ∧ zEa h h2 := by
  have E0 : zEa h (zc_ui (zc_ui (zc_ui h 60 30 (nI b)) 60 29 0) 60 28 0) := ((zEa.uf (by omega)).tr (zEa.uf (by omega))).tr (zEa.uf (by omega))
  have C0 : KC (zc_ui (zc_ui (zc_ui h 60 30 (nI b)) 60 29 0) 60 28 0) b 0 0 := by refine ⟨?_, ?_, ?_⟩ <;> simp [zu_i] <;> decide
  have B0 : ∀ j, (zc_ui (zc_ui (zc_ui h 60 30 (nI b)) 60 29 0) 60 28 0).1 b j = h.1 b j := fun j => by rw [E0.1 b (by omega)]
  generalize hh : zc_ui (zc_ui (zc_ui h 60 30 (nI b)) 60 29 0) 60 28 0 = h0 at E0 C0 B0
  obtain ⟨a0, a1, a2, a3, a4, a5, av⟩ := hA
  have C1 := pb1_K (a := 60) (k := 3) (x := h0.1 b 0) (by omega) C0
  have B1 : ∀ j, (pb1 h0 0 60 3 (h0.1 b 0)).1 b j = h.1 b j := fun j => by rw [pb1_at (by omega), if_neg (by omega), B0]
  have F1 : ∀ k, k < 20 → (pb1 h0 0 60 3 (h0.1 b 0)).1 60 k = if k = 3 then h.1 b 0 else h0.1 60 k := fun k hk => by rw [pb1_at (by omega), B0]; simp
  have E1 : zEa h0 (pb1 h0 0 60 3 (h0.1 b 0)) := pb1_E (by omega)
  generalize hg1 : pb1 h0 0 60 3 (h0.1 b 0) = g1 at C1 B1 F1 E1
  have C2 := pb1_K (a := 60) (k := 0) (x := g1.1 b (0 + 1)) (by omega) C1
  have B2 : ∀ j, (pb1 g1 (0 + 1) 60 0 (g1.1 b (0 + 1))).1 b j = h.1 b j := fun j => by rw [pb1_at (by omega), if_neg (by omega), B1]
  have F2 : ∀ k, k < 20 → (pb1 g1 (0 + 1) 60 0 (g1.1 b (0 + 1))).1 60 k = if k = 0 then h.1 b 1 else g1.1 60 k := fun k hk => by rw [pb1_at (by omega), B1]; simp
  have E2 : zEa g1 (pb1 g1 (0 + 1) 60 0 (g1.1 b (0 + 1))) := pb1_E (by omega)
  generalize hg2 : pb1 g1 (0 + 1) 60 0 (g1.1 b (0 + 1)) = g2 at C2 B2 F2 E2
  have C3 := pb1_K (a := 60) (k := 1) (x := g2.1 b (0 + 1 + 1)) (by omega) C2
  have B3 : ∀ j, (pb1 g2 (0 + 1 + 1) 60 1 (g2.1 b (0 + 1 + 1))).1 b j = h.1 b j := fun j => by rw [pb1_at (by omega), if_neg (by omega), B2]
  have F3 : ∀ k, k < 20 → (pb1 g2 (0 + 1 + 1) 60 1 (g2.1 b (0 + 1 + 1))).1 60 k = if k = 1 then h.1 b 2 else g2.1 60 k := fun k hk => by rw [pb1_at (by omega), B2]; simp
  have E3 : zEa g2 (pb1 g2 (0 + 1 + 1) 60 1 (g2.1 b (0 + 1 + 1))) := pb1_E (by omega)
  generalize hg3 : pb1 g2 (0 + 1 + 1) 60 1 (g2.1 b (0 + 1 + 1)) = g3 at C3 B3 F3 E3
  have C4 := pb1_K (a := 60) (k := 2) (x := g3.1 b (0 + 1 + 1 + 1)) (by omega) C3
  have B4 : ∀ j, (pb1 g3 (0 + 1 + 1 + 1) 60 2 (g3.1 b (0 + 1 + 1 + 1))).1 b j = h.1 b j := fun j => by rw [pb1_at (by omega), if_neg (by omega), B3]
  have F4 : ∀ k, k < 20 → (pb1 g3 (0 + 1 + 1 + 1) 60 2 (g3.1 b (0 + 1 + 1 + 1))).1 60 k = if k = 2 then h.1 b 3 else g3.1 60 k := fun k hk => by rw [pb1_at (by omega), B3]; simp
  have E4 : zEa g3 (pb1 g3 (0 + 1 + 1 + 1) 60 2 (g3.1 b (0 + 1 + 1 + 1))) := pb1_E (by omega)
  generalize hg4 : pb1 g3 (0 + 1 + 1 + 1) 60 2 (g3.1 b (0 + 1 + 1 + 1)) = g4 at C4 B4 F4 E4
  have C5 := pb1_K (a := 60) (k := 9) (x := g4.1 b (0 + 1 + 1 + 1 + 1)) (by omega) C4
  have B5 : ∀ j, (pb1 g4 (0 + 1 + 1 + 1 + 1) 60 9 (g4.1 b (0 + 1 + 1 + 1 + 1))).1 b j = h.1 b j := fun j => by rw [pb1_at (by omega), if_neg (by omega), B4]
  have F5 : ∀ k, k < 20 → (pb1 g4 (0 + 1 + 1 + 1 + 1) 60 9 (g4.1 b (0 + 1 + 1 + 1 + 1))).1 60 k = if k = 9 then h.1 b 4 else g4.1 60 k := fun k hk => by rw [pb1_at (by omega), B4]; simp
  have E5 : zEa g4 (pb1 g4 (0 + 1 + 1 + 1 + 1) 60 9 (g4.1 b (0 + 1 + 1 + 1 + 1))) := pb1_E (by omega)
  generalize hg5 : pb1 g4 (0 + 1 + 1 + 1 + 1) 60 9 (g4.1 b (0 + 1 + 1 + 1 + 1)) = g5 at C5 B5 F5 E5
  have C6 := pb1_K (a := 60) (k := 10) (x := g5.1 b (0 + 1 + 1 + 1 + 1 + 1)) (by omega) C5
  have B6 : ∀ j, (pb1 g5 (0 + 1 + 1 + 1 + 1 + 1) 60 10 (g5.1 b (0 + 1 + 1 + 1 + 1 + 1))).1 b j = h.1 b j := fun j => by rw [pb1_at (by omega), if_neg (by omega), B5]
  have F6 : ∀ k, k < 20 → (pb1 g5 (0 + 1 + 1 + 1 + 1 + 1) 60 10 (g5.1 b (0 + 1 + 1 + 1 + 1 + 1))).1 60 k = if k = 10 then h.1 b 5 else g5.1 60 k := fun k hk => by rw [pb1_at (by omega), B5]; simp
  have E6 : zEa g5 (pb1 g5 (0 + 1 + 1 + 1 + 1 + 1) 60 10 (g5.1 b (0 + 1 + 1 + 1 + 1 + 1))) := pb1_E (by omega)
  generalize hg6 : pb1 g5 (0 + 1 + 1 + 1 + 1 + 1) 60 10 (g5.1 b (0 + 1 + 1 + 1 + 1 + 1)) = g6 at C6 B6 F6 E6
  obtain ⟨h3, s1, s2, s5, -, s4⟩ := m_putLoop hb 7 0 zFU g6 (by omega) (by rw [zFU_eq]; omega) C6
  refine ⟨h3, ?_, ⟨fun v hv => ?_, ?_, ?_, ?_, ?_, ?_, ?_⟩, (((((E0.tr E1).tr E2).tr E3).tr E4).tr E5).tr (E6.tr s2)⟩
  · unfold zf_X11_carryAll
    simp only [Option.bind_some]
    rw [if_pos (by decide), hh, m_carry0 hb (by omega) C0]
    simp only [Option.bind_some]
    rw [← pb1, hg1, m_carry0 hb (by omega) C1]
    simp only [Option.bind_some]
    rw [← pb1, hg2, m_carry0 hb (by omega) C2]
    simp only [Option.bind_some]
    rw [← pb1, hg3, m_carry0 hb (by omega) C3]
    simp only [Option.bind_some]
    rw [← pb1, hg4, m_carry0 hb (by omega) C4]
    simp only [Option.bind_some]
    rw [← pb1, hg5, m_carry0 hb (by omega) C5]
    simp only [Option.bind_some]
    rw [← pb1, hg6, zi_lit0, s1]
    rfl
  · obtain ⟨t1, t2, t3, t4, t5⟩ := s4 v (by omega) hv
    obtain ⟨u1, u2, u3, u4, u5⟩ := av v hv
    rw [B6] at t1 t2 t3 t4 t5
    exact ⟨t1.trans u1, t2.trans u2, t3.trans u3, t4.trans u4, t5.trans u5⟩
  · rw [s5 3 (by omega), F6 3 (by omega), if_neg (by omega), F5 3 (by omega), if_neg (by omega), F4 3 (by omega), if_neg (by omega), F3 3 (by omega), if_neg (by omega), F2 3 (by omega), if_neg (by omega), F1 3 (by omega), if_pos rfl]; exact a0
  · rw [s5 0 (by omega), F6 0 (by omega), if_neg (by omega), F5 0 (by omega), if_neg (by omega), F4 0 (by omega), if_neg (by omega), F3 0 (by omega), if_neg (by omega), F2 0 (by omega), if_pos rfl]; exact a1
  · rw [s5 1 (by omega), F6 1 (by omega), if_neg (by omega), F5 1 (by omega), if_neg (by omega), F4 1 (by omega), if_neg (by omega), F3 1 (by omega), if_pos rfl]; exact a2
  · rw [s5 2 (by omega), F6 2 (by omega), if_neg (by omega), F5 2 (by omega), if_neg (by omega), F4 2 (by omega), if_pos rfl]; exact a3
  · rw [s5 9 (by omega), F6 9 (by omega), if_neg (by omega), F5 9 (by omega), if_pos rfl]; exact a4
  · rw [s5 10 (by omega), F6 10 (by omega), if_pos rfl]; exact a5
theorem m_think {h : zHp} {P : zP} (hR : RM h P) : ∃ h2, zf_X11_think h = some h2 ∧ RM h2 P ∧ KA h2 75 P ∧ zEk 75 h h2 := by
  obtain ⟨h2, g1, g2, g3, g4⟩ := m_take (Or.inl rfl) hR
  exact ⟨h2, by unfold zf_X11_think; rw [g1]; rfl, g2, g3, g4⟩
theorem m_again {h : zHp} {P : zP} (hA : KA h 75 P) : ∃ h2, zf_X11_again h = some h2 ∧ RM h2 P ∧ zEa h h2 := by
  obtain ⟨h2, g1, g2, g3⟩ := m_put (Or.inl rfl) hA
  exact ⟨h2, by unfold zf_X11_again; rw [g1]; rfl, g2, g3⟩
theorem KA_of {h h2 : zHp} {b : Nat} {P : zP} (hA : KA h b P) (e : h2.1 b = h.1 b) : KA h2 b P := by
  unfold KA at hA ⊢
  rw [e]; exact hA
/-- what a call of the reference may not touch, but where it says so -/
def zK (a : Nat) : Prop := a < 60 ∨ (66 ≤ a ∧ a ≤ 71) ∨ a = 76 ∨ 80 ≤ a
def zEM (h h2 : zHp) : Prop := (∀ a, zK a → h2.1 a = h.1 a) ∧ h2.1 60 27 = h.1 60 27 ∧ ∀ a, a ≠ 79 → h2.2 a = h.2 a
theorem zEM.rf {h : zHp} : zEM h h := ⟨fun _ _ => rfl, rfl, fun _ _ => rfl⟩
theorem zEM.tr {h h1 h2 : zHp} (x : zEM h h1) (y : zEM h1 h2) : zEM h h2 := ⟨fun a ha => (y.1 a ha).trans (x.1 a ha), y.2.1.trans x.2.1, fun a ha => (y.2.2 a ha).trans (x.2.2 a ha)⟩
theorem zEm.M {h h2 : zHp} (x : zEm h h2) : zEM h h2 := ⟨fun a ha => x.1 a (by unfold zK at ha; omega), x.2.1 27 (by omega) (by omega) (by omega) (by omega) (by omega) (by omega), fun a _ => by rw [x.2.2]⟩
theorem zEk.M {h h2 : zHp} (x : zEk 75 h h2) : zEM h h2 := ⟨fun a ha => x.1 a (by unfold zK at ha; omega) (by unfold zK at ha; omega), x.2.1 27 (by omega) (by omega) (by omega), fun a _ => by rw [x.2.2]⟩
theorem zEa.M {h h2 : zHp} (x : zEa h h2) : zEM h h2 := ⟨fun a ha => x.1 a (by unfold zK at ha; omega), x.2.1 27 (by omega) (by omega) (by omega) (by omega) (by omega) (by omega) (by omega) (by omega) (by omega), fun a _ => by rw [x.2.2]⟩
theorem zEM.u {h : zHp} {a k : Nat} {x : Int32} (ha : ¬ zK a) (hk : a = 60 → k ≠ 27) : zEM h (zc_ui h a k x) := by
  refine ⟨fun q hq => ?_, ?_, fun _ _ => rfl⟩
  · funext j
    rw [zu_i, if_neg]
    rintro ⟨rfl, -⟩
    exact ha hq
  · rw [zu_i, if_neg]
    rintro ⟨e1, e2⟩
    exact hk e1.symm e2.symm
theorem RM_u {h : zHp} {P : zP} {a k : Nat} {x : Int32} (hR : RM h P) (ha : a < 60 ∨ 65 < a ∨ a = 60 ∧ 11 ≤ k) : RM (zc_ui h a k x) P := by
  obtain ⟨r1, r2, r3, r4, r5, r6, r7⟩ := hR
  refine ⟨fun v hv => ?_, ?_, ?_, ?_, ?_, ?_, ?_⟩
  · simp only [zu_i]
    rw [if_neg (by omega), if_neg (by omega), if_neg (by omega), if_neg (by omega), if_neg (by omega)]; exact r1 v hv
  · rw [zu_i, if_neg (by omega)]; exact r2
  · rw [zu_i, if_neg (by omega)]; exact r3
  · rw [zu_i, if_neg (by omega)]; exact r4
  · rw [zu_i, if_neg (by omega)]; exact r5
  · rw [zu_i, if_neg (by omega)]; exact r6
  · rw [zu_i, if_neg (by omega)]; exact r7

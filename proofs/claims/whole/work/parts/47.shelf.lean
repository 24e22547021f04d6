/-! keep, row -/
theorem zFM.u {h g : zHp} {a j : Nat} {x : Int32} (hF : zFM h g) (ha : 60 ≤ a ∧ a < 80) : zFM h (zc_ui g a j x) := fun b hb => by
  obtain ⟨e1, e2⟩ := hF b hb
  refine ⟨?_, e2⟩
  rw [← e1]; funext k; rw [zu_i, if_neg (by omega)]
theorem zFM.ul {h g : zHp} {a j : Nat} {x : Int64} (hF : zFM h g) (ha : 60 ≤ a ∧ a < 80) : zFM h (zc_ul g a j x) := fun b hb => by
  obtain ⟨e1, e2⟩ := hF b hb
  refine ⟨e1, ?_⟩
  rw [← e2]; funext k; rw [zu_l, if_neg (by omega)]
theorem zr_no {α : Type} {x L : Int32} {n : Nat} (a b : α) (hn : n < 1000000) (hL : L = nI n) (hx : x < 0 ∨ nI (n + 1) ≤ x) : (if x < 0 then a else if x ≤ L then b else a) = a := by
  by_cases c : x < 0
  · rw [if_pos c]
  · have h1 := zr_toInt (N := n + 1) (by omega) hx
    rw [if_neg c, if_neg (fun q => by
      rw [hL, Int32.le_iff_toInt_le, nI_toInt (by omega)] at q
      rw [Int32.lt_iff_toInt_lt, Int32.toInt_zero] at c
      omega)]
theorem zr_yes {α : Type} {L : Int32} {n j : Nat} (a b : α) (hn : n < 1000000) (hL : L = nI n) (hj : j < n + 1) : (if nI j < 0 then a else if nI j ≤ L then b else a) = b := by
  rw [if_neg (nI_pos (by omega)), hL, if_pos (by rw [zi_le (by omega) (by omega)]; omega)]
theorem ok_keep (x1 x2 x3 x4 : Int32) : zOK (zf_X10_keep x1 x2 x3 x4) (zf_X11_keep x1 x2 x3 x4) := by
  refine zOK_upd (fun h h' P I S hC hM => ?_)
  obtain ⟨t1, t2⟩ := m_thr hM.1
  have hM1 := t2.MI hM t1
  have hF := t2.F
  unfold zf_X10_keep zf_X11_keep
  simp only [zbs]
  generalize zc_ui h' 60 17 0 = g at hM1 hF
  have no : ∃ r h1 h2 P2 I2 S2, (some ((-1 : Int32), h)) = some (r, h1) ∧ CI h1 P2 I2 S2 ∧ zFC h h1 ∧ (some ((-1 : Int32), g)) = some (r, h2) ∧ MI h2 P2 I2 S2 ∧ zFM h' h2 := ⟨_, _, _, P, I, S, rfl, hC, fun _ _ => ⟨rfl, rfl⟩, rfl, hM1, hF⟩
  rcases zr x1 (N := 8) (by omega) with hx | ⟨d, hd, rfl⟩
  · rw [c_isShelf_out hx, m_in_out (N := 8) (by omega) (by omega) (by decide) hx]
    exact no
  rw [c_isShelf_in hd, m_in_in (N := 8) (by omega) hd (by decide)]
  simp only [zbs, z10, if_false, if_pos (zi_ix hd (show 8 < 2000000000 by omega)), zi_clamp (show d < 2000000000 by omega), show 43 + 1 + 2 * d = 44 + 2 * d from rfl]
  have hW := hC.2.2.2.2.1
  have hS := hC.2.2.2.2.2
  have w := hW d hd
  rcases zr x2 (N := 2) (by omega) with hx | ⟨u, hu, rfl⟩
  · rw [zr_no (n := 1) _ _ (by omega) zi_lit1 hx, m_in_out (N := 2) (by omega) (by omega) (by decide) hx]
    exact no
  rw [zr_yes (n := 1) _ _ (by omega) zi_lit1 hu, m_in_in (N := 2) (by omega) hu (by decide)]
  simp only [zbs, z10, if_false]
  have cu : u = 0 ∨ u = 1 := by omega
  rcases cu with rfl | rfl
  · rw [if_pos (show nI 0 = 0 by decide)]
    simp only [if_neg (show ¬ nI 0 = 1 by decide), zbs, Sum.elim_inr]
    have a1 : ∀ a, a ≠ 44 + 2 * d → (zc_ui h (44 + 2 * d) 0 0).1 a = h.1 a := fun a ha => by funext j; rw [zu_i, if_neg (by omega)]
    obtain ⟨b1, b2⟩ := CI_S hd hC (S2 := setS S d (0, (S d).2.1, (S d).2.2.1, (S d).2.2.2)) (h1 := zc_ui h (44 + 2 * d) 0 0) (fun a h1 _ => a1 a h1) rfl (zSW_set hW ⟨by omega, w.2.1, w.2.2.1, w.2.2.2.1, w.2.2.2.2⟩) (SC_keep hS hd _ a1 (by rw [zu_i, if_pos ⟨rfl, rfl⟩]; rfl) (fun q => absurd q (by omega)) (by rw [zu_i, if_neg (by omega)]) (by rw [zu_i, if_neg (by omega)]))
    refine ⟨0, _, _, P, I, _, rfl, b1, b2, rfl, MI_S hM1 (fun a ha => ?_) (SM_keep hM1.2.2.2 (fun q => absurd q (by omega))), ((hF.u (by omega)).u (by omega)).u (by omega)⟩
    funext j
    rw [zu_i, if_neg (by omega), zu_i, if_neg (by omega), zu_i, if_neg (by omega)]
  · rw [if_neg (show ¬ nI 1 = 0 by decide)]
    simp only [if_pos (show nI 1 = 1 by decide)]
    rcases zr x3 (N := 8) (by omega) with hx | ⟨k, hk, rfl⟩
    · rw [c_isKind_out hx, m_in_out (N := 8) (by omega) (by omega) (by decide) hx]
      exact no
    rw [c_isKind_in hk, m_in_in (N := 8) (by omega) hk (by decide)]
    simp only [zbs, z10, if_false]
    rcases zr x4 (N := 10) (by omega) with hx | ⟨f, hf, rfl⟩
    · rw [c_isFigure_out hx, m_in_out (N := 10) (by omega) (by omega) (by decide) hx]
      exact no
    rw [c_isFigure_in hf, m_in_in (N := 10) (by omega) hf (by decide)]
    simp only [zbs, z10, if_false, Sum.elim_inr]
    unfold zf_X8_holdKind
    simp only [zbs]
    have a1 : ∀ a, a ≠ 44 + 2 * d → (zc_ui (zc_ui (zc_ui h (44 + 2 * d) 0 1) (44 + 2 * d) 1 (nI k)) (44 + 2 * d) 2 (nI f)).1 a = h.1 a := fun a ha => by funext j; rw [zu_i, if_neg (by omega), zu_i, if_neg (by omega), zu_i, if_neg (by omega)]
    obtain ⟨b1, b2⟩ := CI_S hd hC (S2 := setS S d (1, k, f, (S d).2.2.2)) (h1 := zc_ui (zc_ui (zc_ui h (44 + 2 * d) 0 1) (44 + 2 * d) 1 (nI k)) (44 + 2 * d) 2 (nI f)) (fun a h1 _ => a1 a h1) rfl (zSW_set hW ⟨by omega, hk, hf, w.2.2.2.1, w.2.2.2.2⟩) (SC_keep hS hd _ a1 (by rw [zu_i, if_neg (by omega), zu_i, if_neg (by omega), zu_i, if_pos ⟨rfl, rfl⟩]; rfl) (fun _ => ⟨by rw [zu_i, if_neg (by omega), zu_i, if_pos ⟨rfl, rfl⟩], by rw [zu_i, if_pos ⟨rfl, rfl⟩]⟩) (by rw [zu_i, if_neg (by omega), zu_i, if_neg (by omega), zu_i, if_neg (by omega)]) (by rw [zu_i, if_neg (by omega), zu_i, if_neg (by omega), zu_i, if_neg (by omega)]))
    refine ⟨0, _, _, P, I, _, rfl, b1, b2, rfl, MI_S hM1 (fun a ha => ?_) (SM_keep hM1.2.2.2 (fun _ => ⟨rfl, rfl⟩)), ((hF.u (by omega)).u (by omega)).u (by omega)⟩
    funext j
    rw [zu_i, if_neg (by omega), zu_i, if_neg (by omega), zu_i, if_neg (by omega)]
/-! row -/
theorem c_fillL {h : zHp} {a : Nat} : ∃ g, zl_J7_fill_53178_5 a 100 0 zFU 0 h = some g ∧ (∀ i, i < 100 → g.1 a i = 0) ∧ (∀ b, b ≠ a → g.1 b = h.1 b) ∧ g.2 = h.2 := by
  refine zl_inv0 (fun fu (g : zHp) i => zl_J7_fill_53178_5 a 100 0 fu i g) (fun i g => (∀ j, j < i → g.1 a j = 0) ∧ (∀ b, b ≠ a → g.1 b = h.1 b) ∧ g.2 = h.2) (fun g => (∀ i, i < 100 → g.1 a i = 0) ∧ (∀ b, b ≠ a → g.1 b = h.1 b) ∧ g.2 = h.2) 100 (by omega) h ⟨fun j hj => absurd hj (by omega), fun _ _ => rfl, rfl⟩ (fun fu i g hi hI => Or.inr ⟨zc_ui g a i 0, ?_, fun j hj => ?_, fun b hb => ?_, hI.2.2⟩) (fun fu g hI => ⟨g, ?_, hI⟩)
  · show zl_J7_fill_53178_5 a 100 0 (fu + 1) (nI i) g = zl_J7_fill_53178_5 a 100 0 fu (nI (i + 1)) (zc_ui g a i 0)
    conv => lhs; unfold zl_J7_fill_53178_5
    rw [if_neg (by rw [show Int32.ofNat 100 = nI 100 by decide, zi_le (by omega) (by omega)]; omega), if_pos (zi_ix hi (by omega)), zbs, zi_clamp (by omega), zi_one]
  · rw [zu_i]
    by_cases c : j = i
    · rw [if_pos ⟨rfl, c⟩]
    · rw [if_neg (by omega)]; exact hI.1 j (by omega)
  · funext j
    rw [zu_i, if_neg (by omega), hI.2.1 b hb]
  · show zl_J7_fill_53178_5 a 100 0 (fu + 1) (nI 100) g = _
    conv => lhs; unfold zl_J7_fill_53178_5
    rw [if_pos (by decide)]
theorem m_fillL {h : zHp} {d : Nat} (hd : d < 8) : ∃ g, zl_X11_row_68 (nI d) zFU 0 h = some g ∧ (∀ i, i < 100 → g.2 71 (100 * d + i) = 0) ∧ (∀ j, j < 100 * d ∨ 100 * d + 100 ≤ j → g.2 71 j = h.2 71 j) ∧ (∀ b, b ≠ 71 → g.2 b = h.2 b) ∧ g.1 = h.1 := by
  refine zl_inv0 (fun fu (g : zHp) i => zl_X11_row_68 (nI d) fu i g) (fun i g => (∀ j, j < i → g.2 71 (100 * d + j) = 0) ∧ (∀ j, j < 100 * d ∨ 100 * d + 100 ≤ j → g.2 71 j = h.2 71 j) ∧ (∀ b, b ≠ 71 → g.2 b = h.2 b) ∧ g.1 = h.1) (fun g => (∀ i, i < 100 → g.2 71 (100 * d + i) = 0) ∧ (∀ j, j < 100 * d ∨ 100 * d + 100 ≤ j → g.2 71 j = h.2 71 j) ∧ (∀ b, b ≠ 71 → g.2 b = h.2 b) ∧ g.1 = h.1) 100 (by omega) h ⟨fun j hj => absurd hj (by omega), fun _ _ => rfl, fun _ _ => rfl, rfl⟩ (fun fu i g hi hI => Or.inr ⟨zc_ul g 71 (100 * d + i) 0, ?_, fun j hj => ?_, fun j hj => ?_, fun b hb => ?_, hI.2.2.2⟩) (fun fu g hI => ⟨g, ?_, hI⟩)
  · obtain ⟨r1, r2⟩ := row_ix hd hi
    show zl_X11_row_68 (nI d) (fu + 1) (nI i) g = zl_X11_row_68 (nI d) fu (nI (i + 1)) (zc_ul g 71 (100 * d + i) 0)
    conv => lhs; unfold zl_X11_row_68
    rw [if_neg (by rw [show (100 : Int32) = nI 100 by decide, zi_le (by omega) (by omega)]; omega), r1, if_pos (zi_ix r2 (by omega)), zbs, zi_clamp (by omega), zi_one]
  · rw [zu_l]
    by_cases c : j = i
    · rw [if_pos ⟨rfl, by omega⟩]
    · rw [if_neg (by omega)]; exact hI.1 j (by omega)
  · rw [zu_l, if_neg (by omega)]; exact hI.2.1 j hj
  · funext j
    rw [zu_l, if_neg (by omega), hI.2.2.1 b hb]
  · show zl_X11_row_68 (nI d) (fu + 1) (nI 100) g = _
    conv => lhs; unfold zl_X11_row_68
    rw [if_pos (by decide)]
theorem ok_row (x1 x2 x3 : Int32) : zOK (zf_X10_row x1 x2 x3) (zf_X11_row x1 x2 x3) := by
  refine zOK_upd (fun h h' P I S hC hM => ?_)
  obtain ⟨t1, t2⟩ := m_thr hM.1
  have hM1 := t2.MI hM t1
  have hF := t2.F
  unfold zf_X10_row zf_X11_row
  simp only [zbs]
  generalize zc_ui h' 60 17 0 = g at hM1 hF
  have no : ∀ x : Int32, ∃ r h1 h2 P2 I2 S2, (some (x, h)) = some (r, h1) ∧ CI h1 P2 I2 S2 ∧ zFC h h1 ∧ (some (x, g)) = some (r, h2) ∧ MI h2 P2 I2 S2 ∧ zFM h' h2 := fun x => ⟨_, _, _, P, I, S, rfl, hC, fun _ _ => ⟨rfl, rfl⟩, rfl, hM1, hF⟩
  rcases zr x1 (N := 8) (by omega) with hx | ⟨d, hd, rfl⟩
  · rw [c_isShelf_out hx, m_in_out (N := 8) (by omega) (by omega) (by decide) hx]
    exact no _
  rw [c_isShelf_in hd, m_in_in (N := 8) (by omega) hd (by decide)]
  simp only [zbs, z10, if_false, if_pos (zi_ix hd (show 8 < 2000000000 by omega)), zi_clamp (show d < 2000000000 by omega), show 43 + 1 + 2 * d = 44 + 2 * d from rfl]
  have hW := hC.2.2.2.2.1
  have hS := hC.2.2.2.2.2
  have w := hW d hd
  rcases zr x2 (N := 3) (by omega) with hx | ⟨u, hu, rfl⟩
  · rw [m_in_out (N := 3) (by omega) (by omega) (by decide) hx]
    rcases hx with hx | hx
    · rw [if_pos hx]; exact no _
    · by_cases c : x2 < 0
      · rw [if_pos c]; exact no _
      · rw [if_neg c, if_pos (show (3 : Int32) ≤ x2 from hx)]; exact no _
  rw [m_in_in (N := 3) (by omega) hu (by decide), if_neg (nI_pos (by omega)), if_neg (by rw [show (3 : Int32) = nI 3 by decide, zi_le (by omega) (by omega)]; omega)]
  simp only [zbs, z10, if_false]
  by_cases c1 : x3 ≤ 100
  rotate_left
  · rw [if_neg c1, if_neg c1]; exact no _
  rw [if_pos c1, if_pos c1]
  by_cases c2 : 0 ≤ x3
  rotate_left
  · rw [if_neg c2, if_neg c2]; exact no _
  rw [if_pos c2, if_pos c2]
  obtain ⟨n, hn, rfl⟩ : ∃ n, n ≤ 100 ∧ x3 = nI n := by
    rcases zr x3 (N := 101) (by omega) with hx | ⟨n, hn, e⟩
    · have h1 := zr_toInt (N := 101) (by omega) hx
      rw [Int32.le_iff_toInt_le] at c1 c2
      rw [Int32.toInt_zero] at c2
      have : (100 : Int32).toInt = 100 := by decide
      omega
    · exact ⟨n, by omega, e⟩
  unfold zf_X8_holdRow zf_J7_fill_53178
  simp only [zbs]
  obtain ⟨f1, a1, a2, a3, a4⟩ := c_fillL (h := zc_ui (zc_ui (zc_ui h (44 + 2 * d) 0 2) (44 + 2 * d) 3 (nI u)) (44 + 2 * d) 4 (nI n)) (a := 44 + 2 * d + 1)
  obtain ⟨f2, b1, b2, b3, b4, b5⟩ := m_fillL (h := zc_ui (zc_ui (zc_ui g 66 d 2) 69 d (nI u)) 70 d (nI n)) hd
  rw [a1, b1]
  simp only [zbs]
  have e1 : ∀ a, a ≠ 44 + 2 * d → a ≠ 44 + 2 * d + 1 → f1.1 a = h.1 a := fun a h1 h2 => by
    rw [a3 a h2]; funext j; rw [zu_i, if_neg (by omega), zu_i, if_neg (by omega), zu_i, if_neg (by omega)]
  have e2 : ∀ j, f1.1 (44 + 2 * d) j = if j = 4 then nI n else if j = 3 then nI u else if j = 0 then 2 else h.1 (44 + 2 * d) j := fun j => by
    rw [a3 _ (by omega), zu_i, zu_i, zu_i]; simp only [true_and]
  have hW2 : zSW (setS S d (2, (S d).2.1, (S d).2.2.1, u, n, fun _ => 0)) := zSW_set hW ⟨by omega, w.2.1, w.2.2.1, show u ≤ 2 from by omega, hn⟩
  have s1 : SC f1 (setS S d (2, (S d).2.1, (S d).2.2.1, u, n, fun _ => 0)) := fun e he => by
    unfold setS
    by_cases c : e = d
    · subst c
      rw [if_pos rfl]
      refine ⟨by rw [e2]; rfl, fun q => absurd (show (2 : Nat) = 1 from q) (by decide), by rw [e2]; rfl, by rw [e2]; rfl, fun i hi => a2 i hi⟩
    · rw [if_neg c, e1 (44 + 2 * e) (by omega) (by omega), e1 (44 + 2 * e + 1) (by omega) (by omega)]
      exact hS e he
  have hR : ∀ a, a < 66 ∨ 71 < a → f2.1 a = g.1 a := fun a ha => by
    rw [b5]; funext j; rw [zu_i, if_neg (by omega), zu_i, if_neg (by omega), zu_i, if_neg (by omega)]
  have s2 : SM f2 (setS S d (2, (S d).2.1, (S d).2.2.1, u, n, fun _ => 0)) := fun e he => by
    have w1 : f2.1 66 e = if e = d then 2 else g.1 66 e := by
      rw [b5, zu_i, if_neg (by omega), zu_i, if_neg (by omega), zu_i]; simp only [true_and]
    have w2 : f2.1 69 e = if e = d then nI u else g.1 69 e := by
      rw [b5, zu_i, if_neg (by omega), zu_i, zu_i, if_neg (show ¬ (69 = 66 ∧ e = d) by omega)]; simp only [true_and]
    have w3 : f2.1 70 e = if e = d then nI n else g.1 70 e := by
      rw [b5, zu_i, zu_i, if_neg (show ¬ (70 = 69 ∧ e = d) by omega), zu_i, if_neg (show ¬ (70 = 66 ∧ e = d) by omega)]; simp only [true_and]
    have w4 : f2.1 67 e = g.1 67 e := by rw [b5, zu_i, if_neg (by omega), zu_i, if_neg (by omega), zu_i, if_neg (by omega)]
    have w5 : f2.1 68 e = g.1 68 e := by rw [b5, zu_i, if_neg (by omega), zu_i, if_neg (by omega), zu_i, if_neg (by omega)]
    have q := hM1.2.2.2 e he
    rw [w1, w2, w3, w4, w5]
    unfold setS
    by_cases c : e = d
    · subst c
      rw [if_pos rfl, if_pos rfl, if_pos rfl, if_pos rfl]
      exact ⟨rfl, fun q => absurd (show (2 : Nat) = 1 from q) (by decide), rfl, rfl, fun i hi => by rw [b2 i hi]; rfl⟩
    · rw [if_neg c, if_neg c, if_neg c, if_neg c]
      refine ⟨q.1, q.2.1, q.2.2.1, q.2.2.2.1, fun i hi => ?_⟩
      rw [b3 _ (by omega)]; exact q.2.2.2.2 i hi
  obtain ⟨y1, y2⟩ := CI_S hd hC e1 (by rw [a4]; rfl) hW2 s1
  refine ⟨0, f1, f2, P, I, _, rfl, y1, y2, rfl, MI_S hM1 hR s2, fun a ha => ⟨?_, ?_⟩⟩
  · rw [hR a (by omega)]; exact (hF a ha).1
  · rw [b4 a (by omega)]; exact (hF a ha).2

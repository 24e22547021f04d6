/-! put, copy -/
theorem zi_sub {x y : Int32} (h1 : -2147483648 ≤ x.toInt - y.toInt) (h2 : x.toInt - y.toInt < 2147483648) : (x - y).toInt = x.toInt - y.toInt := by
  rw [Int32.toInt_sub]
  exact Int.bmod_eq_of_le (by omega) (by omega)
theorem zi_ltT {x y : Int32} : x < y ↔ x.toInt < y.toInt := Int32.lt_iff_toInt_lt
theorem zi_leT {x y : Int32} : x ≤ y ↔ x.toInt ≤ y.toInt := Int32.le_iff_toInt_le
theorem zi_T0 : (0 : Int32).toInt = 0 := by decide
theorem c_has {h : zHp} {q L : Nat} {x1 x2 : Int32} (e : h.1 q 4 = nI L) (hL : L ≤ 100) : zf_X8_hasPlaces q x1 x2 h = some (if 0 ≤ x1.toInt ∧ 0 ≤ x2.toInt ∧ x1.toInt + x2.toInt ≤ L then 1 else 0) := by
  have eL : (nI L).toInt = L := nI_toInt (by omega)
  have u1 := Int32.toInt_lt x1
  have u2 := Int32.toInt_lt x2
  unfold zf_X8_hasPlaces
  rw [e]
  by_cases c1 : x1.toInt < 0
  · rw [if_pos (zi_ltT.mpr (by rw [zi_T0]; exact c1)), if_neg (by omega)]
  rw [if_neg (fun q => c1 (by have := zi_ltT.mp q; rw [zi_T0] at this; exact this))]
  by_cases c2 : x2.toInt < 0
  · rw [if_pos (zi_ltT.mpr (by rw [zi_T0]; exact c2)), if_neg (by omega)]
  rw [if_neg (fun q => c2 (by have := zi_ltT.mp q; rw [zi_T0] at this; exact this))]
  by_cases c3 : (L : Int) < x1.toInt
  · rw [if_pos (zi_ltT.mpr (by rw [eL]; exact c3)), if_neg (by omega)]
  rw [if_neg (fun q => c3 (by have := zi_ltT.mp q; rw [eL] at this; exact this))]
  have es : (nI L - x1).toInt = L - x1.toInt := by rw [zi_sub (by rw [eL]; omega) (by rw [eL]; omega), eL]
  by_cases c4 : (L : Int) - x1.toInt < x2.toInt
  · rw [if_pos (zi_ltT.mpr (by rw [es]; exact c4)), if_neg (by omega)]
  rw [if_neg (fun q => c4 (by have := zi_ltT.mp q; rw [es] at this; exact this)), if_pos (by omega)]
theorem zi_nat {x : Int32} {L : Nat} (h0 : 0 ≤ x.toInt) (h1 : x.toInt ≤ L) (hL : L < 1000000) : ∃ n, n ≤ L ∧ x = nI n := by
  refine ⟨x.toInt.toNat, by omega, ?_⟩
  apply Int32.toInt_inj.mp
  rw [nI_toInt (by omega)]
  omega
def setV (S : zS) (d : Nat) (V : Nat → Int32) : zS := setS S d ((S d).1, (S d).2.1, (S d).2.2.1, (S d).2.2.2.1, (S d).2.2.2.2.1, V)
theorem zSW_v {S : zS} {d : Nat} {V : Nat → Int32} (h : zSW S) (hd : d < 8) : zSW (setV S d V) := zSW_set h (h d hd)
theorem SC_v {h h1 : zHp} {S : zS} {d : Nat} {V : Nat → Int32} (hS : SC h S) (hE : ∀ a, a ≠ 44 + 2 * d + 1 → h1.1 a = h.1 a) (e : ∀ i, i < 100 → h1.1 (44 + 2 * d + 1) i = V i) : SC h1 (setV S d V) := fun b hb => by
  have q := hS b hb
  unfold setV setS
  by_cases c : b = d
  · subst c
    rw [if_pos rfl, hE (44 + 2 * b) (by omega)]
    exact ⟨q.1, q.2.1, q.2.2.1, q.2.2.2.1, e⟩
  · rw [if_neg c, hE (44 + 2 * b) (by omega), hE (44 + 2 * b + 1) (by omega)]
    exact q
theorem SM_v {h h1 : zHp} {S : zS} {d : Nat} {V : Nat → Int32} (hS : SM h S) (h2 : ∀ a, 66 ≤ a → a ≤ 70 → h1.1 a = h.1 a) (hE : ∀ j, j < 100 * d ∨ 100 * d + 100 ≤ j → h1.2 71 j = h.2 71 j) (e : ∀ i, i < 100 → h1.2 71 (100 * d + i) = (V i).toInt64) : SM h1 (setV S d V) := fun b hb => by
  have q := hS b hb
  rw [h2 66 (by omega) (by omega), h2 67 (by omega) (by omega), h2 68 (by omega) (by omega), h2 69 (by omega) (by omega), h2 70 (by omega) (by omega)]
  unfold setV setS
  by_cases c : b = d
  · subst c
    rw [if_pos rfl]
    exact ⟨q.1, q.2.1, q.2.2.1, q.2.2.2.1, e⟩
  · rw [if_neg c]
    refine ⟨q.1, q.2.1, q.2.2.1, q.2.2.2.1, fun i hi => ?_⟩
    rw [hE _ (by omega)]; exact q.2.2.2.2 i hi
def nrI (t : Nat) (x : Int32) : Int32 := if t = 0 then x.toInt8.toInt32 else if t = 1 then x.toInt16.toInt32 else x
theorem c_set {h : zHp} {q t i : Nat} {x : Int32} (e : h.1 q 3 = nI t) (ht : t ≤ 2) (hi : i < 100) : zf_X8_set q (nI i) x h = some (zc_ui h (q + 1) i (nrI t x)) := by
  unfold zf_X8_set
  simp only [e, zbs, if_pos (zi_ix hi (show 100 < 2000000000 by omega)), zi_clamp (show i < 2000000000 by omega)]
  have c : t = 0 ∨ t = 1 ∨ t = 2 := by omega
  rcases c with rfl | rfl | rfl
  · rw [if_pos (show nI 0 = 0 by decide)]; rfl
  · rw [if_neg (show ¬ nI 1 = 0 by decide), if_pos (show nI 1 = 1 by decide)]; rfl
  · rw [if_neg (show ¬ nI 2 = 0 by decide), if_neg (show ¬ nI 2 = 1 by decide)]; rfl
theorem m_narrowed {t : Nat} {x : Int32} (ht : t ≤ 2) : zf_X11_narrowed x (nI t) = some (nrI t x).toInt64 := by
  unfold zf_X11_narrowed
  have c : t = 0 ∨ t = 1 ∨ t = 2 := by omega
  rcases c with rfl | rfl | rfl
  · rw [if_pos (show nI 0 = 0 by decide)]; rfl
  · rw [if_neg (show ¬ nI 1 = 0 by decide), if_pos (show nI 1 = 1 by decide)]; rfl
  · rw [if_neg (show ¬ nI 2 = 0 by decide), if_neg (show ¬ nI 2 = 1 by decide)]; rfl
theorem m_inL {x : Int32} {L : Nat} (hL : L ≤ 100) : zf_X11_in x.toInt64 0 (nI L - 1).toInt64 = some (if 0 ≤ x.toInt ∧ x.toInt + 1 ≤ L then 1 else 0) := by
  rw [m_in32 x 0 (nI L - 1) (L := 0) (by decide) rfl]
  have e1 : (nI L - 1).toInt = (L : Int) - 1 := by rw [zi_lit1, pk_sub_toInt (by omega) (by omega)]; rfl
  simp only [zi_leT, e1, zi_T0]
  by_cases c : 0 ≤ x.toInt ∧ x.toInt + 1 ≤ L
  · rw [if_pos c, if_pos (by omega)]
  · rw [if_neg c, if_neg (by omega)]
theorem ok_put (x1 x2 x3 : Int32) : zOK (zf_X10_put x1 x2 x3) (zf_X11_put x1 x2 x3) := by
  refine zOK_upd (fun h h' P I S hC hM => ?_)
  obtain ⟨t1, t2⟩ := m_thr hM.1
  have hM1 := t2.MI hM t1
  have hF := t2.F
  have hW := hC.2.2.2.2.1
  have hS := hC.2.2.2.2.2
  unfold zf_X10_put zf_X11_put
  simp only [zbs]
  generalize zc_ui h' 60 17 0 = g at hM1 hF
  have hT := hM1.2.2.2
  have no : ∀ x : Int32, ∃ r h1 h2 P2 I2 S2, (some (x, h)) = some (r, h1) ∧ CI h1 P2 I2 S2 ∧ zFC h h1 ∧ (some (x, g)) = some (r, h2) ∧ MI h2 P2 I2 S2 ∧ zFM h' h2 := fun x => ⟨_, _, _, P, I, S, rfl, hC, fun _ _ => ⟨rfl, rfl⟩, rfl, hM1, hF⟩
  rcases zr x1 (N := 8) (by omega) with hx | ⟨d, hd, rfl⟩
  · rw [c_ref_out hx, m_ref_out hx]
    exact no _
  rw [c_ref_in hW hS hd, m_ref_in hW hT hd]
  simp only [zbs]
  by_cases k : (S d).1 = 2
  rotate_left
  · have hn := refI_n (hW d hd).1 k
    rw [if_neg (fun q => by rw [q] at hn; exact absurd hn (by decide)), if_neg (fun q => zi_nle.mp q hn)]
    exact no _
  have w := hW d hd
  have wt : sT S d ≤ 2 := w.2.2.2.1
  have wL : sL S d ≤ 100 := w.2.2.2.2
  have e := hS d hd
  have f := hT d hd
  rw [k, refI_2, if_pos rfl, if_pos (show (0 : Int32) ≤ 0 by decide)]
  simp only [if_pos (zi_ix hd (show 8 < 2000000000 by omega)), zi_clamp (show d < 2000000000 by omega), show 43 + 1 + 2 * d = 44 + 2 * d from rfl, f.2.2.1, f.2.2.2.1]
  rw [c_has (L := sL S d) e.2.2.2.1 wL, m_inL wL, show (1 : Int32).toInt = 1 by decide]
  simp only [zbs]
  by_cases c : 0 ≤ x2.toInt ∧ x2.toInt + 1 ≤ sL S d
  rotate_left
  · rw [if_neg c, if_neg (show ¬ (0 ≤ x2.toInt ∧ (0 : Int) ≤ 1 ∧ x2.toInt + 1 ≤ sL S d) by omega)]
    simp only [if_true]
    exact no _
  rw [if_pos c, if_pos (show 0 ≤ x2.toInt ∧ (0 : Int) ≤ 1 ∧ x2.toInt + 1 ≤ sL S d by omega)]
  simp only [z10, if_false]
  obtain ⟨i, hi, rfl⟩ := zi_nat (L := 99) c.1 (by omega) (by omega)
  have hi' : i < 100 := by omega
  obtain ⟨r1, r2⟩ := row_ix hd hi'
  rw [c_set (t := sT S d) e.2.2.1 wt hi', m_narrowed (t := (S d).2.2.2.1) wt, r1]
  simp only [zbs, if_pos (zi_ix r2 (show 800 < 2000000000 by omega)), zi_clamp (show 100 * d + i < 2000000000 by omega)]
  have a1 : ∀ a, a ≠ 44 + 2 * d + 1 → (zc_ui h (44 + 2 * d + 1) i (nrI (sT S d) x3)).1 a = h.1 a := fun a ha => by funext j; rw [zu_i, if_neg (by omega)]
  have s1 : SC (zc_ui h (44 + 2 * d + 1) i (nrI (sT S d) x3)) (setV S d (fun j => if j = i then nrI (sT S d) x3 else sV S d j)) := SC_v hS a1 (fun j hj => by
    rw [zu_i]
    by_cases c : j = i
    · rw [if_pos ⟨rfl, c⟩, if_pos c]
    · rw [if_neg (by omega), if_neg c]; exact e.2.2.2.2 j hj)
  obtain ⟨b1, b2⟩ := CI_S hd hC (fun a _ h2 => a1 a h2) rfl (zSW_v hW hd) s1
  refine ⟨0, _, _, P, I, _, rfl, b1, b2, rfl, MI_S hM1 (fun a ha => rfl) (SM_v hT (fun a _ _ => rfl) (fun j hj => ?_) (fun j hj => ?_)), hF.ul (by omega)⟩
  · rw [zu_l, if_neg (by omega)]
  · rw [zu_l]
    by_cases c : j = i
    · rw [if_pos ⟨rfl, by omega⟩, if_pos c]
    · rw [if_neg (by omega), if_neg c]; exact f.2.2.2.2 j hj
/-! copy -/
theorem cp_ix {d i k : Nat} (hd : d < 8) (hi : i + k < 100) : ((100 : Int32) * nI d) + nI i + nI k = nI (100 * d + i + k) ∧ 100 * d + i + k < 800 := by
  obtain ⟨r1, r2⟩ := row_ix hd (show i < 100 by omega)
  exact ⟨by rw [r1, nI_add], by omega⟩
theorem m_cpA {h : zHp} {d i n : Nat} (hd : d < 8) (hi : i + n ≤ 100) : ∃ g, zl_X11_copy_137 (nI d) (nI i) (nI n) zFU 0 h = some g ∧ (∀ k, k < n → g.2 79 k = h.2 71 (100 * d + i + k)) ∧ (∀ b, b ≠ 79 → g.2 b = h.2 b) ∧ g.1 = h.1 := by
  refine zl_inv0 (fun fu (g : zHp) y => zl_X11_copy_137 (nI d) (nI i) (nI n) fu y g) (fun y g => (∀ k, k < y → g.2 79 k = h.2 71 (100 * d + i + k)) ∧ (∀ b, b ≠ 79 → g.2 b = h.2 b) ∧ g.1 = h.1) (fun g => (∀ k, k < n → g.2 79 k = h.2 71 (100 * d + i + k)) ∧ (∀ b, b ≠ 79 → g.2 b = h.2 b) ∧ g.1 = h.1) n (by omega) h ⟨fun j hj => absurd hj (by omega), fun _ _ => rfl, rfl⟩ (fun fu y g hy hI => Or.inr ⟨zc_ul g 79 y (h.2 71 (100 * d + i + y)), ?_, fun j hj => ?_, fun b hb => ?_, hI.2.2⟩) (fun fu g hI => ⟨g, ?_, hI⟩)
  · obtain ⟨r1, r2⟩ := cp_ix hd (show i + y < 100 by omega)
    show zl_X11_copy_137 (nI d) (nI i) (nI n) (fu + 1) (nI y) g = zl_X11_copy_137 (nI d) (nI i) (nI n) fu (nI (y + 1)) (zc_ul g 79 y (h.2 71 (100 * d + i + y)))
    conv => lhs; unfold zl_X11_copy_137
    rw [if_neg (by rw [zi_le (by omega) (by omega)]; omega), r1, if_pos (zi_ix r2 (by omega)), if_pos (zi_ix (show y < 100 by omega) (by omega)), zbs, zi_clamp (show y < 2000000000 by omega), zi_clamp (show 100 * d + i + y < 2000000000 by omega), zi_one, hI.2.1 71 (by omega)]
  · rw [zu_l]
    by_cases c : j = y
    · rw [if_pos ⟨rfl, c⟩, c]
    · rw [if_neg (by omega)]; exact hI.1 j (by omega)
  · funext j
    rw [zu_l, if_neg (by omega), hI.2.1 b hb]
  · show zl_X11_copy_137 (nI d) (nI i) (nI n) (fu + 1) (nI n) g = _
    conv => lhs; unfold zl_X11_copy_137
    rw [if_pos (by rw [zi_le (by omega) (by omega)]; omega)]
theorem m_cpB {h : zHp} {d i n : Nat} (hd : d < 8) (hi : i + n ≤ 100) : ∃ g, zl_X11_copy_174 (nI d) (nI i) (nI n) zFU 0 h = some g ∧ (∀ j, g.2 71 j = if 100 * d + i ≤ j ∧ j < 100 * d + i + n then h.2 79 (j - (100 * d + i)) else h.2 71 j) ∧ (∀ b, b ≠ 71 → g.2 b = h.2 b) ∧ g.1 = h.1 := by
  refine zl_inv0 (fun fu (g : zHp) y => zl_X11_copy_174 (nI d) (nI i) (nI n) fu y g) (fun y g => (∀ j, g.2 71 j = if 100 * d + i ≤ j ∧ j < 100 * d + i + y then h.2 79 (j - (100 * d + i)) else h.2 71 j) ∧ (∀ b, b ≠ 71 → g.2 b = h.2 b) ∧ g.1 = h.1) (fun g => (∀ j, g.2 71 j = if 100 * d + i ≤ j ∧ j < 100 * d + i + n then h.2 79 (j - (100 * d + i)) else h.2 71 j) ∧ (∀ b, b ≠ 71 → g.2 b = h.2 b) ∧ g.1 = h.1) n (by omega) h ⟨fun j => by rw [if_neg (by omega)], fun _ _ => rfl, rfl⟩ (fun fu y g hy hI => Or.inr ⟨zc_ul g 71 (100 * d + i + y) (h.2 79 y), ?_, fun j => ?_, fun b hb => ?_, hI.2.2⟩) (fun fu g hI => ⟨g, ?_, hI⟩)
  · obtain ⟨r1, r2⟩ := cp_ix hd (show i + y < 100 by omega)
    show zl_X11_copy_174 (nI d) (nI i) (nI n) (fu + 1) (nI y) g = zl_X11_copy_174 (nI d) (nI i) (nI n) fu (nI (y + 1)) (zc_ul g 71 (100 * d + i + y) (h.2 79 y))
    conv => lhs; unfold zl_X11_copy_174
    rw [if_neg (by rw [zi_le (by omega) (by omega)]; omega), r1, if_pos (zi_ix (show y < 100 by omega) (by omega)), if_pos (zi_ix r2 (by omega)), zbs, zi_clamp (show y < 2000000000 by omega), zi_clamp (show 100 * d + i + y < 2000000000 by omega), zi_one, hI.2.1 79 (by omega)]
  · rw [zu_l]
    by_cases c : j = 100 * d + i + y
    · rw [if_pos ⟨rfl, c⟩, if_pos (by omega), c, show 100 * d + i + y - (100 * d + i) = y by omega]
    · rw [if_neg (by omega), hI.1 j]
      by_cases c2 : 100 * d + i ≤ j ∧ j < 100 * d + i + y
      · rw [if_pos c2, if_pos (by omega)]
      · rw [if_neg c2, if_neg (by omega)]
  · funext j
    rw [zu_l, if_neg (by omega), hI.2.1 b hb]
  · show zl_X11_copy_174 (nI d) (nI i) (nI n) (fu + 1) (nI n) g = _
    conv => lhs; unfold zl_X11_copy_174
    rw [if_pos (by rw [zi_le (by omega) (by omega)]; omega)]
theorem zi_0s {n : Nat} (h : n ≤ 2) : (nI n = 0 ↔ n = 0) ∧ (nI n = 2 ↔ n = 2) := by
  have c : n = 0 ∨ n = 1 ∨ n = 2 := by omega
  rcases c with rfl | rfl | rfl <;> decide
theorem ok_copy (x1 x2 x3 x4 x5 : Int32) : zOK (zf_X10_copy x1 x2 x3 x4 x5) (zf_X11_copy x1 x2 x3 x4 x5) := by
  refine zOK_upd (fun h h' P I S hC hM => ?_)
  obtain ⟨t1, t2⟩ := m_thr hM.1
  have hM1 := t2.MI hM t1
  have hF := t2.F
  have hW := hC.2.2.2.2.1
  have hS := hC.2.2.2.2.2
  unfold zf_X10_copy zf_X11_copy
  simp only [zbs]
  generalize zc_ui h' 60 17 0 = g at hM1 hF
  have hT := hM1.2.2.2
  have no : ∀ x : Int32, ∃ r h1 h2 P2 I2 S2, (some (x, h)) = some (r, h1) ∧ CI h1 P2 I2 S2 ∧ zFC h h1 ∧ (some (x, g)) = some (r, h2) ∧ MI h2 P2 I2 S2 ∧ zFM h' h2 := fun x => ⟨_, _, _, P, I, S, rfl, hC, fun _ _ => ⟨rfl, rfl⟩, rfl, hM1, hF⟩
  rcases zr x1 (N := 8) (by omega) with hx | ⟨d, hd, rfl⟩
  · rw [c_isShelf_out hx, m_in_out (N := 8) (by omega) (by omega) (by decide) hx]
    exact no _
  rw [c_isShelf_in hd, m_in_in (N := 8) (by omega) hd (by decide)]
  simp only [zbs, z10, if_false]
  rcases zr x3 (N := 8) (by omega) with hx | ⟨e, he, rfl⟩
  · rw [c_isShelf_out hx, m_in_out (N := 8) (by omega) (by omega) (by decide) hx]
    exact no _
  rw [c_isShelf_in he, m_in_in (N := 8) (by omega) he (by decide)]
  have p := hS d hd
  have q := hS e he
  have f := hT d hd
  have r := hT e he
  have w := hW d hd
  have v := hW e he
  simp only [zbs, z10, if_false, if_pos (zi_ix hd (show 8 < 2000000000 by omega)), if_pos (zi_ix he (show 8 < 2000000000 by omega)), zi_clamp (show d < 2000000000 by omega), zi_clamp (show e < 2000000000 by omega), show 43 + 1 + 2 * d = 44 + 2 * d from rfl, show 43 + 1 + 2 * e = 44 + 2 * e from rfl, p.1, q.1, f.1, r.1, p.2.2.1, q.2.2.1, f.2.2.1, r.2.2.1, f.2.2.2.1, r.2.2.2.1, (zi_0s w.1).1, (zi_0s w.1).2, (zi_0s v.1).1, (zi_0s v.1).2]
  by_cases k1 : (S d).1 = 0
  · rw [if_pos k1, if_pos k1]; exact no _
  rw [if_neg k1, if_neg k1]
  by_cases k2 : (S e).1 = 0
  · rw [if_pos k2, if_pos k2]; exact no _
  rw [if_neg k2, if_neg k2, c_ref_in hW hS hd, c_ref_in hW hS he]
  simp only [zbs]
  by_cases k3 : (S d).1 = 2
  rotate_left
  · have hn := refI_n w.1 k3
    rw [if_neg (fun q => by rw [q] at hn; exact absurd hn (by decide)), if_neg k3]
    exact no _
  rw [if_pos k3, k3, refI_2, if_pos rfl]
  by_cases k4 : (S e).1 = 2
  rotate_left
  · have hn := refI_n v.1 k4
    rw [if_neg (fun q => by rw [q] at hn; exact absurd hn (by decide)), if_neg k4]
    exact no _
  rw [if_pos k4, k4, refI_2, if_pos rfl]
  by_cases k5 : nI (S d).2.2.2.1 = nI (S e).2.2.2.1
  rotate_left
  · rw [if_neg k5, if_neg k5]; exact no _
  rw [if_pos k5, if_pos k5]
  have wL : sL S d ≤ 100 := w.2.2.2.2
  have vL : sL S e ≤ 100 := v.2.2.2.2
  rw [c_has (L := sL S d) p.2.2.2.1 wL, c_has (L := sL S e) q.2.2.2.1 vL]
  simp only [zbs]
  have eL : (nI (sL S d)).toInt = sL S d := nI_toInt (by omega)
  have eM : (nI (sL S e)).toInt = sL S e := nI_toInt (by omega)
  have u5 := Int32.toInt_lt x5
  by_cases n5 : x5.toInt < 0
  · rw [if_neg (show ¬ (0 ≤ x2.toInt ∧ 0 ≤ x5.toInt ∧ x2.toInt + x5.toInt ≤ sL S d) by omega), if_pos (zi_ltT.mpr (by rw [zi_T0]; exact n5))]
    exact no _
  rw [if_neg (show ¬ x5 < 0 from fun q => n5 (by have := zi_ltT.mp q; rw [zi_T0] at this; exact this))]
  by_cases n2 : x2.toInt < 0
  · rw [if_neg (show ¬ (0 ≤ x2.toInt ∧ 0 ≤ x5.toInt ∧ x2.toInt + x5.toInt ≤ sL S d) by omega), if_pos (zi_ltT.mpr (by rw [zi_T0]; exact n2))]
    exact no _
  rw [if_neg (show ¬ x2 < 0 from fun q => n2 (by have := zi_ltT.mp q; rw [zi_T0] at this; exact this))]
  by_cases n4 : x4.toInt < 0
  · rw [if_neg (show ¬ (0 ≤ x4.toInt ∧ 0 ≤ x5.toInt ∧ x4.toInt + x5.toInt ≤ sL S e) by omega), if_pos (show x4 < 0 from zi_ltT.mpr (by rw [zi_T0]; exact n4))]
    by_cases c : 0 ≤ x2.toInt ∧ 0 ≤ x5.toInt ∧ x2.toInt + x5.toInt ≤ sL S d
    · rw [if_pos c]
      simp only [z10, if_false, if_true]
      exact no _
    · rw [if_neg c]
      exact no _
  rw [if_neg (show ¬ x4 < 0 from fun q => n4 (by have := zi_ltT.mp q; rw [zi_T0] at this; exact this))]
  have es1 : (nI (sL S d) - x5).toInt = sL S d - x5.toInt := by rw [zi_sub (by rw [eL]; omega) (by rw [eL]; omega), eL]
  have es2 : (nI (sL S e) - x5).toInt = sL S e - x5.toInt := by rw [zi_sub (by rw [eM]; omega) (by rw [eM]; omega), eM]
  by_cases m1 : x2.toInt + x5.toInt ≤ sL S d
  rotate_left
  · rw [if_neg (show ¬ (0 ≤ x2.toInt ∧ 0 ≤ x5.toInt ∧ x2.toInt + x5.toInt ≤ sL S d) by omega), if_pos (show nI (sL S d) - x5 < x2 from zi_ltT.mpr (by rw [es1]; omega))]
    exact no _
  rw [if_pos (show (0 ≤ x2.toInt ∧ 0 ≤ x5.toInt ∧ x2.toInt + x5.toInt ≤ sL S d) by omega), if_neg (show ¬ nI (sL S d) - x5 < x2 from fun q => by have := zi_ltT.mp q; rw [es1] at this; omega)]
  simp only [z10, if_false]
  by_cases m2 : x4.toInt + x5.toInt ≤ sL S e
  rotate_left
  · rw [if_neg (show ¬ (0 ≤ x4.toInt ∧ 0 ≤ x5.toInt ∧ x4.toInt + x5.toInt ≤ sL S e) by omega), if_neg (show ¬ x4 ≤ nI (sL S e) - x5 from fun q => by have := zi_leT.mp q; rw [es2] at this; omega)]
    exact no _
  rw [if_pos (show (0 ≤ x4.toInt ∧ 0 ≤ x5.toInt ∧ x4.toInt + x5.toInt ≤ sL S e) by omega), if_pos (show x4 ≤ nI (sL S e) - x5 from zi_leT.mpr (by rw [es2]; omega))]
  simp only [z10, if_false]
  obtain ⟨n, hn, e5⟩ := zi_nat (x := x5) (L := 100) (by omega) (by omega) (by omega)
  obtain ⟨i, hi, e2⟩ := zi_nat (x := x2) (L := 100) (by omega) (by omega) (by omega)
  obtain ⟨j, hj, e4⟩ := zi_nat (x := x4) (L := 100) (by omega) (by omega) (by omega)
  subst e5; subst e2; subst e4
  rw [nI_toInt (by omega), nI_toInt (by omega)] at m1 m2
  have hin : i + n ≤ 100 := by omega
  have hjn : j + n ≤ 100 := by omega
  have gd : zc_cp (nI i) (nI j) (nI n) 100 100 := ⟨nI_pos (by omega), nI_pos (by omega), nI_pos (by omega), by rw [zi_clamp (by omega), zi_clamp (by omega)]; exact hin, by rw [zi_clamp (by omega), zi_clamp (by omega)]; exact hjn⟩
  rw [if_pos gd, zi_clamp (show i < 2000000000 by omega), zi_clamp (show j < 2000000000 by omega), zi_clamp (show n < 2000000000 by omega)]
  obtain ⟨g1, a1, a2, a3, a4⟩ := m_cpA (h := g) hd hin
  obtain ⟨g2, b1, b2, b3, b4⟩ := m_cpB (h := g1) he hjn
  rw [a1]
  simp only [zbs]
  rw [b1]
  simp only [zbs]
  have y1 : ∀ a, a ≠ 44 + 2 * e + 1 → (zc_ri h (44 + 2 * e + 1) (va_cpy (h.1 (44 + 2 * d + 1)) (h.1 (44 + 2 * e + 1)) i j n)).1 a = h.1 a := fun a ha => by funext l; rw [zu_r, if_neg ha]
  have s1 : SC (zc_ri h (44 + 2 * e + 1) (va_cpy (h.1 (44 + 2 * d + 1)) (h.1 (44 + 2 * e + 1)) i j n)) (setV S e (va_cpy (sV S d) (sV S e) i j n)) := SC_v hS y1 (fun l hl => by
    rw [zu_r, if_pos rfl]
    unfold va_cpy
    by_cases c : j ≤ l ∧ l < j + n
    · rw [if_pos c, if_pos c]; exact p.2.2.2.2 _ (by omega)
    · rw [if_neg c, if_neg c]; exact q.2.2.2.2 l hl)
  obtain ⟨z1, z2⟩ := CI_S he hC (fun a _ h2 => y1 a h2) rfl (zSW_v hW he) s1
  refine ⟨nI n, _, g2, P, I, _, rfl, z1, z2, rfl, MI_S hM1 (fun a ha => by rw [b4, a4]) (SM_v hT (fun a _ _ => by rw [b4, a4]) (fun l hl => ?_) (fun l hl => ?_)), fun a ha => ⟨by rw [b4, a4]; exact (hF a ha).1, by rw [b3 a (by omega), a3 a (by omega)]; exact (hF a ha).2⟩⟩
  · rw [b2, if_neg (by omega), a3 71 (by omega)]
  · rw [b2]
    unfold va_cpy
    by_cases c : j ≤ l ∧ l < j + n
    · rw [if_pos (by omega), if_pos c, a2 _ (by omega), ← f.2.2.2.2 _ (show i + (l - j) < 100 by omega), show 100 * d + i + (100 * e + l - (100 * e + j)) = 100 * d + (i + (l - j)) by omega]
    · rw [if_neg (by omega), if_neg c, a3 71 (by omega)]; exact r.2.2.2.2 l hl

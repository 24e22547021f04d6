/-! rain -/
theorem c_fillLL {h : zHp} {a : Nat} : ∃ g, zf_J7_fill_d0a16 a 12 0 h = some g ∧ (∀ i, i < 12 → g.2 a i = 0) ∧ (∀ b, b ≠ a → g.2 b = h.2 b) ∧ g.1 = h.1 := by
  have key : ∃ g, zl_J7_fill_d0a16_6 a 12 0 zFU 0 h = some g ∧ (∀ i, i < 12 → g.2 a i = 0) ∧ (∀ b, b ≠ a → g.2 b = h.2 b) ∧ g.1 = h.1 := by
    refine zl_inv0 (fun fu (g : zHp) i => zl_J7_fill_d0a16_6 a 12 0 fu i g) (fun i g => (∀ j, j < i → g.2 a j = 0) ∧ (∀ b, b ≠ a → g.2 b = h.2 b) ∧ g.1 = h.1) (fun g => (∀ i, i < 12 → g.2 a i = 0) ∧ (∀ b, b ≠ a → g.2 b = h.2 b) ∧ g.1 = h.1) 12 (by omega) h ⟨fun j hj => absurd hj (by omega), fun _ _ => rfl, rfl⟩ (fun fu i g hi hI => Or.inr ⟨zc_ul g a i 0, ?_, fun j hj => ?_, fun b hb => ?_, hI.2.2⟩) (fun fu g hI => ⟨g, ?_, hI⟩)
    · show zl_J7_fill_d0a16_6 a 12 0 (fu + 1) (nI i) g = zl_J7_fill_d0a16_6 a 12 0 fu (nI (i + 1)) (zc_ul g a i 0)
      conv => lhs; unfold zl_J7_fill_d0a16_6
      rw [if_neg (by rw [show Int32.ofNat 12 = nI 12 by decide, zi_le (by omega) (by omega)]; omega), if_pos (zi_ix hi (by omega)), zbs, zi_clamp (by omega), zi_one]
    · rw [zu_l]
      by_cases c : j = i
      · rw [if_pos ⟨rfl, c⟩]
      · rw [if_neg (by omega)]; exact hI.1 j (by omega)
    · funext j
      rw [zu_l, if_neg (by omega), hI.2.1 b hb]
    · show zl_J7_fill_d0a16_6 a 12 0 (fu + 1) (nI 12) g = _
      conv => lhs; unfold zl_J7_fill_d0a16_6
      rw [if_pos (by decide)]
  obtain ⟨g, a1, a2⟩ := key
  exact ⟨g, by unfold zf_J7_fill_d0a16; rw [a1, zbs], a2⟩
theorem c_spreadDay {h : zHp} {s t : Nat} {w : Nat → Nat} (hs : s ≤ 5) (ht : 1 ≤ t) (h11 : h.1 16 11 = nI s) (hw : ∀ p, p < 12 → h.2 5 p = lN (w p)) (ht2 : t < 100) : ∃ g, zf_X10_spreadOneDay (nI t) h = some g ∧ (∀ p, p < 12 → g.2 5 p = lN (w p + (t - 1) * w ((p + 12 - s) % 12))) ∧ (∀ b, 60 ≤ b → g.2 b = h.2 b) ∧ g.1 = h.1 := by
  have key : ∃ g, zl_X10_spreadOneDay_2 (nI t) zFU 0 h = some g ∧ (∀ p, p < 12 → g.2 6 p = lN (w p + (t - 1) * w ((p + 12 - s) % 12))) ∧ (∀ b, b ≠ 6 → g.2 b = h.2 b) ∧ g.1 = h.1 := by
    refine zl_inv0 (fun fu (g : zHp) i => zl_X10_spreadOneDay_2 (nI t) fu i g) (fun i g => (∀ p, p < i → g.2 6 p = lN (w p + (t - 1) * w ((p + 12 - s) % 12))) ∧ (∀ b, b ≠ 6 → g.2 b = h.2 b) ∧ g.1 = h.1) (fun g => (∀ p, p < 12 → g.2 6 p = lN (w p + (t - 1) * w ((p + 12 - s) % 12))) ∧ (∀ b, b ≠ 6 → g.2 b = h.2 b) ∧ g.1 = h.1) 12 (by omega) h ⟨fun j hj => absurd hj (by omega), fun _ _ => rfl, rfl⟩ (fun fu i g hi hI => Or.inr ⟨zc_ul g 6 i (lN (w i + (t - 1) * w ((i + 12 - s) % 12))), ?_, fun j hj => ?_, fun b hb => ?_, hI.2.2⟩) (fun fu g hI => ⟨g, ?_, hI⟩)
    · show zl_X10_spreadOneDay_2 (nI t) (fu + 1) (nI i) g = zl_X10_spreadOneDay_2 (nI t) fu (nI (i + 1)) _
      have hr : (i + 12 - s) % 12 < 12 := Nat.mod_lt _ (by omega)
      conv => lhs; unfold zl_X10_spreadOneDay_2
      rw [if_neg (by rw [show (12 : Int32) = nI 12 by decide, zi_le (by omega) (by omega)]; omega), hI.2.2, h11]
      simp only [zi_lit12]
      rw [nI_add, pk_sub (show s ≤ i + 12 by omega), zi_rem (by omega) (by omega) (by omega), zbs]
      simp only [if_pos (zi_ix hi (show 12 < 2000000000 by omega)), if_pos (zi_ix hr (show 12 < 2000000000 by omega)), zi_clamp (show i < 2000000000 by omega), zi_clamp (show (i + 12 - s) % 12 < 2000000000 by omega), zbs, zi_one]
      rw [hI.2.1 5 (by omega), hw i hi, hw _ hr, zi_lit1, pk_sub ht, nI_l (by omega), lN_mul, lN_add]
    · rw [zu_l]
      by_cases c : j = i
      · rw [if_pos ⟨rfl, c⟩, c]
      · rw [if_neg (by omega)]; exact hI.1 j (by omega)
    · funext j
      rw [zu_l, if_neg (by omega), hI.2.1 b hb]
    · show zl_X10_spreadOneDay_2 (nI t) (fu + 1) (nI 12) g = _
      conv => lhs; unfold zl_X10_spreadOneDay_2
      rw [if_pos (by decide)]
  obtain ⟨g, a1, a2, a3, a4⟩ := key
  refine ⟨zc_rl g 5 (va_cpy (g.2 6) (g.2 5) (0 : Int32).toNatClampNeg (0 : Int32).toNatClampNeg (12 : Int32).toNatClampNeg), by unfold zf_X10_spreadOneDay; rw [a1, zbs, zbs], fun p hp => ?_, fun b hb => ?_, a4⟩
  · rw [zc_rl_s, show (0 : Int32).toNatClampNeg = 0 by decide, show (12 : Int32).toNatClampNeg = 12 by decide, pk_cpy_in (by omega) (by omega), show 0 + (p - 0) = p by omega]
    exact a2 p hp
  · show va_up g.2 5 _ b = _
    rw [va_up_ne _ _ (by omega), a3 b (by omega)]
theorem c_spread {h : zHp} {P : zP} {n t : Nat} (c1 : zWF 999 P) (c2 : RC h 16 P) (hn : n ≤ 7) (ht : 1 ≤ t) (ht2 : t < 100) : ∃ g, zf_X10_spreadChances (nI n) (nI t) h = some (lN (cwR P t n).1, g) ∧ (∀ p, p < 12 → g.2 5 p = lN ((cwR P t n).2 p)) ∧ (∀ b, 60 ≤ b → g.2 b = h.2 b) ∧ g.1 = h.1 := by
  have hdy := c1.2.2.2.2.2.2
  have hch := c1.2.2.1
  have hhm := c1.2.2.2.2.1
  obtain ⟨g0, a1, a2, a3, a4⟩ := c_fillLL (h := h) (a := 5)
  have b1 : ∀ p, p < 12 → (zc_ul g0 5 (ch P) 1).2 5 p = lN ((cwR P t 0).2 p) := fun p hp => by
    show _ = lN (if p = ch P then 1 else 0)
    rw [zu_l]
    by_cases c : p = ch P
    · rw [if_pos ⟨rfl, c⟩, if_pos c]; rfl
    · rw [if_neg (by omega), if_neg c, a2 p hp]; rfl
  have b2 : ∀ b, 60 ≤ b → (zc_ul g0 5 (ch P) 1).2 b = h.2 b := fun b hb => by
    rw [← a3 b (by omega)]; funext j; rw [zu_l, if_neg (by omega)]
  have b3 : (zc_ul g0 5 (ch P) 1).1 = h.1 := a4
  obtain ⟨r, h1, h2⟩ := zl_inv (fun fu (s : Int64 × zHp) i => zl_X10_spreadChances_34 (nI n) (nI t) fu s.1 i s.2) (fun i s => ∃ k, i = dy P + 1 + k ∧ s.1 = lN (cwR P t k).1 ∧ (∀ p, p < 12 → s.2.2 5 p = lN ((cwR P t k).2 p)) ∧ (∀ b, 60 ≤ b → s.2.2 b = h.2 b) ∧ s.2.1 = h.1) (fun s => s.1 = lN (cwR P t n).1 ∧ (∀ p, p < 12 → s.2.2 5 p = lN ((cwR P t n).2 p)) ∧ (∀ b, 60 ≤ b → s.2.2 b = h.2 b) ∧ s.2.1 = h.1) (dy P + 1 + n)
    (fun fu i s hi hI => by
      obtain ⟨y, g⟩ := s
      obtain ⟨k, e1, e2, e3, e4, e5⟩ := hI
      change y = _ at e2
      change ∀ p, p < 12 → g.2 5 p = _ at e3
      change ∀ b, 60 ≤ b → g.2 b = h.2 b at e4
      change g.1 = h.1 at e5
      have d1 : g.1 16 14 = nI (dy P) := by rw [e5]; exact c2.2.2.2.2.2.2.2
      have ho : ((nI i - nI i / 12 * 12 = 0)) ↔ (dy P + k + 1) % 12 = 0 := by
        rw [zi_lit12, zi_rem (by omega) (by omega) (by omega), zi_lit0, zi_eq (by omega) (by omega), e1, show dy P + 1 + k = dy P + k + 1 by omega]
      have u : zl_X10_spreadChances_34 (nI n) (nI t) (fu + 1) y (nI i) g = if (dy P + k + 1) % 12 = 0 then ((zf_J7_fill_d0a16 5 12 (0 : Int64) g).bind (fun r8 => (if zc_ix (r8.1 16 12) 12 then ((some (zc_ul r8 5 (r8.1 16 12).toNatClampNeg y) : Option zHp).bind (fun h10 => zl_X10_spreadChances_34 (nI n) (nI t) fu y (nI (i + 1)) h10)) else none))) else ((zf_X10_spreadOneDay (nI t) g).bind (fun r11 => zl_X10_spreadChances_34 (nI n) (nI t) fu (y * (nI t).toInt64) (nI (i + 1)) r11)) := by
        conv => lhs; unfold zl_X10_spreadChances_34
        rw [d1, nI_add, if_neg (by rw [zi_lt (by omega) (by omega)]; omega), zi_one]
        by_cases c : (dy P + k + 1) % 12 = 0
        · rw [if_pos c, if_pos (ho.mpr c)]
        · rw [if_neg c, if_neg (fun q => c (ho.mp q))]
      by_cases c : (dy P + k + 1) % 12 = 0
      · obtain ⟨g1, f1, f2, f3, f4⟩ := c_fillLL (h := g) (a := 5)
        have d2 : g1.1 16 12 = nI (hm P) := by rw [f4, e5]; exact c2.2.2.2.2.2.1
        refine Or.inr ⟨(y, zc_ul g1 5 (hm P) y), ?_, k + 1, by omega, ?_, fun p hp => ?_, fun b hb => ?_, ?_⟩
        · show zl_X10_spreadChances_34 (nI n) (nI t) (fu + 1) y (nI i) g = zl_X10_spreadChances_34 (nI n) (nI t) fu y (nI (i + 1)) (zc_ul g1 5 (hm P) y)
          rw [u, if_pos c, f1, zbs, d2, if_pos (zi_ix hhm (by omega)), zbs, zi_clamp (by omega)]
        · rw [cwR_y c]; exact e2
        · rw [cwR_y c]
          show (zc_ul g1 5 (hm P) y).2 5 p = lN (if p = hm P then (cwR P t k).1 else 0)
          rw [zu_l]
          by_cases q : p = hm P
          · rw [if_pos ⟨rfl, q⟩, if_pos q]; exact e2
          · rw [if_neg (by omega), if_neg q, f2 p hp]; rfl
        · show (zc_ul g1 5 (hm P) y).2 b = _
          rw [← e4 b hb, ← f3 b (by omega)]; funext j; rw [zu_l, if_neg (by omega)]
        · exact f4.trans e5
      · obtain ⟨g1, f1, f2, f3, f4⟩ := c_spreadDay (h := g) (s := sp P) (t := t) (w := (cwR P t k).2) c1.2.2.2.1 ht (by rw [e5]; exact c2.2.2.2.2.1) e3 ht2
        refine Or.inr ⟨(y * (nI t).toInt64, g1), ?_, k + 1, by omega, ?_, fun p hp => ?_, fun b hb => ?_, f4.trans e5⟩
        · show zl_X10_spreadChances_34 (nI n) (nI t) (fu + 1) y (nI i) g = zl_X10_spreadChances_34 (nI n) (nI t) fu (y * (nI t).toInt64) (nI (i + 1)) g1
          rw [u, if_neg c, f1, zbs]
        · rw [cwR_n c]
          show y * (nI t).toInt64 = lN ((cwR P t k).1 * t)
          rw [e2, nI_l (by omega), lN_mul]
        · rw [cwR_n c]; exact f2 p hp
        · show g1.2 b = _
          rw [f3 b hb, e4 b hb])
    (fun fu s hI => by
      obtain ⟨y, g⟩ := s
      obtain ⟨k, e1, e2, e3, e4, e5⟩ := hI
      have hk : k = n := by omega
      subst hk
      have d1 : g.1 16 14 = nI (dy P) := by rw [show g.1 = h.1 from e5]; exact c2.2.2.2.2.2.2.2
      refine ⟨(y, g), ?_, e2, e3, e4, e5⟩
      show zl_X10_spreadChances_34 (nI k) (nI t) (fu + 1) y (nI (dy P + 1 + k)) g = _
      conv => lhs; unfold zl_X10_spreadChances_34
      rw [d1, nI_add, if_pos (by rw [zi_lt (by omega) (by omega)]; omega)])
    n (dy P + 1) zFU (1, zc_ul g0 5 (ch P) 1) (by omega) (by rw [zFU_eq]; omega) ⟨0, by omega, rfl, b1, b2, b3⟩
  obtain ⟨y, g⟩ := r
  obtain ⟨k1, k2, k3, k4⟩ := h2
  change y = _ at k1
  subst k1
  refine ⟨g, ?_, k2, k3, k4⟩
  unfold zf_X10_spreadChances
  rw [a1, zbs, show g0.1 16 10 = nI (ch P) by rw [a4]; exact c2.2.2.2.1, if_pos (zi_ix hch (by omega)), zbs, zi_clamp (by omega), show (zc_ul g0 5 (ch P) 1).1 16 14 = nI (dy P) by rw [b3]; exact c2.2.2.2.2.2.2.2, zi_one, zbs, show zl_X10_spreadChances_34 (nI n) (nI t) zFU 1 (nI (dy P + 1)) (zc_ul g0 5 (ch P) 1) = _ from h1, zbs]
def fiR (P : zP) (v n c : Nat) : Nat := if ableN (setCh P c (dy P + n)) v then 1 else 0
theorem RC_dy {h : zHp} {p : Nat} {P : zP} {d : Nat} (hR : RC h p P) : RC (zc_ui h p 14 (nI d)) p (setCh P (ch P) d) := by
  obtain ⟨r1, r2, r3, r4, r5, r6, r7, r8⟩ := hR
  refine ⟨fun v hv => ?_, fun v hv => ?_, ?_, ?_, ?_, ?_, ?_, ?_⟩
  · have q := r1 v hv
    rw [zu_n (by omega), zu_n (by omega), zu_n (by omega), zu_n (by omega), zu_n (by omega)]; exact q
  · have q := r2 v hv
    rw [zu_n (by omega), zu_n (by omega), zu_n (by omega)]; exact q
  · rw [zu_n (by omega)]; exact r3
  · rw [zu_n (by omega)]; exact r4
  · rw [zu_n (by omega)]; exact r5
  · rw [zu_n (by omega)]; exact r6
  · rw [zu_n (by omega)]; exact r7
  · rw [zu_y]; rfl
theorem wf_setCh {D E : Nat} {P : zP} {x d : Nat} (h : zWF D P) (hx : x < 12) (hd : d ≤ E) : zWF E (setCh P x d) := by
  obtain ⟨h1, h2, h3, h4, h5, h6, h7⟩ := h
  exact ⟨h1, h2, hx, h4, h5, h6, hd⟩
theorem c_rainL {h g0 : zHp} {P : zP} {n v c0 : Nat} {w : Nat → Nat} (c1 : zWF 999 P) (hn : n ≤ 7) (hv : v < nV P) (h25 : RC g0 25 (setCh P c0 (dy P + n))) (hw : ∀ p, p < 12 → g0.2 5 p = lN (w p)) (hE : zEC h g0) : ∃ g, zEC h g ∧ zl_X10_rain_82 (nI v) zFU 0 0 g0 = some (lN (sumN (fun p => w p * fiR P v n p) 12), g) := by
  have hdy := c1.2.2.2.2.2.2
  obtain ⟨r, h1, h2⟩ := zl_inv0 (fun fu (s : Int64 × zHp) i => zl_X10_rain_82 (nI v) fu s.1 i s.2) (fun i s => s.1 = lN (sumN (fun p => w p * fiR P v n p) i) ∧ (∃ c, RC s.2 25 (setCh P c (dy P + n))) ∧ (∀ p, p < 12 → s.2.2 5 p = lN (w p)) ∧ zEC h s.2) (fun s => s.1 = lN (sumN (fun p => w p * fiR P v n p) 12) ∧ zEC h s.2) 12 (by omega) (0, g0)
    ⟨rfl, ⟨c0, h25⟩, hw, hE⟩
    (fun fu i s hi hI => by
      obtain ⟨y, g⟩ := s
      obtain ⟨e1, ⟨c, e2⟩, e3, e4⟩ := hI
      change y = _ at e1
      change RC g 25 _ at e2
      change ∀ p, p < 12 → g.2 5 p = _ at e3
      have b1 : RC (zc_ui g 25 10 (nI i)) 25 (setCh P i (dy P + n)) := RC_ch e2
      have b2 := c_isAble (v := v) b1 (wf_setCh (E := 1006) c1 hi (by omega)) (by omega) hv
      refine Or.inr ⟨(y + lN (w i * fiR P v n i), zc_ui g 25 10 (nI i)), ?_, ?_, ⟨i, b1⟩, e3, e4.tr (zEC.u (by omega))⟩
      · show zl_X10_rain_82 (nI v) (fu + 1) y (nI i) g = zl_X10_rain_82 (nI v) fu (y + lN (w i * fiR P v n i)) (nI (i + 1)) (zc_ui g 25 10 (nI i))
        conv => lhs; unfold zl_X10_rain_82
        rw [if_neg (by rw [zi_lit12, zi_le (by omega) (by omega)]; omega), zbs, b2, zbs, zi_one]
        unfold fiR
        cases ableN (setCh P i (dy P + n)) v
        · simp only [Bool.false_eq_true, if_false, if_true, Nat.mul_zero]
          rw [show y + lN 0 = y from by rw [show lN 0 = 0 from rfl, Int64.add_zero]]
        · rw [if_pos rfl, if_pos rfl, Nat.mul_one]
          simp only [z10, if_false, if_pos (zi_ix hi (show 12 < 2000000000 by omega)), zbs, zi_clamp (show i < 2000000000 by omega)]
          rw [show (zc_ui g 25 10 (nI i)).2 5 i = lN (w i) from e3 i hi]
      · show y + lN (w i * fiR P v n i) = lN (sumN (fun p => w p * fiR P v n p) i + w i * fiR P v n i)
        rw [e1, lN_add])
    (fun fu s hI => by
      obtain ⟨y, g⟩ := s
      refine ⟨(y, g), ?_, hI.1, hI.2.2.2⟩
      show zl_X10_rain_82 (nI v) (fu + 1) y (nI 12) g = _
      conv => lhs; unfold zl_X10_rain_82
      rw [if_pos (by decide)])
  obtain ⟨y, g⟩ := r
  obtain ⟨k1, k2⟩ := h2
  change y = _ at k1
  subst k1
  exact ⟨g, k2, h1⟩
/-! rain: the reference -/
def daysR (m : Nat) (P : zP) : Nat → zP
  | 0 => P
  | k + 1 => dayN (m.testBit k) (daysR m P k)
theorem eqv_R (m : Nat) (P : zP) : ∀ k, eqv (daysR m P k) (setCh P (chR P m k) (dy P + k))
  | 0 => eqv.rf
  | k + 1 => eqv_day (m.testBit k) (eqv_R m P k)
theorem daysR_wf {m D : Nat} {P : zP} (h : zWF D P) : ∀ k, zWF (D + k) (daysR m P k)
  | 0 => h
  | k + 1 => dayN_wf (daysR_wf h k)
theorem m_hasBit {y k : Nat} (hy : y < 128) (hk : k < 7) : zf_X11_hasBit (nI y) (nI k) = some (if y.testBit k then 1 else 0) := by
  unfold zf_X11_hasBit
  rw [bt_i hy hk]
  cases y.testBit k <;> rfl
theorem m_rainI {h g0 : zHp} {P : zP} {y n t : Nat} (c1 : zWF 999 P) (hy : y < 128) (hn : n ≤ 7) (ht : 1 ≤ t) (ht2 : t < 100) (hJ : JM h P g0) : ∃ g, zl_X11_rain_103 (nI n) (nI t) (nI y) zFU 1 0 g0 = some (lN (odR t y n), g) ∧ RM g (daysR y P n) ∧ KA g 75 P ∧ zEM h g := by
  obtain ⟨r, h1, h2⟩ := zl_inv0 (fun fu (s : Int64 × zHp) i => zl_X11_rain_103 (nI n) (nI t) (nI y) fu s.1 i s.2) (fun i s => s.1 = lN (odR t y i) ∧ RM s.2 (daysR y P i) ∧ KA s.2 75 P ∧ zEM h s.2) (fun s => s.1 = lN (odR t y n) ∧ RM s.2 (daysR y P n) ∧ KA s.2 75 P ∧ zEM h s.2) n (by omega) (1, g0)
    ⟨rfl, hJ⟩
    (fun fu i s hi hI => by
      obtain ⟨x, g⟩ := s
      obtain ⟨e1, e2, e3, e4⟩ := hI
      change x = _ at e1
      obtain ⟨g1, a1, a2, a3⟩ := m_dayBy e2 (daysR_wf c1 i) (by omega) (y.testBit i)
      refine Or.inr ⟨(lN (odR t y (i + 1)), g1), ?_, rfl, a2, KA_m e3 a3, e4.tr a3.M⟩
      show zl_X11_rain_103 (nI n) (nI t) (nI y) (fu + 1) x (nI i) g = zl_X11_rain_103 (nI n) (nI t) (nI y) fu (lN (odR t y (i + 1))) (nI (i + 1)) g1
      conv => lhs; unfold zl_X11_rain_103
      rw [if_neg (by rw [zi_le (by omega) (by omega)]; omega), m_hasBit hy (by omega)]
      have e5 : ((if (if y.testBit i then (1 : Int32) else 0) = 0 then some ((nI t - 1).toInt64) else some (1 : Int64)) : Option Int64) = some (lN (if y.testBit i then 1 else t - 1)) := by
        rw [zi_lit1, pk_sub ht, nI_l (by omega)]
        cases y.testBit i <;> rfl
      simp only [zbs]
      rw [e5, a1]
      simp only [zbs, zi_one]
      rw [e1, lN_mul]
      rfl)
    (fun fu s hI => by
      obtain ⟨x, g⟩ := s
      refine ⟨(x, g), ?_, hI⟩
      show zl_X11_rain_103 (nI n) (nI t) (nI y) (fu + 1) x (nI n) g = _
      conv => lhs; unfold zl_X11_rain_103
      rw [if_pos (by rw [zi_le (by omega) (by omega)]; omega)])
  obtain ⟨x, g⟩ := r
  obtain ⟨k1, k2⟩ := h2
  change x = _ at k1
  subst k1
  exact ⟨g, h1, k2⟩
theorem p2_i {n : Nat} (hn : n ≤ 7) : ((1 : Int32) <<< (nI n &&& 31)) = nI (2 ^ n) ∧ 2 ^ n ≤ 128 := by
  have key : ∀ n, n < 8 → ((1 : Int32) <<< (nI n &&& 31)) = nI (2 ^ n) ∧ 2 ^ n ≤ 128 := by decide +kernel
  exact key n (by omega)
theorem m_rainL {h g0 : zHp} {P : zP} {v n t : Nat} (c1 : zWF 999 P) (hv : v < 7) (hn : n ≤ 7) (ht : 1 ≤ t) (ht2 : t < 100) (hJ : JM h P g0) : ∃ g, zl_X11_rain_89 (nI v) (nI n) (nI t) zFU 0 0 g0 = some (lN (enR P t n (fiR P v n)), g) ∧ JM h P g := by
  obtain ⟨p1, p2⟩ := p2_i hn
  obtain ⟨r, h1, h2⟩ := zl_inv0 (fun fu (s : Int64 × zHp) i => zl_X11_rain_89 (nI v) (nI n) (nI t) fu s.1 i s.2) (fun i s => s.1 = lN (sumN (fun m => odR t m n * fiR P v n (chR P m n)) i) ∧ JM h P s.2) (fun s => s.1 = lN (enR P t n (fiR P v n)) ∧ JM h P s.2) (2 ^ n) (by omega) (0, g0)
    ⟨rfl, hJ⟩
    (fun fu i s hi hI => by
      obtain ⟨x, g⟩ := s
      obtain ⟨e1, e2⟩ := hI
      change x = _ at e1
      obtain ⟨g1, a1, a2, a3, a4⟩ := m_rainI (y := i) (n := n) (t := t) c1 (by omega) hn ht ht2 e2
      have a5 := m_isAble (v := v) a2 (daysR_wf c1 n) (by omega) hv
      obtain ⟨g2, s1, s2, s3⟩ := m_again a3
      refine Or.inr ⟨(x + lN (odR t i n * fiR P v n (chR P i n)), g2), ?_, ?_, s2, KA_a a3 s3, a4.tr s3.M⟩
      · show zl_X11_rain_89 (nI v) (nI n) (nI t) (fu + 1) x (nI i) g = zl_X11_rain_89 (nI v) (nI n) (nI t) fu (x + lN (odR t i n * fiR P v n (chR P i n))) (nI (i + 1)) g2
        conv => lhs; unfold zl_X11_rain_89
        rw [p1, if_neg (by rw [zi_le (by omega) (by omega)]; omega), a1]
        simp only [zbs]
        rw [a5, s1, eqv_able (eqv_R i P n)]
        simp only [zbs, zi_one]
        unfold fiR
        cases ableN (setCh P (chR P i n) (dy P + n)) v
        · simp only [Bool.false_eq_true, if_false, if_true, Nat.mul_zero, zbs]; rfl
        · simp only [if_true, z10, if_false, Nat.mul_one, zbs]
      · show x + lN (odR t i n * fiR P v n (chR P i n)) = lN (sumN (fun m => odR t m n * fiR P v n (chR P m n)) i + odR t i n * fiR P v n (chR P i n))
        rw [e1, lN_add])
    (fun fu s hI => by
      obtain ⟨x, g⟩ := s
      refine ⟨(x, g), ?_, hI⟩
      show zl_X11_rain_89 (nI v) (nI n) (nI t) (fu + 1) x (nI (2 ^ n)) g = _
      conv => lhs; unfold zl_X11_rain_89
      rw [p1, if_pos (by rw [zi_le (by omega) (by omega)]; omega)])
  obtain ⟨x, g⟩ := r
  obtain ⟨k1, k2⟩ := h2
  change x = _ at k1
  subst k1
  exact ⟨g, h1, k2⟩
theorem m_rainB {n t : Nat} (hn : n ≤ 7) (ht : t < 100) : zl_X11_rain_63 (nI n) (nI t) zFU 1 0 = some (lN (t ^ n)) := by
  obtain ⟨r, h1, h2⟩ := zl_inv0 (fun fu (s : Int64) i => zl_X11_rain_63 (nI n) (nI t) fu s i) (fun i s => s = lN (t ^ i)) (fun s => s = lN (t ^ n)) n (by omega) 1 rfl
    (fun fu i s hi hI => by
      refine Or.inr ⟨s * (nI t).toInt64, ?_, ?_⟩
      · show zl_X11_rain_63 (nI n) (nI t) (fu + 1) s (nI i) = _
        conv => lhs; unfold zl_X11_rain_63
        rw [if_neg (by rw [zi_le (by omega) (by omega)]; omega), zi_one]
      · rw [hI, nI_l (by omega), lN_mul, Nat.pow_succ])
    (fun fu s hI => by
      refine ⟨s, ?_, hI⟩
      show zl_X11_rain_63 (nI n) (nI t) (fu + 1) s (nI n) = _
      conv => lhs; unfold zl_X11_rain_63
      rw [if_pos (by rw [zi_le (by omega) (by omega)]; omega)])
  rw [← h2]; exact h1
theorem ok_rain (x1 x2 x3 x4 : Int32) : zOKL (zf_X10_rain x1 x2 x3 x4) (zf_X11_rain x1 x2 x3 x4) := by
  refine zOKL_ask2 (fun h h' P I S hC hM => ?_)
  obtain ⟨c1, c2, -⟩ := hC
  have h7 := c1.2.1
  have hdy := c1.2.2.2.2.2.2
  obtain ⟨t1, t2⟩ := m_thr hM.1
  unfold zf_X10_rain zf_X11_rain
  simp only [zbs]
  generalize zc_ui h' 60 17 0 = g at t1 t2
  have no : ∃ r h1 h2, (some ((1000000001 : Int64), h)) = some (r, h1) ∧ zEC h h1 ∧ (some ((1000000001 : Int64), g)) = some (r, h2) ∧ RM h2 P ∧ zEM h' h2 := ⟨_, _, _, rfl, zEC.rf, rfl, t1, t2⟩
  rcases zr x1 (N := nV P) (by omega) with hx | ⟨v, hv, rfl⟩
  · rw [c_isThere_out c2 hx, m_isOne_out t1 h7 hx]
    exact no
  rw [c_isThere_in c2 c1 hv, m_isOne_in t1 h7 hv]
  have o2 : (2 : Int32).toInt = 2 := by decide
  have o7 : (7 : Int32).toInt = 7 := by decide
  have o20 : (20 : Int32).toInt = 20 := by decide
  simp only [zbs, z10, if_false]
  rw [m_in32 x2 0 7 (by decide) (by decide), m_in32 x3 2 20 (by decide) (by decide), m_in32 x4 0 1 (by decide) (by decide), c_isPart]
  simp only [zbs]
  by_cases k1 : x2 < 0
  · rw [if_pos k1, if_neg (show ¬ (0 ≤ x2 ∧ x2 ≤ 7) from fun q => zi_nle.mp q.1 k1)]
    exact no
  rw [if_neg k1]
  by_cases k2 : (7 : Int32) < x2
  · rw [if_pos k2, if_neg (show ¬ (0 ≤ x2 ∧ x2 ≤ 7) from fun q => zi_nle.mp q.2 k2)]
    exact no
  rw [if_neg k2, if_pos (show 0 ≤ x2 ∧ x2 ≤ 7 from ⟨zi_nle.mpr k1, zi_nle.mpr k2⟩)]
  simp only [z10, if_false]
  by_cases k3 : x3 < (2 : Int32)
  · rw [if_pos k3, if_neg (show ¬ (2 ≤ x3 ∧ x3 ≤ 20) from fun q => zi_nle.mp q.1 k3)]
    exact no
  rw [if_neg k3]
  by_cases k4 : (20 : Int32) < x3
  · rw [if_pos k4, if_neg (show ¬ (2 ≤ x3 ∧ x3 ≤ 20) from fun q => zi_nle.mp q.2 k4)]
    exact no
  rw [if_neg k4, if_pos (show 2 ≤ x3 ∧ x3 ≤ 20 from ⟨zi_nle.mpr k3, zi_nle.mpr k4⟩)]
  simp only [z10, if_false]
  by_cases k5 : 0 ≤ x4 ∧ x4 ≤ 1
  rotate_left
  · rw [if_neg k5]
    exact no
  rw [if_pos k5]
  simp only [z10, if_false]
  obtain ⟨u, hu, rfl⟩ := part_of k5
  rw [zi_ltT, zi_T0] at k1
  rw [zi_ltT, o7] at k2
  rw [zi_ltT, o2] at k3
  rw [zi_ltT, o20] at k4
  obtain ⟨n, hn, rfl⟩ := zi_nat (x := x2) (L := 7) (by omega) (by omega) (by omega)
  obtain ⟨t, ht, rfl⟩ := zi_nat (x := x3) (L := 20) (by omega) (by omega) (by omega)
  rw [nI_toInt (by omega)] at k3
  have ht2 : 2 ≤ t := by omega
  obtain ⟨g1, a1, a2, a3, a4⟩ := c_spread (n := n) (t := t) c1 c2 hn (by omega) (by omega)
  have j1 : RC g1 16 P := RC_of c2 (fun a _ _ => by rw [a4])
  have j2 : zEC h g1 := ⟨fun a _ => by rw [a4], a3⟩
  obtain ⟨g2, b1, b2, b3, b4⟩ := c_mind j1 c1
  have b5 : g2.1 25 14 = nI (dy P) := b2.2.2.2.2.2.2.2
  have b6 : RC (zc_ui g2 25 14 (nI (dy P + n))) 25 (setCh P (ch P) (dy P + n)) := RC_dy b2
  obtain ⟨g3, d1, d2⟩ := c_rainL (h := h) (n := n) (v := v) c1 hn hv b6 (w := (cwR P t n).2) (fun p hp => by show g2.2 5 p = _; rw [b4.2]; exact a2 p hp) ((j2.tr b4.C).tr (zEC.u (by omega)))
  obtain ⟨q1, p1, p2, p3, p4⟩ := m_think t1
  obtain ⟨q2, e1, e2⟩ := m_rainL (h := h') (v := v) (n := n) (t := t) c1 (by omega) hn (by omega) (by omega) ⟨p2, p3, t2.tr p4.M⟩
  have hcc := cw_cc P t n
  have hpos : 0 < t ^ n := Nat.pow_pos (by omega)
  have hle : t ^ n ≤ 20 ^ 7 := Nat.le_trans (Nat.pow_le_pow_left ht n) (Nat.pow_le_pow_right (by omega) hn)
  have hS := en_cs c1 t (by omega) n (fiR P v n)
  have hS2 : enR P t n (fiR P v n) ≤ 1 * t ^ n := by
    rw [← enR_const P t 1 (by omega) n]
    exact enR_mono P t n (fun c => by unfold fiR; split <;> omega)
  have hc0 : 0 < ccR P t n := by
    rcases Nat.eq_zero_or_pos (ccR P t n) with q | q
    · rw [q, Nat.mul_zero] at hcc; omega
    · exact q
  have hb0 : 0 < (cwR P t n).1 := by
    rcases Nat.eq_zero_or_pos (cwR P t n).1 with q | q
    · rw [q, Nat.zero_mul] at hcc; omega
    · exact q
  rw [Nat.mul_comm] at hcc
  obtain ⟨r, z1, z2⟩ := part_eq (a := csR P t n (fiR P v n)) (b := (cwR P t n).1) (c := ccR P t n) (u := u) hc0 (by rw [← hS]; omega) (by rw [hcc]; omega) hb0 hu
  rw [← hS, hcc] at z2
  rw [a1, p1, m_rainB hn (by omega)]
  simp only [zbs]
  rw [b1, e1]
  simp only [zbs]
  rw [b5, nI_add, d2, z2]
  simp only [zbs]
  rw [show (sumN (fun p => (cwR P t n).2 p * fiR P v n p) 12) = csR P t n (fiR P v n) from rfl, z1]
  exact ⟨_, _, _, rfl, d1, rfl, e2.1, e2.2.2⟩

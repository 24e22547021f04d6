theorem MI_thr {h : zHp} {P : zP} {I : Option zP} {S : zS} (t : Int32) (hM : MI h P I S) : MI (zc_ui h 60 17 t) P I S ∧ zEM h (zc_ui h 60 17 t) := by
  have e : zEM h (zc_ui h 60 17 t) := zEM.u (by unfold zK; omega) (by omega)
  exact ⟨e.MI hM (RM_u hM.1 (by omega)), e⟩
theorem MI_80 {h : zHp} {P : zP} {I : Option zP} {S : zS} (v : Int64) (hM : MI h P I S) : MI (zc_ul h 80 0 v) P I S := by
  obtain ⟨m1, m2, m3, m4⟩ := hM
  refine ⟨m1, m2, m3, fun d hd => ?_⟩
  have q := m4 d hd
  refine ⟨q.1, q.2.1, q.2.2.1, q.2.2.2.1, fun i hi => ?_⟩
  rw [zu_l, if_neg (by omega)]
  exact q.2.2.2.2 i hi
theorem CI_80 {h : zHp} {P : zP} {I : Option zP} {S : zS} (v : Int64) (hC : CI h P I S) : CI (zc_ul h 80 0 v) P I S := hC
/-- the reference's element, by what it throws -/
theorem m_el {h : zHp} {d i : Int32} {r1 t : Int32} (hw : zf_X11_wrongRow d h = some r1) (ht : (if r1 = (-1 : Int32) then some (1 : Int32) else (if r1 < 0 then some (2 : Int32) else (if zc_ix d 8 then ((zf_X11_in i.toInt64 (0 : Int64) (((h.1 70 d.toNatClampNeg) - (1 : Int32)).toInt64)).bind (fun r3 => (if r3 = 0 then some (2 : Int32) else some (0 : Int32)))) else none))) = some t) : zf_X11_element d i h = (if t ≤ 0 then (if zc_ix (((100 : Int32) * d) + i) 800 then some ((h.2 71 (((100 : Int32) * d) + i).toNatClampNeg), zc_ui h 60 17 t) else none) else some ((0 : Int64), zc_ui h 60 17 t)) := by
  unfold zf_X11_element
  rw [hw]
  simp only [zbs]
  rw [ht]
  simp only [zbs]
  rw [show (zc_ui h 60 17 t).1 60 17 = t by rw [zu_i, if_pos ⟨rfl, rfl⟩]]
  rfl
theorem ok_element (x1 x2 : Int32) : ∀ h, zINV h → ∃ r b h2, ze_el x1 x2 h = some r ∧ zf_X11_element x1 x2 (ze_res r h).2 = some (b, h2) ∧ h2.1 60 17 = (ze_res r h).1 ∧ ((ze_res r h).1 = 0 → h2.2 80 0 = b) ∧ zINV h2 := by
  intro h hI
  obtain ⟨P, I, S, hC, hM⟩ := hI
  have hW := hC.2.2.2.2.1
  have hS := hC.2.2.2.2.2
  have hT := hM.2.2.2
  have thr : ∀ t : Int32, (zc_ui h 60 17 t).1 60 17 = t := fun t => by rw [zu_i, if_pos ⟨rfl, rfl⟩]
  have no : ∀ (E : String) (t : Int32), (if E = zIAE then (1 : Int32) else 2) = t → ¬ t ≤ 0 → zf_X11_element x1 x2 h = (if t ≤ 0 then (if zc_ix (((100 : Int32) * x1) + x2) 800 then some ((h.2 71 (((100 : Int32) * x1) + x2).toNatClampNeg), zc_ui h 60 17 t) else none) else some ((0 : Int64), zc_ui h 60 17 t)) → ∃ b h2, zf_X11_element x1 x2 (ze_res (.inr E) h).2 = some (b, h2) ∧ h2.1 60 17 = (ze_res (.inr E) h).1 ∧ ((ze_res (.inr E) h).1 = 0 → h2.2 80 0 = b) ∧ zINV h2 := by
    intro E t e1 e2 e3
    rw [if_neg e2] at e3
    refine ⟨0, zc_ui h 60 17 t, e3, ?_, ?_, P, I, S, (MI_thr t hM).2.F.CI hC, (MI_thr t hM).1⟩
    · rw [thr]; exact e1.symm
    · intro q
      have q2 : t = 0 := e1.symm.trans q
      exact absurd (by rw [q2]; decide) e2
  unfold ze_el
  rcases zr x1 (N := 8) (by omega) with hx | ⟨d, hd, rfl⟩
  · rw [c_isShelf_out hx]
    obtain ⟨b, h2, q⟩ := no zIAE 1 rfl (by decide) (m_el (m_ref_out hx) (if_pos rfl))
    exact ⟨.inr zIAE, b, h2, rfl, q⟩
  have w := hW d hd
  have wL : sL S d ≤ 100 := w.2.2.2.2
  have e := hS d hd
  have f := hT d hd
  rw [c_isShelf_in hd, c_ref_in hW hS hd]
  simp only [zbs, z10, if_false]
  by_cases k : (S d).1 = 2
  rotate_left
  · have hn := refI_n w.1 k
    rw [if_neg (fun q => by rw [q] at hn; exact absurd hn (by decide))]
    have hne : ¬ refI (S d).1 = -1 := by
      have c : (S d).1 = 0 ∨ (S d).1 = 1 := by have := w.1; omega
      rcases c with c | c <;> rw [c] <;> decide
    obtain ⟨b, h2, q⟩ := no zISE 2 rfl (by decide) (m_el (m_ref_in hW hT hd) (by rw [if_neg hne, if_pos hn]))
    exact ⟨.inr zISE, b, h2, rfl, q⟩
  rw [k, refI_2, if_pos rfl, if_pos (zi_ix hd (show 8 < 2000000000 by omega))]
  rw [zi_clamp (show d < 2000000000 by omega), show 43 + 1 + 2 * d = 44 + 2 * d from rfl, c_has (L := sL S d) e.2.2.2.1 wL, show (1 : Int32).toInt = 1 by decide]
  simp only [zbs]
  have mw : zf_X11_wrongRow (nI d) h = some 0 := by rw [m_ref_in hW hT hd, k, refI_2]
  have mi : zf_X11_in x2.toInt64 (0 : Int64) (((h.1 70 (nI d).toNatClampNeg) - (1 : Int32)).toInt64) = some (if 0 ≤ x2.toInt ∧ x2.toInt + 1 ≤ sL S d then 1 else 0) := by
    rw [zi_clamp (show d < 2000000000 by omega), f.2.2.2.1]; exact m_inL wL
  by_cases c : 0 ≤ x2.toInt ∧ x2.toInt + 1 ≤ sL S d
  rotate_left
  · rw [if_neg (show ¬ (0 ≤ x2.toInt ∧ (0 : Int) ≤ 1 ∧ x2.toInt + 1 ≤ sL S d) by omega), if_pos rfl]
    obtain ⟨b, h2, q⟩ := no zISE 2 rfl (by decide) (m_el mw (by rw [if_neg (by decide), if_neg (by decide), if_pos (zi_ix hd (show 8 < 2000000000 by omega)), mi, if_neg c]; rfl))
    exact ⟨.inr zISE, b, h2, rfl, q⟩
  rw [if_pos (show 0 ≤ x2.toInt ∧ (0 : Int) ≤ 1 ∧ x2.toInt + 1 ≤ sL S d by omega), if_neg (show ¬ (1 : Int32) = 0 by decide)]
  obtain ⟨i, hi, rfl⟩ := zi_nat (L := 99) c.1 (by omega) (by omega)
  have hi' : i < 100 := by omega
  obtain ⟨r1, r2⟩ := row_ix hd hi'
  rw [if_pos (zi_ix hi' (show 100 < 2000000000 by omega)), zi_clamp (show i < 2000000000 by omega)]
  generalize hv : (h.1 (44 + 2 * d + 1) i).toInt64 = v
  have hM8 := MI_80 v hM
  have hT8 := hM8.2.2.2
  have f8 := hT8 d hd
  have mw8 : zf_X11_wrongRow (nI d) (zc_ul h 80 0 v) = some 0 := by rw [m_ref_in hW hT8 hd, k, refI_2]
  have mi8 : zf_X11_in (nI i).toInt64 (0 : Int64) ((((zc_ul h 80 0 v).1 70 (nI d).toNatClampNeg) - (1 : Int32)).toInt64) = some 1 := by
    rw [zi_clamp (show d < 2000000000 by omega), f8.2.2.2.1]
    exact (m_inL wL).trans (by rw [if_pos c])
  have m8 := m_el (t := 0) mw8 (by rw [if_neg (by decide), if_neg (by decide), if_pos (zi_ix hd (show 8 < 2000000000 by omega)), mi8]; rfl)
  rw [if_pos (by decide), r1, if_pos (zi_ix r2 (show 800 < 2000000000 by omega)), zi_clamp (show 100 * d + i < 2000000000 by omega), f8.2.2.2.2 i hi', ← e.2.2.2.2 i hi', hv] at m8
  refine ⟨.inl v, v, _, rfl, m8, ?_, fun _ => ?_, P, I, S, (MI_thr 0 hM8).2.F.CI (CI_80 v hC), (MI_thr 0 hM8).1⟩
  · rw [zu_i, if_pos ⟨rfl, rfl⟩]; rfl
  · show (zc_ul h 80 0 v).2 80 0 = v
    rw [zu_l, if_pos ⟨rfl, rfl⟩]

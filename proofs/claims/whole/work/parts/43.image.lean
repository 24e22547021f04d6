/-! image, restore, cost -/
theorem ok_image : zOK zf_X10_image zf_X11_image := by
  refine zOK_upd (fun h h' P I S hC hM => ?_)
  obtain ⟨c1, c2, c3, c4, c5, c6⟩ := hC
  obtain ⟨t1, t2⟩ := m_thr hM.1
  obtain ⟨g1, a1, a2, a3⟩ := c_become (h := h) (p := 34) (x := 16) (P := P) (by omega) (by omega) (by omega) c2 c1.2.1
  have r1 : RM (zc_ui (zc_ui h' 60 17 0) 60 27 1) P := RM_u t1 (by omega)
  obtain ⟨k, p1, p2, p3, p4⟩ := m_take (Or.inr rfl) r1
  have u : ∀ a, a ≠ 0 → (zc_ui g1 0 4 1).1 a = g1.1 a := fun a ha => by funext j; rw [zu_i, if_neg (by omega)]
  have s1 : RC (zc_ui g1 0 4 1) 16 P := RC_of c2 (fun a h1 h2 => by rw [u a (by omega), a3.1 a (by omega)])
  have s2 : RC (zc_ui g1 0 4 1) 34 P := RC_of a2 (fun a h1 h2 => u a (by omega))
  have v : ∀ a, a ≠ 60 → a ≠ 76 → k.1 a = h'.1 a := fun a h1 h2 => by
    rw [p4.1 a h1 h2]
    funext j
    rw [zu_i, if_neg (by omega), zu_i, if_neg (by omega)]
  have v2 : k.2 = h'.2 := by rw [p4.2.2]; rfl
  refine ⟨nI (dy P), zc_ui g1 0 4 1, k, P, some P, S, ?_, ⟨c1, s1, ?_, fun Q hQ => ?_, c5, fun d hd => ?_⟩, fun a ha => ⟨?_, ?_⟩, ?_, ⟨p2, ?_, fun Q hQ => ?_, fun d hd => ?_⟩, fun a ha => ⟨?_, ?_⟩⟩
  · unfold zf_X10_image
    rw [a1]
    simp only [zbs]
    rw [s1.2.2.2.2.2.2.2]
  · rw [zu_i, if_pos ⟨rfl, rfl⟩]; rfl
  · obtain rfl := Option.some.inj hQ
    exact ⟨c1, s2⟩
  · rw [u (44 + 2 * d) (by omega), u (44 + 2 * d + 1) (by omega), a3.1 (44 + 2 * d) (by omega), a3.1 (44 + 2 * d + 1) (by omega)]; exact c6 d hd
  · rw [u a (by omega), a3.1 a (by omega)]
  · show g1.2 a = _
    rw [a3.2]
  · unfold zf_X11_image
    simp only [zbs]
    rw [p1]
    simp only [zbs]
    rw [p2.2.2.2.2.2.2]
  · rw [p4.2.1 27 (by omega) (by omega) (by omega), zu_i, if_pos ⟨rfl, rfl⟩]; rfl
  · obtain rfl := Option.some.inj hQ
    exact p3
  · rw [v 66 (by omega) (by omega), v 67 (by omega) (by omega), v 68 (by omega) (by omega), v 69 (by omega) (by omega), v 70 (by omega) (by omega), v2]; exact hM.2.2.2 d hd
  · exact v a (by omega) (by omega)
  · rw [v2]
theorem ok_restore : zOK zf_X10_restore zf_X11_restore := by
  refine zOK_upd (fun h h' P I S hC hM => ?_)
  obtain ⟨t1, t2⟩ := m_thr hM.1
  have e1 := hC.2.2.1
  have e2 : (zc_ui h' 60 17 0).1 60 27 = (if I.isSome then 1 else 0) := by rw [zu_i, if_neg (by omega)]; exact hM.2.1
  unfold zf_X10_restore zf_X11_restore
  simp only [zbs]
  rw [e1, e2]
  cases hI : I with
  | none =>
    subst hI
    refine ⟨-3, h, _, P, none, S, rfl, hC, fun _ _ => ⟨rfl, rfl⟩, rfl, t2.MI hM t1, t2.F⟩
  | some Q =>
    subst hI
    obtain ⟨q1, q2⟩ := hC.2.2.2.1 Q rfl
    obtain ⟨g1, a1, a2, a3⟩ := c_become (h := h) (p := 16) (x := 34) (P := Q) (by omega) (by omega) (by omega) q2 q1.2.1
    have hK : KA (zc_ui h' 60 17 0) 76 Q := KA_of (hM.2.2.1 Q rfl) (by funext j; rw [zu_i, if_neg (by omega)])
    obtain ⟨k, p1, p2, p3⟩ := m_put (Or.inr rfl) hK
    obtain ⟨b1, b2⟩ := CI_now hC a2 a3 q1
    refine ⟨nI (dy Q), g1, k, Q, some Q, S, ?_, b1, b2, ?_, (t2.tr p3.M).MI hM p2, (t2.tr p3.M).F⟩
    · simp only [Option.isSome_some, if_true, z10, if_false]
      rw [a1, zbs, a2.2.2.2.2.2.2.2]
    · simp only [Option.isSome_some, if_true, z10, if_false]
      rw [p1, zbs, p2.2.2.2.2.2.2]
def rfkI (n : Nat) : Int32 := if n = 0 then -11 else if n = 2 then -12 else 0
theorem rfkI_1 : rfkI 1 = 0 := by decide
theorem rfkI_n {n : Nat} (h : n ≤ 2) (h2 : n ≠ 1) : rfkI n < 0 := by
  have : n = 0 ∨ n = 2 := by omega
  rcases this with rfl | rfl <;> decide
theorem c_rfk_out {h : zHp} {x : Int32} (hx : x < 0 ∨ nI 8 ≤ x) : zf_X10_refuseKind x h = some (-1) := by
  unfold zf_X10_refuseKind zf_X10_refuseAllBut
  rw [c_isShelf_out hx]
  rfl
theorem m_rfk_out {h : zHp} {x : Int32} (hx : x < 0 ∨ nI 8 ≤ x) : zf_X11_wrongKept x h = some (-1) := by
  unfold zf_X11_wrongKept
  rw [m_in_out (N := 8) (by omega) (by omega) (by decide) hx]
  rfl
theorem c_rfk_in {h : zHp} {S : zS} {d : Nat} (hW : zSW S) (hS : SC h S) (hd : d < 8) : zf_X10_refuseKind (nI d) h = some (rfkI (S d).1) := by
  have e := (hS d hd).1
  have w := (hW d hd).1
  unfold zf_X10_refuseKind zf_X10_refuseAllBut
  rw [c_isShelf_in hd]
  simp only [zbs, z10, if_false, if_pos (zi_ix hd (show 8 < 2000000000 by omega)), zi_clamp (show d < 2000000000 by omega), show 43 + 1 + 2 * d = 44 + 2 * d from rfl, e]
  have c : (S d).1 = 0 ∨ (S d).1 = 1 ∨ (S d).1 = 2 := by omega
  rcases c with c | c | c <;> rw [c] <;> rfl
theorem m_rfk_in {h : zHp} {S : zS} {d : Nat} (hW : zSW S) (hS : SM h S) (hd : d < 8) : zf_X11_wrongKept (nI d) h = some (rfkI (S d).1) := by
  have e := (hS d hd).1
  have w := (hW d hd).1
  unfold zf_X11_wrongKept
  rw [m_in_in (N := 8) (by omega) hd (by decide)]
  simp only [zbs, z10, if_false, if_pos (zi_ix hd (show 8 < 2000000000 by omega)), zi_clamp (show d < 2000000000 by omega), e]
  have c : (S d).1 = 0 ∨ (S d).1 = 1 ∨ (S d).1 = 2 := by omega
  rcases c with c | c | c <;> rw [c] <;> rfl
theorem cost_eq {k f : Nat} (hk : k < 8) (hf : f < 10) : ∃ r, zv_costs k (nI f) = some r ∧ zf_X11_costOf (nI k) (nI f) = some r := by
  have key : ∀ k, k < 8 → ∀ f, f < 10 → zv_costs k (nI f) = zf_X11_costOf (nI k) (nI f) ∧ (zv_costs k (nI f)).isSome = true := by decide +kernel
  obtain ⟨e1, e2⟩ := key k hk f hf
  obtain ⟨r, hr⟩ := Option.isSome_iff_exists.mp e2
  exact ⟨r, hr, by rw [← e1]; exact hr⟩
theorem ok_cost (x1 : Int32) : zOKp (zf_X10_cost x1) (zf_X11_cost x1) := by
  refine zOKp_ask2 (fun h h' P I S hC hM => ?_)
  obtain ⟨c1, c2, -, -, c5, c6⟩ := hC
  obtain ⟨t1, t2⟩ := m_thr hM.1
  have t3 := m_thrS hM.2.2.2
  unfold zf_X10_cost zf_X11_cost
  simp only [zbs]
  rcases zr x1 (N := 8) (by omega) with hx | ⟨d, hd, rfl⟩
  · rw [c_rfk_out hx, m_rfk_out hx]
    exact ⟨_, _, rfl, rfl, t1, t2⟩
  rw [c_rfk_in c5 c6 hd, m_rfk_in c5 t3 hd]
  simp only [zbs]
  by_cases k : (S d).1 = 1
  · obtain ⟨e1, e2⟩ := (c6 d hd).2.1 k
    obtain ⟨f1, f2⟩ := (t3 d hd).2.1 k
    have w := c5 d hd
    obtain ⟨r, y1, y2⟩ := cost_eq w.2.1 w.2.2.1
    rw [k, rfkI_1, if_pos rfl, if_pos (show (0 : Int32) ≤ 0 by decide)]
    simp only [if_pos (zi_ix hd (show 8 < 2000000000 by omega)), zi_clamp (show d < 2000000000 by omega), show 43 + 1 + 2 * d = 44 + 2 * d from rfl, e1, e2, f1, f2, if_pos (zi_ix w.2.1 (show 8 < 2000000000 by omega)), zi_clamp (show (S d).2.1 < 2000000000 by omega)]
    rw [y1, y2]
    exact ⟨_, _, rfl, rfl, t1, t2⟩
  · have hn := rfkI_n (c5 d hd).1 k
    rw [if_neg (fun q => by rw [q] at hn; exact absurd hn (by decide)), if_neg (fun q => zi_nle.mp q hn)]
    exact ⟨_, _, rfl, rfl, t1, t2⟩

def roundP (P : zP) (n : Nat) : Bool := decide (n ≠ 0 ∧ ch (daysN n P) = ch P)
theorem c_roundL {h g0 : zHp} {P : zP} (c1 : zWF 999 P) (a2 : RC g0 25 P) (a3 : RC g0 16 P) (a4 : zEC h g0) : ∃ g, zEC h g ∧ (zl_X10_round_13 zFU (nI 1) g0).bind (Sum.elim (fun r => some r) (fun v => some (-4, v))) = some (fstI (roundP P) 61, g) := by
  have hch : ∀ n, ch (daysN n P) = ch (movsN n P) := fun n => (eqv_movs n P).2.2.2.2.2.1
  obtain ⟨g1, i1, u1, u2⟩ := fst_loopC (fun fu s i => zl_X10_round_13 fu i s) (roundP P) 61 (by omega) (fun i g => 1 ≤ i ∧ i ≤ 62 ∧ RC g 25 (movsN (i - 1) P) ∧ RC g 16 P ∧ zEC h g) 1 (by omega) (fun j hj => by rw [show j = 0 by omega]; rfl) g0 ⟨by omega, by omega, a2, a3, a4⟩
    (fun fu i g hi hJ hp => by
      obtain ⟨hp1, hp2⟩ := of_decide_eq_true hp
      obtain ⟨i, rfl⟩ : ∃ k, i = k + 1 := ⟨i - 1, by omega⟩
      obtain ⟨g', b1, b2, b3⟩ := c_moveChair hJ.2.2.1 (movsN_wf c1) (by omega)
      have b4 : RC g' 16 P := RC_of hJ.2.2.2.1 (fun a h1 h2 => b3.1 a (by omega))
      have b5 : ch (movN false (movsN (i + 1 - 1) P)) = ch P := by rw [← hp2, hch]; rfl
      refine ⟨g', ?_, i + 2, by omega, by omega, b2, b4, hJ.2.2.2.2.tr b3.C⟩
      show zl_X10_round_13 (fu + 1) (nI (i + 1)) g = _
      conv => lhs; unfold zl_X10_round_13
      rw [if_neg (by rw [show (60 : Int32) = nI 60 by decide, zi_lt (by omega) (by omega)]; omega), b1]
      simp only [zbs]
      rw [b2.2.2.2.1, b4.2.2.2.1, b5, if_pos rfl])
    (fun fu i g hi hJ hp => by
      have hp2 := of_decide_eq_false hp
      have hne : ch (daysN i P) ≠ ch P := fun q2 => hp2 ⟨by omega, q2⟩
      obtain ⟨i, rfl⟩ : ∃ k, i = k + 1 := ⟨i - 1, by omega⟩
      obtain ⟨g', b1, b2, b3⟩ := c_moveChair hJ.2.2.1 (movsN_wf c1) (by omega)
      have b4 : RC g' 16 P := RC_of hJ.2.2.2.1 (fun a h1 h2 => b3.1 a (by omega))
      have b5 : ¬ ch (movN false (movsN (i + 1 - 1) P)) = ch P := by have := hne; rw [hch] at this; exact this
      have l1 : ch (movN false (movsN (i + 1 - 1) P)) < 12 := (movN_wf (rain := false) (movsN_wf (n := i + 1 - 1) c1)).2.2.1
      have l2 : ch P < 12 := c1.2.2.1
      refine ⟨g', ?_, by omega, by omega, b2, b4, hJ.2.2.2.2.tr b3.C⟩
      show zl_X10_round_13 (fu + 1) (nI (i + 1)) g = zl_X10_round_13 fu (nI (i + 1 + 1)) g'
      conv => lhs; unfold zl_X10_round_13
      rw [if_neg (by rw [show (60 : Int32) = nI 60 by decide, zi_lt (by omega) (by omega)]; omega), b1]
      simp only [zbs]
      rw [b2.2.2.2.1, b4.2.2.2.1, if_neg (by rw [zi_eq (by omega) (by omega)]; exact b5), zi_one])
    (fun fu g hJ => by
      show zl_X10_round_13 (fu + 1) (nI 61) g = _
      conv => lhs; unfold zl_X10_round_13
      rw [if_pos (by decide)])
  exact ⟨g1, u1.2.2.2.2, u2⟩
theorem m_roundL {h' h1 k1 : zHp} {P : zP} (c1 : zWF 999 P) (hR : RM h1 P) (p2 : RM k1 P) (p3 : KA k1 75 P) (p4 : zEM h' k1) : ∃ g, (KA g 75 P ∧ zEM h' g) ∧ zl_X11_round_19 h1 zFU (-4) (nI 1) k1 = some (fstI (roundP P) 61, g) := by
  exact fst_loopM (fun fu s i => zl_X11_round_19 h1 fu s.1 i s.2) (roundP P) 61 (by omega) (fun g => KA g 75 P ∧ zEM h' g) (fun i g => 1 ≤ i ∧ i ≤ 62 ∧ RM g (daysN (i - 1) P) ∧ KA g 75 P ∧ zEM h' g) (fun i g hK => hK.2.2.2) 1 (by omega) (fun j hj => by rw [show j = 0 by omega]; rfl) k1 ⟨by omega, by omega, p2, p3, p4⟩
    (fun fu i f g hi hf => by
      show zl_X11_round_19 h1 (fu + 1) f (nI i) g = _
      conv => lhs; unfold zl_X11_round_19
      rw [if_neg (by rw [show (60 : Int32) = nI 60 by decide, zi_lt (by omega) (by omega)]; omega), if_pos hf])
    (fun fu i f g hi hf hK => by
      obtain ⟨i, rfl⟩ : ∃ k, i = k + 1 := ⟨i - 1, by omega⟩
      obtain ⟨g', b1, b2, b3⟩ := m_dayBy hK.2.2.1 (daysN_wf c1) (by omega) false
      have b2' : RM g' (daysN (i + 1) P) := b2
      have l1 : ch (daysN (i + 1) P) < 12 := (daysN_wf (n := i + 1) c1).2.2.1
      have l2 : ch P < 12 := c1.2.2.1
      refine ⟨g', ?_, by omega, by omega, b2, KA_m hK.2.2.2.1 b3, hK.2.2.2.2.tr b3.M⟩
      show zl_X11_round_19 h1 (fu + 1) f (nI (i + 1)) g = zl_X11_round_19 h1 fu (if roundP P (i + 1) = true then nI (i + 1) else -4) (nI (i + 1 + 1)) g'
      conv => lhs; unfold zl_X11_round_19
      rw [if_neg (by rw [show (60 : Int32) = nI 60 by decide, zi_lt (by omega) (by omega)]; omega), if_neg hf, show zf_X11_dayBy 0 g = some g' from b1]
      simp only [zbs]
      rw [b2'.2.2.1, hR.2.2.1, zi_one]
      by_cases c : ch (daysN (i + 1) P) = ch P
      · rw [c, if_pos rfl, show roundP P (i + 1) = true by simp [roundP, c], if_pos rfl]
      · rw [if_neg (by rw [zi_eq (by omega) (by omega)]; exact c), show roundP P (i + 1) = false by simp [roundP, c]]
        rfl)
    (fun fu f g => by
      show zl_X11_round_19 h1 (fu + 1) f (nI 61) g = _
      conv => lhs; unfold zl_X11_round_19
      rw [if_pos (by decide)])
theorem ok_round : zOK zf_X10_round zf_X11_round := by
  refine zOK_ask2 (fun h h' P I S hC hM => ?_)
  obtain ⟨c1, c2, -⟩ := hC
  obtain ⟨t1, t2⟩ := m_thr hM.1
  unfold zf_X10_round zf_X11_round
  simp only [zbs]
  obtain ⟨g0, a1, a2, a3, a4⟩ := c_mind c2 c1
  obtain ⟨k1, p1, p2, p3, p4⟩ := m_think t1
  obtain ⟨g1, u1, u2⟩ := c_roundL c1 a2 a3 a4.C
  obtain ⟨g2, v1, v2⟩ := m_roundL c1 t1 p2 p3 (t2.tr p4.M)
  obtain ⟨k3, s1, s2, s3⟩ := m_again v1.1
  rw [a1, p1]
  simp only [zbs]
  rw [zi_lit1, u2, v2]
  simp only [zbs]
  rw [s1]
  exact ⟨_, _, _, rfl, u1, rfl, s2, v1.2.tr s3.M⟩
/-! hungry -/
def hunP (P : zP) (v n : Nat) : Bool := decide (sk (daysN n P) v = 0)
theorem zi_sk0 {n : Nat} (h : n < 2000000000) : (nI n = 0) ↔ n = 0 := by rw [zi_lit0, zi_eq h (by omega)]
theorem c_hungryL {h g0 : zHp} {P : zP} {v : Nat} (c1 : zWF 999 P) (hv : v < nV P) (a2 : RC g0 25 P) (a4 : zEC h g0) : ∃ g, zEC h g ∧ (zl_X10_hungry_31 (nI v) zFU (nI 0) g0).bind (Sum.elim (fun r => some r) (fun v => some (-4, v))) = some (fstI (hunP P v) 61, g) := by
  have h7 := c1.2.1
  have hv7 : v < 7 := by omega
  have hneg : ¬ nI v < 0 := nI_pos (by omega)
  obtain ⟨g1, i1, u1, u2⟩ := fst_loopC (fun fu s i => zl_X10_hungry_31 (nI v) fu i s) (hunP P v) 61 (by omega) (fun i g => i ≤ 61 ∧ RC g 25 (daysN i P) ∧ zEC h g) 0 (by omega) (fun j hj => absurd hj (by omega)) g0 ⟨by omega, a2, a4⟩
    (fun fu i g hi hJ hp => by
      have hp2 := of_decide_eq_true hp
      refine ⟨g, ?_, i, hJ⟩
      show zl_X10_hungry_31 (nI v) (fu + 1) (nI i) g = _
      conv => lhs; unfold zl_X10_hungry_31
      rw [if_neg (by rw [show (60 : Int32) = nI 60 by decide, zi_lt (by omega) (by omega)]; omega)]
      simp only [if_neg hneg, zbs, if_pos (zi_ix hv7 (show 7 < 2000000000 by omega)), zi_clamp (show v < 2000000000 by omega)]
      rw [(hJ.2.1.1 v hv7).2.2.2.2, hp2]
      rfl)
    (fun fu i g hi hJ hp => by
      have hp2 := of_decide_eq_false hp
      have hW := daysN_wf (n := i) c1
      have hs := (hW.1 v hv7).2.2.2.2
      obtain ⟨g', b1, b2, b3⟩ := c_goDays (n := 1) hJ.2.1 hW (by omega) (by omega)
      refine ⟨g', ?_, by omega, b2, hJ.2.2.tr b3.C⟩
      show zl_X10_hungry_31 (nI v) (fu + 1) (nI i) g = zl_X10_hungry_31 (nI v) fu (nI (i + 1)) g'
      conv => lhs; unfold zl_X10_hungry_31
      rw [if_neg (by rw [show (60 : Int32) = nI 60 by decide, zi_lt (by omega) (by omega)]; omega)]
      simp only [if_neg hneg, zbs, if_pos (zi_ix hv7 (show 7 < 2000000000 by omega)), zi_clamp (show v < 2000000000 by omega)]
      rw [(hJ.2.1.1 v hv7).2.2.2.2, if_neg (show ¬ nI (sk (daysN i P) v) = 0 by rw [zi_sk0 (by omega)]; exact hp2), if_pos (show (-4 : Int32) < 0 by decide)]
      simp only [zbs, Sum.elim_inr]
      rw [show zf_X7_goDays 25 1 g = some g' from b1]
      simp only [zbs, zi_one])
    (fun fu g hJ => by
      show zl_X10_hungry_31 (nI v) (fu + 1) (nI 61) g = _
      conv => lhs; unfold zl_X10_hungry_31
      rw [if_pos (by decide)])
  exact ⟨g1, u1.2.2, u2⟩
theorem m_hungryIn {h : zHp} {P : zP} {v : Nat} (c1 : zWF 999 P) (hv : v < nV P) (hR : RM h P) : ∃ g, RM g P ∧ zEM h g ∧ zf_X11_hungryIn (nI v) h = some (fstI (hunP P v) 61, g) := by
  have h7 := c1.2.1
  have hv7 : v < 7 := by omega
  obtain ⟨k1, p1, p2, p3, p4⟩ := m_think hR
  obtain ⟨g2, v1, v2⟩ := fst_loopM (fun fu s i => zl_X11_hungryIn_9 (nI v) fu s.1 i s.2) (hunP P v) 61 (by omega) (fun g => KA g 75 P ∧ zEM h g) (fun i g => i ≤ 61 ∧ RM g (daysN i P) ∧ KA g 75 P ∧ zEM h g) (fun i g hK => hK.2.2) 0 (by omega) (fun j hj => absurd hj (by omega)) k1 ⟨by omega, p2, p3, p4.M⟩
    (fun fu i f g hi hf => by
      show zl_X11_hungryIn_9 (nI v) (fu + 1) f (nI i) g = _
      conv => lhs; unfold zl_X11_hungryIn_9
      rw [if_neg (by rw [show (60 : Int32) = nI 60 by decide, zi_lt (by omega) (by omega)]; omega), if_pos hf])
    (fun fu i f g hi hf hK => by
      have hW := daysN_wf (n := i) c1
      have hs := (hW.1 v hv7).2.2.2.2
      obtain ⟨g', b1, b2, b3⟩ := m_dayBy hK.2.1 hW (by omega) false
      refine ⟨g', ?_, by omega, b2, KA_m hK.2.2.1 b3, hK.2.2.2.tr b3.M⟩
      show zl_X11_hungryIn_9 (nI v) (fu + 1) f (nI i) g = zl_X11_hungryIn_9 (nI v) fu (if hunP P v i = true then nI i else -4) (nI (i + 1)) g'
      conv => lhs; unfold zl_X11_hungryIn_9
      rw [if_neg (by rw [show (60 : Int32) = nI 60 by decide, zi_lt (by omega) (by omega)]; omega), if_neg hf, show zf_X11_dayBy 0 g = some g' from b1]
      simp only [zbs, if_pos (zi_ix hv7 (show 7 < 2000000000 by omega)), zi_clamp (show v < 2000000000 by omega)]
      rw [(hK.2.1.1 v hv7).2.2.2.2]
      by_cases c : sk (daysN i P) v = 0
      · rw [if_pos ((zi_sk0 (by omega)).mpr c), show hunP P v i = true by simp [hunP, c], zbs, zi_one, if_pos rfl]
      · rw [if_neg (fun q => c ((zi_sk0 (by omega)).mp q)), show hunP P v i = false by simp [hunP, c], zbs, zi_one]
        rfl)
    (fun fu f g => by
      show zl_X11_hungryIn_9 (nI v) (fu + 1) f (nI 61) g = _
      conv => lhs; unfold zl_X11_hungryIn_9
      rw [if_pos (by decide)])
  obtain ⟨k3, s1, s2, s3⟩ := m_again v1.1
  refine ⟨k3, s2, v1.2.tr s3.M, ?_⟩
  unfold zf_X11_hungryIn
  rw [p1]
  simp only [zbs]
  rw [zi_lit0, v2]
  simp only [zbs]
  rw [s1]
  rfl

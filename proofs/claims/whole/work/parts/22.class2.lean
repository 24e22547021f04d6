theorem fetch_of_able {P : zP} {v : Nat} (h : ableN P v = true) : fetchN P v = true := by
  unfold ableN at h
  exact (Bool.and_eq_true _ _ ▸ h).1
theorem carryN_V (P : zP) (v : Nat) : nV (carryN P v) = nV P := rfl
theorem c_eat {h : zHp} {p : Nat} {P : zP} {D v : Nat} (hR : RC h p P) (hW : zWF D P) (hv : v < nV P) : ((if (0 : Int32) < h.1 (p + 5) v - h.1 (p + 8) v then h.1 (p + 5) v - h.1 (p + 8) v else (0 : Int32)) = nI (sk P v - eatsN (kd P v) (fg P v))) ∧ RC (zc_ui h (p + 5) v (nI (sk P v - eatsN (kd P v) (fg P v)))) p (eatN P v) ∧ zE p h (zc_ui h (p + 5) v (nI (sk P v - eatsN (kd P v) (fg P v)))) := by
  have h7 := hW.2.1
  have hv7 : v < 7 := by omega
  have hb := hW.1 v hv7
  have he : eatsN (kd P v) (fg P v) < 100 := by
    have key : ∀ k, k < 8 → ∀ f, f < 10 → eatsN k f < 100 := by decide +kernel
    exact key _ hb.1 _ hb.2.1
  have hs := hb.2.2.2.2
  obtain ⟨e1, e2, e3, e4, e5⟩ := hR.1 v hv7
  obtain ⟨e6, e7, e8⟩ := hR.2.1 v hv
  refine ⟨?_, ?_, zE.ui ⟨by omega, by omega⟩⟩
  · rw [e5, e8]
    by_cases c : eatsN (kd P v) (fg P v) ≤ sk P v
    · rw [pk_sub c, zi_lit0]
      by_cases c2 : 0 < sk P v - eatsN (kd P v) (fg P v)
      · rw [if_pos ((zi_lt (by omega) (by omega)).mpr c2)]
      · rw [if_neg (fun q => c2 ((zi_lt (by omega) (by omega)).mp q))]
        have : sk P v - eatsN (kd P v) (fg P v) = 0 := by omega
        rw [this]
    · have hneg : nI (sk P v) - nI (eatsN (kd P v) (fg P v)) < 0 := pk_sneg (by omega) (by omega)
      have hn2 : ¬ (0 : Int32) < nI (sk P v) - nI (eatsN (kd P v) (fg P v)) := fun q => by
        rw [Int32.lt_iff_toInt_lt] at q hneg
        omega
      rw [if_neg hn2, show sk P v - eatsN (kd P v) (fg P v) = 0 by omega]
      decide
  · obtain ⟨r1, r2, r3, r4, r5, r6, r7, r8⟩ := hR
    refine ⟨fun w hw => ?_, fun w hw => ?_, ?_, ?_, ?_, ?_, ?_, ?_⟩
    · obtain ⟨q1, q2, q3, q4, q5⟩ := r1 w hw
      refine ⟨?_, ?_, ?_, ?_, ?_⟩
      · simp [zu_i]; exact q1
      · simp [zu_i]; exact q2
      · simp [zu_i]; exact q3
      · simp [zu_i]; exact q4
      · rw [zu_i]
        show _ = nI (un (sk P) v (sk P v - eatsN (kd P v) (fg P v)) w)
        by_cases c : w = v
        · simp [c, un]
        · simp [c, un, q5]
    · have q := r2 w hw
      simp [zu_i]; exact q
    · simp [zu_i]; exact r3
    · simp [zu_i]; exact r4
    · simp [zu_i]; exact r5
    · simp [zu_i]; exact r6
    · simp [zu_i]; exact r7
    · simp [zu_i]; exact r8
theorem c_vill {p : Nat} {P : zP} {D : Nat} (hW : zWF D P) (hD : D < 10000) : ∀ (k i fu : Nat) (h : zHp), i + k = nV P → k < fu → RC h p (villN i P) → ∃ h2, zl_X7_goDays_13 p fu (nI i) h = some h2 ∧ RC h2 p (villN (nV P) P) ∧ zE p h h2 := by
  intro k
  have h7 := hW.2.1
  induction k with
  | zero =>
    intro i fu h hik hfu hR
    obtain ⟨fu, rfl⟩ : ∃ f, fu = f + 1 := ⟨fu - 1, by omega⟩
    have hi : i = nV P := by omega
    subst hi
    have e3 : h.1 p 9 = nI (nV P) := by rw [hR.2.2.1, villN_V]
    refine ⟨h, ?_, hR, zE.rf⟩
    unfold zl_X7_goDays_13
    rw [e3, if_pos (by rw [zi_le (by omega) (by omega)]; omega)]
  | succ k ih =>
    intro i fu h hik hfu hR
    obtain ⟨fu, rfl⟩ : ∃ f, fu = f + 1 := ⟨fu - 1, by omega⟩
    have hi7 : i < 7 := by omega
    have hW2 : zWF D (villN i P) := villN_wf hW (by omega)
    have e3 : h.1 p 9 = nI (nV P) := by rw [hR.2.2.1, villN_V]
    have hiV : i < nV (villN i P) := by rw [villN_V]; omega
    have hst : ∃ v9, ((if (if ableN (villN i P) i then (1 : Int32) else 0) = 0 then some h else (if zc_ix (nI i) 7 then ((zf_X7_carry p (nI i) (h.1 (p + 4) (nI i).toNatClampNeg) h).bind (fun r8 => some r8)) else none)) : Option zHp) = some v9 ∧ RC v9 p (if ableN (villN i P) i then carryN (villN i P) i else villN i P) ∧ zE p h v9 := by
      by_cases ha : ableN (villN i P) i = true
      · obtain ⟨h2, g1, g2, g3⟩ := c_carry hR hW2 hiV (fetch_of_able ha)
        refine ⟨h2, ?_, by rw [if_pos ha]; exact g2, g3⟩
        simp only [ha, if_true, zi_clamp (show i < 2000000000 by omega), (hR.1 i hi7).2.2.2.1, g1, Option.bind_some, if_pos (zi_ix hi7 (by omega))]
        rfl
      · exact ⟨h, by simp [ha], by rw [if_neg ha]; exact hR, zE.rf⟩
    obtain ⟨v9, g1, g2, g3⟩ := hst
    have hW3 : zWF D (if ableN (villN i P) i then carryN (villN i P) i else villN i P) := by
      split
      · exact carryN_wf hW2 hi7
      · exact hW2
    have hiV3 : i < nV (if ableN (villN i P) i then carryN (villN i P) i else villN i P) := by
      split
      · rw [carryN_V]; exact hiV
      · exact hiV
    obtain ⟨q1, q2, q3⟩ := c_eat g2 hW3 hiV3
    obtain ⟨h3, s1, s2, s3⟩ := ih (i + 1) fu _ (by omega) (by omega) q2
    refine ⟨h3, ?_, s2, g3.tr (q3.tr s3)⟩
    unfold zl_X7_goDays_13
    rw [e3, if_neg (by rw [zi_le (by omega) (by omega)]; omega), c_isAble hR hW2 hD hiV]
    simp only [Option.bind_some]
    rw [g1]
    simp only [Option.bind_some, zi_clamp (show i < 2000000000 by omega), if_pos (zi_ix hi7 (show 7 < 2000000000 by omega)), q1, zi_one]
    exact s1
theorem zFU_eq : zFU = 4000 := rfl
theorem c_day {h : zHp} {p : Nat} {P : zP} {D : Nat} (hR : RC h p P) (hW : zWF D P) (hD : D < 9000) : ∃ h1 h2, zf_X7_moveChair p h = some h1 ∧ zl_X7_goDays_13 p zFU 0 h1 = some h2 ∧ RC h2 p (dayN false P) ∧ zE p h h2 := by
  obtain ⟨h1, g1, g2, g3⟩ := c_moveChair hR hW (by omega)
  have hW1 := movN_wf (rain := false) hW
  obtain ⟨h2, s1, s2, s3⟩ := c_vill (P := movN false P) hW1 (by omega) (nV P) 0 zFU h1 (by show 0 + nV P = nV P; omega) (by have := hW.2.1; rw [zFU_eq]; omega) g2
  exact ⟨h1, h2, g1, s1, s2, g3.tr s3⟩
theorem daysN_succ' : ∀ (n : Nat) (P : zP), daysN (n + 1) P = daysN n (dayN false P)
  | 0, _ => rfl
  | n + 1, P => by rw [daysN, daysN_succ' n P]; rfl
theorem c_days {p n : Nat} (hn : n < 2000) : ∀ (k i fu : Nat) (h : zHp) (P : zP) (D : Nat), i + k = n → k < fu → RC h p P → zWF D P → D + k < 9000 → ∃ h2, zl_X7_goDays_2 p (nI n) fu (nI i) h = some h2 ∧ RC h2 p (daysN k P) ∧ zE p h h2 := by
  intro k
  induction k with
  | zero =>
    intro i fu h P D hik hfu hR hW hD
    obtain ⟨fu, rfl⟩ : ∃ f, fu = f + 1 := ⟨fu - 1, by omega⟩
    refine ⟨h, ?_, hR, zE.rf⟩
    unfold zl_X7_goDays_2
    rw [if_pos (by rw [zi_le (by omega) (by omega)]; omega)]
  | succ k ih =>
    intro i fu h P D hik hfu hR hW hD
    obtain ⟨fu, rfl⟩ : ∃ f, fu = f + 1 := ⟨fu - 1, by omega⟩
    obtain ⟨h1, h2, g1, g2, g3, g4⟩ := c_day hR hW (by omega)
    obtain ⟨h3, s1, s2, s3⟩ := ih (i + 1) fu h2 (dayN false P) (D + 1) (by omega) (by omega) g3 (dayN_wf hW) (by omega)
    refine ⟨h3, ?_, by rw [daysN_succ']; exact s2, g4.tr s3⟩
    unfold zl_X7_goDays_2
    rw [if_neg (by rw [zi_le (by omega) (by omega)]; omega), g1]
    simp only [Option.bind_some]
    rw [g2]
    simp only [Option.bind_some, zi_one]
    exact s1
theorem c_goDays {h : zHp} {p n : Nat} {P : zP} {D : Nat} (hR : RC h p P) (hW : zWF D P) (hn : n < 2000) (hD : D < 2000) : ∃ h2, zf_X7_goDays p (nI n) h = some h2 ∧ RC h2 p (daysN n P) ∧ zE p h h2 := by
  obtain ⟨h2, s1, s2, s3⟩ := c_days hn n 0 zFU h P D (by omega) (by rw [zFU_eq]; omega) hR hW (by omega)
  refine ⟨h2, ?_, s2, s3⟩
  unfold zf_X7_goDays
  rw [zi_lit0, s1]
  rfl

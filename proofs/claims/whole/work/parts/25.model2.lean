theorem RM_sk {h : zHp} {P : zP} {w x : Nat} (hR : RM h P) : RM (zc_ui h 65 w (nI x)) (setSk P (un (sk P) w x) (nd P)) := by
  obtain ⟨r1, r2, r3, r4, r5, r6, r7⟩ := hR
  refine ⟨fun v hv => ?_, ?_, ?_, ?_, ?_, ?_, ?_⟩
  · obtain ⟨q1, q2, q3, q4, q5⟩ := r1 v hv
    refine ⟨?_, ?_, ?_, ?_, ?_⟩
    · simp [zu_i]; exact q1
    · simp [zu_i]; exact q2
    · simp [zu_i]; exact q3
    · simp [zu_i]; exact q4
    · rw [zu_i]
      show _ = nI (un (sk P) w x v)
      by_cases c : v = w
      · simp [c, un]
      · simp [c, un, q5]
  · simp [zu_i]; exact r2
  · simp [zu_i]; exact r3
  · simp [zu_i]; exact r4
  · simp [zu_i]; exact r5
  · simp [zu_i]; exact r6
  · simp [zu_i]; exact r7
theorem RM_nd {h : zHp} {P : zP} {n : Nat} (hR : RM h P) : RM (zc_ui h 60 9 (nI n)) (setSk P (sk P) n) := by
  obtain ⟨r1, r2, r3, r4, r5, r6, r7⟩ := hR
  refine ⟨fun v hv => ?_, ?_, ?_, ?_, ?_, ?_, ?_⟩
  · have q := r1 v hv
    simp [zu_i]; exact q
  · simp [zu_i]; exact r2
  · simp [zu_i]; exact r3
  · simp [zu_i]; exact r4
  · simp [zu_i]; exact r5
  · simp [zu_i, setSk]
  · simp [zu_i]; exact r7
theorem m_vill {P : zP} {D : Nat} (hW : zWF D P) (hD : D < 10000) : ∀ (k i fu : Nat) (h : zHp), i + k = nV P → k < fu → RM h (villN i P) → ∃ h2, zl_X11_dayBy_56 fu (nI i) h = some h2 ∧ RM h2 (villN (nV P) P) ∧ zEm h h2 := by
  intro k
  have h7 := hW.2.1
  induction k with
  | zero =>
    intro i fu h hik hfu hR
    obtain ⟨fu, rfl⟩ : ∃ f, fu = f + 1 := ⟨fu - 1, by omega⟩
    have hi : i = nV P := by omega
    subst hi
    have e3 : h.1 60 3 = nI (nV P) := by rw [hR.2.1, villN_V]
    refine ⟨h, ?_, hR, zEm.rf⟩
    unfold zl_X11_dayBy_56
    rw [e3, if_pos (by rw [zi_le (by omega) (by omega)]; omega)]
  | succ k ih =>
    intro i fu h hik hfu hR
    obtain ⟨fu, rfl⟩ : ∃ f, fu = f + 1 := ⟨fu - 1, by omega⟩
    have hi7 : i < 7 := by omega
    have hW2 : zWF D (villN i P) := villN_wf hW (by omega)
    have e3 : h.1 60 3 = nI (nV P) := by rw [hR.2.1, villN_V]
    generalize hQ : villN i P = Q at hR hW2
    have hb := hW2.1 i hi7
    have hst : ableN Q i = true → ∃ v25, ((if zc_ix (nI i) 7 then ((some (h.1 64 (nI i).toNatClampNeg) : Option Int32).bind (fun v8 => ((zf_X11_bringsOf (nI i) h).bind (fun r9 => (if zc_ix v8 7 then (((if (h.1 65 v8.toNatClampNeg) ≤ r9 then (if zc_ix v8 7 then some (h.1 65 v8.toNatClampNeg) else none) else ((zf_X11_bringsOf (nI i) h).bind (fun r12 => some r12))) : Option Int32).bind (fun v13 => (if zc_ix v8 7 then (if zc_ix v8 7 then ((some (zc_ui h 65 v8.toNatClampNeg ((h.1 65 v8.toNatClampNeg) - v13)) : Option zHp).bind (fun h16 => (if zc_ix (nI i) 7 then ((zf_X11_held ((h16.1 65 (nI i).toNatClampNeg) + v13) (99 : Int32)).bind (fun r18 => (if zc_ix (nI i) 7 then ((some (zc_ui h16 65 (nI i).toNatClampNeg r18) : Option zHp).bind (fun h20 => ((zf_X11_isNodding (nI i) h20).bind (fun r21 => (((if r21 = 0 then some (0 : Int32) else some (1 : Int32)) : Option Int32).bind (fun v22 => ((zf_X11_held ((h20.1 60 9) + v22) (9999 : Int32)).bind (fun r23 => ((some (zc_ui h20 60 9 r23) : Option zHp).bind (fun h24 => some h24)))))))))) else none))) else none))) else none) else none))) else none))))) else none) : Option zHp) = some v25 ∧ RM v25 (carryN Q i) ∧ zEm h v25 := by
      intro ha
      have hf := fetch_of_able ha
      have hne : fr Q i ≠ i := (of_decide_eq_true hf).1
      have ho7 : fr Q i < 7 := hb.2.2.2.1
      have hso := (hW2.1 _ ho7).2.2.2.2
      have hsv := hb.2.2.2.2
      have hbr := bringsN_lt hb.1 hb.2.1
      have e4 := (hR.1 i hi7).2.2.2.1
      have e5 := (hR.1 i hi7).2.2.2.2
      have e9 := (hR.1 _ ho7).2.2.2.2
      have hnd : nd Q ≤ 9999 := hW2.2.2.2.2.2.1
      have ht := takeN_le Q i
      have htk : ((if nI (sk Q (fr Q i)) ≤ nI (bringsN (kd Q i) (fg Q i)) then some (nI (sk Q (fr Q i))) else some (nI (bringsN (kd Q i) (fg Q i)))) : Option Int32) = some (nI (takeN Q i)) := by
        unfold takeN
        by_cases c : sk Q (fr Q i) ≤ bringsN (kd Q i) (fg Q i)
        · rw [if_pos ((zi_le (by omega) (by omega)).mpr c), Nat.min_eq_right c]
        · rw [if_neg (fun q => c ((zi_le (by omega) (by omega)).mp q)), Nat.min_eq_left (by omega)]
      have R1 : RM (zc_ui h 65 (fr Q i) (nI (sk Q (fr Q i) - takeN Q i))) (setSk Q (un (sk Q) (fr Q i) (sk Q (fr Q i) - takeN Q i)) (nd Q)) := RM_sk hR
      have R2 : RM (zc_ui (zc_ui h 65 (fr Q i) (nI (sk Q (fr Q i) - takeN Q i))) 65 i (nI (min 99 (un (sk Q) (fr Q i) (sk Q (fr Q i) - takeN Q i) i + takeN Q i)))) (setSk Q (carrySk Q i) (nd Q)) := RM_sk R1
      have W2 : zWF D (setSk Q (carrySk Q i) (nd Q)) := by
        have hs := carrySk_le hW2 hi7
        obtain ⟨h1, h2, h3, h4, h5, h6, h7⟩ := hW2
        exact ⟨fun w hw => ⟨(h1 w hw).1, (h1 w hw).2.1, (h1 w hw).2.2.1, (h1 w hw).2.2.2.1, hs w hw⟩, h2, h3, h4, h5, h6, h7⟩
      have hui : un (sk Q) (fr Q i) (sk Q (fr Q i) - takeN Q i) i = sk Q i := by simp [un, Ne.symm hne]
      have eh : (zc_ui h 65 (fr Q i) (nI (sk Q (fr Q i) - takeN Q i))).1 65 i = nI (sk Q i) := by rw [zu_i, if_neg (by simp [Ne.symm hne]), e5]
      rw [hui] at R2
      have hnod := m_isNodding R2 W2 hi7
      have en : (zc_ui (zc_ui h 65 (fr Q i) (nI (sk Q (fr Q i) - takeN Q i))) 65 i (nI (min 99 (sk Q i + takeN Q i)))).1 60 9 = nI (nd Q) := R2.2.2.2.2.2.1
      have R3 : ∀ n, RM (zc_ui (zc_ui (zc_ui h 65 (fr Q i) (nI (sk Q (fr Q i) - takeN Q i))) 65 i (nI (min 99 (sk Q i + takeN Q i)))) 60 9 (nI n)) (setSk Q (carrySk Q i) n) := fun n => RM_nd R2
      refine ⟨_, ?_, R3 (if nodsN (kd Q i) then min 9999 (nd Q + 1) else nd Q), ((zEm.ua ⟨by omega, by omega⟩).tr (zEm.ua ⟨by omega, by omega⟩)).tr (zEm.uf (by omega))⟩
      simp only [zi_clamp (show i < 2000000000 by omega), zi_clamp (show fr Q i < 2000000000 by omega), if_pos (zi_ix hi7 (show 7 < 2000000000 by omega)), e4, Option.bind_some, m_bringsOf hR hW2 hi7, if_pos (zi_ix ho7 (show 7 < 2000000000 by omega)), e9, htk, pk_sub ht, eh, nI_add, zi_lit99, m_held (show sk Q i + takeN Q i < 1000000 by omega) (show 99 < 1000000 by omega), hnod, en]
      show (((if (if nodsN (kd Q i) = true then (1 : Int32) else 0) = 0 then some (0 : Int32) else some (1 : Int32)) : Option Int32).bind (fun v22 => ((zf_X11_held ((nI (nd Q)) + v22) (9999 : Int32)).bind (fun r23 => some _)))) = _
      by_cases hn : nodsN (kd Q i) = true
      · simp only [hn, if_true]
        rw [if_neg (by decide)]
        simp only [Option.bind_some, zi_one, zi_lit9999, m_held (show nd Q + 1 < 1000000 by omega) (show 9999 < 1000000 by omega)]
      · simp only [hn, if_false, Bool.false_eq_true, if_true, Option.bind_some]
        rw [show nI (nd Q) + (0 : Int32) = nI (nd Q) by rw [zi_lit0, nI_add]; rfl]
        simp only [zi_lit9999, m_held (show nd Q < 1000000 by omega) (show 9999 < 1000000 by omega), Option.bind_some, Nat.min_eq_right hnd]
    have hst2 : ∃ v25, ((if (if ableN Q i then (1 : Int32) else 0) = 0 then some h else ((if zc_ix (nI i) 7 then ((some (h.1 64 (nI i).toNatClampNeg) : Option Int32).bind (fun v8 => ((zf_X11_bringsOf (nI i) h).bind (fun r9 => (if zc_ix v8 7 then (((if (h.1 65 v8.toNatClampNeg) ≤ r9 then (if zc_ix v8 7 then some (h.1 65 v8.toNatClampNeg) else none) else ((zf_X11_bringsOf (nI i) h).bind (fun r12 => some r12))) : Option Int32).bind (fun v13 => (if zc_ix v8 7 then (if zc_ix v8 7 then ((some (zc_ui h 65 v8.toNatClampNeg ((h.1 65 v8.toNatClampNeg) - v13)) : Option zHp).bind (fun h16 => (if zc_ix (nI i) 7 then ((zf_X11_held ((h16.1 65 (nI i).toNatClampNeg) + v13) (99 : Int32)).bind (fun r18 => (if zc_ix (nI i) 7 then ((some (zc_ui h16 65 (nI i).toNatClampNeg r18) : Option zHp).bind (fun h20 => ((zf_X11_isNodding (nI i) h20).bind (fun r21 => (((if r21 = 0 then some (0 : Int32) else some (1 : Int32)) : Option Int32).bind (fun v22 => ((zf_X11_held ((h20.1 60 9) + v22) (9999 : Int32)).bind (fun r23 => ((some (zc_ui h20 60 9 r23) : Option zHp).bind (fun h24 => some h24)))))))))) else none))) else none))) else none) else none))) else none))))) else none) : Option zHp)) : Option zHp) = some v25 ∧ RM v25 (if ableN Q i then carryN Q i else Q) ∧ zEm h v25 := by
      by_cases ha : ableN Q i = true
      · obtain ⟨v25, g1, g2, g3⟩ := hst ha
        refine ⟨v25, ?_, by rw [if_pos ha]; exact g2, g3⟩
        simp only [ha, if_true]
        rw [if_neg (by decide)]
        exact g1
      · exact ⟨h, by simp [ha], by rw [if_neg ha]; exact hR, zEm.rf⟩
    obtain ⟨v25, g1, g2, g3⟩ := hst2
    have hW3 : zWF D (if ableN Q i then carryN Q i else Q) := by
      split
      · exact carryN_wf hW2 hi7
      · exact hW2
    have hQ1 : villN (i + 1) P = eatN (if ableN Q i then carryN Q i else Q) i := by rw [villN, hQ]; rfl
    generalize (if ableN Q i then carryN Q i else Q) = Q3 at g2 hW3 hQ1
    have hb3 := hW3.1 i hi7
    have he := eatsN_lt hb3.1 hb3.2.1
    have e5 := (g2.1 i hi7).2.2.2.2
    have R4 : RM (zc_ui v25 65 i (nI (sk Q3 i - eatsN (kd Q3 i) (fg Q3 i)))) (villN (i + 1) P) := by rw [hQ1]; exact RM_sk g2
    obtain ⟨h3, s1, s2, s3⟩ := ih (i + 1) fu _ (by omega) (by omega) R4
    refine ⟨h3, ?_, s2, g3.tr ((zEm.ua ⟨by omega, by omega⟩).tr s3)⟩
    unfold zl_X11_dayBy_56
    rw [e3, if_neg (by rw [zi_le (by omega) (by omega)]; omega), m_isAble hR hW2 hD hi7]
    simp only [Option.bind_some] at g1 ⊢
    rw [g1]
    simp only [Option.bind_some, zi_clamp (show i < 2000000000 by omega), if_pos (zi_ix hi7 (show 7 < 2000000000 by omega)), m_eatsOf g2 hW3 hi7, e5, zi_lit99]
    rw [m_heldS (by omega) (by omega) (by omega) (by omega)]
    simp only [Option.bind_some, zi_one]
    exact s1
theorem m_dayBy {h : zHp} {P : zP} {D : Nat} (hR : RM h P) (hW : zWF D P) (hD : D < 9000) (rain : Bool) : ∃ h2, zf_X11_dayBy (if rain then 1 else 0) h = some h2 ∧ RM h2 (dayN rain P) ∧ zEm h h2 := by
  have hW1 := movN_wf (rain := rain) hW
  obtain ⟨r1, r2, r3, r4, r5, r6, r7⟩ := id hR
  have hc : ch P < 12 := hW.2.2.1
  have hs : sp P ≤ 5 := hW.2.2.2.1
  have hdy : dy P ≤ D := hW.2.2.2.2.2.2
  have R1 : RM (zc_ui (zc_ui h 60 10 (nI (dy P + 1))) 60 0 (nI (chN rain P))) (movN rain P) := by
    refine ⟨fun v hv => ?_, ?_, ?_, ?_, ?_, ?_, ?_⟩
    · have q := r1 v hv
      simp [zu_i]; exact q
    all_goals simp [zu_i, r2, r4, r5, r6, movN, setCh]
  obtain ⟨h2, s1, s2, s3⟩ := m_vill (P := movN rain P) hW1 (by omega) (nV P) 0 zFU _ (by show 0 + nV P = nV P; omega) (by have := hW.2.1; rw [zFU_eq]; omega) R1
  refine ⟨h2, ?_, s2, ((zEm.uf (by omega)).tr (zEm.uf (by omega))).tr s3⟩
  have ho : ((nI (dy P + 1) - nI (dy P + 1) / 12 * 12 = 0)) ↔ (dy P + 1) % 12 = 0 := by
    rw [zi_lit12, zi_rem (by omega) (by omega) (by omega), zi_lit0, zi_eq (by omega) (by omega)]
  have key : ((if nI (dy P + 1) - nI (dy P + 1) / 12 * 12 = 0 then some (nI (hm P)) else (if (if rain then (1 : Int32) else 0) = 0 then some ((nI (ch P) + nI (sp P)) - (nI (ch P) + nI (sp P)) / 12 * 12) else some (nI (ch P)))) : Option Int32) = some (nI (chN rain P)) := by
    unfold chN
    by_cases hz : (dy P + 1) % 12 = 0
    · rw [if_pos (ho.mpr hz), if_pos hz]
    · rw [if_neg (fun q => hz (ho.mp q)), if_neg hz, nI_add, zi_lit12, zi_rem (by omega) (by omega) (by omega)]
      cases rain <;> rfl
  simp only [zf_X11_dayBy, Option.bind_some, zu_i, r7, zi_one]
  simp only [and_self, if_true, Nat.reduceEqDiff, and_false, if_false, r3, r4, r5]
  rw [key]
  simp only [Option.bind_some]
  rw [zi_lit0, s1]
  rfl
theorem m_days {n : Nat} (hn : n < 2000) : ∀ (k i fu : Nat) (h : zHp) (P : zP) (D : Nat), i + k = n → k < fu → RM h P → zWF D P → D + k < 9000 → ∃ h2, zl_X11_goDays_2 (nI n) fu (nI i) h = some h2 ∧ RM h2 (daysN k P) ∧ zEm h h2 := by
  intro k
  induction k with
  | zero =>
    intro i fu h P D hik hfu hR hW hD
    obtain ⟨fu, rfl⟩ : ∃ f, fu = f + 1 := ⟨fu - 1, by omega⟩
    refine ⟨h, ?_, hR, zEm.rf⟩
    unfold zl_X11_goDays_2
    rw [if_pos (by rw [zi_le (by omega) (by omega)]; omega)]
  | succ k ih =>
    intro i fu h P D hik hfu hR hW hD
    obtain ⟨fu, rfl⟩ : ∃ f, fu = f + 1 := ⟨fu - 1, by omega⟩
    obtain ⟨h2, g2, g3, g4⟩ := m_dayBy hR hW (by omega) false
    obtain ⟨h3, s1, s2, s3⟩ := ih (i + 1) fu h2 (dayN false P) (D + 1) (by omega) (by omega) g3 (dayN_wf hW) (by omega)
    refine ⟨h3, ?_, by rw [daysN_succ']; exact s2, g4.tr s3⟩
    unfold zl_X11_goDays_2
    rw [if_neg (by rw [zi_le (by omega) (by omega)]; omega)]
    rw [show zf_X11_dayBy 0 h = some h2 from g2]
    simp only [Option.bind_some, zi_one]
    exact s1
theorem m_goDays {h : zHp} {n : Nat} {P : zP} {D : Nat} (hR : RM h P) (hW : zWF D P) (hn : n < 2000) (hD : D < 2000) : ∃ h2, zf_X11_goDays (nI n) h = some h2 ∧ RM h2 (daysN n P) ∧ zEm h h2 := by
  obtain ⟨h2, s1, s2, s3⟩ := m_days hn n 0 zFU h P D (by omega) (by rw [zFU_eq]; omega) hR hW (by omega)
  refine ⟨h2, ?_, s2, s3⟩
  unfold zf_X11_goDays
  rw [zi_lit0, s1]
  rfl

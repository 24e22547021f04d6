/-! what a statement makes of a province, on both sides -/
def stp (T : Nat → Int32) (i : Nat) (Q : zP) : Option zP :=
  if T i = 99 then (if 10 * dv T (i + 1) + dv T (i + 2) < 12 then some (setCh Q (10 * dv T (i + 1) + dv T (i + 2)) (dy Q)) else none)
  else if T i = 102 then (if dv T (i + 1) < nV Q ∧ dv T (i + 2) < 7 then some (setFr Q (un (fr Q) (dv T (i + 1)) (dv T (i + 2)))) else none)
  else if T i = 107 then (if dv T (i + 1) < nV Q then some (setSk Q (un (sk Q) (dv T (i + 1)) (10 * dv T (i + 2) + dv T (i + 3))) (nd Q)) else none)
  else if T i = 115 then (if dv T (i + 1) ≤ 5 ∧ 10 * dv T (i + 2) + dv T (i + 3) < 12 then some (setSun Q (dv T (i + 1)) (10 * dv T (i + 2) + dv T (i + 3))) else none)
  else if T i = 118 then (if nV Q < 7 ∧ dv T (i + 1) < 8 ∧ 10 * dv T (i + 3) + dv T (i + 4) < 12 ∧ dv T (i + 5) < 7 then some (addP Q (dv T (i + 1)) (dv T (i + 2)) (10 * dv T (i + 3) + dv T (i + 4)) (dv T (i + 5))) else none)
  else (if 1 ≤ 10 * dv T (i + 1) + dv T (i + 2) ∧ 10 * dv T (i + 1) + dv T (i + 2) ≤ 60 ∧ dy Q + (10 * dv T (i + 1) + dv T (i + 2)) ≤ 999 then some (daysN (10 * dv T (i + 1) + dv T (i + 2)) Q) else none)
theorem nD_v {c : Int32} : (c = 99 → nD c = 2) ∧ (c = 100 → nD c = 2) ∧ (c = 102 → nD c = 2) ∧ (c = 107 → nD c = 3) ∧ (c = 115 → nD c = 3) ∧ (c = 118 → nD c = 5) := by
  refine ⟨?_, ?_, ?_, ?_, ?_, ?_⟩ <;> intro h <;> subst h <;> decide
theorem ps_dv {T : Nat → Int32} {L i j : Nat} (h : psS T L i = .inr j) : ∀ x, x < nD (T i) → okD T L (i + 1 + x) = true := (ps_ok h).2.2.1
theorem stp_wf {T : Nat → Int32} {L i j : Nat} {Q Q' : zP} (hp : psS T L i = .inr j) (hW : zWF 999 Q) (h : stp T i Q = some Q') : zWF 999 Q' := by
  have ok := ps_dv hp
  obtain ⟨n1, n2, n3, n4, n5, n6⟩ := nD_v (c := T i)
  unfold stp at h
  by_cases c1 : T i = 99
  · rw [if_pos c1] at h
    split at h
    · obtain rfl := Option.some.inj h
      exact wf_ch hW (by assumption)
    · cases h
  rw [if_neg c1] at h
  by_cases c2 : T i = 102
  · rw [if_pos c2] at h
    split at h
    · rename_i q
      obtain rfl := Option.some.inj h
      exact wf_fr hW q.2
    · cases h
  rw [if_neg c2] at h
  by_cases c3 : T i = 107
  · rw [if_pos c3] at h
    rw [n4 c3] at ok
    have d1 := (dv_ok (ok 1 (by omega))).2.2.1
    have d2 := (dv_ok (ok 2 (by omega))).2.2.1
    rw [show i + 1 + 1 = i + 2 by omega] at d1
    rw [show i + 1 + 2 = i + 3 by omega] at d2
    split at h
    · obtain rfl := Option.some.inj h
      exact wf_sk hW (by omega)
    · cases h
  rw [if_neg c3] at h
  by_cases c4 : T i = 115
  · rw [if_pos c4] at h
    split at h
    · rename_i q
      obtain rfl := Option.some.inj h
      exact wf_sun hW q.1 q.2
    · cases h
  rw [if_neg c4] at h
  by_cases c5 : T i = 118
  · rw [if_pos c5] at h
    rw [n6 c5] at ok
    have d1 := (dv_ok (ok 1 (by omega))).2.2.1
    rw [show i + 1 + 1 = i + 2 by omega] at d1
    split at h
    · rename_i q
      obtain rfl := Option.some.inj h
      exact wf_add hW q.1 q.2.1 d1 q.2.2.1 q.2.2.2
    · cases h
  rw [if_neg c5] at h
  split at h
  · rename_i q
    obtain rfl := Option.some.inj h
    exact zWF_mono (daysN_wf (wf_tight hW)) q.2.2
  · cases h
theorem c_digit {h : zHp} {q L j : Nat} {T : Nat → Int32} (e4 : h.1 q 4 = nI L) (eT : ∀ i, i < 100 → h.1 (q + 1) i = T i) (hL : L ≤ 100) (hok : okD T L j = true) : zf_X8_digit q (nI j) h = some (nI (dv T j)) := by
  obtain ⟨d1, d2, d3, d4⟩ := dv_ok hok
  unfold zf_X8_digit
  rw [e4, if_neg (by rw [zi_le (by omega) (by omega)]; omega), if_pos (zi_ix (show j < 100 by omega) (by omega)), zi_clamp (by omega), eT j (by omega), d4]
theorem c_twoD {h : zHp} {q L j : Nat} {T : Nat → Int32} (e4 : h.1 q 4 = nI L) (eT : ∀ i, i < 100 → h.1 (q + 1) i = T i) (hL : L ≤ 100) (hok : okD T L j = true) (hok2 : okD T L (j + 1) = true) : zf_X8_twoDigits q (nI j) h = some (nI (10 * dv T j + dv T (j + 1))) := by
  unfold zf_X8_twoDigits
  rw [c_digit e4 eT hL hok, zbs, zi_one, c_digit e4 eT hL hok2, zbs, show (10 : Int32) = nI 10 by decide, pk_mul, nI_add]
theorem neg1 : ((-1 : Int32) < 0) = True := eq_true (by decide)
theorem nI_neg {n : Nat} (h : n < 2000000000) : ((nI n : Int32) < 0) = False := eq_false (nI_pos (by omega))
theorem c_told {h : zHp} {q L i j : Nat} {T : Nat → Int32} {Q : zP} (e4 : h.1 q 4 = nI L) (eT : ∀ i, i < 100 → h.1 (q + 1) i = T i) (hL : L ≤ 100) (hp : psS T L i = .inr j) (hR : RC h 25 Q) (hW : zWF 999 Q) :
    ∃ r h', zf_X10_isTold q (nI i) h = some (r, h') ∧ zE 25 h h' ∧ ((stp T i Q = none ∧ r = 0) ∨ ∃ Q', stp T i Q = some Q' ∧ r = 1 ∧ RC h' 25 Q') := by
  have ok := ps_dv hp
  obtain ⟨p1, p2, -, -, -⟩ := ps_ok hp
  obtain ⟨n1, n2, n3, n4, n5, n6⟩ := nD_v (c := T i)
  have h7 := hW.2.1
  have n2' := nD_ge p2
  have o1 : okD T L (i + 1) = true := ok 0 (by omega)
  have o2 : okD T L (i + 2) = true := ok 1 (by omega)
  have d1 := (dv_ok o1).2.2.1
  have d2 := (dv_ok o2).2.2.1
  unfold zf_X10_isTold
  rw [zi_one, c_digit e4 eT hL o1, zbs, show nI i + 2 = nI (i + 2) by rw [zi_lit2, nI_add], c_digit e4 eT hL o2, zbs, if_pos (zi_ix (show i < 100 by omega) (by omega)), zi_clamp (show i < 2000000000 by omega), eT i (by omega), show (10 : Int32) * nI (dv T (i + 1)) + nI (dv T (i + 2)) = nI (10 * dv T (i + 1) + dv T (i + 2)) by rw [show (10 : Int32) = nI 10 by decide, pk_mul, nI_add]]
  unfold stp
  by_cases c1 : T i = 99
  · rw [if_pos c1, if_pos c1]
    unfold zf_X7_setChair
    by_cases k1 : 10 * dv T (i + 1) + dv T (i + 2) < 12
    · rw [c_isPlace_in k1]
      simp only [zbs, z10, if_false]
      rw [hR.2.2.2.1, if_neg (nI_pos (by have := hW.2.2.1; omega)), if_pos k1]
      exact ⟨_, _, rfl, zE.ui (by omega), Or.inr ⟨_, rfl, rfl, RC_ch hR⟩⟩
    · rw [c_isPlace_out (Or.inr (by rw [zi_le (by omega) (by omega)]; omega)), if_neg k1]
      exact ⟨_, _, rfl, zE.rf, Or.inl ⟨rfl, rfl⟩⟩
  rw [if_neg c1, if_neg c1]
  by_cases c2 : T i = 102
  · rw [if_pos c2, if_pos c2]
    unfold zf_X7_setFrom
    by_cases k1 : dv T (i + 1) < nV Q
    · rw [c_isThere_in hR hW k1]
      simp only [zbs, z10, if_false]
      by_cases k2 : dv T (i + 2) < 7
      · rw [c_isNumber_in k2]
        simp only [zbs, z10, if_false, if_pos (zi_ix (show dv T (i + 1) < 7 by omega) (show 7 < 2000000000 by omega)), zi_clamp (show dv T (i + 1) < 2000000000 by omega)]
        rw [(hR.1 _ (by omega)).2.2.2.1, if_neg (nI_pos (by have := (hW.1 (dv T (i + 1)) (by omega)).2.2.2.1; omega)), if_pos ⟨k1, k2⟩]
        exact ⟨_, _, rfl, zE.ui (by omega), Or.inr ⟨_, rfl, rfl, RC_fr hR⟩⟩
      · rw [c_isNumber_out (Or.inr (by rw [zi_le (by omega) (by omega)]; omega)), if_neg (show ¬ (dv T (i + 1) < nV Q ∧ dv T (i + 2) < 7) from fun q => k2 q.2)]
        exact ⟨_, _, rfl, zE.rf, Or.inl ⟨rfl, rfl⟩⟩
    · rw [c_isThere_out hR (Or.inr (by rw [zi_le (by omega) (by omega)]; omega)), if_neg (show ¬ (dv T (i + 1) < nV Q ∧ dv T (i + 2) < 7) from fun q => k1 q.1)]
      exact ⟨_, _, rfl, zE.rf, Or.inl ⟨rfl, rfl⟩⟩
  rw [if_neg c2, if_neg c2]
  by_cases c3 : T i = 107
  · rw [n4 c3] at ok
    have o3 : okD T L (i + 2 + 1) = true := ok 2 (by omega)
    have d3 := (dv_ok o3).2.2.1
    rw [if_pos c3, if_pos c3, c_twoD e4 eT hL o2 o3, zbs]
    unfold zf_X7_setStock
    by_cases k1 : dv T (i + 1) < nV Q
    · rw [c_isThere_in hR hW k1]
      simp only [zbs, z10, if_false]
      rw [if_neg (nI_pos (by omega)), if_pos (by rw [zi_lit99, zi_le (by omega) (by omega)]; omega)]
      simp only [if_pos (zi_ix (show dv T (i + 1) < 7 by omega) (show 7 < 2000000000 by omega)), zi_clamp (show dv T (i + 1) < 2000000000 by omega), zbs]
      rw [(hR.1 _ (by omega)).2.2.2.2, if_neg (nI_pos (by have := (hW.1 (dv T (i + 1)) (by omega)).2.2.2.2; omega)), if_pos k1]
      exact ⟨_, _, rfl, zE.ui (by omega), Or.inr ⟨_, rfl, rfl, RC_sk hR⟩⟩
    · rw [c_isThere_out hR (Or.inr (by rw [zi_le (by omega) (by omega)]; omega)), if_neg k1]
      exact ⟨_, _, rfl, zE.rf, Or.inl ⟨rfl, rfl⟩⟩
  rw [if_neg c3, if_neg c3]
  by_cases c4 : T i = 115
  · rw [n5 c4] at ok
    have o3 : okD T L (i + 2 + 1) = true := ok 2 (by omega)
    have d3 := (dv_ok o3).2.2.1
    rw [if_pos c4, if_pos c4, c_twoD e4 eT hL o2 o3, zbs]
    unfold zf_X7_setSun
    rw [if_neg (nI_pos (by omega))]
    by_cases k1 : dv T (i + 1) ≤ 5
    · rw [if_neg (by rw [show (5 : Int32) = nI 5 by decide, zi_lt (by omega) (by omega)]; omega)]
      by_cases k2 : 10 * dv T (i + 2) + dv T (i + 2 + 1) < 12
      · rw [c_isPlace_in k2]
        simp only [zbs, z10, if_false]
        rw [hR.2.2.2.2.1, hR.2.2.2.2.2.1, show (100 : Int32) = nI 100 by decide, pk_mul, nI_add, if_neg (nI_pos (by have := hW.2.2.2.1; have := hW.2.2.2.2.1; omega)), if_pos (show dv T (i + 1) ≤ 5 ∧ 10 * dv T (i + 2) + dv T (i + 3) < 12 from ⟨k1, k2⟩)]
        exact ⟨_, _, rfl, (zE.ui (by omega)).tr (zE.ui (by omega)), Or.inr ⟨_, rfl, rfl, RC_sun hR⟩⟩
      · rw [c_isPlace_out (Or.inr (by rw [zi_le (by omega) (by omega)]; omega)), if_neg (show ¬ (dv T (i + 1) ≤ 5 ∧ 10 * dv T (i + 2) + dv T (i + 3) < 12) from fun q => k2 q.2)]
        exact ⟨_, _, rfl, zE.rf, Or.inl ⟨rfl, rfl⟩⟩
    · rw [if_pos (by rw [show (5 : Int32) = nI 5 by decide, zi_lt (by omega) (by omega)]; omega), if_neg (fun q => k1 q.1)]
      exact ⟨_, _, rfl, zE.rf, Or.inl ⟨rfl, rfl⟩⟩
  rw [if_neg c4, if_neg c4]
  by_cases c5 : T i = 118
  · rw [n6 c5] at ok
    have o3 : okD T L (i + 3) = true := ok 2 (by omega)
    have o4 : okD T L (i + 3 + 1) = true := ok 3 (by omega)
    have o5 : okD T L (i + 5) = true := ok 4 (by omega)
    have d3 := (dv_ok o3).2.2.1
    have d4 := (dv_ok o4).2.2.1
    have d5 := (dv_ok o5).2.2.1
    rw [if_pos c5, if_pos c5, show nI i + 3 = nI (i + 3) by rw [show (3 : Int32) = nI 3 by decide, nI_add], c_twoD e4 eT hL o3 o4, zbs, show nI i + 5 = nI (i + 5) by rw [show (5 : Int32) = nI 5 by decide, nI_add], c_digit e4 eT hL o5, zbs]
    by_cases k : nV Q < 7 ∧ dv T (i + 1) < 8 ∧ 10 * dv T (i + 3) + dv T (i + 4) < 12 ∧ dv T (i + 5) < 7
    · obtain ⟨h2, a1, a2, a3⟩ := c_add_ok hR k.1 k.2.1 d2 k.2.2.1 k.2.2.2
      rw [show 10 * dv T (i + 3) + dv T (i + 3 + 1) = 10 * dv T (i + 3) + dv T (i + 4) from rfl, a1, zbs, if_neg (nI_pos (by omega)), if_pos k]
      exact ⟨_, _, rfl, a3, Or.inr ⟨_, rfl, rfl, a2⟩⟩
    · rw [if_neg k]
      have key : ∃ x : Int32, zf_X7_add 25 (nI (dv T (i + 1))) (nI (dv T (i + 2))) (nI (10 * dv T (i + 3) + dv T (i + 3 + 1))) (nI (dv T (i + 5))) h = some (x, h) ∧ x < 0 := by
        unfold zf_X7_add
        rw [hR.2.2.1]
        by_cases k1 : nV Q < 7
        · rw [if_pos (by rw [zi_lit7, zi_lt (by omega) (by omega)]; exact k1)]
          by_cases k2 : dv T (i + 1) < 8
          · rw [c_isKind_in k2, c_isFigure_in d2]
            simp only [zbs, z10, if_false]
            by_cases k3 : 10 * dv T (i + 3) + dv T (i + 3 + 1) < 12
            · rw [c_isPlace_in k3]
              simp only [zbs, z10, if_false]
              rw [c_isNumber_out (Or.inr (by rw [zi_le (by omega) (by omega)]; exact Nat.le_of_not_lt (fun q => k ⟨k1, k2, k3, q⟩)))]
              exact ⟨_, rfl, by decide⟩
            · rw [c_isPlace_out (Or.inr (by rw [zi_le (by omega) (by omega)]; omega))]
              exact ⟨_, rfl, by decide⟩
          · rw [c_isKind_out (Or.inr (by rw [zi_le (by omega) (by omega)]; omega))]
            exact ⟨_, rfl, by decide⟩
        · rw [if_neg (by rw [zi_lit7, zi_lt (by omega) (by omega)]; exact k1)]
          exact ⟨_, rfl, by decide⟩
      obtain ⟨x, a1, a2⟩ := key
      rw [a1, zbs, if_pos a2]
      exact ⟨_, _, rfl, zE.rf, Or.inl ⟨rfl, rfl⟩⟩
  rw [if_neg c5, if_neg c5]
  unfold zf_X7_refuseDays
  rw [hR.2.2.2.2.2.2.2, nI_add]
  have hdy : dy Q ≤ 999 := hW.2.2.2.2.2.2
  by_cases k1 : 1 ≤ 10 * dv T (i + 1) + dv T (i + 2)
  · rw [if_neg (by rw [zi_lit1, zi_lt (by omega) (by omega)]; omega)]
    by_cases k2 : 10 * dv T (i + 1) + dv T (i + 2) ≤ 60
    · rw [if_pos (by rw [show (60 : Int32) = nI 60 by decide, zi_le (by omega) (by omega)]; exact k2)]
      by_cases k3 : dy Q + (10 * dv T (i + 1) + dv T (i + 2)) ≤ 999
      · rw [if_pos (by rw [show (999 : Int32) = nI 999 by decide, zi_le (by omega) (by omega)]; exact k3), zbs, if_pos rfl]
        obtain ⟨h2, a1, a2, a3⟩ := c_goDays hR hW (n := 10 * dv T (i + 1) + dv T (i + 2)) (by omega) (by omega)
        rw [a1, zbs, if_pos ⟨k1, k2, k3⟩]
        exact ⟨_, _, rfl, a3, Or.inr ⟨_, rfl, rfl, a2⟩⟩
      · rw [if_neg (by rw [show (999 : Int32) = nI 999 by decide, zi_le (by omega) (by omega)]; exact k3), zbs, if_neg (by decide), if_neg (fun q => k3 q.2.2)]
        exact ⟨_, _, rfl, zE.rf, Or.inl ⟨rfl, rfl⟩⟩
    · rw [if_neg (by rw [show (60 : Int32) = nI 60 by decide, zi_le (by omega) (by omega)]; exact k2), zbs, if_neg (by decide), if_neg (fun q => k2 q.2.1)]
      exact ⟨_, _, rfl, zE.rf, Or.inl ⟨rfl, rfl⟩⟩
  · rw [if_pos (by rw [zi_lit1, zi_lt (by omega) (by omega)]; omega), zbs, if_neg (by decide), if_neg (fun q => k1 q.1)]
    exact ⟨_, _, rfl, zE.rf, Or.inl ⟨rfl, rfl⟩⟩
theorem m_told {g : zHp} {L i j k : Nat} {T : Nat → Int32} {Q : zP} (hk : k < 51) (hp : psS T L i = .inr j) (h73 : g.1 73 k = T i) (ht : tdV T g k (T i) (i + 1)) (hR : RM g Q) (hW : zWF 999 Q) :
    ∃ r g', zf_X11_comesTold (nI k) g = some (r, g') ∧ zEm g g' ∧ ((stp T i Q = none ∧ r = 0) ∨ ∃ Q', stp T i Q = some Q' ∧ r = 1 ∧ RM g' Q') := by
  have ok := ps_dv hp
  obtain ⟨p1, p2, -, -, -⟩ := ps_ok hp
  obtain ⟨n1, n2, n3, n4, n5, n6⟩ := nD_v (c := T i)
  have h7 := hW.2.1
  have n2' := nD_ge p2
  have d1 := (dv_ok (show okD T L (i + 1) = true from ok 0 (by omega))).2.2.1
  have d2 := (dv_ok (show okD T L (i + 2) = true from ok 1 (by omega))).2.2.1
  have b0 : zc_bo (0 : Int32) := Or.inl rfl
  have b1 : zc_bo (1 : Int32) := Or.inr rfl
  obtain ⟨t1, t2, t3, t4⟩ := ht
  unfold zf_X11_comesTold
  rw [show (4 : Int32) * nI k = nI (4 * k) by rw [show (4 : Int32) = nI 4 by decide, pk_mul], zi_one, zi_lit2, nI_add, show (3 : Int32) = nI 3 by decide, nI_add]
  simp only [if_pos (zi_ix (show 4 * k < 204 by omega) (show 204 < 2000000000 by omega)), if_pos (zi_ix (show 4 * k + 1 < 204 by omega) (show 204 < 2000000000 by omega)), if_pos (zi_ix (show 4 * k + 2 < 204 by omega) (show 204 < 2000000000 by omega)), if_pos (zi_ix (show 4 * k + 3 < 204 by omega) (show 204 < 2000000000 by omega)), if_pos (zi_ix hk (show 51 < 2000000000 by omega)), zi_clamp (show 4 * k < 2000000000 by omega), zi_clamp (show 4 * k + 1 < 2000000000 by omega), zi_clamp (show 4 * k + 2 < 2000000000 by omega), zi_clamp (show 4 * k + 3 < 2000000000 by omega), zi_clamp (show k < 2000000000 by omega), zbs, h73]
  unfold stp
  by_cases c1 : T i = 99
  · rw [if_pos c1, if_pos c1]
    have e0 : g.1 74 (4 * k) = nI (10 * dv T (i + 1) + dv T (i + 2)) := t1 (Or.inl c1)
    rw [e0]
    by_cases k1 : 10 * dv T (i + 1) + dv T (i + 2) < 12
    · rw [m_isPlace_in k1, if_pos k1]
      simp only [zbs, z10, if_false, if_pos b1]
      exact ⟨_, _, rfl, zEm.uf (by omega), Or.inr ⟨_, rfl, rfl, RM_ch hR⟩⟩
    · rw [m_isPlace_out (Or.inr (by rw [zi_le (by omega) (by omega)]; omega)), if_neg k1]
      simp only [zbs, if_true, if_pos b0]
      exact ⟨_, _, rfl, zEm.uf (by omega), Or.inl ⟨by trivial, rfl⟩⟩
  rw [if_neg c1, if_neg c1]
  by_cases c2 : T i = 102
  · rw [if_pos c2, if_pos c2]
    obtain ⟨e0, e1⟩ := t2 c2
    rw [e0, e1]
    by_cases k1 : dv T (i + 1) < nV Q
    · rw [m_isOne_in hR h7 k1]
      simp only [zbs, z10, if_false]
      by_cases k2 : dv T (i + 2) < 7
      · rw [if_neg (show ¬ (7 : Int32) ≤ nI (dv T (i + 1 + 1)) by rw [zi_lit7, zi_le (by omega) (by show dv T (i + 2) < 2000000000; omega)]; show ¬ 7 ≤ dv T (i + 2); omega), if_pos (show dv T (i + 1) < nV Q ∧ dv T (i + 2) < 7 from ⟨k1, k2⟩)]
        simp only [zbs, z10, if_false, if_pos b1, if_pos (zi_ix (show dv T (i + 1) < 7 by omega) (show 7 < 2000000000 by omega)), zi_clamp (show dv T (i + 1) < 2000000000 by omega)]
        exact ⟨_, _, rfl, zEm.ua (by omega), Or.inr ⟨_, rfl, rfl, RM_fr hR⟩⟩
      · rw [if_pos (show (7 : Int32) ≤ nI (dv T (i + 1 + 1)) by rw [zi_lit7, zi_le (by omega) (by show dv T (i + 2) < 2000000000; omega)]; show 7 ≤ dv T (i + 2); omega), if_neg (show ¬ (dv T (i + 1) < nV Q ∧ dv T (i + 2) < 7) from fun q => k2 q.2)]
        simp only [zbs, if_true, if_pos b0]
        exact ⟨_, _, rfl, zEm.rf, Or.inl ⟨by trivial, rfl⟩⟩
    · rw [m_isOne_out hR h7 (Or.inr (by rw [zi_le (by omega) (by omega)]; omega)), if_neg (show ¬ (dv T (i + 1) < nV Q ∧ dv T (i + 2) < 7) from fun q => k1 q.1)]
      simp only [zbs, if_true, if_pos b0]
      exact ⟨_, _, rfl, zEm.rf, Or.inl ⟨by trivial, rfl⟩⟩
  rw [if_neg c2, if_neg c2]
  by_cases c3 : T i = 107
  · rw [if_pos c3, if_pos c3]
    obtain ⟨e0, e1⟩ := t3 (Or.inl c3)
    rw [e0, e1]
    by_cases k1 : dv T (i + 1) < nV Q
    · rw [m_isOne_in hR h7 k1, if_pos k1]
      simp only [zbs, z10, if_false, if_pos b1, if_pos (zi_ix (show dv T (i + 1) < 7 by omega) (show 7 < 2000000000 by omega)), zi_clamp (show dv T (i + 1) < 2000000000 by omega)]
      exact ⟨_, _, rfl, zEm.ua (by omega), Or.inr ⟨_, rfl, rfl, RM_sk hR⟩⟩
    · rw [m_isOne_out hR h7 (Or.inr (by rw [zi_le (by omega) (by omega)]; omega)), if_neg k1]
      simp only [zbs, if_true, if_pos b0]
      exact ⟨_, _, rfl, zEm.rf, Or.inl ⟨by trivial, rfl⟩⟩
  rw [if_neg c3, if_neg c3]
  by_cases c4 : T i = 115
  · rw [if_pos c4, if_pos c4]
    rw [n5 c4] at ok
    have d3 := (dv_ok (show okD T L (i + 3) = true from ok 2 (by omega))).2.2.1
    obtain ⟨e0, e1⟩ := t3 (Or.inr c4)
    have e1' : g.1 74 (4 * k + 1) = nI (10 * dv T (i + 2) + dv T (i + 3)) := e1
    rw [e0, e1']
    by_cases k1 : dv T (i + 1) ≤ 5
    · rw [if_neg (by rw [show (5 : Int32) = nI 5 by decide, zi_lt (by omega) (by omega)]; omega)]
      by_cases k2 : 10 * dv T (i + 2) + dv T (i + 3) < 12
      · rw [m_isPlace_in k2, if_pos ⟨k1, k2⟩]
        simp only [zbs, z10, if_false, if_pos b1]
        exact ⟨_, _, rfl, (zEm.uf (by omega)).tr (zEm.uf (by omega)), Or.inr ⟨_, rfl, rfl, RM_sun hR⟩⟩
      · rw [m_isPlace_out (Or.inr (by rw [zi_le (by omega) (by omega)]; omega)), if_neg (fun q => k2 q.2)]
        simp only [zbs, if_true, if_pos b0]
        exact ⟨_, _, rfl, (zEm.uf (by omega)).tr (zEm.uf (by omega)), Or.inl ⟨by trivial, rfl⟩⟩
    · rw [if_pos (by rw [show (5 : Int32) = nI 5 by decide, zi_lt (by omega) (by omega)]; omega), if_neg (fun q => k1 q.1)]
      simp only [zbs, if_true, if_pos b0]
      exact ⟨_, _, rfl, (zEm.uf (by omega)).tr (zEm.uf (by omega)), Or.inl ⟨by trivial, rfl⟩⟩
  rw [if_neg c4, if_neg c4]
  by_cases c5 : T i = 118
  · rw [if_pos c5, if_pos c5]
    rw [n6 c5] at ok
    have d3 := (dv_ok (show okD T L (i + 3) = true from ok 2 (by omega))).2.2.1
    have d4 := (dv_ok (show okD T L (i + 4) = true from ok 3 (by omega))).2.2.1
    have d5 := (dv_ok (show okD T L (i + 5) = true from ok 4 (by omega))).2.2.1
    obtain ⟨e0, e1, e2, e3⟩ := t4 c5
    have e1' : g.1 74 (4 * k + 1) = nI (dv T (i + 2)) := e1
    have e2' : g.1 74 (4 * k + 2) = nI (10 * dv T (i + 3) + dv T (i + 4)) := e2
    have e3' : g.1 74 (4 * k + 3) = nI (dv T (i + 5)) := e3
    rw [e0, e1', e2', e3']
    by_cases q : nV Q < 7 ∧ dv T (i + 1) < 8 ∧ 10 * dv T (i + 3) + dv T (i + 4) < 12 ∧ dv T (i + 5) < 7
    · obtain ⟨g2, a1, a2, a3⟩ := m_one_ok (f := dv T (i + 2)) hR q.1 q.2.1 q.2.2.1 q.2.2.2
      rw [a1, if_pos q]
      simp only [zbs, if_pos b1]
      exact ⟨_, _, rfl, a3, Or.inr ⟨_, rfl, rfl, a2⟩⟩
    · rw [if_neg q]
      have key : zf_X11_oneComes (nI (dv T (i + 1))) (nI (dv T (i + 2))) (nI (10 * dv T (i + 3) + dv T (i + 4))) (nI (dv T (i + 5))) g = some (0, g) := by
        unfold zf_X11_oneComes
        by_cases k2 : dv T (i + 1) < 8
        · rw [if_neg (by rw [show (8 : Int32) = nI 8 by decide, zi_le (by omega) (by omega)]; omega)]
          by_cases k3 : 10 * dv T (i + 3) + dv T (i + 4) < 12
          · rw [m_isPlace_in k3]
            simp only [zbs, z10, if_false]
            by_cases k4 : dv T (i + 5) < 7
            · rw [if_neg (by rw [zi_lit7, zi_le (by omega) (by omega)]; omega), hR.2.1, if_pos (by rw [zi_lit7, zi_le (by omega) (by omega)]; exact Nat.le_of_not_lt (fun z => q ⟨z, k2, k3, k4⟩))]
              simp only [zbs, if_true, if_pos b0]
            · rw [if_pos (by rw [zi_lit7, zi_le (by omega) (by omega)]; omega)]
              simp only [zbs, if_true, if_pos b0]
          · rw [m_isPlace_out (Or.inr (by rw [zi_le (by omega) (by omega)]; omega))]
            simp only [zbs, if_true, if_pos b0]
        · rw [if_pos (by rw [show (8 : Int32) = nI 8 by decide, zi_le (by omega) (by omega)]; omega)]
          simp only [zbs, if_true, if_pos b0]
      rw [key]
      simp only [zbs, if_pos b0]
      exact ⟨_, _, rfl, zEm.rf, Or.inl ⟨by trivial, rfl⟩⟩
  rw [if_neg c5, if_neg c5]
  have c6 : T i = 100 := by
    rcases nD_c p2 with (q | q) | q | q | q | q
    · exact absurd q c1
    · exact q
    · exact absurd q c2
    · exact absurd q c3
    · exact absurd q c4
    · exact absurd q c5
  have e0 : g.1 74 (4 * k) = nI (10 * dv T (i + 1) + dv T (i + 2)) := t1 (Or.inr c6)
  have hdy : dy Q ≤ 999 := hW.2.2.2.2.2.2
  rw [e0]
  unfold zf_X11_daysCome
  rw [m_in32 _ 1 60 (by decide) (by decide), hR.2.2.2.2.2.2, nI_add]
  simp only [zbs]
  by_cases k1 : 1 ≤ 10 * dv T (i + 1) + dv T (i + 2) ∧ 10 * dv T (i + 1) + dv T (i + 2) ≤ 60
  · rw [if_pos (show (1 : Int32) ≤ nI (10 * dv T (i + 1) + dv T (i + 2)) ∧ nI (10 * dv T (i + 1) + dv T (i + 2)) ≤ 60 from ⟨by rw [zi_lit1, zi_le (by omega) (by omega)]; exact k1.1, by rw [show (60 : Int32) = nI 60 by decide, zi_le (by omega) (by omega)]; exact k1.2⟩)]
    simp only [z10, if_false]
    by_cases k3 : dy Q + (10 * dv T (i + 1) + dv T (i + 2)) ≤ 999
    · rw [if_neg (by rw [show (999 : Int32) = nI 999 by decide, zi_lt (by omega) (by omega)]; omega), if_pos ⟨k1.1, k1.2, k3⟩]
      obtain ⟨g2, a1, a2, a3⟩ := m_goDays hR hW (n := 10 * dv T (i + 1) + dv T (i + 2)) (by omega) (by omega)
      simp only [zbs, z10, if_false]
      rw [a1]
      simp only [zbs, if_pos b1]
      exact ⟨_, _, rfl, a3, Or.inr ⟨_, rfl, rfl, a2⟩⟩
    · rw [if_pos (by rw [show (999 : Int32) = nI 999 by decide, zi_lt (by omega) (by omega)]; omega), if_neg (fun q => k3 q.2.2)]
      simp only [zbs, if_true, if_pos b0]
      exact ⟨_, _, rfl, zEm.rf, Or.inl ⟨by trivial, rfl⟩⟩
  · rw [if_neg (show ¬ ((1 : Int32) ≤ nI (10 * dv T (i + 1) + dv T (i + 2)) ∧ nI (10 * dv T (i + 1) + dv T (i + 2)) ≤ 60) from fun q => k1 ⟨by have := q.1; rw [zi_lit1, zi_le (by omega) (by omega)] at this; exact this, by have := q.2; rw [show (60 : Int32) = nI 60 by decide, zi_le (by omega) (by omega)] at this; exact this⟩), if_neg (show ¬ (1 ≤ 10 * dv T (i + 1) + dv T (i + 2) ∧ 10 * dv T (i + 1) + dv T (i + 2) ≤ 60 ∧ dy Q + (10 * dv T (i + 1) + dv T (i + 2)) ≤ 999) from fun q => k1 ⟨q.1, q.2.1⟩)]
    simp only [zbs, if_true, if_pos b0]
    exact ⟨_, _, rfl, zEm.rf, Or.inl ⟨by trivial, rfl⟩⟩

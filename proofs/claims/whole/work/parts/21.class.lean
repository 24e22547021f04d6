/-! a province of the class: what its methods do, in numbers -/
def RC (h : zHp) (p : Nat) (P : zP) : Prop :=
  (∀ v, v < 7 → h.1 (p + 1) v = nI (kd P v) ∧ h.1 (p + 2) v = nI (fg P v) ∧ h.1 (p + 3) v = nI (pl P v) ∧ h.1 (p + 4) v = nI (fr P v) ∧ h.1 (p + 5) v = nI (sk P v)) ∧
  (∀ v, v < nV P → h.1 (p + 6) v = nI (goesN (kd P v) (fg P v)) ∧ h.1 (p + 7) v = nI (bringsN (kd P v) (fg P v)) ∧ h.1 (p + 8) v = nI (eatsN (kd P v) (fg P v))) ∧
  h.1 p 9 = nI (nV P) ∧ h.1 p 10 = nI (ch P) ∧ h.1 p 11 = nI (sp P) ∧ h.1 p 12 = nI (hm P) ∧ h.1 p 13 = nI (nd P) ∧ h.1 p 14 = nI (dy P)
def zE (p : Nat) (h h2 : zHp) : Prop := (∀ a, a < p ∨ p + 8 < a → h2.1 a = h.1 a) ∧ h2.2 = h.2
theorem zE.rf {p : Nat} {h : zHp} : zE p h h := ⟨fun _ _ => rfl, rfl⟩
theorem zE.tr {p : Nat} {h h1 h2 : zHp} (a : zE p h h1) (b : zE p h1 h2) : zE p h h2 := ⟨fun q hq => (b.1 q hq).trans (a.1 q hq), b.2.trans a.2⟩
theorem zE.ui {p a k : Nat} {h : zHp} {x : Int32} (ha : p ≤ a ∧ a ≤ p + 8) : zE p h (zc_ui h a k x) := by
  refine ⟨fun q hq => ?_, rfl⟩
  funext j
  rw [zu_i, if_neg (by omega)]
theorem c_isThere_in {h : zHp} {p : Nat} {P : zP} {D v : Nat} (hR : RC h p P) (hW : zWF D P) (hv : v < nV P) : zf_X7_isThere p (nI v) h = some 1 := by
  have h7 := hW.2.1
  have e : h.1 p 9 = nI (nV P) := hR.2.2.1
  have h1 : ¬ nI v < 0 := nI_pos (by omega)
  have h2 : ¬ nI (nV P) ≤ nI v := by rw [zi_le (by omega) (by omega)]; omega
  simp only [zf_X7_isThere, e, if_neg h1, if_neg h2]
theorem c_isThere_out {h : zHp} {p : Nat} {P : zP} {x : Int32} (hR : RC h p P) (hx : x < 0 ∨ nI (nV P) ≤ x) : zf_X7_isThere p x h = some 0 := by
  have e : h.1 p 9 = nI (nV P) := hR.2.2.1
  unfold zf_X7_isThere
  rw [e]
  by_cases h1 : x < 0
  · rw [if_pos h1]
  · rw [if_neg h1, if_pos (hx.resolve_left h1)]
theorem c_hasSource {h : zHp} {p : Nat} {P : zP} {D v : Nat} (hR : RC h p P) (hW : zWF D P) (hv : v < 7) : zf_X7_hasSource p (nI v) h = some (if fetchN P v then 1 else 0) := by
  have hb := hW.1 v hv
  obtain ⟨e1, e2, e3, e4, e5⟩ := hR.1 v hv
  have h7 := hW.2.1
  simp only [zf_X7_hasSource, zi_clamp (show v < 2000000000 by omega), e4, if_pos (zi_ix hv (by omega)), zi_eq (show fr P v < 2000000000 by omega) (show v < 2000000000 by omega), fetchN]
  by_cases c1 : fr P v = v
  · simp [c1]
  · rw [if_neg c1]
    by_cases c2 : fr P v < nV P
    · rw [c_isThere_in hR hW c2]; simp [c1, c2]
    · rw [c_isThere_out hR (Or.inr (by rw [zi_le (by omega) (by omega)]; omega))]; simp [c1, c2]
theorem c_far {a b : Nat} (ha : a < 12) (hb : b < 12) : zf_X10_far (nI a) (nI b) = some (nI (farN a b)) := by
  have key : ∀ a, a < 12 → ∀ b, b < 12 → zf_X10_far (nI a) (nI b) = some (nI (farN a b)) := by decide +kernel
  exact key a ha b hb
theorem farN_comm (a b : Nat) : farN a b = farN b a := by
  have e : (if a ≤ b then b - a else a - b) = (if b ≤ a then a - b else b - a) := by split <;> split <;> omega
  unfold farN
  rw [e]
theorem c_wayK {k b s f d : Nat} (hk : k < 8) (hb : b ≤ 12) (hs : s ≤ 6) (hf : f ≤ 6) (hd : d < 1000000) : zv_wayOf k (nI b) (nI s) (nI f) (nI d) = some (nI (wayK k b s f d)) := by
  have k1 : ∀ b, b < 13 → zf_X1_wayOf (nI b) (nI s) (nI f) (nI d) = some (nI (b - 1)) := by
    intro b hb
    unfold zf_X1_wayOf
    rw [zi_lit0]
    by_cases h0 : b = 0
    · subst h0; simp only [zi_le (show 0 < 2000000000 by omega) (show 0 < 2000000000 by omega)]; simp
    · rw [if_neg (by rw [zi_le (by omega) (by omega)]; omega), zi_lit1, pk_sub (by omega)]
  have k2 : zf_X2_wayOf (nI b) (nI s) (nI f) (nI d) = some (nI (2 * (b - 1))) := by
    unfold zf_X2_wayOf
    rw [k1 b (by omega)]
    simp only [Option.bind_some, zi_lit2, pk_mul]
  match k, hk with
  | 0, _ => simp only [zv_wayOf, zf_X9_wayOf, wayK]
  | 1, _ => exact k1 b (by omega)
  | 2, _ => simp only [zv_wayOf, zf_X3_wayOf, wayK]
  | 3, _ => simp only [zv_wayOf, zf_X4_wayOf, wayK, nI_add]
  | 4, _ => exact k2
  | 5, _ =>
    simp only [zv_wayOf, zf_X6_wayOf, wayK, zi_lit2]
    rw [pk_div (by omega) (by omega) (by omega)]
  | 6, _ =>
    simp only [zv_wayOf, zf_X0_wayOf, wayK]
    rw [k2]
    simp only [Option.bind_some, zi_lit2]
    rw [zi_rem (by omega) (by omega) (by omega), nI_add]
  | 7, _ => simp only [zv_wayOf, zf_X3_wayOf, wayK]
theorem c_wayTo {h : zHp} {p : Nat} {P : zP} {D v to : Nat} (hR : RC h p P) (hW : zWF D P) (hD : D < 10000) (hv : v < 7) (ht : to < 12) : zf_X7_wayTo p (nI v) (nI to) h = some (nI (wayN P v to)) := by
  have hb := hW.1 v hv
  obtain ⟨e1, e2, e3, e4, e5⟩ := hR.1 v hv
  have hc : ch P < 12 := hW.2.2.1
  have hdy : dy P ≤ D := hW.2.2.2.2.2.2
  have ec : h.1 p 10 = nI (ch P) := hR.2.2.2.1
  have ed : h.1 p 14 = nI (dy P) := hR.2.2.2.2.2.2.2
  have f1 := farN_le hb.2.2.1 hc
  have f2 := farN_le hc ht
  have f3 := farN_le hb.2.2.1 ht
  simp only [zf_X7_wayTo, zi_clamp (show v < 2000000000 by omega), e1, e3, ec, ed, if_pos (zi_ix hv (by omega)), if_pos (zi_ix hb.1 (show 8 < 2000000000 by omega)), c_far hc ht, c_far hb.2.2.1 hc, c_far hb.2.2.1 ht, Option.bind_some, nI_add, zi_clamp (show kd P v < 2000000000 by omega)]
  rw [c_wayK hb.1 (by omega) f3 f2 (by omega)]
  rfl
theorem c_isAble {h : zHp} {p : Nat} {P : zP} {D v : Nat} (hR : RC h p P) (hW : zWF D P) (hD : D < 10000) (hv : v < nV P) : zf_X7_isAble p (nI v) h = some (if ableN P v then 1 else 0) := by
  have h7 := hW.2.1
  have hv7 : v < 7 := by omega
  have hb := hW.1 v hv7
  obtain ⟨e1, e2, e3, e4, e5⟩ := hR.1 v hv7
  obtain ⟨e6, e7, e8⟩ := hR.2.1 v hv
  have e9 := (hR.1 (fr P v) hb.2.2.2.1).2.2.1
  have hb2 := hW.1 (fr P v) hb.2.2.2.1
  have hg : goesN (kd P v) (fg P v) < 2000000000 := by
    have key : ∀ k, k < 8 → ∀ f, f < 10 → goesN k f < 100 := by decide +kernel
    have := key _ hb.1 _ hb.2.1
    omega
  have hwy : wayN P v (pl P (fr P v)) < 2000000000 := by
    have f1 := farN_le hb.2.2.1 hW.2.2.1
    have f2 := farN_le hW.2.2.1 hb2.2.2.1
    have f3 := farN_le hb.2.2.1 hb2.2.2.1
    have hm := Nat.mod_lt (dy P) (show 0 < 2 by decide)
    unfold wayN wayK
    split <;> omega
  simp only [zf_X7_isAble, c_hasSource hR hW hv7, Option.bind_some, zi_clamp (show v < 2000000000 by omega), zi_clamp (show fr P v < 2000000000 by omega), e4, e6, e9, if_pos (zi_ix hv7 (by omega)), if_pos (zi_ix hb.2.2.2.1 (by omega)), c_wayTo hR hW hD hv7 hb2.2.2.1, ableN, zi_lt hg hwy]
  by_cases hf : fetchN P v = true
  rotate_left
  · simp [hf]
  · by_cases c : goesN (kd P v) (fg P v) < wayN P v (pl P (fr P v))
    · have c2 : ¬ wayN P v (pl P (fr P v)) ≤ goesN (kd P v) (fg P v) := by omega
      simp [hf, c, c2]
    · have c2 : wayN P v (pl P (fr P v)) ≤ goesN (kd P v) (fg P v) := by omega
      simp [hf, c, c2]
theorem c_moveChair {h : zHp} {p : Nat} {P : zP} {D : Nat} (hR : RC h p P) (hW : zWF D P) (hD : D < 10000) : ∃ h2, zf_X7_moveChair p h = some h2 ∧ RC h2 p (movN false P) ∧ zE p h h2 := by
  obtain ⟨r1, r2, r3, r4, r5, r6, r7, r8⟩ := hR
  have hc : ch P < 12 := hW.2.2.1
  have hs : sp P ≤ 5 := hW.2.2.2.1
  have hdy : dy P ≤ D := hW.2.2.2.2.2.2
  have key : zf_X7_moveChair p h = some (zc_ui (zc_ui h p 14 (nI (dy P + 1))) p 10 (nI (chN false P))) := by
    have ho : ((nI (dy P + 1) - nI (dy P + 1) / 12 * 12 = 0)) ↔ (dy P + 1) % 12 = 0 := by
      rw [zi_lit12, zi_rem (by omega) (by omega) (by omega), zi_lit0, zi_eq (by omega) (by omega)]
    simp only [zf_X7_moveChair, Option.bind_some, zu_i, r8, zi_one]
    simp only [and_self, if_true, Nat.reduceEqDiff, and_false, if_false, r4, r5, r6, nI_add, ho]
    by_cases hz : (dy P + 1) % 12 = 0
    · simp [chN, hz]
    · rw [if_neg hz]
      simp only [Option.bind_some]
      rw [zi_lit12, zi_rem (by omega) (by omega) (by omega)]
      simp [chN, hz]
  refine ⟨_, key, ⟨fun v hv => ?_, fun v hv => ?_, ?_, ?_, ?_, ?_, ?_, ?_⟩, (zE.ui ⟨Nat.le_refl _, by omega⟩).tr (zE.ui ⟨Nat.le_refl _, by omega⟩)⟩
  · have := r1 v hv
    simp [zu_i]; exact this
  · have := r2 v hv
    simp [zu_i]; exact this
  all_goals simp [zu_i, r3, r4, r5, r6, r7, movN, setCh]
theorem zi_min {a b : Nat} (ha : a < 2000000000) (hb : b < 2000000000) : (if nI a < nI b then nI a else nI b) = nI (min b a) := by
  by_cases c : a < b
  · rw [if_pos ((zi_lt ha hb).mpr c), Nat.min_eq_right (by omega)]
  · rw [if_neg (fun q => c ((zi_lt ha hb).mp q)), Nat.min_eq_left (by omega)]
theorem c_nods {k : Nat} (hk : k < 8) : zv_nodsToHim k = some (if nodsN k then 1 else 0) := by
  have key : ∀ k, k < 8 → zv_nodsToHim k = some (if nodsN k then 1 else 0) := by decide +kernel
  exact key k hk
theorem c_carry {h : zHp} {p : Nat} {P : zP} {D v : Nat} (hR : RC h p P) (hW : zWF D P) (hv : v < nV P) (hf : fetchN P v = true) : ∃ h2, zf_X7_carry p (nI v) (nI (fr P v)) h = some h2 ∧ RC h2 p (carryN P v) ∧ zE p h h2 := by
  have h7 := hW.2.1
  have hv7 : v < 7 := by omega
  have hb := hW.1 v hv7
  have hne : fr P v ≠ v := (of_decide_eq_true hf).1
  have ho7 : fr P v < 7 := hb.2.2.2.1
  have hso := (hW.1 _ ho7).2.2.2.2
  have hsv := hb.2.2.2.2
  obtain ⟨e1, e2, e3, e4, e5⟩ := hR.1 v hv7
  obtain ⟨e6, e7, e8⟩ := hR.2.1 v hv
  have e9 := (hR.1 _ ho7).2.2.2.2
  have hnd : nd P ≤ 9999 := hW.2.2.2.2.2.1
  have en : h.1 p 13 = nI (nd P) := hR.2.2.2.2.2.2.1
  have hbr : bringsN (kd P v) (fg P v) < 100 := by
    have key : ∀ k, k < 8 → ∀ f, f < 10 → bringsN k f < 100 := by decide +kernel
    exact key _ hb.1 _ hb.2.1
  have ht := takeN_le P v
  have ht2 : takeN P v < 100 := by omega
  have et : (if nI (sk P (fr P v)) < nI (bringsN (kd P v) (fg P v)) then nI (sk P (fr P v)) else nI (bringsN (kd P v) (fg P v))) = nI (takeN P v) := by
    rw [zi_min (by omega) (by omega)]; rfl
  have key : zf_X7_carry p (nI v) (nI (fr P v)) h = some (if nodsN (kd P v) then zc_ui (zc_ui (zc_ui h (p + 5) (fr P v) (nI (sk P (fr P v) - takeN P v))) (p + 5) v (nI (min 99 (sk P v + takeN P v)))) p 13 (nI (min 9999 (nd P + 1))) else zc_ui (zc_ui h (p + 5) (fr P v) (nI (sk P (fr P v) - takeN P v))) (p + 5) v (nI (min 99 (sk P v + takeN P v)))) := by
    simp only [zf_X7_carry, zi_clamp (show v < 2000000000 by omega), zi_clamp (show fr P v < 2000000000 by omega), if_pos (zi_ix hv7 (by omega)), if_pos (zi_ix ho7 (by omega)), Option.bind_some, e7, e9, et, pk_sub ht]
    simp only [zu_i, true_and, if_neg (Ne.symm hne), e5, nI_add, zi_lit99]
    rw [zi_min (show sk P v + takeN P v < 2000000000 by omega) (by omega)]
    have ne1 : ¬ (p + 1 = p + 5) := by omega
    have ne2 : ¬ (p = p + 5) := by omega
    simp only [ne1, ne2, false_and, if_false, e1, en, if_pos (zi_ix hb.1 (show 8 < 2000000000 by omega)), zi_clamp (show kd P v < 2000000000 by omega), c_nods hb.1, Option.bind_some, zi_one, zi_lit9999]
    rw [zi_min (show nd P + 1 < 2000000000 by omega) (by omega)]
    by_cases hn : nodsN (kd P v) = true
    · simp [hn]
    · simp [hn]
  have hE1 : zE p h (zc_ui (zc_ui h (p + 5) (fr P v) (nI (sk P (fr P v) - takeN P v))) (p + 5) v (nI (min 99 (sk P v + takeN P v)))) := (zE.ui ⟨by omega, by omega⟩).tr (zE.ui ⟨by omega, by omega⟩)
  obtain ⟨r1, r2, r3, r4, r5, r6, r7, r8⟩ := hR
  refine ⟨_, key, ⟨fun w hw => ?_, fun w hw => ?_, ?_, ?_, ?_, ?_, ?_, ?_⟩, ?_⟩
  · obtain ⟨q1, q2, q3, q4, q5⟩ := r1 w hw
    have hsk : nI (sk (carryN P v) w) = if w = v then nI (min 99 (sk P v + takeN P v)) else if w = fr P v then nI (sk P (fr P v) - takeN P v) else nI (sk P w) := by
      show nI (carrySk P v w) = _
      simp only [carrySk, un, if_neg (Ne.symm hne)]
      by_cases c1 : w = v
      · simp [c1]
      · by_cases c2 : w = fr P v
        · simp [c1, c2, hne]
        · simp [c1, c2]
    rw [hsk]
    refine ⟨?_, ?_, ?_, ?_, ?_⟩
    · by_cases hn : nodsN (kd P v) = true <;> simp [hn, zu_i, q1] <;> rfl
    · by_cases hn : nodsN (kd P v) = true <;> simp [hn, zu_i, q2] <;> rfl
    · by_cases hn : nodsN (kd P v) = true <;> simp [hn, zu_i, q3] <;> rfl
    · by_cases hn : nodsN (kd P v) = true <;> simp [hn, zu_i, q4] <;> rfl
    · by_cases hn : nodsN (kd P v) = true <;> simp [hn, zu_i, q5]
  · have q := r2 w hw
    by_cases hn : nodsN (kd P v) = true <;> simp [hn, zu_i] <;> exact q
  · by_cases hn : nodsN (kd P v) = true <;> simp [hn, zu_i] <;> exact r3
  · by_cases hn : nodsN (kd P v) = true <;> simp [hn, zu_i] <;> exact r4
  · by_cases hn : nodsN (kd P v) = true <;> simp [hn, zu_i] <;> exact r5
  · by_cases hn : nodsN (kd P v) = true <;> simp [hn, zu_i] <;> exact r6
  · by_cases hn : nodsN (kd P v) = true <;> simp [hn, zu_i, carryN, setSk, r7]
  · by_cases hn : nodsN (kd P v) = true <;> simp [hn, zu_i] <;> exact r8
  · by_cases hn : nodsN (kd P v) = true
    · rw [if_pos hn]; exact hE1.tr (zE.ui ⟨Nat.le_refl _, by omega⟩)
    · rw [if_neg hn]; exact hE1

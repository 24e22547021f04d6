/-! the reference's province, in numbers -/
def RM (h : zHp) (P : zP) : Prop :=
  (∀ v, v < 7 → h.1 61 v = nI (kd P v) ∧ h.1 62 v = nI (fg P v) ∧ h.1 63 v = nI (pl P v) ∧ h.1 64 v = nI (fr P v) ∧ h.1 65 v = nI (sk P v)) ∧
  h.1 60 3 = nI (nV P) ∧ h.1 60 0 = nI (ch P) ∧ h.1 60 1 = nI (sp P) ∧ h.1 60 2 = nI (hm P) ∧ h.1 60 9 = nI (nd P) ∧ h.1 60 10 = nI (dy P)
/-- nothing but the province has changed -/
def zEm (h h2 : zHp) : Prop := (∀ a, a < 60 ∨ 65 < a → h2.1 a = h.1 a) ∧ (∀ k, k ≠ 0 → k ≠ 1 → k ≠ 2 → k ≠ 3 → k ≠ 9 → k ≠ 10 → h2.1 60 k = h.1 60 k) ∧ h2.2 = h.2
theorem zEm.rf {h : zHp} : zEm h h := ⟨fun _ _ => rfl, fun _ _ _ _ _ _ _ => rfl, rfl⟩
theorem zEm.tr {h h1 h2 : zHp} (a : zEm h h1) (b : zEm h1 h2) : zEm h h2 := ⟨fun q hq => (b.1 q hq).trans (a.1 q hq), fun k a0 a1 a2 a3 a9 a10 => (b.2.1 k a0 a1 a2 a3 a9 a10).trans (a.2.1 k a0 a1 a2 a3 a9 a10), b.2.2.trans a.2.2⟩
theorem zEm.ua {a k : Nat} {h : zHp} {x : Int32} (ha : 61 ≤ a ∧ a ≤ 65) : zEm h (zc_ui h a k x) := by
  refine ⟨fun q hq => ?_, fun k _ _ _ _ _ _ => ?_, rfl⟩
  · funext j
    rw [zu_i, if_neg (by omega)]
  · rw [zu_i, if_neg (by omega)]
theorem zEm.uf {k : Nat} {h : zHp} {x : Int32} (hk : k = 0 ∨ k = 1 ∨ k = 2 ∨ k = 3 ∨ k = 9 ∨ k = 10) : zEm h (zc_ui h 60 k x) := by
  refine ⟨fun q hq => ?_, fun j a0 a1 a2 a3 a9 a10 => ?_, rfl⟩
  · funext j
    rw [zu_i, if_neg (by omega)]
  · rw [zu_i, if_neg (by omega)]
theorem m_in (a b c : Int64) : zf_X11_in a b c = some (if b ≤ a ∧ a ≤ c then 1 else 0) := by
  unfold zf_X11_in
  by_cases h1 : a < b
  · rw [if_pos ((lg_cmp_lt a b).mpr h1), if_neg (fun q => by have := q.1; rw [Int64.le_iff_toInt_le] at this; rw [Int64.lt_iff_toInt_lt] at h1; omega)]
  · rw [if_neg (fun q => h1 ((lg_cmp_lt a b).mp q))]
    by_cases h2 : c < a
    · rw [if_pos ((lg_cmp_gt a c).mpr h2), if_neg (fun q => by have := q.2; rw [Int64.le_iff_toInt_le] at this; rw [Int64.lt_iff_toInt_lt] at h2; omega)]
    · rw [if_neg (fun q => h2 ((lg_cmp_gt a c).mp q)), if_pos]
      rw [Int64.lt_iff_toInt_lt] at h1 h2
      rw [Int64.le_iff_toInt_le, Int64.le_iff_toInt_le]
      omega
theorem zi_wide {x y : Int32} : x.toInt64 ≤ y.toInt64 ↔ x ≤ y := by
  rw [Int64.le_iff_toInt_le, Int32.le_iff_toInt_le, Int32.toInt_toInt64, Int32.toInt_toInt64]
/-- a range test of an int -/
theorem m_in32 (x lo hi : Int32) {L H : Int64} (hL : L = lo.toInt64) (hH : H = hi.toInt64) : zf_X11_in x.toInt64 L H = some (if lo ≤ x ∧ x ≤ hi then 1 else 0) := by
  rw [m_in, hL, hH]
  simp only [zi_wide]
theorem m_inN {v lo hi : Nat} {L H : Int64} (hL : L = (nI lo).toInt64) (hH : H = (nI hi).toInt64) (h1 : lo ≤ v) (h2 : v ≤ hi) (h3 : hi < 2000000000) : zf_X11_in (nI v).toInt64 L H = some 1 := by
  rw [m_in32 (nI v) (nI lo) (nI hi) hL hH, if_pos ⟨(zi_le (by omega) (by omega)).mpr h1, (zi_le (by omega) (by omega)).mpr h2⟩]
theorem m_farOf {a b : Nat} (ha : a < 12) (hb : b < 12) : zf_X11_farOf (nI a) (nI b) = some (nI (farN a b)) := by
  have key : ∀ a, a < 12 → ∀ b, b < 12 → zf_X11_farOf (nI a) (nI b) = some (nI (farN a b)) := by decide +kernel
  exact key a ha b hb
theorem m_held {a b : Nat} (ha : a < 1000000) (hb : b < 1000000) : zf_X11_held (nI a) (nI b) = some (nI (min b a)) := by
  unfold zf_X11_held
  rw [if_pos (nI_pos' (by omega))]
  by_cases c : a ≤ b
  · rw [if_pos ((zi_le (by omega) (by omega)).mpr c), Nat.min_eq_right c]
  · rw [if_neg (fun q => c ((zi_le (by omega) (by omega)).mp q)), Nat.min_eq_left (by omega)]
theorem m_heldS {a e b : Nat} (ha : a < 1000) (he : e < 1000) (hb : a ≤ b) (hb2 : b < 1000000) : zf_X11_held (nI a - nI e) (nI b) = some (nI (a - e)) := by
  by_cases c : e ≤ a
  · rw [pk_sub c, m_held (by omega) (by omega), Nat.min_eq_right (by omega)]
  · have hneg : nI a - nI e < 0 := pk_sneg (by omega) (by omega)
    unfold zf_X11_held
    rw [if_neg (fun q => by rw [Int32.le_iff_toInt_le] at q; rw [Int32.lt_iff_toInt_lt] at hneg; omega), show a - e = 0 by omega]
    rfl
theorem m_isFetching {h : zHp} {P : zP} {D v : Nat} (hR : RM h P) (hW : zWF D P) (hv : v < 7) : zf_X11_isFetching (nI v) h = some (if fetchN P v then 1 else 0) := by
  have hb := hW.1 v hv
  obtain ⟨e1, e2, e3, e4, e5⟩ := hR.1 v hv
  have h7 := hW.2.1
  have eV := hR.2.1
  simp only [zf_X11_isFetching, zi_clamp (show v < 2000000000 by omega), e4, eV, if_pos (zi_ix hv (show 7 < 2000000000 by omega)), zi_eq (show fr P v < 2000000000 by omega) (show v < 2000000000 by omega), zi_le (show nV P < 2000000000 by omega) (show fr P v < 2000000000 by omega), fetchN]
  by_cases c1 : fr P v = v
  · simp [c1]
  · by_cases c2 : fr P v < nV P
    · have c3 : ¬ nV P ≤ fr P v := by omega
      simp [c1, c2, c3]
    · have c3 : nV P ≤ fr P v := by omega
      simp [c1, c2, c3]
theorem m_goesOf {h : zHp} {P : zP} {D v : Nat} (hR : RM h P) (hW : zWF D P) (hv : v < 7) : zf_X11_goesOf (nI v) h = some (nI (goesN (kd P v) (fg P v))) := by
  have hb := hW.1 v hv
  obtain ⟨e1, e2, e3, e4, e5⟩ := hR.1 v hv
  simp only [zf_X11_goesOf, zi_clamp (show v < 2000000000 by omega), e1, e2, if_pos (zi_ix hv (show 7 < 2000000000 by omega)), Option.bind_some]
  have hk := hb.1
  have hf := hb.2.1
  clear e1 e2 e3 e4 e5 hb hR hW
  generalize kd P v = k at hk ⊢
  generalize fg P v = f at hf ⊢
  revert f
  revert k
  decide +kernel
theorem m_bringsOf {h : zHp} {P : zP} {D v : Nat} (hR : RM h P) (hW : zWF D P) (hv : v < 7) : zf_X11_bringsOf (nI v) h = some (nI (bringsN (kd P v) (fg P v))) := by
  have hb := hW.1 v hv
  obtain ⟨e1, e2, e3, e4, e5⟩ := hR.1 v hv
  simp only [zf_X11_bringsOf, zi_clamp (show v < 2000000000 by omega), e1, e2, if_pos (zi_ix hv (show 7 < 2000000000 by omega)), Option.bind_some]
  have hk := hb.1
  have hf := hb.2.1
  clear e1 e2 e3 e4 e5 hb hR hW
  generalize kd P v = k at hk ⊢
  generalize fg P v = f at hf ⊢
  revert f
  revert k
  decide +kernel
theorem m_eatsOf {h : zHp} {P : zP} {D v : Nat} (hR : RM h P) (hW : zWF D P) (hv : v < 7) : zf_X11_eatsOf (nI v) h = some (nI (eatsN (kd P v) (fg P v))) := by
  have hb := hW.1 v hv
  obtain ⟨e1, e2, e3, e4, e5⟩ := hR.1 v hv
  simp only [zf_X11_eatsOf, zi_clamp (show v < 2000000000 by omega), e1, e2, if_pos (zi_ix hv (show 7 < 2000000000 by omega)), Option.bind_some]
  have hk := hb.1
  have hf := hb.2.1
  clear e1 e2 e3 e4 e5 hb hR hW
  generalize kd P v = k at hk ⊢
  generalize fg P v = f at hf ⊢
  revert f
  revert k
  decide +kernel
theorem m_isNodding {h : zHp} {P : zP} {D v : Nat} (hR : RM h P) (hW : zWF D P) (hv : v < 7) : zf_X11_isNodding (nI v) h = some (if nodsN (kd P v) then 1 else 0) := by
  have hb := hW.1 v hv
  obtain ⟨e1, e2, e3, e4, e5⟩ := hR.1 v hv
  simp only [zf_X11_isNodding, zi_clamp (show v < 2000000000 by omega), e1, if_pos (zi_ix hv (show 7 < 2000000000 by omega))]
  have hk := hb.1
  clear e1 e2 e3 e4 e5 hb hR hW
  generalize kd P v = k at hk ⊢
  revert k
  decide +kernel
theorem m_wayOf {h : zHp} {P : zP} {D v to : Nat} (hR : RM h P) (hW : zWF D P) (hD : D < 10000) (hv : v < 7) (ht : to < 12) : zf_X11_wayOf (nI v) (nI to) h = some (nI (wayN P v to)) := by
  have hb := hW.1 v hv
  obtain ⟨e1, e2, e3, e4, e5⟩ := hR.1 v hv
  have hc : ch P < 12 := hW.2.2.1
  have hdy : dy P ≤ D := hW.2.2.2.2.2.2
  have ec : h.1 60 0 = nI (ch P) := hR.2.2.1
  have ed : h.1 60 10 = nI (dy P) := hR.2.2.2.2.2.2
  have f1 := farN_le hb.2.2.1 hc
  have f2 := farN_le hc ht
  have f3 := farN_le hb.2.2.1 ht
  have er : nI (dy P) - nI (dy P) / 2 * 2 = nI (dy P % 2) := by rw [zi_lit2, zi_rem (by omega) (by omega) (by omega)]
  have hh : zf_X11_held (nI (farN (pl P v) (ch P) + farN (ch P) to) - 1) 99 = some (nI (farN (pl P v) (ch P) + farN (ch P) to - 1)) := by
    rw [zi_lit1, zi_lit99, m_heldS (by omega) (by omega) (by omega) (by omega)]
  simp only [zf_X11_wayOf, zi_clamp (show v < 2000000000 by omega), e1, e3, ec, ed, er, if_pos (zi_ix hv (show 7 < 2000000000 by omega)), m_farOf hc ht, m_farOf hb.2.2.1 hc, m_farOf hb.2.2.1 ht, Option.bind_some, nI_add, hh, wayN]
  have hk := hb.1
  generalize kd P v = k at hk ⊢
  have hm : dy P % 2 < 2 := Nat.mod_lt _ (by decide)
  generalize hB : farN (pl P v) (ch P) + farN (ch P) to = b
  have hb12 : b ≤ 12 := by omega
  match k, hk with
  | 0, _ => rfl
  | 1, _ => rfl
  | 2, _ => rfl
  | 3, _ => rfl
  | 4, _ =>
    show some (2 * nI (b - 1)) = _
    rw [zi_lit2, pk_mul]; rfl
  | 5, _ =>
    show some (nI b / 2) = _
    rw [zi_lit2, pk_div (by omega) (by omega) (by omega)]; rfl
  | 6, _ =>
    show some (2 * nI (b - 1) + nI (dy P % 2)) = _
    rw [zi_lit2, pk_mul, nI_add]; rfl
  | 7, _ => rfl
theorem wayN_lt {P : zP} {D v to : Nat} (hW : zWF D P) (hv : v < 7) (ht : to < 12) : wayN P v to < 100 := by
  have hb := hW.1 v hv
  have f1 := farN_le hb.2.2.1 hW.2.2.1
  have f2 := farN_le hW.2.2.1 ht
  have f3 := farN_le hb.2.2.1 ht
  have hm := Nat.mod_lt (dy P) (show 0 < 2 by decide)
  unfold wayN wayK
  split <;> omega
theorem goesN_lt {k f : Nat} (hk : k < 8) (hf : f < 10) : goesN k f < 100 := by
  have key : ∀ k, k < 8 → ∀ f, f < 10 → goesN k f < 100 := by decide +kernel
  exact key k hk f hf
theorem bringsN_lt {k f : Nat} (hk : k < 8) (hf : f < 10) : bringsN k f < 100 := by
  have key : ∀ k, k < 8 → ∀ f, f < 10 → bringsN k f < 100 := by decide +kernel
  exact key k hk f hf
theorem eatsN_lt {k f : Nat} (hk : k < 8) (hf : f < 10) : eatsN k f < 100 := by
  have key : ∀ k, k < 8 → ∀ f, f < 10 → eatsN k f < 100 := by decide +kernel
  exact key k hk f hf
theorem m_isAble {h : zHp} {P : zP} {D v : Nat} (hR : RM h P) (hW : zWF D P) (hD : D < 10000) (hv : v < 7) : zf_X11_isAble (nI v) h = some (if ableN P v then 1 else 0) := by
  have hb := hW.1 v hv
  have e4 := (hR.1 v hv).2.2.2.1
  have e9 := (hR.1 (fr P v) hb.2.2.2.1).2.2.1
  have hb2 := hW.1 (fr P v) hb.2.2.2.1
  have hg := goesN_lt hb.1 hb.2.1
  have hw := wayN_lt hW hv hb2.2.2.1
  simp only [zf_X11_isAble, m_isFetching hR hW hv, Option.bind_some, zi_b0, zi_clamp (show v < 2000000000 by omega), zi_clamp (show fr P v < 2000000000 by omega), e4, e9, if_pos (zi_ix hv (show 7 < 2000000000 by omega)), if_pos (zi_ix hb.2.2.2.1 (show 7 < 2000000000 by omega)), m_wayOf hR hW hD hv hb2.2.2.1, m_goesOf hR hW hv, ableN, zi_lt (show goesN (kd P v) (fg P v) < 2000000000 by omega) (show wayN P v (pl P (fr P v)) < 2000000000 by omega)]
  by_cases hf : fetchN P v = true
  rotate_left
  · simp [hf]
  · by_cases c : goesN (kd P v) (fg P v) < wayN P v (pl P (fr P v))
    · have c2 : ¬ wayN P v (pl P (fr P v)) ≤ goesN (kd P v) (fg P v) := by omega
      simp [hf, c, c2]
    · have c2 : wayN P v (pl P (fr P v)) ≤ goesN (kd P v) (fg P v) := by omega
      simp [hf, c, c2]

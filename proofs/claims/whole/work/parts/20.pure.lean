/-! what a province is, in numbers, and what a day does to it -/
abbrev zP : Type := (Nat → Nat) × (Nat → Nat) × (Nat → Nat) × (Nat → Nat) × (Nat → Nat) × Nat × Nat × Nat × Nat × Nat × Nat
abbrev kd (P : zP) : Nat → Nat := P.1
abbrev fg (P : zP) : Nat → Nat := P.2.1
abbrev pl (P : zP) : Nat → Nat := P.2.2.1
abbrev fr (P : zP) : Nat → Nat := P.2.2.2.1
abbrev sk (P : zP) : Nat → Nat := P.2.2.2.2.1
abbrev nV (P : zP) : Nat := P.2.2.2.2.2.1
abbrev ch (P : zP) : Nat := P.2.2.2.2.2.2.1
abbrev sp (P : zP) : Nat := P.2.2.2.2.2.2.2.1
abbrev hm (P : zP) : Nat := P.2.2.2.2.2.2.2.2.1
abbrev nd (P : zP) : Nat := P.2.2.2.2.2.2.2.2.2.1
abbrev dy (P : zP) : Nat := P.2.2.2.2.2.2.2.2.2.2
def un (f : Nat → Nat) (k x : Nat) : Nat → Nat := fun j => if j = k then x else f j
def farN (a b : Nat) : Nat := let d := if a ≤ b then b - a else a - b; if d ≤ 6 then d else 12 - d
def wayK (k b s f d : Nat) : Nat := match k with
  | 0 => b
  | 1 => b - 1
  | 2 => s
  | 3 => s + f
  | 4 => 2 * (b - 1)
  | 5 => b / 2
  | 6 => 2 * (b - 1) + d % 2
  | _ => s
def goesN (k f : Nat) : Nat := match k with
  | 0 => 6 + f / 3
  | 1 => 8 + f / 3
  | 2 => f
  | 3 => f / 2
  | 4 => 2 * (8 + f / 3)
  | 5 => 4
  | 6 => 2 * (8 + f / 3) + 1
  | _ => 0
def bringsN (k f : Nat) : Nat := match k with
  | 0 => 3
  | 1 => f
  | 4 => f + 1
  | 5 => f / 2
  | 6 => 9
  | _ => 2
def eatsN (k f : Nat) : Nat := match k with
  | 0 => 2
  | 2 => 2
  | 3 => 0
  | 4 => 1 + f / 3
  | 6 => 2 * (1 + f / 3)
  | _ => 1
def nodsN (k : Nat) : Bool := match k with
  | 2 => false
  | 3 => false
  | 7 => false
  | _ => true
def wayN (P : zP) (v to : Nat) : Nat := wayK (kd P v) (farN (pl P v) (ch P) + farN (ch P) to) (farN (pl P v) to) (farN (ch P) to) (dy P)
def fetchN (P : zP) (v : Nat) : Bool := decide (fr P v ≠ v ∧ fr P v < nV P)
def ableN (P : zP) (v : Nat) : Bool := fetchN P v && decide (wayN P v (pl P (fr P v)) ≤ goesN (kd P v) (fg P v))
def setSk (P : zP) (s : Nat → Nat) (n : Nat) : zP := (kd P, fg P, pl P, fr P, s, nV P, ch P, sp P, hm P, n, dy P)
def setCh (P : zP) (c d : Nat) : zP := (kd P, fg P, pl P, fr P, sk P, nV P, c, sp P, hm P, nd P, d)
def chN (rain : Bool) (P : zP) : Nat := if (dy P + 1) % 12 = 0 then hm P else if rain then ch P else (ch P + sp P) % 12
def movN (rain : Bool) (P : zP) : zP := setCh P (chN rain P) (dy P + 1)
def takeN (P : zP) (v : Nat) : Nat := min (bringsN (kd P v) (fg P v)) (sk P (fr P v))
def carrySk (P : zP) (v : Nat) : Nat → Nat := let s1 := un (sk P) (fr P v) (sk P (fr P v) - takeN P v); un s1 v (min 99 (s1 v + takeN P v))
def carryN (P : zP) (v : Nat) : zP := setSk P (carrySk P v) (if nodsN (kd P v) then min 9999 (nd P + 1) else nd P)
def eatN (P : zP) (v : Nat) : zP := setSk P (un (sk P) v (sk P v - eatsN (kd P v) (fg P v))) (nd P)
def oneN (P : zP) (v : Nat) : zP := eatN (if ableN P v then carryN P v else P) v
def villN : Nat → zP → zP
  | 0, P => P
  | v + 1, P => oneN (villN v P) v
def dayN (rain : Bool) (P : zP) : zP := villN (nV P) (movN rain P)
def daysN : Nat → zP → zP
  | 0, P => P
  | n + 1, P => dayN false (daysN n P)
def sumN (f : Nat → Nat) : Nat → Nat
  | 0 => 0
  | v + 1 => sumN f v + f v
/-- bounds; D: the greatest day -/
def zWF (D : Nat) (P : zP) : Prop := (∀ v, v < 7 → kd P v < 8 ∧ fg P v < 10 ∧ pl P v < 12 ∧ fr P v < 7 ∧ sk P v ≤ 99) ∧ nV P ≤ 7 ∧ ch P < 12 ∧ sp P ≤ 5 ∧ hm P < 12 ∧ nd P ≤ 9999 ∧ dy P ≤ D
theorem farN_le {a b : Nat} (ha : a < 12) (hb : b < 12) : farN a b ≤ 6 := by
  have key : ∀ a, a < 12 → ∀ b, b < 12 → farN a b ≤ 6 := by decide +kernel
  exact key a ha b hb
theorem takeN_le (P : zP) (v : Nat) : takeN P v ≤ sk P (fr P v) := Nat.min_le_right _ _
theorem carrySk_le {P : zP} {v : Nat} {D : Nat} (hP : zWF D P) (hv : v < 7) : ∀ w, w < 7 → carrySk P v w ≤ 99 := by
  intro w hw
  have h1 := (hP.1 w hw).2.2.2.2
  have h2 := (hP.1 (fr P v) (hP.1 v hv).2.2.2.1).2.2.2.2
  simp only [carrySk, un]
  by_cases e1 : w = v
  · rw [if_pos e1]; exact Nat.min_le_left _ _
  · rw [if_neg e1]
    by_cases e2 : w = fr P v
    · rw [if_pos e2]; omega
    · rw [if_neg e2]; exact h1
theorem carryN_wf {P : zP} {v D : Nat} (hP : zWF D P) (hv : v < 7) : zWF D (carryN P v) := by
  have hs := carrySk_le hP hv
  obtain ⟨h1, h2, h3, h4, h5, h6, h7⟩ := hP
  refine ⟨fun w hw => ⟨(h1 w hw).1, (h1 w hw).2.1, (h1 w hw).2.2.1, (h1 w hw).2.2.2.1, hs w hw⟩, h2, h3, h4, h5, ?_, h7⟩
  show (if nodsN (kd P v) then min 9999 (nd P + 1) else nd P) ≤ 9999
  split
  · exact Nat.min_le_left _ _
  · exact h6
theorem eatN_wf {P : zP} {v D : Nat} (hP : zWF D P) : zWF D (eatN P v) := by
  obtain ⟨h1, h2, h3, h4, h5, h6, h7⟩ := hP
  refine ⟨fun w hw => ⟨(h1 w hw).1, (h1 w hw).2.1, (h1 w hw).2.2.1, (h1 w hw).2.2.2.1, ?_⟩, h2, h3, h4, h5, h6, h7⟩
  show un (sk P) v (sk P v - eatsN (kd P v) (fg P v)) w ≤ 99
  have h8 := (h1 w hw).2.2.2.2
  simp only [un]
  by_cases e : w = v
  · rw [if_pos e]; subst e; omega
  · rw [if_neg e]; exact h8
theorem oneN_wf {P : zP} {v D : Nat} (hP : zWF D P) (hv : v < 7) : zWF D (oneN P v) := by
  unfold oneN
  apply eatN_wf
  split
  · exact carryN_wf hP hv
  · exact hP
theorem oneN_V (P : zP) (v : Nat) : nV (oneN P v) = nV P := by
  unfold oneN eatN
  split <;> rfl
theorem villN_V : ∀ (n : Nat) (P : zP), nV (villN n P) = nV P
  | 0, _ => rfl
  | n + 1, P => by rw [villN, oneN_V, villN_V n P]
theorem villN_wf {D : Nat} : ∀ {n : Nat} {P : zP}, zWF D P → n ≤ 7 → zWF D (villN n P)
  | 0, _, h, _ => h
  | n + 1, P, h, hn => oneN_wf (villN_wf (n := n) h (by omega)) (by omega)
theorem chN_lt {P : zP} {rain : Bool} {D : Nat} (hP : zWF D P) : chN rain P < 12 := by
  unfold chN
  split
  · exact hP.2.2.2.2.1
  · split
    · exact hP.2.2.1
    · exact Nat.mod_lt _ (by decide)
theorem movN_wf {P : zP} {rain : Bool} {D : Nat} (hP : zWF D P) : zWF (D + 1) (movN rain P) := by
  have hc := chN_lt (rain := rain) hP
  obtain ⟨h1, h2, h3, h4, h5, h6, h7⟩ := hP
  exact ⟨h1, h2, hc, h4, h5, h6, by show dy P + 1 ≤ D + 1; omega⟩
theorem dayN_wf {P : zP} {rain : Bool} {D : Nat} (hP : zWF D P) : zWF (D + 1) (dayN rain P) := villN_wf (movN_wf hP) hP.2.1
theorem dayN_V (P : zP) (rain : Bool) : nV (dayN rain P) = nV P := by unfold dayN; rw [villN_V]; rfl
theorem daysN_V : ∀ (n : Nat) (P : zP), nV (daysN n P) = nV P
  | 0, _ => rfl
  | n + 1, P => by rw [daysN, dayN_V, daysN_V n P]
theorem daysN_wf {D : Nat} : ∀ {n : Nat} {P : zP}, zWF D P → zWF (D + n) (daysN n P)
  | 0, _, h => h
  | n + 1, P, h => dayN_wf (daysN_wf (n := n) h)
theorem zWF_mono {D E : Nat} {P : zP} (h : zWF D P) (hDE : D ≤ E) : zWF E P := by
  obtain ⟨h1, h2, h3, h4, h5, h6, h7⟩ := h
  exact ⟨h1, h2, h3, h4, h5, h6, by omega⟩
/-! heaps read and written -/
theorem zu_i (h : zHp) (a k : Nat) (x : Int32) (b j : Nat) : (zc_ui h a k x).1 b j = if b = a ∧ j = k then x else h.1 b j := by
  simp only [zc_ui, va_up, upd]
  by_cases e : b = a
  · subst e; simp [upd]
  · simp [e]
theorem zu_i2 (h : zHp) (a k : Nat) (x : Int32) : (zc_ui h a k x).2 = h.2 := rfl
theorem zu_r (h : zHp) (a : Nat) (f : Nat → Int32) (b j : Nat) : (zc_ri h a f).1 b j = if b = a then f j else h.1 b j := by
  simp only [zc_ri, va_up]
  by_cases e : b = a
  · subst e; simp
  · simp [e]
theorem zu_r2 (h : zHp) (a : Nat) (f : Nat → Int32) : (zc_ri h a f).2 = h.2 := rfl
theorem zu_l (h : zHp) (a k : Nat) (x : Int64) (b j : Nat) : (zc_ul h a k x).2 b j = if b = a ∧ j = k then x else h.2 b j := by
  simp only [zc_ul, va_up, vp_updL]
  by_cases e : b = a
  · subst e; simp [vp_updL]
  · simp [e]
theorem zu_l1 (h : zHp) (a k : Nat) (x : Int64) : (zc_ul h a k x).1 = h.1 := rfl
/-! small numbers as Int32 -/
theorem zi_clamp {n : Nat} (h : n < 2000000000) : (nI n).toNatClampNeg = n := nI_clamp (by omega)
theorem zi_ix {n N : Nat} (h : n < N) (hN : N < 2000000000) : zc_ix (nI n) N := nI_in h (by omega)
theorem zi_lt {a b : Nat} (ha : a < 2000000000) (hb : b < 2000000000) : nI a < nI b ↔ a < b := nI_ltI (by omega) (by omega)
theorem zi_le {a b : Nat} (ha : a < 2000000000) (hb : b < 2000000000) : nI a ≤ nI b ↔ a ≤ b := nI_leI (by omega) (by omega)
theorem zi_eq {a b : Nat} (ha : a < 2000000000) (hb : b < 2000000000) : nI a = nI b ↔ a = b := nI_eq (by omega) (by omega)
theorem zi_rem {a d : Nat} (ha : a < 2000000000) (h0 : 0 < d) (hd : d < 2000000000) : nI a - nI a / nI d * nI d = nI (a % d) := pk_rem (by omega) h0 (by omega)
theorem zi_lit0 : (0 : Int32) = nI 0 := by decide
theorem zi_lit1 : (1 : Int32) = nI 1 := by decide
theorem zi_lit2 : (2 : Int32) = nI 2 := by decide
theorem zi_lit7 : (7 : Int32) = nI 7 := by decide
theorem zi_lit12 : (12 : Int32) = nI 12 := by decide
theorem zi_lit99 : (99 : Int32) = nI 99 := by decide
theorem zi_lit9999 : (9999 : Int32) = nI 9999 := by decide
theorem zi_one (n : Nat) : nI n + 1 = nI (n + 1) := nI_1 n
theorem zi_c0 : (0 : Int32).toNatClampNeg = 0 := by decide
theorem zi_c7 : (7 : Int32).toNatClampNeg = 7 := by decide
theorem zo_ite {α : Type} {c : Prop} [Decidable c] (a b : α) : (if c then some a else some b) = some (if c then a else b) := by split <;> rfl
theorem zi_dec (b : Bool) : ((if b then (1 : Int32) else 0) = 0) ↔ b = false := by cases b <;> decide

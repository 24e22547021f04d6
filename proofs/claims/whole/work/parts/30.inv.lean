/-! become, and what holds between two calls -/
theorem zcp7 (f g : Nat → Int32) (v : Nat) : va_cpy f g (0 : Int32).toNatClampNeg (0 : Int32).toNatClampNeg (7 : Int32).toNatClampNeg v = if v < 7 then f v else g v := by
  rw [zi_c0, zi_c7]
  unfold va_cpy
  by_cases c : v < 7
  · rw [if_pos ⟨by omega, by omega⟩, if_pos c]; congr 1; omega
  · rw [if_neg (by omega), if_neg c]
/-- a value gets a name -/
theorem zb_let {α β : Type} {e : α} {f : α → Option β} {Q : β → Prop} (h : ∀ g, g = e → ∃ b, f g = some b ∧ Q b) : ∃ b, (some e).bind f = some b ∧ Q b := h e rfl
/-- so many rows, so many numbers have come over -/
def bec (p x n m : Nat) (h g : zHp) : Prop := (∀ j v, 1 ≤ j → j ≤ n → v < 7 → g.1 (p + j) v = h.1 (x + j) v) ∧ (∀ k, 9 ≤ k → k < 9 + m → g.1 p k = h.1 x k) ∧ (∀ j, j ≤ 8 → g.1 (x + j) = h.1 (x + j)) ∧ zE p h g
theorem bec_r {p x n : Nat} {h g : zHp} (hs : ∀ j, j ≤ 8 → x + j < p ∨ p + 8 < x + j) (hn : n < 8) (hB : bec p x n 0 h g) : bec p x (n + 1) 0 h (zc_ri g (p + (n + 1)) (va_cpy (g.1 (x + (n + 1))) (g.1 (p + (n + 1))) (0 : Int32).toNatClampNeg (0 : Int32).toNatClampNeg (7 : Int32).toNatClampNeg)) := by
  obtain ⟨b1, b2, b3, b4⟩ := hB
  refine ⟨fun j v h1 h2 h3 => ?_, fun k h1 h2 => absurd h1 (by omega), fun j hj => ?_, ⟨fun a ha => ?_, b4.2⟩⟩
  · rw [zu_r, zcp7, if_pos h3]
    by_cases c : j = n + 1
    · subst c; rw [if_pos rfl, b3 _ (by omega)]
    · rw [if_neg (by omega), b1 j v h1 (by omega) h3]
  · funext v
    have := hs j hj
    rw [zu_r, if_neg (by omega), b3 j hj]
  · funext v
    rw [zu_r, if_neg (by omega), b4.1 a ha]
theorem bec_s {p x m : Nat} {h g : zHp} (hs : ∀ j, j ≤ 8 → x + j < p ∨ p + 8 < x + j) (hB : bec p x 8 m h g) : bec p x 8 (m + 1) h (zc_ui g p (9 + m) (g.1 x (9 + m))) := by
  obtain ⟨b1, b2, b3, b4⟩ := hB
  refine ⟨fun j v h1 h2 h3 => ?_, fun k h1 h2 => ?_, fun j hj => ?_, ⟨fun a ha => ?_, b4.2⟩⟩
  · rw [zu_i, if_neg (by omega), b1 j v h1 h2 h3]
  · rw [zu_i]
    by_cases c : k = 9 + m
    · subst c; rw [if_pos ⟨rfl, rfl⟩]; exact congrFun (b3 0 (by omega)) _
    · rw [if_neg (by omega), b2 k h1 (by omega)]
  · funext v
    have := hs j hj
    rw [zu_i, if_neg (by omega), b3 j hj]
  · funext v
    rw [zu_i, if_neg (by omega), b4.1 a ha]
theorem c_become {h : zHp} {p x : Nat} {P : zP} (hp : p = 16 ∨ p = 25 ∨ p = 34) (hx : x = 16 ∨ x = 25 ∨ x = 34) (hne : p ≠ x) (hR : RC h x P) (hV : nV P ≤ 7) : ∃ h2, zf_X7_become p x h = some h2 ∧ RC h2 p P ∧ zE p h h2 := by
  have hs : ∀ j, j ≤ 8 → x + j < p ∨ p + 8 < x + j := fun j hj => by omega
  have key : ∃ h2, zf_X7_become p x h = some h2 ∧ (∀ j v, 1 ≤ j → j ≤ 8 → v < 7 → h2.1 (p + j) v = h.1 (x + j) v) ∧ (∀ k, 9 ≤ k → k ≤ 14 → h2.1 p k = h.1 x k) ∧ zE p h h2 := by
    have B0 : bec p x 0 0 h h := ⟨fun j v h1 h2 _ => absurd h1 (by omega), fun k h1 h2 => absurd h1 (by omega), fun _ _ => rfl, zE.rf⟩
    have fin : ∀ g, bec p x 8 6 h g → (∀ j v, 1 ≤ j → j ≤ 8 → v < 7 → g.1 (p + j) v = h.1 (x + j) v) ∧ (∀ k, 9 ≤ k → k ≤ 14 → g.1 p k = h.1 x k) ∧ zE p h g := fun g B => ⟨B.1, fun k h1 h2 => B.2.1 k h1 (by omega), B.2.2.2⟩
    unfold zf_X7_become
    refine zb_let (fun g1 e => ?_)
    have B1 := bec_r hs (by omega) B0; rw [← e] at B1; clear e
    refine zb_let (fun g2 e => ?_)
    have B2 := bec_r hs (by omega) B1; rw [← e] at B2; clear e
    refine zb_let (fun g3 e => ?_)
    have B3 := bec_r hs (by omega) B2; rw [← e] at B3; clear e
    refine zb_let (fun g4 e => ?_)
    have B4 := bec_r hs (by omega) B3; rw [← e] at B4; clear e
    refine zb_let (fun g5 e => ?_)
    have B5 := bec_r hs (by omega) B4; rw [← e] at B5; clear e
    refine zb_let (fun g6 e => ?_)
    have B6 := bec_r hs (by omega) B5; rw [← e] at B6; clear e
    refine zb_let (fun g7 e => ?_)
    have B7 := bec_r hs (by omega) B6; rw [← e] at B7; clear e
    refine zb_let (fun g8 e => ?_)
    have B8 := bec_r hs (by omega) B7; rw [← e] at B8; clear e
    refine zb_let (fun g9 e => ?_)
    have B9 := bec_s hs B8; rw [← e] at B9; clear e
    refine zb_let (fun g10 e => ?_)
    have B10 := bec_s hs B9; rw [← e] at B10; clear e
    refine zb_let (fun g11 e => ?_)
    have B11 := bec_s hs B10; rw [← e] at B11; clear e
    refine zb_let (fun g12 e => ?_)
    have B12 := bec_s hs B11; rw [← e] at B12; clear e
    refine zb_let (fun g13 e => ?_)
    have B13 := bec_s hs B12; rw [← e] at B13; clear e
    refine zb_let (fun g14 e => ?_)
    have B14 := bec_s hs B13; rw [← e] at B14; clear e
    exact ⟨g14, rfl, fin g14 B14⟩
  obtain ⟨h2, g1, g2, g3, g4⟩ := key
  obtain ⟨r1, r2, r3, r4, r5, r6, r7, r8⟩ := hR
  refine ⟨h2, g1, ⟨fun v hv => ?_, fun v hv => ?_, ?_, ?_, ?_, ?_, ?_, ?_⟩, g4⟩
  · rw [g2 1 v (by omega) (by omega) hv, g2 2 v (by omega) (by omega) hv, g2 3 v (by omega) (by omega) hv, g2 4 v (by omega) (by omega) hv, g2 5 v (by omega) (by omega) hv]; exact r1 v hv
  · rw [g2 6 v (by omega) (by omega) (by omega), g2 7 v (by omega) (by omega) (by omega), g2 8 v (by omega) (by omega) (by omega)]; exact r2 v hv
  · rw [g3 9 (by omega) (by omega)]; exact r3
  · rw [g3 10 (by omega) (by omega)]; exact r4
  · rw [g3 11 (by omega) (by omega)]; exact r5
  · rw [g3 12 (by omega) (by omega)]; exact r6
  · rw [g3 13 (by omega) (by omega)]; exact r7
  · rw [g3 14 (by omega) (by omega)]; exact r8
theorem RC_of {h h2 : zHp} {p : Nat} {P : zP} (hR : RC h p P) (e : ∀ a, p ≤ a → a ≤ p + 8 → h2.1 a = h.1 a) : RC h2 p P := by
  unfold RC at hR ⊢
  rw [e p (by omega) (by omega), e (p + 1) (by omega) (by omega), e (p + 2) (by omega) (by omega), e (p + 3) (by omega) (by omega), e (p + 4) (by omega) (by omega), e (p + 5) (by omega) (by omega), e (p + 6) (by omega) (by omega), e (p + 7) (by omega) (by omega), e (p + 8) (by omega) (by omega)]
  exact hR
theorem RM_of2 {h h2 : zHp} {P : zP} (hR : RM h P) (e : ∀ a, 60 ≤ a → a ≤ 65 → h2.1 a = h.1 a) : RM h2 P := RM_of hR (fun a h1 h2 => e a (by omega) h2) (fun k _ => by rw [e 60 (by omega) (by omega)])
/-- shelves: what is held, kind, figure, sort, length, elements -/
abbrev zS : Type := Nat → Nat × Nat × Nat × Nat × Nat × (Nat → Int32)
def zSW (S : zS) : Prop := ∀ d, d < 8 → (S d).1 ≤ 2 ∧ (S d).2.1 < 8 ∧ (S d).2.2.1 < 10 ∧ (S d).2.2.2.1 ≤ 2 ∧ (S d).2.2.2.2.1 ≤ 100
def SC (h : zHp) (S : zS) : Prop := ∀ d, d < 8 → h.1 (44 + 2 * d) 0 = nI (S d).1 ∧ ((S d).1 = 1 → h.1 (44 + 2 * d) 1 = nI (S d).2.1 ∧ h.1 (44 + 2 * d) 2 = nI (S d).2.2.1) ∧ h.1 (44 + 2 * d) 3 = nI (S d).2.2.2.1 ∧ h.1 (44 + 2 * d) 4 = nI (S d).2.2.2.2.1 ∧ ∀ i, i < 100 → h.1 (44 + 2 * d + 1) i = (S d).2.2.2.2.2 i
def SM (h : zHp) (S : zS) : Prop := ∀ d, d < 8 → h.1 66 d = nI (S d).1 ∧ ((S d).1 = 1 → h.1 67 d = nI (S d).2.1 ∧ h.1 68 d = nI (S d).2.2.1) ∧ h.1 69 d = nI (S d).2.2.2.1 ∧ h.1 70 d = nI (S d).2.2.2.2.1 ∧ ∀ i, i < 100 → h.2 71 (100 * d + i) = ((S d).2.2.2.2.2 i).toInt64
/-- the class between two calls -/
def CI (h : zHp) (P : zP) (I : Option zP) (S : zS) : Prop := zWF 999 P ∧ RC h 16 P ∧ h.1 0 4 = (if I.isSome then 1 else 0) ∧ (∀ Q, I = some Q → zWF 999 Q ∧ RC h 34 Q) ∧ zSW S ∧ SC h S
/-- the reference between two calls -/
def MI (h : zHp) (P : zP) (I : Option zP) (S : zS) : Prop := RM h P ∧ h.1 60 27 = (if I.isSome then 1 else 0) ∧ (∀ Q, I = some Q → KA h 76 Q) ∧ SM h S
/-- questions leave the class so -/
def zEC (h h2 : zHp) : Prop := (∀ a, a = 0 ∨ (16 ≤ a ∧ a ≤ 24) ∨ 34 ≤ a → h2.1 a = h.1 a) ∧ ∀ a, 60 ≤ a → h2.2 a = h.2 a
theorem zEC.rf {h : zHp} : zEC h h := ⟨fun _ _ => rfl, fun _ _ => rfl⟩
theorem zEC.tr {h h1 h2 : zHp} (x : zEC h h1) (y : zEC h1 h2) : zEC h h2 := ⟨fun a ha => (y.1 a ha).trans (x.1 a ha), fun a ha => (y.2 a ha).trans (x.2 a ha)⟩
theorem zE.C {h h2 : zHp} (x : zE 25 h h2) : zEC h h2 := ⟨fun a ha => x.1 a (by omega), fun a _ => by rw [x.2]⟩
theorem zEC.u {h : zHp} {a k : Nat} {x : Int32} (ha : (0 < a ∧ a < 16) ∨ (24 < a ∧ a < 34)) : zEC h (zc_ui h a k x) := by
  refine ⟨fun q hq => ?_, fun _ _ => rfl⟩
  funext j
  rw [zu_i, if_neg (by omega)]
theorem zEC.ul {h : zHp} {a k : Nat} {x : Int64} (ha : a < 60) : zEC h (zc_ul h a k x) := by
  refine ⟨fun q hq => rfl, fun q hq => ?_⟩
  funext j
  rw [zu_l, if_neg (by omega)]
theorem zEC.CI {h h2 : zHp} {P : zP} {I : Option zP} {S : zS} (x : zEC h h2) (hC : CI h P I S) : CI h2 P I S := by
  obtain ⟨c1, c2, c3, c4, c5, c6⟩ := hC
  refine ⟨c1, RC_of c2 (fun a h1 h2 => x.1 a (by omega)), by rw [x.1 0 (by omega)]; exact c3, fun Q hQ => ⟨(c4 Q hQ).1, RC_of (c4 Q hQ).2 (fun a h1 h2 => x.1 a (by omega))⟩, c5, fun d hd => ?_⟩
  rw [x.1 (44 + 2 * d) (by omega), x.1 (44 + 2 * d + 1) (by omega)]; exact c6 d hd
/-- the other side, untouched -/
def zFC (h h2 : zHp) : Prop := ∀ a, 60 ≤ a → h2.1 a = h.1 a ∧ h2.2 a = h.2 a
def zFM (h h2 : zHp) : Prop := ∀ a, a < 60 ∨ 80 ≤ a → h2.1 a = h.1 a ∧ h2.2 a = h.2 a
theorem zEC.F {h h2 : zHp} (x : zEC h h2) : zFC h h2 := fun a ha => ⟨x.1 a (by omega), x.2 a ha⟩
theorem zEM.F {h h2 : zHp} (x : zEM h h2) : zFM h h2 := fun a ha => ⟨x.1 a (by unfold zK; omega), x.2.2 a (by omega)⟩
theorem zEM.MI {h h2 : zHp} {P P2 : zP} {I : Option zP} {S : zS} (x : zEM h h2) (hM : MI h P I S) (hR : RM h2 P2) : MI h2 P2 I S := by
  obtain ⟨m1, m2, m3, m4⟩ := hM
  refine ⟨hR, by rw [x.2.1]; exact m2, fun Q hQ => KA_of (m3 Q hQ) (x.1 76 (by unfold zK; omega)), fun d hd => ?_⟩
  rw [x.1 66 (by unfold zK; omega), x.1 67 (by unfold zK; omega), x.1 68 (by unfold zK; omega), x.1 69 (by unfold zK; omega), x.1 70 (by unfold zK; omega), x.2.2 71 (by omega)]; exact m4 d hd
theorem zFC.MI {h h2 : zHp} {P : zP} {I : Option zP} {S : zS} (x : zFC h h2) (hM : MI h P I S) : MI h2 P I S := by
  obtain ⟨m1, m2, m3, m4⟩ := hM
  refine ⟨RM_of2 m1 (fun a h1 _ => (x a h1).1), by rw [(x 60 (by omega)).1]; exact m2, fun Q hQ => KA_of (m3 Q hQ) (x 76 (by omega)).1, fun d hd => ?_⟩
  rw [(x 66 (by omega)).1, (x 67 (by omega)).1, (x 68 (by omega)).1, (x 69 (by omega)).1, (x 70 (by omega)).1, (x 71 (by omega)).2]; exact m4 d hd
theorem zFM.CI {h h2 : zHp} {P : zP} {I : Option zP} {S : zS} (x : zFM h h2) (hC : CI h P I S) : CI h2 P I S := by
  obtain ⟨c1, c2, c3, c4, c5, c6⟩ := hC
  refine ⟨c1, RC_of c2 (fun a h1 h2 => (x a (by omega)).1), by rw [(x 0 (by omega)).1]; exact c3, fun Q hQ => ⟨(c4 Q hQ).1, RC_of (c4 Q hQ).2 (fun a h1 h2 => (x a (by omega)).1)⟩, c5, fun d hd => ?_⟩
  rw [(x (44 + 2 * d) (by omega)).1, (x (44 + 2 * d + 1) (by omega)).1]; exact c6 d hd
/-- two calls with one answer keep what holds -/
def zINV (h : zHp) : Prop := ∃ P I S, CI h P I S ∧ MI h P I S
def zOK (f g : zHp → Option (Int32 × zHp)) : Prop := ∀ h, zINV h → ∃ r h1 h2, f h = some (r, h1) ∧ g h1 = some (r, h2) ∧ zINV h2
def zOKL (f g : zHp → Option (Int64 × zHp)) : Prop := ∀ h, zINV h → ∃ r h1 h2, f h = some (r, h1) ∧ g h1 = some (r, h2) ∧ zINV h2
/-- for a call of the class that writes nothing -/
def zOKp (f : zHp → Option Int32) (g : zHp → Option (Int32 × zHp)) : Prop := ∀ h, zINV h → ∃ r h2, f h = some r ∧ g h = some (r, h2) ∧ zINV h2
def zOKLp (f : zHp → Option Int64) (g : zHp → Option (Int64 × zHp)) : Prop := ∀ h, zINV h → ∃ r h2, f h = some r ∧ g h = some (r, h2) ∧ zINV h2
/-- a question, answered alike -/
theorem zOK_ask {f g : zHp → Option (Int32 × zHp)} (ans : zP → zS → Int32) (hf : ∀ h P I S, CI h P I S → ∃ h2, f h = some (ans P S, h2) ∧ zEC h h2) (hg : ∀ h P I S, zWF 999 P → zSW S → MI h P I S → ∃ h2, g h = some (ans P S, h2) ∧ RM h2 P ∧ zEM h h2) : zOK f g := by
  intro h hI
  obtain ⟨P, I, S, hC, hM⟩ := hI
  obtain ⟨h1, a1, a2⟩ := hf h P I S hC
  have hC1 := a2.CI hC
  have hM1 := a2.F.MI hM
  obtain ⟨h2, b1, b2, b3⟩ := hg h1 P I S hC.1 hC.2.2.2.2.1 hM1
  exact ⟨_, h1, h2, a1, b1, P, I, S, b3.F.CI hC1, b3.MI hM1 b2⟩
theorem zOKp_ask {f : zHp → Option Int32} {g : zHp → Option (Int32 × zHp)} (ans : zP → zS → Int32) (hf : ∀ h P I S, CI h P I S → f h = some (ans P S)) (hg : ∀ h P I S, zWF 999 P → zSW S → MI h P I S → ∃ h2, g h = some (ans P S, h2) ∧ RM h2 P ∧ zEM h h2) : zOKp f g := by
  intro h hI
  obtain ⟨P, I, S, hC, hM⟩ := hI
  obtain ⟨h2, b1, b2, b3⟩ := hg h P I S hC.1 hC.2.2.2.2.1 hM
  exact ⟨_, h2, hf h P I S hC, b1, P, I, S, b3.F.CI hC, b3.MI hM b2⟩

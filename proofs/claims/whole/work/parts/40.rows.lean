/-! rows on the shelves -/
theorem lc_eq (x y : Int32) : (lg_cmp x.toInt64 y.toInt64 = 0) ↔ x = y := by
  rw [lg_cmp_eq]
  constructor
  · intro h
    apply Int32.toInt_inj.mp
    have := congrArg Int64.toInt h
    rwa [Int32.toInt_toInt64, Int32.toInt_toInt64] at this
  · intro h; rw [h]
theorem zEC.S {h g : zHp} {S : zS} (x : zEC h g) (hS : SC h S) : SC g S := fun d hd => by
  rw [x.1 (44 + 2 * d) (by omega), x.1 (44 + 2 * d + 1) (by omega)]; exact hS d hd
theorem zEM.S {h g : zHp} {S : zS} (x : zEM h g) (hS : SM h S) : SM g S := fun d hd => by
  rw [x.1 66 (by unfold zK; omega), x.1 67 (by unfold zK; omega), x.1 68 (by unfold zK; omega), x.1 69 (by unfold zK; omega), x.1 70 (by unfold zK; omega), x.2.2 71 (by omega)]; exact hS d hd
def refI (n : Nat) : Int32 := if n = 0 then -11 else if n = 2 then 0 else -12
theorem refI_2 : refI 2 = 0 := by decide
theorem refI_n {n : Nat} (h : n ≤ 2) (h2 : n ≠ 2) : refI n < 0 := by
  have : n = 0 ∨ n = 1 := by omega
  rcases this with rfl | rfl <;> decide
theorem c_ref_out {h : zHp} {x : Int32} (hx : x < 0 ∨ nI 8 ≤ x) : zf_X10_refuseRow x h = some (-1) := by
  unfold zf_X10_refuseRow zf_X10_refuseAllBut
  rw [c_isShelf_out hx]
  rfl
theorem m_ref_out {h : zHp} {x : Int32} (hx : x < 0 ∨ nI 8 ≤ x) : zf_X11_wrongRow x h = some (-1) := by
  unfold zf_X11_wrongRow
  rw [m_in_out (N := 8) (by omega) (by omega) (by decide) hx]
  rfl
theorem c_ref_in {h : zHp} {S : zS} {d : Nat} (hW : zSW S) (hS : SC h S) (hd : d < 8) : zf_X10_refuseRow (nI d) h = some (refI (S d).1) := by
  have e := (hS d hd).1
  have w := (hW d hd).1
  unfold zf_X10_refuseRow zf_X10_refuseAllBut
  rw [c_isShelf_in hd]
  simp only [zbs, z10, if_false, if_pos (zi_ix hd (show 8 < 2000000000 by omega)), zi_clamp (show d < 2000000000 by omega), show 43 + 1 + 2 * d = 44 + 2 * d from rfl, e]
  have c : (S d).1 = 0 ∨ (S d).1 = 1 ∨ (S d).1 = 2 := by omega
  rcases c with c | c | c <;> rw [c] <;> rfl
theorem m_ref_in {h : zHp} {S : zS} {d : Nat} (hW : zSW S) (hS : SM h S) (hd : d < 8) : zf_X11_wrongRow (nI d) h = some (refI (S d).1) := by
  have e := (hS d hd).1
  have w := (hW d hd).1
  unfold zf_X11_wrongRow
  rw [m_in_in (N := 8) (by omega) hd (by decide)]
  simp only [zbs, z10, if_false, if_pos (zi_ix hd (show 8 < 2000000000 by omega)), zi_clamp (show d < 2000000000 by omega), e]
  have c : (S d).1 = 0 ∨ (S d).1 = 1 ∨ (S d).1 = 2 := by omega
  rcases c with c | c | c <;> rw [c] <;> rfl
abbrev sT (S : zS) (d : Nat) : Nat := (S d).2.2.2.1
abbrev sL (S : zS) (d : Nat) : Nat := (S d).2.2.2.2.1
abbrev sV (S : zS) (d : Nat) : Nat → Int32 := (S d).2.2.2.2.2
def lstI (t : Nat) : Int32 := if t = 0 then -128 else if t = 1 then -32768 else -2147483648
def skN (S : zS) (d i : Nat) : Bool := decide (sV S d i = lstI (sT S d))
theorem zo_dec {c : Prop} [Decidable c] {α : Type} (x y : α) : (if c then some x else some y) = some (if decide c then x else y) := by
  by_cases h : c <;> simp [h]
theorem c_isSkipped {h : zHp} {S : zS} {d i : Nat} (hW : zSW S) (hS : SC h S) (hd : d < 8) (hi : i < 100) : zf_X8_isSkipped (44 + 2 * d) (nI i) h = some (if skN S d i then 1 else 0) := by
  have e := hS d hd
  have w := (hW d hd).2.2.2.1
  unfold zf_X8_isSkipped
  simp only [if_pos (zi_ix hi (show 100 < 2000000000 by omega)), zi_clamp (show i < 2000000000 by omega), e.2.2.1, e.2.2.2.2 i hi]
  unfold skN
  show _ = some (if decide (sV S d i = lstI (sT S d)) then 1 else 0)
  have c : sT S d = 0 ∨ sT S d = 1 ∨ sT S d = 2 := by have : sT S d ≤ 2 := w; omega
  rcases c with c | c | c
  · rw [show nI (S d).2.2.2.1 = 0 by show nI (sT S d) = 0; rw [c]; rfl, if_pos rfl, c, zo_dec]; rfl
  · rw [show nI (S d).2.2.2.1 = 1 by show nI (sT S d) = 1; rw [c]; rfl, if_neg (by decide), if_pos rfl, c, zo_dec]; rfl
  · rw [show nI (S d).2.2.2.1 = 2 by show nI (sT S d) = 2; rw [c]; rfl, if_neg (by decide), if_neg (by decide), c, zo_dec]; rfl
theorem row_ix {d i : Nat} (hd : d < 8) (hi : i < 100) : ((100 : Int32) * nI d) + nI i = nI (100 * d + i) ∧ 100 * d + i < 800 := by
  refine ⟨?_, by omega⟩
  rw [show (100 : Int32) * nI d = nI (100 * d) by
    have key : ∀ d, d < 8 → (100 : Int32) * nI d = nI (100 * d) := by decide +kernel
    exact key d hd, nI_add]
theorem m_isSkipped {h : zHp} {S : zS} {d i : Nat} (hW : zSW S) (hS : SM h S) (hd : d < 8) (hi : i < 100) : zf_X11_isSkipped (nI d) (nI i) h = some (if skN S d i then 1 else 0) := by
  have e := hS d hd
  have w := (hW d hd).2.2.2.1
  obtain ⟨r1, r2⟩ := row_ix hd hi
  unfold zf_X11_isSkipped zf_X11_leastOf
  rw [r1]
  simp only [if_pos (zi_ix r2 (show 800 < 2000000000 by omega)), if_pos (zi_ix hd (show 8 < 2000000000 by omega)), zi_clamp (show d < 2000000000 by omega), zi_clamp (show 100 * d + i < 2000000000 by omega), e.2.2.1, e.2.2.2.2 i hi]
  unfold skN
  show _ = some (if decide (sV S d i = lstI (sT S d)) then 1 else 0)
  have c : sT S d = 0 ∨ sT S d = 1 ∨ sT S d = 2 := by have : sT S d ≤ 2 := w; omega
  rcases c with c | c | c
  · rw [show nI (S d).2.2.2.1 = 0 by show nI (sT S d) = 0; rw [c]; rfl, if_pos rfl, c, zbs, show (-128 : Int64) = (lstI 0).toInt64 by decide, zo_dec]; simp only [lc_eq]
  · rw [show nI (S d).2.2.2.1 = 1 by show nI (sT S d) = 1; rw [c]; rfl, if_neg (by decide), if_pos rfl, c, zbs, show (-32768 : Int64) = (lstI 1).toInt64 by decide, zo_dec]; simp only [lc_eq]
  · rw [show nI (S d).2.2.2.1 = 2 by show nI (sT S d) = 2; rw [c]; rfl, if_neg (by decide), if_neg (by decide), c, zbs, show (-2147483648 : Int64) = (lstI 2).toInt64 by decide, zo_dec]; simp only [lc_eq]
/-! forged -/
def forB (P : zP) (S : zS) (d i : Nat) : Bool := decide (nV P ≤ i ∨ sV S d i ≠ nI (pl P i))
theorem c_forged {h : zHp} {P : zP} {S : zS} {D d : Nat} (hR : RC h 16 P) (hP : zWF D P) (hW : zSW S) (hS : SC h S) (hd : d < 8) : ∃ t, zl_X10_forged_22 (nI d) h zFU 0 = some t ∧ Sum.elim (fun r => some r) (fun _ => some (-4 : Int32)) t = some (fstI (forB P S d) (sL S d)) := by
  have h7 := hP.2.1
  have w : sL S d ≤ 100 := (hW d hd).2.2.2.2
  have e := hS d hd
  have e4 : h.1 (44 + 2 * d) 4 = nI (sL S d) := e.2.2.2.1
  refine zl_inv0 (fun fu (_ : Unit) i => zl_X10_forged_22 (nI d) h fu i) (fun i _ => ∀ j, j < i → forB P S d j = false) (fun t => Sum.elim (fun r => some r) (fun _ => some (-4 : Int32)) t = some (fstI (forB P S d) (sL S d))) (sL S d) (by omega) () (fun j hj => absurd hj (by omega)) (fun fu i s hi hI => ?_) (fun fu s hI => ?_)
  · show (∃ t, zl_X10_forged_22 (nI d) h (fu + 1) (nI i) = some t ∧ _) ∨ ∃ s' : Unit, zl_X10_forged_22 (nI d) h (fu + 1) (nI i) = zl_X10_forged_22 (nI d) h fu (nI (i + 1)) ∧ _
    have u : zl_X10_forged_22 (nI d) h (fu + 1) (nI i) = ((zf_X7_isThere 16 (nI i) h).bind (fun r4 => (if r4 = 0 then some (Sum.inl (nI i)) else (if zc_ix (nI i) 7 then (if sV S d i = (h.1 (16 + 3) i) then zl_X10_forged_22 (nI d) h fu (nI (i + 1)) else some (Sum.inl (nI i))) else none)))) := by
      conv => lhs; unfold zl_X10_forged_22
      simp only [zi_clamp (show d < 2000000000 by omega), show 43 + 1 + 2 * d = 44 + 2 * d from rfl, e4, if_pos (zi_ix (show i < 100 by omega) (show 100 < 2000000000 by omega)), zi_clamp (show i < 2000000000 by omega), e.2.2.2.2 i (by omega), zi_one]
      rw [if_neg (by rw [zi_le (by omega) (by omega)]; omega)]
    rw [u]
    by_cases c : nV P ≤ i
    · refine Or.inl ⟨.inl (nI i), ?_, ?_⟩
      · rw [c_isThere_out hR (Or.inr (by rw [zi_le (by omega) (by omega)]; exact c)), zbs, if_pos rfl]
      · rw [fst_at hI (by simp [forB, c]) (by omega) hi]; rfl
    · rw [c_isThere_in hR hP (by omega)]
      simp only [zbs, z10, if_false, if_pos (zi_ix (show i < 7 by omega) (show 7 < 2000000000 by omega)), (hR.1 i (by omega)).2.2.1]
      by_cases c2 : sV S d i = nI (pl P i)
      · refine Or.inr ⟨(), by rw [if_pos c2], fun j hj => ?_⟩
        by_cases q : j = i
        · subst q; simp [forB, c2]; omega
        · exact hI j (by omega)
      · refine Or.inl ⟨.inl (nI i), by rw [if_neg c2], ?_⟩
        rw [fst_at hI (by simp [forB, c2]) (by omega) hi]; rfl
  · refine ⟨.inr (), ?_, by rw [fst_no hI]; rfl⟩
    show zl_X10_forged_22 (nI d) h (fu + 1) (nI (sL S d)) = _
    conv => lhs; unfold zl_X10_forged_22
    simp only [zi_clamp (show d < 2000000000 by omega), show 43 + 1 + 2 * d = 44 + 2 * d from rfl, e4]
    rw [if_pos (by rw [zi_le (by omega) (by omega)]; omega)]
theorem m_forged {h : zHp} {P : zP} {S : zS} {D d : Nat} (hR : RM h P) (hP : zWF D P) (hW : zSW S) (hS : SM h S) (hd : d < 8) : ∃ t, zl_X11_forged_19 (nI d) h zFU 0 = some t ∧ Sum.elim (fun r => some r) (fun _ => some ((-4 : Int32), h)) t = some (fstI (forB P S d) (sL S d), h) := by
  have h7 := hP.2.1
  have w : sL S d ≤ 100 := (hW d hd).2.2.2.2
  have e := hS d hd
  have e4 : h.1 70 d = nI (sL S d) := e.2.2.2.1
  refine zl_inv0 (fun fu (_ : Unit) i => zl_X11_forged_19 (nI d) h fu i) (fun i _ => ∀ j, j < i → forB P S d j = false) (fun t => Sum.elim (fun r => some r) (fun _ => some ((-4 : Int32), h)) t = some (fstI (forB P S d) (sL S d), h)) (sL S d) (by omega) () (fun j hj => absurd hj (by omega)) (fun fu i s hi hI => ?_) (fun fu s hI => ?_)
  · obtain ⟨r1, r2⟩ := row_ix hd (show i < 100 by omega)
    show (∃ t, zl_X11_forged_19 (nI d) h (fu + 1) (nI i) = some t ∧ _) ∨ ∃ s' : Unit, zl_X11_forged_19 (nI d) h (fu + 1) (nI i) = zl_X11_forged_19 (nI d) h fu (nI (i + 1)) ∧ _
    have u : zl_X11_forged_19 (nI d) h (fu + 1) (nI i) = (if nI (nV P) ≤ nI i then some (Sum.inl (nI i, h)) else (if zc_ix (nI i) 7 then (if sV S d i = (h.1 63 i) then zl_X11_forged_19 (nI d) h fu (nI (i + 1)) else some (Sum.inl (nI i, h))) else none)) := by
      conv => lhs; unfold zl_X11_forged_19
      rw [r1]
      simp only [zi_clamp (show d < 2000000000 by omega), if_pos (zi_ix hd (show 8 < 2000000000 by omega)), e4, if_pos (zi_ix r2 (show 800 < 2000000000 by omega)), zi_clamp (show i < 2000000000 by omega), zi_clamp (show 100 * d + i < 2000000000 by omega), e.2.2.2.2 i (by omega), zi_one, hR.2.1, lc_eq]
      rw [if_neg (by rw [zi_le (by omega) (by omega)]; omega)]
    rw [u]
    by_cases c : nV P ≤ i
    · refine Or.inl ⟨.inl (nI i, h), ?_, ?_⟩
      · rw [if_pos (by rw [zi_le (by omega) (by omega)]; exact c)]
      · rw [fst_at hI (by simp [forB, c]) (by omega) hi]; rfl
    · rw [if_neg (by rw [zi_le (by omega) (by omega)]; exact c)]
      simp only [if_pos (zi_ix (show i < 7 by omega) (show 7 < 2000000000 by omega)), (hR.1 i (by omega)).2.2.1]
      by_cases c2 : sV S d i = nI (pl P i)
      · refine Or.inr ⟨(), by rw [if_pos c2], fun j hj => ?_⟩
        by_cases q : j = i
        · subst q; simp [forB, c2]; omega
        · exact hI j (by omega)
      · refine Or.inl ⟨.inl (nI i, h), by rw [if_neg c2], ?_⟩
        rw [fst_at hI (by simp [forB, c2]) (by omega) hi]; rfl
  · refine ⟨.inr (), ?_, by rw [fst_no hI]; rfl⟩
    show zl_X11_forged_19 (nI d) h (fu + 1) (nI (sL S d)) = _
    conv => lhs; unfold zl_X11_forged_19
    simp only [zi_clamp (show d < 2000000000 by omega), if_pos (zi_ix hd (show 8 < 2000000000 by omega)), e4]
    rw [if_pos (by rw [zi_le (by omega) (by omega)]; omega)]
theorem m_thrS {h : zHp} {S : zS} (hS : SM h S) : SM (zc_ui h 60 17 0) S := (zEM.u (h := h) (a := 60) (k := 17) (x := 0) (by unfold zK; omega) (by omega)).S hS
theorem ok_forged (x1 : Int32) : zOKp (zf_X10_forged x1) (zf_X11_forged x1) := by
  refine zOKp_ask2 (fun h h' P I S hC hM => ?_)
  obtain ⟨c1, c2, -, -, c5, c6⟩ := hC
  obtain ⟨t1, t2⟩ := m_thr hM.1
  have t3 := m_thrS hM.2.2.2
  unfold zf_X10_forged zf_X11_forged
  simp only [zbs]
  rcases zr x1 (N := 8) (by omega) with hx | ⟨d, hd, rfl⟩
  · rw [c_ref_out hx, m_ref_out hx]
    exact ⟨_, _, rfl, rfl, t1, t2⟩
  rw [c_ref_in c5 c6 hd, m_ref_in c5 t3 hd]
  simp only [zbs]
  by_cases k : (S d).1 = 2
  · rw [k, refI_2, if_pos rfl, if_pos (zi_ix hd (by omega)), if_pos (by decide)]
    obtain ⟨t, e1, e2⟩ := c_forged c2 c1 c5 c6 hd
    obtain ⟨t', e1', e2'⟩ := m_forged t1 c1 c5 t3 hd
    rw [e1, e1', zbs, zbs]
    exact ⟨_, _, e2, e2', t1, t2⟩
  · have hn := refI_n (c5 d hd).1 k
    rw [if_neg (fun q => by rw [q] at hn; exact absurd hn (by decide)), if_neg (fun q => zi_nle.mp q hn)]
    exact ⟨_, _, rfl, rfl, t1, t2⟩

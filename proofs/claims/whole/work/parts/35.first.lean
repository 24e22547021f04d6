/-! the first day on which something is so -/
def fstI (p : Nat → Bool) : Nat → Int32
  | 0 => -4
  | n + 1 => if 0 ≤ fstI p n then fstI p n else if p n then nI n else -4
theorem fst_no {p : Nat → Bool} : ∀ {n : Nat}, (∀ j, j < n → p j = false) → fstI p n = -4
  | 0, _ => rfl
  | n + 1, h => by
    have ih := fst_no (n := n) (fun j hj => h j (by omega))
    unfold fstI
    rw [ih, if_neg (by decide), h n (by omega)]
    rfl
theorem fst_at {p : Nat → Bool} {i : Nat} (h1 : ∀ j, j < i → p j = false) (h2 : p i = true) (hi : i < 2000000000) : ∀ {n : Nat}, i < n → fstI p n = nI i
  | 0, h => absurd h (by omega)
  | n + 1, h => by
    unfold fstI
    by_cases c : i = n
    · subst c
      rw [fst_no h1, if_neg (by decide), if_pos h2]
    · rw [fst_at h1 h2 hi (n := n) (by omega), if_pos (nI_pos' (by omega))]
theorem fst_stay {p : Nat → Bool} {i : Nat} (h : 0 ≤ fstI p i) : ∀ {n : Nat}, i ≤ n → fstI p n = fstI p i
  | 0, hn => by rw [show i = 0 by omega]
  | n + 1, hn => by
    by_cases c : i = n + 1
    · subst c; rfl
    · have ih := fst_stay h (n := n) (by omega)
      conv => lhs; unfold fstI
      rw [ih, if_pos h]
theorem fst_cong {p q : Nat → Bool} : ∀ {n : Nat}, (∀ j, j < n → p j = q j) → fstI p n = fstI q n
  | 0, _ => rfl
  | n + 1, h => by
    unfold fstI
    rw [fst_cong (n := n) (fun j hj => h j (by omega)), h n (by omega)]
/-- a loop that ends with the number of the first, or goes to the end -/
theorem fst_loopC {σ : Type} (L : Nat → σ → Int32 → Option ((Int32 × σ) ⊕ σ)) (p : Nat → Bool) (N : Nat) (hN : N < 3000) (J : Nat → σ → Prop) (i0 : Nat) (hi0 : i0 ≤ N) (hp0 : ∀ j, j < i0 → p j = false) (s : σ) (h0 : J i0 s)
    (hyes : ∀ fu i s, i < N → J i s → p i = true → ∃ s', L (fu + 1) s (nI i) = some (.inl (nI i, s')) ∧ ∃ k, J k s')
    (hno : ∀ fu i s, i < N → J i s → p i = false → ∃ s', L (fu + 1) s (nI i) = L fu s' (nI (i + 1)) ∧ J (i + 1) s')
    (hend : ∀ fu s, J N s → L (fu + 1) s (nI N) = some (.inr s)) :
    ∃ s' k, J k s' ∧ (L zFU s (nI i0)).bind (Sum.elim (fun r => some r) (fun v => some (-4, v))) = some (fstI p N, s') := by
  obtain ⟨t, h1, h2⟩ := zl_inv L (fun i s => J i s ∧ ∀ j, j < i → p j = false) (fun t => ∃ s' k, J k s' ∧ Sum.elim (fun r => some r) (fun v => some ((-4 : Int32), v)) t = some (fstI p N, s')) N
    (fun fu i s hi hI => by
      by_cases c : p i = true
      · obtain ⟨s', e, k, hk⟩ := hyes fu i s hi hI.1 c
        exact Or.inl ⟨_, e, s', k, hk, by rw [fst_at hI.2 c (by omega) hi]; rfl⟩
      · have c2 : p i = false := by simpa using c
        obtain ⟨s', e, hk⟩ := hno fu i s hi hI.1 c2
        exact Or.inr ⟨s', e, hk, fun j hj => by
          by_cases q : j = i
          · subst q; exact c2
          · exact hI.2 j (by omega)⟩)
    (fun fu s hI => ⟨_, hend fu s hI.1, s, N, hI.1, by rw [fst_no hI.2]; rfl⟩) (N - i0) i0 zFU s (by omega) (by rw [zFU_eq]; omega) ⟨h0, hp0⟩
  obtain ⟨s', k, hk, e⟩ := h2
  exact ⟨s', k, hk, by rw [h1, zbs]; exact e⟩
/-- a loop that keeps what it found, and looks at it first -/
theorem fst_loopM {σ : Type} (L : Nat → (Int32 × σ) → Int32 → Option (Int32 × σ)) (p : Nat → Bool) (N : Nat) (hN : N < 3000) (J : σ → Prop) (K : Nat → σ → Prop) (hKJ : ∀ i s, K i s → J s) (i0 : Nat) (hi0 : i0 ≤ N) (hp0 : ∀ j, j < i0 → p j = false) (s : σ) (h0 : K i0 s)
    (hdone : ∀ fu i f s, i < N → 0 ≤ f → L (fu + 1) (f, s) (nI i) = some (f, s))
    (hstep : ∀ fu i f s, i < N → ¬ 0 ≤ f → K i s → ∃ s', L (fu + 1) (f, s) (nI i) = L fu (if p i then nI i else -4, s') (nI (i + 1)) ∧ K (i + 1) s')
    (hend : ∀ fu f s, L (fu + 1) (f, s) (nI N) = some (f, s)) :
    ∃ s', J s' ∧ L zFU (-4, s) (nI i0) = some (fstI p N, s') := by
  obtain ⟨t, h1, h2⟩ := zl_inv L (fun i x => x.1 = fstI p i ∧ (¬ 0 ≤ fstI p i → K i x.2) ∧ J x.2) (fun t => t.1 = fstI p N ∧ J t.2) N
    (fun fu i x hi hI => by
      obtain ⟨f, s⟩ := x
      obtain ⟨e, hk, hj⟩ := hI
      have e' : f = fstI p i := e
      by_cases c : 0 ≤ f
      · exact Or.inl ⟨_, hdone fu i f s hi c, by rw [e', fst_stay (i := i) (by rw [← e']; exact c) (Nat.le_of_lt hi)], hj⟩
      · obtain ⟨s', e2, hk2⟩ := hstep fu i f s hi c (hk (by rw [← e']; exact c))
        refine Or.inr ⟨_, e2, ?_, fun _ => hk2, hKJ _ _ hk2⟩
        show (if p i then nI i else -4) = fstI p (i + 1)
        rw [fstI, ← e', if_neg c])
    (fun fu x hI => by
      obtain ⟨f, s⟩ := x
      exact ⟨_, hend fu f s, hI.1, hI.2.2⟩) (N - i0) i0 zFU (-4, s) (by omega) (by rw [zFU_eq]; omega) ⟨(fst_no hp0).symm, fun _ => h0, hKJ i0 s h0⟩
  exact ⟨t.2, h2.2, by rw [h1, ← h2.1]⟩
/-- alike but for stock and nods -/
def eqv (P Q : zP) : Prop := kd P = kd Q ∧ fg P = fg Q ∧ pl P = pl Q ∧ fr P = fr Q ∧ nV P = nV Q ∧ ch P = ch Q ∧ sp P = sp Q ∧ hm P = hm Q ∧ dy P = dy Q
theorem eqv.rf {P : zP} : eqv P P := ⟨rfl, rfl, rfl, rfl, rfl, rfl, rfl, rfl, rfl⟩
theorem eqv.tr {P Q R : zP} (a : eqv P Q) (b : eqv Q R) : eqv P R := by
  obtain ⟨a1, a2, a3, a4, a5, a6, a7, a8, a9⟩ := a
  obtain ⟨b1, b2, b3, b4, b5, b6, b7, b8, b9⟩ := b
  exact ⟨a1.trans b1, a2.trans b2, a3.trans b3, a4.trans b4, a5.trans b5, a6.trans b6, a7.trans b7, a8.trans b8, a9.trans b9⟩
theorem eqv_one (P : zP) (v : Nat) : eqv (oneN P v) P := by
  unfold oneN eatN
  split <;> exact ⟨rfl, rfl, rfl, rfl, rfl, rfl, rfl, rfl, rfl⟩
theorem eqv_vill : ∀ (n : Nat) (P : zP), eqv (villN n P) P
  | 0, _ => eqv.rf
  | n + 1, P => (eqv_one _ n).tr (eqv_vill n P)
theorem eqv_mov {P Q : zP} (r : Bool) (h : eqv P Q) : eqv (movN r P) (movN r Q) := by
  obtain ⟨a1, a2, a3, a4, a5, a6, a7, a8, a9⟩ := h
  refine ⟨a1, a2, a3, a4, a5, ?_, a7, a8, ?_⟩
  · show chN r P = chN r Q
    unfold chN; rw [a6, a7, a8, a9]
  · show dy P + 1 = dy Q + 1
    rw [a9]
theorem eqv_day {P Q : zP} (r : Bool) (h : eqv P Q) : eqv (dayN r P) (movN r Q) := (eqv_vill _ _).tr (eqv_mov r h)
theorem eqv_able {P Q : zP} (h : eqv P Q) (v : Nat) : ableN P v = ableN Q v := by
  obtain ⟨a1, a2, a3, a4, a5, a6, a7, a8, a9⟩ := h
  unfold ableN fetchN wayN
  rw [a1, a2, a3, a4, a5, a6, a9]
def movsN : Nat → zP → zP
  | 0, P => P
  | n + 1, P => movN false (movsN n P)
theorem eqv_movs : ∀ (n : Nat) (P : zP), eqv (daysN n P) (movsN n P)
  | 0, _ => eqv.rf
  | n + 1, P => eqv_day false (eqv_movs n P)
theorem movsN_wf {D : Nat} : ∀ {n : Nat} {P : zP}, zWF D P → zWF (D + n) (movsN n P)
  | 0, _, h => h
  | n + 1, P, h => movN_wf (movsN_wf (n := n) h)
theorem movsN_V : ∀ (n : Nat) (P : zP), nV (movsN n P) = nV P
  | 0, _ => rfl
  | n + 1, P => movsN_V n P
theorem ok_firstCan (x1 : Int32) : zOK (zf_X10_firstCan x1) (zf_X11_firstCan x1) := by
  refine zOK_ask2 (fun h h' P I S hC hM => ?_)
  obtain ⟨c1, c2, -⟩ := hC
  have h7 := c1.2.1
  obtain ⟨t1, t2⟩ := m_thr hM.1
  unfold zf_X10_firstCan zf_X11_firstCan
  simp only [zbs]
  rcases zr x1 (N := nV P) (by omega) with hx | ⟨v, hv, rfl⟩
  · rw [c_isThere_out c2 hx, m_isOne_out t1 h7 hx]
    exact ⟨_, _, _, rfl, zEC.rf, rfl, t1, t2⟩
  rw [c_isThere_in c2 c1 hv, m_isOne_in t1 h7 hv]
  simp only [zbs, z10, if_false]
  obtain ⟨g0, a1, a2, a3, a4⟩ := c_mind c2 c1
  obtain ⟨k1, p1, p2, p3, p4⟩ := m_think t1
  obtain ⟨g1, i1, u1, u2⟩ := fst_loopC (fun fu s i => zl_X10_firstCan_26 (nI v) fu i s) (fun n => ableN (daysN n P) v) 61 (by omega) (fun i g => i ≤ 61 ∧ RC g 25 (movsN i P) ∧ zEC h g) 0 (by omega) (fun j hj => absurd hj (by omega)) g0 ⟨by omega, a2, a4.C⟩
    (fun fu i g hi hJ hp => by
      refine ⟨g, ?_, i, hJ⟩
      show zl_X10_firstCan_26 (nI v) (fu + 1) (nI i) g = _
      conv => lhs; unfold zl_X10_firstCan_26
      rw [if_neg (by rw [show (60 : Int32) = nI 60 by decide, zi_lt (by omega) (by omega)]; omega), c_isAble hJ.2.1 (movsN_wf c1) (by omega) (by rw [movsN_V]; exact hv), ← eqv_able (eqv_movs i P), hp]
      rfl)
    (fun fu i g hi hJ hp => by
      obtain ⟨g', b1, b2, b3⟩ := c_moveChair hJ.2.1 (movsN_wf c1) (by omega)
      refine ⟨g', ?_, by omega, b2, hJ.2.2.tr b3.C⟩
      show zl_X10_firstCan_26 (nI v) (fu + 1) (nI i) g = zl_X10_firstCan_26 (nI v) fu (nI (i + 1)) g'
      conv => lhs; unfold zl_X10_firstCan_26
      rw [if_neg (by rw [show (60 : Int32) = nI 60 by decide, zi_lt (by omega) (by omega)]; omega), c_isAble hJ.2.1 (movsN_wf c1) (by omega) (by rw [movsN_V]; exact hv), ← eqv_able (eqv_movs i P), hp]
      simp only [zbs, Bool.false_eq_true, if_false, if_true]
      rw [b1]
      simp only [zbs, zi_one])
    (fun fu g hJ => by
      show zl_X10_firstCan_26 (nI v) (fu + 1) (nI 61) g = _
      conv => lhs; unfold zl_X10_firstCan_26
      rw [if_pos (by decide)])
  obtain ⟨g2, v1, v2⟩ := fst_loopM (fun fu s i => zl_X11_firstCan_24 (nI v) fu s.1 i s.2) (fun n => ableN (daysN n P) v) 61 (by omega) (fun g => KA g 75 P ∧ zEM h' g) (fun i g => i ≤ 61 ∧ RM g (daysN i P) ∧ KA g 75 P ∧ zEM h' g) (fun i g hK => hK.2.2) 0 (by omega) (fun j hj => absurd hj (by omega)) k1 ⟨by omega, p2, p3, t2.tr p4.M⟩
    (fun fu i f g hi hf => by
      show zl_X11_firstCan_24 (nI v) (fu + 1) f (nI i) g = _
      conv => lhs; unfold zl_X11_firstCan_24
      rw [if_neg (by rw [show (60 : Int32) = nI 60 by decide, zi_lt (by omega) (by omega)]; omega), if_pos hf])
    (fun fu i f g hi hf hK => by
      obtain ⟨g', b1, b2, b3⟩ := m_dayBy hK.2.1 (daysN_wf c1) (by omega) false
      refine ⟨g', ?_, by omega, b2, KA_m hK.2.2.1 b3, hK.2.2.2.tr b3.M⟩
      show zl_X11_firstCan_24 (nI v) (fu + 1) f (nI i) g = zl_X11_firstCan_24 (nI v) fu (if ableN (daysN i P) v = true then nI i else -4) (nI (i + 1)) g'
      conv => lhs; unfold zl_X11_firstCan_24
      rw [if_neg (by rw [show (60 : Int32) = nI 60 by decide, zi_lt (by omega) (by omega)]; omega), if_neg hf, m_isAble hK.2.1 (daysN_wf c1) (by omega) (by omega), show zf_X11_dayBy 0 g = some g' from b1]
      simp only [zbs, zi_b0, zi_one]
      cases ableN (daysN i P) v <;> rfl)
    (fun fu f g => by
      show zl_X11_firstCan_24 (nI v) (fu + 1) f (nI 61) g = _
      conv => lhs; unfold zl_X11_firstCan_24
      rw [if_pos (by decide)])
  obtain ⟨k3, s1, s2, s3⟩ := m_again v1.1
  rw [a1, p1]
  simp only [zbs]
  rw [zi_lit0, u2, v2]
  simp only [zbs]
  rw [s1]
  exact ⟨_, _, _, rfl, u1.2.2, rfl, s2, v1.2.tr s3.M⟩

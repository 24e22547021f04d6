/-! calls that change what is told -/
theorem zOK_ask2 {f g : zHp → Option (Int32 × zHp)} (H : ∀ h h' P I S, CI h P I S → MI h' P I S → ∃ r h1 h2, f h = some (r, h1) ∧ zEC h h1 ∧ g h' = some (r, h2) ∧ RM h2 P ∧ zEM h' h2) : zOK f g := by
  intro h hI
  obtain ⟨P, I, S, hC, hM⟩ := hI
  obtain ⟨r, h1, h2, a1, a2, -⟩ := H h h P I S hC hM
  have hC1 := a2.CI hC
  have hM1 := a2.F.MI hM
  obtain ⟨r', h1', h2, b1, b2, b3, b4, b5⟩ := H h h1 P I S hC hM1
  rw [a1] at b1
  obtain ⟨e1, e2⟩ := Prod.mk.inj (Option.some.inj b1)
  subst e1; subst e2
  exact ⟨r, h1, h2, a1, b3, P, I, S, b5.F.CI hC1, b5.MI hM1 b4⟩
theorem zOKL_ask2 {f g : zHp → Option (Int64 × zHp)} (H : ∀ h h' P I S, CI h P I S → MI h' P I S → ∃ r h1 h2, f h = some (r, h1) ∧ zEC h h1 ∧ g h' = some (r, h2) ∧ RM h2 P ∧ zEM h' h2) : zOKL f g := by
  intro h hI
  obtain ⟨P, I, S, hC, hM⟩ := hI
  obtain ⟨r, h1, h2, a1, a2, -⟩ := H h h P I S hC hM
  have hC1 := a2.CI hC
  have hM1 := a2.F.MI hM
  obtain ⟨r', h1', h2, b1, b2, b3, b4, b5⟩ := H h h1 P I S hC hM1
  rw [a1] at b1
  obtain ⟨e1, e2⟩ := Prod.mk.inj (Option.some.inj b1)
  subst e1; subst e2
  exact ⟨r, h1, h2, a1, b3, P, I, S, b5.F.CI hC1, b5.MI hM1 b4⟩
theorem zOKp_ask2 {f : zHp → Option Int32} {g : zHp → Option (Int32 × zHp)} (H : ∀ h h' P I S, CI h P I S → MI h' P I S → ∃ r h2, f h = some r ∧ g h' = some (r, h2) ∧ RM h2 P ∧ zEM h' h2) : zOKp f g := by
  intro h hI
  obtain ⟨P, I, S, hC, hM⟩ := hI
  obtain ⟨r, h2, a1, a2, a3, a4⟩ := H h h P I S hC hM
  exact ⟨r, h2, a1, a2, P, I, S, a4.F.CI hC, a4.MI hM a3⟩
theorem zOKLp_ask2 {f : zHp → Option Int64} {g : zHp → Option (Int64 × zHp)} (H : ∀ h h' P I S, CI h P I S → MI h' P I S → ∃ r h2, f h = some r ∧ g h' = some (r, h2) ∧ RM h2 P ∧ zEM h' h2) : zOKLp f g := by
  intro h hI
  obtain ⟨P, I, S, hC, hM⟩ := hI
  obtain ⟨r, h2, a1, a2, a3, a4⟩ := H h h P I S hC hM
  exact ⟨r, h2, a1, a2, P, I, S, a4.F.CI hC, a4.MI hM a3⟩
theorem zOK_upd {f g : zHp → Option (Int32 × zHp)} (H : ∀ h h' P I S, CI h P I S → MI h' P I S → ∃ r h1 h2 P2 I2 S2, f h = some (r, h1) ∧ CI h1 P2 I2 S2 ∧ zFC h h1 ∧ g h' = some (r, h2) ∧ MI h2 P2 I2 S2 ∧ zFM h' h2) : zOK f g := by
  intro h hI
  obtain ⟨P, I, S, hC, hM⟩ := hI
  obtain ⟨r, h1, -, P2, I2, S2, a1, a2, a3, -⟩ := H h h P I S hC hM
  have hM1 := a3.MI hM
  obtain ⟨r', h1', h2, P3, I3, S3, b1, b2, b3, b4, b5, b6⟩ := H h h1 P I S hC hM1
  rw [a1] at b1
  obtain ⟨e1, e2⟩ := Prod.mk.inj (Option.some.inj b1)
  subst e1; subst e2
  exact ⟨r, h1, h2, a1, b4, P3, I3, S3, b6.CI b2, b5⟩
theorem CI_now {h h1 : zHp} {P P2 : zP} {I : Option zP} {S : zS} (hC : CI h P I S) (hR : RC h1 16 P2) (hE : zE 16 h h1) (hW : zWF 999 P2) : CI h1 P2 I S ∧ zFC h h1 := by
  obtain ⟨c1, c2, c3, c4, c5, c6⟩ := hC
  refine ⟨⟨hW, hR, by rw [hE.1 0 (by omega)]; exact c3, fun Q hQ => ⟨(c4 Q hQ).1, RC_of (c4 Q hQ).2 (fun a h1 h2 => hE.1 a (by omega))⟩, c5, fun d hd => ?_⟩, fun a ha => ⟨hE.1 a (by omega), by rw [hE.2]⟩⟩
  rw [hE.1 (44 + 2 * d) (by omega), hE.1 (44 + 2 * d + 1) (by omega)]; exact c6 d hd
theorem zOK_now {f g : zHp → Option (Int32 × zHp)} (H : ∀ h h' P I S, CI h P I S → MI h' P I S → ∃ r h1 h2 P2, f h = some (r, h1) ∧ RC h1 16 P2 ∧ zE 16 h h1 ∧ zWF 999 P2 ∧ g h' = some (r, h2) ∧ RM h2 P2 ∧ zEM h' h2) : zOK f g := by
  refine zOK_upd (fun h h' P I S hC hM => ?_)
  obtain ⟨r, h1, h2, P2, a1, a2, a3, a4, a5, a6, a7⟩ := H h h' P I S hC hM
  obtain ⟨b1, b2⟩ := CI_now hC a2 a3 a4
  exact ⟨r, h1, h2, P2, I, S, a1, b1, b2, a5, a7.MI hM a6, a7.F⟩
theorem z10 : ((1 : Int32) = 0) = False := eq_false (by decide)
def setPl (P : zP) (f : Nat → Nat) : zP := (kd P, fg P, f, fr P, sk P, nV P, ch P, sp P, hm P, nd P, dy P)
def setFr (P : zP) (f : Nat → Nat) : zP := (kd P, fg P, pl P, f, sk P, nV P, ch P, sp P, hm P, nd P, dy P)
def setSun (P : zP) (a b : Nat) : zP := (kd P, fg P, pl P, fr P, sk P, nV P, ch P, a, b, nd P, dy P)
theorem RC_pl {h : zHp} {p : Nat} {P : zP} {w x : Nat} (hR : RC h p P) : RC (zc_ui h (p + 3) w (nI x)) p (setPl P (un (pl P) w x)) := by
  obtain ⟨r1, r2, r3, r4, r5, r6, r7, r8⟩ := hR
  refine ⟨fun v hv => ?_, fun v hv => ?_, ?_, ?_, ?_, ?_, ?_, ?_⟩
  · obtain ⟨q1, q2, q3, q4, q5⟩ := r1 v hv
    refine ⟨?_, ?_, ?_, ?_, ?_⟩
    · simp [zu_i]; exact q1
    · simp [zu_i]; exact q2
    · rw [zu_i]
      show _ = nI (un (pl P) w x v)
      by_cases c : v = w
      · simp [c, un]
      · simp [c, un, q3]
    · simp [zu_i]; exact q4
    · simp [zu_i]; exact q5
  · have q := r2 v hv
    simp [zu_i]; exact q
  · simp [zu_i]; exact r3
  · simp [zu_i]; exact r4
  · simp [zu_i]; exact r5
  · simp [zu_i]; exact r6
  · simp [zu_i]; exact r7
  · simp [zu_i]; exact r8
theorem RC_fr {h : zHp} {p : Nat} {P : zP} {w x : Nat} (hR : RC h p P) : RC (zc_ui h (p + 4) w (nI x)) p (setFr P (un (fr P) w x)) := by
  obtain ⟨r1, r2, r3, r4, r5, r6, r7, r8⟩ := hR
  refine ⟨fun v hv => ?_, fun v hv => ?_, ?_, ?_, ?_, ?_, ?_, ?_⟩
  · obtain ⟨q1, q2, q3, q4, q5⟩ := r1 v hv
    refine ⟨?_, ?_, ?_, ?_, ?_⟩
    · simp [zu_i]; exact q1
    · simp [zu_i]; exact q2
    · simp [zu_i]; exact q3
    · rw [zu_i]
      show _ = nI (un (fr P) w x v)
      by_cases c : v = w
      · simp [c, un]
      · simp [c, un, q4]
    · simp [zu_i]; exact q5
  · have q := r2 v hv
    simp [zu_i]; exact q
  · simp [zu_i]; exact r3
  · simp [zu_i]; exact r4
  · simp [zu_i]; exact r5
  · simp [zu_i]; exact r6
  · simp [zu_i]; exact r7
  · simp [zu_i]; exact r8
theorem RC_sk {h : zHp} {p : Nat} {P : zP} {w x : Nat} (hR : RC h p P) : RC (zc_ui h (p + 5) w (nI x)) p (setSk P (un (sk P) w x) (nd P)) := by
  obtain ⟨r1, r2, r3, r4, r5, r6, r7, r8⟩ := hR
  refine ⟨fun v hv => ?_, fun v hv => ?_, ?_, ?_, ?_, ?_, ?_, ?_⟩
  · obtain ⟨q1, q2, q3, q4, q5⟩ := r1 v hv
    refine ⟨?_, ?_, ?_, ?_, ?_⟩
    · simp [zu_i]; exact q1
    · simp [zu_i]; exact q2
    · simp [zu_i]; exact q3
    · simp [zu_i]; exact q4
    · rw [zu_i]
      show _ = nI (un (sk P) w x v)
      by_cases c : v = w
      · simp [c, un]
      · simp [c, un, q5]
  · have q := r2 v hv
    simp [zu_i]; exact q
  · simp [zu_i]; exact r3
  · simp [zu_i]; exact r4
  · simp [zu_i]; exact r5
  · simp [zu_i]; exact r6
  · simp [zu_i]; exact r7
  · simp [zu_i]; exact r8
theorem RM_pl {h : zHp} {P : zP} {w x : Nat} (hR : RM h P) : RM (zc_ui h 63 w (nI x)) (setPl P (un (pl P) w x)) := by
  obtain ⟨r1, r2, r3, r4, r5, r6, r7⟩ := hR
  refine ⟨fun v hv => ?_, ?_, ?_, ?_, ?_, ?_, ?_⟩
  · obtain ⟨q1, q2, q3, q4, q5⟩ := r1 v hv
    refine ⟨?_, ?_, ?_, ?_, ?_⟩
    · simp [zu_i]; exact q1
    · simp [zu_i]; exact q2
    · rw [zu_i]
      show _ = nI (un (pl P) w x v)
      by_cases c : v = w
      · simp [c, un]
      · simp [c, un, q3]
    · simp [zu_i]; exact q4
    · simp [zu_i]; exact q5
  · simp [zu_i]; exact r2
  · simp [zu_i]; exact r3
  · simp [zu_i]; exact r4
  · simp [zu_i]; exact r5
  · simp [zu_i]; exact r6
  · simp [zu_i]; exact r7
theorem RM_fr {h : zHp} {P : zP} {w x : Nat} (hR : RM h P) : RM (zc_ui h 64 w (nI x)) (setFr P (un (fr P) w x)) := by
  obtain ⟨r1, r2, r3, r4, r5, r6, r7⟩ := hR
  refine ⟨fun v hv => ?_, ?_, ?_, ?_, ?_, ?_, ?_⟩
  · obtain ⟨q1, q2, q3, q4, q5⟩ := r1 v hv
    refine ⟨?_, ?_, ?_, ?_, ?_⟩
    · simp [zu_i]; exact q1
    · simp [zu_i]; exact q2
    · simp [zu_i]; exact q3
    · rw [zu_i]
      show _ = nI (un (fr P) w x v)
      by_cases c : v = w
      · simp [c, un]
      · simp [c, un, q4]
    · simp [zu_i]; exact q5
  · simp [zu_i]; exact r2
  · simp [zu_i]; exact r3
  · simp [zu_i]; exact r4
  · simp [zu_i]; exact r5
  · simp [zu_i]; exact r6
  · simp [zu_i]; exact r7
theorem RC_ch {h : zHp} {p : Nat} {P : zP} {x : Nat} (hR : RC h p P) : RC (zc_ui h p 10 (nI x)) p (setCh P x (dy P)) := by
  obtain ⟨r1, r2, r3, r4, r5, r6, r7, r8⟩ := hR
  refine ⟨fun v hv => ?_, fun v hv => ?_, ?_, ?_, ?_, ?_, ?_, ?_⟩
  · have q := r1 v hv
    simp [zu_i]; exact q
  · have q := r2 v hv
    simp [zu_i]; exact q
  · simp [zu_i]; exact r3
  · simp [zu_i, setCh]
  · simp [zu_i]; exact r5
  · simp [zu_i]; exact r6
  · simp [zu_i]; exact r7
  · simp [zu_i]; exact r8
theorem RC_sun {h : zHp} {p : Nat} {P : zP} {a b : Nat} (hR : RC h p P) : RC (zc_ui (zc_ui h p 11 (nI a)) p 12 (nI b)) p (setSun P a b) := by
  obtain ⟨r1, r2, r3, r4, r5, r6, r7, r8⟩ := hR
  refine ⟨fun v hv => ?_, fun v hv => ?_, ?_, ?_, ?_, ?_, ?_, ?_⟩
  · have q := r1 v hv
    simp [zu_i]; exact q
  · have q := r2 v hv
    simp [zu_i]; exact q
  · simp [zu_i]; exact r3
  · simp [zu_i]; exact r4
  · simp [zu_i, setSun]
  · simp [zu_i, setSun]
  · simp [zu_i]; exact r7
  · simp [zu_i]; exact r8
theorem RM_ch {h : zHp} {P : zP} {x : Nat} (hR : RM h P) : RM (zc_ui h 60 0 (nI x)) (setCh P x (dy P)) := by
  obtain ⟨r1, r2, r3, r4, r5, r6, r7⟩ := hR
  refine ⟨fun v hv => ?_, ?_, ?_, ?_, ?_, ?_, ?_⟩
  · have q := r1 v hv
    simp [zu_i]; exact q
  · simp [zu_i]; exact r2
  · simp [zu_i, setCh]
  · simp [zu_i]; exact r4
  · simp [zu_i]; exact r5
  · simp [zu_i]; exact r6
  · simp [zu_i]; exact r7
theorem RM_sun {h : zHp} {P : zP} {a b : Nat} (hR : RM h P) : RM (zc_ui (zc_ui h 60 1 (nI a)) 60 2 (nI b)) (setSun P a b) := by
  obtain ⟨r1, r2, r3, r4, r5, r6, r7⟩ := hR
  refine ⟨fun v hv => ?_, ?_, ?_, ?_, ?_, ?_, ?_⟩
  · have q := r1 v hv
    simp [zu_i]; exact q
  · simp [zu_i]; exact r2
  · simp [zu_i]; exact r3
  · simp [zu_i, setSun]
  · simp [zu_i, setSun]
  · simp [zu_i]; exact r6
  · simp [zu_i]; exact r7
theorem un_lt {f : Nat → Nat} {w x B : Nat} (h : ∀ v, v < 7 → f v < B) (hx : x < B) : ∀ v, v < 7 → un f w x v < B := by
  intro v hv
  unfold un
  split
  · exact hx
  · exact h v hv
theorem wf_pl {D : Nat} {P : zP} {w x : Nat} (h : zWF D P) (hx : x < 12) : zWF D (setPl P (un (pl P) w x)) := by
  obtain ⟨h1, h2, h3, h4, h5, h6, h7⟩ := h
  exact ⟨fun v hv => ⟨(h1 v hv).1, (h1 v hv).2.1, un_lt (fun v hv => (h1 v hv).2.2.1) hx v hv, (h1 v hv).2.2.2.1, (h1 v hv).2.2.2.2⟩, h2, h3, h4, h5, h6, h7⟩
theorem wf_fr {D : Nat} {P : zP} {w x : Nat} (h : zWF D P) (hx : x < 7) : zWF D (setFr P (un (fr P) w x)) := by
  obtain ⟨h1, h2, h3, h4, h5, h6, h7⟩ := h
  exact ⟨fun v hv => ⟨(h1 v hv).1, (h1 v hv).2.1, (h1 v hv).2.2.1, un_lt (fun v hv => (h1 v hv).2.2.2.1) hx v hv, (h1 v hv).2.2.2.2⟩, h2, h3, h4, h5, h6, h7⟩
theorem wf_sk {D : Nat} {P : zP} {w x : Nat} (h : zWF D P) (hx : x ≤ 99) : zWF D (setSk P (un (sk P) w x) (nd P)) := by
  obtain ⟨h1, h2, h3, h4, h5, h6, h7⟩ := h
  exact ⟨fun v hv => ⟨(h1 v hv).1, (h1 v hv).2.1, (h1 v hv).2.2.1, (h1 v hv).2.2.2.1, Nat.le_of_lt_succ (un_lt (B := 100) (fun v hv => Nat.lt_succ_of_le (h1 v hv).2.2.2.2) (by omega) v hv)⟩, h2, h3, h4, h5, h6, h7⟩
theorem wf_ch {D : Nat} {P : zP} {x : Nat} (h : zWF D P) (hx : x < 12) : zWF D (setCh P x (dy P)) := by
  obtain ⟨h1, h2, h3, h4, h5, h6, h7⟩ := h
  exact ⟨h1, h2, hx, h4, h5, h6, h7⟩
theorem wf_sun {D : Nat} {P : zP} {a b : Nat} (h : zWF D P) (ha : a ≤ 5) (hb : b < 12) : zWF D (setSun P a b) := by
  obtain ⟨h1, h2, h3, h4, h5, h6, h7⟩ := h
  exact ⟨h1, h2, h3, ha, hb, h6, h7⟩
theorem m_thr {h : zHp} {P : zP} (hR : RM h P) : RM (zc_ui h 60 17 0) P ∧ zEM h (zc_ui h 60 17 0) := ⟨RM_u hR (by omega), zEM.u (by unfold zK; omega) (by omega)⟩
theorem ok_moves (x1 x2 : Int32) : zOK (zf_X10_moves x1 x2) (zf_X11_moves x1 x2) := by
  refine zOK_now (fun h h' P I S hC hM => ?_)
  obtain ⟨c1, c2, -⟩ := hC
  have h7 := c1.2.1
  obtain ⟨t1, t2⟩ := m_thr hM.1
  unfold zf_X10_moves zf_X11_moves
  simp only [Option.bind_some]
  rcases zr x1 (N := nV P) (by omega) with hx | ⟨v, hv, rfl⟩
  · rw [c_isThere_out c2 hx, m_isOne_out t1 h7 hx]
    exact ⟨_, _, _, P, rfl, c2, zE.rf, c1, rfl, t1, t2⟩
  · rw [c_isThere_in c2 c1 hv, m_isOne_in t1 h7 hv]
    simp only [Option.bind_some]
    simp only [z10, if_false]
    rcases zr x2 (N := 12) (by omega) with hx | ⟨j, hj, rfl⟩
    · rw [c_isPlace_out hx, m_isPlace_out hx]
      exact ⟨_, _, _, P, rfl, c2, zE.rf, c1, rfl, t1, t2⟩
    · rw [c_isPlace_in hj, m_isPlace_in hj]
      simp only [Option.bind_some]
      simp only [z10, if_false]
      simp only [if_pos (zi_ix (show v < 7 by omega) (show 7 < 2000000000 by omega)), zi_clamp (show v < 2000000000 by omega)]
      refine ⟨_, _, _, setPl P (un (pl P) v j), rfl, RC_pl c2, zE.ui ⟨by omega, by omega⟩, wf_pl c1 hj, ?_, RM_pl t1, t2.tr (zEM.u (by unfold zK; omega) (by omega))⟩
      rw [(t1.1 v (by omega)).2.2.1, (c2.1 v (by omega)).2.2.1]
theorem ok_fetches (x1 x2 : Int32) : zOK (zf_X10_fetches x1 x2) (zf_X11_fetches x1 x2) := by
  refine zOK_now (fun h h' P I S hC hM => ?_)
  obtain ⟨c1, c2, -⟩ := hC
  have h7 := c1.2.1
  obtain ⟨t1, t2⟩ := m_thr hM.1
  unfold zf_X10_fetches zf_X11_fetches zf_X7_setFrom
  simp only [Option.bind_some]
  rcases zr x1 (N := nV P) (by omega) with hx | ⟨v, hv, rfl⟩
  · rw [c_isThere_out c2 hx, m_isOne_out t1 h7 hx]
    exact ⟨_, _, _, P, rfl, c2, zE.rf, c1, rfl, t1, t2⟩
  · rw [c_isThere_in c2 c1 hv, m_isOne_in t1 h7 hv]
    simp only [Option.bind_some]
    simp only [z10, if_false]
    rcases zr x2 (N := 7) (by omega) with hx | ⟨j, hj, rfl⟩
    · rw [c_isNumber_out hx, m_in_out (N := 7) (by omega) (by omega) (by decide) hx]
      exact ⟨_, _, _, P, rfl, c2, zE.rf, c1, rfl, t1, t2⟩
    · rw [c_isNumber_in hj, m_in_in (N := 7) (by omega) hj (by decide)]
      simp only [Option.bind_some]
      simp only [z10, if_false]
      simp only [if_pos (zi_ix (show v < 7 by omega) (show 7 < 2000000000 by omega)), zi_clamp (show v < 2000000000 by omega)]
      refine ⟨_, _, _, setFr P (un (fr P) v j), rfl, RC_fr c2, zE.ui ⟨by omega, by omega⟩, wf_fr c1 hj, ?_, RM_fr t1, t2.tr (zEM.u (by unfold zK; omega) (by omega))⟩
      rw [(t1.1 v (by omega)).2.2.2.1, (c2.1 v (by omega)).2.2.2.1]
theorem ok_stocks (x1 x2 : Int32) : zOK (zf_X10_stocks x1 x2) (zf_X11_stocks x1 x2) := by
  refine zOK_now (fun h h' P I S hC hM => ?_)
  obtain ⟨c1, c2, -⟩ := hC
  have h7 := c1.2.1
  obtain ⟨t1, t2⟩ := m_thr hM.1
  unfold zf_X10_stocks zf_X11_stocks zf_X7_setStock
  simp only [Option.bind_some]
  rcases zr x1 (N := nV P) (by omega) with hx | ⟨v, hv, rfl⟩
  · rw [c_isThere_out c2 hx, m_isOne_out t1 h7 hx]
    exact ⟨_, _, _, P, rfl, c2, zE.rf, c1, rfl, t1, t2⟩
  · rw [c_isThere_in c2 c1 hv, m_isOne_in t1 h7 hv]
    simp only [Option.bind_some]
    simp only [z10, if_false]
    rcases zr x2 (N := 100) (by omega) with hx | ⟨j, hj, rfl⟩
    · rw [m_in_out (N := 100) (by omega) (by omega) (by decide) hx]
      by_cases c : x2 < 0
      · rw [if_pos c]
        exact ⟨_, _, _, P, rfl, c2, zE.rf, c1, rfl, t1, t2⟩
      · rw [if_neg c, if_neg]
        · exact ⟨_, _, _, P, rfl, c2, zE.rf, c1, rfl, t1, t2⟩
        · have h1 := zr_toInt (by omega) hx
          rw [Int32.le_iff_toInt_le]
          rw [Int32.lt_iff_toInt_lt, Int32.toInt_zero] at c
          have : (99 : Int32).toInt = 99 := by decide
          omega
    · rw [m_in_in (N := 100) (by omega) hj (by decide), if_neg (nI_pos (by omega)), zi_lit99, if_pos (by rw [zi_le (by omega) (by omega)]; omega)]
      simp only [Option.bind_some]
      simp only [z10, if_false]
      simp only [if_pos (zi_ix (show v < 7 by omega) (show 7 < 2000000000 by omega)), zi_clamp (show v < 2000000000 by omega)]
      refine ⟨_, _, _, setSk P (un (sk P) v j) (nd P), rfl, RC_sk c2, zE.ui ⟨by omega, by omega⟩, wf_sk c1 (by omega), ?_, RM_sk t1, t2.tr (zEM.u (by unfold zK; omega) (by omega))⟩
      rw [(t1.1 v (by omega)).2.2.2.2, (c2.1 v (by omega)).2.2.2.2]
theorem ok_sits (x1 : Int32) : zOK (zf_X10_sits x1) (zf_X11_sits x1) := by
  refine zOK_now (fun h h' P I S hC hM => ?_)
  obtain ⟨c1, c2, -⟩ := hC
  obtain ⟨t1, t2⟩ := m_thr hM.1
  unfold zf_X10_sits zf_X11_sits zf_X7_setChair
  simp only [Option.bind_some]
  rcases zr x1 (N := 12) (by omega) with hx | ⟨j, hj, rfl⟩
  · rw [c_isPlace_out hx, m_isPlace_out hx]
    exact ⟨_, _, _, P, rfl, c2, zE.rf, c1, rfl, t1, t2⟩
  · rw [c_isPlace_in hj, m_isPlace_in hj]
    simp only [Option.bind_some]
    simp only [z10, if_false]
    refine ⟨_, _, _, setCh P j (dy P), rfl, RC_ch c2, zE.ui ⟨by omega, by omega⟩, wf_ch c1 hj, ?_, RM_ch t1, t2.tr (zEM.u (by unfold zK; omega) (by omega))⟩
    rw [t1.2.2.1, c2.2.2.2.1]
theorem ok_sun (x1 x2 : Int32) : zOK (zf_X10_sun x1 x2) (zf_X11_sun x1 x2) := by
  refine zOK_now (fun h h' P I S hC hM => ?_)
  obtain ⟨c1, c2, -⟩ := hC
  obtain ⟨t1, t2⟩ := m_thr hM.1
  unfold zf_X10_sun zf_X11_sun zf_X7_setSun
  simp only [Option.bind_some]
  rcases zr x1 (N := 6) (by omega) with hx | ⟨i, hi, rfl⟩
  · rw [m_in_out (N := 6) (by omega) (by omega) (by decide) hx]
    by_cases c : x1 < 0
    · rw [if_pos c]
      exact ⟨_, _, _, P, rfl, c2, zE.rf, c1, rfl, t1, t2⟩
    · rw [if_neg c, if_pos]
      · exact ⟨_, _, _, P, rfl, c2, zE.rf, c1, rfl, t1, t2⟩
      · have h1 := zr_toInt (by omega) hx
        rw [Int32.lt_iff_toInt_lt] at c ⊢
        rw [Int32.toInt_zero] at c
        have : (5 : Int32).toInt = 5 := by decide
        omega
  · rw [m_in_in (N := 6) (by omega) hi (by decide), if_neg (nI_pos (by omega)), show (5 : Int32) = nI 5 by decide, if_neg (by rw [zi_lt (by omega) (by omega)]; omega)]
    simp only [Option.bind_some]
    simp only [z10, if_false]
    rcases zr x2 (N := 12) (by omega) with hx | ⟨j, hj, rfl⟩
    · rw [c_isPlace_out hx, m_isPlace_out hx]
      exact ⟨_, _, _, P, rfl, c2, zE.rf, c1, rfl, t1, t2⟩
    · rw [c_isPlace_in hj, m_isPlace_in hj]
      simp only [Option.bind_some]
      simp only [z10, if_false]
      refine ⟨_, _, _, setSun P i j, rfl, RC_sun c2, (zE.ui ⟨by omega, by omega⟩).tr (zE.ui ⟨by omega, by omega⟩), wf_sun c1 (by omega) hj, ?_, RM_sun t1, (t2.tr (zEM.u (by unfold zK; omega) (by omega))).tr (zEM.u (by unfold zK; omega) (by omega))⟩
      rw [t1.2.2.2.1, c2.2.2.2.2.1, t1.2.2.2.2.1, c2.2.2.2.2.2.1]

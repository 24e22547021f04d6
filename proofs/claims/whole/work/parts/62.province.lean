/-! province -/
def nxS (T : Nat → Int32) (L i : Nat) : Nat := match psS T L i with | .inl j => j | .inr j => j
def pzS (T : Nat → Int32) (L : Nat) : Nat → Nat
  | 0 => 0
  | k + 1 => nxS T L (pzS T L k)
def gdS (T : Nat → Int32) (L m : Nat) : Prop := ∀ k, k < m → psS T L (pzS T L k) = .inr (pzS T L (k + 1))
theorem pz_succ {T : Nat → Int32} {L k j : Nat} (h : psS T L (pzS T L k) = .inr j) : pzS T L (k + 1) = j := by
  show nxS T L (pzS T L k) = j
  unfold nxS
  rw [h]
theorem gd_succ {T : Nat → Int32} {L k j : Nat} (hg : gdS T L k) (h : psS T L (pzS T L k) = .inr j) : gdS T L (k + 1) := fun i hi => by
  by_cases c : i = k
  · subst c; rw [pz_succ h]; exact h
  · exact hg i (by omega)
theorem gd_ge {T : Nat → Int32} {L : Nat} : ∀ {k : Nat}, gdS T L k → 4 * k ≤ pzS T L k
  | 0, _ => Nat.zero_le _
  | k + 1, h => by
    have ih := gd_ge (k := k) (fun i hi => h i (by omega))
    obtain ⟨p1, p2, p3, p4, p5⟩ := ps_ok (h k (by omega))
    have := nD_ge p2
    omega
def tdA (T : Nat → Int32) (L : Nat) (g : zHp) (m : Nat) : Prop := ∀ k, k < m → g.1 72 k = nI (pzS T L k) ∧ g.1 73 k = T (pzS T L k) ∧ tdV T g k (T (pzS T L k)) (pzS T L k + 1)
theorem tdA_of {T : Nat → Int32} {L m : Nat} {h g : zHp} (ht : tdA T L h m) (e : zPr m h g) : tdA T L g m := fun k hk => by
  obtain ⟨a1, a2, a3⟩ := ht k hk
  exact ⟨by rw [(e.1 k hk).1]; exact a1, by rw [(e.1 k hk).2]; exact a2, tdV_of a3 (fun j _ hj => e.2 j (by omega))⟩
theorem zPr_a {m : Nat} {h g : zHp} (h2 : g.1 72 = h.1 72) (h3 : g.1 73 = h.1 73) (h4 : g.1 74 = h.1 74) : zPr m h g := ⟨fun i _ => ⟨by rw [h2], by rw [h3]⟩, fun i _ => by rw [h4]⟩
theorem m_readL {g0 : zHp} {S : zS} {d : Nat} (hW : zSW S) (hS : SM g0 S) (hd : d < 8) : ∀ (f fu k : Nat) (g : zHp), f < fu → RS g0 g d (pzS (sV S d) (sL S d) k) k false → gdS (sV S d) (sL S d) k → pzS (sV S d) (sL S d) k ≤ sL S d → (k = 0 ∨ pzS (sV S d) (sL S d) k < sL S d) → sL S d < pzS (sV S d) (sL S d) k + 4 * f → tdA (sV S d) (sL S d) g k →
    ∃ g', zl_X11_province_57 (nI d) fu g = some g' ∧ (match fltN (sV S d) (sL S d) f (pzS (sV S d) (sL S d) k) with
      | some j => ∃ k', RS g0 g' d j k' true
      | none => ∃ m, RS g0 g' d (sL S d) m false ∧ m ≤ 25 ∧ pzS (sV S d) (sL S d) m = sL S d ∧ gdS (sV S d) (sL S d) m ∧ tdA (sV S d) (sL S d) g' m) := by
  have w : sL S d ≤ 100 := (hW d hd).2.2.2.2
  intro f
  induction f with
  | zero => intro fu k g _ _ _ h1 _ h2; omega
  | succ f ih =>
    intro fu k g hfu hR hg hle hk hm ht
    obtain ⟨fu, rfl⟩ : ∃ q, fu = q + 1 := ⟨fu - 1, by omega⟩
    obtain ⟨fu', hfu'⟩ : ∃ q, fu = q + 1 := ⟨fu - 1, by omega⟩
    have hk25 := gd_ge hg
    have e4 : g.1 70 d = nI (sL S d) := (hR.1.S hS d hd).2.2.2.1
    obtain ⟨g1, a1, a2, a3⟩ := m_stmt hW hS hd hle (show k < 51 by omega) hR
    have u : zl_X11_province_57 (nI d) (fu + 1) g = zl_X11_province_57 (nI d) fu g1 := by
      conv => lhs; unfold zl_X11_province_57
      rw [hR.2.2.2.1, if_pos (show (if false = true then (1 : Int32) else 0) = 0 from rfl), hR.2.2.2.2]
      by_cases c : k = 0
      · rw [if_pos (by rw [c]; decide), zbs, Sum.elim_inr, a1, zbs]
      · rw [if_neg (show ¬ nI k = 0 by rw [zi_lit0, zi_eq (by omega) (by omega)]; exact c), if_pos (zi_ix hd (by omega)), zi_clamp (show d < 2000000000 by omega), e4, hR.2.2.1, if_neg (by rw [zi_le (by omega) (by omega)]; omega), zbs, Sum.elim_inr, a1, zbs]
    rw [u]
    have e : fltN (sV S d) (sL S d) (f + 1) (pzS (sV S d) (sL S d) k) = match psS (sV S d) (sL S d) (pzS (sV S d) (sL S d) k) with
      | .inl j => some j
      | .inr j => if j < sL S d then fltN (sV S d) (sL S d) f j else none := rfl
    rw [e]
    cases c : psS (sV S d) (sL S d) (pzS (sV S d) (sL S d) k) with
    | inl j =>
      rw [c] at a3
      have a3' : RS g0 g1 d j (k + 1) true := a3
      refine ⟨g1, ?_, k + 1, a3'⟩
      rw [hfu']
      unfold zl_X11_province_57
      rw [a3'.2.2.2.1, if_neg (show ¬ (if true = true then (1 : Int32) else 0) = 0 by decide)]
    | inr j =>
      rw [c] at a3
      have hj := pz_succ c
      obtain ⟨b1, b2, b3, b4⟩ := a3
      obtain ⟨p1, p2, p3, p4, p5⟩ := ps_ok c
      have hn2 := nD_ge p2
      have g1' := gd_succ hg c
      have t1 : tdA (sV S d) (sL S d) g1 (k + 1) := fun i hi => by
        by_cases q : i = k
        · subst q; exact ⟨b2, b3, b4⟩
        · exact tdA_of ht a2 i (by omega)
      have hk26 := gd_ge g1'
      dsimp only
      by_cases q : j < sL S d
      · rw [if_pos q]
        have r := ih fu (k + 1) g1 (by omega) (by rw [hj]; exact b1) g1' (by rw [hj]; omega) (Or.inr (by rw [hj]; exact q)) (by rw [hj]; omega) t1
        rw [hj] at r
        exact r
      · rw [if_neg q]
        have ej : j = sL S d := by omega
        rw [ej] at b1 hj
        refine ⟨g1, ?_, k + 1, b1, by omega, hj, g1', t1⟩
        have e4' : g1.1 70 d = nI (sL S d) := (b1.1.S hS d hd).2.2.2.1
        rw [hfu']
        unfold zl_X11_province_57
        rw [b1.2.2.2.1, if_pos (show (if false = true then (1 : Int32) else 0) = 0 from rfl), b1.2.2.2.2, if_neg (show ¬ nI (k + 1) = 0 by rw [zi_lit0, zi_eq (by omega) (by omega)]; omega), if_pos (zi_ix hd (by omega)), zi_clamp (show d < 2000000000 by omega), e4', b1.2.2.1, if_pos (by rw [zi_le (by omega) (by omega)]; omega), zbs, Sum.elim_inl]
/-- the answer behind k more statements -/
def anS (T : Nat → Int32) (L : Nat) : Nat → Nat → zP → Int32 × Option zP
  | 0, i, Q => (nI i, some Q)
  | k + 1, i, Q => match stp T (pzS T L i) Q with
    | none => (-2000 - nI (pzS T L i), none)
    | some Q' => anS T L k (i + 1) Q'
theorem anS_n {T : Nat → Int32} {L k i : Nat} {Q : zP} (h : stp T (pzS T L i) Q = none) : anS T L (k + 1) i Q = (-2000 - nI (pzS T L i), none) := by
  conv => lhs; unfold anS
  rw [h]
theorem anS_y {T : Nat → Int32} {L k i : Nat} {Q Q' : zP} (h : stp T (pzS T L i) Q = some Q') : anS T L (k + 1) i Q = anS T L k (i + 1) Q' := by
  conv => lhs; unfold anS
  rw [h]
theorem anS_0 (T : Nat → Int32) (L i : Nat) (Q : zP) : anS T L 0 i Q = (nI i, some Q) := rfl
theorem c_tellL {h : zHp} {P : zP} {S : zS} {d m : Nat} (hW : zSW S) (hS : SC h S) (hd : d < 8) (hg : gdS (sV S d) (sL S d) m) (hm : pzS (sV S d) (sL S d) m = sL S d) (c2 : RC h 16 P) : ∀ (k i fu : Nat) (g : zHp) (Q : zP), i + k = m → k < fu → RC g 25 Q → zWF 999 Q → zE 25 h g →
    ∃ t g', zl_X10_province_64 (nI d) fu (nI i) (nI (pzS (sV S d) (sL S d) i)) g = some t ∧ zE 25 h g' ∧ (match (anS (sV S d) (sL S d) k i Q).2 with
      | none => t = .inl ((anS (sV S d) (sL S d) k i Q).1, g')
      | some Q' => t = .inr ((anS (sV S d) (sL S d) k i Q).1, g') ∧ RC g' 25 Q' ∧ zWF 999 Q') := by
  have w : sL S d ≤ 100 := (hW d hd).2.2.2.2
  intro k
  induction k with
  | zero =>
    intro i fu g Q hik hfu hR hQ hE
    obtain ⟨fu, rfl⟩ : ∃ q, fu = q + 1 := ⟨fu - 1, by omega⟩
    have hi : i = m := by omega
    subst hi
    rw [anS_0]
    refine ⟨.inr (nI i, g), g, ?_, hE, rfl, hR, hQ⟩
    unfold zl_X10_province_64
    rw [zi_clamp (show d < 2000000000 by omega), show 43 + 1 + 2 * d = 44 + 2 * d from rfl, hE.1 (44 + 2 * d) (by omega), (hS d hd).2.2.2.1, hm, if_pos (show nI (sL S d) ≤ nI (sL S d) by rw [zi_le (by omega) (by omega)]; omega)]
  | succ k ih =>
    intro i fu g Q hik hfu hR hQ hE
    obtain ⟨fu, rfl⟩ : ∃ q, fu = q + 1 := ⟨fu - 1, by omega⟩
    have ps := hg i (by omega)
    obtain ⟨p1, p2, p3, p4, p5⟩ := ps_ok ps
    have hn := nD_le (sV S d (pzS (sV S d) (sL S d) i))
    have e4 : g.1 (44 + 2 * d) 4 = nI (sL S d) := by rw [hE.1 (44 + 2 * d) (by omega)]; exact (hS d hd).2.2.2.1
    have eT : ∀ j, j < 100 → g.1 (44 + 2 * d + 1) j = sV S d j := fun j hj => by rw [hE.1 (44 + 2 * d + 1) (by omega)]; exact (hS d hd).2.2.2.2 j hj
    obtain ⟨r, g1, a1, a2, a3⟩ := c_told e4 eT w ps hR hQ
    have eT1 : g1.1 (44 + 2 * d + 1) (pzS (sV S d) (sL S d) i) = sV S d (pzS (sV S d) (sL S d) i) := by rw [a2.1 (44 + 2 * d + 1) (by omega)]; exact eT _ (by omega)
    have u : zl_X10_province_64 (nI d) (fu + 1) (nI i) (nI (pzS (sV S d) (sL S d) i)) g = if r = 0 then some (Sum.inl (((-2000 : Int32) - nI (pzS (sV S d) (sL S d) i)), g1)) else zl_X10_province_64 (nI d) fu (nI (i + 1)) (nI (pzS (sV S d) (sL S d) (i + 1))) g1 := by
      conv => lhs; unfold zl_X10_province_64
      rw [zi_clamp (show d < 2000000000 by omega), show 43 + 1 + 2 * d = 44 + 2 * d from rfl, e4, if_neg (by rw [zi_le (by omega) (by omega)]; omega), a1, zbs]
      dsimp only
      by_cases c : r = 0
      · rw [if_pos c, if_pos c]
      · rw [if_neg c, if_neg c, if_pos (zi_ix (show pzS (sV S d) (sL S d) i < 100 by omega) (by omega)), zi_clamp (by omega), eT1, c_digB, if_neg p2, zbs, zbs, zi_one, zi_lit2, nI_add, nI_add, p4, Nat.add_assoc]
    rw [u]
    rcases a3 with ⟨s1, s2⟩ | ⟨Q', s1, s2, s3⟩
    · rw [anS_n s1, if_pos s2]
      exact ⟨_, g1, rfl, hE.tr a2, rfl⟩
    · rw [anS_y s1, if_neg (by rw [s2]; decide)]
      exact ih (i + 1) fu g1 Q' (by omega) (by omega) s3 (stp_wf ps hQ s1) (hE.tr a2)
theorem m_tellL {h : zHp} {P : zP} {T : Nat → Int32} {L m : Nat} (hg : gdS T L m) (hm25 : m ≤ 25) : ∀ (k i fu : Nat) (g : zHp) (Q : zP), i + k = m → k < fu → RM g Q → zWF 999 Q → KA g 75 P → zEM h g → g.1 60 21 = nI m → tdA T L g m →
    ∃ t g', zl_X11_province_113 fu (nI i) g = some t ∧ zEM h g' ∧ (match (anS T L k i Q).2 with
      | none => t = .inl ((anS T L k i Q).1, g') ∧ RM g' P
      | some Q' => t = .inr g' ∧ g'.1 60 21 = (anS T L k i Q).1 ∧ RM g' Q') := by
  intro k
  induction k with
  | zero =>
    intro i fu g Q hik hfu hR hQ hA hE h21 ht
    obtain ⟨fu, rfl⟩ : ∃ q, fu = q + 1 := ⟨fu - 1, by omega⟩
    have hi : i = m := by omega
    subst hi
    rw [anS_0]
    refine ⟨.inr g, g, ?_, hE, rfl, h21, hR⟩
    unfold zl_X11_province_113
    rw [h21, if_pos (by rw [zi_le (by omega) (by omega)]; omega)]
  | succ k ih =>
    intro i fu g Q hik hfu hR hQ hA hE h21 ht
    obtain ⟨fu, rfl⟩ : ∃ q, fu = q + 1 := ⟨fu - 1, by omega⟩
    have ps := hg i (by omega)
    obtain ⟨t1, t2, t3⟩ := ht i (by omega)
    obtain ⟨r, g1, a1, a2, a3⟩ := m_told (show i < 51 by omega) ps t2 t3 hR hQ
    have u0 : zl_X11_province_113 (fu + 1) (nI i) g = (if r = 0 then ((zf_X11_again g1).bind (fun r18 => (if zc_ix (nI i) 51 then some (Sum.inl (((-2000 : Int32) - (r18.1 72 (nI i).toNatClampNeg)), r18)) else none))) else zl_X11_province_113 fu (nI (i + 1)) g1) := by
      conv => lhs; unfold zl_X11_province_113
      rw [h21, if_neg (by rw [zi_le (by omega) (by omega)]; omega), a1, zbs, zi_one]
    rw [u0]
    rcases a3 with ⟨s1, s2⟩ | ⟨Q', s1, s2, s3⟩
    · obtain ⟨g2, b1, b2, b3⟩ := m_again (KA_m hA a2)
      rw [anS_n s1, if_pos s2, b1, zbs, if_pos (zi_ix (show i < 51 by omega) (by omega)), zi_clamp (by omega), b3.1 72 (by omega), a2.1 72 (by omega), t1]
      exact ⟨_, g2, rfl, (hE.tr a2.M).tr b3.M, rfl, b2⟩
    · rw [anS_y s1, if_neg (by rw [s2]; decide)]
      exact ih (i + 1) fu g1 Q' (by omega) (by omega) s3 (stp_wf ps hQ s1) (KA_m hA a2) (hE.tr a2.M) (by rw [a2.2.1 21 (by omega) (by omega) (by omega) (by omega) (by omega) (by omega)]; exact h21) (tdA_of ht (zPr_a (a2.1 72 (by omega)) (a2.1 73 (by omega)) (a2.1 74 (by omega))))
theorem ok_province (x1 : Int32) : zOK (zf_X10_province x1) (zf_X11_province x1) := by
  refine zOK_upd (fun h h' P I S hC hM => ?_)
  have hC' := hC
  obtain ⟨c1, c2, -, -, c5, c6⟩ := hC'
  have h7 := c1.2.1
  obtain ⟨t1, t2⟩ := m_thr hM.1
  have t3 := m_thrS hM.2.2.2
  unfold zf_X10_province zf_X11_province
  simp only [zbs]
  generalize zc_ui h' 60 17 0 = g at t1 t2 t3
  have no : ∀ x : Int32, ∃ r h1 h2 P2 I2 S2, (some (x, h)) = some (r, h1) ∧ CI h1 P2 I2 S2 ∧ zFC h h1 ∧ (some (x, g)) = some (r, h2) ∧ MI h2 P2 I2 S2 ∧ zFM h' h2 := fun x => ⟨_, _, _, P, I, S, rfl, hC, fun _ _ => ⟨rfl, rfl⟩, rfl, t2.MI hM t1, t2.F⟩
  rcases zr x1 (N := 8) (by omega) with hx | ⟨d, hd, rfl⟩
  · rw [c_ref_out hx, m_ref_out hx]
    exact no _
  rw [c_ref_in c5 c6 hd, m_ref_in c5 t3 hd]
  simp only [zbs]
  by_cases k : (S d).1 = 2
  rotate_left
  · have hn := refI_n (c5 d hd).1 k
    have h0 : ¬ refI (S d).1 = 0 := fun q => by rw [q] at hn; exact absurd hn (by decide)
    rw [if_neg h0, if_neg h0]
    simp only [zbs, if_neg (fun q => zi_nle.mp q hn)]
    exact no _
  have w := c5 d hd
  have wt : sT S d ≤ 2 := w.2.2.2.1
  have wL : sL S d ≤ 100 := w.2.2.2.2
  have e := c6 d hd
  have f := t3 d hd
  have e3 : h.1 (44 + 2 * d) 3 = nI (sT S d) := e.2.2.1
  have f3 : g.1 69 d = nI (sT S d) := f.2.2.1
  rw [k, refI_2, if_pos rfl, if_pos rfl]
  simp only [if_pos (zi_ix hd (show 8 < 2000000000 by omega)), zi_clamp (show d < 2000000000 by omega), show 43 + 1 + 2 * d = 44 + 2 * d from rfl, e3, f3]
  by_cases kt : sT S d = 0
  rotate_left
  · have h0 : ¬ nI (sT S d) = 0 := by rw [zi_lit0, zi_eq (by omega) (by omega)]; exact kt
    rw [if_neg h0, if_neg h0]
    simp only [zbs]
    rw [if_neg (by decide)]
    exact no _
  rw [kt, if_pos (show nI 0 = 0 by decide), if_pos (show nI 0 = 0 by decide)]
  simp only [zbs]
  rw [if_pos (show (0 : Int32) ≤ 0 by decide), c_fault (T := sV S d) (L := sL S d) e.2.2.2.1 e.2.2.2.2 wL]
  simp only [zbs]
  -- the reference's reading
  have gR : RM (zc_ui g 60 18 (nI d)) P := RM_u t1 (by omega)
  have gS : SM (zc_ui g 60 18 (nI d)) S := (zEM.u (h := g) (a := 60) (k := 18) (x := nI d) (by unfold zK; omega) (by omega)).S t3
  have gE : zEM h' (zc_ui g 60 18 (nI d)) := t2.tr (zEM.u (by unfold zK; omega) (by omega))
  have r1 : RS (zc_ui g 60 18 (nI d)) (zc_ui (zc_ui (zc_ui (zc_ui g 60 18 (nI d)) 60 19 0) 60 20 0) 60 21 0) d (pzS (sV S d) (sL S d) 0) 0 false := by
    refine ⟨((zRd.f (by omega)).tr (zRd.f (by omega))).tr (zRd.f (by omega)), ?_, ?_, ?_, ?_⟩
    · rw [zu_n (by omega), zu_n (by omega), zu_n (by omega), zu_y]
    · rw [zu_n (by omega), zu_n (by omega), zu_y]; rfl
    · rw [zu_n (by omega), zu_y]; rfl
    · rw [zu_y]; rfl
  obtain ⟨g1, a1, a2⟩ := m_readL c5 gS hd 26 zFU 0 _ (by rw [zFU_eq]; omega) r1 (fun i hi => absurd hi (by omega)) (Nat.zero_le _) (Or.inl rfl) (by show sL S d < 0 + 4 * 26; omega) (fun i hi => absurd hi (by omega))
  rw [a1]
  simp only [zbs]
  rw [show pzS (sV S d) (sL S d) 0 = 0 from rfl] at a2
  have E1 : ∀ {d p k : Nat} {bad : Bool} {q : zHp}, RS (zc_ui g 60 18 (nI d)) q d p k bad → zEM (zc_ui g 60 18 (nI d)) q := fun hr => ⟨fun a ha => hr.1.1 a (by unfold zK at ha; omega) (by unfold zK at ha; omega) (by unfold zK at ha; omega) (by unfold zK at ha; omega), hr.1.2.1 27 (by omega) (by omega) (by omega), fun a _ => by rw [hr.1.2.2]⟩
  cases hf : fltN (sV S d) (sL S d) 26 0 with
  | some j =>
    rw [hf] at a2
    obtain ⟨k', b1⟩ := a2
    have hj := flt_le 26 0 j (Nat.zero_le _) hf
    dsimp only
    rw [if_neg (nI_pos (by omega)), b1.2.2.2.1, if_neg (show ¬ (if true = true then (1 : Int32) else 0) = 0 by decide), b1.2.2.1]
    exact ⟨_, _, _, P, I, S, rfl, hC, fun _ _ => ⟨rfl, rfl⟩, rfl, (gE.tr (E1 b1)).MI hM (b1.1.R gR), (gE.tr (E1 b1)).F⟩
  | none =>
    rw [hf] at a2
    obtain ⟨m, b1, b2, b3, b4, b5⟩ := a2
    dsimp only
    rw [if_pos (show (-1 : Int32) < 0 by decide), b1.2.2.2.1, if_pos (show (if false = true then (1 : Int32) else 0) = 0 from rfl)]
    obtain ⟨q0, d1, d2, d3, d4⟩ := c_mind c2 c1
    obtain ⟨k1, p1, p2, p3, p4⟩ := m_think (b1.1.R gR)
    obtain ⟨x, q1, u1, u2, u3⟩ := c_tellL c5 c6 hd b4 b3 c2 m 0 zFU q0 P (by omega) (by rw [zFU_eq]; omega) d2 c1 d4
    obtain ⟨y, k2, v1, v2, v3⟩ := m_tellL (h := h') b4 b2 m 0 zFU k1 P (by omega) (by rw [zFU_eq]; omega) p2 c1 p3 ((gE.tr (E1 b1)).tr p4.M) (by rw [p4.2.1 21 (by omega) (by omega) (by omega)]; exact b1.2.2.2.2) (tdA_of b5 (zPr_a (p4.1 72 (by omega) (by omega)) (p4.1 73 (by omega) (by omega)) (p4.1 74 (by omega) (by omega))))
    rw [d1, p1]
    simp only [zbs]
    rw [show zl_X10_province_64 (nI d) zFU 0 0 q0 = some x from u1, show zl_X11_province_113 zFU 0 k1 = some y from v1]
    simp only [zbs]
    cases ha : (anS (sV S d) (sL S d) m 0 P).2 with
    | none =>
      rw [ha] at u3 v3
      have u3' : x = .inl ((anS (sV S d) (sL S d) m 0 P).1, q1) := u3
      have v3' : y = .inl ((anS (sV S d) (sL S d) m 0 P).1, k2) ∧ RM k2 P := v3
      rw [u3', v3'.1]
      simp only [Sum.elim_inl]
      exact ⟨_, _, _, P, I, S, rfl, u2.C.CI hC, u2.C.F, rfl, v2.MI hM v3'.2, v2.F⟩
    | some Q =>
      rw [ha] at u3 v3
      have u3' : x = .inr ((anS (sV S d) (sL S d) m 0 P).1, q1) ∧ RC q1 25 Q ∧ zWF 999 Q := u3
      have v3' : y = .inr k2 ∧ k2.1 60 21 = (anS (sV S d) (sL S d) m 0 P).1 ∧ RM k2 Q := v3
      rw [u3'.1, v3'.1]
      simp only [Sum.elim_inr]
      obtain ⟨q2, z1, z2, z3⟩ := c_become (h := q1) (p := 16) (x := 25) (P := Q) (by omega) (by omega) (by omega) u3'.2.1 u3'.2.2.2.1
      rw [z1]
      simp only [zbs]
      obtain ⟨y1, y2⟩ := CI_now (u2.C.CI hC) z2 z3 u3'.2.2
      refine ⟨_, _, _, Q, I, S, rfl, y1, fun a ha => ⟨(y2 a ha).1.trans (u2.C.F a ha).1, (y2 a ha).2.trans (u2.C.F a ha).2⟩, ?_, v2.MI hM v3'.2.2, v2.F⟩
      rw [v3'.2.1]

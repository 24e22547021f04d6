/-! fractions in least terms; mean -/
def gdn : Nat → Nat → Nat → Prop
  | 0, _, b => b = 0
  | n + 1, a, b => b = 0 ∨ gdn n b (a % b)
def fbN : Nat → Nat × Nat
  | 0 => (0, 1)
  | n + 1 => ((fbN n).2, (fbN n).1 + (fbN n).2)
theorem gdn_fb : ∀ (n a b : Nat), b ≤ a → ¬ gdn n a b → (fbN (n + 1)).1 ≤ b ∧ (fbN (n + 1)).2 ≤ a := by
  intro n
  induction n with
  | zero =>
    intro a b h1 h2
    have h3 : ¬ b = 0 := h2
    show 1 ≤ b ∧ 0 + 1 ≤ a
    omega
  | succ n ih =>
    intro a b h1 h2
    have h3 : ¬ (b = 0 ∨ gdn n b (a % b)) := h2
    have hb : b ≠ 0 := fun q => h3 (Or.inl q)
    have hr : a % b < b := Nat.mod_lt _ (by omega)
    obtain ⟨i1, i2⟩ := ih b (a % b) (by omega) (fun q => h3 (Or.inr q))
    have hd := Nat.div_add_mod a b
    have h4 : 1 ≤ a / b := (Nat.one_le_div_iff (by omega)).mpr h1
    have h5 : b ≤ b * (a / b) := Nat.le_mul_of_pos_right b (by omega)
    refine ⟨i2, ?_⟩
    show (fbN (n + 1)).1 + (fbN (n + 1)).2 ≤ a
    omega
theorem gdn_60 {a b : Nat} (ha : a < 2 ^ 36) (hb : b < 2 ^ 36) : gdn 60 a b := by
  have f1 : (fbN 61).1 = 2504730781961 := by decide +kernel
  have f2 : (fbN 60).1 = 1548008755920 := by decide +kernel
  by_cases c : b ≤ a
  · by_cases q : gdn 60 a b
    · exact q
    · have := (gdn_fb 60 a b c q).1
      rw [f1] at this
      omega
  · have e : a % b = a := Nat.mod_eq_of_lt (by omega)
    show b = 0 ∨ gdn 59 b (a % b)
    rw [e]
    by_cases q : gdn 59 b a
    · exact Or.inr q
    · have := (gdn_fb 59 b a (by omega) q).1
      rw [f2] at this
      omega
theorem gcd_step (a b : Nat) : Nat.gcd b (a % b) = Nat.gcd a b := by
  rw [Nat.gcd_comm b (a % b), ← Nat.gcd_rec b a, Nat.gcd_comm]
theorem lc_0 {b : Nat} (hb : b < 2 ^ 63) : (lg_cmp (lN b) 0 = 0) ↔ b = 0 := by
  rw [lg_cmp_eq, show (0 : Int64) = lN 0 by decide, pk_lEQ hb (by omega)]
theorem c_gcdL : ∀ (n y fu a b : Nat), y + n = 60 → n < fu → a < 2 ^ 36 → b < 2 ^ 36 → gdn n a b → zl_X10_greatestDivisor_9 fu (lN a) (lN b) (nI y) = some (lN (Nat.gcd a b)) := by
  intro n
  induction n with
  | zero =>
    intro y fu a b hy hfu ha hb hg
    obtain ⟨fu, rfl⟩ : ∃ f, fu = f + 1 := ⟨fu - 1, by omega⟩
    have h0 : b = 0 := hg
    subst h0
    unfold zl_X10_greatestDivisor_9
    rw [if_pos (by rw [show (60 : Int32) = nI 60 by decide, zi_le (by omega) (by omega)]; omega), Nat.gcd_zero_right]
  | succ n ih =>
    intro y fu a b hy hfu ha hb hg
    obtain ⟨fu, rfl⟩ : ∃ f, fu = f + 1 := ⟨fu - 1, by omega⟩
    unfold zl_X10_greatestDivisor_9
    rw [if_neg (by rw [show (60 : Int32) = nI 60 by decide, zi_le (by omega) (by omega)]; omega)]
    by_cases h0 : b = 0
    · rw [if_pos ((lc_0 (by omega)).mpr h0), h0, Nat.gcd_zero_right]
    · have hn : ¬ lN b = 0 := by rw [show (0 : Int64) = lN 0 by decide, pk_lEQ (by omega) (by omega)]; exact h0
      have hr : a % b < b := Nat.mod_lt _ (by omega)
      rw [if_neg (fun q => h0 ((lc_0 (by omega)).mp q)), if_pos hn, pk_lRem (by omega) (by omega) (by omega), zi_one, ih (y + 1) fu b (a % b) (by omega) (by omega) hb (by omega) (hg.resolve_left h0), gcd_step]
theorem m_gcdL : ∀ (n fu a b : Nat), n < fu → a < 2 ^ 36 → b < 2 ^ 36 → gdn n a b → zl_X11_divisor_6 fu (lN a) (lN b) = some (lN (Nat.gcd a b)) := by
  intro n
  induction n with
  | zero =>
    intro fu a b hfu ha hb hg
    obtain ⟨fu, rfl⟩ : ∃ f, fu = f + 1 := ⟨fu - 1, by omega⟩
    have h0 : b = 0 := hg
    subst h0
    unfold zl_X11_divisor_6
    rw [if_pos ((lc_0 (by omega)).mpr rfl), Nat.gcd_zero_right]
  | succ n ih =>
    intro fu a b hfu ha hb hg
    obtain ⟨fu, rfl⟩ : ∃ f, fu = f + 1 := ⟨fu - 1, by omega⟩
    unfold zl_X11_divisor_6
    by_cases h0 : b = 0
    · rw [if_pos ((lc_0 (by omega)).mpr h0), h0, Nat.gcd_zero_right]
    · have hn : ¬ lN b = 0 := by rw [show (0 : Int64) = lN 0 by decide, pk_lEQ (by omega) (by omega)]; exact h0
      have hr : a % b < b := Nat.mod_lt _ (by omega)
      rw [if_neg (fun q => h0 ((lc_0 (by omega)).mp q)), if_pos hn, pk_lRem (by omega) (by omega) (by omega), ih fu b (a % b) (by omega) hb (by omega) (hg.resolve_left h0), gcd_step]
def prtN (u a b : Nat) : Nat := if u = 0 then a / Nat.gcd a b else b / Nat.gcd a b
theorem gcd_lt {a b : Nat} (ha : a < 2 ^ 36) (hb : b < 2 ^ 36) : Nat.gcd a b < 2 ^ 36 := by
  by_cases h : b = 0
  · rw [h, Nat.gcd_zero_right]; exact ha
  · exact Nat.lt_of_le_of_lt (Nat.gcd_le_right a (by omega)) hb
theorem c_partOf {a b u : Nat} (ha : a < 2 ^ 36) (hb : b < 2 ^ 36) (h0 : 0 < b) (hu : u < 2) : zf_X10_partOf (lN a) (lN b) (nI u) = some (lN (prtN u a b)) := by
  have hg := gcd_lt ha hb
  have hp : 0 < Nat.gcd a b := Nat.gcd_pos_of_pos_right a h0
  have hn : ¬ lN (Nat.gcd a b) = 0 := by rw [show (0 : Int64) = lN 0 by decide, pk_lEQ (by omega) (by omega)]; omega
  unfold zf_X10_partOf zf_X10_greatestDivisor
  rw [show zl_X10_greatestDivisor_9 zFU (lN a) (lN b) 0 = _ from c_gcdL 60 0 zFU a b (by omega) (by rw [zFU_eq]; omega) ha hb (gdn_60 ha hb), zbs, zbs, if_pos ((lg_cmp_ge _ _).mpr (by rw [show (1 : Int64) = lN 1 by decide, pk_lLE (by omega) (by omega)]; exact hp)), pk_lDiv (by omega) hp (by omega), pk_lDiv (by omega) hp (by omega), if_pos hn, if_pos hn]
  unfold prtN
  have c : u = 0 ∨ u = 1 := by omega
  rcases c with rfl | rfl
  · rw [if_pos (by decide), if_pos rfl]
  · rw [if_neg (by decide), if_neg (by decide)]
theorem m_partOf {a b u : Nat} (ha : a < 2 ^ 36) (hb : b < 2 ^ 36) (h0 : 0 < b ∨ a = 0) (hu : u < 2) : zf_X11_partOf (lN a) (lN b) (nI u) = some (lN (if a = 0 then u else prtN u a b)) := by
  unfold zf_X11_partOf
  by_cases c0 : a = 0
  · rw [if_pos ((lc_0 (by omega)).mpr c0), if_pos c0, nI_l (by omega)]
  have hg := gcd_lt ha hb
  have hp : 0 < Nat.gcd a b := Nat.gcd_pos_of_pos_left b (by omega)
  have hn : ¬ lN (Nat.gcd a b) = 0 := by rw [show (0 : Int64) = lN 0 by decide, pk_lEQ (by omega) (by omega)]; omega
  unfold zf_X11_divisor
  rw [if_neg (fun q => c0 ((lc_0 (by omega)).mp q)), if_neg c0, m_gcdL 60 zFU a b (by rw [zFU_eq]; omega) ha hb (gdn_60 ha hb), zbs, zbs, pk_lDiv (by omega) hp (by omega), pk_lDiv (by omega) hp (by omega), if_pos hn, if_pos hn]
  unfold prtN
  have c : u = 0 ∨ u = 1 := by omega
  rcases c with rfl | rfl
  · rw [if_pos (by decide), if_pos rfl]
  · rw [if_neg (by decide), if_neg (by decide)]
theorem prt_0 {u b : Nat} (h0 : 0 < b) (hu : u < 2) : prtN u 0 b = u := by
  unfold prtN
  rw [Nat.gcd_zero_left]
  have c : u = 0 ∨ u = 1 := by omega
  rcases c with rfl | rfl
  · rw [if_pos rfl, Nat.zero_div]
  · rw [if_neg (by decide), Nat.div_self h0]
theorem prt_mul {u a b c : Nat} (hc : 0 < c) : prtN u (c * a) (c * b) = prtN u a b := by
  unfold prtN
  rw [Nat.gcd_mul_left, Nat.mul_div_mul_left _ _ hc, Nat.mul_div_mul_left _ _ hc]
/-- both parts alike, where the reference's fraction is the class's times c -/
theorem part_eq {a b c u : Nat} (hc : 0 < c) (ha : c * a < 2 ^ 36) (hb : c * b < 2 ^ 36) (h0 : 0 < b) (hu : u < 2) : ∃ r, zf_X10_partOf (lN a) (lN b) (nI u) = some r ∧ zf_X11_partOf (lN (c * a)) (lN (c * b)) (nI u) = some r := by
  have h1 : a ≤ c * a := Nat.le_mul_of_pos_left a hc
  have h2 : b ≤ c * b := Nat.le_mul_of_pos_left b hc
  refine ⟨_, c_partOf (by omega) (by omega) h0 hu, ?_⟩
  rw [m_partOf ha hb (Or.inl (by omega)) hu]
  by_cases k : c * a = 0
  · rw [if_pos k]
    have : a = 0 := by omega
    rw [this, prt_0 h0 hu]
  · rw [if_neg k, prt_mul hc]
theorem c_isPart {x : Int32} : zf_X10_isPart x = some (if 0 ≤ x ∧ x ≤ 1 then 1 else 0) := by
  unfold zf_X10_isPart
  by_cases c0 : x = 0
  · rw [if_pos c0, if_pos (by rw [c0]; decide)]
  by_cases c1 : x = 1
  · rw [if_neg c0, if_pos c1, if_pos (by rw [c1]; decide)]
  · rw [if_neg c0, if_neg c1, if_neg]
    rintro ⟨q1, q2⟩
    rw [zi_leT, zi_T0] at q1
    rw [zi_leT, show (1 : Int32).toInt = 1 by decide] at q2
    have q3 : ¬ x.toInt = 0 := fun q => c0 (Int32.toInt_inj.mp (q.trans zi_T0.symm))
    have q4 : ¬ x.toInt = 1 := fun q => c1 (Int32.toInt_inj.mp (q.trans (show (1 : Int32).toInt = 1 by decide).symm))
    omega
theorem part_of {x : Int32} (h : 0 ≤ x ∧ x ≤ 1) : ∃ u, u < 2 ∧ x = nI u := by
  obtain ⟨n, h1, h2⟩ := zi_nat (x := x) (L := 1) (by have := zi_leT.mp h.1; rw [zi_T0] at this; exact this) (by have := zi_leT.mp h.2; rw [show (1 : Int32).toInt = 1 by decide] at this; exact this) (by omega)
  exact ⟨n, by omega, h2⟩
theorem sumN_le {f : Nat → Nat} {B : Nat} : ∀ n, (∀ v, v < n → f v ≤ B) → sumN f n ≤ n * B
  | 0, _ => by show 0 ≤ 0 * B; omega
  | n + 1, h => by
    have h1 := sumN_le n (fun v hv => h v (by omega))
    have h2 := h n (by omega)
    show sumN f n + f n ≤ (n + 1) * B
    rw [Nat.succ_mul]
    omega
theorem stockN_le {P : zP} {D : Nat} (h : zWF D P) : stockN P ≤ 7 * 99 := by
  have h1 := sumN_le (f := sk P) (B := 99) (nV P) (fun v hv => (h.1 v (by have := h.2.1; omega)).2.2.2.2)
  have h2 : nV P * 99 ≤ 7 * 99 := Nat.mul_le_mul_right 99 h.2.1
  exact Nat.le_trans h1 h2
theorem ok_mean (x1 : Int32) : zOKLp (zf_X10_mean x1) (zf_X11_mean x1) := by
  refine zOKLp_ask2 (fun h h' P I S hC hM => ?_)
  obtain ⟨c1, c2, -⟩ := hC
  have h7 := c1.2.1
  obtain ⟨t1, t2⟩ := m_thr hM.1
  unfold zf_X10_mean zf_X11_mean
  simp only [zbs]
  generalize zc_ui h' 60 17 0 = g at t1 t2
  rw [c_isPart, m_in32 x1 0 1 (by decide) (by decide)]
  simp only [zbs]
  by_cases c : 0 ≤ x1 ∧ x1 ≤ 1
  rotate_left
  · rw [if_neg c]
    exact ⟨_, _, rfl, rfl, t1, t2⟩
  obtain ⟨u, hu, rfl⟩ := part_of c
  have hs := stockN_le c1
  rw [if_pos c, c_allStock c2 c1, m_allStock t1 c1]
  simp only [zbs, z10, if_false]
  rw [c2.2.2.1, t1.2.1, nI_l (show stockN P < 2 ^ 31 by omega), nI_l (show nV P < 2 ^ 31 by omega)]
  by_cases k : nV P = 0
  · have e0 : stockN P = 0 := by unfold stockN; rw [k]; rfl
    rw [k, if_neg (by decide), e0, show (1 : Int32).toInt64 = lN 1 by decide, c_partOf (by omega) (by omega) (by omega) hu, m_partOf (by omega) (by omega) (Or.inr rfl) hu, if_pos rfl, prt_0 (by omega) hu]
    exact ⟨_, _, rfl, rfl, t1, t2⟩
  · have e1 : (if (1 : Int32) < nI (nV P) then nI (nV P) else (1 : Int32)) = nI (nV P) := by
      by_cases k1 : nV P = 1
      · rw [k1]; decide
      · rw [if_pos (by rw [zi_lit1, zi_lt (by omega) (by omega)]; omega)]
    rw [e1, nI_l (show nV P < 2 ^ 31 by omega)]
    obtain ⟨r, q1, q2⟩ := part_eq (a := stockN P) (b := nV P) (c := 1) (u := u) (by omega) (by omega) (by omega) (by omega) hu
    rw [Nat.one_mul, Nat.one_mul] at q2
    rw [q1, q2]
    exact ⟨_, _, rfl, rfl, t1, t2⟩

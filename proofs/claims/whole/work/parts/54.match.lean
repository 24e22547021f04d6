/-! match: the least sums, of the reference and of the class -/
def mnF (ok : Nat → Bool) (f : Nat → Nat) (I : Nat) : Nat → Nat
  | 0 => I
  | o + 1 => if ok o then min (mnF ok f I o) (f o) else mnF ok f I o
theorem mnF_le {ok : Nat → Bool} {f : Nat → Nat} {I : Nat} : ∀ n, mnF ok f I n ≤ I
  | 0 => Nat.le_refl _
  | n + 1 => by
    have ih := mnF_le (ok := ok) (f := f) (I := I) n
    unfold mnF
    split
    · exact Nat.le_trans (Nat.min_le_left _ _) ih
    · exact ih
theorem mnF_sat {ok : Nat → Bool} {f : Nat → Nat} {I : Nat} : ∀ n, mnF ok (fun o => min I (f o)) I n = mnF ok f I n
  | 0 => rfl
  | n + 1 => by
    have ih := mnF_sat (ok := ok) (f := f) (I := I) n
    have h := mnF_le (ok := ok) (f := f) (I := I) n
    unfold mnF
    rw [ih]
    split
    · omega
    · rfl
def okM (v s o : Nat) : Bool := !decide (o = v) && !s.testBit o
def lrN (P : zP) (I : Nat) : Nat → Nat → Nat
  | 0, _ => 0
  | k + 1, s => mnF (okM (nV P - (k + 1)) s) (fun o => wayN P (nV P - (k + 1)) (pl P o) + lrN P I k (ad s o)) I (nV P)
theorem lrN_le (P : zP) (I : Nat) : ∀ k s, lrN P I k s ≤ I
  | 0, _ => Nat.zero_le _
  | _ + 1, _ => mnF_le _
/-- the reference's and the class's: both alike, or both have none -/
def rlM (B a b : Nat) : Prop := (a = b ∧ a ≤ B) ∨ (a = 99999 ∧ b = 1000000)
theorem mnF_rl {ok : Nat → Bool} {f g : Nat → Nat} {B : Nat} (hB : B < 99999) : ∀ n, (∀ o, o < n → ok o = true → (f o = g o ∧ f o ≤ B) ∨ (99999 ≤ f o ∧ 1000000 ≤ g o)) → rlM B (mnF ok f 99999 n) (mnF ok g 1000000 n)
  | 0, _ => Or.inr ⟨rfl, rfl⟩
  | n + 1, h => by
    have ih := mnF_rl hB n (fun o ho => h o (by omega))
    have l1 := mnF_le (ok := ok) (f := f) (I := 99999) n
    have l2 := mnF_le (ok := ok) (f := g) (I := 1000000) n
    unfold mnF
    cases hc : ok n
    · simpa using ih
    · simp only [if_true]
      have hn := h n (by omega) hc
      unfold rlM at ih ⊢
      omega
theorem lr_rl {P : zP} {D : Nat} (hW : zWF D P) : ∀ k, k ≤ nV P → ∀ s, rlM (100 * k) (lrN P 99999 k s) (lrN P 1000000 k s)
  | 0, _, _ => Or.inl ⟨rfl, Nat.zero_le _⟩
  | k + 1, hk, s => by
    have h7 := hW.2.1
    refine mnF_rl (by omega) (nV P) (fun o ho hok => ?_)
    have ih := lr_rl hW k (by omega) (ad s o)
    have hw := wayN_lt (v := nV P - (k + 1)) hW (by omega) (hW.1 o (by omega)).2.2.1
    unfold rlM at ih
    omega
/-- that there is such a choice -/
def feM (n : Nat) : Nat → Nat → Bool
  | 0, _ => true
  | k + 1, s => (List.range n).any (fun o => okM (n - (k + 1)) s o && feM n k (ad s o))
theorem feM_ok {n : Nat} (h2 : 2 ≤ n) (h7 : n ≤ 7) : feM n n 0 = true := by
  have key : ∀ n, n < 8 → 2 ≤ n → feM n n 0 = true := by decide +kernel
  exact key n (by omega) h2
theorem mnF_at {ok : Nat → Bool} {f : Nat → Nat} {I o : Nat} (hok : ok o = true) : ∀ {n}, o < n → mnF ok f I n ≤ f o
  | 0, h => absurd h (by omega)
  | n + 1, h => by
    unfold mnF
    by_cases c : o = n
    · subst c; rw [if_pos hok]; exact Nat.min_le_right _ _
    · have ih := mnF_at (f := f) (I := I) hok (n := n) (by omega)
      split
      · exact Nat.le_trans (Nat.min_le_left _ _) ih
      · exact ih
theorem fe_fin {P : zP} {D : Nat} (hW : zWF D P) : ∀ k, k ≤ nV P → ∀ s, feM (nV P) k s = true → lrN P 99999 k s < 99999
  | 0, _, _, _ => by show 0 < 99999; omega
  | k + 1, hk, s, hf => by
    have h7 := hW.2.1
    unfold feM at hf
    obtain ⟨o, ho, hb⟩ := List.any_eq_true.mp hf
    have ho' : o < nV P := List.mem_range.mp ho
    rw [Bool.and_eq_true] at hb
    have ih := fe_fin hW k (by omega) (ad s o) hb.2
    have hr := lr_rl hW k (by omega) (ad s o)
    have hw := wayN_lt (v := nV P - (k + 1)) hW (by omega) (hW.1 o (by omega)).2.2.1
    have h1 : lrN P 99999 (k + 1) s ≤ wayN P (nV P - (k + 1)) (pl P o) + lrN P 99999 k (ad s o) := mnF_at hb.1 ho'
    unfold rlM at hr
    omega
theorem mnF_ex {ok : Nat → Bool} {f : Nat → Nat} {I : Nat} : ∀ {n}, mnF ok f I n < I → ∃ o, o < n ∧ ok o = true ∧ f o = mnF ok f I n
  | 0, h => absurd h (Nat.lt_irrefl I)
  | n + 1, h => by
    by_cases c : mnF ok f I (n + 1) = mnF ok f I n
    · rw [c] at h
      obtain ⟨o, h1, h2, h3⟩ := mnF_ex (n := n) h
      exact ⟨o, by omega, h2, by rw [c]; exact h3⟩
    · have e : mnF ok f I (n + 1) = if ok n then min (mnF ok f I n) (f n) else mnF ok f I n := rfl
      rw [e] at c ⊢
      by_cases hok : ok n = true
      · rw [if_pos hok] at c ⊢
        exact ⟨n, by omega, hok, by omega⟩
      · rw [if_neg hok] at c
        exact absurd rfl c
/-- the choice of v, where s is taken: a source that reaches the least sum -/
def pkM (P : zP) (v s o : Nat) : Bool := okM v s o && decide (wayN P v (pl P o) + lrN P 99999 (nV P - (v + 1)) (ad s o) = lrN P 99999 (nV P - v) s)
def piM (P : zP) (v s : Nat) : Nat := (fstI (pkM P v s) (nV P)).toNatClampNeg
def stM (P : zP) : Nat → Nat
  | 0 => 0
  | j + 1 => ad (stM P j) (piM P j (stM P j))
theorem lr_at {P : zP} {v : Nat} (hv : v < nV P) (I s : Nat) : lrN P I (nV P - v) s = mnF (okM v s) (fun o => wayN P v (pl P o) + lrN P I (nV P - (v + 1)) (ad s o)) I (nV P) := by
  obtain ⟨k, hk⟩ : ∃ k, nV P - v = k + 1 := ⟨nV P - v - 1, by omega⟩
  have e1 : nV P - (k + 1) = v := by omega
  have e2 : nV P - (v + 1) = k := by omega
  rw [hk, e2]
  show mnF (okM (nV P - (k + 1)) s) (fun o => wayN P (nV P - (k + 1)) (pl P o) + lrN P I k (ad s o)) I (nV P) = _
  rw [e1]
theorem pi_ok {P : zP} {v s : Nat} (h7 : nV P ≤ 7) (hv : v < nV P) (hf : lrN P 99999 (nV P - v) s < 99999) : piM P v s < nV P ∧ pkM P v s (piM P v s) = true ∧ (∀ j, j < piM P v s → pkM P v s j = false) ∧ fstI (pkM P v s) (nV P) = nI (piM P v s) := by
  have h1 := lr_at hv 99999 s
  rw [h1] at hf
  obtain ⟨o, a1, a2, a3⟩ := mnF_ex hf
  have hp : pkM P v s o = true := by
    unfold pkM
    rw [a2, h1, Bool.true_and, decide_eq_true_eq]
    exact a3
  rcases fst_cases (pkM P v s) (nV P) with ⟨_, h⟩ | ⟨i, b1, b2, b3⟩
  · rw [h o a1] at hp; exact absurd hp (by decide)
  · have e := fst_at b3 b2 (by omega) b1
    have e2 : piM P v s = i := by unfold piM; rw [e, zi_clamp (by omega)]
    rw [e2]
    exact ⟨b1, b2, b3, e⟩
theorem pk_bit {P : zP} {v s o : Nat} (h : pkM P v s o = true) : o ≠ v ∧ s.testBit o = false ∧ wayN P v (pl P o) + lrN P 99999 (nV P - (v + 1)) (ad s o) = lrN P 99999 (nV P - v) s := by
  unfold pkM okM at h
  simp only [Bool.and_eq_true, Bool.not_eq_true', decide_eq_false_iff_not, decide_eq_true_eq] at h
  exact ⟨h.1.1, h.1.2, h.2⟩
theorem st_ok {P : zP} {D : Nat} (hW : zWF D P) (h2 : 2 ≤ nV P) : ∀ j, j ≤ nV P → stM P j < 2 ^ nV P ∧ pc (stM P j) = j ∧ lrN P 99999 (nV P - j) (stM P j) < 99999
  | 0, _ => ⟨Nat.pow_pos (by omega), by show pc 0 = 0; decide, fe_fin hW (nV P) (Nat.le_refl _) 0 (feM_ok h2 hW.2.1)⟩
  | j + 1, hj => by
    have h7 := hW.2.1
    obtain ⟨a1, a2, a3⟩ := st_ok hW h2 j (by omega)
    obtain ⟨b1, b2, -, -⟩ := pi_ok h7 (show j < nV P by omega) a3
    obtain ⟨c1, c2, c3⟩ := pk_bit b2
    have s128 := p2_le h7 a1
    refine ⟨ad_lt h7 a1 b1, ?_, ?_⟩
    · show pc (ad (stM P j) (piM P j (stM P j))) = j + 1
      rw [ad_pc s128 (by omega) c2, a2]
    · show lrN P 99999 (nV P - (j + 1)) (ad (stM P j) (piM P j (stM P j))) < 99999
      omega

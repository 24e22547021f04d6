/-! rain: the odds of each row of days, and the chances of each place -/
theorem sumN_congr {f g : Nat → Nat} : ∀ {n : Nat}, (∀ v, v < n → f v = g v) → sumN f n = sumN g n
  | 0, _ => rfl
  | n + 1, h => by
    show sumN f n + f n = sumN g n + g n
    rw [sumN_congr (n := n) (fun v hv => h v (by omega)), h n (by omega)]
theorem sumN_split (f : Nat → Nat) (a : Nat) : ∀ b, sumN f (a + b) = sumN f a + sumN (fun i => f (a + i)) b
  | 0 => rfl
  | b + 1 => by
    show sumN f (a + b) + f (a + b) = sumN f a + (sumN (fun i => f (a + i)) b + f (a + b))
    rw [sumN_split f a b]; omega
theorem sumN_add2 (f g : Nat → Nat) : ∀ n, sumN f n + sumN g n = sumN (fun v => f v + g v) n
  | 0 => rfl
  | n + 1 => by
    show sumN f n + f n + (sumN g n + g n) = sumN (fun v => f v + g v) n + (f n + g n)
    rw [← sumN_add2 f g n]; omega
theorem sumN_mono {f g : Nat → Nat} : ∀ {n : Nat}, (∀ v, v < n → f v ≤ g v) → sumN f n ≤ sumN g n
  | 0, _ => Nat.le_refl _
  | n + 1, h => by
    have h1 := sumN_mono (n := n) (fun v hv => h v (by omega))
    have h2 := h n (by omega)
    show sumN f n + f n ≤ sumN g n + g n
    omega
theorem sumN_mul (c : Nat) (f : Nat → Nat) : ∀ n, sumN (fun v => c * f v) n = c * sumN f n
  | 0 => (Nat.mul_zero c).symm
  | n + 1 => by
    show sumN (fun v => c * f v) n + c * f n = c * (sumN f n + f n)
    rw [sumN_mul c f n, Nat.mul_add]
/-- where the chair is behind day k + 1 -/
def nxR (P : zP) (k : Nat) (r : Bool) (c : Nat) : Nat := if (dy P + k + 1) % 12 = 0 then hm P else if r then c else (c + sp P) % 12
def chR (P : zP) (m : Nat) : Nat → Nat
  | 0 => ch P
  | k + 1 => nxR P k (m.testBit k) (chR P m k)
def odR (t m : Nat) : Nat → Nat
  | 0 => 1
  | k + 1 => odR t m k * (if m.testBit k then 1 else t - 1)
def enR (P : zP) (t k : Nat) (g : Nat → Nat) : Nat := sumN (fun m => odR t m k * g (chR P m k)) (2 ^ k)
theorem odR_hi (t : Nat) {m k : Nat} : ∀ {j : Nat}, j ≤ k → odR t (2 ^ k + m) j = odR t m j
  | 0, _ => rfl
  | j + 1, h => by
    show odR t (2 ^ k + m) j * (if (2 ^ k + m).testBit j then 1 else t - 1) = _
    rw [odR_hi t (j := j) (by omega), Nat.testBit_two_pow_add_gt (by omega)]; rfl
theorem chR_hi (P : zP) {m k : Nat} : ∀ {j : Nat}, j ≤ k → chR P (2 ^ k + m) j = chR P m j
  | 0, _ => rfl
  | j + 1, h => by
    show nxR P j ((2 ^ k + m).testBit j) (chR P (2 ^ k + m) j) = _
    rw [chR_hi P (j := j) (by omega), Nat.testBit_two_pow_add_gt (by omega)]; rfl
theorem enR_succ (P : zP) (t k : Nat) (g : Nat → Nat) : enR P t (k + 1) g = enR P t k (fun c => (t - 1) * g (nxR P k false c) + g (nxR P k true c)) := by
  unfold enR
  rw [show 2 ^ (k + 1) = 2 ^ k + 2 ^ k by omega, sumN_split, sumN_add2]
  refine sumN_congr (fun m hm => ?_)
  show odR t m k * (if m.testBit k then 1 else t - 1) * g (nxR P k (m.testBit k) (chR P m k)) + odR t (2 ^ k + m) k * (if (2 ^ k + m).testBit k then 1 else t - 1) * g (nxR P k ((2 ^ k + m).testBit k) (chR P (2 ^ k + m) k)) = _
  rw [odR_hi t (Nat.le_refl k), chR_hi P (Nat.le_refl k), Nat.testBit_two_pow_add_eq, Nat.testBit_lt_two_pow hm]
  simp only [Bool.not_false, Bool.false_eq_true, if_false, if_true, Nat.mul_one]
  rw [Nat.mul_add, Nat.mul_assoc]
theorem enR_const (P : zP) (t x : Nat) (ht : 1 ≤ t) : ∀ k, enR P t k (fun _ => x) = x * t ^ k := by
  intro k
  induction k generalizing x with
  | zero => show 0 + 1 * x = x * 1; omega
  | succ k ih =>
    rw [enR_succ, ih]
    obtain ⟨s, rfl⟩ : ∃ s, t = s + 1 := ⟨t - 1, by omega⟩
    rw [Nat.add_sub_cancel, Nat.pow_succ, ← Nat.succ_mul, Nat.mul_comm (s + 1) x, Nat.mul_assoc, Nat.mul_comm (s + 1)]
theorem enR_mono (P : zP) (t k : Nat) {g h : Nat → Nat} (H : ∀ c, g c ≤ h c) : enR P t k g ≤ enR P t k h := sumN_mono (fun m _ => Nat.mul_le_mul_left _ (H _))
/-- the class's: whole, and the chances of each place -/
def cwR (P : zP) (t : Nat) : Nat → Nat × (Nat → Nat)
  | 0 => (1, fun p => if p = ch P then 1 else 0)
  | k + 1 => if (dy P + k + 1) % 12 = 0 then ((cwR P t k).1, fun p => if p = hm P then (cwR P t k).1 else 0) else ((cwR P t k).1 * t, fun p => (cwR P t k).2 p + (t - 1) * (cwR P t k).2 ((p + 12 - sp P) % 12))
def ccR (P : zP) (t : Nat) : Nat → Nat
  | 0 => 1
  | k + 1 => if (dy P + k + 1) % 12 = 0 then ccR P t k * t else ccR P t k
def csR (P : zP) (t k : Nat) (g : Nat → Nat) : Nat := sumN (fun p => (cwR P t k).2 p * g p) 12
theorem ind_sum {a x : Nat} (g : Nat → Nat) (ha : a < 12) : sumN (fun p => (if p = a then x else 0) * g p) 12 = x * g a := by
  have c : a = 0 ∨ a = 1 ∨ a = 2 ∨ a = 3 ∨ a = 4 ∨ a = 5 ∨ a = 6 ∨ a = 7 ∨ a = 8 ∨ a = 9 ∨ a = 10 ∨ a = 11 := by omega
  rcases c with rfl | rfl | rfl | rfl | rfl | rfl | rfl | rfl | rfl | rfl | rfl | rfl <;> simp [sumN]
theorem rot_sum {s : Nat} (w g : Nat → Nat) (hs : s ≤ 5) : sumN (fun p => w ((p + 12 - s) % 12) * g p) 12 = sumN (fun c => w c * g ((c + s) % 12)) 12 := by
  have c : s = 0 ∨ s = 1 ∨ s = 2 ∨ s = 3 ∨ s = 4 ∨ s = 5 := by omega
  rcases c with rfl | rfl | rfl | rfl | rfl | rfl <;> simp [sumN] <;> omega
theorem cwR_y {P : zP} {t k : Nat} (c : (dy P + k + 1) % 12 = 0) : cwR P t (k + 1) = ((cwR P t k).1, fun p => if p = hm P then (cwR P t k).1 else 0) := by
  conv => lhs; unfold cwR
  rw [if_pos c]
theorem cwR_n {P : zP} {t k : Nat} (c : ¬ (dy P + k + 1) % 12 = 0) : cwR P t (k + 1) = ((cwR P t k).1 * t, fun p => (cwR P t k).2 p + (t - 1) * (cwR P t k).2 ((p + 12 - sp P) % 12)) := by
  conv => lhs; unfold cwR
  rw [if_neg c]
theorem cw_cc (P : zP) (t : Nat) : ∀ k, (cwR P t k).1 * ccR P t k = t ^ k
  | 0 => rfl
  | k + 1 => by
    have ih := cw_cc P t k
    unfold cwR ccR
    by_cases c : (dy P + k + 1) % 12 = 0
    · rw [if_pos c, if_pos c]
      show (cwR P t k).1 * (ccR P t k * t) = _
      rw [← Nat.mul_assoc, ih, Nat.pow_succ]
    · rw [if_neg c, if_neg c]
      show (cwR P t k).1 * t * ccR P t k = _
      rw [Nat.mul_right_comm, ih, Nat.pow_succ]
theorem en_cs {P : zP} {D : Nat} (hW : zWF D P) (t : Nat) (ht : 1 ≤ t) : ∀ (k : Nat) (g : Nat → Nat), enR P t k g = ccR P t k * csR P t k g := by
  intro k
  induction k with
  | zero =>
    intro g
    have h1 : csR P t 0 g = 1 * g (ch P) := ind_sum g hW.2.2.1
    rw [h1]
    show 0 + 1 * g (ch P) = 1 * (1 * g (ch P))
    omega
  | succ k ih =>
    intro g
    rw [enR_succ]
    by_cases c : (dy P + k + 1) % 12 = 0
    · have e1 : (fun a => (t - 1) * g (nxR P k false a) + g (nxR P k true a)) = fun _ => t * g (hm P) := by
        funext a
        unfold nxR
        rw [if_pos c, if_pos c, ← Nat.succ_mul]
        congr 1; omega
      have e2 : csR P t (k + 1) g = (cwR P t k).1 * g (hm P) := by
        unfold csR
        rw [cwR_y c]
        exact ind_sum g hW.2.2.2.2.1
      have e3 : ccR P t (k + 1) = ccR P t k * t := by
        conv => lhs; unfold ccR
        rw [if_pos c]
      rw [e1, enR_const P t _ ht, e2, e3, ← cw_cc P t k, Nat.mul_assoc, Nat.mul_comm t, Nat.mul_assoc, Nat.mul_left_comm (g (hm P)), Nat.mul_assoc]
      simp only [Nat.mul_assoc, Nat.mul_comm, Nat.mul_left_comm]
    · rw [ih]
      have e3 : ccR P t (k + 1) = ccR P t k := by
        conv => lhs; unfold ccR
        rw [if_neg c]
      rw [e3]
      congr 1
      unfold csR
      rw [cwR_n c]
      show _ = sumN (fun p => ((cwR P t k).2 p + (t - 1) * (cwR P t k).2 ((p + 12 - sp P) % 12)) * g p) 12
      have e4 : sumN (fun p => (t - 1) * ((cwR P t k).2 ((p + 12 - sp P) % 12) * g p)) 12 = sumN (fun p => (t - 1) * ((cwR P t k).2 p * g ((p + sp P) % 12))) 12 := by
        rw [sumN_mul, sumN_mul, rot_sum _ g hW.2.2.2.1]
      have e5 : sumN (fun p => ((cwR P t k).2 p + (t - 1) * (cwR P t k).2 ((p + 12 - sp P) % 12)) * g p) 12 = sumN (fun p => (cwR P t k).2 p * g p) 12 + sumN (fun p => (t - 1) * ((cwR P t k).2 ((p + 12 - sp P) % 12) * g p)) 12 := by
        rw [sumN_add2]
        refine sumN_congr (fun p _ => ?_)
        rw [Nat.add_mul, Nat.mul_assoc]
      rw [e5, e4, sumN_add2]
      refine sumN_congr (fun p _ => ?_)
      have n1 : nxR P k false p = (p + sp P) % 12 := by unfold nxR; rw [if_neg c]; rfl
      have n2 : nxR P k true p = p := by unfold nxR; rw [if_neg c]; rfl
      show (cwR P t k).2 p * ((t - 1) * g (nxR P k false p) + g (nxR P k true p)) = _
      rw [n1, n2]
      show (cwR P t k).2 p * ((t - 1) * g ((p + sp P) % 12) + g p) = _
      rw [Nat.mul_add, Nat.mul_left_comm, Nat.add_comm]

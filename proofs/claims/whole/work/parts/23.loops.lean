/-! counted loops, in general: they go on or end -/
theorem zl_inv {σ τ : Type} (L : Nat → σ → Int32 → Option τ) (I : Nat → σ → Prop) (R : τ → Prop) (N : Nat)
    (hstep : ∀ fu i s, i < N → I i s → (∃ t, L (fu + 1) s (nI i) = some t ∧ R t) ∨ ∃ s', L (fu + 1) s (nI i) = L fu s' (nI (i + 1)) ∧ I (i + 1) s')
    (hend : ∀ fu s, I N s → ∃ t, L (fu + 1) s (nI N) = some t ∧ R t) : ∀ (k i fu : Nat) (s : σ), i + k = N → k < fu → I i s → ∃ t, L fu s (nI i) = some t ∧ R t := by
  intro k
  induction k with
  | zero =>
    intro i fu s hik hfu hI
    obtain ⟨fu, rfl⟩ : ∃ f, fu = f + 1 := ⟨fu - 1, by omega⟩
    have : i = N := by omega
    subst this
    exact hend fu s hI
  | succ k ih =>
    intro i fu s hik hfu hI
    obtain ⟨fu, rfl⟩ : ∃ f, fu = f + 1 := ⟨fu - 1, by omega⟩
    rcases hstep fu i s (by omega) hI with ⟨t, h1, h2⟩ | ⟨s', h1, h2⟩
    · exact ⟨t, h1, h2⟩
    · obtain ⟨t, h3, h4⟩ := ih (i + 1) fu s' (by omega) (by omega) h2
      exact ⟨t, by rw [h1]; exact h3, h4⟩
/-- from 0 on, with the fuel that the texts have -/
theorem zl_inv0 {σ τ : Type} (L : Nat → σ → Int32 → Option τ) (I : Nat → σ → Prop) (R : τ → Prop) (N : Nat) (hN : N < 3000) (s : σ) (h0 : I 0 s)
    (hstep : ∀ fu i s, i < N → I i s → (∃ t, L (fu + 1) s (nI i) = some t ∧ R t) ∨ ∃ s', L (fu + 1) s (nI i) = L fu s' (nI (i + 1)) ∧ I (i + 1) s')
    (hend : ∀ fu s, I N s → ∃ t, L (fu + 1) s (nI N) = some t ∧ R t) : ∃ t, L zFU s 0 = some t ∧ R t :=
  zl_inv L I R N hstep hend N 0 zFU s (by omega) (by rw [zFU_eq]; omega) h0
def accN {σ : Type} (g : σ → Nat → σ) : Nat → σ → σ
  | 0, a => a
  | n + 1, a => g (accN g n a) n
/-- a fold from 0 on -/
theorem zl_acc {σ τ : Type} (L : Nat → σ → Int32 → Option τ) (g : σ → Nat → σ) (fin : σ → τ) (N : Nat) (hN : N < 3000) (s : σ)
    (hstep : ∀ fu i s, i < N → L (fu + 1) s (nI i) = L fu (g s i) (nI (i + 1)))
    (hend : ∀ fu s, L (fu + 1) s (nI N) = some (fin s)) : L zFU s 0 = some (fin (accN g N s)) := by
  obtain ⟨t, h1, h2⟩ := zl_inv0 L (fun i x => x = accN g i s) (fun t => t = fin (accN g N s)) N hN s rfl
    (fun fu i x hi hx => Or.inr ⟨g x i, hstep fu i x hi, by rw [hx]; rfl⟩) (fun fu x hx => ⟨_, hend fu x, by rw [hx]⟩)
  rw [h1, h2]
/-! what is read off a province -/
def stockN (P : zP) : Nat := sumN (sk P) (nV P)
def bitsI (f : Nat → Bool) (n : Nat) : Int32 := accN (fun a v => a ||| (if f v then (1 : Int32) <<< (nI v &&& 31) else 0)) n 0
def cntI (f : Nat → Bool) (n : Nat) : Int32 := accN (fun a v => a + (if f v then (1 : Int32) else 0)) n 0
def waysI (P : zP) : Int32 := accN (fun a v => a + (if fetchN P v then nI (wayN P v (pl P (fr P v))) else 0)) (nV P) 0
def jamN (P : zP) (v : Nat) : Bool := ableN P v && nodsN (kd P v)
theorem c_allStock {h : zHp} {p : Nat} {P : zP} {D : Nat} (hR : RC h p P) (hW : zWF D P) : zf_X7_allStock p h = some (nI (stockN P)) := by
  have h7 := hW.2.1
  have e3 := hR.2.2.1
  have key := zl_acc (fun fu (a : Int32) i => zl_X7_allStock_4 p h fu a i) (fun a v => a + nI (sk P v)) id (nV P) (by omega) 0
    (fun fu i a hi => by
      have e5 := (hR.1 i (by omega)).2.2.2.2
      show zl_X7_allStock_4 p h (fu + 1) a (nI i) = _
      conv => lhs; unfold zl_X7_allStock_4
      rw [e3, if_neg (by rw [zi_le (by omega) (by omega)]; omega)]
      simp only [zi_clamp (show i < 2000000000 by omega), if_pos (zi_ix (show i < 7 by omega) (show 7 < 2000000000 by omega)), e5, Option.bind_some, zi_one])
    (fun fu a => by
      show zl_X7_allStock_4 p h (fu + 1) a _ = _
      conv => lhs; unfold zl_X7_allStock_4
      rw [e3, if_pos (by rw [zi_le (by omega) (by omega)]; omega)]; rfl)
  have e : ∀ n, accN (fun a v => a + nI (sk P v)) n 0 = nI (sumN (sk P) n) := by
    intro n
    induction n with
    | zero => rfl
    | succ n ih => show accN _ n 0 + nI (sk P n) = _; rw [ih, nI_add]; rfl
  unfold zf_X7_allStock
  rw [key, e]
  rfl
theorem zi_b0 (b : Bool) {α : Type} (x y : α) : (if (if b then (1 : Int32) else 0) = 0 then x else y) = if b then y else x := by cases b <;> rfl
theorem c_ableBits {h : zHp} {p : Nat} {P : zP} {D : Nat} (hR : RC h p P) (hW : zWF D P) (hD : D < 10000) : zf_X7_ableBits p h = some (bitsI (ableN P) (nV P)) := by
  have h7 := hW.2.1
  have e3 := hR.2.2.1
  have key := zl_acc (fun fu (a : Int32) i => zl_X7_ableBits_4 p h fu a i) (fun a v => a ||| (if ableN P v then (1 : Int32) <<< (nI v &&& 31) else 0)) id (nV P) (by omega) 0
    (fun fu i a hi => by
      show zl_X7_ableBits_4 p h (fu + 1) a (nI i) = _
      conv => lhs; unfold zl_X7_ableBits_4
      rw [e3, if_neg (by rw [zi_le (by omega) (by omega)]; omega), c_isAble hR hW hD hi]
      simp only [Option.bind_some, zi_b0, zi_one]
      cases ableN P i <;> rfl)
    (fun fu a => by
      show zl_X7_ableBits_4 p h (fu + 1) a _ = _
      conv => lhs; unfold zl_X7_ableBits_4
      rw [e3, if_pos (by rw [zi_le (by omega) (by omega)]; omega)]; rfl)
  unfold zf_X7_ableBits
  rw [key]
  rfl
theorem c_allJammed {h : zHp} {p : Nat} {P : zP} {D : Nat} (hR : RC h p P) (hW : zWF D P) (hD : D < 10000) : zf_X7_allJammed p h = some (cntI (jamN P) (nV P)) := by
  have h7 := hW.2.1
  have e3 := hR.2.2.1
  have key := zl_acc (fun fu (a : Int32) i => zl_X7_allJammed_4 p h fu a i) (fun a v => a + (if jamN P v then (1 : Int32) else 0)) id (nV P) (by omega) 0
    (fun fu i a hi => by
      have e1 := (hR.1 i (by omega)).1
      have hk := (hW.1 i (by omega)).1
      show zl_X7_allJammed_4 p h (fu + 1) a (nI i) = _
      conv => lhs; unfold zl_X7_allJammed_4
      rw [e3, if_neg (by rw [zi_le (by omega) (by omega)]; omega), c_isAble hR hW hD hi]
      simp only [Option.bind_some, zi_b0, zi_one, zi_clamp (show i < 2000000000 by omega), if_pos (zi_ix (show i < 7 by omega) (show 7 < 2000000000 by omega)), e1, if_pos (zi_ix hk (show 8 < 2000000000 by omega)), zi_clamp (show kd P i < 2000000000 by omega), c_nods hk, jamN]
      by_cases c1 : ableN P i = true <;> by_cases c2 : nodsN (kd P i) = true <;> simp [c1, c2])
    (fun fu a => by
      show zl_X7_allJammed_4 p h (fu + 1) a _ = _
      conv => lhs; unfold zl_X7_allJammed_4
      rw [e3, if_pos (by rw [zi_le (by omega) (by omega)]; omega)]; rfl)
  unfold zf_X7_allJammed
  rw [key]
  rfl
theorem c_wayToSource {h : zHp} {p : Nat} {P : zP} {D v : Nat} (hR : RC h p P) (hW : zWF D P) (hD : D < 10000) (hv : v < 7) : zf_X7_wayToSource p (nI v) h = some (nI (wayN P v (pl P (fr P v)))) := by
  have hb := hW.1 v hv
  have e4 := (hR.1 v hv).2.2.2.1
  have e9 := (hR.1 (fr P v) hb.2.2.2.1).2.2.1
  have hb2 := hW.1 (fr P v) hb.2.2.2.1
  simp only [zf_X7_wayToSource, zi_clamp (show v < 2000000000 by omega), zi_clamp (show fr P v < 2000000000 by omega), if_pos (zi_ix hv (show 7 < 2000000000 by omega)), e4, e9, if_pos (zi_ix hb.2.2.2.1 (show 7 < 2000000000 by omega)), c_wayTo hR hW hD hv hb2.2.2.1, Option.bind_some]
theorem c_allWays {h : zHp} {p : Nat} {P : zP} {D : Nat} (hR : RC h p P) (hW : zWF D P) (hD : D < 10000) : zf_X7_allWays p h = some (waysI P) := by
  have h7 := hW.2.1
  have e3 := hR.2.2.1
  have key := zl_acc (fun fu (a : Int32) i => zl_X7_allWays_4 p h fu a i) (fun a v => a + (if fetchN P v then nI (wayN P v (pl P (fr P v))) else 0)) id (nV P) (by omega) 0
    (fun fu i a hi => by
      show zl_X7_allWays_4 p h (fu + 1) a (nI i) = _
      conv => lhs; unfold zl_X7_allWays_4
      rw [e3, if_neg (by rw [zi_le (by omega) (by omega)]; omega), c_hasSource hR hW (by omega), c_wayToSource hR hW hD (by omega)]
      simp only [Option.bind_some, zi_b0, zi_one]
      cases fetchN P i <;> rfl)
    (fun fu a => by
      show zl_X7_allWays_4 p h (fu + 1) a _ = _
      conv => lhs; unfold zl_X7_allWays_4
      rw [e3, if_pos (by rw [zi_le (by omega) (by omega)]; omega)]; rfl)
  unfold zf_X7_allWays
  rw [key]
  rfl
def hungN (P : zP) (v : Nat) : Bool := decide (sk P v = 0)
theorem c_allHungry {h : zHp} {p : Nat} {P : zP} {D : Nat} (hR : RC h p P) (hW : zWF D P) : zf_X7_allHungry p h = some (cntI (hungN P) (nV P)) := by
  have h7 := hW.2.1
  have e3 := hR.2.2.1
  have key := zl_acc (fun fu (a : Int32) i => zl_X7_allHungry_4 p h fu a i) (fun a v => a + (if hungN P v then (1 : Int32) else 0)) id (nV P) (by omega) 0
    (fun fu i a hi => by
      have e5 := (hR.1 i (by omega)).2.2.2.2
      have hs := (hW.1 i (by omega)).2.2.2.2
      show zl_X7_allHungry_4 p h (fu + 1) a (nI i) = _
      conv => lhs; unfold zl_X7_allHungry_4
      rw [e3, if_neg (by rw [zi_le (by omega) (by omega)]; omega)]
      simp only [zi_clamp (show i < 2000000000 by omega), if_pos (zi_ix (show i < 7 by omega) (show 7 < 2000000000 by omega)), e5, zi_one]
      have ez : (nI (sk P i) = 0) ↔ sk P i = 0 := by rw [zi_lit0, zi_eq (by omega) (by omega)]
      by_cases c : sk P i = 0
      · rw [if_pos (ez.mpr c)]; simp [hungN, c]
      · rw [if_neg (fun q => c (ez.mp q))]; simp [hungN, c])
    (fun fu a => by
      show zl_X7_allHungry_4 p h (fu + 1) a _ = _
      conv => lhs; unfold zl_X7_allHungry_4
      rw [e3, if_pos (by rw [zi_le (by omega) (by omega)]; omega)]; rfl)
  unfold zf_X7_allHungry
  rw [key]
  rfl

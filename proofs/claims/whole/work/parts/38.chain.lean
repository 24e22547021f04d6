/-! chains: sets of villages as bits -/
def ad (s f : Nat) : Nat := s ||| (1 <<< f)
def pc (s : Nat) : Nat := s % 2 + s / 2 % 2 + s / 4 % 2 + s / 8 % 2 + s / 16 % 2 + s / 32 % 2 + s / 64 % 2
theorem bt_i {s f : Nat} (hs : s < 128) (hf : f < 7) : ((nI s >>> (nI f &&& 31)) &&& 1) = if s.testBit f then 1 else 0 := by
  have key : ∀ s, s < 128 → ∀ f, f < 7 → ((nI s >>> (nI f &&& 31)) &&& 1) = if s.testBit f then 1 else 0 := by decide +kernel
  exact key s hs f hf
theorem ad_i {s f : Nat} (hs : s < 128) (hf : f < 7) : (nI s ||| ((1 : Int32) <<< (nI f &&& 31))) = nI (ad s f) := by
  have key : ∀ s, s < 128 → ∀ f, f < 7 → (nI s ||| ((1 : Int32) <<< (nI f &&& 31))) = nI (ad s f) := by decide +kernel
  exact key s hs f hf
theorem ad_i0 {f : Nat} (hf : f < 7) : ((1 : Int32) <<< (nI f &&& 31)) = nI (ad 0 f) := by
  have key : ∀ f, f < 7 → ((1 : Int32) <<< (nI f &&& 31)) = nI (ad 0 f) := by decide +kernel
  exact key f hf
theorem ad_lt {n s f : Nat} (hn : n ≤ 7) (hs : s < 2 ^ n) (hf : f < n) : ad s f < 2 ^ n := by
  have key : ∀ n, n < 8 → ∀ s, s < 2 ^ n → ∀ f, f < n → ad s f < 2 ^ n := by decide +kernel
  exact key n (by omega) s hs f hf
theorem ad_pc {s f : Nat} (hs : s < 128) (hf : f < 7) (hb : s.testBit f = false) : pc (ad s f) = pc s + 1 := by
  have key : ∀ s, s < 128 → ∀ f, f < 7 → s.testBit f = false → pc (ad s f) = pc s + 1 := by decide +kernel
  exact key s hs f hf hb
theorem pc_all {n s f : Nat} (hn : n ≤ 7) (hs : s < 2 ^ n) (hp : n ≤ pc s) (hf : f < n) : s.testBit f = true := by
  have key : ∀ n, n < 8 → ∀ s, s < 2 ^ n → n ≤ pc s → ∀ f, f < n → s.testBit f = true := by decide +kernel
  exact key n (by omega) s hs hp f hf
theorem ad_self {s f : Nat} (hs : s < 128) (hf : f < 7) : (ad s f).testBit f = true := by
  have key : ∀ s, s < 128 → ∀ f, f < 7 → (ad s f).testBit f = true := by decide +kernel
  exact key s hs f hf
theorem pc_le (s : Nat) : pc s ≤ 7 := by unfold pc; omega
theorem p2_le {n s : Nat} (hn : n ≤ 7) (hs : s < 2 ^ n) : s < 128 := by
  have : 2 ^ n ≤ 2 ^ 7 := Nat.pow_le_pow_right (by omega) hn
  omega
def chn (P : zP) : Nat → Nat → Nat → Nat → Nat
  | 0, _, l, _ => l
  | k + 1, s, l, f => if nV P ≤ f then l else if s.testBit f then l else chn P k (ad s f) (l + 1) (fr P f)
theorem m_chainL {h : zHp} {P : zP} {D : Nat} (hR : RM h P) (hW : zWF D P) : ∀ (k fu s l f : Nat), s < 2 ^ nV P → f < 7 → pc s = l → l + k = 8 → k < fu → zl_X11_chainOf_7 h fu (nI s) (nI l) (nI f) = some (nI (chn P k s l f)) := by
  have h7 := hW.2.1
  have e3 := hR.2.1
  intro k
  induction k with
  | zero => intro fu s l f hs hf hp hk hfu; have := pc_le s; omega
  | succ k ih =>
    intro fu s l f hs hf hp hk hfu
    obtain ⟨fu, rfl⟩ : ∃ q, fu = q + 1 := ⟨fu - 1, by omega⟩
    conv => lhs; unfold zl_X11_chainOf_7
    conv => rhs; unfold chn
    rw [e3]
    by_cases c1 : nV P ≤ f
    · rw [if_pos (by rw [zi_le (by omega) (by omega)]; exact c1), if_pos c1]
    rw [if_neg (by rw [zi_le (by omega) (by omega)]; exact c1), if_neg c1]
    have s128 := p2_le h7 hs
    unfold zf_X11_hasBit
    rw [bt_i s128 hf]
    by_cases c2 : s.testBit f = true
    · rw [if_pos c2, if_pos rfl, if_pos c2]
      simp only [zbs, z10, if_false]
    · have c3 : s.testBit f = false := by simpa using c2
      rw [if_neg c2, if_neg (by decide), if_neg c2]
      simp only [zbs, if_true, ad_i s128 hf, zi_clamp (show f < 2000000000 by omega), if_pos (zi_ix hf (show 7 < 2000000000 by omega)), (hR.1 f hf).2.2.2.1, zi_one]
      exact ih fu (ad s f) (l + 1) (fr P f) (ad_lt h7 hs (by omega)) (hW.1 f hf).2.2.2.1 (by rw [ad_pc s128 hf c3, hp]) (by omega) (by omega)
theorem c_chainL {h : zHp} {P : zP} {D : Nat} (hR : RC h 16 P) (hW : zWF D P) : ∀ (k fu s l y : Nat), s < 2 ^ nV P → y < nV P → s.testBit y = true → pc s = l → l + k = 8 → k < fu → zl_X7_lengthOfChain_9 16 h fu (nI s) (nI l) (nI y) = some (nI (chn P k s l (fr P y))) := by
  have h7 := hW.2.1
  have e3 := hR.2.2.1
  intro k
  induction k with
  | zero => intro fu s l f hs hf hb hp hk hfu; have := pc_le s; omega
  | succ k ih =>
    intro fu s l y hs hf hb hp hk hfu
    obtain ⟨fu, rfl⟩ : ∃ q, fu = q + 1 := ⟨fu - 1, by omega⟩
    have s128 := p2_le h7 hs
    have hfr := (hW.1 y (by omega)).2.2.2.1
    conv => lhs; unfold zl_X7_lengthOfChain_9
    conv => rhs; unfold chn
    rw [e3]
    by_cases c0 : nV P ≤ l
    · rw [if_pos (by rw [zi_le (by omega) (by omega)]; exact c0)]
      by_cases c1 : nV P ≤ fr P y
      · rw [if_pos c1]
      · rw [if_neg c1, if_pos (pc_all h7 hs (by omega) (by omega))]
    rw [if_neg (by rw [zi_le (by omega) (by omega)]; exact c0), c_hasSource hR hW (by omega)]
    by_cases c1 : nV P ≤ fr P y
    · rw [if_pos c1, show fetchN P y = false by simp only [fetchN, decide_eq_false_iff_not]; omega]
      rfl
    rw [if_neg c1]
    by_cases c4 : fr P y = y
    · rw [c4, if_pos hb, show fetchN P y = false by simp only [fetchN, decide_eq_false_iff_not]; omega]
      rfl
    rw [show fetchN P y = true by simp only [fetchN, decide_eq_true_eq]; omega]
    simp only [if_true, zbs, z10, if_false, zi_clamp (show y < 2000000000 by omega), if_pos (zi_ix (show y < 7 by omega) (show 7 < 2000000000 by omega)), (hR.1 y (by omega)).2.2.2.1]
    rw [bt_i s128 hfr]
    by_cases c2 : s.testBit (fr P y) = true
    · rw [if_pos c2, if_neg (by decide), if_pos c2]
    · have c3 : s.testBit (fr P y) = false := by simpa using c2
      rw [if_neg c2, if_pos rfl, if_neg c2, ad_i s128 hfr, zi_one]
      exact ih fu (ad s (fr P y)) (l + 1) (fr P y) (ad_lt h7 hs (by omega)) (by omega) (ad_self s128 hfr) (by rw [ad_pc s128 hfr c3, hp]) (by omega) (by omega)
def chainN (P : zP) (v : Nat) : Nat := chn P 8 0 0 v
theorem c_chain {h : zHp} {P : zP} {D v : Nat} (hR : RC h 16 P) (hW : zWF D P) (hv : v < nV P) : zf_X7_lengthOfChain 16 (nI v) h = some (nI (chainN P v)) := by
  have h7 := hW.2.1
  have h0 : (0 : Nat) < 2 ^ nV P := Nat.pow_pos (by omega)
  unfold zf_X7_lengthOfChain
  simp only [zbs]
  rw [ad_i0 (by omega), zi_lit1, c_chainL hR hW 7 zFU (ad 0 v) 1 v (ad_lt h7 h0 hv) hv (ad_self (by omega) (by omega)) (by rw [ad_pc (by omega) (by omega) (by simp)]; rfl) (by omega) (by rw [zFU_eq]; omega), zbs]
  congr 2
  unfold chainN
  conv => rhs; unfold chn
  rw [if_neg (by omega), if_neg (by simp)]
theorem m_chain {h : zHp} {P : zP} {D v : Nat} (hR : RM h P) (hW : zWF D P) (hv : v < nV P) : zf_X11_chainOf (nI v) h = some (nI (chainN P v)) := by
  have h7 := hW.2.1
  have h0 : (0 : Nat) < 2 ^ nV P := Nat.pow_pos (by omega)
  unfold zf_X11_chainOf
  have := m_chainL hR hW 8 zFU 0 0 v h0 (by omega) rfl (by omega) (by rw [zFU_eq]; omega)
  rw [show zl_X11_chainOf_7 h zFU 0 0 (nI v) = some (nI (chn P 8 0 0 v)) from this, zbs]
  rfl
theorem ok_chain (x1 : Int32) : zOKp (zf_X10_chain x1) (zf_X11_chain x1) := by
  refine zOKp_ask2 (fun h h' P I S hC hM => ?_)
  obtain ⟨c1, c2, -⟩ := hC
  have h7 := c1.2.1
  obtain ⟨t1, t2⟩ := m_thr hM.1
  unfold zf_X10_chain zf_X11_chain
  simp only [zbs]
  rcases zr x1 (N := nV P) (by omega) with hx | ⟨v, hv, rfl⟩
  · rw [c_isThere_out c2 hx, m_isOne_out t1 h7 hx]
    exact ⟨_, _, rfl, rfl, t1, t2⟩
  rw [c_isThere_in c2 c1 hv, m_isOne_in t1 h7 hv]
  simp only [zbs, z10, if_false]
  rw [c_chain c2 c1 hv, m_chain t1 c1 hv]
  exact ⟨_, _, rfl, rfl, t1, t2⟩
/-! jam -/
def maxI (f : Nat → Int32) (n : Nat) : Int32 := accN (fun a v => if a < f v then f v else a) n 0
theorem chn_le (P : zP) : ∀ k s l f, chn P k s l f ≤ l + k := by
  intro k
  induction k with
  | zero => intro s l f; exact Nat.le_refl _
  | succ k ih =>
    intro s l f
    unfold chn
    split
    · omega
    · split
      · omega
      · have := ih (ad s f) (l + 1) (fr P f); omega
theorem c_longest {h : zHp} {P : zP} {D : Nat} (hR : RC h 16 P) (hW : zWF D P) : zf_X10_longestChain h = some (maxI (fun v => nI (chainN P v)) (nV P)) := by
  have h7 := hW.2.1
  have e3 := hR.2.2.1
  have key := zl_acc (fun fu (a : Int32) i => zl_X10_longestChain_4 h fu a i) (fun a v => if a < nI (chainN P v) then nI (chainN P v) else a) id (nV P) (by omega) 0
    (fun fu i a hi => by
      show zl_X10_longestChain_4 h (fu + 1) a (nI i) = zl_X10_longestChain_4 h fu (if a < nI (chainN P i) then nI (chainN P i) else a) (nI (i + 1))
      conv => lhs; unfold zl_X10_longestChain_4
      rw [e3, if_neg (by rw [zi_le (by omega) (by omega)]; omega), c_chain hR hW hi]
      simp only [zbs, zi_one])
    (fun fu a => by
      show zl_X10_longestChain_4 h (fu + 1) a _ = _
      conv => lhs; unfold zl_X10_longestChain_4
      rw [e3, if_pos (by rw [zi_le (by omega) (by omega)]; omega)]; rfl)
  unfold zf_X10_longestChain
  rw [key]
  rfl
theorem zi_nle {a b : Int32} : (a ≤ b) ↔ ¬ b < a := by rw [Int32.le_iff_toInt_le, Int32.lt_iff_toInt_lt]; omega
theorem m_jamL {h : zHp} {P : zP} {D : Nat} (hR : RM h P) (hW : zWF D P) (hD : D < 10000) : zl_X11_jam_12 h zFU 0 0 0 = some (cntI (jamN P) (nV P), maxI (fun v => nI (chainN P v)) (nV P)) := by
  have h7 := hW.2.1
  have e3 := hR.2.1
  have key := zl_acc (fun fu (a : Int32 × Int32) i => zl_X11_jam_12 h fu a.1 a.2 i) (fun a v => (a.1 + (if jamN P v then (1 : Int32) else 0), if a.2 < nI (chainN P v) then nI (chainN P v) else a.2)) id (nV P) (by omega) (0, 0)
    (fun fu i a hi => by
      obtain ⟨a, b⟩ := a
      show zl_X11_jam_12 h (fu + 1) a b (nI i) = zl_X11_jam_12 h fu (a + (if jamN P i then (1 : Int32) else 0)) (if b < nI (chainN P i) then nI (chainN P i) else b) (nI (i + 1))
      conv => lhs; unfold zl_X11_jam_12
      rw [e3, if_neg (by rw [zi_le (by omega) (by omega)]; omega), m_isAble hR hW hD (by omega), m_chain hR hW hi, m_isNodding hR hW (by omega)]
      simp only [zbs, zi_b0, zi_one]
      unfold jamN
      have tail : ∀ v : Int32, (if nI (chainN P i) ≤ b then zl_X11_jam_12 h fu (a + v) b (nI (i + 1)) else zl_X11_jam_12 h fu (a + v) (nI (chainN P i)) (nI (i + 1))) = zl_X11_jam_12 h fu (a + v) (if b < nI (chainN P i) then nI (chainN P i) else b) (nI (i + 1)) := by
        intro v
        by_cases c : b < nI (chainN P i)
        · rw [if_pos c, if_neg (fun q => zi_nle.mp q c)]
        · rw [if_neg c, if_pos (zi_nle.mpr c)]
      cases ableN P i <;> cases nodsN (kd P i) <;> simp only [if_true, if_false, zbs, Bool.false_eq_true, Bool.and_self, Bool.and_true, Bool.and_false, Bool.false_and, Bool.true_and, tail])
    (fun fu a => by
      show zl_X11_jam_12 h (fu + 1) a.1 a.2 _ = _
      conv => lhs; unfold zl_X11_jam_12
      rw [e3, if_pos (by rw [zi_le (by omega) (by omega)]; omega)]; rfl)
  rw [show zl_X11_jam_12 h zFU 0 0 0 = _ from key]
  have e : ∀ n, accN (fun (a : Int32 × Int32) v => (a.1 + (if jamN P v then (1 : Int32) else 0), if a.2 < nI (chainN P v) then nI (chainN P v) else a.2)) n (0, 0) = (cntI (jamN P) n, maxI (fun v => nI (chainN P v)) n) := by
    intro n
    induction n with
    | zero => rfl
    | succ n ih => unfold accN; rw [ih]; rfl
  rw [e]
  rfl
/-- a fold from i on -/
def foF {σ : Type} (g : σ → Nat → σ) : Nat → Nat → σ → σ
  | 0, _, s => s
  | k + 1, i, s => foF g k (i + 1) (g s i)
theorem zl_foF {σ τ : Type} (L : Nat → σ → Int32 → Option τ) (g : σ → Nat → σ) (fin : σ → τ) (N : Nat)
    (hstep : ∀ fu i s, i < N → L (fu + 1) s (nI i) = L fu (g s i) (nI (i + 1)))
    (hend : ∀ fu s, L (fu + 1) s (nI N) = some (fin s)) : ∀ (k i fu : Nat) (s : σ), i + k = N → k < fu → L fu s (nI i) = some (fin (foF g k i s)) := by
  intro k
  induction k with
  | zero =>
    intro i fu s hi hf
    obtain ⟨fu, rfl⟩ : ∃ q, fu = q + 1 := ⟨fu - 1, by omega⟩
    rw [show i = N by omega, hend]; rfl
  | succ k ih =>
    intro i fu s hi hf
    obtain ⟨fu, rfl⟩ : ∃ q, fu = q + 1 := ⟨fu - 1, by omega⟩
    rw [hstep fu i s (by omega), ih (i + 1) fu (g s i) (by omega) (by omega)]; rfl
def froB (P : zP) (v w : Nat) : Bool := decide (farN (pl P v) (pl P w) ≠ 6 ∧ farN (pl P v) (ch P) + farN (ch P) (pl P w) = farN (pl P v) (pl P w))
def froG (P : zP) (v : Nat) (a : Int32) (w : Nat) : Int32 := a + (if froB P v w then (1 : Int32) else 0)
def froO (P : zP) (a : Int32) (v : Nat) : Int32 := foF (froG P v) (nV P - (v + 1)) (v + 1) a
theorem froB_t {P : zP} {v w : Nat} (c : ¬ farN (pl P v) (pl P w) = 6) (c2 : farN (pl P v) (ch P) + farN (ch P) (pl P w) = farN (pl P v) (pl P w)) : froB P v w = true := by simp [froB, c, c2]
theorem froB_f {P : zP} {v w : Nat} (c : farN (pl P v) (pl P w) = 6 ∨ ¬ farN (pl P v) (ch P) + farN (ch P) (pl P w) = farN (pl P v) (pl P w)) : froB P v w = false := by
  simp only [froB, decide_eq_false_iff_not]
  omega
theorem c_froI {h : zHp} {P : zP} {D v : Nat} (a : Int32) (hR : RC h 16 P) (hW : zWF D P) (hv : v < nV P) : zl_X10_frontier_19 h (nI v) zFU a (nI (v + 1)) = some (froO P a v) := by
  have h7 := hW.2.1
  have e3 := hR.2.2.1
  have a2 := (hR.1 v (by omega)).2.2.1
  have b2 := (hW.1 v (by omega)).2.2.1
  refine zl_foF (fun fu (a : Int32) i => zl_X10_frontier_19 h (nI v) fu a i) (froG P v) id (nV P)
    (fun fu i a hi => ?_) (fun fu a => ?_) (nV P - (v + 1)) (v + 1) zFU a (by omega) (by rw [zFU_eq]; omega)
  · have a1 := (hR.1 i (by omega)).2.2.1
    have b1 := (hW.1 i (by omega)).2.2.1
    show zl_X10_frontier_19 h (nI v) (fu + 1) a (nI i) = zl_X10_frontier_19 h (nI v) fu (froG P v a i) (nI (i + 1))
    conv => lhs; unfold zl_X10_frontier_19
    rw [e3, if_neg (by rw [zi_le (by omega) (by omega)]; omega)]
    simp only [if_pos (zi_ix (show i < 7 by omega) (show 7 < 2000000000 by omega)), if_pos (zi_ix (show v < 7 by omega) (show 7 < 2000000000 by omega)), zi_clamp (show i < 2000000000 by omega), zi_clamp (show v < 2000000000 by omega), a1, a2, hR.2.2.2.1]
    rw [c_far b2 b1, c_far b2 hW.2.2.1, c_far hW.2.2.1 b1]
    have l1 := farN_le b2 b1
    have l2 := farN_le b2 hW.2.2.1
    have l3 := farN_le hW.2.2.1 b1
    simp only [zbs, zi_one, nI_add]
    unfold froG
    by_cases c : farN (pl P v) (pl P i) = 6
    · rw [if_pos (by rw [c]; decide), froB_f (Or.inl c)]; simp
    · rw [if_neg (by rw [show (6 : Int32) = nI 6 by decide, zi_eq (by omega) (by omega)]; exact c)]
      by_cases c2 : farN (pl P v) (ch P) + farN (ch P) (pl P i) = farN (pl P v) (pl P i)
      · rw [if_pos (by rw [c2]), froB_t c c2]; simp
      · rw [if_neg (by rw [zi_eq (by omega) (by omega)]; exact c2), froB_f (Or.inr c2)]; simp
  · show zl_X10_frontier_19 h (nI v) (fu + 1) a (nI (nV P)) = _
    conv => lhs; unfold zl_X10_frontier_19
    rw [e3, if_pos (by rw [zi_le (by omega) (by omega)]; omega)]; rfl
theorem m_froI {h : zHp} {P : zP} {D v : Nat} (a : Int32) (hR : RM h P) (hW : zWF D P) (hv : v < nV P) : zl_X11_frontierTwos_16 h (nI v) zFU a (nI (v + 1)) = some (froO P a v) := by
  have h7 := hW.2.1
  have e3 := hR.2.1
  have a2 := (hR.1 v (by omega)).2.2.1
  have b2 := (hW.1 v (by omega)).2.2.1
  refine zl_foF (fun fu (a : Int32) i => zl_X11_frontierTwos_16 h (nI v) fu a i) (froG P v) id (nV P)
    (fun fu i a hi => ?_) (fun fu a => ?_) (nV P - (v + 1)) (v + 1) zFU a (by omega) (by rw [zFU_eq]; omega)
  · have a1 := (hR.1 i (by omega)).2.2.1
    have b1 := (hW.1 i (by omega)).2.2.1
    show zl_X11_frontierTwos_16 h (nI v) (fu + 1) a (nI i) = zl_X11_frontierTwos_16 h (nI v) fu (froG P v a i) (nI (i + 1))
    conv => lhs; unfold zl_X11_frontierTwos_16
    rw [e3, if_neg (by rw [zi_le (by omega) (by omega)]; omega)]
    simp only [if_pos (zi_ix (show i < 7 by omega) (show 7 < 2000000000 by omega)), if_pos (zi_ix (show v < 7 by omega) (show 7 < 2000000000 by omega)), zi_clamp (show i < 2000000000 by omega), zi_clamp (show v < 2000000000 by omega), a1, a2, hR.2.2.1]
    rw [m_farOf b2 b1, m_farOf b2 hW.2.2.1, m_farOf hW.2.2.1 b1]
    have l1 := farN_le b2 b1
    have l2 := farN_le b2 hW.2.2.1
    have l3 := farN_le hW.2.2.1 b1
    simp only [zbs, zi_one, nI_add]
    unfold froG
    by_cases c : farN (pl P v) (pl P i) = 6
    · rw [if_pos (by rw [c]; decide), froB_f (Or.inl c)]; rfl
    · rw [if_neg (by rw [show (6 : Int32) = nI 6 by decide, zi_eq (by omega) (by omega)]; exact c)]
      by_cases c2 : farN (pl P v) (ch P) + farN (ch P) (pl P i) = farN (pl P v) (pl P i)
      · rw [if_pos (by rw [c2]), froB_t c c2]; rfl
      · rw [if_neg (by rw [zi_eq (by omega) (by omega)]; exact c2), froB_f (Or.inr c2)]; rfl
  · show zl_X11_frontierTwos_16 h (nI v) (fu + 1) a (nI (nV P)) = _
    conv => lhs; unfold zl_X11_frontierTwos_16
    rw [e3, if_pos (by rw [zi_le (by omega) (by omega)]; omega)]; rfl
theorem c_frontier {h : zHp} {P : zP} {D : Nat} (hR : RC h 16 P) (hW : zWF D P) : zf_X10_frontier h = some (accN (froO P) (nV P) 0) := by
  have h7 := hW.2.1
  have e3 := hR.2.2.1
  have key := zl_acc (fun fu (a : Int32) i => zl_X10_frontier_4 h fu a i) (froO P) id (nV P) (by omega) 0
    (fun fu i a hi => by
      show zl_X10_frontier_4 h (fu + 1) a (nI i) = zl_X10_frontier_4 h fu (froO P a i) (nI (i + 1))
      conv => lhs; unfold zl_X10_frontier_4
      rw [e3, if_neg (by rw [zi_le (by omega) (by omega)]; omega), zi_one, c_froI a hR hW hi, zbs])
    (fun fu a => by
      show zl_X10_frontier_4 h (fu + 1) a _ = _
      conv => lhs; unfold zl_X10_frontier_4
      rw [e3, if_pos (by rw [zi_le (by omega) (by omega)]; omega)]; rfl)
  unfold zf_X10_frontier
  rw [key, zbs]
  rfl
theorem m_frontier {h : zHp} {P : zP} {D : Nat} (hR : RM h P) (hW : zWF D P) : zf_X11_frontierTwos h = some (accN (froO P) (nV P) 0) := by
  have h7 := hW.2.1
  have e3 := hR.2.1
  have key := zl_acc (fun fu (a : Int32) i => zl_X11_frontierTwos_4 h fu a i) (froO P) id (nV P) (by omega) 0
    (fun fu i a hi => by
      show zl_X11_frontierTwos_4 h (fu + 1) a (nI i) = zl_X11_frontierTwos_4 h fu (froO P a i) (nI (i + 1))
      conv => lhs; unfold zl_X11_frontierTwos_4
      rw [e3, if_neg (by rw [zi_le (by omega) (by omega)]; omega), zi_one, m_froI a hR hW hi, zbs])
    (fun fu a => by
      show zl_X11_frontierTwos_4 h (fu + 1) a _ = _
      conv => lhs; unfold zl_X11_frontierTwos_4
      rw [e3, if_pos (by rw [zi_le (by omega) (by omega)]; omega)]; rfl)
  unfold zf_X11_frontierTwos
  rw [key, zbs]
  rfl
theorem ok_jam (x1 : Int32) : zOKp (zf_X10_jam x1) (zf_X11_jam x1) := by
  refine zOKp_ask2 (fun h h' P I S hC hM => ?_)
  obtain ⟨c1, c2, -⟩ := hC
  obtain ⟨t1, t2⟩ := m_thr hM.1
  unfold zf_X10_jam zf_X11_jam
  simp only [zbs]
  rw [m_jamL t1 c1 (by omega)]
  simp only [zbs]
  by_cases k0 : x1 = 0
  · rw [if_pos k0, if_pos k0, c_allJammed c2 c1 (by omega)]
    exact ⟨_, _, rfl, rfl, t1, t2⟩
  rw [if_neg k0, if_neg k0]
  by_cases k1 : x1 = 1
  · rw [if_pos k1, if_pos k1, c_frontier c2 c1, m_frontier t1 c1]
    exact ⟨_, _, rfl, rfl, t1, t2⟩
  rw [if_neg k1, if_neg k1]
  by_cases k2 : x1 = 2
  · rw [if_pos k2, if_pos k2, c_longest c2 c1]
    exact ⟨_, _, rfl, rfl, t1, t2⟩
  rw [if_neg k2, if_neg k2]
  exact ⟨_, _, rfl, rfl, t1, t2⟩

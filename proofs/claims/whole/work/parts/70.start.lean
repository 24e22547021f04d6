/-! the law's start: the classes, the world of 81 cells -/
theorem zl_known {s : State} {args : Array Value} (hts : ∀ w ∈ lw_tbl, w.before args s = true) : ∃ (D : va_G) (c : zCS), va_K D vwCl (zc_tys c) s := by
  have hg : ∀ w ∈ zg_tbl, w.before args s = true := fun w hw => hts w (List.mem_filter.mp hw).1
  have h : ∀ ci : Nat, ∃ x : ClassId × (Nat → Nat), ∀ q : vw_C, vwCl[ci]? = some q → u_Kn s q.1 q.2.1 q.2.2 x.1 x.2 := by
    intro ci
    have mk : ∀ {C : String} {T : u_T} {N n : Nat}, (∀ w ∈ u_ws C T N, w ∈ zg_tbl) → Cond.instantiable C n ∈ zg_tbl → vwCl[ci]? = some (C, T, N) → ∃ x : ClassId × (Nat → Nat), ∀ q : vw_C, vwCl[ci]? = some q → u_Kn s q.1 q.2.1 q.2.2 x.1 x.2 := by
      intro C T N n hin hi hc
      obtain ⟨cC, iS, hk⟩ := u_known hg hin (hg _ hi)
      refine ⟨(cC, iS), fun q hq => ?_⟩
      rw [hc] at hq
      cases hq
      exact hk
    match ci with
    | 0 => exact mk (T := TX0) (N := 0) (by decide) zk_77 rfl
    | 1 => exact mk (T := TX1) (N := 0) (by decide) zk_42 rfl
    | 2 => exact mk (T := TX2) (N := 0) (by decide) zk_63 rfl
    | 3 => exact mk (T := TX3) (N := 0) (by decide) zk_49 rfl
    | 4 => exact mk (T := TX4) (N := 0) (by decide) zk_56 rfl
    | 5 => exact mk (T := TX5) (N := 0) (by decide) zk_84 rfl
    | 6 => exact mk (T := TX6) (N := 0) (by decide) zk_70 rfl
    | 7 => exact mk (T := TX7) (N := 15) zin_7 zk_91 rfl
    | 8 => exact mk (T := TX8) (N := 6) zin_8 zk_156 rfl
    | 9 => exact mk (T := TX9) (N := 0) (by decide) zk_33 rfl
    | 10 => exact mk (T := TX10) (N := 12) zin_10 zk_24 rfl
    | 11 => exact mk (T := TX11) (N := 35) zin_11 zk_947 rfl
    | k + 12 => exact ⟨(0, fun _ => 0), fun q hq => by cases hq⟩
  have hI : ∃ cA : ClassId, ArrOfT s cA .int ∧ va_RA s cA .int := by
    obtain ⟨cA, kA, comp, h1, h2, h3⟩ := Cond.arrayClass_spec (hg _ zk_39)
    exact ⟨cA, fun n z => ⟨fun k h => (by cases h), kA, h2, comp, h3⟩, h1⟩
  have hL : ∃ cA : ClassId, ArrOfT s cA .long ∧ va_RA s cA .long := by
    obtain ⟨cA, kA, comp, h1, h2, h3⟩ := Cond.arrayClass_spec (hg _ zk_40)
    exact ⟨cA, fun n z => ⟨fun k h => (by cases h), kA, h2, comp, h3⟩, h1⟩
  have hO : ∀ C : String, Cond.arrayOver (.object C) ∈ lw_tbl → ∃ cA : ClassId, ArrOfT s cA (.object C) ∧ va_RA s cA (.object C) := by
    intro C hw
    obtain ⟨comp, cA, kA, h1, h2, h3, h4, h5⟩ := Cond.arrayOver_spec (hts _ hw)
    exact ⟨cA, fun n z => ⟨fun k h => (by cases h), kA, h3, comp, h4⟩, kA, comp, h3, h4, h1, h5⟩
  obtain ⟨c1, hc1⟩ := hI
  obtain ⟨c2, hc2⟩ := hL
  obtain ⟨c3, hc3⟩ := hO RX8 (List.mem_of_getElem? (i := 53 + 155) (by decide +kernel))
  obtain ⟨c4, hc4⟩ := hO RX9 (List.mem_of_getElem? (i := 53 + 32) (by decide +kernel))
  refine ⟨(fun ci => (Classical.choose (h ci)).1, fun ci => (Classical.choose (h ci)).2), (c1, c2, c3, c4), fun ci q hq => Classical.choose_spec (h ci) q hq, fun k q hq => ?_⟩
  match k with
  | 0 => cases hq; exact hc1
  | 1 => cases hq; exact hc2
  | 2 => cases hq; exact hc3
  | 3 => cases hq; exact hc4
  | k + 4 => cases hq
theorem zl_ex {s : State} {args : Array Value} (hts : ∀ w ∈ lw_tbl, w.before args s = true) : zi_ex s := by
  refine ⟨va_AO.of (hts _ (List.mem_of_getElem? (i := 53 + 32) (by decide +kernel))), va_AO.of (hts _ (List.mem_of_getElem? (i := 53 + 155) (by decide +kernel))), fun w hw => ?_⟩
  have hm : ∀ w ∈ zi_castL, w ∈ lw_tbl := by decide +kernel
  have h1 := hts w (hm w hw)
  simp only [zi_castL, List.mem_cons, List.not_mem_nil, or_false] at hw
  rcases hw with rfl | rfl | rfl | rfl | rfl | rfl | rfl <;> exact va_Nw.of rfl h1
/-- what the fields hold at the start -/
def zh_P : Nat → Int32
  | 11 => 1
  | 12 => 6
  | _ => 0
def zh_M : Nat → Int32
  | 1 => 1
  | 2 => 6
  | 30 => -1
  | _ => 0
def zh_f : Nat → Nat → Int32
  | 16 => zh_P
  | 25 => zh_P
  | 34 => zh_P
  | 60 => zh_M
  | _ => fun _ => 0
def zh0 : zHp := (zh_f, fun _ _ => 0)
abbrev zq_w81 : List zX := zq_w11 60 zq_w10 ++ [zq_l 1]

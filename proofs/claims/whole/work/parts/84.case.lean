/-! one round of the law: the script's ints, a call of each, equal answers -/
abbrev zl_C (l : Launch) (p : Program) (s : State) (m : MethodId) (args : Array Value) (cd : Code) (D : va_G) (c : zCS) (B b L n : Nat) (xs : Nat → Int32) (h : zHp) (H : Heap) (locs : List Loc) (kc ks : Nat) (ls0 : Array Slot) : Prop :=
  zw_X RL cL_law 8 p s m args cd ∧ zw_P D c B h s H locs ∧ zINV h ∧ (kc + 1 ≤ 601024 ∧ ks + 6 ≤ 7293034) ∧ lv_has ls0 8 (zl_ls b B (nI (6 * n))) ∧ (va_X b L xs s s.heap ∧ b < s.heap.size ∧ B = s.heap.size ∧ 6 * n + 6 ≤ L ∧ L ≤ 3072) ∧ ze_ex B s ∧ l.stackTraces = false
abbrev zl_K (p : Program) (l : Launch) (e : Env) (s : State) (m : MethodId) (args : Array Value) (below : List Frame) (meth : Method) (cd : Code) (D : va_G) (c : zCS) (B b n kc ks : Nat) (Q : State → Prop) : Prop :=
  ∀ (H1 : Heap) (locs1 : List Loc) (ls1 : Array Slot) (kc1 ks1 : Nat) (h1 : zHp), zw_P D c B h1 s H1 locs1 → zINV h1 → kc1 ≤ kc + 1 → ks1 ≤ ks + 6 → lv_has ls1 8 (zl_ls b B (nI (6 * n))) → W p l e room_1 s m args below meth cd H1 locs1 kc1 ks1 Q (F0 m 1695 ls1 [])
theorem zl_cmp (x : Int64) : lg_cmp x x = 0 := by
  unfold lg_cmp
  simp
section ZLC
variable {p : Program} {l : Launch} {e : Env} {s : State} {m : MethodId} {args : Array Value} {below : List Frame} {meth : Method} {cd : Code} {H : Heap} {locs : List Loc} {kc ks : Nat} {Q : State → Prop}
variable {ls0 : Array Slot} {rest : List Value} {D : va_G} {c : zCS} {B b L n pc : Nat} {xs : Nat → Int32} {h : zHp}
theorem zl_push (k : Nat) {kI : Int} (X : zw_X RL cL_law 8 p s m args cd) (P : zw_P D c B h s H locs) (hv : lv_has ls0 8 (zl_ls b B (nI (6 * n)))) (hS : va_X b L xs s s.heap ∧ b < s.heap.size ∧ B = s.heap.size ∧ 6 * n + 6 ≤ L ∧ L ≤ 3072) (hk : k < 6) (hkI : Int32.ofInt kI = nI k)
    (d0 : decode cL_law pc = .ok (.aload_n 0, 1)) (d1 : decode cL_law (pc + 1) = .ok (.iload 4, 2)) (d2 : decode cL_law (pc + 1 + 2) = .ok (.iconst kI, 1)) (d3 : decode cL_law (pc + 1 + 2 + 1) = .ok (.iadd, 1)) (d4 : decode cL_law (pc + 1 + 2 + 1 + 1) = .ok (.iaload, 1))
    (K : W p l e room_1 s m args below meth cd H locs kc ks Q (F0 m (pc + 6) ls0 (.int (xs (6 * n + k)) :: rest))) : W p l e room_1 s m args below meth cd H locs kc ks Q (F0 m pc ls0 rest) := by
  obtain ⟨hX, hb, hB, h1, h2⟩ := hS
  refine lv_aload_n X.1 X.2.1 d0 rfl (lv_at hv 4 rfl) ?_
  refine lv_iload X.1 X.2.1 d1 (lv_at hv 0 rfl) ?_
  refine lv_iconst (v := nI k) X.1 X.2.1 d2 hkI ?_
  refine lv_iadd X.1 X.2.1 d3 ?_
  rw [nI_add]
  have hc : (nI (6 * n + k)).toNatClampNeg = 6 * n + k := zi_clamp (by omega)
  refine va_sld X.1 X.2.1 hX hb (fun q => absurd hb (Nat.not_lt_of_le (hB ▸ q))) P.2.2 (zi_ix (show 6 * n + k < L by omega) (by omega)) d4 ?_
  rw [hc]
  exact K
end ZLC

/-! the world that the constructors make is the fixed one -/
theorem zx_arrV {cA : ClassId} {n : Nat} {f g : Nat → Value} (h : ∀ i, i < n → f i = g i) : arrV cA n f = arrV cA n g := by
  have e : (fun j : Fin n => f j.val) = (fun j : Fin n => g j.val) := funext fun j => h j.val j.isLt
  unfold arrV
  rw [e]
theorem zx_atR {D : va_G} {cA : ClassId} {n a : Nat} {f g : Nat → Option Nat} {H : Heap} (h : ∀ i, i < n → f i = g i) (hat : va_at D vwCl (a, .inl (cA, n, .inr (.inr (.inr (.inr f))))) H) : va_at D vwCl (a, .inl (cA, n, .inr (.inr (.inr (.inr g))))) H := by
  have h1 : H[a]? = some (vp_cell cA (n, .inr (.inr (.inr (.inr f))))) := hat
  show H[a]? = some (vp_cell cA (n, .inr (.inr (.inr (.inr g)))))
  rw [h1, vp_cell_q, vp_cell_q, zx_arrV (fun i hi => by rw [h i hi])]
abbrev zq_wG : List zX := (zq_w81.set 7 (.inr (15, 8, fun i => some (7 + 1 + i)))).set 43 (.inr (14, 8, fun i => some (43 + 1 + 2 * i)))
theorem zx_wG {c : zCS} {B : Nat} : zx_wld c B zq_wG = zc_wld c B zh0 := by
  rfl
theorem zq_r7 : ∀ i, i < 8 → (va_up (va_up (va_up (va_up (va_up (va_up (va_up (va_up (fun _ => none) 0 (some 8)) 1 (some 9)) 2 (some 10)) 3 (some 11)) 4 (some 12)) 5 (some 13)) 6 (some 14)) 7 (some 15) : Nat → Option Nat) i = some (7 + 1 + i) := by decide
theorem zl_world {D : va_G} {c : zCS} {B : Nat} {H : Heap} (h : va_P D vwCl (zx_wld c B zq_w81) H) : va_P D vwCl (zc_wld c B zh0) H := by
  rw [← zx_wG]
  intro k q hq
  by_cases h7 : k = 7
  · subst h7
    rw [zx_get (x := .inr (15, 8, fun i => some (7 + 1 + i))) rfl] at hq
    cases hq
    have h1 := h 7 _ (zx_get rfl)
    refine zx_atR ?_ h1
    intro i hi
    have h2 := zq_r7 i hi
    exact congrArg (fun o : Option Nat => o.map (fun a => B + a)) h2
  · by_cases h43 : k = 43
    · subst h43
      rw [zx_get (x := .inr (14, 8, fun i => some (43 + 1 + 2 * i))) rfl] at hq
      cases hq
      have h1 := h 43 _ (zx_get rfl)
      refine zx_atR ?_ h1
      intro i hi
      have h2 : ∀ i, i < 8 → (va_up (va_up (va_up (va_up (va_up (va_up (va_up (va_up (fun _ => none) 0 (some (44 + 2 * 0))) 1 (some (44 + 2 * 1))) 2 (some (44 + 2 * 2))) 3 (some (44 + 2 * 3))) 4 (some (44 + 2 * 4))) 5 (some (44 + 2 * 5))) 6 (some (44 + 2 * 6))) 7 (some (44 + 2 * 7)) : Nat → Option Nat) i = some (43 + 1 + 2 * i) := by decide
      exact congrArg (fun o : Option Nat => o.map (fun a => B + a)) (h2 i hi)
    · refine h k q ?_
      have hlen : k < zq_wG.length := by
        have := (List.getElem?_eq_some_iff.mp hq).1
        rwa [zx_len] at this
      have e : zq_wG[k]? = zq_w81[k]? := by
        show ((zq_w81.set 7 _).set 43 _)[k]? = _
        rw [List.getElem?_set, if_neg (fun e => h43 e.symm), List.getElem?_set, if_neg (fun e => h7 e.symm)]
      cases hx : zq_w81[k]? with
      | none => rw [hx] at e; rw [List.getElem?_eq_getElem hlen] at e; cases e
      | some x =>
        rw [zx_get (x := x) (e.trans hx)] at hq
        rw [zx_get hx]
        exact hq

/-! at the start the two agree -/
def zP0 : zP := (fun _ => 0, fun _ => 0, fun _ => 0, fun _ => 0, fun _ => 0, 0, 0, 1, 6, 0, 0)
def zS0 : zS := fun _ => (0, 0, 0, 0, 0, fun _ => 0)
theorem zh_0 {a : Nat} (h : a ≠ 16 ∧ a ≠ 25 ∧ a ≠ 34 ∧ a ≠ 60) (k : Nat) : zh0.1 a k = 0 := by
  show zh_f a k = 0
  unfold zh_f
  split
  · exact absurd rfl h.1
  · exact absurd rfl h.2.1
  · exact absurd rfl h.2.2.1
  · exact absurd rfl h.2.2.2
  · rfl
theorem zINV_0 : zINV zh0 := by
  have z0 : nI 0 = 0 := by decide
  refine ⟨zP0, none, zS0, ⟨⟨fun v hv => ⟨(show 0 < 8 by decide), (show 0 < 10 by decide), (show 0 < 12 by decide), (show 0 < 7 by decide), (show 0 ≤ 99 by decide)⟩, by decide, by decide, by decide, by decide, by decide, by decide⟩, ⟨fun v hv => ?_, fun v hv => absurd hv (Nat.not_lt_zero _), rfl, rfl, rfl, rfl, rfl, rfl⟩, rfl, fun Q hQ => (by cases hQ), fun d hd => ⟨(show 0 ≤ 2 by decide), (show 0 < 8 by decide), (show 0 < 10 by decide), (show 0 ≤ 2 by decide), (show 0 ≤ 100 by decide)⟩, fun d hd => ?_⟩, ?_, rfl, fun Q hQ => (by cases hQ), fun d hd => ?_⟩
  · exact ⟨rfl, rfl, rfl, rfl, rfl⟩
  · refine ⟨zh_0 (by omega) _, fun q => absurd q (show ¬ 0 = 1 by decide), zh_0 (by omega) _, zh_0 (by omega) _, fun i hi => zh_0 (by omega) _⟩
  · exact ⟨fun v hv => ⟨rfl, rfl, rfl, rfl, rfl⟩, rfl, rfl, rfl, rfl, rfl, rfl⟩
  · refine ⟨rfl, fun q => absurd q (show ¬ 0 = 1 by decide), rfl, rfl, fun i hi => rfl⟩

/-! dress -/
def setKF (P : zP) (v k f : Nat) : zP := (un (kd P) v k, un (fg P) v f, pl P, fr P, sk P, nV P, ch P, sp P, hm P, nd P, dy P)
theorem dress_v {k f : Nat} (hk : k < 8) (hf : f < 10) : zv_goesFar k (nI f) = some (nI (goesN k f)) ∧ zv_brings k (nI f) = some (nI (bringsN k f)) ∧ zv_eats k (nI f) = some (nI (eatsN k f)) := by
  have key : ∀ k, k < 8 → ∀ f, f < 10 → zv_goesFar k (nI f) = some (nI (goesN k f)) ∧ zv_brings k (nI f) = some (nI (bringsN k f)) ∧ zv_eats k (nI f) = some (nI (eatsN k f)) := by decide +kernel
  exact key k hk f hf
theorem wf_kf {D : Nat} {P : zP} {v k f : Nat} (h : zWF D P) (hk : k < 8) (hf : f < 10) : zWF D (setKF P v k f) := by
  obtain ⟨h1, h2⟩ := h
  refine ⟨fun w hw => ?_, h2⟩
  obtain ⟨a, b, c⟩ := h1 w hw
  refine ⟨?_, ?_, c⟩
  · show un (kd P) v k w < 8
    unfold un; split <;> omega
  · show un (fg P) v f w < 10
    unfold un; split <;> omega
theorem c_dress {h : zHp} {p v k f : Nat} {P : zP} (hv : v < 7) (hk : k < 8) (hf : f < 10) (hR : RC h p P) : ∃ h2, zf_X7_dress p (nI v) (nI k) (nI f) h = some h2 ∧ RC h2 p (setKF P v k f) ∧ zE p h h2 := by
  obtain ⟨d1, d2, d3⟩ := dress_v hk hf
  refine ⟨zc_ui (zc_ui (zc_ui (zc_ui (zc_ui h (p + 1) v (nI k)) (p + 2) v (nI f)) (p + 6) v (nI (goesN k f))) (p + 7) v (nI (bringsN k f))) (p + 8) v (nI (eatsN k f)), ?_, ?_, ((((zE.ui (by omega)).tr (zE.ui (by omega))).tr (zE.ui (by omega))).tr (zE.ui (by omega))).tr (zE.ui (by omega))⟩
  · unfold zf_X7_dress
    simp only [if_pos (zi_ix hv (show 7 < 2000000000 by omega)), if_pos (zi_ix hk (show 8 < 2000000000 by omega)), zi_clamp (show v < 2000000000 by omega), zi_clamp (show k < 2000000000 by omega), zbs]
    rw [d1, d2, d3]
    simp only [zbs]
  · obtain ⟨r1, r2, r3, r4, r5, r6, r7, r8⟩ := hR
    refine ⟨fun w hw => ?_, fun w hw => ?_, ?_, ?_, ?_, ?_, ?_, ?_⟩
    · obtain ⟨q1, q2, q3, q4, q5⟩ := r1 w hw
      refine ⟨?_, ?_, ?_, ?_, ?_⟩
      · rw [zu_i, if_neg (by omega), zu_i, if_neg (by omega), zu_i, if_neg (by omega), zu_i, if_neg (by omega), zu_i]
        show _ = nI (un (kd P) v k w)
        unfold un
        by_cases c : w = v
        · rw [if_pos ⟨rfl, c⟩, if_pos c]
        · rw [if_neg (by omega), if_neg c]; exact q1
      · rw [zu_i, if_neg (by omega), zu_i, if_neg (by omega), zu_i, if_neg (by omega), zu_i]
        show _ = nI (un (fg P) v f w)
        unfold un
        by_cases c : w = v
        · rw [if_pos ⟨rfl, c⟩, if_pos c]
        · rw [if_neg (by omega), if_neg c, zu_i, if_neg (by omega)]; exact q2
      · rw [zu_i, if_neg (by omega), zu_i, if_neg (by omega), zu_i, if_neg (by omega), zu_i, if_neg (by omega), zu_i, if_neg (by omega)]; exact q3
      · rw [zu_i, if_neg (by omega), zu_i, if_neg (by omega), zu_i, if_neg (by omega), zu_i, if_neg (by omega), zu_i, if_neg (by omega)]; exact q4
      · rw [zu_i, if_neg (by omega), zu_i, if_neg (by omega), zu_i, if_neg (by omega), zu_i, if_neg (by omega), zu_i, if_neg (by omega)]; exact q5
    · show _ = nI (goesN (un (kd P) v k w) (un (fg P) v f w)) ∧ _ = nI (bringsN (un (kd P) v k w) (un (fg P) v f w)) ∧ _ = nI (eatsN (un (kd P) v k w) (un (fg P) v f w))
      unfold un
      by_cases c : w = v
      · subst c
        rw [if_pos rfl, if_pos rfl]
        refine ⟨?_, ?_, ?_⟩
        · rw [zu_i, if_neg (by omega), zu_i, if_neg (by omega), zu_i, if_pos ⟨rfl, rfl⟩]
        · rw [zu_i, if_neg (by omega), zu_i, if_pos ⟨rfl, rfl⟩]
        · rw [zu_i, if_pos ⟨rfl, rfl⟩]
      · rw [if_neg c, if_neg c]
        obtain ⟨q1, q2, q3⟩ := r2 w hw
        refine ⟨?_, ?_, ?_⟩
        · rw [zu_i, if_neg (by omega), zu_i, if_neg (by omega), zu_i, if_neg (by omega), zu_i, if_neg (by omega), zu_i, if_neg (by omega)]; exact q1
        · rw [zu_i, if_neg (by omega), zu_i, if_neg (by omega), zu_i, if_neg (by omega), zu_i, if_neg (by omega), zu_i, if_neg (by omega)]; exact q2
        · rw [zu_i, if_neg (by omega), zu_i, if_neg (by omega), zu_i, if_neg (by omega), zu_i, if_neg (by omega), zu_i, if_neg (by omega)]; exact q3
    · rw [zu_i, if_neg (by omega), zu_i, if_neg (by omega), zu_i, if_neg (by omega), zu_i, if_neg (by omega), zu_i, if_neg (by omega)]; exact r3
    · rw [zu_i, if_neg (by omega), zu_i, if_neg (by omega), zu_i, if_neg (by omega), zu_i, if_neg (by omega), zu_i, if_neg (by omega)]; exact r4
    · rw [zu_i, if_neg (by omega), zu_i, if_neg (by omega), zu_i, if_neg (by omega), zu_i, if_neg (by omega), zu_i, if_neg (by omega)]; exact r5
    · rw [zu_i, if_neg (by omega), zu_i, if_neg (by omega), zu_i, if_neg (by omega), zu_i, if_neg (by omega), zu_i, if_neg (by omega)]; exact r6
    · rw [zu_i, if_neg (by omega), zu_i, if_neg (by omega), zu_i, if_neg (by omega), zu_i, if_neg (by omega), zu_i, if_neg (by omega)]; exact r7
    · rw [zu_i, if_neg (by omega), zu_i, if_neg (by omega), zu_i, if_neg (by omega), zu_i, if_neg (by omega), zu_i, if_neg (by omega)]; exact r8

/-! toss and element, answered alike -/
def mt_toss (k f : Int32) : Option Int32 := if k = 5 then some (-15) else if f = 0 then some (-15) else if k = 2 then some (100 + f) else if k = 3 then some (100 + f) else if k = 7 then some (100 + f) else if k = 4 then (zf_X11_costOf k f).bind (fun r => some (200 + r)) else if k = 6 then (zf_X11_costOf k f).bind (fun r => some (200 + r)) else some f
theorem m_tail {k f : Int32} {g : zHp} : (if k = (5 : Int32) then some ((-15 : Int32), g) else (if f = 0 then some ((-15 : Int32), g) else (if k = (2 : Int32) then some (((100 : Int32) + f), g) else (if k = (3 : Int32) then some (((100 : Int32) + f), g) else (if k = (7 : Int32) then some (((100 : Int32) + f), g) else (if k = (4 : Int32) then ((zf_X11_costOf k f).bind (fun r7 => some (((200 : Int32) + r7), g))) else (if k = (6 : Int32) then ((zf_X11_costOf k f).bind (fun r8 => some (((200 : Int32) + r8), g))) else some (f, g)))))))) = (mt_toss k f).bind (fun r => some (r, g)) := by
  unfold mt_toss
  by_cases h1 : k = 5
  · simp only [if_pos h1]; rfl
  simp only [if_neg h1]
  by_cases h2 : f = 0
  · simp only [if_pos h2]; rfl
  simp only [if_neg h2]
  by_cases h3 : k = 2
  · simp only [if_pos h3]; rfl
  simp only [if_neg h3]
  by_cases h4 : k = 3
  · simp only [if_pos h4]; rfl
  simp only [if_neg h4]
  by_cases h5 : k = 7
  · simp only [if_pos h5]; rfl
  simp only [if_neg h5]
  by_cases h6 : k = 4
  · simp only [if_pos h6]; cases zf_X11_costOf k f <;> rfl
  simp only [if_neg h6]
  by_cases h7 : k = 6
  · simp only [if_pos h7]; cases zf_X11_costOf k f <;> rfl
  simp only [if_neg h7]; rfl
def ct_toss (k : Nat) (f : Int32) : Option Int32 := if f = 0 then some (-15) else
        match ze_fk k with
        | none => some (-15)
        | some E => if E = zIAE then some f else if E = zISE then some (100 + f) else (zv_costs k f).bind (fun v => some (200 + v))
theorem toss_eq {k f : Nat} (hk : k < 8) (hf : f < 10) : ∃ r, ct_toss k (nI f) = some r ∧ mt_toss (nI k) (nI f) = some r := by
  have key : ∀ k, k < 8 → ∀ f, f < 10 → ct_toss k (nI f) = mt_toss (nI k) (nI f) ∧ (ct_toss k (nI f)).isSome = true := by decide +kernel
  obtain ⟨e1, e2⟩ := key k hk f hf
  obtain ⟨r, hr⟩ := Option.isSome_iff_exists.mp e2
  exact ⟨r, hr, by rw [← e1]; exact hr⟩
theorem ok_toss (x1 : Int32) : zOKp (ze_toss x1) (zf_X11_toss x1) := by
  refine zOKp_ask2 (fun h h' P I S hC hM => ?_)
  obtain ⟨c1, c2, -, -, c5, c6⟩ := hC
  obtain ⟨t1, t2⟩ := m_thr hM.1
  have t3 := m_thrS hM.2.2.2
  unfold ze_toss zf_X11_toss
  simp only [zbs]
  rcases zr x1 (N := 8) (by omega) with hx | ⟨d, hd, rfl⟩
  · rw [c_rfk_out hx, m_rfk_out hx]
    exact ⟨_, _, rfl, rfl, t1, t2⟩
  rw [c_rfk_in c5 c6 hd, m_rfk_in c5 t3 hd]
  simp only [zbs]
  by_cases k : (S d).1 = 1
  · obtain ⟨e1, e2⟩ := (c6 d hd).2.1 k
    obtain ⟨f1, f2⟩ := (t3 d hd).2.1 k
    have w := c5 d hd
    obtain ⟨r, y1, y2⟩ := toss_eq w.2.1 w.2.2.1
    rw [k, rfkI_1, if_pos rfl, if_pos (show (0 : Int32) ≤ 0 by decide)]
    simp only [if_pos (zi_ix hd (show 8 < 2000000000 by omega)), zi_clamp (show d < 2000000000 by omega), show 43 + 1 + 2 * d = 44 + 2 * d from rfl, e1, e2, f1, f2, if_pos (zi_ix w.2.1 (show 8 < 2000000000 by omega)), zi_clamp (show (S d).2.1 < 2000000000 by omega)]
    rw [m_tail, y2]
    exact ⟨r, _, y1, rfl, t1, t2⟩
  · have hn := rfkI_n (c5 d hd).1 k
    rw [if_neg (fun q => by rw [q] at hn; exact absurd hn (by decide)), if_neg (fun q => zi_nle.mp q hn)]
    exact ⟨_, _, rfl, rfl, t1, t2⟩

/-! lets, joins, loops, returns with a continuation, virtual calls, shapes -/
def zFU : Nat := 4000
section ZM
variable {ρ α β γ : Type} {y : zMI} {mk : ρ → zRT} {pc : Nat} {ls : List (Option Value)} {st stk : List Value} {h : zHp} {o o1 o2 : Option ρ} {k2 : α → Option ρ} {q q1 q2 : Option α}
theorem zc_sL {ls1 : List (Option Value)} (hls : ls = ls1) (k : zc_G y mk pc ls1 st h o) : zc_G y mk pc ls st h o := hls ▸ k
theorem zc_letI {e : Int32} {k1 : Int32 → Option α} (k : ∀ v, v = e → zc_G y mk pc ls (.int v :: st) h ((k1 v).bind k2)) : zc_G y mk pc ls (.int e :: st) h (((some e).bind k1).bind k2) := k e rfl
theorem zc_letL {e : Int64} {k1 : Int64 → Option α} (k : ∀ v, v = e → zc_G y mk pc ls (.long v :: st) h ((k1 v).bind k2)) : zc_G y mk pc ls (.long e :: st) h (((some e).bind k1).bind k2) := k e rfl
theorem zc_letH {e : zHp} {k1 : zHp → Option α} (k : ∀ v, v = e → zc_G y mk pc ls st v ((k1 v).bind k2)) : zc_G y mk pc ls st e (((some e).bind k1).bind k2) := k e rfl
theorem zc_joinS {f : γ → Option α} {g : β → Option α} {qb : Option (γ ⊕ β)} (pcJ : Nat) (lsJ : β → List (Option Value)) (stJ : β → List Value) (hJ : β → zHp)
    (J : ∀ v, zc_G y mk pcJ (lsJ v) (stJ v) (hJ v) ((g v).bind k2))
    (K : (∀ v, zc_G y mk pcJ (lsJ v) (stJ v) (hJ v) ((g v).bind k2)) → zc_G y mk pc ls st h (qb.bind (fun x => (Sum.elim f g x).bind k2))) : zc_G y mk pc ls st h ((qb.bind (Sum.elim f g)).bind k2) := zc_assoc (K J)
theorem zc_loop {k1 : β → Option α} {qb : Option β} (pcJ : Nat) (lsJ : β → List (Option Value)) (stJ : β → List Value) (hJ : β → zHp)
    (J : ∀ v, zc_G y mk pcJ (lsJ v) (stJ v) (hJ v) ((k1 v).bind k2))
    (K : ∀ k : β → Option ρ, (∀ v, zc_G y mk pcJ (lsJ v) (stJ v) (hJ v) (k v)) → zc_G y mk pc ls st h (qb.bind k)) : zc_G y mk pc ls st h ((qb.bind k1).bind k2) := zc_assoc (K _ J)
theorem zc_loopS {f : γ → Option α} {g : β → Option α} {qb : Option (γ ⊕ β)} (mr : γ → zRT) (pcJ : Nat) (lsJ : β → List (Option Value)) (stJ : β → List Value) (hJ : β → zHp)
    (J : ∀ v, zc_G y mk pcJ (lsJ v) (stJ v) (hJ v) ((g v).bind k2))
    (R : ∀ z, ∃ r, (f z).bind k2 = some r ∧ mk r = mr z)
    (K : ∀ k : γ ⊕ β → Option ρ, (∀ v, zc_G y mk pcJ (lsJ v) (stJ v) (hJ v) (k (.inr v))) → (∀ z, ∃ r, k (.inl z) = some r ∧ mk r = mr z) → zc_G y mk pc ls st h (qb.bind k)) : zc_G y mk pc ls st h ((qb.bind (Sum.elim f g)).bind k2) := zc_assoc (K (fun x => (Sum.elim f g x).bind k2) J R)
theorem zc_iretK {x : Int32} (hd : decode y.2.1 pc = .ok (.ireturn, 1)) (hret : y.2.2.2.1 = some .int) (hK : ∃ r, o = some r ∧ mk r = zc_mI (x, h)) : zc_G y mk pc ls [.int x] h o := by
  obtain ⟨r, h1, h2⟩ := hK
  exact zc_iret hd hret h1 h2
theorem zc_zretK {x : Int32} (hd : decode y.2.1 pc = .ok (.ireturn, 1)) (hret : y.2.2.2.1 = some .boolean) (hx : x &&& 1 = x) (hK : ∃ r, o = some r ∧ mk r = zc_mI (x, h)) : zc_G y mk pc ls [.int x] h o := by
  obtain ⟨r, h1, h2⟩ := hK
  exact zc_zret hd hret hx h1 h2
theorem zc_lretK {x : Int64} (hd : decode y.2.1 pc = .ok (.lreturn, 1)) (hret : y.2.2.2.1 = some .long) (hK : ∃ r, o = some r ∧ mk r = zc_mL (x, h)) : zc_G y mk pc ls [.long x] h o := by
  obtain ⟨r, h1, h2⟩ := hK
  exact zc_lret hd hret h1 h2
theorem zc_vretK (hd : decode y.2.1 pc = .ok (.return_, 1)) (hret : y.2.2.2.1 = none) (hK : ∃ r, o = some r ∧ mk r = zc_mV h) : zc_G y mk pc ls [] h o := by
  obtain ⟨r, h1, h2⟩ := hK
  exact zc_vret hd hret h1 h2
/-- a virtual call on a kind: the kind's own method answers -/
theorem zc_virt {oc : Nat → Option Int32} {kk : Int32 → Option α} {i : Int32} (As : List Value) (hstk : stk = As.reverse ++ .ref (7 + 1 + i.toNatClampNeg) :: st)
    (run : ∀ j, j < 8 → ∃ z : zMI, zc_Run y z pc (.ref (8 + j) :: As) h ∧ ∀ r, oc j = some r → zc_Cn z (.ref (8 + j) :: As) h (zc_mI (r, h)))
    (h8 : (st.map fun v => v.category).sum ≤ 8) (hi : zc_ix i 8) (k : ∀ r, zc_G y mk (pc + 3) ls (.int r :: st) h ((kk r).bind k2)) : zc_G y mk pc ls stk h (((oc i.toNatClampNeg).bind kk).bind k2) := by
  have hlt : i.toNatClampNeg < 8 := by
    rcases Nat.lt_or_ge i.toNatClampNeg 8 with q | q
    · exact q
    · exact absurd (Or.inr q) hi
  obtain ⟨z, hR, hc⟩ := run _ hlt
  refine zc_callIp (z := z) (.ref (8 + i.toNatClampNeg) :: As) ?_ hR h8 hc k
  rw [hstk, List.reverse_cons, List.append_assoc]; rfl
end ZM
theorem zs_pl {p : Nat} (hp : zc_lay[p]? = some (7, 0)) : p = 16 ∨ p = 25 ∨ p = 34 := by
  have hlt := zc_lt hp
  have key : ∀ q, q < 81 → zc_lay[q]? = some (7, 0) → q = 16 ∨ q = 25 ∨ q = 34 := by decide +kernel
  exact key p hlt hp
theorem zs_p {p : Nat} {j : Nat} (hp : zc_lay[p]? = some (7, 0)) (hj : 1 ≤ j ∧ j ≤ 8 := by decide) : zc_lay[p + j]? = some (12, 7) := by
  have k1 : ∀ j, j < 9 → 1 ≤ j → zc_lay[16 + j]? = some (12, 7) := by decide +kernel
  have k2 : ∀ j, j < 9 → 1 ≤ j → zc_lay[25 + j]? = some (12, 7) := by decide +kernel
  have k3 : ∀ j, j < 9 → 1 ≤ j → zc_lay[34 + j]? = some (12, 7) := by decide +kernel
  rcases zs_pl hp with rfl | rfl | rfl
  · exact k1 j (by omega) hj.1
  · exact k2 j (by omega) hj.1
  · exact k3 j (by omega) hj.1
theorem zs_q {q : Nat} (hq : zc_lay[q]? = some (8, 0)) : zc_lay[q + 1]? = some (12, 100) := by
  have key : ∀ q, q < 81 → zc_lay[q]? = some (8, 0) → zc_lay[q + 1]? = some (12, 100) := by decide +kernel
  exact key q (zc_lt hq) hq
theorem zs_s {i : Int32} (hi : zc_ix i 8) : zc_lay[43 + 1 + 2 * i.toNatClampNeg]? = some (8, 0) := by
  have hlt : i.toNatClampNeg < 8 := by
    rcases Nat.lt_or_ge i.toNatClampNeg 8 with q | q
    · exact q
    · exact absurd (Or.inr q) hi
  have key : ∀ j, j < 8 → zc_lay[43 + 1 + 2 * j]? = some (8, 0) := by decide +kernel
  exact key _ hlt
theorem zs_kn {x : Int32} (h : x = 75 ∨ x = 76) : ¬ x < 0 := by rcases h with rfl | rfl <;> decide
theorem zs_kk {x : Int32} (h : x = 75 ∨ x = 76) : zc_lay[x.toNatClampNeg]? = some (12, 41) := by rcases h with rfl | rfl <;> decide
theorem zc_neJ {x v : Int32} {n : Int} (hx : ¬ x = v) (hv : v.toInt = n) : x.toInt ≠ n := fun e => hx (Int32.toInt_inj.mp (e.trans hv.symm))
theorem zc_tblD {ρ : Type} {y : zMI} {mk : ρ → zRT} {pc : Nat} {ls : List (Option Value)} {st : List Value} {h : zHp} {o : Option ρ} {dflt lo hi : Int} {offs : Array Int} {len : Nat} {x : Int32} (tgt : Nat) (nd : List Nat) (hd : decode y.2.1 pc = .ok (.tableswitch dflt lo hi offs, len))
    (hall : hi + 1 = lo + offs.size ∧ (∀ i, i < offs.size → offs[i]? = some dflt ∨ i ∈ nd) ∧ (pc : Int) + dflt = (tgt : Int)) (hnd : ∀ i ∈ nd, x.toInt ≠ lo + (i : Nat)) (k : zc_G y mk tgt ls st h o) : zc_G y mk pc ls (.int x :: st) h o := by
  by_cases h1 : x.toInt < lo ∨ hi < x.toInt
  · exact zc_tblOut tgt hd h1 hall.2.2 k
  · have h2 : ¬ x.toInt < lo := fun q => h1 (Or.inl q)
    have h3 : ¬ hi < x.toInt := fun q => h1 (Or.inr q)
    have h4 : (x.toInt - lo).toNat < offs.size := by
      have := hall.1
      omega
    rcases hall.2.1 _ h4 with h5 | h5
    · exact zc_tblIn (off := dflt) tgt rfl hd ⟨h2, h3, h5, hall.2.2⟩ k
    · exact absurd (by omega) (hnd _ h5)

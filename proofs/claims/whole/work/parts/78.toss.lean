/-! toss: a kind's failure, caught -/
def ze_fk : Nat → Option String
  | 0 => some zIAE
  | 1 => some zIAE
  | 2 => some zISE
  | 3 => some zISE
  | 4 => some zUOE
  | 5 => none
  | 6 => some zUOE
  | _ => some zISE
def ze_toss (d : Int32) (h : zHp) : Option Int32 :=
  (zf_X10_refuseKind d h).bind (fun r1 => if r1 = 0 then
    (if zc_ix d 8 then (if zc_ix (h.1 (43 + 1 + 2 * d.toNatClampNeg) 1) 8 then
      (if h.1 (43 + 1 + 2 * d.toNatClampNeg) 2 = 0 then some (-15) else
        match ze_fk (h.1 (43 + 1 + 2 * d.toNatClampNeg) 1).toNatClampNeg with
        | none => some (-15)
        | some E => if E = zIAE then some (h.1 (43 + 1 + 2 * d.toNatClampNeg) 2) else if E = zISE then some (100 + h.1 (43 + 1 + 2 * d.toNatClampNeg) 2) else
          (zv_costs (h.1 (43 + 1 + 2 * d.toNatClampNeg) 1).toNatClampNeg (h.1 (43 + 1 + 2 * d.toNatClampNeg) 2)).bind (fun v => some (200 + v))) else none) else none)
    else some r1)
abbrev ze_hhT : List (Nat × Nat × Nat × Nat) := [(45, 50, 53, 311), (45, 50, 57, 318), (45, 50, 64, 337)]
abbrev ze_wsT : List Cond := Cond.codeWith yX10_toss cX10_toss 6 (some .int) ze_hhT :: zg_tbl
abbrev zM_X10_toss : zMI := (yX10_toss, cX10_toss, 6, (some .int), 7, 102)
section ZTS
variable {p : Program} {l : Launch} {e : Env} {R : Room} {s : State} {m : MethodId} {args : Array Value} {below : List Frame} {meth : Method} {cd : Code} {H : Heap} {locs : List Loc} {kc ks : Nat} {Q : State → Prop}
variable {ls0 : Array Slot} {rest : List Value} {D : va_G} {c : zCS} {B : Nat} {h : zHp}
theorem zw_F {z : zMI} {oE : Option String} {a ci n0 : Nat} {q : vw_C} (X : zw_X RX10 cX10_toss 6 p s m args cd) (P : zw_P D c B h s H locs) (hE : ze_ex B s) (hl : l.stackTraces = false) (hM : ze_FC z oE) (hret : z.2.2.2.1 = none) (ok : zc_okM z 0) (hin : Cond.instanceMethod z.1 ∈ zg_tbl) (hsel : Cond.selects q.1 yX9_fail z.1 ∈ zg_tbl) (hs : zc_lay[a]? = some (ci, n0)) (hci : ci < 12) (hq : vwCl[ci]? = some q) (h8 : (rest.map fun v => v.category).sum ≤ 8) (hR : zw_fit R z) (hf : kc + 1 ≤ R.cells ∧ ks + 6 ≤ R.slots) (hls : ls0.size = 6) :
    vx_Run p l e R s m args below meth cd H locs kc ks 1 6 (F0 m 47 ls0 (.ref (B + a) :: rest)) rest (va_Qv (fun _ : Unit => oE = none) (fun _ t => zc_Rp D c B h t) (zc_ge B) #[Value.ref (B + a)]) (vx_X (fun _ : Unit => True) (fun E _ t => oE = some E ∧ zc_Rp D c B h t) (zc_ge B)) (zc_ge B) := by
  have hts := X.2.2.2.2.1
  refine vx_runU (x := yX9_fail) (nL := 6) (Ts := zg_tbl) (own := RX10) (C := q.1) (owner := RX9) (b := B + a) (As := []) (n := 0) (bytes := z.2.1) (maxL := z.2.2.1) (ret := z.2.2.2.1) (index := 334) ⟨X.1, X.2.1, X.2.2.1, X.2.2.2.1, hts⟩ (hM l D c B h a hl) ?_ ⟨ze_blind, zw_rcv P hs hci hq, (zc_pre2 (As := [.ref a]) X P hE).2⟩ rfl rfl hls rfl (lv_room h8) dX10_toss_47 hf
  refine va_cwO (b0 := cX9_fail) (m0 := 1) (r0 := none) 0 hts (zg_good ?_) rfl rfl rfl zk_915 (by decide +kernel) hR
  intro w hw
  simp only [va_wsO, List.mem_append, List.mem_cons, List.not_mem_nil, or_false] at hw
  rcases hw with (rfl | rfl | rfl | rfl | rfl | rfl) | hw
  · exact zk_814
  · exact zk_817
  · exact zk_815
  · exact hsel
  · exact hin
  · exact ok.2.1
  · exact zc_inws ok w hw
theorem zr_fail (X : zw_X RX10 cX10_toss 6 p s m args cd) (P : zw_P D c B h s H locs) (hE : ze_ex B s) (hl : l.stackTraces = false) (h8 : (rest.map fun v => v.category).sum ≤ 8) (hR : 7 ≤ R.frames ∧ 102 ≤ R.locals) (hf : kc + 1 ≤ R.cells ∧ ks + 6 ≤ R.slots) (hls : ls0.size = 6) : ∀ j, j < 8 →
    vx_Run p l e R s m args below meth cd H locs kc ks 1 6 (F0 m 47 ls0 (.ref (B + (7 + 1 + j)) :: rest)) rest (va_Qv (fun _ : Unit => ze_fk j = none) (fun _ t => zc_Rp D c B h t) (zc_ge B) #[Value.ref (B + (7 + 1 + j))]) (vx_X (fun _ : Unit => True) (fun E _ t => ze_fk j = some E ∧ zc_Rp D c B h t) (zc_ge B)) (zc_ge B) := by
  intro j hj
  match j, hj with
  | 0, _ => exact zw_F (z := zM_X9_fail) (a := 8) (ci := 9) (n0 := 0) (q := (RX9, TX9, 0)) X P hE hl zt_X9_fail rfl zp_X9_fail zk_815 zk_816 rfl (by decide) rfl h8 hR hf hls
  | 1, _ => exact zw_F (z := zM_X9_fail) (a := 9) (ci := 1) (n0 := 0) (q := (RX1, TX1, 0)) X P hE hl zt_X9_fail rfl zp_X9_fail zk_815 zk_889 rfl (by decide) rfl h8 hR hf hls
  | 2, _ => exact zw_F (z := zM_X3_fail) (a := 10) (ci := 3) (n0 := 0) (q := (RX3, TX3, 0)) X P hE hl zt_X3_fail rfl zp_X3_fail zk_892 zk_891 rfl (by decide) rfl h8 hR hf hls
  | 3, _ => exact zw_F (z := zM_X3_fail) (a := 11) (ci := 4) (n0 := 0) (q := (RX4, TX4, 0)) X P hE hl zt_X3_fail rfl zp_X3_fail zk_892 zk_910 rfl (by decide) rfl h8 hR hf hls
  | 4, _ => exact zw_F (z := zM_X2_fail) (a := 12) (ci := 2) (n0 := 0) (q := (RX2, TX2, 0)) X P hE hl zt_X2_fail rfl zp_X2_fail zk_819 zk_890 rfl (by decide) rfl h8 hR hf hls
  | 5, _ => exact zw_F (z := zM_X6_fail) (a := 13) (ci := 6) (n0 := 0) (q := (RX6, TX6, 0)) X P hE hl zt_X6_fail rfl zp_X6_fail zk_913 zk_912 rfl (by decide) rfl h8 hR hf hls
  | 6, _ => exact zw_F (z := zM_X2_fail) (a := 14) (ci := 0) (n0 := 0) (q := (RX0, TX0, 0)) X P hE hl zt_X2_fail rfl zp_X2_fail zk_819 zk_818 rfl (by decide) rfl h8 hR hf hls
  | 7, _ => exact zw_F (z := zM_X3_fail) (a := 15) (ci := 5) (n0 := 0) (q := (RX5, TX5, 0)) X P hE hl zt_X3_fail rfl zp_X3_fail zk_892 zk_911 rfl (by decide) rfl h8 hR hf hls
  | j + 8, hj => exact absurd hj (Nat.not_lt_of_le (Nat.le_add_left 8 j))
/-- what a thing costs, at the place where the bishops' failure is caught -/
theorem zr_tcost {f : Int32} (X : zw_X RX10 cX10_toss 6 p s m args cd) (P : zw_P D c B h s H locs) (h8 : (rest.map fun v => v.category).sum ≤ 8) (hR : 7 ≤ R.frames ∧ 102 ≤ R.locals) (hf : kc ≤ R.cells ∧ ks ≤ R.slots) (hls : ls0.size = 6) : ∀ j, j < 8 → ∀ r, zv_costs j f = some r → ∃ a,
    va_Run p l e R s m args below meth cd H locs kc ks 0 0 (F0 m 72 ls0 (.int f :: .ref (B + (7 + 1 + j)) :: rest)) rest (zc_mI (r, h) D c B a) (zc_ge B) := by
  have hR0 : ∀ {fr wd ml : Nat}, fr ≤ 6 → ml + wd ≤ 83 → fr + 1 ≤ R.frames ∧ 8 + (ml + 11) + wd ≤ R.locals := fun h1 h2 => ⟨by omega, by omega⟩
  intro j hj r hr
  match j, hj with
  | 0, _ => exact ⟨_, zw_O (z := zM_X9_costs) (x := yX9_costs) (a := 8) (As := [.int f]) (n := 1) (ci := 9) (n0 := 0) (q := (RX9, TX9, 0)) X P (zt_X9_costs 8 rfl (by decide) (vc := (RX9, TX9, 0)) rfl f h hr) zo_X9_costs zw_777 zw_780 zw_778 zw_806 (by decide +kernel) zw_778 zw_779 rfl (by decide) rfl rfl rfl h8 (hR0 (by decide) (by decide)) hf hls dX10_toss_72⟩
  | 1, _ => exact ⟨_, zw_O (z := zM_X1_costs) (x := yX9_costs) (a := 9) (As := [.int f]) (n := 1) (ci := 1) (n0 := 0) (q := (RX1, TX1, 0)) X P (zt_X1_costs 9 rfl (by decide) (vc := (RX1, TX1, 0)) rfl f h hr) zo_X1_costs zw_777 zw_780 zw_778 zw_806 (by decide +kernel) zw_788 zw_791 rfl (by decide) rfl rfl rfl h8 (hR0 (by decide) (by decide)) hf hls dX10_toss_72⟩
  | 2, _ => exact ⟨_, zw_O (z := zM_X3_costs) (x := yX9_costs) (a := 10) (As := [.int f]) (n := 1) (ci := 3) (n0 := 0) (q := (RX3, TX3, 0)) X P (zt_X3_costs 10 rfl (by decide) (vc := (RX3, TX3, 0)) rfl f h hr) zo_X3_costs zw_777 zw_780 zw_778 zw_806 (by decide +kernel) zw_794 zw_793 rfl (by decide) rfl rfl rfl h8 (hR0 (by decide) (by decide)) hf hls dX10_toss_72⟩
  | 3, _ => exact ⟨_, zw_O (z := zM_X4_costs) (x := yX9_costs) (a := 11) (As := [.int f]) (n := 1) (ci := 4) (n0 := 0) (q := (RX4, TX4, 0)) X P (zt_X4_costs 11 rfl (by decide) (vc := (RX4, TX4, 0)) rfl f h hr) zo_X4_costs zw_777 zw_780 zw_778 zw_806 (by decide +kernel) zw_797 zw_796 rfl (by decide) rfl rfl rfl h8 (hR0 (by decide) (by decide)) hf hls dX10_toss_72⟩
  | 4, _ => exact ⟨_, zw_O (z := zM_X2_costs) (x := yX9_costs) (a := 12) (As := [.int f]) (n := 1) (ci := 2) (n0 := 0) (q := (RX2, TX2, 0)) X P (zt_X2_costs 12 rfl (by decide) (vc := (RX2, TX2, 0)) rfl f h hr) zo_X2_costs zw_777 zw_780 zw_778 zw_806 (by decide +kernel) zw_785 zw_792 rfl (by decide) rfl rfl rfl h8 (hR0 (by decide) (by decide)) hf hls dX10_toss_72⟩
  | 5, _ => exact ⟨_, zw_O (z := zM_X6_costs) (x := yX9_costs) (a := 13) (As := [.int f]) (n := 1) (ci := 6) (n0 := 0) (q := (RX6, TX6, 0)) X P (zt_X6_costs 13 rfl (by decide) (vc := (RX6, TX6, 0)) rfl f h hr) zo_X6_costs zw_777 zw_780 zw_778 zw_806 (by decide +kernel) zw_804 zw_803 rfl (by decide) rfl rfl rfl h8 (hR0 (by decide) (by decide)) hf hls dX10_toss_72⟩
  | 6, _ => exact ⟨_, zw_O (z := zM_X0_costs) (x := yX9_costs) (a := 14) (As := [.int f]) (n := 1) (ci := 0) (n0 := 0) (q := (RX0, TX0, 0)) X P (zt_X0_costs 14 rfl (by decide) (vc := (RX0, TX0, 0)) rfl f h hr) zo_X0_costs zw_777 zw_780 zw_778 zw_806 (by decide +kernel) zw_782 zw_781 rfl (by decide) rfl rfl rfl h8 (hR0 (by decide) (by decide)) hf hls dX10_toss_72⟩
  | 7, _ => exact ⟨_, zw_O (z := zM_X5_costs) (x := yX9_costs) (a := 15) (As := [.int f]) (n := 1) (ci := 5) (n0 := 0) (q := (RX5, TX5, 0)) X P (zt_X5_costs 15 rfl (by decide) (vc := (RX5, TX5, 0)) rfl f h hr) zo_X5_costs zw_777 zw_780 zw_778 zw_806 (by decide +kernel) zw_801 zw_800 rfl (by decide) rfl rfl rfl h8 (hR0 (by decide) (by decide)) hf hls dX10_toss_72⟩
  | j + 8, hj => exact absurd hj (Nat.not_lt_of_le (Nat.le_add_left 8 j))
end ZTS

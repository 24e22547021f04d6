/-! the law from its entry to its loop -/
abbrev zl_ls (b B : Nat) (i : Int32) : List (Nat × Value) := [(4, .int i), (3, .ref (B + 80)), (2, .ref (B + 60)), (1, .ref (B + 0)), (0, .ref b)]
theorem zk_law8 : Cond.classLink RL 8 RX10 ∈ zg_tbl := zg_at (53 + 23) (by decide +kernel) (by decide +kernel)
theorem zk_law18 : Cond.classLink RL 18 RX11 ∈ zg_tbl := zg_at (53 + 946) (by decide +kernel) (by decide +kernel)
theorem zk_law17 : Cond.methodLink RL 17 yX10_init ∈ zg_tbl := zg_at (53 + 25) (by decide +kernel) (by decide +kernel)
theorem zk_law20 : Cond.methodLink RL 20 yX11_init ∈ zg_tbl := zg_at (53 + 948) (by decide +kernel) (by decide +kernel)
section ZLB
variable {p : Program} {l : Launch} {e : Env} {s : State} {m : MethodId} {args : Array Value} {below : List Frame} {meth : Method} {cd : Code} {Q : State → Prop} {D : va_G} {c : zCS} {B : Nat}
theorem zl_start {b : Nat} (X : zj_X RL cL_law 8 p s m args cd) (hB : B = s.heap.size) (hK : va_K D vwCl (zc_tys c) s)
    (kk : ∀ (H : Heap) (locs : List Loc) (ls0 : Array Slot), va_P D vwCl (zc_wld c B zh0) H → va_S (zc_ge B) s.heap H locs → lv_has ls0 8 (zl_ls b B 0) → W p l e room_1 s m args below meth cd H locs 81 3729 Q (F0 m 23 ls0 [])) : W p l e room_1 s m args below meth cd s.heap [] 0 0 Q (entryFrame m ([Value.ref b] : List Value).toArray 8) := by
  have hv := lv_entry [Value.ref b] (n := 8) (show 1 ≤ 8 by decide)
  rw [lg_entry_eq]
  generalize (lg_sl [Value.ref b] ++ List.replicate (8 - (lg_sl [Value.ref b]).length) Slot.unset).toArray = ls0 at hv ⊢
  have P : zj_P D c B [] s s.heap [] := ⟨by omega, hB.symm, fun k q hq => (by cases hq), hK, va_S.rf⟩
  refine zj_new (C := RX10) (T := TX10) (N := 12) (ci := 10) (n := 0) tyX10 [.null, .null, .null, .null, .int 0, .null, .null, .null, .null, .null, .null, .null] [zq_n10] X P rfl zin_10 tyX10_ok zk_law8 zk_24 zw_1 rfl rfl rfl (by decide) (by decide) dL_law_0 (fun H P => ?_)
  refine lv_dup X.1 X.2.1 dL_law_3 rfl ?_
  refine zj_call [] X P (zt_init10) zp_10 rfl (Or.inl zk_law17) zk_26 rfl rfl rfl (show 1 + 0 ≤ 8 by decide) ⟨by decide, by decide⟩ ⟨by decide, by decide⟩ hv.1 dL_law_4 (fun H locs P => ?_)
  refine lv_astore_n X.1 X.2.1 dL_law_7 rfl hv (by decide) rfl (fun ls0 hv => ?_)
  refine zj_new (C := RX11) (T := TX11) (N := 35) (ci := 11) (n := 60) tyX11 _ (zq_w10 ++ [zq_n11]) X P rfl zin_11 tyX11_ok zk_law18 zk_947 zw_12 rfl rfl rfl (by decide) (by decide) dL_law_8 (fun H P => ?_)
  refine lv_dup X.1 X.2.1 dL_law_11 rfl ?_
  refine zj_call [] X P (zt_init11 (a := 60) (pre := zq_w10) rfl) zp_11 rfl (Or.inl zk_law20) zk_949 rfl rfl rfl (show 1 + 0 ≤ 8 by decide) ⟨by decide, by decide⟩ ⟨by decide, by decide⟩ hv.1 dL_law_12 (fun H locs P => ?_)
  refine lv_astore_n X.1 X.2.1 dL_law_15 rfl hv (by decide) rfl (fun ls0 hv => ?_)
  refine lv_iconst (v := 1) X.1 X.2.1 dL_law_16 (by decide) ?_
  refine zj_newL (N := 1) (n := 80) zq_w81 X P zk_40 (by decide) (by decide) (by decide) rfl rfl (by decide) (by decide) dL_law_17 (fun H P => ?_)
  refine lv_astore_n X.1 X.2.1 dL_law_19 rfl hv (by decide) rfl (fun ls0 hv => ?_)
  refine lv_iconst (v := 0) X.1 X.2.1 dL_law_20 (by decide) ?_
  refine lv_istore X.1 X.2.1 dL_law_21 hv (by decide) rfl (fun ls0 hv => ?_)
  exact kk H locs ls0 (zl_world P.2.2.1) P.2.2.2.2 hv
end ZLB

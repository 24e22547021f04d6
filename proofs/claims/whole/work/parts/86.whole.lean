/-! the law's loop, and the whole -/
theorem zl_stop {L n : Nat} (hL : L ≤ 3072) (hn : 6 * n ≤ L) : (nI L - 6 < nI (6 * n)) ↔ L < 6 * n + 6 := by
  have e6 : (6 : Int32).toInt = 6 := by decide
  have h1 : (nI L - 6).toInt = (L : Int) - 6 := by
    rw [zi_sub (by rw [nI_toInt (by omega), e6]; omega) (by rw [nI_toInt (by omega), e6]; omega), nI_toInt (by omega), e6]
  rw [Int32.lt_iff_toInt_lt, h1, nI_toInt (by omega)]
  omega
section ZLL
variable {p : Program} {l : Launch} {e : Env} {s : State} {m : MethodId} {args : Array Value} {below : List Frame} {meth : Method} {cd : Code} {Q : State → Prop}
variable {D : va_G} {c : zCS} {B b L n : Nat} {xs : Nat → Int32}
theorem zl_turn {H : Heap} {locs : List Loc} {kc ks : Nat} {ls0 : Array Slot} {h : zHp} (C : zl_C l p s m args cd D c B b L n xs h H locs kc ks ls0) (K : zl_K p l e s m args below meth cd D c B b n kc ks Q) : W p l e room_1 s m args below meth cd H locs kc ks Q (F0 m 33 ls0 []) := by
  have C0 := C
  obtain ⟨X, P, hI, hkb, hv, ⟨hX, hb, hB, h1, h2⟩, -⟩ := C0
  refine lv_aload_n X.1 X.2.1 dL_law_33 rfl (lv_at hv 4 rfl) ?_
  refine lv_iload X.1 X.2.1 dL_law_34 (lv_at hv 0 rfl) ?_
  have hc : (nI (6 * n)).toNatClampNeg = 6 * n := zi_clamp (by omega)
  refine va_sld X.1 X.2.1 hX hb (fun q => absurd hb (Nat.not_lt_of_le (hB ▸ q))) P.2.2 (zi_ix (show 6 * n < L by omega) (by omega)) dL_law_36 ?_
  refine lv_bipush (v := 63) X.1 X.2.1 dL_law_37 (by decide) ?_
  refine lv_iand X.1 X.2.1 dL_law_39 ?_
  generalize xs (nI (6 * n)).toNatClampNeg &&& 63 = v
  by_cases hz : v.toInt < 0 ∨ 42 < v.toInt
  · exact lv_tableOut (tgt := 1695) X.1 X.2.1 dL_law_40 hz (by decide) (K _ _ _ _ _ _ P hI (by omega) (by omega) hv)
  obtain ⟨k, hk⟩ : ∃ k : Nat, v.toInt = k := ⟨v.toInt.toNat, by omega⟩
  have hk43 : k < 43 := by omega
  match k, hk43, hk with
  | 0, _, hk => exact lv_tableIn (tgt := 228) (off := 188) X.1 X.2.1 dL_law_40 (by omega) (by omega) (by rw [hk]; rfl) (by decide) (zl_c0 C K)
  | 1, _, hk => exact lv_tableIn (tgt := 253) (off := 213) X.1 X.2.1 dL_law_40 (by omega) (by omega) (by rw [hk]; rfl) (by decide) (zl_c1 C K)
  | 2, _, hk => exact lv_tableIn (tgt := 290) (off := 250) X.1 X.2.1 dL_law_40 (by omega) (by omega) (by rw [hk]; rfl) (by decide) (zl_c2 C K)
  | 3, _, hk => exact lv_tableIn (tgt := 327) (off := 287) X.1 X.2.1 dL_law_40 (by omega) (by omega) (by rw [hk]; rfl) (by decide) (zl_c3 C K)
  | 4, _, hk => exact lv_tableIn (tgt := 364) (off := 324) X.1 X.2.1 dL_law_40 (by omega) (by omega) (by rw [hk]; rfl) (by decide) (zl_c4 C K)
  | 5, _, hk => exact lv_tableIn (tgt := 401) (off := 361) X.1 X.2.1 dL_law_40 (by omega) (by omega) (by rw [hk]; rfl) (by decide) (zl_c5 C K)
  | 6, _, hk => exact lv_tableIn (tgt := 438) (off := 398) X.1 X.2.1 dL_law_40 (by omega) (by omega) (by rw [hk]; rfl) (by decide) (zl_c6 C K)
  | 7, _, hk => exact lv_tableIn (tgt := 463) (off := 423) X.1 X.2.1 dL_law_40 (by omega) (by omega) (by rw [hk]; rfl) (by decide) (zl_c7 C K)
  | 8, _, hk => exact lv_tableIn (tgt := 500) (off := 460) X.1 X.2.1 dL_law_40 (by omega) (by omega) (by rw [hk]; rfl) (by decide) (zl_c8 C K)
  | 9, _, hk => exact lv_tableIn (tgt := 525) (off := 485) X.1 X.2.1 dL_law_40 (by omega) (by omega) (by rw [hk]; rfl) (by decide) (zl_c9 C K)
  | 10, _, hk => exact lv_tableIn (tgt := 562) (off := 522) X.1 X.2.1 dL_law_40 (by omega) (by omega) (by rw [hk]; rfl) (by decide) (zl_c10 C K)
  | 11, _, hk => exact lv_tableIn (tgt := 599) (off := 559) X.1 X.2.1 dL_law_40 (by omega) (by omega) (by rw [hk]; rfl) (by decide) (zl_c11 C K)
  | 12, _, hk => exact lv_tableIn (tgt := 624) (off := 584) X.1 X.2.1 dL_law_40 (by omega) (by omega) (by rw [hk]; rfl) (by decide) (zl_c12 C K)
  | 13, _, hk => exact lv_tableIn (tgt := 649) (off := 609) X.1 X.2.1 dL_law_40 (by omega) (by omega) (by rw [hk]; rfl) (by decide) (zl_c13 C K)
  | 14, _, hk => exact lv_tableIn (tgt := 662) (off := 622) X.1 X.2.1 dL_law_40 (by omega) (by omega) (by rw [hk]; rfl) (by decide) (zl_c14 C K)
  | 15, _, hk => exact lv_tableIn (tgt := 699) (off := 659) X.1 X.2.1 dL_law_40 (by omega) (by omega) (by rw [hk]; rfl) (by decide) (zl_c15 C K)
  | 16, _, hk => exact lv_tableIn (tgt := 724) (off := 684) X.1 X.2.1 dL_law_40 (by omega) (by omega) (by rw [hk]; rfl) (by decide) (zl_c16 C K)
  | 17, _, hk => exact lv_tableIn (tgt := 749) (off := 709) X.1 X.2.1 dL_law_40 (by omega) (by omega) (by rw [hk]; rfl) (by decide) (zl_c17 C K)
  | 18, _, hk => exact lv_tableIn (tgt := 786) (off := 746) X.1 X.2.1 dL_law_40 (by omega) (by omega) (by rw [hk]; rfl) (by decide) (zl_c18 C K)
  | 19, _, hk => exact lv_tableIn (tgt := 823) (off := 783) X.1 X.2.1 dL_law_40 (by omega) (by omega) (by rw [hk]; rfl) (by decide) (zl_c19 C K)
  | 20, _, hk => exact lv_tableIn (tgt := 848) (off := 808) X.1 X.2.1 dL_law_40 (by omega) (by omega) (by rw [hk]; rfl) (by decide) (zl_c20 C K)
  | 21, _, hk => exact lv_tableIn (tgt := 873) (off := 833) X.1 X.2.1 dL_law_40 (by omega) (by omega) (by rw [hk]; rfl) (by decide) (zl_c21 C K)
  | 22, _, hk => exact lv_tableIn (tgt := 898) (off := 858) X.1 X.2.1 dL_law_40 (by omega) (by omega) (by rw [hk]; rfl) (by decide) (zl_c22 C K)
  | 23, _, hk => exact lv_tableIn (tgt := 923) (off := 883) X.1 X.2.1 dL_law_40 (by omega) (by omega) (by rw [hk]; rfl) (by decide) (zl_c23 C K)
  | 24, _, hk => exact lv_tableIn (tgt := 948) (off := 908) X.1 X.2.1 dL_law_40 (by omega) (by omega) (by rw [hk]; rfl) (by decide) (zl_c24 C K)
  | 25, _, hk => exact lv_tableIn (tgt := 973) (off := 933) X.1 X.2.1 dL_law_40 (by omega) (by omega) (by rw [hk]; rfl) (by decide) (zl_c25 C K)
  | 26, _, hk => exact lv_tableIn (tgt := 1010) (off := 970) X.1 X.2.1 dL_law_40 (by omega) (by omega) (by rw [hk]; rfl) (by decide) (zl_c26 C K)
  | 27, _, hk => exact lv_tableIn (tgt := 1059) (off := 1019) X.1 X.2.1 dL_law_40 (by omega) (by omega) (by rw [hk]; rfl) (by decide) (zl_c27 C K)
  | 28, _, hk => exact lv_tableIn (tgt := 1108) (off := 1068) X.1 X.2.1 dL_law_40 (by omega) (by omega) (by rw [hk]; rfl) (by decide) (zl_c28 C K)
  | 29, _, hk => exact lv_tableIn (tgt := 1170) (off := 1130) X.1 X.2.1 dL_law_40 (by omega) (by omega) (by rw [hk]; rfl) (by decide) (zl_c29 C K)
  | 30, _, hk => exact lv_tableIn (tgt := 1196) (off := 1156) X.1 X.2.1 dL_law_40 (by omega) (by omega) (by rw [hk]; rfl) (by decide) (zl_c30 C K)
  | 31, _, hk => exact lv_tableIn (tgt := 1221) (off := 1181) X.1 X.2.1 dL_law_40 (by omega) (by omega) (by rw [hk]; rfl) (by decide) (zl_c31 C K)
  | 32, _, hk => exact lv_tableIn (tgt := 1246) (off := 1206) X.1 X.2.1 dL_law_40 (by omega) (by omega) (by rw [hk]; rfl) (by decide) (zl_c32 C K)
  | 33, _, hk => exact lv_tableIn (tgt := 1295) (off := 1255) X.1 X.2.1 dL_law_40 (by omega) (by omega) (by rw [hk]; rfl) (by decide) (zl_c33 C K)
  | 34, _, hk => exact lv_tableIn (tgt := 1308) (off := 1268) X.1 X.2.1 dL_law_40 (by omega) (by omega) (by rw [hk]; rfl) (by decide) (zl_c34 C K)
  | 35, _, hk => exact lv_tableIn (tgt := 1321) (off := 1281) X.1 X.2.1 dL_law_40 (by omega) (by omega) (by rw [hk]; rfl) (by decide) (zl_c35 C K)
  | 36, _, hk => exact lv_tableIn (tgt := 1346) (off := 1306) X.1 X.2.1 dL_law_40 (by omega) (by omega) (by rw [hk]; rfl) (by decide) (zl_c36 C K)
  | 37, _, hk => exact lv_tableIn (tgt := 1407) (off := 1367) X.1 X.2.1 dL_law_40 (by omega) (by omega) (by rw [hk]; rfl) (by decide) (zl_c37 C K)
  | 38, _, hk => exact lv_tableIn (tgt := 1456) (off := 1416) X.1 X.2.1 dL_law_40 (by omega) (by omega) (by rw [hk]; rfl) (by decide) (zl_c38 C K)
  | 39, _, hk => exact lv_tableIn (tgt := 1505) (off := 1465) X.1 X.2.1 dL_law_40 (by omega) (by omega) (by rw [hk]; rfl) (by decide) (zl_c39 C K)
  | 40, _, hk => exact lv_tableIn (tgt := 1572) (off := 1532) X.1 X.2.1 dL_law_40 (by omega) (by omega) (by rw [hk]; rfl) (by decide) (zl_c40 C K)
  | 41, _, hk => exact lv_tableIn (tgt := 1645) (off := 1605) X.1 X.2.1 dL_law_40 (by omega) (by omega) (by rw [hk]; rfl) (by decide) (zl_c41 C K)
  | 42, _, hk => exact lv_tableIn (tgt := 1670) (off := 1630) X.1 X.2.1 dL_law_40 (by omega) (by omega) (by rw [hk]; rfl) (by decide) (zl_c42 C K)
  | k + 43, hk43, _ => exact absurd hk43 (Nat.not_lt_of_le (Nat.le_add_left 43 k))
theorem zl_loop (X : zw_X RL cL_law 8 p s m #[Value.ref b] cd) (hret : meth.sig.returnType = ret) (hlk : meth.locks = false) (hX : va_X b L xs s s.heap) (hb : b < s.heap.size) (hB : B = s.heap.size) (hL : L ≤ 3072) (hE : ze_ex B s) (hl : l.stackTraces = false) :
    ∀ (f n : Nat) (H : Heap) (locs : List Loc) (kc ks : Nat) (ls0 : Array Slot) (h : zHp), L < 6 * n + 6 * f + 6 → 6 * n ≤ L → kc ≤ 81 + n → ks ≤ 3729 + 6 * n → zw_P D c B h s H locs → zINV h → lv_has ls0 8 (zl_ls b B (nI (6 * n))) → W p l e room_1 s m #[Value.ref b] below meth cd H locs kc ks (lw_Z below #[Value.ref b] s) (F0 m 23 ls0 []) := by
  intro f
  induction f with
  | zero =>
    intro n H locs kc ks ls0 h hf hn hkc hks P hI hv
    refine lv_iload X.1 X.2.1 dL_law_23 (lv_at hv 0 rfl) ?_
    refine lv_aload_n X.1 X.2.1 dL_law_25 rfl (lv_at hv 4 rfl) ?_
    refine va_slen X.1 X.2.1 hX hb (fun q => absurd hb (Nat.not_lt_of_le (hB ▸ q))) P.2.2 dL_law_26 ?_
    refine lv_bipush (v := 6) X.1 X.2.1 dL_law_27 (by decide) ?_
    refine lv_isub X.1 X.2.1 dL_law_29 ?_
    refine lv_icmp_gt (tgt := 1701) X.1 X.2.1 dL_law_30 (by decide) (fun _ => ?_) (fun q => absurd ((zl_stop hL hn).mpr (by omega)) q)
    refine lv_iconst (v := 1) X.1 X.2.1 dL_law_1701 (by decide) ?_
    refine W.widen (k := 601024) (n := 7293034) (by omega) (by omega) ?_
    exact va_forget (fun q hq => hB ▸ P.2.2.2.2 q hq) (lw_ret X.1 X.2.1 hret hlk dL_law_1702)
  | succ f ih =>
    intro n H locs kc ks ls0 h hf hn hkc hks P hI hv
    refine lv_iload X.1 X.2.1 dL_law_23 (lv_at hv 0 rfl) ?_
    refine lv_aload_n X.1 X.2.1 dL_law_25 rfl (lv_at hv 4 rfl) ?_
    refine va_slen X.1 X.2.1 hX hb (fun q => absurd hb (Nat.not_lt_of_le (hB ▸ q))) P.2.2 dL_law_26 ?_
    refine lv_bipush (v := 6) X.1 X.2.1 dL_law_27 (by decide) ?_
    refine lv_isub X.1 X.2.1 dL_law_29 ?_
    refine lv_icmp_gt (tgt := 1701) X.1 X.2.1 dL_law_30 (by decide) (fun _ => ?_) (fun q => ?_)
    · refine lv_iconst (v := 1) X.1 X.2.1 dL_law_1701 (by decide) ?_
      refine W.widen (k := 601024) (n := 7293034) (by omega) (by omega) ?_
      exact va_forget (fun q hq => hB ▸ P.2.2.2.2 q hq) (lw_ret X.1 X.2.1 hret hlk dL_law_1702)
    · have hlt : 6 * n + 6 ≤ L := by
        rcases Nat.lt_or_ge L (6 * n + 6) with q2 | q2
        · exact absurd ((zl_stop hL hn).mpr q2) q
        · exact q2
      refine zl_turn ⟨X, P, hI, ⟨by omega, by omega⟩, hv, ⟨hX, hb, hB, hlt, hL⟩, hE, hl⟩ (fun H1 locs1 ls1 kc1 ks1 h1 P1 hI1 hk1 hk2 hv1 => ?_)
      refine lv_iinc (v := nI (6 * (n + 1))) (k := 0) X.1 X.2.1 dL_law_1695 hv1 rfl (nI_add (6 * n) 6) (by decide) rfl (fun ls2 hv2 => ?_)
      refine lv_goto (tgt := 23) X.1 X.2.1 dL_law_1698 (by decide) ?_
      exact ih (n + 1) H1 locs1 kc1 ks1 ls2 h1 (by omega) (by omega) (by omega) (by omega) P1 hI1 hv2
end ZLL
/-- from the entry, for every script of at most 3072 ints, the law comes to its end with true -/
theorem whole_start {p : Program} {e : Env} {s : State} {m : MethodId} {below : List Frame} {meth : Method} {c : Code} (l : Launch) (hflags : l.flags = flags0) {b L : Nat} {xs : Nat → Int32} (hL : L ≤ 3072) (C0 : lw_At p s m meth c b L xs) : W p l e room_1 s m #[Value.ref b] below meth c s.heap [] 0 0 (lw_Z below #[Value.ref b] s) (entryFrame m ([Value.ref b] : List Value).toArray 8) := by
  obtain ⟨hexec, hcode, hret, hml, hown, hts, hX, hb, hlk, hgv⟩ := C0
  have hl : l.stackTraces = false := by
    unfold Launch.stackTraces
    rw [hflags]
    decide
  obtain ⟨D, cs, hK⟩ := zl_known hts
  have hg : ∀ w ∈ zg_tbl, w.before #[Value.ref b] s = true := fun w hw => hts w (List.mem_filter.mp hw).1
  have X : zj_X RL cL_law 8 p s m #[Value.ref b] c := ⟨hexec, hcode, hml, hown, hg, zn_of hts, zl_ex hts⟩
  refine zl_start (D := D) (c := cs) (B := s.heap.size) X rfl hK (fun H locs ls0 hP hS hv => ?_)
  exact zl_loop (D := D) (c := cs) ⟨hexec, hcode, hml, hown, hg, zn_of hts⟩ hret hlk hX hb rfl hL (zl_exc hts hgv) hl (L / 6) 0 H locs 81 3729 ls0 zh0 (by omega) (by omega) (by omega) (by omega) ⟨hP, hK, hS⟩ zINV_0 hv

/-! what exceptions want holds at the law's start -/
theorem ze_str {own tx : String} {k n : Nat} {s : State} {args : Array Value} (h1 : (Cond.stringRef own k tx).before args s = true) (h2 : (Cond.instantiable own n).before args s = true) : ∃ a, vk_R own k tx a s := by
  obtain ⟨cC, kC, hfc, -⟩ := Cond.instantiable_spec h2
  obtain ⟨_, _, _, a, -, -, -, -, -, he⟩ := Cond.stringRef_spec hfc h1
  exact ⟨a, vk_R.of h1 he⟩
theorem zl_exc {s : State} {args : Array Value} (hts : ∀ w ∈ lw_tbl, w.before args s = true) (hgv : (Jvm.Cond.and given_1 narrow_1).before args s = true) : ze_ex s.heap.size s := by
  have hs := flat_of_before _ hgv
  have hg : ∀ w ∈ zg_tbl, w.before args s = true := fun w hw => hts w (List.mem_filter.mp hw).1
  have hA : ∀ a : Nat, a < s.heap.size → ¬ zc_ge s.heap.size a := fun a h1 h2 => absurd h1 (Nat.not_lt_of_le h2)
  refine ⟨vx_Zqof (hts _ (List.mem_of_getElem? (i := 53 + 848) (by decide +kernel))) (hg _ zk_17) (hs _ (by decide +kernel)) hA, vx_Zqof (hts _ (List.mem_of_getElem? (i := 53 + 850) (by decide +kernel))) (hg _ zk_17) (hs _ (by decide +kernel)) hA, ?_, ?_, ?_, ?_⟩
  · intro q hq
    simp only [ze_strL, List.mem_cons, List.not_mem_nil, or_false] at hq
    rcases hq with rfl | rfl | rfl | rfl | rfl | rfl
    · exact ze_str (hts _ (List.mem_of_getElem? (i := 53 + 925) (by decide +kernel))) (hg _ zk_33)
    · exact ze_str (hts _ (List.mem_of_getElem? (i := 53 + 903) (by decide +kernel))) (hg _ zk_49)
    · exact ze_str (hts _ (List.mem_of_getElem? (i := 53 + 862) (by decide +kernel))) (hg _ zk_63)
    · exact ze_str (hts _ (List.mem_of_getElem? (i := 53 + 941) (by decide +kernel))) (hg _ zk_24)
    · exact ze_str (hts _ (List.mem_of_getElem? (i := 53 + 943) (by decide +kernel))) (hg _ zk_24)
    · exact ze_str (hts _ (List.mem_of_getElem? (i := 53 + 945) (by decide +kernel))) (hg _ zk_24)
  · intro E hE
    simp only [ze_castL, List.mem_cons, List.not_mem_nil, or_false] at hE
    rcases hE with rfl | rfl | rfl
    · exact va_Nw.of rfl (hts _ (List.mem_of_getElem? (i := 53 + 918) (by decide +kernel)))
    · exact va_Nw.of rfl (hts _ (List.mem_of_getElem? (i := 53 + 896) (by decide +kernel)))
    · exact va_Nw.of rfl (hts _ (List.mem_of_getElem? (i := 53 + 823) (by decide +kernel)))
  · intro q hq
    simp only [ze_ncL, List.mem_cons, List.not_mem_nil, or_false] at hq
    rcases hq with rfl | rfl | rfl | rfl | rfl | rfl <;> exact va_Nc.of (hs _ (by decide +kernel))
  · intro x hx
    simp only [ze_decL, List.mem_cons, List.not_mem_nil, or_false] at hx
    rcases hx with rfl | rfl | rfl
    · exact va_Nw.of rfl (hts _ (List.mem_of_getElem? (i := 53 + 825) (by decide +kernel)))
    · exact va_Nw.of rfl (hts _ (List.mem_of_getElem? (i := 53 + 827) (by decide +kernel)))
    · exact va_Nw.of rfl (hts _ (List.mem_of_getElem? (i := 53 + 829) (by decide +kernel)))

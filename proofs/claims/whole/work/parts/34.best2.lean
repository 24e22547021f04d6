/-- a rewriting that the kernel need not compute -/
theorem zbs {α β : Type} (a : α) (f : α → Option β) : (some a).bind f = f a := by rw [Option.bind_some]
def moveV (P : zP) (n v i : Nat) : Int32 := nI (sk (daysN n (setPl P (un (pl P) v i))) v)
theorem c_moveL {h : zHp} {P : zP} {n v : Nat} (c1 : zWF 999 P) (c2 : RC h 16 P) (hn : n < 61) (hv : v < nV P) : ∃ g, JC h P g ∧ zl_X10_move_28 (nI v) (nI n) zFU 0 (-1) 0 h = some ((accN (bestG (fun a b => a ≤ b) (moveV P n v)) 12 (0, -1)).1, g) := by
  have h7 := c1.2.1
  have hv7 : v < 7 := by omega
  exact best_loop (K := fun a b => a ≤ b) (fun fu s i => zl_X10_move_28 (nI v) (nI n) fu s.1 s.2.1 i s.2.2) 12 (by omega) (moveV P n v) (JC h P) 0 (-1) h ⟨c2, zEC.rf⟩
    (fun fu i b m g hi hJ => by
      obtain ⟨q1, q2, a1, a2, a3, a4, a5, a6⟩ := c_try (n := n) c1 hJ (wf_pl (w := v) (x := i) c1 hi) (by omega) (fun q => zc_ui q (25 + 3) v (nI i)) (fun q hq => ⟨RC_pl hq, zE.ui ⟨by omega, by omega⟩⟩)
      refine ⟨q2, a6, ?_⟩
      have a7 : q2.1 (25 + 5) v = moveV P n v i := (a4.1 v hv7).2.2.2.2
      show zl_X10_move_28 (nI v) (nI n) (fu + 1) b m (nI i) g = _
      conv => lhs; unfold zl_X10_move_28
      rw [if_neg (by rw [zi_lit12, zi_le (by omega) (by omega)]; omega), a1]
      simp only [zbs, if_pos (zi_ix hv7 (show 7 < 2000000000 by omega)), zi_clamp (show v < 2000000000 by omega)]
      rw [a3]
      simp only [zbs, a7, zi_one])
    (fun fu b m g hJ => by
      show zl_X10_move_28 (nI v) (nI n) (fu + 1) b m (nI 12) g = _
      conv => lhs; unfold zl_X10_move_28
      rw [if_pos (by decide)])
theorem m_moveL {h' k1 : zHp} {P : zP} {n v : Nat} (c1 : zWF 999 P) (hJ0 : JM h' P k1) (hn : n < 61) (hv : v < nV P) : ∃ g, JM h' P g ∧ zl_X11_move_39 (nI v) (nI n) zFU 0 (-1) 0 k1 = some ((accN (bestG (fun a b => a ≤ b) (moveV P n v)) 12 (0, -1)).1, g) := by
  have h7 := c1.2.1
  have hv7 : v < 7 := by omega
  exact best_loop (K := fun a b => a ≤ b) (fun fu s i => zl_X11_move_39 (nI v) (nI n) fu s.1 s.2.1 i s.2.2) 12 (by omega) (moveV P n v) (JM h' P) 0 (-1) k1 hJ0
    (fun fu i b m g hi hJ => by
      obtain ⟨q2, q3, a1, a2, a3, a4, a5⟩ := m_try (n := n) hJ (wf_pl (w := v) (x := i) c1 hi) (by omega) (zc_ui g 63 v (nI i)) (RM_pl hJ.1) (zEm.ua ⟨by omega, by omega⟩)
      refine ⟨q3, a5, ?_⟩
      have a7 : q2.1 65 v = moveV P n v i := (a2.1 v hv7).2.2.2.2
      show zl_X11_move_39 (nI v) (nI n) (fu + 1) b m (nI i) g = _
      conv => lhs; unfold zl_X11_move_39
      rw [if_neg (by rw [zi_lit12, zi_le (by omega) (by omega)]; omega)]
      simp only [zbs, if_pos (zi_ix hv7 (show 7 < 2000000000 by omega)), zi_clamp (show v < 2000000000 by omega)]
      rw [a1]
      simp only [zbs, a7]
      rw [a4]
      simp only [zbs, zi_one]
      by_cases c : moveV P n v i ≤ m
      · simp [c]
      · simp [c])
    (fun fu b m g hJ => by
      show zl_X11_move_39 (nI v) (nI n) (fu + 1) b m (nI 12) g = _
      conv => lhs; unfold zl_X11_move_39
      rw [if_pos (by decide)])
theorem ok_move (x1 x2 : Int32) : zOK (zf_X10_move x1 x2) (zf_X11_move x1 x2) := by
  refine zOK_ask2 (fun h h' P I S hC hM => ?_)
  obtain ⟨c1, c2, -⟩ := hC
  have h7 := c1.2.1
  obtain ⟨t1, t2⟩ := m_thr hM.1
  unfold zf_X10_move zf_X11_move
  simp only [zbs]
  rcases zr x1 (N := nV P) (by omega) with hx | ⟨v, hv, rfl⟩
  · rw [c_isThere_out c2 hx, m_isOne_out t1 h7 hx]
    exact ⟨_, _, _, rfl, zEC.rf, rfl, t1, t2⟩
  rw [c_isThere_in c2 c1 hv, m_isOne_in t1 h7 hv]
  simp only [zbs, z10, if_false]
  rcases zr x2 (N := 61) (by omega) with hx | ⟨n, hn, rfl⟩
  · rw [c_isDaysOn_out hx, m_in_out (N := 61) (by omega) (by omega) (by decide) hx]
    exact ⟨_, _, _, rfl, zEC.rf, rfl, t1, t2⟩
  rw [c_isDaysOn_in hn, m_in_in (N := 61) (by omega) hn (by decide)]
  simp only [zbs, z10, if_false]
  obtain ⟨k1, p1, p2, p3, p4⟩ := m_think t1
  obtain ⟨g1, u1, u2⟩ := c_moveL c1 c2 hn hv
  obtain ⟨g2, v1, v2⟩ := m_moveL c1 (⟨p2, p3, t2.tr p4.M⟩ : JM h' P k1) hn hv
  rw [u2, p1]
  simp only [zbs]
  rw [v2]
  simp only [zbs]
  exact ⟨_, _, _, rfl, u1.2, rfl, v1.1, v1.2.2⟩
theorem ok_fetch (x1 x2 : Int32) : zOK (zf_X10_fetch x1 x2) (zf_X11_fetch x1 x2) := by
  refine zOK_ask2 (fun h h' P I S hC hM => ?_)
  obtain ⟨c1, c2, -⟩ := hC
  have h7 := c1.2.1
  obtain ⟨t1, t2⟩ := m_thr hM.1
  unfold zf_X10_fetch zf_X11_fetch
  simp only [zbs]
  rcases zr x1 (N := nV P) (by omega) with hx | ⟨v, hv, rfl⟩
  · rw [c_isThere_out c2 hx, m_isOne_out t1 h7 hx]
    exact ⟨_, _, _, rfl, zEC.rf, rfl, t1, t2⟩
  rw [c_isThere_in c2 c1 hv, m_isOne_in t1 h7 hv]
  simp only [zbs, z10, if_false]
  rcases zr x2 (N := 61) (by omega) with hx | ⟨n, hn, rfl⟩
  · rw [c_isDaysOn_out hx, m_in_out (N := 61) (by omega) (by omega) (by decide) hx]
    exact ⟨_, _, _, rfl, zEC.rf, rfl, t1, t2⟩
  rw [c_isDaysOn_in hn, m_in_in (N := 61) (by omega) hn (by decide)]
  simp only [zbs, z10, if_false]
  have hv7 : v < 7 := by omega
  have ix := zi_ix hv7 (show 7 < 2000000000 by omega)
  have cl := zi_clamp (show v < 2000000000 by omega)
  obtain ⟨y1, y2, o1, o2, o3, o4, o5, o6⟩ := c_try (n := n) c1 (⟨c2, zEC.rf⟩ : JC h P h) c1 (by omega) (fun q => q) (fun q hq => ⟨hq, zE.rf⟩)
  obtain ⟨k1, p1, p2, p3, p4⟩ := m_think t1
  obtain ⟨z2, z3, w1, w2, w3, w4, w5⟩ := m_try (n := n) (h := h') (P := P) (g := k1) ⟨p2, p3, t2.tr p4.M⟩ c1 (by omega) k1 p2 zEm.rf
  obtain ⟨g1, u1, u2⟩ := best_loop (K := fun a b => a ≤ b) (fun fu s i => zl_X10_fetch_56 (nI v) (nI n) fu s.2.1 s.1 i s.2.2) (nV P) (by omega) (fun i => nI (sk (daysN n (setFr P (un (fr P) v i))) v)) (JC h P) (-4) (nI (sk (daysN n P) v)) y2 o6
    (fun fu i b m g hi hJ => by
      obtain ⟨q1, q2, a1, a2, a3, a4, a5, a6⟩ := c_try (n := n) c1 hJ (wf_fr (w := v) (x := i) c1 (by omega)) (by omega) (fun q => zc_ui q (25 + 4) v (nI i)) (fun q hq => ⟨RC_fr hq, zE.ui ⟨by omega, by omega⟩⟩)
      refine ⟨q2, a6, ?_⟩
      show zl_X10_fetch_56 (nI v) (nI n) (fu + 1) m b (nI i) g = _
      conv => lhs; unfold zl_X10_fetch_56
      rw [hJ.1.2.2.1, if_neg (by rw [zi_le (by omega) (by omega)]; omega), a1]
      simp only [zbs, if_pos ix, cl]
      rw [a3]
      simp only [zbs]
      rw [(a4.1 v hv7).2.2.2.2]
      simp only [zi_one])
    (fun fu b m g hJ => by
      show zl_X10_fetch_56 (nI v) (nI n) (fu + 1) m b _ g = _
      conv => lhs; unfold zl_X10_fetch_56
      rw [hJ.1.2.2.1, if_pos (by rw [zi_le (by omega) (by omega)]; omega)])
  obtain ⟨g2, v1, v2⟩ := best_loop (K := fun a b => a ≤ b) (fun fu s i => zl_X11_fetch_54 (nI v) (nI n) fu s.1 s.2.1 i s.2.2) (nV P) (by omega) (fun i => nI (sk (daysN n (setFr P (un (fr P) v i))) v)) (JM h' P) (-4) (nI (sk (daysN n P) v)) z3 w5
    (fun fu i b m g hi hJ => by
      obtain ⟨q2, q3, a1, a2, a3, a4, a5⟩ := m_try (n := n) hJ (wf_fr (w := v) (x := i) c1 (by omega)) (by omega) (zc_ui g 64 v (nI i)) (RM_fr hJ.1) (zEm.ua ⟨by omega, by omega⟩)
      refine ⟨q3, a5, ?_⟩
      show zl_X11_fetch_54 (nI v) (nI n) (fu + 1) b m (nI i) g = _
      conv => lhs; unfold zl_X11_fetch_54
      rw [hJ.1.2.1, if_neg (by rw [zi_le (by omega) (by omega)]; omega)]
      simp only [zbs, if_pos ix, cl]
      rw [a1]
      simp only [zbs]
      rw [a4, (a2.1 v hv7).2.2.2.2]
      simp only [zbs, zi_one]
      by_cases c : nI (sk (daysN n (setFr P (un (fr P) v i))) v) ≤ m
      · simp [c]
      · simp [c])
    (fun fu b m g hJ => by
      show zl_X11_fetch_54 (nI v) (nI n) (fu + 1) b m _ g = _
      conv => lhs; unfold zl_X11_fetch_54
      rw [hJ.1.2.1, if_pos (by rw [zi_le (by omega) (by omega)]; omega)])
  rw [o1, p1]
  simp only [zbs, if_pos ix, cl]
  rw [o3, w1]
  simp only [zbs]
  rw [(o4.1 v hv7).2.2.2.2, (w2.1 v hv7).2.2.2.2, w4]
  simp only [zbs]
  rw [u2, v2]
  simp only [zbs]
  exact ⟨_, _, _, rfl, u1.2, rfl, v1.1, v1.2.2⟩
theorem ok_feed (x1 : Int32) : zOK (zf_X10_feed x1) (zf_X11_feed x1) := by
  refine zOK_ask2 (fun h h' P I S hC hM => ?_)
  obtain ⟨c1, c2, -⟩ := hC
  have h7 := c1.2.1
  obtain ⟨t1, t2⟩ := m_thr hM.1
  unfold zf_X10_feed zf_X11_feed
  simp only [zbs]
  rcases zr x1 (N := 61) (by omega) with hx | ⟨n, hn, rfl⟩
  · rw [c_isDaysOn_out hx, m_in_out (N := 61) (by omega) (by omega) (by decide) hx]
    exact ⟨_, _, _, rfl, zEC.rf, rfl, t1, t2⟩
  rw [c_isDaysOn_in hn, m_in_in (N := 61) (by omega) hn (by decide)]
  simp only [zbs, z10, if_false]
  obtain ⟨y1, y2, o1, o2, o3, o4, o5, o6⟩ := c_try (n := n) c1 (⟨c2, zEC.rf⟩ : JC h P h) c1 (by omega) (fun q => q) (fun q hq => ⟨hq, zE.rf⟩)
  obtain ⟨k1, p1, p2, p3, p4⟩ := m_think t1
  obtain ⟨z2, z3, w1, w2, w3, w4, w5⟩ := m_try (n := n) (h := h') (P := P) (g := k1) ⟨p2, p3, t2.tr p4.M⟩ c1 (by omega) k1 p2 zEm.rf
  obtain ⟨g1, u1, u2⟩ := best_loop (K := fun a b => b ≤ a) (fun fu s i => zl_X10_feed_42 (nI n) fu s.2.1 s.1 i s.2.2) (nV P) (by omega) (fun i => cntI (hungN (daysN n (setSk P (un (sk P) i (min 99 (sk P i + 20))) (nd P)))) (nV P)) (JC h P) (-4) (cntI (hungN (daysN n P)) (nV P)) y2 o6
    (fun fu i b m g hi hJ => by
      obtain ⟨q1, q2, a1, a2, a3, a4, a5, a6⟩ := c_try (n := n) c1 hJ (wf_sk (w := i) (x := min 99 (sk P i + 20)) c1 (Nat.min_le_left _ _)) (by omega) (fun q => zc_ui q (25 + 5) i (nI (min 99 (sk P i + 20)))) (fun q hq => ⟨RC_sk hq, zE.ui ⟨by omega, by omega⟩⟩)
      have hs := (c1.1 i (by omega)).2.2.2.2
      refine ⟨q2, a6, ?_⟩
      show zl_X10_feed_42 (nI n) (fu + 1) m b (nI i) g = _
      conv => lhs; unfold zl_X10_feed_42
      rw [hJ.1.2.2.1, if_neg (by rw [zi_le (by omega) (by omega)]; omega), a1]
      simp only [zbs, if_pos (zi_ix (show i < 7 by omega) (show 7 < 2000000000 by omega)), zi_clamp (show i < 2000000000 by omega)]
      rw [(a2.1 i (by omega)).2.2.2.2, show (20 : Int32) = nI 20 by decide, nI_add, zi_lit99, zi_min (by omega) (by omega), a3]
      simp only [zbs]
      rw [c_allHungry a4 a5, daysN_V]
      simp only [zbs, zi_one]
      rfl)
    (fun fu b m g hJ => by
      show zl_X10_feed_42 (nI n) (fu + 1) m b _ g = _
      conv => lhs; unfold zl_X10_feed_42
      rw [hJ.1.2.2.1, if_pos (by rw [zi_le (by omega) (by omega)]; omega)])
  obtain ⟨g2, v1, v2⟩ := best_loop (K := fun a b => b ≤ a) (fun fu s i => zl_X11_feed_43 (nI n) fu s.1 s.2.1 i s.2.2) (nV P) (by omega) (fun i => cntI (hungN (daysN n (setSk P (un (sk P) i (min 99 (sk P i + 20))) (nd P)))) (nV P)) (JM h' P) (-4) (cntI (hungN (daysN n P)) (nV P)) z3 w5
    (fun fu i b m g hi hJ => by
      have hs := (c1.1 i (by omega)).2.2.2.2
      obtain ⟨q2, q3, a1, a2, a3, a4, a5⟩ := m_try (n := n) hJ (wf_sk (w := i) (x := min 99 (sk P i + 20)) c1 (Nat.min_le_left _ _)) (by omega) (zc_ui g 65 i (nI (min 99 (sk P i + 20)))) (RM_sk hJ.1) (zEm.ua ⟨by omega, by omega⟩)
      refine ⟨q3, a5, ?_⟩
      show zl_X11_feed_43 (nI n) (fu + 1) b m (nI i) g = _
      conv => lhs; unfold zl_X11_feed_43
      rw [hJ.1.2.1, if_neg (by rw [zi_le (by omega) (by omega)]; omega)]
      simp only [zbs, if_pos (zi_ix (show i < 7 by omega) (show 7 < 2000000000 by omega)), zi_clamp (show i < 2000000000 by omega)]
      rw [(hJ.1.1 i (by omega)).2.2.2.2, show (20 : Int32) = nI 20 by decide, nI_add, zi_lit99, m_held (by omega) (by omega)]
      simp only [zbs]
      rw [a1]
      simp only [zbs]
      rw [m_hungryMany a2 a3, a4, daysN_V]
      simp only [zbs, zi_one]
      show _ = if m ≤ cntI (hungN (daysN n (setSk P (un (sk P) i (min 99 (sk P i + 20))) (nd P)))) (nV P) then _ else _
      rw [show nV (setSk P (un (sk P) i (min 99 (sk P i + 20))) (nd P)) = nV P from rfl]
      by_cases c : m ≤ cntI (hungN (daysN n (setSk P (un (sk P) i (min 99 (sk P i + 20))) (nd P)))) (nV P)
      · simp [c]
      · simp [c])
    (fun fu b m g hJ => by
      show zl_X11_feed_43 (nI n) (fu + 1) b m _ g = _
      conv => lhs; unfold zl_X11_feed_43
      rw [hJ.1.2.1, if_pos (by rw [zi_le (by omega) (by omega)]; omega)])
  rw [o1, p1]
  simp only [zbs]
  rw [o3, w1]
  simp only [zbs]
  rw [c_allHungry o4 o5, m_hungryMany w2 w3, w4, daysN_V]
  simp only [zbs]
  rw [u2, v2]
  simp only [zbs]
  exact ⟨_, _, _, rfl, u1.2, rfl, v1.1, v1.2.2⟩

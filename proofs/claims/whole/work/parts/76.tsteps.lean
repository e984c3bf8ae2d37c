/-! times, fewest -/
theorem RelT_gX {MX MX' MM : zM} (hR : RelT zTab MX MM) (h : gX MX MX') (hT : zTab MX') : RelT zTab MX' MM := RelT_X hR (gX_eX h) hT
theorem st_times (MX MM : zM) (hR : RelT zTab MX MM) (a1 : Int32) : ∃ (r : Int64) (MX' MM' : zM), fX5_times a1 MX = some (r, MX') ∧ fX6_times a1 MM = some (r, MM') ∧ RelT zTab MX' MM' := by
  obtain ⟨hT, t, hP, hTx, hA, hSh, hI⟩ := id hR
  obtain ⟨n, r, hn, hr, a7, b2, a10, b7, oX, oM, oV, hv, n2, n1⟩ := rP_view hP hTx
  unfold fX5_times fX6_times
  rcases three_e hn a7 b2 a1 with ⟨a, b, c, ha, hb, hc, -, -, -, rfl, h1, h2⟩ | ⟨h1, h2⟩
  rotate_left
  · rw [zB_s h1, zB_s h2, if_pos rfl, if_pos rfl]; exact ⟨_, MX, MM, rfl, rfl, hR⟩
  rw [zB_s h1, zB_s h2, if_neg (show ¬ (1 : Int32) = 0 by decide), if_neg (show ¬ (1 : Int32) = 0 by decide)]
  obtain ⟨bt, MX', x1, x2, x3, x4⟩ := xtimes_e (Or.inl rfl) oX hT (a := a) (b := b) (c := c) (by rw [n1]; exact ha) (by rw [n1]; exact hb) (by rw [n1]; exact hc)
  obtain ⟨M1, p1, p2, p3⟩ := pours_e oM (a := a) (b := b) (c := c) (by rw [n2]; exact ha) (by rw [n2]; exact hb) (by rw [n2]; exact hc)
  obtain ⟨bt', M2, t1', t2, t3⟩ := told_e (mN_e (vM MM) a).2 (mN_e (vM MM) b).2 (mN_e (vM MM) c).2 p2
  rw [hv] at x2
  have e := tBits_uniq x2 t2
  subst e
  refine ⟨lN bt, MX', M2, ?_, ?_, RelT_M (RelT_gX hR x3 x4) (gG_eM (gG_trans p3 (gG_F t3)))⟩
  · rw [zB_s x1, nI_l x2.1]
  · rw [zV_s p1, zB_s t1']
theorem st_fewest (MX MM : zM) (hR : RelT zTab MX MM) (a1 a2 a3 : Int32) : ∃ (r : Int32) (MX' MM' : zM), fX5_fewest a1 a2 a3 MX = some (r, MX') ∧ fX6_fewest a1 a2 a3 MM = some (r, MM') ∧ RelT zTab MX' MM' := by
  obtain ⟨hT, t, hP, hTx, hA, hSh, hI⟩ := id hR
  obtain ⟨n, r, hn, hr, a7, b2, a10, b7, oX, oM, oV, hv, n2, n1⟩ := rP_view hP hTx
  unfold fX5_fewest fX6_fewest
  rcases three_e hn a7 b2 a1 with ⟨a, b, c, ha, hb, hc, -, -, -, rfl, h1, h2⟩ | ⟨h1, h2⟩
  rotate_left
  · rw [zB_s h1, zB_s h2, if_pos rfl, if_pos rfl]; exact ⟨_, MX, MM, rfl, rfl, hR⟩
  rw [zB_s h1, zB_s h2, if_neg (show ¬ (1 : Int32) = 0 by decide), if_neg (show ¬ (1 : Int32) = 0 by decide)]
  rcases minute_e a2 MX MM with ⟨m, m1, m30, rfl, h1, h2⟩ | ⟨h1, h2⟩
  rotate_left
  · rw [zB_s h1, zB_s h2, if_pos rfl, if_pos rfl]; exact ⟨_, MX, MM, rfl, rfl, hR⟩
  rw [zB_s h1, zB_s h2, if_neg (show ¬ (1 : Int32) = 0 by decide), if_neg (show ¬ (1 : Int32) = 0 by decide), zB_s (win5 _ _ _ _), zB_s (win6 _ _ _ _)]
  rcases zWin_c a3 0 2 with ⟨z3, -⟩ | ⟨z3, k5, k6⟩
  · rw [if_pos z3, if_pos z3]; exact ⟨-2, MX, MM, rfl, rfl, hR⟩
  obtain ⟨w, -, hw2, rfl⟩ := i32_in (a := 0) (b := 2) k5 k6 (by omega) (by omega)
  rw [if_neg (show ¬ zWin (nI w) 0 2 = 0 by rw [z3]; decide), if_neg (show ¬ zWin (nI w) 0 2 = 0 by rw [z3]; decide)]
  obtain ⟨M1, p1, p2, p3⟩ := pours_e oM (a := a) (b := b) (c := c) (by rw [n2]; exact ha) (by rw [n2]; exact hb) (by rw [n2]; exact hc)
  have hA9 := (mN_e (vM MM) a).2
  have hB9 := (mN_e (vM MM) b).2
  have hC9 := (mN_e (vM MM) c).2
  rw [zV_s p1]
  by_cases cw : w = 2
  · subst cw
    rw [if_pos (show nI 2 = 2 from rfl), if_pos (show nI 2 = 2 from rfl)]
    obtain ⟨bt, MX', x1, x2, x3, x4⟩ := xtimes_e (Or.inl rfl) oX hT (a := a) (b := b) (c := c) (by rw [n1]; exact ha) (by rw [n1]; exact hb) (by rw [n1]; exact hc)
    obtain ⟨bt', M2, t1', t2, t3⟩ := told_e hA9 hB9 hC9 p2
    rw [hv] at x2
    have e := tBits_uniq x2 t2
    subst e
    have q1 : fX5_nextTold (nI bt) (nI m) MX' = some (sNx bt (31 - m) m, MX') := nextX x2.1 MX' (31 - m) m zF (by omega) (by unfold zF; omega)
    have q2 : fX6_nextTold (nI m) M1 = some (sNx bt (31 - m) m, M2) := by
      unfold fX6_nextTold
      rw [zB_s t1']
      exact nextM x2.1 M2 (31 - m) m zF (by omega) (by unfold zF; omega)
    refine ⟨sNx bt (31 - m) m, MX', M2, ?_, ?_, RelT_M (RelT_gX hR x3 x4) (gG_eM (gG_trans p3 (gG_F t3)))⟩
    · rw [zB_s x1, zB_s q1]
    · rw [zB_s q2]
  · have cw' : ¬ nI w = (2 : Int32) := fun q => cw ((nI_eq (by omega) (by omega)).mp (q.trans (show (2 : Int32) = nI 2 from rfl)))
    rw [if_neg cw', if_neg cw']
    obtain ⟨X1, l1, l2, l3, l4⟩ := xlay_e oX hT (a := a) (b := b) (c := c) (by rw [n1]; exact ha) (by rw [n1]; exact hb) (by rw [n1]; exact hc)
    rw [hv] at l2
    obtain ⟨M2, c1, c2, c3⟩ := counts_e hA9 hB9 hC9 m30 p2
    obtain ⟨v, v1, v2⟩ := c3 0 0 (by omega) ⟨by omega, by omega, by omega, by omega⟩ (Nat.le_refl _)
    have hv2 : gMn gTn 9999 (gOk (mN (vM MM) a) (mN (vM MM) b) (mN (vM MM) c) m 0) v := v2
    have v1' : M2.1 16 (0 : Int32).toNatClampNeg = nI v := v1
    obtain ⟨lv, lv2⟩ := gMn_lt hv2 (fun p hp => gOk_tn hp m30)
    have hx := turnsTill_e l2 m30 hv2
    obtain ⟨hy1, hy2⟩ := wayTill_e l2 m1 m30
    have hR2 : RelT zTab X1 M2 := RelT_M (RelT_gX hR l3 l4) (gG_eM (gG_trans p3 (gG_F c2)))
    rw [zV_s l1, zV_s c1, v1']
    by_cases c9 : v < 9999
    · rw [if_pos (show nI v < (9999 : Int32) from (nI_ltI (by omega) (show 9999 < 2 ^ 31 by decide)).mpr c9)]
      by_cases cw0 : nI w = (0 : Int32)
      · rw [if_pos cw0, if_pos cw0, zB_s hx, if_pos c9]
        exact ⟨nI v, X1, M2, rfl, rfl, hR2⟩
      · obtain ⟨P, hP⟩ := gGr_ex m m 0 (Nat.le_refl _) m30 (lv.mp c9)
        obtain ⟨M3, g1, g2⟩ := wayTo_e hA9 hB9 hC9 m30 hP (rSz_F c2 p2) c3
        rw [if_neg cw0, if_neg cw0, zB_s (hy2 P hP), zB_s g1]
        exact ⟨_, X1, M3, rfl, rfl, RelT_M hR2 (gF_eM g2)⟩
    · rw [if_neg (show ¬ nI v < (9999 : Int32) from fun q => c9 ((nI_ltI (by omega) (show 9999 < 2 ^ 31 by decide)).mp q))]
      refine ⟨-1, X1, M2, ?_, rfl, hR2⟩
      by_cases cw0 : nI w = (0 : Int32)
      · rw [if_pos cw0, zB_s hx, if_neg c9]
      · rw [if_neg cw0, zB_s (hy1 (fun p hp => c9 (lv.mpr ⟨p, hp⟩)))]

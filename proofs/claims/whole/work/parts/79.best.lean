/-! best, the reference's side -/
theorem isOne_n {n i : Nat} (hn : n ≤ 5) (hi : i < 2 ^ 30) {M : zM} (b2 : M.1 0 2 = nI n) : fX6_isOne (nI i) M = some ((if i < n then 1 else 0), M) := by
  unfold fX6_isOne
  rw [zB_s (win6 _ _ _ _), b2]
  have e : zWin (nI i) 0 (nI n - 1) = if i < n then 1 else 0 := by
    unfold zWin
    rw [if_neg (nI_pos (by omega))]
    by_cases c : i < n
    · rw [if_neg (by rw [nm1_lt (by omega), nI_leI (by omega) (by omega)]; omega), if_pos c]
    · rw [if_pos (by rw [nm1_lt (by omega), nI_leI (by omega) (by omega)]; omega), if_neg c]
  rw [e]
  by_cases c : i < n
  · rw [if_pos c, zG_t (by decide)]
  · rw [if_neg c, zG_t (by decide)]
theorem are_e {n s : Nat} (hn : n ≤ 5) (hs : s < 1000) (h1 : s / 100 < s / 10 % 10) (h2 : s / 10 % 10 < s % 10) {M : zM} (b2 : M.1 0 2 = nI n) : fX6_areThree (nI s) M = some ((if s % 10 < n then 1 else 0), M) := by
  unfold fX6_areThree
  rw [if_neg (nI_pos (by omega)), if_pos (by rw [show (999 : Int32) = nI 999 from rfl, nI_leI (by omega) (by omega)]; omega), dg_1 hs, zL_r, dg_2 hs, zL_r, dg_3 hs, zL_r, zB_s (isOne_n hn (by omega) b2)]
  by_cases c : s % 10 < n
  · rw [if_pos c, if_pos (show s / 100 < n by omega), if_neg (show ¬ (1 : Int32) = 0 by decide), zB_s (isOne_n hn (by omega) b2), if_pos (show s / 10 % 10 < n by omega), if_neg (show ¬ (1 : Int32) = 0 by decide), zB_s (isOne_n hn (by omega) b2), if_pos c, if_neg (show ¬ (1 : Int32) = 0 by decide), if_neg (nI_ne (by omega) (by omega) (by omega)), if_neg (nI_ne (by omega) (by omega) (by omega)), if_neg (nI_ne (by omega) (by omega) (by omega))]
  · rw [if_neg c]
    by_cases ca : s / 100 < n
    · rw [if_pos ca, if_neg (show ¬ (1 : Int32) = 0 by decide), zB_s (isOne_n hn (by omega) b2)]
      by_cases cb : s / 10 % 10 < n
      · rw [if_pos cb, if_neg (show ¬ (1 : Int32) = 0 by decide), zB_s (isOne_n hn (by omega) b2), if_neg c, if_pos rfl]
      · rw [if_neg cb, if_pos rfl]
    · rw [if_neg ca, if_pos rfl]
theorem best40 {n m : Nat} (hn : n ≤ 4) (hm : m ≤ 30) (h1 : 1 ≤ m) {MM : zM} (oM : okM MM) (hN : vN (vM MM) = n) {gv : Nat → Nat} (hg : ∀ s, gMn gTn 9999 (gOk (mN (vM MM) (s / 100)) (mN (vM MM) (s / 10 % 10)) (mN (vM MM) (s % 10)) m 0) (gv s)) (x2 : Int32) : ∀ (d s N : Nat) (u : Int32 × Nat) (M : zM), s + d = 1000 → d < N → bI u → gG MM M → ∃ M', fX6_best_L40 N (nI m) x2 u.1 (nI u.2) (nI s) M = some ((if x2 = (0 : Int32) then ((bR n d s).foldl (bF gv) u).1 else bT ((bR n d s).foldl (bF gv) u)), M') ∧ gG MM M' := by
  intro d
  induction d with
  | zero =>
    intro s N u M hs hN1 hu hk
    obtain ⟨N, rfl⟩ : ∃ q, N = q + 1 := ⟨N - 1, by omega⟩
    have : s = 1000 := by omega
    subst this
    refine ⟨M, ?_, hk⟩
    show fX6_best_B40 _ _ _ _ _ _ M = _
    unfold fX6_best_B40
    rw [if_pos (by decide)]
    by_cases c : x2 = (0 : Int32)
    · rw [if_pos c, if_pos c]; rfl
    · rw [if_neg c, if_neg c]
      show _ = some (bT u, M)
      unfold bT
      rcases hu with ⟨u1, u2⟩ | ⟨u1, u2⟩
      · rw [if_pos u1, if_neg (by omega)]
      · rw [if_neg u1, if_pos u2]
  | succ d ih =>
    intro s N u M hs hN1 hu hk
    obtain ⟨N, rfl⟩ : ∃ q, N = q + 1 := ⟨N - 1, by omega⟩
    have hs1 : s < 1000 := by omega
    obtain ⟨v1, o1⟩ := gG_view hk oM
    have b2 : M.1 0 2 = nI n := by
      have := (okM_n o1).2
      rw [v1, hN] at this
      exact this
    have er : bR n (d + 1) s = if s / 100 < s / 10 % 10 ∧ s / 10 % 10 < s % 10 ∧ s % 10 < n then s :: bR n d (s + 1) else bR n d (s + 1) := rfl
    have hU : fX6_best_L40 (N + 1) (nI m) x2 u.1 (nI u.2) (nI s) M = fX6_best_B40 (fX6_best_L40 N) (nI m) x2 u.1 (nI u.2) (nI s) M := rfl
    rw [hU]
    unfold fX6_best_B40
    rw [if_neg (by rw [show (1000 : Int32) = nI 1000 from rfl, nI_leI (by omega) (by omega)]; omega), dg_1 hs1, dg_2 hs1, dg_3 hs1]
    by_cases c1 : s / 100 < s / 10 % 10
    rotate_left
    · rw [if_pos ((nI_leI (by omega) (by omega)).mpr (by omega)), er.trans (if_neg (fun q => c1 q.1)), zL_r, nI_1]
      exact ih (s + 1) N u M (by omega) (by omega) hu hk
    rw [if_neg (show ¬ nI (s / 10 % 10) ≤ nI (s / 100) by rw [nI_leI (by omega) (by omega)]; omega)]
    by_cases c2 : s / 10 % 10 < s % 10
    rotate_left
    · rw [if_pos ((nI_leI (by omega) (by omega)).mpr (by omega)), er.trans (if_neg (fun q => c2 q.2.1)), zL_r, nI_1]
      exact ih (s + 1) N u M (by omega) (by omega) hu hk
    rw [if_neg (show ¬ nI (s % 10) ≤ nI (s / 10 % 10) by rw [nI_leI (by omega) (by omega)]; omega), zB_s (are_e (by omega) hs1 c1 c2 b2)]
    by_cases c3 : s % 10 < n
    rotate_left
    · rw [if_neg c3, if_pos rfl, er.trans (if_neg (fun q => c3 q.2.2)), zL_r, nI_1]
      exact ih (s + 1) N u M (by omega) (by omega) hu hk
    have es : s / 100 * 100 + s / 10 % 10 * 10 + s % 10 = s := by omega
    obtain ⟨M1, p1, p2, p3⟩ := pours_e o1 (a := s / 100) (b := s / 10 % 10) (c := s % 10) (by rw [v1, hN]; omega) (by rw [v1, hN]; omega) (by rw [v1, hN]; exact c3)
    rw [es] at p1
    rw [v1] at p2
    obtain ⟨M2, q1, q2, q3⟩ := counts_e (mN_e (vM MM) (s / 100)).2 (mN_e (vM MM) (s / 10 % 10)).2 (mN_e (vM MM) (s % 10)).2 hm p2
    obtain ⟨v, w1, w2⟩ := q3 0 0 (by omega) ⟨by omega, by omega, by omega, by omega⟩ (Nat.le_refl _)
    have hgs := hg s
    have ev : v = gv s := gMn_uniq w2 hgs
    have lg := (gMn_lt hgs (fun p hp => gOk_tn hp hm)).2
    have w1' : M2.1 16 (0 : Int32).toNatClampNeg = nI (gv s) := by rw [← ev]; exact w1
    have hk2 : gG MM M2 := gG_trans (gG_trans hk p3) (gG_F q2)
    have lu : u.2 ≤ 9999 := by rcases hu with h | h <;> omega
    have ef : (s :: bR n d (s + 1)).foldl (bF gv) u = (bR n d (s + 1)).foldl (bF gv) (bF gv u s) := rfl
    rw [if_pos c3, if_neg (show ¬ (1 : Int32) = 0 by decide), er.trans (if_pos ⟨c1, c2, c3⟩), ef, zV_s p1, zV_s q1, w1']
    by_cases c4 : gv s < u.2
    · have e2 : bF gv u s = (nI s, gv s) := by unfold bF; rw [if_pos c4]
      rw [if_pos ((nI_ltI (by omega) (by omega)).mpr c4), zL_r, zL_r, nI_1]
      have q := ih (s + 1) N (bF gv u s) M2 (by omega) (by omega) (bI_F hu hs1) hk2
      rw [e2] at q ⊢
      exact q
    · have e2 : bF gv u s = u := by unfold bF; rw [if_neg c4]
      rw [if_neg (fun q => c4 ((nI_ltI (by omega) (by omega)).mp q)), zL_r, nI_1, e2]
      exact ih (s + 1) N u M2 (by omega) (by omega) hu hk2
theorem st_best (MX MM : zM) (hR : RelT zTab MX MM) (a1 a2 : Int32) : ∃ (r : Int32) (MX' MM' : zM), fX5_best a1 a2 MX = some (r, MX') ∧ fX6_best a1 a2 MM = some (r, MM') ∧ RelT zTab MX' MM' := by
  obtain ⟨hT, t, hP, hTx, hA, hSh, hI⟩ := id hR
  obtain ⟨n, r, hn, hr, a7, b2, a10, b7, oX, oM, oV, hv, n2, n1⟩ := rP_view hP hTx
  unfold fX5_best fX6_best
  rcases minute_e a1 MX MM with ⟨m, m1, m30, rfl, h1, h2⟩ | ⟨h1, h2⟩
  rotate_left
  · rw [zB_s h1, zB_s h2, if_pos rfl, if_pos rfl]; exact ⟨_, MX, MM, rfl, rfl, hR⟩
  rw [zB_s h1, zB_s h2, if_neg (show ¬ (1 : Int32) = 0 by decide), if_neg (show ¬ (1 : Int32) = 0 by decide), zB_s (win5 _ _ _ _), zB_s (win6 _ _ _ _)]
  rcases zWin_c a2 0 1 with ⟨z3, -⟩ | ⟨z3, k5, k6⟩
  · rw [if_pos z3, if_pos z3]; exact ⟨-2, MX, MM, rfl, rfl, hR⟩
  rw [if_neg (show ¬ zWin a2 0 1 = 0 by rw [z3]; decide), if_neg (show ¬ zWin a2 0 1 = 0 by rw [z3]; decide), a7, b2]
  by_cases c4 : nI n ≤ (4 : Int32)
  rotate_left
  · rw [if_neg c4, if_neg c4]; exact ⟨-3, MX, MM, rfl, rfl, hR⟩
  have hn4 : n ≤ 4 := (nI_leI (by omega) (show 4 < 2 ^ 31 by decide)).mp c4
  obtain ⟨gv, hg⟩ : ∃ gv : Nat → Nat, ∀ s, gMn gTn 9999 (gOk (mN (vM MM) (s / 100)) (mN (vM MM) (s / 10 % 10)) (mN (vM MM) (s % 10)) m 0) (gv s) := ⟨fun s => Classical.choose (gMn_ex gTn 9999 (gOk (mN (vM MM) (s / 100)) (mN (vM MM) (s / 10 % 10)) (mN (vM MM) (s % 10)) m 0)), fun s => Classical.choose_spec (gMn_ex gTn 9999 (gOk (mN (vM MM) (s / 100)) (mN (vM MM) (s / 10 % 10)) (mN (vM MM) (s % 10)) m 0))⟩
  obtain ⟨X', x1, x2, x3⟩ := best41 hn4 m30 a7 oX n1 (gv := gv) (by rw [hv]; exact hg) a2 n 0 zF ((-1 : Int32), 9999) MX (by omega) (by unfold zF; omega) (Or.inl ⟨rfl, rfl⟩) ⟨gX_refl _, hT⟩
  obtain ⟨M', y1, y2⟩ := best40 hn4 m30 m1 oM n2 hg a2 1000 0 zF ((-1 : Int32), 9999) MM (by omega) (by unfold zF; omega) (Or.inl ⟨rfl, rfl⟩) (gG_refl _)
  have x1' : fX5_best_L41 zF (nI m) a2 (-1 : Int32) (-1 : Int32) (0 : Int32) MX = _ := x1
  have y1' : fX6_best_L40 zF (nI m) a2 (-1 : Int32) (9999 : Int32) (0 : Int32) MM = _ := y1
  rw [if_pos c4, if_pos c4, x1', y1', bL_R n (by omega)]
  exact ⟨_, X', M', rfl, rfl, RelT_M (RelT_gX hR x2.1 x2.2) (gG_eM y2)⟩

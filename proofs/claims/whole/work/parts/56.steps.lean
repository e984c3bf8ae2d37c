/-! in thought: n DAYS on both sides -/
/-- the reference thinks of V, M0 kept -/
def mTh (M0 M : zM) (V : zVw) : Prop := zTh M0 M ∧ zKp M0 M ∧ vM M = V ∧ okM M ∧ okV V
theorem mTh_keep {M0 M : zM} (hM : okM M0) (hV : okV (vM M0)) (h : zBk M0 M) (hk : zKp M0 M) : mTh M0 M (vM M0) := by
  obtain ⟨e, o⟩ := vM_bk hM h
  exact ⟨h.1, hk, e, o, hV⟩
theorem mTh_SN {M0 M M' : zM} {V : zVw} (h : mTh M0 M V) (hO : zO SN M M') : mTh M0 M' V := by
  obtain ⟨h1, h2, h3, h4, h5⟩ := h
  obtain ⟨g1, g2⟩ := zTh_SM h1 (SNM hO)
  exact ⟨g1, g2 h2, by rw [vM_congr (SNM hO)]; exact h3, okM_congr (SNM hO) h4, h5⟩
theorem mTh_goes {M0 M : zM} {V : zVw} (h : mTh M0 M V) : ∃ M', fX6_goes M = some M' ∧ mTh M0 M' (sDay V) := by
  obtain ⟨h1, h2, h3, h4, h5⟩ := h
  obtain ⟨M', m1, m2, m3, m4, m5⟩ := fX6_goes_e h4 (by rw [h3]; exact h5)
  obtain ⟨g1, g2⟩ := zTh_goes h1 m4 m5
  exact ⟨M', m1, g1, g2 h2, by rw [m2, h3], m3, sDay_ok h5⟩
theorem mTh_minutes {M0 M : zM} {V : zVw} (h : mTh M0 M V) {i : Nat} (hi : i < vN V) : ∃ M', fX6_minutes (nI i) M = some (sMin V i, M') ∧ mTh M0 M' V := by
  have hv := h.2.2.1
  obtain ⟨M', m1, m2⟩ := fX6_minutes_e h.2.2.2.1 (i := i) (by rw [hv]; exact hi)
  rw [hv] at m1
  exact ⟨M', m1, mTh_SN h m2⟩
theorem mTh_back {M0 M : zM} {V : zVw} (h : mTh M0 M V) : ∃ M', fX6_restores M = some M' ∧ zBk M0 M' := fX6_restores_e h.1 h.2.1
theorem sDays_n (V : zVw) : ∀ n, vN (sDays V n) = vN V
  | 0 => rfl
  | n + 1 => sDays_n V n
theorem mrun_loop {M0 : zM} {V : zVw} (a1 : Int32) (m : Nat) (hm : m ≤ 40) (a3 : Int32) : ∀ (d i N : Nat) (M : zM), mTh M0 M (sDays V i) → i + d = m → d < N → ∃ (M' : zM), fX6_run_L37 N a1 (nI m) a3 (nI i) M = fX6_run_L37 (N - d) a1 (nI m) a3 (nI m) M' ∧ mTh M0 M' (sDays V m) := by
  intro d
  induction d with
  | zero =>
    intro i N M h hi hN
    have : i = m := by omega
    subst this
    exact ⟨M, rfl, h⟩
  | succ d ih =>
    intro i N M h hi hN
    obtain ⟨N, rfl⟩ : ∃ q, N = q + 1 := ⟨N - 1, by omega⟩
    obtain ⟨M1, g1, g2⟩ := mTh_goes h
    obtain ⟨M', q1, q2⟩ := ih (i + 1) N M1 g2 (by omega) (by omega)
    refine ⟨M', ?_, q2⟩
    rw [show N + 1 - (d + 1) = N - d by omega, ← q1]
    show fX6_run_B37 _ _ _ _ _ M = _
    unfold fX6_run_B37
    rw [if_neg (by rw [nI_leI (by omega) (by omega)]; omega), zV_s g1, zL_r, nI_1]
theorem WS_X0 {M M' : zM} (h : zO (WS 17) M M') : zO SX0 M M' := zO_mono h (fun i hi => by
  simp only [WS, SC, List.mem_cons, List.not_mem_nil, or_false] at hi
  simp only [SX0, List.mem_cons, List.not_mem_nil, or_false]
  omega)
theorem W5_X0 {M M' : zM} (h : zO [17, 17 + 1, 17 + 2, 17 + 3, 17 + 4] M M') : zO SX0 M M' := zO_mono h (fun i hi => by
  simp only [List.mem_cons, List.not_mem_nil, or_false] at hi
  simp only [SX0, List.mem_cons, List.not_mem_nil, or_false]
  omega)
theorem st_run {T : zM → Prop} (hTab : tabOk T) (MX MM : zM) (hR : RelT T MX MM) (a1 a2 a3 : Int32) : ∃ (r : Int32) (MX' MM' : zM), fX5_run a1 a2 a3 MX = some (r, MX') ∧ fX6_run a1 a2 a3 MM = some (r, MM') ∧ RelT T MX' MM' := by
  obtain ⟨hT, t, hP, hTx, hA, hSh, hI⟩ := id hR
  obtain ⟨n, r, hn, hr, a7, b2, a10, b7, oX, oM, oV, hv, n2, n1⟩ := rP_view hP hTx
  unfold fX5_run fX6_run
  rcases one_e hn a7 b2 a1 with ⟨i, hi, rfl, h1, h2⟩ | ⟨h1, h2⟩
  rotate_left
  · rw [zB_s h1, zB_s h2, if_pos rfl, if_pos rfl]; exact ⟨-2, MX, MM, rfl, rfl, hR⟩
  rw [zB_s h1, zB_s h2, if_neg (show ¬ (1 : Int32) = 0 by decide), if_neg (show ¬ (1 : Int32) = 0 by decide), zB_s (win5 _ _ _ _), zB_s (win6 _ _ _ _)]
  rcases zWin_c a2 0 40 with ⟨z1, -⟩ | ⟨z1, k1, k2⟩
  · rw [if_pos z1, if_pos z1]; exact ⟨-2, MX, MM, rfl, rfl, hR⟩
  rw [if_neg (show ¬ zWin a2 0 40 = 0 by rw [z1]; decide), if_neg (show ¬ zWin a2 0 40 = 0 by rw [z1]; decide), zB_s (win5 _ _ _ _), zB_s (win6 _ _ _ _)]
  rcases zWin_c a3 0 2 with ⟨z2, -⟩ | ⟨z2, k3, k4⟩
  · rw [if_pos z2, if_pos z2]; exact ⟨-2, MX, MM, rfl, rfl, hR⟩
  rw [if_neg (show ¬ zWin a3 0 2 = 0 by rw [z2]; decide), if_neg (show ¬ zWin a3 0 2 = 0 by rw [z2]; decide)]
  obtain ⟨m, -, hm, rfl⟩ := i32_in (a := 0) (b := 40) k1 k2 (by omega) (by omega)
  -- the class
  obtain ⟨X1, x1, x2, x3, x4, -⟩ := fX4_become_e (w := 17) (v := 10) (Or.inr (Or.inl rfl)) (Or.inl rfl) (by decide) oX
  obtain ⟨X2, y1, y2, y3, y4⟩ := fX4_passDays_e (w := 17) (m := m) (Or.inr (Or.inl rfl)) hm x3
  have hV2 : vX 17 X2 = sDays (vM MM) m := by rw [y2, x2, hv]
  have hX2 : zO SX0 MX X2 := zO_trans (W5_X0 x4) (WS_X0 y4)
  -- the reference
  obtain ⟨M1, m1, m2, m3⟩ := fX6_keeps_e MM
  have hth := mTh_keep oM oV m2 m3
  obtain ⟨M2, g1, g2⟩ := mrun_loop (V := vM MM) (nI i) m hm a3 m 0 zF M1 hth (by omega) (by unfold zF; omega)
  have g1' : fX6_run_L37 zF (nI i) (nI m) a3 (0 : Int32) M1 = fX6_run_L37 (zF - m) (nI i) (nI m) a3 (nI m) M2 := g1
  rw [zV_s x1, zV_s y1, zV_s m1, g1']
  obtain ⟨N, hN⟩ : ∃ N, zF - m = N + 1 := ⟨zF - m - 1, by unfold zF; omega⟩
  rw [hN]
  have hB : fX6_run_L37 (N + 1) (nI i) (nI m) a3 (nI m) M2 = fX6_run_B37 (fX6_run_L37 N) (nI i) (nI m) a3 (nI m) M2 := rfl
  rw [hB]
  unfold fX6_run_B37
  rw [if_pos (Int32.le_refl _)]
  have hin := zin_nI (show i < 5 by omega) (show 5 < 2 ^ 31 by decide)
  have hiV : i < vN (sDays (vM MM) m) := by rw [sDays_n, n2]; exact hi
  have fin : ∀ (v : Int32) (X' M' : zM), zO SX0 X2 X' → mTh MM M' (sDays (vM MM) m) → ∃ (r : Int32) (MX' MM' : zM), some (v, X') = some (r, MX') ∧ fX6_run_J83 v M' = some (r, MM') ∧ RelT T MX' MM' := by
    intro v X' M' hX' hM'
    obtain ⟨M3, b1, b2⟩ := mTh_back hM'
    refine ⟨v, X', M3, rfl, ?_, RelT_both hTab hR (zO_trans hX2 hX') (eM_bk b2)⟩
    unfold fX6_run_J83
    rw [zV_s b1]
  by_cases c0 : a3 = 0
  · rw [if_pos c0, if_pos c0, zG_t hin, zG_t hin, nIc (by omega)]
    have ex : X2.1 20 i = vRue (sDays (vM MM) m) i := by
      rw [← hV2]
      exact ((vX_at (w := 17) (M := X2) (i := i) (by rw [hV2]; exact hiV)).2.2.1).symm
    have em : M2.1 3 i = vRue (sDays (vM MM) m) i := by
      rw [← g2.2.2.1]
      exact ((vM_at (M := M2) (i := i) (by rw [g2.2.2.1]; exact hiV)).2.2.1).symm
    rw [ex, em]
    exact fin _ _ _ (zO_refl _ _) g2
  rw [if_neg c0, if_neg c0]
  by_cases c1 : a3 = 1
  · rw [if_pos c1, if_pos c1]
    obtain ⟨X3, w1, w2⟩ := fX4_minutesOf_e (w := 17) (Or.inr (Or.inl rfl)) y3 (i := i) (by rw [hV2]; exact hiV)
    obtain ⟨M3, v1, v2⟩ := mTh_minutes g2 hiV
    rw [hV2] at w1
    rw [zB_s w1, zB_s v1]
    exact fin _ _ _ (SB_X0 w2) v2
  · rw [if_neg c1, if_neg c1, zB_s (fX4_rueOfAll_e y3), zB_s (fX6_allRue_e g2.2.2.2.1), hV2, g2.2.2.1]
    exact fin _ _ _ (zO_refl _ _) g2
theorem st_all {T : zM → Prop} (hTab : tabOk T) (MX MM : zM) (hR : RelT T MX MM) (a1 : Int32) : ∃ (r : Int32) (MX' MM' : zM), fX5_all a1 MX = some (r, MX') ∧ fX6_all a1 MM = some (r, MM') ∧ RelT T MX' MM' := by
  obtain ⟨hT, t, hP, hTx, hA, hSh, hI⟩ := id hR
  obtain ⟨n, r, hn, hr, a7, b2, a10, b7, oX, oM, oV, hv, n2, n1⟩ := rP_view hP hTx
  obtain ⟨X1, x1, x2⟩ := fX4_longest_e (Or.inl rfl) oX
  obtain ⟨M1, m1, m2⟩ := fX6_longest_e oM
  rw [hv] at x1
  have oX1 := okX_congr (Or.inl rfl) (SBC x2) oX
  have hv1 : vX 10 X1 = vM MM := by rw [vX_congr (Or.inl rfl) (SBC x2), hv]
  have oM1 := okM_congr (SNM m2) oM
  have hm1 : vM M1 = vM MM := vM_congr (SNM m2)
  unfold fX5_all fX6_all
  rw [zB_s m1]
  by_cases c0 : a1 = 0
  · rw [if_pos c0, if_pos c0, zB_s x1]
    exact ⟨_, X1, M1, rfl, rfl, RelT_both hTab hR (SB_X0 x2) (eM_SN m2)⟩
  rw [if_neg c0, if_neg c0]
  by_cases c1 : a1 = 1
  · rw [if_pos c1, if_pos c1, zB_s x1]
    by_cases cn : (sLon (vM MM) (vN (vM MM))).1 = -1
    · rw [if_pos cn, if_pos cn]
      exact ⟨0, X1, M1, rfl, rfl, RelT_both hTab hR (SB_X0 x2) (eM_SN m2)⟩
    · rw [if_neg cn, if_neg cn]
      obtain ⟨X2, y1, y2⟩ := fX4_longest_e (Or.inl rfl) oX1
      rw [hv1] at y1
      rw [zB_s y1]
      rcases sLon_1 (vM MM) (vN (vM MM)) with ⟨h1, -, -⟩ | ⟨⟨j, hj, h1⟩, -⟩
      · exact absurd h1 cn
      · rw [h1]
        obtain ⟨X3, w1, w2⟩ := fX4_minutesOf_e (Or.inl rfl) (okX_congr (Or.inl rfl) (SBC y2) oX1) (i := j) (by rw [vX_congr (Or.inl rfl) (SBC y2), hv1]; exact hj)
        rw [vX_congr (Or.inl rfl) (SBC y2), hv1] at w1
        obtain ⟨M2, v1, v2⟩ := fX6_minutes_e oM1 (i := j) (by rw [hm1]; exact hj)
        rw [hm1] at v1
        rw [zB_s w1, zB_s v1]
        exact ⟨_, X3, M2, rfl, rfl, RelT_both hTab hR (SB_X0 (zO_trans x2 (zO_trans y2 w2))) (eM_SN (zO_trans m2 v2))⟩
  rw [if_neg c1, if_neg c1]
  by_cases c2 : a1 = 2
  · rw [if_pos c2, if_pos c2]
    obtain ⟨X2, y1, y2⟩ := fX4_whoClog_e (Or.inl rfl) oX
    obtain ⟨M2, v1, v2⟩ := fX6_clogged_e oM1
    rw [hv] at y1
    rw [hm1] at v1
    rw [zB_s y1, zB_s v1]
    exact ⟨_, X2, M2, rfl, rfl, RelT_both hTab hR (SB_X0 y2) (eM_SN (zO_trans m2 v2))⟩
  rw [if_neg c2, if_neg c2]
  by_cases c3 : a1 = 3
  · rw [if_pos c3, if_pos c3]
    have a7' : MX.1 10 7 = nI n := a7
    have hmm : M1.1 0 2 = nI n := by rw [m2.2 0 (by decide)]; exact b2
    rw [zB_s (fX4_mostRue_e hn a7'), zB_s (fX6_mostRue_e hn hmm)]
    have e1 : sMx (MX.1 (10 + 3)) n = sMx (vRue (vX 10 MX)) n := sMx_congr (fun j hj => ((vX_at (w := 10) (M := MX) (i := j) (by rw [n1]; exact hj)).2.2.1).symm)
    have e2 : sMx (M1.1 3) n = sMx (vRue (vM MM)) n := sMx_congr (fun j hj => by rw [m2.2 3 (by decide)]; exact ((vM_at (M := MM) (i := j) (by rw [n2]; exact hj)).2.2.1).symm)
    rw [e1, e2, hv]
    exact ⟨_, MX, M1, rfl, rfl, RelT_M hR (eM_SN m2)⟩
  rw [if_neg c3, if_neg c3]
  exact ⟨-2, MX, M1, rfl, rfl, RelT_M hR (eM_SN m2)⟩
theorem st_count {T : zM → Prop} (MX MM : zM) (hR : RelT T MX MM) (a1 : Int32) : ∃ (r : Int32) (MX' MM' : zM), fX5_count a1 MX = some (r, MX') ∧ fX6_count a1 MM = some (r, MM') ∧ RelT T MX' MM' := by
  obtain ⟨hT, t, hP, hTx, hA, hSh, hI⟩ := id hR
  obtain ⟨n, r, hn, hr, a7, b2, a10, b7, oX, oM, oV, hv, n2, n1⟩ := rP_view hP hTx
  obtain ⟨-, -, -, -, -, -, e8, -⟩ := hP
  obtain ⟨-, -, c7, c10, -⟩ := hTx
  obtain ⟨z, -, x3, m8, -⟩ := hA
  unfold fX5_count fX6_count
  rw [a7, b2, e8, c7, c10, x3, m8, a10, b7, fX4_rueOfAll_e oX, fX6_allRue_e oM, hv]
  by_cases c0 : a1 = 0
  · rw [if_pos c0, if_pos c0]; exact ⟨_, MX, MM, rfl, rfl, hR⟩
  rw [if_neg c0, if_neg c0]
  by_cases c1 : a1 = 1
  · rw [if_pos c1, if_pos c1]; exact ⟨_, MX, MM, rfl, rfl, hR⟩
  rw [if_neg c1, if_neg c1]
  by_cases c2 : a1 = 2
  · rw [if_pos c2, if_pos c2]; exact ⟨_, MX, MM, rfl, rfl, hR⟩
  rw [if_neg c2, if_neg c2]
  by_cases c3 : a1 = 3
  · rw [if_pos c3, if_pos c3]; exact ⟨_, MX, MM, rfl, rfl, hR⟩
  rw [if_neg c3, if_neg c3]
  by_cases c4 : a1 = 4
  · rw [if_pos c4, if_pos c4]; exact ⟨_, MX, MM, rfl, rfl, hR⟩
  rw [if_neg c4, if_neg c4]
  by_cases c5 : a1 = 5
  · rw [if_pos c5, if_pos c5]; exact ⟨_, MX, MM, rfl, rfl, hR⟩
  rw [if_neg c5, if_neg c5]; exact ⟨-2, MX, MM, rfl, rfl, hR⟩
theorem under_e (M M2 : zM) (x1 : Int32) (y : Option (Int32 × zM)) (n : Int32) (hy : (zG (zin x1 5) (some (M2.1 2 x1.toNatClampNeg, M2))) = some (n, M2)) : ∀ q k : Nat, q ≤ 5 → k ≤ 5 → ∃ b : Int32, fX5_isUnder (nI q) (nI k) M = some (b, M) ∧ (b = 0 ∨ b = 1) ∧ fX6_taken_L30 zF x1 (nI k) (nI q) M2 = some (if b = 0 then -13 else n, M2) := by
  intro q k hq hk
  obtain ⟨N, eN⟩ : ∃ N, zF = N + 10 := ⟨99990, rfl⟩
  unfold fX5_isUnder
  rw [eN]
  rcases (show q = 0 ∨ q = 1 ∨ q = 2 ∨ q = 3 ∨ q = 4 ∨ q = 5 by omega) with rfl | rfl | rfl | rfl | rfl | rfl <;> rcases (show k = 0 ∨ k = 1 ∨ k = 2 ∨ k = 3 ∨ k = 4 ∨ k = 5 by omega) with rfl | rfl | rfl | rfl | rfl | rfl <;> first | exact ⟨0, rfl, Or.inl rfl, rfl⟩ | exact ⟨1, rfl, Or.inr rfl, hy⟩
theorem st_taken {T : zM → Prop} (MX MM : zM) (hR : RelT T MX MM) (a1 a2 : Int32) : ∃ (r : Int32) (MX' MM' : zM), fX5_taken a1 a2 MX = some (r, MX') ∧ fX6_taken a1 a2 MM = some (r, MM') ∧ RelT T MX' MM' := by
  obtain ⟨hT, t, hP, hTx, hA, hSh, hI⟩ := id hR
  obtain ⟨n, r, hn, hr, a7, b2, e8, e9, a10, b7, hd, hp⟩ := id hP
  unfold fX5_taken fX6_taken
  rw [zB_s (win5 _ _ _ _), zB_s (win6 _ _ _ _)]
  rcases zWin_c a2 0 5 with ⟨z1, -⟩ | ⟨z1, k1, k2⟩
  · rw [if_pos z1, if_pos z1]; exact ⟨-2, MX, MM, rfl, rfl, hR⟩
  rw [if_neg (show ¬ zWin a2 0 5 = 0 by rw [z1]; decide), if_neg (show ¬ zWin a2 0 5 = 0 by rw [z1]; decide)]
  rcases one_e hn a7 b2 a1 with ⟨i, hi, rfl, h1, h2⟩ | ⟨h1, h2⟩
  rotate_left
  · rw [zB_s h1, zB_s h2, if_pos rfl, if_pos rfl]; exact ⟨-11, MX, MM, rfl, rfl, hR⟩
  have hin := zin_nI (show i < 5 by omega) (show 5 < 2 ^ 31 by decide)
  obtain ⟨p1, p2, p3, p4⟩ := hp i hi
  rw [zB_s h1, zB_s h2, if_neg (show ¬ (1 : Int32) = 0 by decide), if_neg (show ¬ (1 : Int32) = 0 by decide), zG_t hin, zG_t hin, zL_r, nIc (by omega), p1.1]
  obtain ⟨q, -, hq, eq⟩ := i32_in (a := 0) (b := 5) p1.2.1 p1.2.2 (by omega) (by omega)
  obtain ⟨k, -, hk, rfl⟩ := i32_in (a := 0) (b := 5) k1 k2 (by omega) (by omega)
  rw [eq]
  obtain ⟨b, u1, u2, u3⟩ := under_e MX MM (nI i) none (MM.1 2 i) (by rw [zG_t hin, nIc (by omega)]) q k hq hk
  rw [zB_s u1, u3, zG_t hin, p2.1]
  rcases u2 with rfl | rfl
  · rw [if_pos rfl, if_pos rfl]; exact ⟨-13, MX, MM, rfl, rfl, hR⟩
  · rw [if_neg (show ¬ (1 : Int32) = 0 by decide), if_neg (show ¬ (1 : Int32) = 0 by decide)]; exact ⟨_, MX, MM, rfl, rfl, hR⟩

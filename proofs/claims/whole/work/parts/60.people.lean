/-! the host: people -/
theorem fa_wide_lt' {a b : Int32} : a.toInt64 < b.toInt64 ↔ a < b := by
  rw [Int64.lt_iff_toInt_lt, Int32.lt_iff_toInt_lt, Int32.toInt_toInt64, Int32.toInt_toInt64]
theorem at_e {q z w : Nat} {M : zM} (hz : z ≤ 40) (e : M.1 q 2 = nI z) (hw : w < z) : fX0_at q (nI w) M = some (M.1 (q + 1) w, M) := by
  unfold fX0_at
  rw [if_neg (nI_pos (by omega)), e, if_neg (by rw [nI_leI (by omega) (by omega)]; omega), zG_t (zin_nI (by omega) (by decide)), nIc (by omega)]
theorem people_loop {T : zM → Prop} (hTab : tabOk T) {s f n : Nat} (hs : s < 4) (hf : f ≤ 40) (hn : n ≤ 5) : ∀ (d k N : Nat) (c : Int32) (MX MM : zM), RelT T MX MM → k + d = n → d < N → ∃ (r : Int32) (MX' MM' : zM), fX5_people_L69 N (nI f) (nI n) (56 + 2 * s) c (nI k) MX = some (r, MX') ∧ fX6_people_L60 N (nI s) (nI f) (nI n) c (nI k) MM = some (r, MM') ∧ RelT T MX' MM' := by
  intro d
  induction d with
  | zero =>
    intro k N c MX MM hR hk hN
    obtain ⟨N, rfl⟩ : ∃ q, N = q + 1 := ⟨N - 1, by omega⟩
    have : k = n := by omega
    subst this
    refine ⟨c, MX, MM, ?_, ?_, hR⟩
    · show fX5_people_B69 _ _ _ _ _ _ MX = _
      unfold fX5_people_B69
      rw [if_pos (Int32.le_refl _)]
    · show fX6_people_B60 _ _ _ _ _ _ MM = _
      unfold fX6_people_B60
      rw [if_pos (Int32.le_refl _)]
  | succ d ih =>
    intro k N c MX MM hR hk hN
    obtain ⟨N, rfl⟩ : ∃ q, N = q + 1 := ⟨N - 1, by omega⟩
    obtain ⟨-, -, -, -, -, hSh, -⟩ := id hR
    obtain ⟨-, ⟨z, hz, e1, e2⟩, dd⟩ := hSh s hs
    have hat : nI f + (3 : Int32) * nI k = nI (f + 3 * k) := by rw [show (3 : Int32) = nI 3 from rfl, pk_mul, nI_add]
    have hl : (nI f).toInt64 + (3 : Int64) * (nI k).toInt64 = lN (f + 3 * k) := by rw [nI_l (by omega), nI_l (by omega), show (3 : Int64) = lN 3 from rfl, lN_mul, lN_add]
    have hl2 : lN (f + 3 * k) + (2 : Int64) = lN (f + 3 * k + 2) := by rw [show (2 : Int64) = lN 2 from rfl, lN_add]
    have hin := zin_nI hs (show 4 < 2 ^ 31 by decide)
    have hX : fX5_people_L69 (N + 1) (nI f) (nI n) (56 + 2 * s) c (nI k) MX = fX5_people_B69 (fX5_people_L69 N) (nI f) (nI n) (56 + 2 * s) c (nI k) MX := rfl
    have hM : fX6_people_L60 (N + 1) (nI s) (nI f) (nI n) c (nI k) MM = fX6_people_B60 (fX6_people_L60 N) (nI s) (nI f) (nI n) c (nI k) MM := rfl
    rw [hX, hM]
    unfold fX5_people_B69 fX6_people_B60
    rw [if_neg (by rw [nI_leI (by omega) (by omega)]; omega), if_neg (by rw [nI_leI (by omega) (by omega)]; omega), hat, zL_r, hl, zL_r, if_neg (by
      unfold zcmp
      rw [lg_cmp_lt, show (0 : Int64) = lN 0 from rfl, pk_lLT (by omega) (by omega)]
      omega), zG_t hin, nIc (by omega), e2, nI_l (by omega), hl2]
    have hc : (zcmp (lN (f + 3 * k + 2)) (lN z) < 0) ↔ f + 3 * k + 3 ≤ z := by
      unfold zcmp
      rw [lg_cmp_lt, pk_lLT (by omega) (by omega)]
      omega
    rcases holds_e hz e1 (nI (f + 3 * k)) 3 with ⟨i, m, him, ei, em, h1⟩ | ⟨h1, h1n⟩
    · have hi : f + 3 * k = i := (nI_eq (by omega) (by omega)).mp ei
      have hm : 3 = m := (nI_eq (by omega) (by omega)).mp em
      have hz3 : f + 3 * k + 3 ≤ z := by omega
      rw [zB_s h1, if_neg (show ¬ (1 : Int32) = 0 by decide), zB_s (at_e hz e1 (by omega)), nI_1, zB_s (at_e hz e1 (by omega)), show nI (f + 3 * k) + (2 : Int32) = nI (f + 3 * k + 2) by rw [show (2 : Int32) = nI 2 from rfl, nI_add], zB_s (at_e hz e1 (by omega)), if_pos (hc.mpr hz3), lN_i, cl_ix, zL_r]
      simp only [nI_1, show nI (40 * s + (f + 3 * k)) + (2 : Int32) = nI (40 * s + (f + 3 * k) + 2) by rw [show (2 : Int32) = nI 2 from rfl, nI_add]]
      rw [zG_t (zin_nI (by omega) (by decide)), zG_t (zin_nI (by omega) (by decide)), zG_t (zin_nI (by omega) (by decide)), nIc (by omega), nIc (by omega), nIc (by omega)]
      have c0 : MX.1 (56 + 2 * s + 1) (f + 3 * k) = MM.1 22 (40 * s + (f + 3 * k)) := by rw [show 56 + 2 * s + 1 = 57 + 2 * s by omega]; exact dd _ (by omega)
      have c1 : MX.1 (56 + 2 * s + 1) (f + 3 * k + 1) = MM.1 22 (40 * s + (f + 3 * k) + 1) := by rw [show 56 + 2 * s + 1 = 57 + 2 * s by omega]; exact dd _ (by omega)
      have c2 : MX.1 (56 + 2 * s + 1) (f + 3 * k + 2) = MM.1 22 (40 * s + (f + 3 * k) + 2) := by rw [show 56 + 2 * s + 1 = 57 + 2 * s by omega]; exact dd _ (by omega)
      rw [c0, c1, c2]
      obtain ⟨r, X1, M1, x1, m1, hR1⟩ := st_person hTab MX MM hR (MM.1 22 (40 * s + (f + 3 * k))) (MM.1 22 (40 * s + (f + 3 * k) + 1)) (MM.1 22 (40 * s + (f + 3 * k) + 2))
      rw [zB_s x1, zB_s m1]
      by_cases cr : r < 0
      · rw [if_pos cr, if_pos cr, zL_r]
        exact ih (k + 1) N c X1 M1 hR1 (by omega) (by omega)
      · rw [if_neg cr, if_neg cr, zL_r]
        exact ih (k + 1) N (c + 1) X1 M1 hR1 (by omega) (by omega)
    · rw [zB_s h1, if_pos rfl, if_neg (fun q => h1n ⟨f + 3 * k, 3, hc.mp q, rfl, rfl⟩)]
      exact ⟨-12, MX, MM, rfl, rfl, hR⟩
theorem st_people {T : zM → Prop} (hTab : tabOk T) (MX MM : zM) (hR : RelT T MX MM) (a1 a2 a3 a4 : Int32) : ∃ (r : Int32) (MX' MM' : zM), fX5_people a1 a2 a3 a4 MX = some (r, MX') ∧ fX6_people a1 a2 a3 a4 MM = some (r, MM') ∧ RelT T MX' MM' := by
  obtain ⟨hT, t, hP, hTx, hA, hSh, hI⟩ := id hR
  unfold fX5_people fX6_people
  rw [zB_s (win5 _ _ _ _), zB_s (isSheet_e _ _)]
  rcases zWin_c a1 0 3 with ⟨z1, -⟩ | ⟨z1, k1, k2⟩
  · rw [if_pos z1, if_pos z1]; exact ⟨-2, MX, MM, rfl, rfl, hR⟩
  obtain ⟨s, -, hs3, rfl⟩ := i32_in (a := 0) (b := 3) k1 k2 (by omega) (by omega)
  have hs : s < 4 := by omega
  have hin := zin_nI hs (show 4 < 2 ^ 31 by decide)
  rw [if_neg (show ¬ zWin (nI s) 0 3 = 0 by rw [z1]; decide), if_neg (show ¬ zWin (nI s) 0 3 = 0 by rw [z1]; decide), zB_s (win5 _ _ _ _), zB_s (win6 _ _ _ _)]
  rcases zWin_c a2 0 2 with ⟨z2, -⟩ | ⟨z2, k3, k4⟩
  · rw [if_pos z2, if_pos z2]; exact ⟨-2, MX, MM, rfl, rfl, hR⟩
  rw [if_neg (show ¬ zWin a2 0 2 = 0 by rw [z2]; decide), if_neg (show ¬ zWin a2 0 2 = 0 by rw [z2]; decide), zB_s (win5 _ _ _ _), zB_s (win6 _ _ _ _)]
  rcases zWin_c a4 0 5 with ⟨z3, -⟩ | ⟨z3, k5, k6⟩
  · rw [if_pos z3, if_pos z3]; exact ⟨-2, MX, MM, rfl, rfl, hR⟩
  obtain ⟨n, -, hn, rfl⟩ := i32_in (a := 0) (b := 5) k5 k6 (by omega) (by omega)
  obtain ⟨⟨a, b1, b2⟩, ⟨z, hz, e1, e2⟩, d⟩ := hSh s hs
  rw [if_neg (show ¬ zWin (nI n) 0 5 = 0 by rw [z3]; decide), if_neg (show ¬ zWin (nI n) 0 5 = 0 by rw [z3]; decide), zG_t hin, zG_t hin, zG_t hin, nIc (by omega), zL_r, a]
  by_cases c : MM.1 20 s = -1
  · rw [if_pos c, if_neg (by rw [c]; decide)]; exact ⟨-11, MX, MM, rfl, rfl, hR⟩
  rw [if_neg c, if_pos (Int32.not_lt.mp (fun q => c ((m1_neg b1).mp q)))]
  by_cases ce : MM.1 20 s = a2
  rotate_left
  · rw [if_neg ce, if_neg ce]; exact ⟨-13, MX, MM, rfl, rfl, hR⟩
  rw [if_pos ce, if_pos ce]
  by_cases hf : 0 ≤ a3 ∧ a3 ≤ 40
  · obtain ⟨f, -, hf4, rfl⟩ := i32_in (a := 0) (b := 40) hf.1 hf.2 (by omega) (by omega)
    exact people_loop hTab hs hf4 hn n 0 zF 0 MX MM hR (by omega) (by unfold zF; omega)
  · obtain ⟨N, eN⟩ : ∃ N, zF = N + 1 := ⟨99999, rfl⟩
    rw [eN]
    have hX : fX5_people_L69 (N + 1) a3 (nI n) (56 + 2 * s) 0 0 MX = fX5_people_B69 (fX5_people_L69 N) a3 (nI n) (56 + 2 * s) 0 0 MX := rfl
    have hM : fX6_people_L60 (N + 1) (nI s) a3 (nI n) 0 0 MM = fX6_people_B60 (fX6_people_L60 N) (nI s) a3 (nI n) 0 0 MM := rfl
    rw [hX, hM]
    unfold fX5_people_B69 fX6_people_B60
    by_cases hn0 : nI n ≤ 0
    · rw [if_pos hn0, if_pos hn0]; exact ⟨0, MX, MM, rfl, rfl, hR⟩
    rw [if_neg hn0, if_neg hn0, show a3 + (3 : Int32) * 0 = a3 by rw [Int32.mul_zero, Int32.add_zero], zL_r, show a3.toInt64 + (3 : Int64) * (0 : Int32).toInt64 = a3.toInt64 by rw [show (0 : Int32).toInt64 = 0 from rfl, Int64.mul_zero, Int64.add_zero], zL_r]
    have hX12 : fX0_holds (56 + 2 * s) a3 3 MX = some (0, MX) := by
      rcases holds_e hz e1 a3 3 with ⟨i, m, him, ei, em, h1⟩ | ⟨h1, -⟩
      · exact absurd ⟨by rw [ei]; exact nI_pos' (by omega), by rw [ei, show (40 : Int32) = nI 40 from rfl, nI_leI (by omega) (by omega)]; omega⟩ hf
      · exact h1
    rw [zB_s hX12, if_pos rfl]
    by_cases c0 : a3 < 0
    · rw [if_pos (by unfold zcmp; rw [lg_cmp_lt, show (0 : Int64) = (0 : Int32).toInt64 from rfl, fa_wide_lt']; exact c0)]
      exact ⟨-12, MX, MM, rfl, rfl, hR⟩
    · obtain ⟨w, hw, rfl⟩ := i32_ge0 (Int32.not_lt.mp c0)
      have hw40 : 40 < w := by
        rcases Nat.lt_or_ge 40 w with h | h
        · exact h
        · exact absurd ⟨nI_pos' hw, by rw [show (40 : Int32) = nI 40 from rfl, nI_leI (by omega) (by omega)]; exact h⟩ hf
      rw [nI_l hw, if_neg (by unfold zcmp; rw [lg_cmp_lt, show (0 : Int64) = lN 0 from rfl, pk_lLT (by omega) (by omega)]; omega), zG_t hin, nIc (by omega), e2, nI_l (by omega), show lN w + (2 : Int64) = lN (w + 2) by rw [show (2 : Int64) = lN 2 from rfl, lN_add], if_neg (by unfold zcmp; rw [lg_cmp_lt, pk_lLT (by omega) (by omega)]; omega)]
      exact ⟨-12, MX, MM, rfl, rfl, hR⟩

/-! runs, clogs, rues, minutes of the class's worlds -/
theorem SC_rows {w : Nat} (hw : isW w) {M M' : zM} (h : zO SC M M') : M'.1 w = M.1 w ∧ M'.1 (w + 1) = M.1 (w + 1) ∧ M'.1 (w + 2) = M.1 (w + 2) ∧ M'.1 (w + 3) = M.1 (w + 3) ∧ M'.1 (w + 4) = M.1 (w + 4) :=
  ⟨h.2 _ (SC_w hw 0 (by omega)), h.2 _ (SC_w hw 1 (by omega)), h.2 _ (SC_w hw 2 (by omega)), h.2 _ (SC_w hw 3 (by omega)), h.2 _ (SC_w hw 4 (by omega))⟩
theorem vX_at {w : Nat} {M : zM} {i : Nat} (hi : i < vN (vX w M)) : vKind (vX w M) i = M.1 (w + 1) i ∧ vNum (vX w M) i = M.1 (w + 2) i ∧ vRue (vX w M) i = M.1 (w + 3) i ∧ vHad (vX w M) i = M.1 (w + 4) i := ⟨zt_lt hi _, zt_lt hi _, zt_lt hi _, zt_lt hi _⟩
theorem okX_n {w : Nat} {M : zM} (h : okX w M) : vN (vX w M) ≤ 5 ∧ M.1 w 7 = nI (vN (vX w M)) := by
  obtain ⟨⟨n, hn, h7⟩, -⟩ := h
  have e : vN (vX w M) = n := by show (M.1 w 7).toNatClampNeg = n; rw [h7, nIc (by omega)]
  rw [e]
  exact ⟨hn, h7⟩
theorem fX4_runsOf_e {w : Nat} (hw : isW w) {M : zM} (hM : okX w M) {i : Nat} (hi : i < vN (vX w M)) : ∃ M', fX4_runsOf w (nI i) M = some (sRuns (vX w M) i, M') ∧ zO SB M M' := by
  obtain ⟨hn, -⟩ := okX_n hM
  obtain ⟨M1, g1, g2⟩ := fX4_ruleTells_e hw hM (p := 0) (by omega) hi
  obtain ⟨a0, a1, a2, a3, a4⟩ := SC_rows hw (SBC g2)
  obtain ⟨k1, k2, k3, k4⟩ := vX_at hi
  refine ⟨M1, ?_, g2⟩
  have J : ∀ v : Int32, fX4_runsOf_J123 w v M1 = some (sBd 0 9 v, M1) := fun v => rfl
  unfold fX4_runsOf
  have g1 : fX4_ruleTells w (0 : Int32) (nI i) M = some (sTl (vX w M) 0 i, M1) := g1
  rw [zB_s g1, zB_s (show fX5_bounded _ _ _ _ = some (sBd 0 99 (sTl (vX w M) 0 i), M1) from rfl)]
  simp only [zG_t (zin_nI (show i < 5 by omega) (by decide)), nIc (show i < 2 ^ 31 by omega), zL_r, J]
  rw [a1, a2, a4, a0, ← k1, ← k2, ← k4]
  unfold sRuns
  by_cases c1 : vKind (vX w M) i = 1
  · rw [if_pos c1, if_pos c1]
  rw [if_neg c1, if_neg c1]
  by_cases c2 : vKind (vX w M) i = 2
  · rw [if_pos c2, if_pos c2]
  rw [if_neg c2, if_neg c2]
  by_cases c3 : vKind (vX w M) i = 3
  · rw [if_pos c3, if_pos c3]
  rw [if_neg c3, if_neg c3]
  by_cases c4 : vKind (vX w M) i = 4
  · rw [if_pos c4, if_pos c4]
    by_cases c6 : zrm (vDay (vX w M)) 7 = vNum (vX w M) i
    · rw [if_pos c6]
      have c6' : zrm (M.1 w 8) 7 = vNum (vX w M) i := c6
      rw [if_pos c6']
    · rw [if_neg c6]
      have c6' : ¬ zrm (M.1 w 8) 7 = vNum (vX w M) i := c6
      rw [if_neg c6']
  rw [if_neg c4, if_neg c4]
  by_cases c5 : vKind (vX w M) i = 5
  · rw [if_pos c5, if_pos c5]
  rw [if_neg c5, if_neg c5]
theorem fX4_clogsOf_e {w : Nat} (hw : isW w) {M : zM} (hM : okX w M) {i : Nat} (hi : i < vN (vX w M)) : ∃ M', fX4_clogsOf w (nI i) M = some (sClg (vX w M) i, M') ∧ zO SB M M' := by
  obtain ⟨hn, -⟩ := okX_n hM
  obtain ⟨M1, g1, g2⟩ := fX4_ruleTells_e hw hM (p := 1) (by omega) hi
  obtain ⟨a0, a1, a2, a3, a4⟩ := SC_rows hw (SBC g2)
  obtain ⟨k1, k2, k3, k4⟩ := vX_at hi
  refine ⟨M1, ?_, g2⟩
  unfold fX4_clogsOf
  have g1 : fX4_ruleTells w (1 : Int32) (nI i) M = some (sTl (vX w M) 1 i, M1) := g1
  rw [zB_s g1]
  have kw : M.1 w 9 = vWet (vX w M) := rfl
  have J : ∀ v : Int32, fX4_clogsOf_J14 w (nI i) v M1 = (if vKind (vX w M) i = 1 then (if v = 0 then some (0, M1) else if vWet (vX w M) ≤ 3 then some (0, M1) else some (1, M1))
      else if vKind (vX w M) i = 2 then some (0, M1)
      else if vKind (vX w M) i = 3 then (if v = 0 then (if vHad (vX w M) i ≤ 50 then some (0, M1) else some (1, M1)) else if (3 : Int32) < vWet (vX w M) then some (1, M1) else (if vHad (vX w M) i ≤ 50 then some (0, M1) else some (1, M1)))
      else if vKind (vX w M) i = 4 then some (0, M1) else zG (zbo v) (some (v, M1))) := by
    intro v
    unfold fX4_clogsOf_J14
    simp only [zG_t (zin_nI (show i < 5 by omega) (by decide)), nIc (show i < 2 ^ 31 by omega)]
    rw [a1, a0, a4, ← k1, ← k4, kw]
  unfold sClg
  by_cases c0 : sTl (vX w M) 1 i = 0
  · rw [if_pos c0, J]
    by_cases c1 : vKind (vX w M) i = 1
    · rw [if_pos c1, if_pos c1, if_pos c0, if_pos rfl]
    rw [if_neg c1, if_neg c1]
    by_cases c2 : vKind (vX w M) i = 2
    · rw [if_pos c2, if_pos c2]
    rw [if_neg c2, if_neg c2]
    by_cases c3 : vKind (vX w M) i = 3
    · rw [if_pos c3, if_pos c3, if_pos c0, if_pos rfl]
      by_cases c5 : vHad (vX w M) i ≤ 50
      · rw [if_pos c5, if_pos c5]
      · rw [if_neg c5, if_neg c5]
    rw [if_neg c3, if_neg c3]
    by_cases c4 : vKind (vX w M) i = 4
    · rw [if_pos c4, if_pos c4]
    rw [if_neg c4, if_neg c4, if_pos c0]; rfl
  · rw [if_neg c0, J]
    by_cases c1 : vKind (vX w M) i = 1
    · rw [if_pos c1, if_pos c1, if_neg c0, if_neg (by decide)]
      by_cases c5 : vWet (vX w M) ≤ 3
      · rw [if_pos c5, if_pos c5]
      · rw [if_neg c5, if_neg c5]
    rw [if_neg c1, if_neg c1]
    by_cases c2 : vKind (vX w M) i = 2
    · rw [if_pos c2, if_pos c2]
    rw [if_neg c2, if_neg c2]
    by_cases c3 : vKind (vX w M) i = 3
    · rw [if_pos c3, if_pos c3, if_neg c0, if_neg (by decide)]
      by_cases c5 : vWet (vX w M) ≤ 3
      · rw [if_pos c5, if_neg (Int32.not_lt.mpr c5)]
        by_cases c6 : vHad (vX w M) i ≤ 50
        · rw [if_pos c6, if_pos c6]
        · rw [if_neg c6, if_neg c6]
      · rw [if_neg c5, if_pos (Int32.not_le.mp c5)]
    rw [if_neg c3, if_neg c3]
    by_cases c4 : vKind (vX w M) i = 4
    · rw [if_pos c4, if_pos c4]
    rw [if_neg c4, if_neg c4, if_neg c0]; rfl
theorem fX4_ruesOf_e {w : Nat} (hw : isW w) {M : zM} (hM : okX w M) {i : Nat} (hi : i < vN (vX w M)) : ∃ M', fX4_ruesOf w (nI i) M = some (sRues (vX w M) i, M') ∧ zO SB M M' := by
  obtain ⟨hn, -⟩ := okX_n hM
  obtain ⟨M1, g1, g2⟩ := fX4_ruleTells_e hw hM (p := 2) (by omega) hi
  obtain ⟨a0, a1, a2, a3, a4⟩ := SC_rows hw (SBC g2)
  obtain ⟨k1, k2, k3, k4⟩ := vX_at hi
  refine ⟨M1, ?_, g2⟩
  have J : ∀ v : Int32, fX4_ruesOf_J94 w v M1 = some (sBd 0 99 v, M1) := fun v => rfl
  unfold fX4_ruesOf
  have g1 : fX4_ruleTells w (2 : Int32) (nI i) M = some (sTl (vX w M) 2 i, M1) := g1
  rw [zB_s g1, zB_s (show fX5_bounded _ _ _ _ = some (sBd 0 99 (sTl (vX w M) 2 i), M1) from rfl)]
  simp only [zG_t (zin_nI (show i < 5 by omega) (by decide)), nIc (show i < 2 ^ 31 by omega), zL_r, J]
  rw [a1, a2, ← k1, ← k2]
  unfold sRues
  by_cases c1 : vKind (vX w M) i = 1
  · rw [if_pos c1, if_pos c1]
  rw [if_neg c1, if_neg c1]
  by_cases c2 : vKind (vX w M) i = 2
  · rw [if_pos c2, if_pos c2]
  rw [if_neg c2, if_neg c2]
  by_cases c3 : vKind (vX w M) i = 3
  · rw [if_pos c3, if_pos c3]
  rw [if_neg c3, if_neg c3]
  by_cases c4 : vKind (vX w M) i = 4
  · rw [if_pos c4, if_pos c4]
  rw [if_neg c4, if_neg c4]
  by_cases c5 : vKind (vX w M) i = 5
  · rw [if_pos c5, if_pos c5]
  rw [if_neg c5, if_neg c5]
theorem fX4_minutesOf_e {w : Nat} (hw : isW w) {M : zM} (hM : okX w M) {i : Nat} (hi : i < vN (vX w M)) : ∃ M', fX4_minutesOf w (nI i) M = some (sMin (vX w M) i, M') ∧ zO SB M M' := by
  obtain ⟨M1, g1, g2⟩ := fX4_clogsOf_e hw hM hi
  unfold fX4_minutesOf
  rw [zB_s g1]
  unfold sMin
  by_cases c : sClg (vX w M) i = 0
  · rw [if_pos c, if_pos c]
    have hv := vX_congr hw (SBC g2)
    obtain ⟨M2, h1, h2⟩ := fX4_runsOf_e hw (okX_congr hw (SBC g2) hM) (i := i) (by rw [hv]; exact hi)
    rw [zB_s h1, hv]
    exact ⟨M2, rfl, zO_trans g2 h2⟩
  · rw [if_neg c, if_neg c]
    exact ⟨M1, rfl, g2⟩

/-! the reference's world: what its methods answer -/
def SM : List Nat := [10, 11, 14]
def SN : List Nat := [10, 11]
theorem SNM {M M' : zM} (h : zO SN M M') : zO SM M M' := zO_mono h (fun i hi => by simp [SN] at hi; simp [SM]; omega)
theorem SM_rows {M M' : zM} (h : zO SM M M') : M'.1 0 = M.1 0 ∧ M'.1 1 = M.1 1 ∧ M'.1 2 = M.1 2 ∧ M'.1 3 = M.1 3 ∧ M'.1 4 = M.1 4 ∧ M'.1 6 = M.1 6 ∧ M'.1 7 = M.1 7 ∧ M'.1 8 = M.1 8 :=
  ⟨h.2 _ (by decide), h.2 _ (by decide), h.2 _ (by decide), h.2 _ (by decide), h.2 _ (by decide), h.2 _ (by decide), h.2 _ (by decide), h.2 _ (by decide)⟩
theorem cM_rows {M M' : zM} (h6 : M'.1 6 = M.1 6) (h7 : M'.1 7 = M.1 7) (h8 : M'.1 8 = M.1 8) (r p : Nat) : cM M' r p = cM M r p := by unfold cM; rw [h6, h7, h8]
theorem okTM_rows {M M' : zM} (h6 : M'.1 6 = M.1 6) (h7 : M'.1 7 = M.1 7) (h8 : M'.1 8 = M.1 8) {r : Nat} (h : okTM M r) : okTM M' r := fun p hp => by
  have := h p hp
  unfold okP at this ⊢
  rw [cM_rows h6 h7 h8, h6, h7, h8]
  exact this
theorem vM_rows {M M' : zM} (h0 : M'.1 0 2 = M.1 0 2 ∧ M'.1 0 0 = M.1 0 0 ∧ M'.1 0 1 = M.1 0 1 ∧ M'.1 0 7 = M.1 0 7) (h1 : M'.1 1 = M.1 1) (h2 : M'.1 2 = M.1 2) (h3 : M'.1 3 = M.1 3) (h4 : M'.1 4 = M.1 4) (h6 : M'.1 6 = M.1 6) (h7 : M'.1 7 = M.1 7) (h8 : M'.1 8 = M.1 8) : vM M' = vM M ∧ (okM M → okM M') := by
  obtain ⟨a, b, c, d⟩ := h0
  refine ⟨?_, fun hM => ?_⟩
  · have htm : ∀ r, tM M' r = tM M r := fun r => by
      unfold tM
      funext p nm
      rw [cM_rows h6 h7 h8]
    unfold vM
    rw [a, b, c, d, h1, h2, h3, h4, htm]
  · obtain ⟨⟨n, hn, e⟩, r, hr, e2, hT⟩ := hM
    exact ⟨⟨n, hn, by rw [a]; exact e⟩, r, hr, by rw [d]; exact e2, okTM_rows h6 h7 h8 hT⟩
theorem vM_congr {M M' : zM} (h : zO SM M M') : vM M' = vM M := by
  obtain ⟨a0, a1, a2, a3, a4, a6, a7, a8⟩ := SM_rows h
  exact (vM_rows ⟨by rw [a0], by rw [a0], by rw [a0], by rw [a0]⟩ a1 a2 a3 a4 a6 a7 a8).1
theorem okM_congr {M M' : zM} (h : zO SM M M') (hM : okM M) : okM M' := by
  obtain ⟨a0, a1, a2, a3, a4, a6, a7, a8⟩ := SM_rows h
  exact (vM_rows ⟨by rw [a0], by rw [a0], by rw [a0], by rw [a0]⟩ a1 a2 a3 a4 a6 a7 a8).2 hM
theorem okM_n {M : zM} (h : okM M) : vN (vM M) ≤ 5 ∧ M.1 0 2 = nI (vN (vM M)) := by
  obtain ⟨⟨n, hn, h7⟩, -⟩ := h
  have e : vN (vM M) = n := by show (M.1 0 2).toNatClampNeg = n; rw [h7, nIc (by omega)]
  rw [e]
  exact ⟨hn, h7⟩
theorem vM_at {M : zM} {i : Nat} (hi : i < vN (vM M)) : vKind (vM M) i = M.1 1 i ∧ vNum (vM M) i = M.1 2 i ∧ vRue (vM M) i = M.1 3 i ∧ vHad (vM M) i = M.1 4 i := ⟨zt_lt hi _, zt_lt hi _, zt_lt hi _, zt_lt hi _⟩
theorem fX6_ruled_e {M : zM} {r p : Nat} (hr : r < 6) (hp : p < 3) (h7 : M.1 0 7 = nI r) (hT : okTM M r) : ∃ M', fX6_ruled (nI p) M = some (sV (M.1 11) (cM M r p), M') ∧ zO SN M M' := by
  obtain ⟨b, n, hb, hn, hbn, hn160, hc, hw⟩ := hT p hp
  have hrq : (3 : Int32) * M.1 0 7 + nI p = nI (3 * r + p) := by rw [h7]; exact i_sub3 0 hr hp rfl
  have hnn : (M.1 7 (3 * r + p)).toNatClampNeg = n := by rw [hn, nIc (by omega)]
  have hbb : (M.1 6 (3 * r + p)).toNatClampNeg = b := by rw [hb, nIc (by omega)]
  have hlen : (cM M r p).length = n := by unfold cM; simp [hnn]
  have hget : ∀ k, k < n → (cM M r p).getD k 0 = dM (M.1 8 (b + k)) := fun k hk => by
    unfold cM
    rw [hnn, hbb]
    simp [List.getD_eq_getElem?_getD, hk]
  unfold fX6_ruled
  rw [hrq, zG_t (zin_nI (show 3 * r + p < 18 by omega) (by decide)), nIc (show 3 * r + p < 2 ^ 31 by omega), zL_r, hb]
  obtain ⟨M', g1, g2⟩ := ruled_loop (3 * r + p) (by omega) p 0 (cM M r p) b 0 n b M zF hrq hn (by omega) hbn (fun k hk => ⟨(hget k (by omega)).symm, hc k (by omega)⟩) hw (by omega) (by unfold zF; omega)
  exact ⟨M', g1, zO_mono g2 (by simp [SN])⟩
theorem mmost_loop (n : Nat) (hn : n ≤ 5) : ∀ (d i N : Nat) (M : zM), M.1 0 2 = nI n → i + d = n → d < N → fX6_mostRue_L4 N (sMx (M.1 3) i) (nI i) M = some (sMx (M.1 3) n, M) := by
  intro d
  induction d with
  | zero =>
    intro i N M h7 hi hN
    obtain ⟨N, rfl⟩ : ∃ q, N = q + 1 := ⟨N - 1, by omega⟩
    show fX6_mostRue_B4 _ _ _ M = _
    unfold fX6_mostRue_B4
    rw [h7, if_pos ((nI_leI (by omega) (by omega)).mpr (by omega)), show i = n by omega]
  | succ d ih =>
    intro i N M h7 hi hN
    obtain ⟨N, rfl⟩ : ∃ q, N = q + 1 := ⟨N - 1, by omega⟩
    show fX6_mostRue_B4 _ _ _ M = _
    unfold fX6_mostRue_B4
    rw [h7, if_neg (by rw [nI_leI (by omega) (by omega)]; omega)]
    simp only [zG_t (zin_nI (show i < 5 by omega) (by decide)), nIc (show i < 2 ^ 31 by omega), zL_r]
    rw [nI_1]
    have e : sMx (M.1 3) (i + 1) = if sMx (M.1 3) i < M.1 3 i then M.1 3 i else sMx (M.1 3) i := rfl
    have q := ih (i + 1) N M h7 (by omega) (by omega)
    rw [e] at q
    by_cases c : M.1 3 i ≤ sMx (M.1 3) i
    · rw [if_pos c]
      rw [if_neg (Int32.not_lt.mpr c)] at q
      exact q
    · rw [if_neg c]
      rw [if_pos (Int32.not_le.mp c)] at q
      exact q
theorem fX6_mostRue_e {n : Nat} {M : zM} (hn : n ≤ 5) (h7 : M.1 0 2 = nI n) : fX6_mostRue M = some (sMx (M.1 3) n, M) :=
  mmost_loop n hn n 0 zF M h7 (by omega) (by unfold zF; omega)
theorem fX6_ruledFor_e {M : zM} (hM : okM M) {p i : Nat} (hp : p < 3) (hi : i < vN (vM M)) : ∃ M', fX6_ruledFor (nI p) (nI i) M = some (sTl (vM M) p i, M') ∧ zO SN M M' := by
  obtain ⟨⟨n, hn, h7⟩, r, hr, h10, hT⟩ := id hM
  have hvn : vN (vM M) = n := by show (M.1 0 2).toNatClampNeg = n; rw [h7, nIc (by omega)]
  rw [hvn] at hi
  unfold fX6_ruledFor
  simp only [zG_t (zin_nI (show i < 5 by omega) (by decide)), nIc (show i < 2 ^ 31 by omega), zL_r, n0, n1, n2, n3, n4, n5]
  obtain ⟨M1, e1⟩ : ∃ M1, M1 = zu M 11 0 (M.1 3 i) := ⟨_, rfl⟩
  rw [← e1]
  have r1 : ∀ a, a ≠ 11 → M1.1 a = M.1 a := fun a ha => by rw [e1]; exact zu_row _ ha _ _
  rw [r1 2 (by decide)]
  obtain ⟨M2, e2⟩ : ∃ M2, M2 = zu M1 11 1 (M.1 2 i) := ⟨_, rfl⟩
  rw [← e2]
  have r2 : ∀ a, a ≠ 11 → M2.1 a = M.1 a := fun a ha => by rw [e2, zu_row _ ha]; exact r1 a ha
  rw [r2 0 (by decide)]
  obtain ⟨M3, e3⟩ : ∃ M3, M3 = zu M2 11 2 (M.1 0 1) := ⟨_, rfl⟩
  rw [← e3]
  have r3 : ∀ a, a ≠ 11 → M3.1 a = M.1 a := fun a ha => by rw [e3, zu_row _ ha]; exact r2 a ha
  rw [r3 0 (by decide)]
  obtain ⟨M4, e4⟩ : ∃ M4, M4 = zu M3 11 3 (M.1 0 0) := ⟨_, rfl⟩
  rw [← e4]
  have r4 : ∀ a, a ≠ 11 → M4.1 a = M.1 a := fun a ha => by rw [e4, zu_row _ ha]; exact r3 a ha
  rw [r4 4 (by decide)]
  obtain ⟨M5, e5⟩ : ∃ M5, M5 = zu M4 11 4 (M.1 4 i) := ⟨_, rfl⟩
  rw [← e5]
  have r5 : ∀ a, a ≠ 11 → M5.1 a = M.1 a := fun a ha => by rw [e5, zu_row _ ha]; exact r4 a ha
  rw [zB_s (fX6_mostRue_e hn (by rw [r5 0 (by decide)]; exact h7)), r5 3 (by decide)]
  obtain ⟨M6, e6⟩ : ∃ M6, M6 = zu M5 11 5 (sMx (M.1 3) n) := ⟨_, rfl⟩
  rw [← e6]
  have r6 : ∀ a, a ≠ 11 → M6.1 a = M.1 a := fun a ha => by rw [e6, zu_row _ ha]; exact r5 a ha
  have hO : zO SN M M6 := by
    rw [e6, e5, e4, e3, e2, e1]
    have s6 : 11 ∈ SN := by decide
    exact zO_trans (zO_trans (zO_trans (zO_trans (zO_trans (zO_zu _ _ _ _ s6) (zO_zu _ _ _ _ s6)) (zO_zu _ _ _ _ s6)) (zO_zu _ _ _ _ s6)) (zO_zu _ _ _ _ s6)) (zO_zu _ _ _ _ s6)
  obtain ⟨M7, g1, g2⟩ := fX6_ruled_e hr hp (by rw [r6 0 (by decide)]; exact h10) (okTM_rows (r6 6 (by decide)) (r6 7 (by decide)) (r6 8 (by decide)) hT)
  rw [zB_s g1]
  refine ⟨M7, ?_, zO_trans hO g2⟩
  have hr' : (M.1 0 7).toNatClampNeg = r := by rw [h10, nIc (by omega)]
  have hval : sV (M6.1 11) (cM M6 r p) = sTl (vM M) p i := by
    rw [cM_rows (r6 6 (by decide)) (r6 7 (by decide)) (r6 8 (by decide))]
    show _ = (if p < 3 then sV (sNm (vM M) i) (cM M (M.1 0 7).toNatClampNeg p) else 0)
    rw [hr', if_pos hp]
    obtain ⟨b, n', hb, hn', hbn, hn160, hc, hw⟩ := hT p hp
    refine sV_congr (fun k hk => ?_) hw
    have zt3 : vRue (vM M) = zt n (M.1 3) := by show zt (M.1 0 2).toNatClampNeg _ = _; rw [show (M.1 0 2).toNatClampNeg = n from hvn]
    have zt2 : vNum (vM M) = zt n (M.1 2) := by show zt (M.1 0 2).toNatClampNeg _ = _; rw [show (M.1 0 2).toNatClampNeg = n from hvn]
    have zt4 : vHad (vM M) = zt n (M.1 4) := by show zt (M.1 0 2).toNatClampNeg _ = _; rw [show (M.1 0 2).toNatClampNeg = n from hvn]
    unfold sNm
    rw [zt3, zt2, zt4, hvn, zt_lt hi, zt_lt hi, zt_lt hi, sMx_congr (g := M.1 3) (fun j hj => zt_lt hj _)]
    rcases (show k = 0 ∨ k = 1 ∨ k = 2 ∨ k = 3 ∨ k = 4 ∨ k = 5 by omega) with rfl | rfl | rfl | rfl | rfl | rfl
    · rw [e6, zu_other _ _ (by omega), e5, zu_other _ _ (by omega), e4, zu_other _ _ (by omega), e3, zu_other _ _ (by omega), e2, zu_other _ _ (by omega), e1, zu_same]; rfl
    · rw [e6, zu_other _ _ (by omega), e5, zu_other _ _ (by omega), e4, zu_other _ _ (by omega), e3, zu_other _ _ (by omega), e2, zu_same]; rfl
    · rw [e6, zu_other _ _ (by omega), e5, zu_other _ _ (by omega), e4, zu_other _ _ (by omega), e3, zu_same]; rfl
    · rw [e6, zu_other _ _ (by omega), e5, zu_other _ _ (by omega), e4, zu_same]; rfl
    · rw [e6, zu_other _ _ (by omega), e5, zu_same]; rfl
    · rw [e6, zu_same]; rfl
  rw [hval]
theorem fX6_runsOf_e {M : zM} (hM : okM M) {i : Nat} (hi : i < vN (vM M)) : ∃ M', fX6_runsOf (nI i) M = some (sRuns (vM M) i, M') ∧ zO SN M M' := by
  obtain ⟨hn, -⟩ := okM_n hM
  obtain ⟨M1, g1, g2⟩ := fX6_ruledFor_e hM (p := 0) (by omega) hi
  obtain ⟨a0, a1, a2, a3, a4, -⟩ := SM_rows (SNM g2)
  obtain ⟨k1, k2, k3, k4⟩ := vM_at hi
  refine ⟨M1, ?_, g2⟩
  unfold fX6_runsOf
  have g1 : fX6_ruledFor (0 : Int32) (nI i) M = some (sTl (vM M) 0 i, M1) := g1
  have J : ∀ v : Int32, fX6_runsOf_J125 v M1 = some (sBd 0 9 v, M1) := fun v => by
    unfold fX6_runsOf_J125
    rw [zB_s (sBd_m (by decide) _)]
  rw [zB_s g1, zB_s (sBd_m (by decide) _)]
  simp only [zG_t (zin_nI (show i < 5 by omega) (by decide)), nIc (show i < 2 ^ 31 by omega), zL_r, J]
  rw [a1, a2, a4, a0, ← k1, ← k2, ← k4]
  unfold sRuns
  by_cases c1 : vKind (vM M) i = 1
  · rw [if_pos c1, if_pos c1]
  rw [if_neg c1, if_neg c1]
  by_cases c2 : vKind (vM M) i = 2
  · rw [if_pos c2, if_pos c2]
  rw [if_neg c2, if_neg c2]
  by_cases c3 : vKind (vM M) i = 3
  · rw [if_pos c3, if_pos c3]
  rw [if_neg c3, if_neg c3]
  by_cases c4 : vKind (vM M) i = 4
  · rw [if_pos c4, if_pos c4]
    by_cases c6 : zrm (vDay (vM M)) 7 = vNum (vM M) i
    · rw [if_pos c6]
      have c6' : zrm (M.1 0 0) 7 = vNum (vM M) i := c6
      rw [if_pos c6']
    · rw [if_neg c6]
      have c6' : ¬ zrm (M.1 0 0) 7 = vNum (vM M) i := c6
      rw [if_neg c6']
  rw [if_neg c4, if_neg c4]
  by_cases c5 : vKind (vM M) i = 5
  · rw [if_pos c5, if_pos c5]
  rw [if_neg c5, if_neg c5]
theorem fX6_isClogged_e {M : zM} (hM : okM M) {i : Nat} (hi : i < vN (vM M)) : ∃ M', fX6_isClogged (nI i) M = some (sClg (vM M) i, M') ∧ zO SN M M' := by
  obtain ⟨hn, -⟩ := okM_n hM
  obtain ⟨M1, g1, g2⟩ := fX6_ruledFor_e hM (p := 1) (by omega) hi
  obtain ⟨a0, a1, a2, a3, a4, -⟩ := SM_rows (SNM g2)
  obtain ⟨k1, k2, k3, k4⟩ := vM_at hi
  refine ⟨M1, ?_, g2⟩
  unfold fX6_isClogged
  have g1 : fX6_ruledFor (1 : Int32) (nI i) M = some (sTl (vM M) 1 i, M1) := g1
  rw [zB_s g1]
  have kw : M.1 0 1 = vWet (vM M) := rfl
  have J : ∀ v : Int32, fX6_isClogged_J14 (nI i) v M1 = (if vKind (vM M) i = 1 then (if v = 0 then some (0, M1) else if vWet (vM M) ≤ 3 then some (0, M1) else some (1, M1))
      else if vKind (vM M) i = 2 then some (0, M1)
      else if vKind (vM M) i = 3 then (if v = 0 then (if vHad (vM M) i ≤ 50 then some (0, M1) else some (1, M1)) else if (3 : Int32) < vWet (vM M) then some (1, M1) else (if vHad (vM M) i ≤ 50 then some (0, M1) else some (1, M1)))
      else if vKind (vM M) i = 4 then some (0, M1) else zG (zbo v) (some (v, M1))) := by
    intro v
    unfold fX6_isClogged_J14
    simp only [zG_t (zin_nI (show i < 5 by omega) (by decide)), nIc (show i < 2 ^ 31 by omega)]
    rw [a1, a0, a4, ← k1, ← k4, kw]
  unfold sClg
  by_cases c0 : sTl (vM M) 1 i = 0
  · rw [if_pos c0, J]
    by_cases c1 : vKind (vM M) i = 1
    · rw [if_pos c1, if_pos c1, if_pos c0, if_pos rfl]
    rw [if_neg c1, if_neg c1]
    by_cases c2 : vKind (vM M) i = 2
    · rw [if_pos c2, if_pos c2]
    rw [if_neg c2, if_neg c2]
    by_cases c3 : vKind (vM M) i = 3
    · rw [if_pos c3, if_pos c3, if_pos c0, if_pos rfl]
      by_cases c5 : vHad (vM M) i ≤ 50
      · rw [if_pos c5, if_pos c5]
      · rw [if_neg c5, if_neg c5]
    rw [if_neg c3, if_neg c3]
    by_cases c4 : vKind (vM M) i = 4
    · rw [if_pos c4, if_pos c4]
    rw [if_neg c4, if_neg c4, if_pos c0]; rfl
  · rw [if_neg c0, J]
    by_cases c1 : vKind (vM M) i = 1
    · rw [if_pos c1, if_pos c1, if_neg c0, if_neg (by decide)]
      by_cases c5 : vWet (vM M) ≤ 3
      · rw [if_pos c5, if_pos c5]
      · rw [if_neg c5, if_neg c5]
    rw [if_neg c1, if_neg c1]
    by_cases c2 : vKind (vM M) i = 2
    · rw [if_pos c2, if_pos c2]
    rw [if_neg c2, if_neg c2]
    by_cases c3 : vKind (vM M) i = 3
    · rw [if_pos c3, if_pos c3, if_neg c0, if_neg (by decide)]
      by_cases c5 : vWet (vM M) ≤ 3
      · rw [if_pos c5, if_neg (Int32.not_lt.mpr c5)]
        by_cases c6 : vHad (vM M) i ≤ 50
        · rw [if_pos c6, if_pos c6]
        · rw [if_neg c6, if_neg c6]
      · rw [if_neg c5, if_pos (Int32.not_le.mp c5)]
    rw [if_neg c3, if_neg c3]
    by_cases c4 : vKind (vM M) i = 4
    · rw [if_pos c4, if_pos c4]
    rw [if_neg c4, if_neg c4, if_neg c0]; rfl

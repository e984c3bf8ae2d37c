/-! the reference thinks: what it keeps, what comes back -/
/-- cells that a thought touches -/
def ST : List Nat := [0, 3, 4, 10, 11, 12, 13, 14]
def zTh (M0 M : zM) : Prop := M.2 = M0.2 ∧ (∀ i, i ∉ ST → M.1 i = M0.1 i) ∧ (∀ k, k ≠ 0 → k ≠ 1 → k ≠ 28 → k ≠ 29 → M.1 0 k = M0.1 0 k)
def zKp (M0 M : zM) : Prop := M.1 0 28 = M0.1 0 0 ∧ M.1 0 29 = M0.1 0 1 ∧ (∀ j, j < 5 → M.1 12 j = M0.1 3 j) ∧ (∀ j, j < 5 → M.1 13 j = M0.1 4 j)
def zBk (M0 M : zM) : Prop := zTh M0 M ∧ M.1 0 0 = M0.1 0 0 ∧ M.1 0 1 = M0.1 0 1 ∧ (∀ j, j < 5 → M.1 3 j = M0.1 3 j) ∧ (∀ j, j < 5 → M.1 4 j = M0.1 4 j)
theorem zTh_refl (M : zM) : zTh M M := ⟨rfl, fun _ _ => rfl, fun _ _ _ _ _ => rfl⟩
theorem zTh_trans {M M' M'' : zM} (h1 : zTh M M') (h2 : zTh M' M'') : zTh M M'' := ⟨h2.1.trans h1.1, fun i hi => (h2.2.1 i hi).trans (h1.2.1 i hi), fun k a b c d => (h2.2.2 k a b c d).trans (h1.2.2 k a b c d)⟩
theorem zBk_refl (M : zM) : zBk M M := ⟨zTh_refl M, rfl, rfl, fun _ _ => rfl, fun _ _ => rfl⟩
theorem zBk_trans {M M' M'' : zM} (h1 : zBk M M') (h2 : zBk M' M'') : zBk M M'' := ⟨zTh_trans h1.1 h2.1, h2.2.1.trans h1.2.1, h2.2.2.1.trans h1.2.2.1, fun j hj => (h2.2.2.2.1 j hj).trans (h1.2.2.2.1 j hj), fun j hj => (h2.2.2.2.2 j hj).trans (h1.2.2.2.2 j hj)⟩
theorem zTh_SM {M0 M M' : zM} (h : zTh M0 M) (hO : zO SM M M') : zTh M0 M' ∧ (zKp M0 M → zKp M0 M') := by
  have e : ∀ i, i ∉ SM → M'.1 i = M.1 i := hO.2
  refine ⟨⟨hO.1.trans h.1, fun i hi => ?_, fun k a b c d => ?_⟩, fun hk => ?_⟩
  · rw [e i (fun q => hi (by simp [SM] at q; simp [ST]; omega))]; exact h.2.1 i hi
  · rw [e 0 (by decide)]; exact h.2.2 k a b c d
  · unfold zKp
    rw [e 0 (by decide), e 12 (by decide), e 13 (by decide)]
    exact hk
theorem zBk_SM {M M' : zM} (hO : zO SM M M') : zBk M M' := by
  refine ⟨(zTh_SM (zTh_refl M) hO).1, ?_, ?_, ?_, ?_⟩
  · rw [hO.2 0 (by decide)]
  · rw [hO.2 0 (by decide)]
  · intro j _; rw [hO.2 3 (by decide)]
  · intro j _; rw [hO.2 4 (by decide)]
theorem zTh_goes {M0 M M' : zM} (h : zTh M0 M) (hO : zO (0 :: 3 :: SM) M M') (h0 : ∀ k, k ≠ 0 → M'.1 0 k = M.1 0 k) : zTh M0 M' ∧ (zKp M0 M → zKp M0 M') := by
  have e : ∀ i, i ∉ (0 :: 3 :: SM) → M'.1 i = M.1 i := hO.2
  refine ⟨⟨hO.1.trans h.1, fun i hi => ?_, fun k a b c d => ?_⟩, fun hk => ?_⟩
  · rw [e i (fun q => hi (by simp [SM] at q; simp [ST]; omega))]; exact h.2.1 i hi
  · rw [h0 k a]; exact h.2.2 k a b c d
  · unfold zKp
    rw [h0 28 (by decide), h0 29 (by decide), e 12 (by decide), e 13 (by decide)]
    exact hk
theorem zTh_wet {M0 M : zM} (h : zTh M0 M) (v : Int32) : zTh M0 (zu M 0 1 v) ∧ (zKp M0 M → zKp M0 (zu M 0 1 v)) := by
  refine ⟨⟨h.1, fun i hi => ?_, fun k a b c d => ?_⟩, fun hk => ?_⟩
  · rw [zu_row _ (fun q => hi (by rw [q]; decide))]; exact h.2.1 i hi
  · rw [zu_other _ _ b]; exact h.2.2 k a b c d
  · unfold zKp
    rw [zu_other _ _ (show (28 : Nat) ≠ 1 by decide), zu_other _ _ (show (29 : Nat) ≠ 1 by decide), zu_row _ (show (12 : Nat) ≠ 0 by decide), zu_row _ (show (13 : Nat) ≠ 0 by decide)]
    exact hk
theorem keeps_loop (M0 : zM) : ∀ (d i N : Nat) (M : zM), zO [12, 13] M0 M → (∀ j, j < i → M.1 12 j = M0.1 3 j ∧ M.1 13 j = M0.1 4 j) → i + d = 5 → d < N → ∃ M', fX6_keeps_L18 N (nI i) M = some M' ∧ zO [12, 13] M0 M' ∧ ∀ j, j < 5 → M'.1 12 j = M0.1 3 j ∧ M'.1 13 j = M0.1 4 j := by
  intro d
  induction d with
  | zero =>
    intro i N M hO hj hi hN
    obtain ⟨N, rfl⟩ : ∃ q, N = q + 1 := ⟨N - 1, by omega⟩
    have : i = 5 := by omega
    subst this
    refine ⟨M, ?_, hO, hj⟩
    show fX6_keeps_B18 _ _ M = _
    unfold fX6_keeps_B18
    rw [if_pos (by decide)]
  | succ d ih =>
    intro i N M hO hj hi hN
    obtain ⟨N, rfl⟩ : ∃ q, N = q + 1 := ⟨N - 1, by omega⟩
    have hin := zin_nI (show i < 5 by omega) (n := 5) (by decide)
    obtain ⟨M1, e1⟩ : ∃ M1, M1 = zu M 12 i (M0.1 3 i) := ⟨_, rfl⟩
    obtain ⟨M2, e2⟩ : ∃ M2, M2 = zu M1 13 i (M0.1 4 i) := ⟨_, rfl⟩
    have h3 : M.1 3 = M0.1 3 := hO.2 _ (by decide)
    have h4 : M1.1 4 = M0.1 4 := by rw [e1, zu_row _ (by decide)]; exact hO.2 _ (by decide)
    have hO2 : zO [12, 13] M0 M2 := by rw [e2, e1]; exact zO_trans (zO_trans hO (zO_zu _ _ _ _ (by simp))) (zO_zu _ _ _ _ (by simp))
    obtain ⟨M', q1, q2⟩ := ih (i + 1) N M2 hO2 (fun j hjl => by
      have a12 : M2.1 12 j = if j = i then M0.1 3 i else M.1 12 j := by
        rw [e2, zu_row _ (show (12 : Nat) ≠ 13 by decide), e1, zu_at]
        by_cases c : j = i
        · rw [if_pos ⟨rfl, c⟩, if_pos c]
        · rw [if_neg (fun q => c q.2), if_neg c]
      have a13 : M2.1 13 j = if j = i then M0.1 4 i else M.1 13 j := by
        rw [e2, zu_at]
        by_cases c : j = i
        · rw [if_pos ⟨rfl, c⟩, if_pos c]
        · rw [if_neg (fun q => c q.2), if_neg c, e1, zu_row _ (show (13 : Nat) ≠ 12 by decide)]
      rw [a12, a13]
      by_cases c : j = i
      · rw [if_pos c, if_pos c, c]; exact ⟨rfl, rfl⟩
      · rw [if_neg c, if_neg c]; exact hj j (by omega)) (by omega) (by omega)
    refine ⟨M', ?_, q2⟩
    rw [← q1]
    show fX6_keeps_B18 _ _ M = _
    unfold fX6_keeps_B18
    rw [if_neg (by rw [show (5 : Int32) = nI 5 from rfl, nI_leI (by omega) (by omega)]; omega)]
    simp only [zG_t hin, nIc (show i < 2 ^ 31 by omega), zL_r]
    rw [h3, ← e1, h4, ← e2, nI_1]
theorem vM_bk {M0 M : zM} (hM : okM M0) (h : zBk M0 M) : vM M = vM M0 ∧ okM M := by
  obtain ⟨⟨t1, t2, t3⟩, b0, b1, b3, b4⟩ := h
  obtain ⟨hn, h7⟩ := okM_n hM
  have e2 : M.1 0 2 = M0.1 0 2 := t3 2 (by decide) (by decide) (by decide) (by decide)
  have e7 : M.1 0 7 = M0.1 0 7 := t3 7 (by decide) (by decide) (by decide) (by decide)
  have r1 : M.1 1 = M0.1 1 := t2 1 (by decide)
  have r2 : M.1 2 = M0.1 2 := t2 2 (by decide)
  have r6 : M.1 6 = M0.1 6 := t2 6 (by decide)
  have r7 : M.1 7 = M0.1 7 := t2 7 (by decide)
  have r8 : M.1 8 = M0.1 8 := t2 8 (by decide)
  refine ⟨zV_ext ?_ b0 b1 ?_ ?_ ?_ ?_ ?_, ?_⟩
  · show (M.1 0 2).toNatClampNeg = (M0.1 0 2).toNatClampNeg; rw [e2]
  · show zt (M.1 0 2).toNatClampNeg (M.1 1) = zt (M0.1 0 2).toNatClampNeg (M0.1 1); rw [e2, r1]
  · show zt (M.1 0 2).toNatClampNeg (M.1 2) = zt (M0.1 0 2).toNatClampNeg (M0.1 2); rw [e2, r2]
  · show zt (M.1 0 2).toNatClampNeg (M.1 3) = zt (M0.1 0 2).toNatClampNeg (M0.1 3)
    rw [e2]; exact zt_congr (fun j hj => b3 j (Nat.lt_of_lt_of_le hj hn))
  · show zt (M.1 0 2).toNatClampNeg (M.1 4) = zt (M0.1 0 2).toNatClampNeg (M0.1 4)
    rw [e2]; exact zt_congr (fun j hj => b4 j (Nat.lt_of_lt_of_le hj hn))
  · show tM M (M.1 0 7).toNatClampNeg = tM M0 (M0.1 0 7).toNatClampNeg
    rw [e7]
    unfold tM
    funext p nm
    show (if p < 3 then sV nm (cM M _ p) else 0) = (if p < 3 then sV nm (cM M0 _ p) else 0)
    rw [cM_rows r6 r7 r8]
  · obtain ⟨⟨n, hn', h7''⟩, r, hr, h10, hT⟩ := hM
    exact ⟨⟨n, hn', by rw [e2]; exact h7''⟩, r, hr, by rw [e7]; exact h10, okTM_rows r6 r7 r8 hT⟩
theorem fX6_keeps_e (M : zM) : ∃ M', fX6_keeps M = some M' ∧ zBk M M' ∧ zKp M M' := by
  obtain ⟨M1, e1⟩ : ∃ M1, M1 = zu M 0 28 (M.1 0 0) := ⟨_, rfl⟩
  obtain ⟨M2, e2⟩ : ∃ M2, M2 = zu M1 0 29 (M1.1 0 1) := ⟨_, rfl⟩
  obtain ⟨M', q1, q2, q3⟩ := keeps_loop M2 5 0 zF M2 (zO_refl _ _) (fun j hj => absurd hj (by omega)) (by omega) (by unfold zF; omega)
  have r : ∀ i, i ≠ 0 → M2.1 i = M.1 i := fun i hi => by rw [e2, zu_row _ hi, e1, zu_row _ hi]
  have f : ∀ k, k ≠ 28 → k ≠ 29 → M2.1 0 k = M.1 0 k := fun k a b => by rw [e2, zu_other _ _ b, e1, zu_other _ _ a]
  have g0 : M'.1 0 = M2.1 0 := q2.2 _ (by decide)
  refine ⟨M', ?_, ⟨⟨?_, fun i hi => ?_, fun k a b c d => ?_⟩, ?_, ?_, fun j hj => ?_, fun j hj => ?_⟩, ?_, ?_, fun j hj => ?_, fun j hj => ?_⟩
  · unfold fX6_keeps
    rw [zL_r, ← e1, zL_r, ← e2]
    exact q1
  · rw [q2.1, e2, e1]; rfl
  · rw [q2.2 i (fun q => hi (by simp at q; simp [ST]; omega)), r i (fun q => hi (by rw [q]; decide))]
  · rw [g0, f k c d]
  · rw [g0, f 0 (by decide) (by decide)]
  · rw [g0, f 1 (by decide) (by decide)]
  · rw [q2.2 3 (by decide), r 3 (by decide)]
  · rw [q2.2 4 (by decide), r 4 (by decide)]
  · rw [g0, e2, zu_other _ _ (show (28 : Nat) ≠ 29 by decide), e1, zu_same]
  · rw [g0, e2, zu_same, e1, zu_other _ _ (show (1 : Nat) ≠ 28 by decide)]
  · rw [(q3 j hj).1, r 3 (by decide)]
  · rw [(q3 j hj).2, r 4 (by decide)]
theorem restores_loop (M0 : zM) : ∀ (d i N : Nat) (M : zM), zO [3, 4] M0 M → (∀ j, j < i → M.1 3 j = M0.1 12 j ∧ M.1 4 j = M0.1 13 j) → i + d = 5 → d < N → ∃ M', fX6_restores_L18 N (nI i) M = some M' ∧ zO [3, 4] M0 M' ∧ ∀ j, j < 5 → M'.1 3 j = M0.1 12 j ∧ M'.1 4 j = M0.1 13 j := by
  intro d
  induction d with
  | zero =>
    intro i N M hO hj hi hN
    obtain ⟨N, rfl⟩ : ∃ q, N = q + 1 := ⟨N - 1, by omega⟩
    have : i = 5 := by omega
    subst this
    refine ⟨M, ?_, hO, hj⟩
    show fX6_restores_B18 _ _ M = _
    unfold fX6_restores_B18
    rw [if_pos (by decide)]
  | succ d ih =>
    intro i N M hO hj hi hN
    obtain ⟨N, rfl⟩ : ∃ q, N = q + 1 := ⟨N - 1, by omega⟩
    have hin := zin_nI (show i < 5 by omega) (n := 5) (by decide)
    obtain ⟨M1, e1⟩ : ∃ M1, M1 = zu M 3 i (M0.1 12 i) := ⟨_, rfl⟩
    obtain ⟨M2, e2⟩ : ∃ M2, M2 = zu M1 4 i (M0.1 13 i) := ⟨_, rfl⟩
    have h3 : M.1 12 = M0.1 12 := hO.2 _ (by decide)
    have h4 : M1.1 13 = M0.1 13 := by rw [e1, zu_row _ (by decide)]; exact hO.2 _ (by decide)
    have hO2 : zO [3, 4] M0 M2 := by rw [e2, e1]; exact zO_trans (zO_trans hO (zO_zu _ _ _ _ (by simp))) (zO_zu _ _ _ _ (by simp))
    obtain ⟨M', q1, q2⟩ := ih (i + 1) N M2 hO2 (fun j hjl => by
      have a12 : M2.1 3 j = if j = i then M0.1 12 i else M.1 3 j := by
        rw [e2, zu_row _ (show (3 : Nat) ≠ 4 by decide), e1, zu_at]
        by_cases c : j = i
        · rw [if_pos ⟨rfl, c⟩, if_pos c]
        · rw [if_neg (fun q => c q.2), if_neg c]
      have a13 : M2.1 4 j = if j = i then M0.1 13 i else M.1 4 j := by
        rw [e2, zu_at]
        by_cases c : j = i
        · rw [if_pos ⟨rfl, c⟩, if_pos c]
        · rw [if_neg (fun q => c q.2), if_neg c, e1, zu_row _ (show (4 : Nat) ≠ 3 by decide)]
      rw [a12, a13]
      by_cases c : j = i
      · rw [if_pos c, if_pos c, c]; exact ⟨rfl, rfl⟩
      · rw [if_neg c, if_neg c]; exact hj j (by omega)) (by omega) (by omega)
    refine ⟨M', ?_, q2⟩
    rw [← q1]
    show fX6_restores_B18 _ _ M = _
    unfold fX6_restores_B18
    rw [if_neg (by rw [show (5 : Int32) = nI 5 from rfl, nI_leI (by omega) (by omega)]; omega)]
    simp only [zG_t hin, nIc (show i < 2 ^ 31 by omega), zL_r]
    rw [h3, ← e1, h4, ← e2, nI_1]
theorem fX6_restores_e {M0 M : zM} (h : zTh M0 M) (hk : zKp M0 M) : ∃ M', fX6_restores M = some M' ∧ zBk M0 M' := by
  obtain ⟨k0, k1, k3, k4⟩ := hk
  obtain ⟨M1, e1⟩ : ∃ M1, M1 = zu M 0 0 (M.1 0 28) := ⟨_, rfl⟩
  obtain ⟨M2, e2⟩ : ∃ M2, M2 = zu M1 0 1 (M1.1 0 29) := ⟨_, rfl⟩
  obtain ⟨M', q1, q2, q3⟩ := restores_loop M2 5 0 zF M2 (zO_refl _ _) (fun j hj => absurd hj (by omega)) (by omega) (by unfold zF; omega)
  have r : ∀ i, i ≠ 0 → M2.1 i = M.1 i := fun i hi => by rw [e2, zu_row _ hi, e1, zu_row _ hi]
  have f : ∀ k, k ≠ 0 → k ≠ 1 → M2.1 0 k = M.1 0 k := fun k a b => by rw [e2, zu_other _ _ b, e1, zu_other _ _ a]
  have g0 : M'.1 0 = M2.1 0 := q2.2 _ (by decide)
  refine ⟨M', ?_, ⟨⟨?_, fun i hi => ?_, fun k a b c d => ?_⟩, ?_, ?_, fun j hj => ?_, fun j hj => ?_⟩⟩
  · unfold fX6_restores
    rw [zL_r, ← e1, zL_r, ← e2]
    exact q1
  · rw [q2.1, e2, e1]; exact h.1
  · rw [q2.2 i (fun q => hi (by simp at q; simp [ST]; omega)), r i (fun q => hi (by rw [q]; decide))]
    exact h.2.1 i hi
  · rw [g0, f k a b]; exact h.2.2 k a b c d
  · rw [g0, e2, zu_other _ _ (show (0 : Nat) ≠ 1 by decide), e1, zu_same, k0]
  · rw [g0, e2, zu_same, e1, zu_other _ _ (show (29 : Nat) ≠ 0 by decide), k1]
  · rw [(q3 j hj).1, r 12 (by decide), k3 j hj]
  · rw [(q3 j hj).2, r 13 (by decide), k4 j hj]
theorem allRue_loop {n : Nat} (hn : n ≤ 5) {M : zM} (h7 : M.1 0 2 = nI n) : ∀ (d i N : Nat), i + d = n → d < N → fX6_allRue_L4 N (sSum (M.1 3) i) (nI i) M = some (sSum (M.1 3) n, M) := by
  intro d
  induction d with
  | zero =>
    intro i N hi hN
    obtain ⟨N, rfl⟩ : ∃ q, N = q + 1 := ⟨N - 1, by omega⟩
    show fX6_allRue_B4 _ _ _ M = _
    unfold fX6_allRue_B4
    rw [h7, if_pos ((nI_leI (by omega) (by omega)).mpr (by omega)), show i = n by omega]
  | succ d ih =>
    intro i N hi hN
    obtain ⟨N, rfl⟩ : ∃ q, N = q + 1 := ⟨N - 1, by omega⟩
    show fX6_allRue_B4 _ _ _ M = _
    unfold fX6_allRue_B4
    rw [h7, if_neg (by rw [nI_leI (by omega) (by omega)]; omega), zG_t (zin_nI (by omega) (by decide)), nIc (by omega)]
    simp only [zL_r]
    rw [nI_1]
    exact ih (i + 1) N (by omega) (by omega)
theorem fX6_allRue_e {M : zM} (hM : okM M) : fX6_allRue M = some (sAll (vM M), M) := by
  obtain ⟨hn, h7⟩ := okM_n hM
  have h := allRue_loop hn h7 (vN (vM M)) 0 zF (by omega) (by unfold zF; omega)
  have e : sAll (vM M) = sSum (M.1 3) (vN (vM M)) := sSum_congr (fun i hi => zt_lt hi _)
  rw [e]
  exact h
theorem sMin_nn (V : zVw) (i : Nat) : 0 ≤ sMin V i := by
  unfold sMin
  by_cases c : sClg V i = 0
  · rw [if_pos c]; exact (sBd_rng (lo := 0) (hi := 9) (by decide) _).1
  · rw [if_neg c]; decide
theorem sMin_le (V : zVw) (i : Nat) : sMin V i ≤ 9 := by
  unfold sMin
  by_cases c : sClg V i = 0
  · rw [if_pos c]; exact (sBd_rng (lo := 0) (hi := 9) (by decide) _).2
  · rw [if_neg c]; decide
theorem sLon_1 (V : zVw) : ∀ k, (sLon V k).1 = -1 ∧ (sLon V k).2 = -1 ∧ k = 0 ∨ (∃ j, j < k ∧ (sLon V k).1 = nI j) ∧ 0 ≤ (sLon V k).2
  | 0 => Or.inl ⟨rfl, rfl, rfl⟩
  | k + 1 => by
    refine Or.inr ?_
    have e : sLon V (k + 1) = if sMin V k ≤ (sLon V k).2 then sLon V k else (nI k, sMin V k) := rfl
    rw [e]
    by_cases c : sMin V k ≤ (sLon V k).2
    · rw [if_pos c]
      rcases sLon_1 V k with ⟨-, h2, -⟩ | ⟨⟨j, hj, h1⟩, h2⟩
      · rw [h2] at c
        exact absurd (Int32.le_trans (sMin_nn V k) c) (by decide)
      · exact ⟨⟨j, by omega, h1⟩, h2⟩
    · rw [if_neg c]; exact ⟨⟨k, by omega, rfl⟩, sMin_nn V k⟩
/-- the reference begins with 0 for the most -/
def sLo2 (V : zVw) (k : Nat) : Int32 := if k = 0 then 0 else (sLon V k).2
theorem mlongest_loop {M0 : zM} (hM0 : okM M0) : ∀ (d i N : Nat) (M : zM), zO SN M0 M → i + d = vN (vM M0) → d < N → ∃ M', fX6_longest_L6 N (sLon (vM M0) i).1 (sLo2 (vM M0) i) (nI i) M = some ((sLon (vM M0) (vN (vM M0))).1, M') ∧ zO SN M0 M' := by
  obtain ⟨hn, h7⟩ := okM_n hM0
  intro d
  induction d with
  | zero =>
    intro i N M hO hi hN
    obtain ⟨N, rfl⟩ : ∃ q, N = q + 1 := ⟨N - 1, by omega⟩
    have : i = vN (vM M0) := by omega
    rw [this]
    refine ⟨M, ?_, hO⟩
    show fX6_longest_B6 _ _ _ _ M = _
    unfold fX6_longest_B6
    rw [(SM_rows (SNM hO)).1, h7, if_pos (Int32.le_refl _)]
  | succ d ih =>
    intro i N M hO hi hN
    obtain ⟨N, rfl⟩ : ∃ q, N = q + 1 := ⟨N - 1, by omega⟩
    have hv := vM_congr (SNM hO)
    obtain ⟨M1, g1, g2⟩ := fX6_minutes_e (okM_congr (SNM hO) hM0) (i := i) (by rw [hv]; omega)
    obtain ⟨M', q1, q2⟩ := ih (i + 1) N M1 (zO_trans hO g2) (by omega) (by omega)
    refine ⟨M', ?_, q2⟩
    rw [← q1]
    show fX6_longest_B6 _ _ _ _ M = _
    unfold fX6_longest_B6
    rw [(SM_rows (SNM hO)).1, h7, if_neg (by rw [nI_leI (by omega) (by omega)]; omega), zB_s g1, hv]
    have e : sLon (vM M0) (i + 1) = if sMin (vM M0) i ≤ (sLon (vM M0) i).2 then sLon (vM M0) i else (nI i, sMin (vM M0) i) := rfl
    have e2 : sLo2 (vM M0) (i + 1) = (sLon (vM M0) (i + 1)).2 := if_neg (by omega)
    rw [e2, e]
    rcases sLon_1 (vM M0) i with ⟨h1, h2, h3⟩ | ⟨⟨j, hj, h1⟩, h2⟩
    · rw [if_pos h1, zL_r, nI_1, if_neg (by
        rw [h2]
        exact fun c => absurd (Int32.le_trans (sMin_nn (vM M0) i) c) (by decide))]
    · rw [if_neg (by
        rw [h1]
        intro c
        have := nI_pos' (show j < 2 ^ 31 by omega)
        rw [c] at this
        exact absurd this (by decide))]
      have e3 : sLo2 (vM M0) i = (sLon (vM M0) i).2 := if_neg (by omega)
      rw [e3]
      by_cases c : sMin (vM M0) i ≤ (sLon (vM M0) i).2
      · rw [if_neg (Int32.not_lt.mpr c), if_pos c, zL_r, nI_1]
      · rw [if_pos (Int32.not_le.mp c), if_neg c, zL_r, nI_1]
theorem fX6_longest_e {M : zM} (hM : okM M) : ∃ M', fX6_longest M = some ((sLon (vM M) (vN (vM M))).1, M') ∧ zO SN M M' :=
  mlongest_loop hM (vN (vM M)) 0 zF M (zO_refl _ _) (by omega) (by have := (okM_n hM).1; unfold zF; omega)
theorem clogged_loop {M0 : zM} (hM0 : okM M0) : ∀ (d i N : Nat) (M : zM), zO SN M0 M → i + d = vN (vM M0) → d < N → ∃ M', fX6_clogged_L4 N (sClB (vM M0) i) (nI i) M = some (sClB (vM M0) (vN (vM M0)), M') ∧ zO SN M0 M' := by
  obtain ⟨hn, h7⟩ := okM_n hM0
  intro d
  induction d with
  | zero =>
    intro i N M hO hi hN
    obtain ⟨N, rfl⟩ : ∃ q, N = q + 1 := ⟨N - 1, by omega⟩
    have : i = vN (vM M0) := by omega
    rw [this]
    refine ⟨M, ?_, hO⟩
    show fX6_clogged_B4 _ _ _ M = _
    unfold fX6_clogged_B4
    rw [(SM_rows (SNM hO)).1, h7, if_pos (Int32.le_refl _)]
  | succ d ih =>
    intro i N M hO hi hN
    obtain ⟨N, rfl⟩ : ∃ q, N = q + 1 := ⟨N - 1, by omega⟩
    have hv := vM_congr (SNM hO)
    obtain ⟨M1, g1, g2⟩ := fX6_isClogged_e (okM_congr (SNM hO) hM0) (i := i) (by rw [hv]; omega)
    obtain ⟨M', q1, q2⟩ := ih (i + 1) N M1 (zO_trans hO g2) (by omega) (by omega)
    refine ⟨M', ?_, q2⟩
    rw [← q1]
    show fX6_clogged_B4 _ _ _ M = _
    unfold fX6_clogged_B4
    rw [(SM_rows (SNM hO)).1, h7, if_neg (by rw [nI_leI (by omega) (by omega)]; omega), zB_s g1, hv]
    have e : sClB (vM M0) (i + 1) = if sClg (vM M0) i = 0 then sClB (vM M0) i else sClB (vM M0) i ||| zshl 1 (nI i) := rfl
    rw [e]
    by_cases c : sClg (vM M0) i = 0
    · rw [if_pos c, if_pos c, zL_r, nI_1]
    · rw [if_neg c, if_neg c, zL_r, zL_r, nI_1]
theorem fX6_clogged_e {M : zM} (hM : okM M) : ∃ M', fX6_clogged M = some (sClB (vM M) (vN (vM M)), M') ∧ zO SN M M' :=
  clogged_loop hM (vN (vM M)) 0 zF M (zO_refl _ _) (by omega) (by have := (okM_n hM).1; unfold zF; omega)

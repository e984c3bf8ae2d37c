/-! more of the class's worlds -/
theorem vX_rows {w : Nat} {M M' : zM} (h : ∀ k, k < 5 → M'.1 (w + k) = M.1 (w + k)) (ht : ∀ r, M'.1 (32 + 4 * r + 1) = M.1 (32 + 4 * r + 1) ∧ M'.1 (32 + 4 * r + 2) = M.1 (32 + 4 * r + 2)) : vX w M' = vX w M ∧ (okX w M → okX w M') := by
  have e0 : M'.1 w = M.1 w := h 0 (by omega)
  have hc : ∀ r p, cX M' r p = cX M r p := fun r p => by unfold cX; rw [(ht r).1, (ht r).2]
  have htx : ∀ r, tX M' r = tX M r := fun r => by unfold tX; funext p nm; rw [hc]
  refine ⟨?_, fun hM => ?_⟩
  · unfold vX
    rw [e0, h 1 (by omega), h 2 (by omega), h 3 (by omega), h 4 (by omega), htx]
  · obtain ⟨⟨n, hn', h7'⟩, r, hr, h10, hT⟩ := hM
    refine ⟨⟨n, hn', by rw [e0]; exact h7'⟩, r, hr, by rw [e0]; exact h10, ?_⟩
    unfold okT
    rw [(ht r).2]
    exact ⟨hT.1, fun p hp => by rw [hc]; exact hT.2 p hp⟩
def WS (w : Nat) : List Nat := w :: (w + 1) :: (w + 2) :: (w + 3) :: (w + 4) :: SC
theorem WS_t {w : Nat} (hw : isW w) {M M' : zM} (h : zO (WS w) M M') (r : Nat) : M'.1 (32 + 4 * r + 1) = M.1 (32 + 4 * r + 1) ∧ M'.1 (32 + 4 * r + 2) = M.1 (32 + 4 * r + 2) := by
  refine ⟨h.2 _ ?_, h.2 _ ?_⟩ <;> rcases hw with rfl | rfl | rfl <;> simp [WS, SC] <;> omega
theorem vX_other {v w : Nat} (hv : isW v) (hw : isW w) (hne : v ≠ w) {M M' : zM} (h : zO (WS w) M M') : vX v M' = vX v M ∧ (okX v M → okX v M') := by
  refine vX_rows (fun k hk => h.2 _ ?_) (WS_t hw h)
  rcases hv with rfl | rfl | rfl <;> rcases hw with rfl | rfl | rfl <;> first | exact absurd rfl hne | (rcases (show k = 0 ∨ k = 1 ∨ k = 2 ∨ k = 3 ∨ k = 4 by omega) with rfl | rfl | rfl | rfl | rfl <;> decide)
theorem WS_mono {w : Nat} {M M' : zM} (h : zO (w :: (w + 3) :: SC) M M') : zO (WS w) M M' := zO_mono h (fun i hi => by
  simp only [List.mem_cons] at hi
  simp only [WS, List.mem_cons]
  rcases hi with h | h | h
  · exact Or.inl h
  · exact Or.inr (Or.inr (Or.inr (Or.inl h)))
  · exact Or.inr (Or.inr (Or.inr (Or.inr (Or.inr h)))))
theorem WS_SC {w : Nat} {M M' : zM} (h : zO SC M M') : zO (WS w) M M' := zO_mono h (fun i hi => by
  simp only [WS, List.mem_cons]
  exact Or.inr (Or.inr (Or.inr (Or.inr (Or.inr hi)))))
theorem passDays_loop {w : Nat} (hw : isW w) (m : Nat) (hm : m ≤ 40) {M0 : zM} : ∀ (d i N : Nat) (M : zM), okX w M → vX w M = sDays (vX w M0) i → zO (WS w) M0 M → i + d = m → d < N → ∃ M', fX4_passDays_L2 w N (nI m) (nI i) M = some M' ∧ vX w M' = sDays (vX w M0) m ∧ okX w M' ∧ zO (WS w) M0 M' := by
  intro d
  induction d with
  | zero =>
    intro i N M hM hv hO hi hN
    obtain ⟨N, rfl⟩ : ∃ q, N = q + 1 := ⟨N - 1, by omega⟩
    have : i = m := by omega
    subst this
    refine ⟨M, ?_, hv, hM, hO⟩
    show fX4_passDays_B2 w _ _ _ M = _
    unfold fX4_passDays_B2
    rw [if_pos (Int32.le_refl _)]
  | succ d ih =>
    intro i N M hM hv hO hi hN
    obtain ⟨N, rfl⟩ : ∃ q, N = q + 1 := ⟨N - 1, by omega⟩
    obtain ⟨M1, g1, g2, g3, g4, -⟩ := fX4_passDay_e hw hM
    obtain ⟨M', q1, q2⟩ := ih (i + 1) N M1 g3 (by rw [g2, hv]; rfl) (zO_trans hO (WS_mono g4)) (by omega) (by omega)
    refine ⟨M', ?_, q2⟩
    rw [← q1]
    show fX4_passDays_B2 w _ _ _ M = _
    unfold fX4_passDays_B2
    rw [if_neg (by rw [nI_leI (by omega) (by omega)]; omega), zV_s g1, zL_r, nI_1]
theorem fX4_passDays_e {w m : Nat} (hw : isW w) (hm : m ≤ 40) {M : zM} (hM : okX w M) : ∃ M', fX4_passDays w (nI m) M = some M' ∧ vX w M' = sDays (vX w M) m ∧ okX w M' ∧ zO (WS w) M M' :=
  passDays_loop hw m hm m 0 zF M hM rfl (zO_refl _ _) (by omega) (by unfold zF; omega)
theorem rueOfAll_loop {w n : Nat} (hn : n ≤ 5) {M : zM} (h7 : M.1 w 7 = nI n) : ∀ (d i N : Nat), i + d = n → d < N → fX4_rueOfAll_L4 w N (sSum (M.1 (w + 3)) i) (nI i) M = some (sSum (M.1 (w + 3)) n, M) := by
  intro d
  induction d with
  | zero =>
    intro i N hi hN
    obtain ⟨N, rfl⟩ : ∃ q, N = q + 1 := ⟨N - 1, by omega⟩
    show fX4_rueOfAll_B4 w _ _ _ M = _
    unfold fX4_rueOfAll_B4
    rw [h7, if_pos ((nI_leI (by omega) (by omega)).mpr (by omega)), show i = n by omega]
  | succ d ih =>
    intro i N hi hN
    obtain ⟨N, rfl⟩ : ∃ q, N = q + 1 := ⟨N - 1, by omega⟩
    show fX4_rueOfAll_B4 w _ _ _ M = _
    unfold fX4_rueOfAll_B4
    rw [h7, if_neg (by rw [nI_leI (by omega) (by omega)]; omega), zG_t (zin_nI (by omega) (by decide)), nIc (by omega)]
    simp only [zL_r]
    rw [nI_1]
    exact ih (i + 1) N (by omega) (by omega)
theorem sSum_congr {f g : Nat → Int32} : ∀ {n : Nat}, (∀ i, i < n → f i = g i) → sSum f n = sSum g n
  | 0, _ => rfl
  | n + 1, h => by
    unfold sSum
    rw [sSum_congr (fun i hi => h i (Nat.lt_succ_of_lt hi)), h n (Nat.lt_succ_self n)]
theorem fX4_rueOfAll_e {w : Nat} {M : zM} (hM : okX w M) : fX4_rueOfAll w M = some (sAll (vX w M), M) := by
  obtain ⟨hn, h7⟩ := okX_n hM
  have h := rueOfAll_loop hn h7 (vN (vX w M)) 0 zF (by omega) (by unfold zF; omega)
  have e : sAll (vX w M) = sSum (M.1 (w + 3)) (vN (vX w M)) := sSum_congr (fun i hi => zt_lt hi _)
  rw [e]
  exact h
theorem longest_loop {w : Nat} (hw : isW w) {M0 : zM} (hM0 : okX w M0) : ∀ (d i N : Nat) (M : zM), zO SB M0 M → i + d = vN (vX w M0) → d < N → ∃ M', fX4_longest_L6 w N (sLon (vX w M0) i).1 (sLon (vX w M0) i).2 (nI i) M = some ((sLon (vX w M0) (vN (vX w M0))).1, M') ∧ zO SB M0 M' := by
  obtain ⟨hn, h7⟩ := okX_n hM0
  intro d
  induction d with
  | zero =>
    intro i N M hO hi hN
    obtain ⟨N, rfl⟩ : ∃ q, N = q + 1 := ⟨N - 1, by omega⟩
    have : i = vN (vX w M0) := by omega
    rw [this]
    refine ⟨M, ?_, hO⟩
    show fX4_longest_B6 w _ _ _ _ M = _
    unfold fX4_longest_B6
    rw [(SC_rows hw (SBC hO)).1, h7, if_pos (Int32.le_refl _)]
  | succ d ih =>
    intro i N M hO hi hN
    obtain ⟨N, rfl⟩ : ∃ q, N = q + 1 := ⟨N - 1, by omega⟩
    have hv := vX_congr hw (SBC hO)
    obtain ⟨M1, g1, g2⟩ := fX4_minutesOf_e hw (okX_congr hw (SBC hO) hM0) (i := i) (by rw [hv]; omega)
    obtain ⟨M', q1, q2⟩ := ih (i + 1) N M1 (zO_trans hO g2) (by omega) (by omega)
    refine ⟨M', ?_, q2⟩
    rw [← q1]
    show fX4_longest_B6 w _ _ _ _ M = _
    unfold fX4_longest_B6
    rw [(SC_rows hw (SBC hO)).1, h7, if_neg (by rw [nI_leI (by omega) (by omega)]; omega), zB_s g1, hv]
    have e : sLon (vX w M0) (i + 1) = if sMin (vX w M0) i ≤ (sLon (vX w M0) i).2 then sLon (vX w M0) i else (nI i, sMin (vX w M0) i) := rfl
    rw [e]
    by_cases c : sMin (vX w M0) i ≤ (sLon (vX w M0) i).2
    · rw [if_pos c, if_pos c, zL_r, nI_1]
    · rw [if_neg c, if_neg c, zL_r, nI_1]
theorem fX4_longest_e {w : Nat} (hw : isW w) {M : zM} (hM : okX w M) : ∃ M', fX4_longest w M = some ((sLon (vX w M) (vN (vX w M))).1, M') ∧ zO SB M M' :=
  longest_loop hw hM (vN (vX w M)) 0 zF M (zO_refl _ _) (by omega) (by have := (okX_n hM).1; unfold zF; omega)
theorem whoClog_loop {w : Nat} (hw : isW w) {M0 : zM} (hM0 : okX w M0) : ∀ (d i N : Nat) (M : zM), zO SB M0 M → i + d = vN (vX w M0) → d < N → ∃ M', fX4_whoClog_L4 w N (sClB (vX w M0) i) (nI i) M = some (sClB (vX w M0) (vN (vX w M0)), M') ∧ zO SB M0 M' := by
  obtain ⟨hn, h7⟩ := okX_n hM0
  intro d
  induction d with
  | zero =>
    intro i N M hO hi hN
    obtain ⟨N, rfl⟩ : ∃ q, N = q + 1 := ⟨N - 1, by omega⟩
    have : i = vN (vX w M0) := by omega
    rw [this]
    refine ⟨M, ?_, hO⟩
    show fX4_whoClog_B4 w _ _ _ M = _
    unfold fX4_whoClog_B4
    rw [(SC_rows hw (SBC hO)).1, h7, if_pos (Int32.le_refl _)]
  | succ d ih =>
    intro i N M hO hi hN
    obtain ⟨N, rfl⟩ : ∃ q, N = q + 1 := ⟨N - 1, by omega⟩
    have hv := vX_congr hw (SBC hO)
    obtain ⟨M1, g1, g2⟩ := fX4_clogsOf_e hw (okX_congr hw (SBC hO) hM0) (i := i) (by rw [hv]; omega)
    obtain ⟨M', q1, q2⟩ := ih (i + 1) N M1 (zO_trans hO g2) (by omega) (by omega)
    refine ⟨M', ?_, q2⟩
    rw [← q1]
    show fX4_whoClog_B4 w _ _ _ M = _
    unfold fX4_whoClog_B4
    rw [(SC_rows hw (SBC hO)).1, h7, if_neg (by rw [nI_leI (by omega) (by omega)]; omega), zB_s g1, hv]
    have e : sClB (vX w M0) (i + 1) = if sClg (vX w M0) i = 0 then sClB (vX w M0) i else sClB (vX w M0) i ||| zshl 1 (nI i) := rfl
    rw [e]
    by_cases c : sClg (vX w M0) i = 0
    · rw [if_pos c, if_pos c, zL_r, nI_1]
    · rw [if_neg c, if_neg c, zL_r, zL_r, nI_1]
theorem fX4_whoClog_e {w : Nat} (hw : isW w) {M : zM} (hM : okX w M) : ∃ M', fX4_whoClog w M = some (sClB (vX w M) (vN (vX w M)), M') ∧ zO SB M M' :=
  whoClog_loop hw hM (vN (vX w M)) 0 zF M (zO_refl _ _) (by omega) (by have := (okX_n hM).1; unfold zF; omega)
/-- a world becomes as another -/
theorem become_loop {w v : Nat} (hw : isW w) (hv : isW v) (hne : w ≠ v) (M0 : zM) : ∀ (d i N : Nat) (M : zM), zO [w + 1, w + 2, w + 3, w + 4] M0 M → (∀ a, 1 ≤ a → a ≤ 4 → ∀ j, M.1 (w + a) j = if j < i then M0.1 (v + a) j else M0.1 (w + a) j) → i + d = 5 → d < N → ∃ M', fX4_become_L34 w v N (nI i) M = some M' ∧ zO [w + 1, w + 2, w + 3, w + 4] M0 M' ∧ ∀ a, 1 ≤ a → a ≤ 4 → ∀ j, M'.1 (w + a) j = if j < 5 then M0.1 (v + a) j else M0.1 (w + a) j := by
  have hvw : ∀ a b, a ≤ 4 → b ≤ 4 → v + a ≠ w + b := fun a b ha hb => by
    rcases hw with rfl | rfl | rfl <;> rcases hv with rfl | rfl | rfl <;> omega
  intro d
  induction d with
  | zero =>
    intro i N M hO hj hi hN
    obtain ⟨N, rfl⟩ : ∃ q, N = q + 1 := ⟨N - 1, by omega⟩
    have : i = 5 := by omega
    subst this
    refine ⟨M, ?_, hO, hj⟩
    show fX4_become_B34 w v _ _ M = _
    unfold fX4_become_B34
    rw [if_pos (by decide)]
  | succ d ih =>
    intro i N M hO hj hi hN
    obtain ⟨N, rfl⟩ : ∃ q, N = q + 1 := ⟨N - 1, by omega⟩
    have hin := zin_nI (show i < 5 by omega) (n := 5) (by decide)
    have hvr : ∀ a, 1 ≤ a → a ≤ 4 → M.1 (v + a) = M0.1 (v + a) := fun a h1 h2 => hO.2 _ (by
      simp only [List.mem_cons, List.not_mem_nil, or_false]
      have := hvw a 1 h2 (by omega); have := hvw a 2 h2 (by omega); have := hvw a 3 h2 (by omega); have := hvw a 4 h2 (by omega)
      omega)
    obtain ⟨M1, e1⟩ : ∃ M1, M1 = zu M (w + 1) i (M0.1 (v + 1) i) := ⟨_, rfl⟩
    obtain ⟨M2, e2⟩ : ∃ M2, M2 = zu M1 (w + 2) i (M0.1 (v + 2) i) := ⟨_, rfl⟩
    obtain ⟨M3, e3⟩ : ∃ M3, M3 = zu M2 (w + 3) i (M0.1 (v + 3) i) := ⟨_, rfl⟩
    obtain ⟨M4, e4⟩ : ∃ M4, M4 = zu M3 (w + 4) i (M0.1 (v + 4) i) := ⟨_, rfl⟩
    have v2 : M1.1 (v + 2) = M0.1 (v + 2) := by rw [e1, zu_row _ (hvw 2 1 (by omega) (by omega))]; exact hvr 2 (by omega) (by omega)
    have v3 : M2.1 (v + 3) = M0.1 (v + 3) := by rw [e2, zu_row _ (hvw 3 2 (by omega) (by omega)), e1, zu_row _ (hvw 3 1 (by omega) (by omega))]; exact hvr 3 (by omega) (by omega)
    have v4 : M3.1 (v + 4) = M0.1 (v + 4) := by rw [e3, zu_row _ (hvw 4 3 (by omega) (by omega)), e2, zu_row _ (hvw 4 2 (by omega) (by omega)), e1, zu_row _ (hvw 4 1 (by omega) (by omega))]; exact hvr 4 (by omega) (by omega)
    have hO4 : zO [w + 1, w + 2, w + 3, w + 4] M0 M4 := by
      rw [e4, e3, e2, e1]
      exact zO_trans (zO_trans (zO_trans (zO_trans hO (zO_zu _ _ _ _ (by simp))) (zO_zu _ _ _ _ (by simp))) (zO_zu _ _ _ _ (by simp))) (zO_zu _ _ _ _ (by simp))
    obtain ⟨M', q1, q2⟩ := ih (i + 1) N M4 hO4 (fun a h1 h2 j => by
      have key : M4.1 (w + a) j = if j = i then M0.1 (v + a) i else M.1 (w + a) j := by
        rcases (show a = 1 ∨ a = 2 ∨ a = 3 ∨ a = 4 by omega) with rfl | rfl | rfl | rfl
        · rw [e4, zu_row _ (by omega), e3, zu_row _ (by omega), e2, zu_row _ (by omega), e1, zu_at]
          by_cases c : j = i
          · rw [if_pos ⟨rfl, c⟩, if_pos c]
          · rw [if_neg (fun q => c q.2), if_neg c]
        · rw [e4, zu_row _ (by omega), e3, zu_row _ (by omega), e2, zu_at]
          by_cases c : j = i
          · rw [if_pos ⟨rfl, c⟩, if_pos c]
          · rw [if_neg (fun q => c q.2), if_neg c, e1, zu_row _ (by omega)]
        · rw [e4, zu_row _ (by omega), e3, zu_at]
          by_cases c : j = i
          · rw [if_pos ⟨rfl, c⟩, if_pos c]
          · rw [if_neg (fun q => c q.2), if_neg c, e2, zu_row _ (by omega), e1, zu_row _ (by omega)]
        · rw [e4, zu_at]
          by_cases c : j = i
          · rw [if_pos ⟨rfl, c⟩, if_pos c]
          · rw [if_neg (fun q => c q.2), if_neg c, e3, zu_row _ (by omega), e2, zu_row _ (by omega), e1, zu_row _ (by omega)]
      rw [key, hj a h1 h2 j]
      by_cases c : j = i
      · rw [if_pos c, if_pos (by omega), c]
      · rw [if_neg c]
        by_cases c2 : j < i
        · rw [if_pos c2, if_pos (by omega)]
        · rw [if_neg c2, if_neg (by omega)]) (by omega) (by omega)
    refine ⟨M', ?_, q2⟩
    rw [← q1]
    show fX4_become_B34 w v _ _ M = _
    unfold fX4_become_B34
    rw [if_neg (by rw [show (5 : Int32) = nI 5 from rfl, nI_leI (by omega) (by omega)]; omega)]
    simp only [zG_t hin, nIc (show i < 2 ^ 31 by omega), zL_r]
    rw [hvr 1 (by omega) (by omega), ← e1, v2, ← e2, v3, ← e3, v4, ← e4, nI_1]
theorem fX4_become_e {w v : Nat} (hw : isW w) (hv : isW v) (hne : w ≠ v) {M : zM} (hM : okX v M) : ∃ M', fX4_become w v M = some M' ∧ vX w M' = vX v M ∧ okX w M' ∧ zO [w, w + 1, w + 2, w + 3, w + 4] M M' ∧ (∀ a, 1 ≤ a → a ≤ 4 → ∀ j, j < 5 → M'.1 (w + a) j = M.1 (v + a) j) ∧ (∀ k, 7 ≤ k → k ≤ 10 → M'.1 w k = M.1 v k) := by
  have hvw : ∀ a b, a ≤ 4 → b ≤ 4 → v + a ≠ w + b := fun a b ha hb => by
    rcases hw with rfl | rfl | rfl <;> rcases hv with rfl | rfl | rfl <;> omega
  have hv0 : v ≠ w := Ne.symm hne
  obtain ⟨hn, h7⟩ := okX_n hM
  obtain ⟨M1, e1⟩ : ∃ M1, M1 = zu M w 7 (M.1 v 7) := ⟨_, rfl⟩
  obtain ⟨M2, e2⟩ : ∃ M2, M2 = zu M1 w 8 (M1.1 v 8) := ⟨_, rfl⟩
  obtain ⟨M3, e3⟩ : ∃ M3, M3 = zu M2 w 9 (M2.1 v 9) := ⟨_, rfl⟩
  obtain ⟨M4, e4⟩ : ∃ M4, M4 = zu M3 w 10 (M3.1 v 10) := ⟨_, rfl⟩
  have r1 : M1.1 v = M.1 v := by rw [e1, zu_row _ hv0]
  have r2 : M2.1 v = M.1 v := by rw [e2, zu_row _ hv0, r1]
  have r3 : M3.1 v = M.1 v := by rw [e3, zu_row _ hv0, r2]
  have hO4 : zO [w] M M4 := by
    rw [e4, e3, e2, e1]
    exact zO_trans (zO_trans (zO_trans (zO_zu _ _ _ _ (by simp)) (zO_zu _ _ _ _ (by simp))) (zO_zu _ _ _ _ (by simp))) (zO_zu _ _ _ _ (by simp))
  obtain ⟨M', q1, q2, q3⟩ := become_loop hw hv hne M4 5 0 zF M4 (zO_refl _ _) (fun a h1 h2 j => by rw [if_neg (by omega)]) (by omega) (by unfold zF; omega)
  have c0 : M'.1 w = M4.1 w := q2.2 _ (by simp)
  have c7 : M'.1 w 7 = M.1 v 7 := by rw [c0, e4, zu_other _ _ (by decide), e3, zu_other _ _ (by decide), e2, zu_other _ _ (by decide), e1, zu_same]
  have c8 : M'.1 w 8 = M.1 v 8 := by rw [c0, e4, zu_other _ _ (by decide), e3, zu_other _ _ (by decide), e2, zu_same, r1]
  have c9 : M'.1 w 9 = M.1 v 9 := by rw [c0, e4, zu_other _ _ (by decide), e3, zu_same, r2]
  have c10 : M'.1 w 10 = M.1 v 10 := by rw [c0, e4, zu_same, r3]
  have hO : zO [w, w + 1, w + 2, w + 3, w + 4] M M' := zO_trans (zO_mono hO4 (by simp)) (zO_mono q2 (fun i hi => List.mem_cons_of_mem _ hi))
  have hrow : ∀ a, 1 ≤ a → a ≤ 4 → ∀ j, j < 5 → M'.1 (w + a) j = M.1 (v + a) j := fun a h1 h2 j hj => by
    rw [q3 a h1 h2 j, if_pos hj, hO4.2 _ (by simpa using hvw a 0 h2 (by omega))]
  have ht : ∀ r, M'.1 (32 + 4 * r + 1) = M.1 (32 + 4 * r + 1) ∧ M'.1 (32 + 4 * r + 2) = M.1 (32 + 4 * r + 2) := fun r => by
    refine ⟨hO.2 _ ?_, hO.2 _ ?_⟩ <;> rcases hw with rfl | rfl | rfl <;> simp <;> omega
  have hc : ∀ r p, cX M' r p = cX M r p := fun r p => by unfold cX; rw [(ht r).1, (ht r).2]
  have htx : ∀ r, tX M' r = tX M r := fun r => by unfold tX; funext p nm; rw [hc]
  refine ⟨M', ?_, ?_, ?_, hO, hrow, fun k g1 g2 => by rcases (show k = 7 ∨ k = 8 ∨ k = 9 ∨ k = 10 by omega) with rfl | rfl | rfl | rfl <;> assumption⟩
  · unfold fX4_become
    rw [zL_r, ← e1, zL_r, ← e2, zL_r, ← e3, zL_r, ← e4]
    exact q1
  · have hn5 : (M.1 v 7).toNatClampNeg ≤ 5 := hn
    refine zV_ext (by show (M'.1 w 7).toNatClampNeg = (M.1 v 7).toNatClampNeg; rw [c7]) c8 c9 ?_ ?_ ?_ ?_ (by show tX M' (M'.1 w 10).toNatClampNeg = tX M (M.1 v 10).toNatClampNeg; rw [c10, htx])
    · show zt (M'.1 w 7).toNatClampNeg (M'.1 (w + 1)) = zt (M.1 v 7).toNatClampNeg (M.1 (v + 1))
      rw [c7]; exact zt_congr (fun j hj => hrow 1 (by omega) (by omega) j (by omega))
    · show zt (M'.1 w 7).toNatClampNeg (M'.1 (w + 2)) = zt (M.1 v 7).toNatClampNeg (M.1 (v + 2))
      rw [c7]; exact zt_congr (fun j hj => hrow 2 (by omega) (by omega) j (by omega))
    · show zt (M'.1 w 7).toNatClampNeg (M'.1 (w + 3)) = zt (M.1 v 7).toNatClampNeg (M.1 (v + 3))
      rw [c7]; exact zt_congr (fun j hj => hrow 3 (by omega) (by omega) j (by omega))
    · show zt (M'.1 w 7).toNatClampNeg (M'.1 (w + 4)) = zt (M.1 v 7).toNatClampNeg (M.1 (v + 4))
      rw [c7]; exact zt_congr (fun j hj => hrow 4 (by omega) (by omega) j (by omega))
  · obtain ⟨⟨n, hn', h7'⟩, r, hr, h10, hT⟩ := hM
    refine ⟨⟨n, hn', by rw [c7]; exact h7'⟩, r, hr, by rw [c10]; exact h10, ?_⟩
    unfold okT
    rw [(ht r).2]
    exact ⟨hT.1, fun p hp => by rw [hc]; exact hT.2 p hp⟩

/-! a glass is filmed -/
/-- a kept sheet of bytes -/
theorem zi2b_small : ∀ n, n < 10 → zi2b (nI n) = nI n := by decide
theorem sMin_nat (V : zVw) (i : Nat) : ∃ n : Nat, n < 10 ∧ sMin V i = nI n := by
  obtain ⟨n, -, hn, e⟩ := i32_in (a := 0) (b := 9) (sMin_nn V i) (sMin_le V i) (by omega) (by omega)
  exact ⟨n, by omega, e⟩
theorem vX_rows6 {w : Nat} {M M' : zM} (hM : okX w M) (h : ∀ k, k < 5 → M'.1 (w + k) = M.1 (w + k)) (ht : ∀ r, r < 6 → M'.1 (32 + 4 * r + 1) = M.1 (32 + 4 * r + 1) ∧ M'.1 (32 + 4 * r + 2) = M.1 (32 + 4 * r + 2)) : vX w M' = vX w M ∧ okX w M' := by
  have e0 : M'.1 w = M.1 w := h 0 (by omega)
  obtain ⟨⟨n, hn', h7'⟩, r, hr, h10, hT⟩ := hM
  have hc : ∀ p, cX M' r p = cX M r p := fun p => by unfold cX; rw [(ht r hr).1, (ht r hr).2]
  have hrr : (M.1 w 10).toNatClampNeg = r := by rw [h10, nIc (by omega)]
  have htx : tX M' r = tX M r := by unfold tX; funext p nm; rw [hc]
  refine ⟨?_, ⟨n, hn', by rw [e0]; exact h7'⟩, r, hr, by rw [e0]; exact h10, ?_⟩
  · unfold vX
    rw [e0, h 1 (by omega), h 2 (by omega), h 3 (by omega), h 4 (by omega), hrr, htx]
  · unfold okT
    rw [(ht r hr).2]
    exact ⟨hT.1, fun p hp => by rw [hc]; exact hT.2 p hp⟩
theorem filmX_loop {s i n : Nat} (hs : s < 4) (hn : n ≤ 30) (V : zVw) (hiV : i < vN V) {M0 : zM} (h1 : M0.1 (56 + 2 * s) 1 = 0) (h2 : M0.1 (56 + 2 * s) 2 = nI n) (h0 : ∀ j, j < 40 → M0.1 (56 + 2 * s + 1) j = 0) : ∀ (d k N : Nat) (M : zM), okX 17 M → vX 17 M = sDays V k → zO ((56 + 2 * s + 1) :: SX0) M0 M → (∀ j, j < 40 → M.1 (56 + 2 * s + 1) j = if j < k then sMin (sDays V j) i else 0) → k + d = n → d < N → ∃ M', fX5_film_L62 N (nI i) (nI n) (56 + 2 * s) (nI k) M = some (nI n, M') ∧ zO ((56 + 2 * s + 1) :: SX0) M0 M' ∧ ∀ j, j < 40 → M'.1 (56 + 2 * s + 1) j = if j < n then sMin (sDays V j) i else 0 := by
  have hw : isW 17 := Or.inr (Or.inl rfl)
  intro d
  induction d with
  | zero =>
    intro k N M hM hv hO hj hk hN
    obtain ⟨N, rfl⟩ : ∃ q, N = q + 1 := ⟨N - 1, by omega⟩
    have : k = n := by omega
    subst this
    refine ⟨M, ?_, hO, hj⟩
    show fX5_film_B62 _ _ _ _ _ M = _
    unfold fX5_film_B62
    rw [if_pos (Int32.le_refl _)]
  | succ d ih =>
    intro k N M hM hv hO hj hk hN
    obtain ⟨N, rfl⟩ : ∃ q, N = q + 1 := ⟨N - 1, by omega⟩
    have hiV' : i < vN (vX 17 M) := by rw [hv, sDays_n]; exact hiV
    obtain ⟨X1, x1, x2⟩ := fX4_minutesOf_e hw hM hiV'
    rw [hv] at x1
    obtain ⟨v, hv9, ev⟩ := sMin_nat (sDays V k) i
    have hO1 : zO ((56 + 2 * s + 1) :: SX0) M0 X1 := zO_trans hO (zO_mono (SB_X0 x2) (fun a ha => List.mem_cons_of_mem _ ha))
    have hq : 56 + 2 * s ∉ (56 + 2 * s + 1) :: SX0 := fun q => by
      simp only [SX0, List.mem_cons, List.not_mem_nil, or_false] at q
      omega
    have e1 : X1.1 (56 + 2 * s) 1 = 0 := by rw [hO1.2 _ hq]; exact h1
    have e2 : X1.1 (56 + 2 * s) 2 = nI n := by rw [hO1.2 _ hq]; exact h2
    have hr : X1.1 (56 + 2 * s + 1) = M.1 (56 + 2 * s + 1) := (SB_X0 x2).2 _ (fun q => by
      simp only [SX0, List.mem_cons, List.not_mem_nil, or_false] at q
      omega)
    obtain ⟨X2, eX2⟩ : ∃ X2, X2 = zu X1 (56 + 2 * s + 1) k (sMin (sDays V k) i) := ⟨_, rfl⟩
    have hput : fX0_put (56 + 2 * s) (nI k) (sMin (sDays V k) i) X1 = some X2 := by
      unfold fX0_put
      rw [if_neg (nI_pos (by omega)), e2, if_neg (by rw [nI_leI (by omega) (by omega)]; omega), e1, if_pos rfl, zG_t (zin_nI (by omega) (by decide)), nIc (by omega), zL_r, eX2, ev, zi2b_small v hv9]
    have hX2 : ∀ a, a ≠ 56 + 2 * s + 1 → X2.1 a = X1.1 a := fun a ha => by rw [eX2, zu_row _ ha]
    have oX1 := okX_congr hw (SBC x2) hM
    have hvr := vX_rows6 (w := 17) (M := X1) (M' := X2) oX1 (fun a ha => hX2 _ (by omega)) (fun r hr => ⟨hX2 _ (by omega), hX2 _ (by omega)⟩)
    have vv1 : vX 17 X1 = sDays V k := by rw [vX_congr hw (SBC x2), hv]
    obtain ⟨X3, y1, y2, y3, y4, -⟩ := fX4_passDay_e hw hvr.2
    rw [hvr.1, vv1] at y2
    have hO3 : zO SX0 X2 X3 := zO_mono y4 (fun a ha => by
      simp only [SC, List.mem_cons, List.not_mem_nil, or_false] at ha
      simp only [SX0, List.mem_cons, List.not_mem_nil, or_false]
      omega)
    have hr3 : X3.1 (56 + 2 * s + 1) = X2.1 (56 + 2 * s + 1) := hO3.2 _ (fun q => by
      simp only [SX0, List.mem_cons, List.not_mem_nil, or_false] at q
      omega)
    obtain ⟨M', q1, q2⟩ := ih (k + 1) N X3 y3 y2 (zO_trans (zO_trans hO1 (by rw [eX2]; exact zO_zu _ _ _ _ List.mem_cons_self)) (zO_mono hO3 (fun a ha => List.mem_cons_of_mem _ ha))) (fun j hjl => by
      rw [hr3, eX2, zu_at1, hr, hj j hjl]
      by_cases c : j = k
      · rw [if_pos c, if_pos (by omega), c]
      · rw [if_neg c]
        by_cases c2 : j < k
        · rw [if_pos c2, if_pos (by omega)]
        · rw [if_neg c2, if_neg (by omega)]) (by omega) (by omega)
    refine ⟨M', ?_, q2⟩
    rw [← q1]
    show fX5_film_B62 _ _ _ _ _ M = _
    unfold fX5_film_B62
    rw [if_neg (by rw [nI_leI (by omega) (by omega)]; omega), zB_s x1, zV_s hput, zV_s y1, zL_r, nI_1]
theorem zTh_cell {M0 M : zM} {V : zVw} (h : mTh M0 M V) (p : Nat) (v : Int32) : mTh (zu M0 22 p v) (zu M 22 p v) V := by
  obtain ⟨⟨t1, t2, t3⟩, ⟨k1, k2, k3, k4⟩, h3, h4, h5⟩ := h
  have r : ∀ (M : zM) i, i ≠ 22 → (zu M 22 p v).1 i = M.1 i := fun M i hi => zu_row _ hi _ _
  obtain ⟨u1, u2⟩ := vM_rows (M := M) (M' := zu M 22 p v) ⟨by rw [r M 0 (by decide)], by rw [r M 0 (by decide)], by rw [r M 0 (by decide)], by rw [r M 0 (by decide)]⟩ (r M 1 (by decide)) (r M 2 (by decide)) (r M 3 (by decide)) (r M 4 (by decide)) (r M 6 (by decide)) (r M 7 (by decide)) (r M 8 (by decide))
  refine ⟨⟨t1, fun i hi => ?_, fun k a b c d => ?_⟩, ⟨?_, ?_, fun j hj => ?_, fun j hj => ?_⟩, by rw [u1, h3], u2 h4, h5⟩
  · by_cases c : i = 22
    · subst c
      funext j
      rw [zu_at1, zu_at1, t2 22 hi]
    · rw [r M i c, r M0 i c]; exact t2 i hi
  · rw [r M 0 (by decide), r M0 0 (by decide)]; exact t3 k a b c d
  · rw [r M 0 (by decide), r M0 0 (by decide)]; exact k1
  · rw [r M 0 (by decide), r M0 0 (by decide)]; exact k2
  · rw [r M 12 (by decide), r M0 3 (by decide)]; exact k3 j hj
  · rw [r M 13 (by decide), r M0 4 (by decide)]; exact k4 j hj
/-- M0 is what the reference goes back to: its sheet is written meanwhile -/
theorem filmM_loop {s i n : Nat} (hs : s < 4) (hn : n ≤ 30) (V : zVw) (hiV : i < vN V) (c22 : Nat → Int32) : ∀ (d k N : Nat) (M0 M : zM), mTh M0 M (sDays V (k - 1)) → (∀ p, M0.1 22 p = if 40 * s ≤ p ∧ p < 40 * s + k then sMin (sDays V (p - 40 * s)) i else c22 p) → k + d = n → d < N → ∃ M0' M', fX6_film_L43 N (nI s) (nI i) (nI n) (nI k) M = some (nI n, M') ∧ zBk M0' M' ∧ zO [22] M0 M0' ∧ ∀ p, M0'.1 22 p = if 40 * s ≤ p ∧ p < 40 * s + n then sMin (sDays V (p - 40 * s)) i else c22 p := by
  intro d
  induction d with
  | zero =>
    intro k N M0 M h hp hk hN
    obtain ⟨N, rfl⟩ : ∃ q, N = q + 1 := ⟨N - 1, by omega⟩
    have : k = n := by omega
    subst this
    obtain ⟨M', b1, b2⟩ := mTh_back h
    refine ⟨M0, M', ?_, b2, zO_refl _ _, hp⟩
    show fX6_film_B43 _ _ _ _ _ M = _
    unfold fX6_film_B43
    rw [if_pos (Int32.le_refl _), zV_s b1]
  | succ d ih =>
    intro k N M0 M h hp hk hN
    obtain ⟨N, rfl⟩ : ∃ q, N = q + 1 := ⟨N - 1, by omega⟩
    -- behind the day
    have J : ∀ M1 : zM, mTh M0 M1 (sDays V k) → ∃ M0' M', fX6_film_J58 (fX6_film_L43 N) (nI s) (nI i) (nI n) (nI k) M1 = some (nI n, M') ∧ zBk M0' M' ∧ zO [22] M0 M0' ∧ ∀ p, M0'.1 22 p = if 40 * s ≤ p ∧ p < 40 * s + n then sMin (sDays V (p - 40 * s)) i else c22 p := by
      intro M1 h1
      obtain ⟨M2, g1, g2⟩ := mTh_minutes h1 (i := i) (by rw [sDays_n]; exact hiV)
      obtain ⟨M0', M', q1, q2, q3, q4⟩ := ih (k + 1) N (zu M0 22 (40 * s + k) (sMin (sDays V k) i)) (zu M2 22 (40 * s + k) (sMin (sDays V k) i)) (zTh_cell g2 _ _) (fun p => by
        rw [zu_at1, hp]
        by_cases c : p = 40 * s + k
        · rw [if_pos c, if_pos (by omega), show p - 40 * s = k by omega]
        · rw [if_neg c]
          by_cases c2 : 40 * s ≤ p ∧ p < 40 * s + k
          · rw [if_pos c2, if_pos (by omega)]
          · rw [if_neg c2, if_neg (by omega)]) (by omega) (by omega)
      refine ⟨M0', M', ?_, q2, zO_trans (zO_zu _ _ _ _ (by simp)) q3, q4⟩
      rw [← q1]
      unfold fX6_film_J58
      rw [zB_s g1, cl_ix, zG_t (zin_nI (by omega) (by decide)), nIc (by omega), zL_r, zL_r, nI_1]
    show ∃ M0' M', fX6_film_B43 (fX6_film_L43 N) (nI s) (nI i) (nI n) (nI k) M = _ ∧ _
    unfold fX6_film_B43
    rw [if_neg (by rw [nI_leI (by omega) (by omega)]; omega)]
    by_cases c0 : k = 0
    · rw [if_pos (by rw [c0]; decide)]
      exact J M (by rw [c0] at h ⊢; exact h)
    · rw [if_neg (by rw [show (0 : Int32) = nI 0 from rfl, nI_leI (by omega) (by omega)]; omega)]
      obtain ⟨M1, g1, g2⟩ := mTh_goes h
      rw [zV_s g1]
      exact J M1 (by rw [show k = k - 1 + 1 by omega]; exact g2)

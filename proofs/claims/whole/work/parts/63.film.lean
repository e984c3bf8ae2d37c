/-! a glass is filmed -/
/-- a kept sheet of bytes -/
theorem zi2b_small : ∀ n, n < 10 → zi2b (nI n) = nI n := by decide
theorem sMin_nat (V : zVw) (i : Nat) : ∃ n : Nat, n < 10 ∧ sMin V i = nI n := by
  obtain ⟨n, -, hn, e⟩ := i32_in (a := 0) (b := 9) (sMin_nn V i) (sMin_le V i) (by omega) (by omega)
  exact ⟨n, by omega, e⟩
theorem vX_rows6 {w : Nat} {M M' : zM} (hM : okX w M) (h : ∀ k, k < 5 → M'.1 (w + k) = M.1 (w + k)) (ht : ∀ r, r < 6 → M'.1 (32 + 4 * r + 1) = M.1 (32 + 4 * r + 1) ∧ M'.1 (32 + 4 * r + 2) = M.1 (32 + 4 * r + 2)) : vX w M' = vX w M ∧ okX w M' := by
  have e0 : M'.1 w = M.1 w := h 0 (by omega)
  obtain ⟨⟨n, hn', h7'⟩, r, hr, h10, hT⟩ := hM
  have hc : ∀ p, cX M' r p = cX M r p := fun p => by unfold cX; rw [(ht r hr).1, (ht r hr).2]
  have hrr : (M.1 w 10).toNatClampNeg = r := by rw [h10, nIc (by omega)]
  have htx : tX M' r = tX M r := by unfold tX; funext p nm; rw [hc]
  refine ⟨?_, ⟨n, hn', by rw [e0]; exact h7'⟩, r, hr, by rw [e0]; exact h10, ?_⟩
  · unfold vX
    rw [e0, h 1 (by omega), h 2 (by omega), h 3 (by omega), h 4 (by omega), hrr, htx]
  · unfold okT
    rw [(ht r hr).2]
    exact ⟨hT.1, fun p hp => by rw [hc]; exact hT.2 p hp⟩
theorem filmX_loop {s i n : Nat} (hs : s < 4) (hn : n ≤ 30) (V : zVw) (hiV : i < vN V) {M0 : zM} (h1 : M0.1 (56 + 2 * s) 1 = 0) (h2 : M0.1 (56 + 2 * s) 2 = nI n) (h0 : ∀ j, j < 40 → M0.1 (56 + 2 * s + 1) j = 0) : ∀ (d k N : Nat) (M : zM), okX 17 M → vX 17 M = sDays V k → zO ((56 + 2 * s + 1) :: SX0) M0 M → (∀ j, j < 40 → M.1 (56 + 2 * s + 1) j = if j < k then sMin (sDays V j) i else 0) → k + d = n → d < N → ∃ M', fX5_film_L62 N (nI i) (nI n) (56 + 2 * s) (nI k) M = some (nI n, M') ∧ zO ((56 + 2 * s + 1) :: SX0) M0 M' ∧ ∀ j, j < 40 → M'.1 (56 + 2 * s + 1) j = if j < n then sMin (sDays V j) i else 0 := by
  have hw : isW 17 := Or.inr (Or.inl rfl)
  intro d
  induction d with
  | zero =>
    intro k N M hM hv hO hj hk hN
    obtain ⟨N, rfl⟩ : ∃ q, N = q + 1 := ⟨N - 1, by omega⟩
    have : k = n := by omega
    subst this
    refine ⟨M, ?_, hO, hj⟩
    show fX5_film_B62 _ _ _ _ _ M = _
    unfold fX5_film_B62
    rw [if_pos (Int32.le_refl _)]
  | succ d ih =>
    intro k N M hM hv hO hj hk hN
    obtain ⟨N, rfl⟩ : ∃ q, N = q + 1 := ⟨N - 1, by omega⟩
    have hiV' : i < vN (vX 17 M) := by rw [hv, sDays_n]; exact hiV
    obtain ⟨X1, x1, x2⟩ := fX4_minutesOf_e hw hM hiV'
    rw [hv] at x1
    obtain ⟨v, hv9, ev⟩ := sMin_nat (sDays V k) i
    have hO1 : zO ((56 + 2 * s + 1) :: SX0) M0 X1 := zO_trans hO (zO_mono (SB_X0 x2) (fun a ha => List.mem_cons_of_mem _ ha))
    have hq : 56 + 2 * s ∉ (56 + 2 * s + 1) :: SX0 := fun q => by
      simp only [SX0, List.mem_cons, List.not_mem_nil, or_false] at q
      omega
    have e1 : X1.1 (56 + 2 * s) 1 = 0 := by rw [hO1.2 _ hq]; exact h1
    have e2 : X1.1 (56 + 2 * s) 2 = nI n := by rw [hO1.2 _ hq]; exact h2
    have hr : X1.1 (56 + 2 * s + 1) = M.1 (56 + 2 * s + 1) := (SB_X0 x2).2 _ (fun q => by
      simp only [SX0, List.mem_cons, List.not_mem_nil, or_false] at q
      omega)
    obtain ⟨X2, eX2⟩ : ∃ X2, X2 = zu X1 (56 + 2 * s + 1) k (sMin (sDays V k) i) := ⟨_, rfl⟩
    have hput : fX0_put (56 + 2 * s) (nI k) (sMin (sDays V k) i) X1 = some X2 := by
      unfold fX0_put
      rw [if_neg (nI_pos (by omega)), e2, if_neg (by rw [nI_leI (by omega) (by omega)]; omega), e1, if_pos rfl, zG_t (zin_nI (by omega) (by decide)), nIc (by omega), zL_r, eX2, ev, zi2b_small v hv9]
    have hX2 : ∀ a, a ≠ 56 + 2 * s + 1 → X2.1 a = X1.1 a := fun a ha => by rw [eX2, zu_row _ ha]
    have oX1 := okX_congr hw (SBC x2) hM
    have hvr := vX_rows6 (w := 17) (M := X1) (M' := X2) oX1 (fun a ha => hX2 _ (by omega)) (fun r hr => ⟨hX2 _ (by omega), hX2 _ (by omega)⟩)
    have vv1 : vX 17 X1 = sDays V k := by rw [vX_congr hw (SBC x2), hv]
    obtain ⟨X3, y1, y2, y3, y4, -⟩ := fX4_passDay_e hw hvr.2
    rw [hvr.1, vv1] at y2
    have hO3 : zO SX0 X2 X3 := zO_mono y4 (fun a ha => by
      simp only [SC, List.mem_cons, List.not_mem_nil, or_false] at ha
      simp only [SX0, List.mem_cons, List.not_mem_nil, or_false]
      omega)
    have hr3 : X3.1 (56 + 2 * s + 1) = X2.1 (56 + 2 * s + 1) := hO3.2 _ (fun q => by
      simp only [SX0, List.mem_cons, List.not_mem_nil, or_false] at q
      omega)
    obtain ⟨M', q1, q2⟩ := ih (k + 1) N X3 y3 y2 (zO_trans (zO_trans hO1 (by rw [eX2]; exact zO_zu _ _ _ _ List.mem_cons_self)) (zO_mono hO3 (fun a ha => List.mem_cons_of_mem _ ha))) (fun j hjl => by
      rw [hr3, eX2, zu_at1, hr, hj j hjl]
      by_cases c : j = k
      · rw [if_pos c, if_pos (by omega), c]
      · rw [if_neg c]
        by_cases c2 : j < k
        · rw [if_pos c2, if_pos (by omega)]
        · rw [if_neg c2, if_neg (by omega)]) (by omega) (by omega)
    refine ⟨M', ?_, q2⟩
    rw [← q1]
    show fX5_film_B62 _ _ _ _ _ M = _
    unfold fX5_film_B62
    rw [if_neg (by rw [nI_leI (by omega) (by omega)]; omega), zB_s x1, zV_s hput, zV_s y1, zL_r, nI_1]
theorem zTh_cell {M0 M : zM} {V : zVw} (h : mTh M0 M V) (p : Nat) (v : Int32) : mTh (zu M0 22 p v) (zu M 22 p v) V := by
  obtain ⟨⟨t1, t2, t3⟩, ⟨k1, k2, k3, k4⟩, h3, h4, h5⟩ := h
  have r : ∀ (M : zM) i, i ≠ 22 → (zu M 22 p v).1 i = M.1 i := fun M i hi => zu_row _ hi _ _
  obtain ⟨u1, u2⟩ := vM_rows (M := M) (M' := zu M 22 p v) ⟨by rw [r M 0 (by decide)], by rw [r M 0 (by decide)], by rw [r M 0 (by decide)], by rw [r M 0 (by decide)]⟩ (r M 1 (by decide)) (r M 2 (by decide)) (r M 3 (by decide)) (r M 4 (by decide)) (r M 6 (by decide)) (r M 7 (by decide)) (r M 8 (by decide))
  refine ⟨⟨t1, fun i hi => ?_, fun k a b c d => ?_⟩, ⟨?_, ?_, fun j hj => ?_, fun j hj => ?_⟩, by rw [u1, h3], u2 h4, h5⟩
  · by_cases c : i = 22
    · subst c
      funext j
      rw [zu_at1, zu_at1, t2 22 hi]
    · rw [r M i c, r M0 i c]; exact t2 i hi
  · rw [r M 0 (by decide), r M0 0 (by decide)]; exact t3 k a b c d
  · rw [r M 0 (by decide), r M0 0 (by decide)]; exact k1
  · rw [r M 0 (by decide), r M0 0 (by decide)]; exact k2
  · rw [r M 12 (by decide), r M0 3 (by decide)]; exact k3 j hj
  · rw [r M 13 (by decide), r M0 4 (by decide)]; exact k4 j hj
/-- M0 is what the reference goes back to: its sheet is written meanwhile -/
theorem filmM_loop {s i n : Nat} (hs : s < 4) (hn : n ≤ 30) (V : zVw) (hiV : i < vN V) (c22 : Nat → Int32) : ∀ (d k N : Nat) (M0 M : zM), mTh M0 M (sDays V (k - 1)) → (∀ p, M0.1 22 p = if 40 * s ≤ p ∧ p < 40 * s + k then sMin (sDays V (p - 40 * s)) i else c22 p) → k + d = n → d < N → ∃ M0' M', fX6_film_L43 N (nI s) (nI i) (nI n) (nI k) M = some (nI n, M') ∧ zBk M0' M' ∧ zO [22] M0 M0' ∧ ∀ p, M0'.1 22 p = if 40 * s ≤ p ∧ p < 40 * s + n then sMin (sDays V (p - 40 * s)) i else c22 p := by
  intro d
  induction d with
  | zero =>
    intro k N M0 M h hp hk hN
    obtain ⟨N, rfl⟩ : ∃ q, N = q + 1 := ⟨N - 1, by omega⟩
    have : k = n := by omega
    subst this
    obtain ⟨M', b1, b2⟩ := mTh_back h
    refine ⟨M0, M', ?_, b2, zO_refl _ _, hp⟩
    show fX6_film_B43 _ _ _ _ _ M = _
    unfold fX6_film_B43
    rw [if_pos (Int32.le_refl _), zV_s b1]
  | succ d ih =>
    intro k N M0 M h hp hk hN
    obtain ⟨N, rfl⟩ : ∃ q, N = q + 1 := ⟨N - 1, by omega⟩
    -- behind the day
    have J : ∀ M1 : zM, mTh M0 M1 (sDays V k) → ∃ M0' M', fX6_film_J58 (fX6_film_L43 N) (nI s) (nI i) (nI n) (nI k) M1 = some (nI n, M') ∧ zBk M0' M' ∧ zO [22] M0 M0' ∧ ∀ p, M0'.1 22 p = if 40 * s ≤ p ∧ p < 40 * s + n then sMin (sDays V (p - 40 * s)) i else c22 p := by
      intro M1 h1
      obtain ⟨M2, g1, g2⟩ := mTh_minutes h1 (i := i) (by rw [sDays_n]; exact hiV)
      obtain ⟨M0', M', q1, q2, q3, q4⟩ := ih (k + 1) N (zu M0 22 (40 * s + k) (sMin (sDays V k) i)) (zu M2 22 (40 * s + k) (sMin (sDays V k) i)) (zTh_cell g2 _ _) (fun p => by
        rw [zu_at1, hp]
        by_cases c : p = 40 * s + k
        · rw [if_pos c, if_pos (by omega), show p - 40 * s = k by omega]
        · rw [if_neg c]
          by_cases c2 : 40 * s ≤ p ∧ p < 40 * s + k
          · rw [if_pos c2, if_pos (by omega)]
          · rw [if_neg c2, if_neg (by omega)]) (by omega) (by omega)
      refine ⟨M0', M', ?_, q2, zO_trans (zO_zu _ _ _ _ (by simp)) q3, q4⟩
      rw [← q1]
      unfold fX6_film_J58
      rw [zB_s g1, cl_ix, zG_t (zin_nI (by omega) (by decide)), nIc (by omega), zL_r, zL_r, nI_1]
    show ∃ M0' M', fX6_film_B43 (fX6_film_L43 N) (nI s) (nI i) (nI n) (nI k) M = _ ∧ _
    unfold fX6_film_B43
    rw [if_neg (by rw [nI_leI (by omega) (by omega)]; omega)]
    by_cases c0 : k = 0
    · rw [if_pos (by rw [c0]; decide)]
      exact J M (by rw [c0] at h ⊢; exact h)
    · rw [if_neg (by rw [show (0 : Int32) = nI 0 from rfl, nI_leI (by omega) (by omega)]; omega)]
      obtain ⟨M1, g1, g2⟩ := mTh_goes h
      rw [zV_s g1]
      exact J M1 (by rw [show k = k - 1 + 1 by omega]; exact g2)
theorem st_film {T : zM → Prop} (hTab : tabOk T) (MX MM : zM) (hR : RelT T MX MM) (a1 a2 a3 : Int32) : ∃ (r : Int32) (MX' MM' : zM), fX5_film a1 a2 a3 MX = some (r, MX') ∧ fX6_film a1 a2 a3 MM = some (r, MM') ∧ RelT T MX' MM' := by
  obtain ⟨hT, t, hP, hTx, hA, hSh, hI⟩ := id hR
  obtain ⟨nn, r, hnn, hr, a7, b2, a10, b7, oX, oM, oV, hv, n2, n1⟩ := rP_view hP hTx
  unfold fX5_film fX6_film
  rw [zB_s (win5 _ _ _ _), zB_s (isSheet_e _ _)]
  rcases zWin_c a1 0 3 with ⟨z1, -⟩ | ⟨z1, k1, k2⟩
  · rw [if_pos z1, if_pos z1]; exact ⟨-2, MX, MM, rfl, rfl, hR⟩
  obtain ⟨s, -, hs3, rfl⟩ := i32_in (a := 0) (b := 3) k1 k2 (by omega) (by omega)
  have hs : s < 4 := by omega
  have hin := zin_nI hs (show 4 < 2 ^ 31 by decide)
  rw [if_neg (show ¬ zWin (nI s) 0 3 = 0 by rw [z1]; decide), if_neg (show ¬ zWin (nI s) 0 3 = 0 by rw [z1]; decide)]
  rcases one_e hnn a7 b2 a2 with ⟨i, hi, rfl, h1, h2⟩ | ⟨h1, h2⟩
  rotate_left
  · rw [zB_s h1, zB_s h2, if_pos rfl, if_pos rfl]; exact ⟨-2, MX, MM, rfl, rfl, hR⟩
  rw [zB_s h1, zB_s h2, if_neg (show ¬ (1 : Int32) = 0 by decide), if_neg (show ¬ (1 : Int32) = 0 by decide), zB_s (win5 _ _ _ _), zB_s (win6 _ _ _ _)]
  rcases zWin_c a3 0 30 with ⟨z3, -⟩ | ⟨z3, k5, k6⟩
  · rw [if_pos z3, if_pos z3]; exact ⟨-2, MX, MM, rfl, rfl, hR⟩
  obtain ⟨n, -, hn, rfl⟩ := i32_in (a := 0) (b := 30) k5 k6 (by omega) (by omega)
  rw [if_neg (show ¬ zWin (nI n) 0 30 = 0 by rw [z3]; decide), if_neg (show ¬ zWin (nI n) 0 30 = 0 by rw [z3]; decide)]
  -- the sheet
  obtain ⟨X1, x1, x2, x3, x4, x5⟩ := fX0_become_e (56 + 2 * s) 0 (nI n) MX
  obtain ⟨M1, m1, m2, m3, m4, m5, m6⟩ := msheet_e hs 0 (nI n) (by decide) MM
  rw [if_neg (by decide)] at m3
  have hR1 : RelT T X1 M1 := RelT_she hTab hR (fun j hj => x5.2 j (by simp only [List.mem_cons, List.not_mem_nil, or_false]; omega)) x5.1 m6 (rS_sheet hs ⟨by decide, by decide⟩ ⟨n, by omega, rfl⟩ hSh x2 x3 x4 x5 m2 m3 m4 m5)
  have hsheet : fX6_sheet (nI s) 0 (nI n) MM = some (1, M1) := by
    unfold fX6_sheet
    rw [zB_s (isSheet_e _ _), if_neg (show ¬ zWin (nI s) 0 3 = 0 by rw [z1]; decide), zB_s (win6 _ _ _ _), if_neg (by decide), if_neg (by decide), if_pos (nI_pos' (by omega)), if_neg (by decide), if_pos (by rw [show (40 : Int32) = nI 40 from rfl, nI_leI (by omega) (by omega)]; omega)]
    exact m1
  -- views behind it
  obtain ⟨-, t', hP1, hTx1, -, hSh1, -⟩ := id hR1
  obtain ⟨nn', r', hnn', hr', a7', b2', a10', b7', oX1, oM1, oV1, hv1, n2', n1'⟩ := rP_view hP1 hTx1
  have hnn2 : nn' = nn := by
    have q : M1.1 0 2 = MM.1 0 2 := by rw [m6 0 (by decide) (by decide) (by decide)]
    rw [q] at b2'
    exact (nI_eq (by omega) (by omega)).mp (b2'.symm.trans b2)
  subst hnn2
  obtain ⟨X2, y1, y2, y3, y4, -⟩ := fX4_become_e (w := 17) (v := 10) (Or.inr (Or.inl rfl)) (Or.inl rfl) (by decide) oX1
  have hq56 : ∀ a, 56 ≤ a → X2.1 a = X1.1 a := fun a ha => y4.2 a (by simp only [List.mem_cons, List.not_mem_nil, or_false]; omega)
  obtain ⟨X3, w1, w2, w3⟩ := filmX_loop hs hn (vM M1) (i := i) (by rw [n2']; exact hi) (M0 := X2) (by rw [hq56 _ (by omega)]; exact x2) (by rw [hq56 _ (by omega)]; exact x3) (fun j hj => by rw [hq56 _ (by omega)]; exact x4 j hj) n 0 zF X2 y3 (by rw [y2, hv1]; rfl) (zO_refl _ _) (fun j hj => by rw [hq56 _ (by omega), x4 j hj, if_neg (by omega)]) (by omega) (by unfold zF; omega)
  obtain ⟨M2, g1, g2, g3⟩ := fX6_keeps_e M1
  obtain ⟨M0', M', q1, q2, q3, q4⟩ := filmM_loop hs hn (vM M1) (i := i) (by rw [n2']; exact hi) (M1.1 22) n 0 zF M1 M2 (mTh_keep oM1 oV1 g2 g3) (fun p => by rw [if_neg (by omega)]) (by omega) (by unfold zF; omega)
  have w1' : fX5_film_L62 zF (nI i) (nI n) (56 + 2 * s) (0 : Int32) X2 = some (nI n, X3) := w1
  have q1' : fX6_film_L43 zF (nI s) (nI i) (nI n) (0 : Int32) M2 = some (nI n, M') := q1
  rw [zG_t hin, nIc (by omega), zL_r, zV_s x1, zV_s y1, w1', zB_s hsheet, zV_s g1, q1']
  -- together
  obtain ⟨Xa, eXa⟩ : ∃ Xa, Xa = zr X1 (57 + 2 * s) (X3.1 (57 + 2 * s)) := ⟨_, rfl⟩
  have ha : ∀ a, a ≠ 57 + 2 * s → Xa.1 a = X1.1 a := fun a ha => by rw [eXa, zr_n X1 ha]
  have has : Xa.1 (57 + 2 * s) = X3.1 (57 + 2 * s) := by rw [eXa, zr_s]
  have hRa : RelT T Xa M0' := by
    refine RelT_she hTab hR1 (fun j hj => ha j (by omega)) (by rw [eXa]; rfl) (fun j h0 h1 h2 => q3.2 j (by simpa using h2)) ?_
    intro k hk
    obtain ⟨u1, u2, u3⟩ := hSh1 k hk
    rw [ha _ (by omega), q3.2 20 (by decide), q3.2 21 (by decide)]
    refine ⟨u1, u2, fun j hj => ?_⟩
    rw [q4]
    by_cases c : k = s
    · subst c
      rw [has, show 57 + 2 * k = 56 + 2 * k + 1 by omega, w3 j hj]
      by_cases cj : j < n
      · rw [if_pos cj, if_pos (by omega), show 40 * k + j - 40 * k = j by omega]
      · rw [if_neg cj, if_neg (by omega), m5, if_pos (by omega)]
    · rw [ha _ (by omega), if_neg (by omega)]
      exact u3 j hj
  have hXa : zO SX0 Xa X3 := by
    refine ⟨w2.1.trans (y4.1.trans (by rw [eXa]; rfl)), fun a haS => ?_⟩
    by_cases c : a = 57 + 2 * s
    · rw [c, has]
    · rw [ha a c, w2.2 a (fun q => by
        rcases List.mem_cons.mp q with q | q
        · exact c (by omega)
        · exact haS q), y4.2 a (fun q => haS (by
        simp only [List.mem_cons, List.not_mem_nil, or_false] at q
        simp only [SX0, List.mem_cons, List.not_mem_nil, or_false]
        omega))]
  exact ⟨nI n, X3, M', rfl, rfl, RelT_both hTab hRa hXa (eM_bk q2)⟩

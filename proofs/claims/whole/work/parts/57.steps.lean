/-! the image -/
theorem mimage_loop (M0 : zM) : ∀ (d i N : Nat) (M : zM), zO [17, 18, 19] M0 M → (∀ j, j < i → M.1 17 j = M0.1 2 j ∧ M.1 18 j = M0.1 3 j ∧ M.1 19 j = M0.1 4 j) → i + d = 5 → d < N → ∃ M', fX6_image_L39 N (nI i) M = some (M0.1 0 2, M') ∧ zO [17, 18, 19] M0 M' ∧ ∀ j, j < 5 → M'.1 17 j = M0.1 2 j ∧ M'.1 18 j = M0.1 3 j ∧ M'.1 19 j = M0.1 4 j := by
  intro d
  induction d with
  | zero =>
    intro i N M hO hj hi hN
    obtain ⟨N, rfl⟩ : ∃ q, N = q + 1 := ⟨N - 1, by omega⟩
    have : i = 5 := by omega
    subst this
    refine ⟨M, ?_, hO, hj⟩
    show fX6_image_B39 _ _ M = _
    unfold fX6_image_B39
    rw [if_pos (by decide), hO.2 0 (by decide)]
  | succ d ih =>
    intro i N M hO hj hi hN
    obtain ⟨N, rfl⟩ : ∃ q, N = q + 1 := ⟨N - 1, by omega⟩
    have hin := zin_nI (show i < 5 by omega) (n := 5) (by decide)
    obtain ⟨M1, e1⟩ : ∃ M1, M1 = zu M 17 i (M0.1 2 i) := ⟨_, rfl⟩
    obtain ⟨M2, e2⟩ : ∃ M2, M2 = zu M1 18 i (M0.1 3 i) := ⟨_, rfl⟩
    obtain ⟨M3, e3⟩ : ∃ M3, M3 = zu M2 19 i (M0.1 4 i) := ⟨_, rfl⟩
    have h2 : M.1 2 = M0.1 2 := hO.2 _ (by decide)
    have h3 : M1.1 3 = M0.1 3 := by rw [e1, zu_row _ (by decide)]; exact hO.2 _ (by decide)
    have h4 : M2.1 4 = M0.1 4 := by rw [e2, zu_row _ (by decide), e1, zu_row _ (by decide)]; exact hO.2 _ (by decide)
    have hO3 : zO [17, 18, 19] M0 M3 := by rw [e3, e2, e1]; exact zO_trans (zO_trans (zO_trans hO (zO_zu _ _ _ _ (by simp))) (zO_zu _ _ _ _ (by simp))) (zO_zu _ _ _ _ (by simp))
    obtain ⟨M', q1, q2⟩ := ih (i + 1) N M3 hO3 (fun j hjl => by
      have a17 : M3.1 17 j = if j = i then M0.1 2 i else M.1 17 j := by rw [e3, zu_row _ (show (17 : Nat) ≠ 19 by decide), e2, zu_row _ (show (17 : Nat) ≠ 18 by decide), e1, zu_at1]
      have a18 : M3.1 18 j = if j = i then M0.1 3 i else M.1 18 j := by rw [e3, zu_row _ (show (18 : Nat) ≠ 19 by decide), e2, zu_at1, e1, zu_row _ (show (18 : Nat) ≠ 17 by decide)]
      have a19 : M3.1 19 j = if j = i then M0.1 4 i else M.1 19 j := by rw [e3, zu_at1, e2, zu_row _ (show (19 : Nat) ≠ 18 by decide), e1, zu_row _ (show (19 : Nat) ≠ 17 by decide)]
      rw [a17, a18, a19]
      by_cases c : j = i
      · rw [if_pos c, if_pos c, if_pos c, c]; exact ⟨rfl, rfl, rfl⟩
      · rw [if_neg c, if_neg c, if_neg c]; exact hj j (by omega)) (by omega) (by omega)
    refine ⟨M', ?_, q2⟩
    rw [← q1]
    show fX6_image_B39 _ _ M = _
    unfold fX6_image_B39
    rw [if_neg (by rw [show (5 : Int32) = nI 5 from rfl, nI_leI (by omega) (by omega)]; omega)]
    simp only [zG_t hin, nIc (show i < 2 ^ 31 by omega), zL_r]
    rw [h2, ← e1, h3, ← e2, h4, ← e3, nI_1]
theorem st_image {T : zM → Prop} (hTab : tabOk T) (MX MM : zM) (hR : RelT T MX MM) : ∃ (r : Int32) (MX' MM' : zM), fX5_image MX = some (r, MX') ∧ fX6_image MM = some (r, MM') ∧ RelT T MX' MM' := by
  obtain ⟨hT, t, hP, hTx, hA, hSh, hI⟩ := id hR
  obtain ⟨n, r, hn, hr, a7, b2, a10, b7, oX, oM, oV, hv, n2, n1⟩ := rP_view hP hTx
  obtain ⟨X1, x1, x2, x3, x4, x5, x6⟩ := fX4_become_e (w := 24) (v := 10) (Or.inr (Or.inr rfl)) (Or.inl rfl) (by decide) oX
  obtain ⟨X2, eX⟩ : ∃ X2, X2 = zu X1 0 8 1 := ⟨_, rfl⟩
  obtain ⟨M1, e1⟩ : ∃ M1, M1 = zu MM 0 40 1 := ⟨_, rfl⟩
  obtain ⟨M2, e2⟩ : ∃ M2, M2 = zu M1 0 41 (MM.1 0 2) := ⟨_, rfl⟩
  obtain ⟨M3, e3⟩ : ∃ M3, M3 = zu M2 0 42 (MM.1 0 0) := ⟨_, rfl⟩
  obtain ⟨M4, e4⟩ : ∃ M4, M4 = zu M3 0 43 (MM.1 0 1) := ⟨_, rfl⟩
  obtain ⟨M5, e5⟩ : ∃ M5, M5 = zu M4 0 44 (MM.1 0 7) := ⟨_, rfl⟩
  have f1 : M1.1 0 2 = MM.1 0 2 := by rw [e1, zu_other _ _ (by decide)]
  have f2 : M2.1 0 0 = MM.1 0 0 := by rw [e2, zu_other _ _ (by decide), e1, zu_other _ _ (by decide)]
  have f3 : M3.1 0 1 = MM.1 0 1 := by rw [e3, zu_other _ _ (by decide), e2, zu_other _ _ (by decide), e1, zu_other _ _ (by decide)]
  have f4 : M4.1 0 7 = MM.1 0 7 := by rw [e4, zu_other _ _ (by decide), e3, zu_other _ _ (by decide), e2, zu_other _ _ (by decide), e1, zu_other _ _ (by decide)]
  have g0 : ∀ k, k < 40 → M5.1 0 k = MM.1 0 k := fun k hk => by rw [e5, zu_other _ _ (by omega), e4, zu_other _ _ (by omega), e3, zu_other _ _ (by omega), e2, zu_other _ _ (by omega), e1, zu_other _ _ (by omega)]
  have g40 : M5.1 0 40 = 1 := by rw [e5, zu_other _ _ (by decide), e4, zu_other _ _ (by decide), e3, zu_other _ _ (by decide), e2, zu_other _ _ (by decide), e1, zu_same]
  have g41 : M5.1 0 41 = MM.1 0 2 := by rw [e5, zu_other _ _ (by decide), e4, zu_other _ _ (by decide), e3, zu_other _ _ (by decide), e2, zu_same]
  have g42 : M5.1 0 42 = MM.1 0 0 := by rw [e5, zu_other _ _ (by decide), e4, zu_other _ _ (by decide), e3, zu_same]
  have g43 : M5.1 0 43 = MM.1 0 1 := by rw [e5, zu_other _ _ (by decide), e4, zu_same]
  have g44 : M5.1 0 44 = MM.1 0 7 := by rw [e5, zu_same]
  have gr : ∀ i, i ≠ 0 → M5.1 i = MM.1 i := fun i hi => by rw [e5, zu_row _ hi, e4, zu_row _ hi, e3, zu_row _ hi, e2, zu_row _ hi, e1, zu_row _ hi]
  obtain ⟨M', q1, q2, q3⟩ := mimage_loop M5 5 0 zF M5 (zO_refl _ _) (fun j hj => absurd hj (by omega)) (by omega) (by unfold zF; omega)
  have q0 : M'.1 0 = M5.1 0 := q2.2 0 (by decide)
  have qr : ∀ i, i ≠ 0 → i ≠ 17 → i ≠ 18 → i ≠ 19 → M'.1 i = MM.1 i := fun i h0 h1 h2 h3 => by rw [q2.2 i (by simp only [List.mem_cons, List.not_mem_nil, or_false]; omega), gr i h0]
  have m0 : ∀ k, k < 40 → M'.1 0 k = MM.1 0 k := fun k hk => by rw [q0, g0 k hk]
  have xr : ∀ i, i ≠ 0 → (i < 24 ∨ 28 < i) → X2.1 i = MX.1 i := fun i h0 h1 => by rw [eX, zu_row _ h0, x4.2 i (by simp only [List.mem_cons, List.not_mem_nil, or_false]; omega)]
  have xk : ∀ i, i ≠ 0 → X2.1 i = X1.1 i := fun i h0 => by rw [eX, zu_row _ h0]
  have x0 : ∀ k, k ≠ 8 → X2.1 0 k = MX.1 0 k := fun k hk => by rw [eX, zu_other _ _ hk, x4.2 0 (by decide)]
  have hX : fX5_image MX = some (nI n, X2) := by
    unfold fX5_image
    rw [zV_s x1, zL_r, ← eX, xr 10 (by decide) (by omega), a7]
  have hM : fX6_image MM = some (nI n, M') := by
    unfold fX6_image
    rw [zL_r, ← e1, zL_r, f1, ← e2, zL_r, f2, ← e3, zL_r, f3, ← e4, zL_r, f4, ← e5]
    rw [show M5.1 0 2 = nI n by rw [g0 2 (by decide)]; exact b2] at q1
    exact q1
  obtain ⟨n', r', hn', hr', a7', b2', e8, e9, a10', b7', hd, hp⟩ := id hP
  have hnn : n' = n := (nI_eq (by omega) (by omega)).mp (b2'.symm.trans b2)
  subst hnn
  have hrr : r' = r := by
    obtain ⟨-, t6, -⟩ := hTx
    exact (nI_eq (by omega) (by omega)).mp (b7'.symm.trans b7)
  subst hrr
  refine ⟨nI n', X2, M', hX, hM, hTab MX X2 (xr 6 (by decide) (by omega)) (xr 9 (by decide) (by omega)) (by rw [eX]; exact x4.1) hT, t, ?_, ?_, ?_, ?_, ?_⟩
  · exact rP_M (m0 0 (by decide)) (m0 1 (by decide)) (m0 2 (by decide)) (m0 7 (by decide)) (qr 1 (by decide) (by decide) (by decide) (by decide)) (qr 2 (by decide) (by decide) (by decide) (by decide)) (fun j _ => by rw [qr 3 (by decide) (by decide) (by decide) (by decide)]) (fun j _ => by rw [qr 4 (by decide) (by decide) (by decide) (by decide)]) (rP_X (fun i h1 h2 => xr i (by omega) (by omega)) hP)
  · exact rT_M (m0 10 (by decide)) (m0 14 (by decide)) (qr 6 (by decide) (by decide) (by decide) (by decide)) (qr 7 (by decide) (by decide) (by decide) (by decide)) (qr 8 (by decide) (by decide) (by decide) (by decide)) (rT_X (x0 7 (by decide)) (fun r => ⟨xr _ (by omega) (by omega), xr _ (by omega) (by omega)⟩) hTx)
  · exact rA_M (m0 8 (by decide)) (qr 5 (by decide) (by decide) (by decide) (by decide)) (rA_X (by rw [xr 2 (by decide) (by omega)]) (xr 3 (by decide) (by omega)) hA)
  · exact rS_M (qr 20 (by decide) (by decide) (by decide) (by decide)) (qr 21 (by decide) (by decide) (by decide) (by decide)) (qr 22 (by decide) (by decide) (by decide) (by decide)) (rS_X (fun s _ => ⟨xr _ (by omega) (by omega), xr _ (by omega) (by omega)⟩) hSh)
  · refine Or.inr ⟨by rw [eX, zu_same], by rw [q0, g40], n', n', r', Nat.le_refl _, hn, by rw [m0 2 (by decide)]; exact b2, hr, ?_, ?_, ?_, ?_, ?_, ?_, ?_, fun i hi => ?_⟩
    · rw [xk 24 (by decide), x6 7 (by decide) (by decide)]; exact a7
    · rw [q0, g41]; exact b2
    · rw [xk 24 (by decide), x6 8 (by decide) (by decide), q0, g42]; exact e8
    · rw [xk 24 (by decide), x6 9 (by decide) (by decide), q0, g43]; exact e9
    · rw [xk 24 (by decide), x6 10 (by decide) (by decide)]; exact a10
    · rw [q0, g44]; exact b7
    · rw [q0, g42, g43]; exact hd
    · obtain ⟨p1, p2, p3, p4⟩ := hp i hi
      obtain ⟨z1, z2, z3⟩ := q3 i (by omega)
      have y1 : X2.1 25 i = MX.1 11 i := by rw [xk 25 (by decide)]; exact x5 1 (by omega) (by omega) i (by omega)
      have y2 : X2.1 26 i = MX.1 12 i := by rw [xk 26 (by decide)]; exact x5 2 (by omega) (by omega) i (by omega)
      have y3 : X2.1 27 i = MX.1 13 i := by rw [xk 27 (by decide)]; exact x5 3 (by omega) (by omega) i (by omega)
      have y4 : X2.1 28 i = MX.1 14 i := by rw [xk 28 (by decide)]; exact x5 4 (by omega) (by omega) i (by omega)
      rw [y1, y2, y3, y4, z1, z2, z3, qr 1 (by decide) (by decide) (by decide) (by decide), gr 2 (by decide), gr 3 (by decide), gr 4 (by decide)]
      exact ⟨p1.1, p2, p3, p4⟩
theorem mback_loop (M0 : zM) : ∀ (d i N : Nat) (M : zM), zO [2, 3, 4] M0 M → (∀ j, j < i → M.1 2 j = M0.1 17 j ∧ M.1 3 j = M0.1 18 j ∧ M.1 4 j = M0.1 19 j) → i + d = 5 → d < N → ∃ M', fX6_back_L44 N (nI i) M = some (M0.1 0 2, M') ∧ zO [2, 3, 4] M0 M' ∧ ∀ j, j < 5 → M'.1 2 j = M0.1 17 j ∧ M'.1 3 j = M0.1 18 j ∧ M'.1 4 j = M0.1 19 j := by
  intro d
  induction d with
  | zero =>
    intro i N M hO hj hi hN
    obtain ⟨N, rfl⟩ : ∃ q, N = q + 1 := ⟨N - 1, by omega⟩
    have : i = 5 := by omega
    subst this
    refine ⟨M, ?_, hO, hj⟩
    show fX6_back_B44 _ _ M = _
    unfold fX6_back_B44
    rw [if_pos (by decide), hO.2 0 (by decide)]
  | succ d ih =>
    intro i N M hO hj hi hN
    obtain ⟨N, rfl⟩ : ∃ q, N = q + 1 := ⟨N - 1, by omega⟩
    have hin := zin_nI (show i < 5 by omega) (n := 5) (by decide)
    obtain ⟨M1, e1⟩ : ∃ M1, M1 = zu M 2 i (M0.1 17 i) := ⟨_, rfl⟩
    obtain ⟨M2, e2⟩ : ∃ M2, M2 = zu M1 3 i (M0.1 18 i) := ⟨_, rfl⟩
    obtain ⟨M3, e3⟩ : ∃ M3, M3 = zu M2 4 i (M0.1 19 i) := ⟨_, rfl⟩
    have h2 : M.1 17 = M0.1 17 := hO.2 _ (by decide)
    have h3 : M1.1 18 = M0.1 18 := by rw [e1, zu_row _ (by decide)]; exact hO.2 _ (by decide)
    have h4 : M2.1 19 = M0.1 19 := by rw [e2, zu_row _ (by decide), e1, zu_row _ (by decide)]; exact hO.2 _ (by decide)
    have hO3 : zO [2, 3, 4] M0 M3 := by rw [e3, e2, e1]; exact zO_trans (zO_trans (zO_trans hO (zO_zu _ _ _ _ (by simp))) (zO_zu _ _ _ _ (by simp))) (zO_zu _ _ _ _ (by simp))
    obtain ⟨M', q1, q2⟩ := ih (i + 1) N M3 hO3 (fun j hjl => by
      have a17 : M3.1 2 j = if j = i then M0.1 17 i else M.1 2 j := by rw [e3, zu_row _ (show (2 : Nat) ≠ 4 by decide), e2, zu_row _ (show (2 : Nat) ≠ 3 by decide), e1, zu_at1]
      have a18 : M3.1 3 j = if j = i then M0.1 18 i else M.1 3 j := by rw [e3, zu_row _ (show (3 : Nat) ≠ 4 by decide), e2, zu_at1, e1, zu_row _ (show (3 : Nat) ≠ 2 by decide)]
      have a19 : M3.1 4 j = if j = i then M0.1 19 i else M.1 4 j := by rw [e3, zu_at1, e2, zu_row _ (show (4 : Nat) ≠ 3 by decide), e1, zu_row _ (show (4 : Nat) ≠ 2 by decide)]
      rw [a17, a18, a19]
      by_cases c : j = i
      · rw [if_pos c, if_pos c, if_pos c, c]; exact ⟨rfl, rfl, rfl⟩
      · rw [if_neg c, if_neg c, if_neg c]; exact hj j (by omega)) (by omega) (by omega)
    refine ⟨M', ?_, q2⟩
    rw [← q1]
    show fX6_back_B44 _ _ M = _
    unfold fX6_back_B44
    rw [if_neg (by rw [show (5 : Int32) = nI 5 from rfl, nI_leI (by omega) (by omega)]; omega)]
    simp only [zG_t hin, nIc (show i < 2 ^ 31 by omega), zL_r]
    rw [h2, ← e1, h3, ← e2, h4, ← e3, nI_1]
theorem st_back {T : zM → Prop} (hTab : tabOk T) (MX MM : zM) (hR : RelT T MX MM) : ∃ (r : Int32) (MX' MM' : zM), fX5_back MX = some (r, MX') ∧ fX6_back MM = some (r, MM') ∧ RelT T MX' MM' := by
  obtain ⟨hT, t, hP, hTx, hA, hSh, hI⟩ := id hR
  rcases id hI with ⟨i1, i2⟩ | ⟨i1, i2, n, k, r, hkn, hn, b2, hr, a7, b41, e8, e9, a10, b44, hd, hp⟩
  · refine ⟨-3, MX, MM, ?_, ?_, hR⟩
    · unfold fX5_back; rw [if_pos i1]
    · unfold fX6_back; rw [if_pos i2]
  obtain ⟨t1, t6, -, -, htx, -⟩ := id hTx
  have oX : okX 24 MX := ⟨⟨k, by omega, a7⟩, r, by omega, a10, (htx r hr).1⟩
  obtain ⟨X1, x1, x2, x3, x4, x5, x6⟩ := fX4_become_e (w := 10) (v := 24) (Or.inl rfl) (Or.inr (Or.inr rfl)) (by decide) oX
  obtain ⟨M2, e2⟩ : ∃ M2, M2 = zu MM 0 2 (MM.1 0 41) := ⟨_, rfl⟩
  obtain ⟨M3, e3⟩ : ∃ M3, M3 = zu M2 0 0 (MM.1 0 42) := ⟨_, rfl⟩
  obtain ⟨M4, e4⟩ : ∃ M4, M4 = zu M3 0 1 (MM.1 0 43) := ⟨_, rfl⟩
  obtain ⟨M5, e5⟩ : ∃ M5, M5 = zu M4 0 7 (MM.1 0 44) := ⟨_, rfl⟩
  have f2 : M2.1 0 42 = MM.1 0 42 := by rw [e2, zu_other _ _ (by decide)]
  have f3 : M3.1 0 43 = MM.1 0 43 := by rw [e3, zu_other _ _ (by decide), e2, zu_other _ _ (by decide)]
  have f4 : M4.1 0 44 = MM.1 0 44 := by rw [e4, zu_other _ _ (by decide), e3, zu_other _ _ (by decide), e2, zu_other _ _ (by decide)]
  have g0 : ∀ k, 8 ≤ k → M5.1 0 k = MM.1 0 k := fun k hk => by rw [e5, zu_other _ _ (by omega), e4, zu_other _ _ (by omega), e3, zu_other _ _ (by omega), e2, zu_other _ _ (by omega)]
  have g2 : M5.1 0 2 = MM.1 0 41 := by rw [e5, zu_other _ _ (by decide), e4, zu_other _ _ (by decide), e3, zu_other _ _ (by decide), e2, zu_same]
  have gd : M5.1 0 0 = MM.1 0 42 := by rw [e5, zu_other _ _ (by decide), e4, zu_other _ _ (by decide), e3, zu_same]
  have gw : M5.1 0 1 = MM.1 0 43 := by rw [e5, zu_other _ _ (by decide), e4, zu_same]
  have g7 : M5.1 0 7 = MM.1 0 44 := by rw [e5, zu_same]
  have gr : ∀ i, i ≠ 0 → M5.1 i = MM.1 i := fun i hi => by rw [e5, zu_row _ hi, e4, zu_row _ hi, e3, zu_row _ hi, e2, zu_row _ hi]
  obtain ⟨M', q1, q2, q3⟩ := mback_loop M5 5 0 zF M5 (zO_refl _ _) (fun j hj => absurd hj (by omega)) (by omega) (by unfold zF; omega)
  have q0 : M'.1 0 = M5.1 0 := q2.2 0 (by decide)
  have qr : ∀ i, i ≠ 0 → i ≠ 2 → i ≠ 3 → i ≠ 4 → M'.1 i = MM.1 i := fun i h0 h1 h2 h3 => by rw [q2.2 i (by simp only [List.mem_cons, List.not_mem_nil, or_false]; omega), gr i h0]
  have m0 : ∀ k, 8 ≤ k → M'.1 0 k = MM.1 0 k := fun k hk => by rw [q0, g0 k hk]
  have xr : ∀ i, (i < 10 ∨ 14 < i) → X1.1 i = MX.1 i := fun i h1 => by rw [x4.2 i (by simp only [List.mem_cons, List.not_mem_nil, or_false]; omega)]
  have hX : fX5_back MX = some (nI k, X1) := by
    unfold fX5_back
    rw [if_neg (by rw [i1]; decide), zV_s x1, x6 7 (by decide) (by decide), a7]
  have hM : fX6_back MM = some (nI k, M') := by
    unfold fX6_back
    rw [if_neg (by rw [i2]; decide), zL_r, ← e2, zL_r, f2, ← e3, zL_r, f3, ← e4, zL_r, f4, ← e5]
    rw [g2, b41] at q1
    exact q1
  refine ⟨nI k, X1, M', hX, hM, hTab MX X1 (xr 6 (by omega)) (xr 9 (by omega)) x4.1 hT, t, ?_, ?_, ?_, ?_, ?_⟩
  · refine ⟨k, r, by omega, hr, by rw [x6 7 (by decide) (by decide)]; exact a7, by rw [q0, g2]; exact b41, ?_, ?_, by rw [x6 10 (by decide) (by decide)]; exact a10, by rw [q0, g7]; exact b44, ?_, fun i hi => ?_⟩
    · rw [x6 8 (by decide) (by decide), q0, gd]; exact e8
    · rw [x6 9 (by decide) (by decide), q0, gw]; exact e9
    · rw [q0, gd, gw]; exact hd
    · obtain ⟨p1, p2, p3, p4⟩ := hp i hi
      obtain ⟨z1, z2, z3⟩ := q3 i (by omega)
      have y1 : X1.1 11 i = MX.1 25 i := x5 1 (by omega) (by omega) i (by omega)
      have y2 : X1.1 12 i = MX.1 26 i := x5 2 (by omega) (by omega) i (by omega)
      have y3 : X1.1 13 i = MX.1 27 i := x5 3 (by omega) (by omega) i (by omega)
      have y4 : X1.1 14 i = MX.1 28 i := x5 4 (by omega) (by omega) i (by omega)
      obtain ⟨n0, r0, hn0, -, -, b20, -, -, -, -, -, hp0⟩ := hP
      have hnn : n0 = n := (nI_eq (by omega) (by omega)).mp (b20.symm.trans b2)
      subst hnn
      obtain ⟨k1, -⟩ := hp0 i (by omega)
      rw [y1, y2, y3, y4, z1, z2, z3, qr 1 (by decide) (by decide) (by decide) (by decide), gr 17 (by decide), gr 18 (by decide), gr 19 (by decide)]
      exact ⟨⟨p1, k1.2⟩, p2, p3, p4⟩
  · exact rT_M (m0 10 (by decide)) (m0 14 (by decide)) (qr 6 (by decide) (by decide) (by decide) (by decide)) (qr 7 (by decide) (by decide) (by decide) (by decide)) (qr 8 (by decide) (by decide) (by decide) (by decide)) (rT_X (by rw [xr 0 (by omega)]) (fun r => ⟨xr _ (by omega), xr _ (by omega)⟩) hTx)
  · exact rA_M (m0 8 (by decide)) (qr 5 (by decide) (by decide) (by decide) (by decide)) (rA_X (by rw [xr 2 (by omega)]) (xr 3 (by omega)) hA)
  · exact rS_M (qr 20 (by decide) (by decide) (by decide) (by decide)) (qr 21 (by decide) (by decide) (by decide) (by decide)) (qr 22 (by decide) (by decide) (by decide) (by decide)) (rS_X (fun s _ => ⟨xr _ (by omega), xr _ (by omega)⟩) hSh)
  · refine Or.inr ⟨by rw [xr 0 (by omega)]; exact i1, by rw [m0 40 (by decide)]; exact i2, k, k, r, Nat.le_refl _, by omega, by rw [q0, g2]; exact b41, hr, by rw [xr 24 (by omega)]; exact a7, by rw [m0 41 (by decide)]; exact b41, by rw [xr 24 (by omega), m0 42 (by decide)]; exact e8, by rw [xr 24 (by omega), m0 43 (by decide)]; exact e9, by rw [xr 24 (by omega)]; exact a10, by rw [m0 44 (by decide)]; exact b44, by rw [m0 42 (by decide), m0 43 (by decide)]; exact hd, fun i hi => ?_⟩
    rw [xr 25 (by omega), xr 26 (by omega), xr 27 (by omega), xr 28 (by omega), qr 1 (by decide) (by decide) (by decide) (by decide), qr 17 (by decide) (by decide) (by decide) (by decide), qr 18 (by decide) (by decide) (by decide) (by decide), qr 19 (by decide) (by decide) (by decide) (by decide)]
    exact hp i hi

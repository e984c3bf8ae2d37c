/-! a glass is filmed -/
/-- a kept sheet of bytes -/
theorem zi2b_small : ∀ n, n < 10 → zi2b (nI n) = nI n := by decide
theorem sMin_nat (V : zVw) (i : Nat) : ∃ n : Nat, n < 10 ∧ sMin V i = nI n := by
  obtain ⟨n, -, hn, e⟩ := i32_in (a := 0) (b := 9) (sMin_nn V i) (sMin_le V i) (by omega) (by omega)
  exact ⟨n, by omega, e⟩
theorem vX_rows6 {w : Nat} {M M' : zM} (hM : okX w M) (h : ∀ k, k < 5 → M'.1 (w + k) = M.1 (w + k)) (ht : ∀ r, r < 6 → M'.1 (32 + 4 * r + 1) = M.1 (32 + 4 * r + 1) ∧ M'.1 (32 + 4 * r + 2) = M.1 (32 + 4 * r + 2)) : vX w M' = vX w M ∧ okX w M' := by
  have e0 : M'.1 w = M.1 w := h 0 (by omega)
  obtain ⟨⟨n, hn', h7'⟩, r, hr, h10, hT⟩ := hM
  have hc : ∀ p, cX M' r p = cX M r p := fun p => by unfold cX; rw [(ht r hr).1, (ht r hr).2]
  have hrr : (M.1 w 10).toNatClampNeg = r := by rw [h10, nIc (by omega)]
  have htx : tX M' r = tX M r := by unfold tX; funext p nm; rw [hc]
  refine ⟨?_, ⟨n, hn', by rw [e0]; exact h7'⟩, r, hr, by rw [e0]; exact h10, ?_⟩
  · unfold vX
    rw [e0, h 1 (by omega), h 2 (by omega), h 3 (by omega), h 4 (by omega), hrr, htx]
  · unfold okT
    rw [(ht r hr).2]
    exact ⟨hT.1, fun p hp => by rw [hc]; exact hT.2 p hp⟩
theorem filmX_loop {s i n : Nat} (hs : s < 4) (hn : n ≤ 30) (V : zVw) (hiV : i < vN V) {M0 : zM} (h1 : M0.1 (56 + 2 * s) 1 = 0) (h2 : M0.1 (56 + 2 * s) 2 = nI n) (h0 : ∀ j, j < 40 → M0.1 (56 + 2 * s + 1) j = 0) : ∀ (d k N : Nat) (M : zM), okX 17 M → vX 17 M = sDays V k → zO ((56 + 2 * s + 1) :: SX0) M0 M → (∀ j, j < 40 → M.1 (56 + 2 * s + 1) j = if j < k then sMin (sDays V j) i else 0) → k + d = n → d < N → ∃ M', fX5_film_L62 N (nI i) (nI n) (56 + 2 * s) (nI k) M = some (nI n, M') ∧ zO ((56 + 2 * s + 1) :: SX0) M0 M' ∧ ∀ j, j < 40 → M'.1 (56 + 2 * s + 1) j = if j < n then sMin (sDays V j) i else 0 := by
  have hw : isW 17 := Or.inr (Or.inl rfl)
  intro d
  induction d with
  | zero =>
    intro k N M hM hv hO hj hk hN
    obtain ⟨N, rfl⟩ : ∃ q, N = q + 1 := ⟨N - 1, by omega⟩
    have : k = n := by omega
    subst this
    refine ⟨M, ?_, hO, hj⟩
    show fX5_film_B62 _ _ _ _ _ M = _
    unfold fX5_film_B62
    rw [if_pos (Int32.le_refl _)]
  | succ d ih =>
    intro k N M hM hv hO hj hk hN
    obtain ⟨N, rfl⟩ : ∃ q, N = q + 1 := ⟨N - 1, by omega⟩
    have hiV' : i < vN (vX 17 M) := by rw [hv, sDays_n]; exact hiV
    obtain ⟨X1, x1, x2⟩ := fX4_minutesOf_e hw hM hiV'
    rw [hv] at x1
    obtain ⟨v, hv9, ev⟩ := sMin_nat (sDays V k) i
    have hO1 : zO ((56 + 2 * s + 1) :: SX0) M0 X1 := zO_trans hO (zO_mono (SB_X0 x2) (fun a ha => List.mem_cons_of_mem _ ha))
    have hq : 56 + 2 * s ∉ (56 + 2 * s + 1) :: SX0 := fun q => by
      simp only [SX0, List.mem_cons, List.not_mem_nil, or_false] at q
      omega
    have e1 : X1.1 (56 + 2 * s) 1 = 0 := by rw [hO1.2 _ hq]; exact h1
    have e2 : X1.1 (56 + 2 * s) 2 = nI n := by rw [hO1.2 _ hq]; exact h2
    have hr : X1.1 (56 + 2 * s + 1) = M.1 (56 + 2 * s + 1) := (SB_X0 x2).2 _ (fun q => by
      simp only [SX0, List.mem_cons, List.not_mem_nil, or_false] at q
      omega)
    obtain ⟨X2, eX2⟩ : ∃ X2, X2 = zu X1 (56 + 2 * s + 1) k (sMin (sDays V k) i) := ⟨_, rfl⟩
    have hput : fX0_put (56 + 2 * s) (nI k) (sMin (sDays V k) i) X1 = some X2 := by
      unfold fX0_put
      rw [if_neg (nI_pos (by omega)), e2, if_neg (by rw [nI_leI (by omega) (by omega)]; omega), e1, if_pos rfl, zG_t (zin_nI (by omega) (by decide)), nIc (by omega), zL_r, eX2, ev, zi2b_small v hv9]
    have hX2 : ∀ a, a ≠ 56 + 2 * s + 1 → X2.1 a = X1.1 a := fun a ha => by rw [eX2, zu_row _ ha]
    have oX1 := okX_congr hw (SBC x2) hM
    have hvr := vX_rows6 (w := 17) (M := X1) (M' := X2) oX1 (fun a ha => hX2 _ (by omega)) (fun r hr => ⟨hX2 _ (by omega), hX2 _ (by omega)⟩)
    have vv1 : vX 17 X1 = sDays V k := by rw [vX_congr hw (SBC x2), hv]
    obtain ⟨X3, y1, y2, y3, y4, -⟩ := fX4_passDay_e hw hvr.2
    rw [hvr.1, vv1] at y2
    have hO3 : zO SX0 X2 X3 := zO_mono y4 (fun a ha => by
      simp only [SC, List.mem_cons, List.not_mem_nil, or_false] at ha
      simp only [SX0, List.mem_cons, List.not_mem_nil, or_false]
      omega)
    have hr3 : X3.1 (56 + 2 * s + 1) = X2.1 (56 + 2 * s + 1) := hO3.2 _ (fun q => by
      simp only [SX0, List.mem_cons, List.not_mem_nil, or_false] at q
      omega)
    obtain ⟨M', q1, q2⟩ := ih (k + 1) N X3 y3 y2 (zO_trans (zO_trans hO1 (by rw [eX2]; exact zO_zu _ _ _ _ List.mem_cons_self)) (zO_mono hO3 (fun a ha => List.mem_cons_of_mem _ ha))) (fun j hjl => by
      rw [hr3, eX2, zu_at1, hr, hj j hjl]
      by_cases c : j = k
      · rw [if_pos c, if_pos (by omega), c]
      · rw [if_neg c]
        by_cases c2 : j < k
        · rw [if_pos c2, if_pos (by omega)]
        · rw [if_neg c2, if_neg (by omega)]) (by omega) (by omega)
    refine ⟨M', ?_, q2⟩
    rw [← q1]
    show fX5_film_B62 _ _ _ _ _ M = _
    unfold fX5_film_B62
    rw [if_neg (by rw [nI_leI (by omega) (by omega)]; omega), zB_s x1, zV_s hput, zV_s y1, zL_r, nI_1]

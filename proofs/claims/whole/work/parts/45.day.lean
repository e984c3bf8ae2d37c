/-! a DAY in a world of the class; loops over who is there -/
theorem zV_ext {V V' : zVw} (h1 : vN V = vN V') (h2 : vDay V = vDay V') (h3 : vWet V = vWet V') (h4 : vKind V = vKind V') (h5 : vNum V = vNum V') (h6 : vRue V = vRue V') (h7 : vHad V = vHad V') (h8 : vT V = vT V') : V = V' := by
  obtain ⟨a, b, c, d, e, f, g, h⟩ := V
  obtain ⟨a', b', c', d', e', f', g', h'⟩ := V'
  subst h1; subst h2; subst h3; subst h4; subst h5; subst h6; subst h7; subst h8
  rfl
theorem day_1 {w : Nat} (hw : isW w) {M : zM} (hM : okX w M) : ∀ (d i N : Nat) (M1 : zM), zO SC M M1 → i + d = vN (vX w M) → d < N → (∀ j, j < i → M1.1 (w + 5) j = sRues (vX w M) j) → ∃ M2, fX4_passDay_L2 w N (nI i) M1 = fX4_passDay_L29 w zF (0 : Int32) M2 ∧ zO SC M M2 ∧ ∀ j, j < vN (vX w M) → M2.1 (w + 5) j = sRues (vX w M) j := by
  obtain ⟨hn, h7⟩ := okX_n hM
  obtain ⟨s5, s6⟩ := isW_ne hw
  intro d
  induction d with
  | zero =>
    intro i N M1 hO hi hN hj
    obtain ⟨N, rfl⟩ : ∃ q, N = q + 1 := ⟨N - 1, by omega⟩
    refine ⟨M1, ?_, hO, fun j hjn => hj j (by omega)⟩
    show fX4_passDay_B2 w _ _ M1 = _
    unfold fX4_passDay_B2
    rw [(SC_rows hw hO).1, h7, if_pos ((nI_leI (by omega) (by omega)).mpr (by omega))]
  | succ d ih =>
    intro i N M1 hO hi hN hj
    obtain ⟨N, rfl⟩ : ∃ q, N = q + 1 := ⟨N - 1, by omega⟩
    have hv := vX_congr hw hO
    obtain ⟨M2, g1, g2⟩ := fX4_ruesOf_e hw (okX_congr hw hO hM) (i := i) (by rw [hv]; omega)
    obtain ⟨M3, e3⟩ : ∃ M3, M3 = zu M2 (w + 5) i (sRues (vX w M) i) := ⟨_, rfl⟩
    have hO3 : zO SC M M3 := by rw [e3]; exact zO_trans (zO_trans hO (SBC g2)) (zO_zu _ _ _ _ s5)
    have h5 : M2.1 (w + 5) = M1.1 (w + 5) := g2.2 _ (by rcases hw with rfl | rfl | rfl <;> decide)
    obtain ⟨M4, q1, q2, q3⟩ := ih (i + 1) N M3 hO3 (by omega) (by omega) (fun j hjl => by
      rw [e3, zu_at]
      by_cases c : j = i
      · rw [if_pos ⟨rfl, c⟩, c]
      · rw [if_neg (fun q => c q.2), h5]
        exact hj j (by omega))
    refine ⟨M4, ?_, q2, q3⟩
    rw [← q1]
    show fX4_passDay_B2 w _ _ M1 = _
    unfold fX4_passDay_B2
    rw [(SC_rows hw hO).1, h7, if_neg (by rw [nI_leI (by omega) (by omega)]; omega), zB_s g1, zG_t (zin_nI (by omega) (by decide)), nIc (by omega)]
    simp only [zL_r]
    rw [nI_1, hv, ← e3]
theorem day_2 {w n : Nat} (hw : isW w) (hn : n ≤ 5) (M2 : zM) (h7 : M2.1 w 7 = nI n) : ∀ (d i N : Nat) (M3 : zM), zO [w + 3] M2 M3 → (∀ j, M3.1 (w + 3) j = if j < i then zmin 999 (M2.1 (w + 3) j + M2.1 (w + 5) j) else M2.1 (w + 3) j) → i + d = n → d < N → ∃ M4, fX4_passDay_L29 w N (nI i) M3 = some (zu M4 w 8 (M2.1 w 8 + 1)) ∧ zO [w + 3] M2 M4 ∧ ∀ j, M4.1 (w + 3) j = if j < n then zmin 999 (M2.1 (w + 3) j + M2.1 (w + 5) j) else M2.1 (w + 3) j := by
  intro d
  induction d with
  | zero =>
    intro i N M3 hO hj hi hN
    obtain ⟨N, rfl⟩ : ∃ q, N = q + 1 := ⟨N - 1, by omega⟩
    have e0 : M3.1 w = M2.1 w := hO.2 _ (by simp)
    refine ⟨M3, ?_, hO, fun j => by rw [hj j, show i = n by omega]⟩
    show fX4_passDay_B29 w _ _ M3 = _
    unfold fX4_passDay_B29
    rw [e0, h7, if_pos ((nI_leI (by omega) (by omega)).mpr (by omega))]
    rfl
  | succ d ih =>
    intro i N M3 hO hj hi hN
    obtain ⟨N, rfl⟩ : ∃ q, N = q + 1 := ⟨N - 1, by omega⟩
    have e0 : M3.1 w = M2.1 w := hO.2 _ (by simp)
    have e5 : M3.1 (w + 5) = M2.1 (w + 5) := hO.2 _ (by simp)
    obtain ⟨M5, e⟩ : ∃ M5, M5 = zu M3 (w + 3) i (zmin 999 (M2.1 (w + 3) i + M2.1 (w + 5) i)) := ⟨_, rfl⟩
    obtain ⟨M4, q1, q2, q3⟩ := ih (i + 1) N M5 (by rw [e]; exact zO_trans hO (zO_zu _ _ _ _ (by simp))) (fun j => by
      rw [e, zu_at]
      by_cases c : j = i
      · rw [if_pos ⟨rfl, c⟩, if_pos (by omega), c]
      · rw [if_neg (fun q => c q.2), hj j]
        by_cases c2 : j < i
        · rw [if_pos c2, if_pos (by omega)]
        · rw [if_neg c2, if_neg (by omega)]) (by omega) (by omega)
    refine ⟨M4, ?_, q2, q3⟩
    rw [← q1]
    show fX4_passDay_B29 w _ _ M3 = _
    unfold fX4_passDay_B29
    rw [e0, h7, if_neg (by rw [nI_leI (by omega) (by omega)]; omega)]
    simp only [zG_t (zin_nI (show i < 5 by omega) (by decide)), nIc (show i < 2 ^ 31 by omega), zL_r]
    rw [nI_1, hj i, if_neg (by omega), e5, ← e]
theorem fX4_passDay_e {w : Nat} (hw : isW w) {M : zM} (hM : okX w M) : ∃ M', fX4_passDay w M = some M' ∧ vX w M' = sDay (vX w M) ∧ okX w M' ∧ zO (w :: (w + 3) :: SC) M M' ∧ (∀ k, k ≠ 8 → M'.1 w k = M.1 w k) := by
  obtain ⟨hn, h7⟩ := okX_n hM
  obtain ⟨s5, s6⟩ := isW_ne hw
  obtain ⟨M2, g1, g2, g3⟩ := day_1 hw hM (vN (vX w M)) 0 zF M (zO_refl _ _) (by omega) (by unfold zF; omega) (fun j hj => absurd hj (by omega))
  obtain ⟨a0, a1, a2, a3, a4⟩ := SC_rows hw g2
  obtain ⟨M4, q1, q2, q3⟩ := day_2 hw hn M2 (by rw [a0]; exact h7) (vN (vX w M)) 0 zF M2 (zO_refl _ _) (fun j => by rw [if_neg (by omega)]) (by omega) (by unfold zF; omega)
  have b0 : M4.1 w = M.1 w := (q2.2 _ (by simp)).trans a0
  have b1 : M4.1 (w + 1) = M.1 (w + 1) := (q2.2 _ (by simp)).trans a1
  have b2 : M4.1 (w + 2) = M.1 (w + 2) := (q2.2 _ (by simp)).trans a2
  have b4 : M4.1 (w + 4) = M.1 (w + 4) := (q2.2 _ (by simp)).trans a4
  obtain ⟨M', e⟩ : ∃ M', M' = zu M4 w 8 (M2.1 w 8 + 1) := ⟨_, rfl⟩
  have c8 : ∀ k, k ≠ 8 → M'.1 w k = M.1 w k := fun k hk => by rw [e, zu_other _ _ hk, b0]
  have cr : ∀ a, a ≠ w → M'.1 a = M4.1 a := fun a ha => by rw [e, zu_row _ ha]
  have ht1 : ∀ r, M'.1 (32 + 4 * r + 1) = M.1 (32 + 4 * r + 1) := fun r => by
    rw [cr _ (by rcases hw with rfl | rfl | rfl <;> omega), q2.2 _ (by simp; rcases hw with rfl | rfl | rfl <;> omega), g2.2 _ (by simp [SC]; omega)]
  have ht2 : ∀ r, M'.1 (32 + 4 * r + 2) = M.1 (32 + 4 * r + 2) := fun r => by
    rw [cr _ (by rcases hw with rfl | rfl | rfl <;> omega), q2.2 _ (by simp; rcases hw with rfl | rfl | rfl <;> omega), g2.2 _ (by simp [SC]; omega)]
  have hc : ∀ r p, cX M' r p = cX M r p := fun r p => by unfold cX; rw [ht1, ht2]
  have htx : ∀ r, tX M' r = tX M r := fun r => by unfold tX; funext p nm; rw [hc]
  have hd : M'.1 w 8 = M.1 w 8 + 1 := by rw [e, zu_same, a0]
  refine ⟨M', ?_, ?_, ?_, ?_, c8⟩
  · unfold fX4_passDay
    rw [show (0 : Int32) = nI 0 from rfl, g1, show (0 : Int32) = nI 0 from rfl, q1, e]
  · have hsz : (M'.1 w 7).toNatClampNeg = vN (vX w M) := by rw [c8 7 (by decide)]; rfl
    refine zV_ext hsz hd (c8 9 (by decide)) ?_ ?_ ?_ ?_ ?_
    · show zt (M'.1 w 7).toNatClampNeg (M'.1 (w + 1)) = _
      rw [hsz, cr _ (by omega), b1]; rfl
    · show zt (M'.1 w 7).toNatClampNeg (M'.1 (w + 2)) = _
      rw [hsz, cr _ (by omega), b2]; rfl
    · show zt (M'.1 w 7).toNatClampNeg (M'.1 (w + 3)) = _
      rw [hsz, cr _ (by omega)]
      funext j
      show (if j < vN (vX w M) then M4.1 (w + 3) j else 0) = if j < vN (vX w M) then zmin 999 (vRue (vX w M) j + sRues (vX w M) j) else vRue (vX w M) j
      by_cases c : j < vN (vX w M)
      · rw [if_pos c, if_pos c, q3 j, if_pos c, a3, g3 j c, (vX_at c).2.2.1]
      · rw [if_neg c, if_neg c]
        exact (zt_ge (by show vN (vX w M) ≤ j; omega) _).symm
    · show zt (M'.1 w 7).toNatClampNeg (M'.1 (w + 4)) = _
      rw [hsz, cr _ (by omega), b4]; rfl
    · show tX M' (M'.1 w 10).toNatClampNeg = _
      rw [c8 10 (by decide), htx]; rfl
  · obtain ⟨⟨n, hn', h7'⟩, r, hr, h10, hT⟩ := hM
    refine ⟨⟨n, hn', by rw [c8 7 (by decide)]; exact h7'⟩, r, hr, by rw [c8 10 (by decide)]; exact h10, ?_⟩
    unfold okT
    rw [ht2]
    exact ⟨hT.1, fun p hp => by rw [hc]; exact hT.2 p hp⟩
  · rw [e]
    exact zO_trans (zO_trans (zO_mono g2 (fun i hi => by simp [hi])) (zO_mono q2 (fun i hi => by simp at hi; simp [hi]))) (zO_zu _ _ _ _ (by simp))

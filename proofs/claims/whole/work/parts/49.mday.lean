/-! bounds; a DAY of the reference -/
theorem sBd_id {lo hi v : Int32} (h1 : lo ≤ v) (h2 : v ≤ hi) : sBd lo hi v = v := by
  unfold sBd zmax zmin
  by_cases c3 : v < hi
  · rw [if_pos c3]
    by_cases c4 : lo < v
    · rw [if_pos c4]
    · rw [if_neg c4, Int32.le_antisymm h1 (Int32.not_lt.mp c4)]
  · rw [if_neg c3]
    have e : v = hi := Int32.le_antisymm h2 (Int32.not_lt.mp c3)
    subst e
    by_cases c4 : lo < v
    · rw [if_pos c4]
    · rw [if_neg c4, Int32.le_antisymm h1 (Int32.not_lt.mp c4)]
theorem sBd_rng {lo hi : Int32} (h : lo ≤ hi) (v : Int32) : lo ≤ sBd lo hi v ∧ sBd lo hi v ≤ hi := by
  unfold sBd zmax zmin
  by_cases c3 : v < hi
  · rw [if_pos c3]
    by_cases c4 : lo < v
    · rw [if_pos c4]; exact ⟨Int32.le_of_lt c4, Int32.le_of_lt c3⟩
    · rw [if_neg c4]; exact ⟨Int32.le_refl _, h⟩
  · rw [if_neg c3]
    by_cases c4 : lo < hi
    · rw [if_pos c4]; exact ⟨h, Int32.le_refl _⟩
    · rw [if_neg c4]; exact ⟨Int32.le_refl _, h⟩
theorem sBd_5 {v : Int32} (h : 0 ≤ v) : sBd 0 5 v = sBd 0 99 (zmin v 5) := by
  by_cases c : (5 : Int32) < v
  · have e1 : zmin v 5 = 5 := if_pos c
    rw [e1]
    unfold sBd zmin
    rw [if_neg (fun q => absurd (Int32.lt_trans q c) Int32.lt_irrefl)]
    decide
  · have e1 : zmin v 5 = v := if_neg c
    have c' := Int32.not_lt.mp c
    rw [e1, sBd_id h c', sBd_id h (Int32.le_trans c' (by decide))]
theorem fX6_ruesOf_e {M : zM} (hM : okM M) {i : Nat} (hi : i < vN (vM M)) : ∃ M', fX6_ruesOf (nI i) M = some (sRues (vM M) i, M') ∧ zO SN M M' := by
  obtain ⟨hn, -⟩ := okM_n hM
  obtain ⟨M1, g1, g2⟩ := fX6_ruledFor_e hM (p := 2) (by omega) hi
  obtain ⟨a0, a1, a2, a3, a4, -⟩ := SM_rows (SNM g2)
  obtain ⟨k1, k2, k3, k4⟩ := vM_at hi
  refine ⟨M1, ?_, g2⟩
  unfold fX6_ruesOf
  have g1 : fX6_ruledFor (2 : Int32) (nI i) M = some (sTl (vM M) 2 i, M1) := g1
  rw [zB_s g1, zB_s (sBd_m (by decide) _)]
  simp only [zG_t (zin_nI (show i < 5 by omega) (by decide)), nIc (show i < 2 ^ 31 by omega), zL_r]
  rw [a1, a2, ← k1, ← k2]
  obtain ⟨b1, b2⟩ := sBd_rng (lo := 0) (hi := 99) (by decide) (sTl (vM M) 2 i)
  unfold sRues
  by_cases c1 : vKind (vM M) i = 1
  · rw [if_pos c1, if_pos c1, zB_s (sBd_m (by decide) _)]
  rw [if_neg c1, if_neg c1]
  by_cases c2 : vKind (vM M) i = 2
  · rw [if_pos c2, if_pos c2]; rfl
  rw [if_neg c2, if_neg c2]
  by_cases c3 : vKind (vM M) i = 3
  · rw [if_pos c3, if_pos c3, zB_s (sBd_m (by decide) _)]
  rw [if_neg c3, if_neg c3]
  by_cases c4 : vKind (vM M) i = 4
  · rw [if_pos c4, if_pos c4]; rfl
  rw [if_neg c4, if_neg c4]
  by_cases c5 : vKind (vM M) i = 5
  · rw [if_pos c5, if_pos c5, zB_s (sBd_m (by decide) _), sBd_5 b1]
  rw [if_neg c5, if_neg c5, sBd_id b1 b2]
theorem fX6_minutes_e {M : zM} (hM : okM M) {i : Nat} (hi : i < vN (vM M)) : ∃ M', fX6_minutes (nI i) M = some (sMin (vM M) i, M') ∧ zO SN M M' := by
  obtain ⟨M1, g1, g2⟩ := fX6_isClogged_e hM hi
  unfold fX6_minutes
  rw [zB_s g1]
  unfold sMin
  by_cases c : sClg (vM M) i = 0
  · rw [if_pos c, if_pos c]
    have hv := vM_congr (SNM g2)
    obtain ⟨M2, h1, h2⟩ := fX6_runsOf_e (okM_congr (SNM g2) hM) (i := i) (by rw [hv]; exact hi)
    rw [zB_s h1, hv]
    exact ⟨M2, rfl, zO_trans g2 h2⟩
  · rw [if_neg c, if_neg c]
    exact ⟨M1, rfl, g2⟩
/-- what each may owe and have -/
def okV (V : zVw) : Prop := ∀ i, i < vN V → (0 ≤ vRue V i ∧ vRue V i ≤ 999) ∧ (0 ≤ vHad V i ∧ vHad V i ≤ 999)
theorem sRues_rng (V : zVw) (i : Nat) : 0 ≤ sRues V i ∧ sRues V i ≤ 99 := by
  unfold sRues
  exact sBd_rng (by decide) _
theorem add_rng {a b : Int32} {A B : Nat} (ha : 0 ≤ a) (hA : a ≤ nI A) (hb : 0 ≤ b) (hB : b ≤ nI B) (h : A + B < 2 ^ 30) : 0 ≤ a + b ∧ a + b ≤ nI (A + B) := by
  obtain ⟨x, hx, rfl⟩ := i32_nat (n := A + 1) ha (by
    rw [Int32.lt_iff_toInt_lt, nI_toInt (by omega)]
    rw [Int32.le_iff_toInt_le, nI_toInt (by omega)] at hA
    omega) (by omega)
  obtain ⟨y, hy, rfl⟩ := i32_nat (n := B + 1) hb (by
    rw [Int32.lt_iff_toInt_lt, nI_toInt (by omega)]
    rw [Int32.le_iff_toInt_le, nI_toInt (by omega)] at hB
    omega) (by omega)
  rw [nI_add]
  exact ⟨nI_pos' (by omega), (nI_leI (by omega) (by omega)).mpr (by omega)⟩
theorem sBd_min {v : Int32} (h : 0 ≤ v) : sBd 0 999 v = zmin 999 v := by
  unfold sBd zmax
  by_cases c : v < 999
  · have e : zmin 999 v = v := if_pos c
    rw [e]
    by_cases c4 : 0 < v
    · rw [if_pos c4]
    · rw [if_neg c4, Int32.le_antisymm h (Int32.not_lt.mp c4)]
  · have e : zmin 999 v = 999 := if_neg c
    rw [e]; rfl
theorem zmin_rng {v : Int32} (h : 0 ≤ v) : 0 ≤ zmin 999 v ∧ zmin 999 v ≤ 999 := by
  rw [← sBd_min h]
  exact sBd_rng (by decide) v
theorem sDay_ok {V : zVw} (h : okV V) : okV (sDay V) := by
  intro i hi
  have hi' : i < vN V := hi
  obtain ⟨⟨h1, h2⟩, h3, h4⟩ := h i hi'
  obtain ⟨r1, r2⟩ := sRues_rng V i
  refine ⟨?_, h3, h4⟩
  have e : vRue (sDay V) i = zmin 999 (vRue V i + sRues V i) := if_pos hi'
  rw [e]
  exact zmin_rng (add_rng (A := 999) (B := 99) h1 h2 r1 r2 (by omega)).1
theorem mday_1 {M : zM} (hM : okM M) : ∀ (d i N : Nat) (M1 : zM), zO SM M M1 → i + d = vN (vM M) → d < N → (∀ j, j < i → M1.1 14 j = sRues (vM M) j) → ∃ M2, fX6_goes_L2 N (nI i) M1 = fX6_goes_L29 zF (0 : Int32) M2 ∧ zO SM M M2 ∧ ∀ j, j < vN (vM M) → M2.1 14 j = sRues (vM M) j := by
  obtain ⟨hn, h7⟩ := okM_n hM
  intro d
  induction d with
  | zero =>
    intro i N M1 hO hi hN hj
    obtain ⟨N, rfl⟩ : ∃ q, N = q + 1 := ⟨N - 1, by omega⟩
    refine ⟨M1, ?_, hO, fun j hjn => hj j (by omega)⟩
    show fX6_goes_B2 _ _ M1 = _
    unfold fX6_goes_B2
    rw [(SM_rows hO).1, h7, if_pos ((nI_leI (by omega) (by omega)).mpr (by omega))]
  | succ d ih =>
    intro i N M1 hO hi hN hj
    obtain ⟨N, rfl⟩ : ∃ q, N = q + 1 := ⟨N - 1, by omega⟩
    have hv := vM_congr hO
    obtain ⟨M2, g1, g2⟩ := fX6_ruesOf_e (okM_congr hO hM) (i := i) (by rw [hv]; omega)
    obtain ⟨M3, e3⟩ : ∃ M3, M3 = zu M2 14 i (sRues (vM M) i) := ⟨_, rfl⟩
    have hO3 : zO SM M M3 := by rw [e3]; exact zO_trans (zO_trans hO (SNM g2)) (zO_zu _ _ _ _ (by decide))
    have h5 : M2.1 14 = M1.1 14 := g2.2 _ (by decide)
    obtain ⟨M4, q1, q2, q3⟩ := ih (i + 1) N M3 hO3 (by omega) (by omega) (fun j hjl => by
      rw [e3, zu_at]
      by_cases c : j = i
      · rw [if_pos ⟨rfl, c⟩, c]
      · rw [if_neg (fun q => c q.2), h5]
        exact hj j (by omega))
    refine ⟨M4, ?_, q2, q3⟩
    rw [← q1]
    show fX6_goes_B2 _ _ M1 = _
    unfold fX6_goes_B2
    rw [(SM_rows hO).1, h7, if_neg (by rw [nI_leI (by omega) (by omega)]; omega), zB_s g1, zG_t (zin_nI (by omega) (by decide)), nIc (by omega)]
    simp only [zL_r]
    rw [nI_1, hv, ← e3]
theorem mday_2 {n : Nat} (hn : n ≤ 5) (M2 : zM) (h7 : M2.1 0 2 = nI n) (hr : ∀ j, j < n → 0 ≤ M2.1 3 j + M2.1 14 j) : ∀ (d i N : Nat) (M3 : zM), zO [3] M2 M3 → (∀ j, M3.1 3 j = if j < i then zmin 999 (M2.1 3 j + M2.1 14 j) else M2.1 3 j) → i + d = n → d < N → ∃ M4, fX6_goes_L29 N (nI i) M3 = some (zu M4 0 0 (M2.1 0 0 + 1)) ∧ zO [3] M2 M4 ∧ ∀ j, M4.1 3 j = if j < n then zmin 999 (M2.1 3 j + M2.1 14 j) else M2.1 3 j := by
  intro d
  induction d with
  | zero =>
    intro i N M3 hO hj hi hN
    obtain ⟨N, rfl⟩ : ∃ q, N = q + 1 := ⟨N - 1, by omega⟩
    have e0 : M3.1 0 = M2.1 0 := hO.2 _ (by simp)
    refine ⟨M3, ?_, hO, fun j => by rw [hj j, show i = n by omega]⟩
    show fX6_goes_B29 _ _ M3 = _
    unfold fX6_goes_B29
    rw [e0, h7, if_pos ((nI_leI (by omega) (by omega)).mpr (by omega))]
    rfl
  | succ d ih =>
    intro i N M3 hO hj hi hN
    obtain ⟨N, rfl⟩ : ∃ q, N = q + 1 := ⟨N - 1, by omega⟩
    have e0 : M3.1 0 = M2.1 0 := hO.2 _ (by simp)
    have e5 : M3.1 14 = M2.1 14 := hO.2 _ (by simp)
    obtain ⟨M5, e⟩ : ∃ M5, M5 = zu M3 3 i (zmin 999 (M2.1 3 i + M2.1 14 i)) := ⟨_, rfl⟩
    obtain ⟨M4, q1, q2, q3⟩ := ih (i + 1) N M5 (by rw [e]; exact zO_trans hO (zO_zu _ _ _ _ (by simp))) (fun j => by
      rw [e, zu_at]
      by_cases c : j = i
      · rw [if_pos ⟨rfl, c⟩, if_pos (by omega), c]
      · rw [if_neg (fun q => c q.2), hj j]
        by_cases c2 : j < i
        · rw [if_pos c2, if_pos (by omega)]
        · rw [if_neg c2, if_neg (by omega)]) (by omega) (by omega)
    refine ⟨M4, ?_, q2, q3⟩
    rw [← q1]
    show fX6_goes_B29 _ _ M3 = _
    unfold fX6_goes_B29
    rw [e0, h7, if_neg (by rw [nI_leI (by omega) (by omega)]; omega)]
    simp only [zG_t (zin_nI (show i < 5 by omega) (by decide)), nIc (show i < 2 ^ 31 by omega)]
    rw [zB_s (sBd_m (by decide) _)]
    simp only [zL_r]
    rw [nI_1, hj i, if_neg (by omega), e5, sBd_min (hr i (by omega)), ← e]
theorem fX6_goes_e {M : zM} (hM : okM M) (hV : okV (vM M)) : ∃ M', fX6_goes M = some M' ∧ vM M' = sDay (vM M) ∧ okM M' ∧ zO (0 :: 3 :: SM) M M' ∧ (∀ k, k ≠ 0 → M'.1 0 k = M.1 0 k) := by
  obtain ⟨hn, h7⟩ := okM_n hM
  obtain ⟨M2, g1, g2, g3⟩ := mday_1 hM (vN (vM M)) 0 zF M (zO_refl _ _) (by omega) (by unfold zF; omega) (fun j hj => absurd hj (by omega))
  obtain ⟨a0, a1, a2, a3, a4, a6, a7, a8⟩ := SM_rows g2
  obtain ⟨M4, q1, q2, q3⟩ := mday_2 hn M2 (by rw [a0]; exact h7) (fun j hj => by
    rw [a3, g3 j hj, ← (vM_at hj).2.2.1]
    obtain ⟨r1, r2⟩ := sRues_rng (vM M) j
    exact (add_rng (A := 999) (B := 99) (hV j hj).1.1 (hV j hj).1.2 r1 r2 (by omega)).1) (vN (vM M)) 0 zF M2 (zO_refl _ _) (fun j => by rw [if_neg (by omega)]) (by omega) (by unfold zF; omega)
  have b : ∀ a, a ≠ 3 → M4.1 a = M2.1 a := fun a ha => q2.2 a (by simpa using ha)
  obtain ⟨M', e⟩ : ∃ M', M' = zu M4 0 0 (M2.1 0 0 + 1) := ⟨_, rfl⟩
  have c8 : ∀ k, k ≠ 0 → M'.1 0 k = M.1 0 k := fun k hk => by rw [e, zu_other _ _ hk, b 0 (by decide), a0]
  have cr : ∀ a, a ≠ 0 → M'.1 a = M4.1 a := fun a ha => by rw [e, zu_row _ ha]
  have hd : M'.1 0 0 = M.1 0 0 + 1 := by rw [e, zu_same, a0]
  have h6 : M'.1 6 = M.1 6 := by rw [cr 6 (by decide), b 6 (by decide), a6]
  have h7' : M'.1 7 = M.1 7 := by rw [cr 7 (by decide), b 7 (by decide), a7]
  have h8 : M'.1 8 = M.1 8 := by rw [cr 8 (by decide), b 8 (by decide), a8]
  refine ⟨M', ?_, ?_, ?_, ?_, c8⟩
  · unfold fX6_goes
    rw [show (0 : Int32) = nI 0 from rfl, g1, show (0 : Int32) = nI 0 from rfl, q1, e]
  · have hsz : (M'.1 0 2).toNatClampNeg = vN (vM M) := by rw [c8 2 (by decide)]; rfl
    refine zV_ext hsz hd (c8 1 (by decide)) ?_ ?_ ?_ ?_ ?_
    · show zt (M'.1 0 2).toNatClampNeg (M'.1 1) = _
      rw [hsz, cr 1 (by decide), b 1 (by decide), a1]; rfl
    · show zt (M'.1 0 2).toNatClampNeg (M'.1 2) = _
      rw [hsz, cr 2 (by decide), b 2 (by decide), a2]; rfl
    · show zt (M'.1 0 2).toNatClampNeg (M'.1 3) = _
      rw [hsz, cr 3 (by decide)]
      funext j
      show (if j < vN (vM M) then M4.1 3 j else 0) = if j < vN (vM M) then zmin 999 (vRue (vM M) j + sRues (vM M) j) else vRue (vM M) j
      by_cases c : j < vN (vM M)
      · rw [if_pos c, if_pos c, q3 j, if_pos c, a3, g3 j c, (vM_at c).2.2.1]
      · rw [if_neg c, if_neg c]
        exact (zt_ge (by show vN (vM M) ≤ j; omega) _).symm
    · show zt (M'.1 0 2).toNatClampNeg (M'.1 4) = _
      rw [hsz, cr 4 (by decide), b 4 (by decide), a4]; rfl
    · show tM M' (M'.1 0 7).toNatClampNeg = _
      rw [c8 7 (by decide)]
      unfold tM
      funext p nm
      show (if p < 3 then sV nm (cM M' _ p) else 0) = (if p < 3 then sV nm (cM M _ p) else 0)
      rw [cM_rows h6 h7' h8]
  · obtain ⟨⟨n, hn', h7''⟩, r, hr, h10, hT⟩ := hM
    exact ⟨⟨n, hn', by rw [c8 2 (by decide)]; exact h7''⟩, r, hr, by rw [c8 7 (by decide)]; exact h10, okTM_rows h6 h7' h8 hT⟩
  · rw [e]
    exact zO_trans (zO_trans (zO_mono g2 (fun i hi => by simp [hi])) (zO_mono q2 (fun i hi => by simp at hi; simp [hi]))) (zO_zu _ _ _ _ (by simp))

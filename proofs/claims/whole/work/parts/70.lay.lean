/-! the class's table is laid -/
theorem gKey_lt2 {A B C : Nat} {p : List Nat} {r s : Nat} (h : gOk A B C r s p) (hr : r ≤ 30) : gKey p < 2 ^ 62 := by
  have l := gOk_len h
  have t := gTn_le p
  have q := gKey_low (gOk_8 h) (by omega)
  have t90 : gTn p ≤ 90 := by omega
  have := Nat.mul_le_mul_right 100000000000 t90
  unfold gKey
  omega
theorem gMn_lt2 {A B C m v : Nat} {S : List Nat → Prop} (hS : ∀ p, S p → gOk A B C m 0 p) (hm : m ≤ 30) (h : gMn gKey 9223372036854775807 S v) (hv : v ≠ 9223372036854775807) : v < 9223372036854775807 ∧ v < 2 ^ 62 := by
  rcases h with ⟨a, -⟩ | ⟨p, a, b, -⟩
  · exact absurd a hv
  · rw [b]
    exact ⟨gKey_lt (hS p a) hm, gKey_lt2 (hS p a) hm⟩
theorem gMn_le {A B C m v : Nat} {S : List Nat → Prop} (hS : ∀ p, S p → gOk A B C m 0 p) (hm : m ≤ 30) (h : gMn gKey 9223372036854775807 S v) : v ≤ 9223372036854775807 := by
  rcases h with ⟨a, -⟩ | ⟨p, a, b, -⟩
  · omega
  · have := gKey_lt (hS p a) hm
    omega
theorem zcmp_nv {v : Nat} (hv : v ≤ 9223372036854775807) : zcmp (lN v) (9223372036854775807 : Int64) = 0 ↔ v = 9223372036854775807 := by
  unfold zcmp
  rw [lg_cmp_eq, show (9223372036854775807 : Int64) = lN 9223372036854775807 from rfl, pk_lEQ (by omega) (by omega)]
theorem pmin_loop {A B C m : Nat} (hA : A ≤ 9) (hB : B ≤ 9) (hC : C ≤ 9) (hm : m ≤ 30) : ∀ (d s N best : Nat) (W : Nat → Nat) (M : zM), s + d = 1000 → d < N → tSz A B C M → tWy W M → gI A B C m ((m * 1000 + s) * 8) s W → gMn gKey 9223372036854775807 (fun p => gOk A B C m 0 p ∧ gEn A B C 0 p < s) best → ∃ M' W' best', fX1_passMinute_L16 N (nI m) (nI (m % 10 * 1000)) (lN best) (nI s) M = some (lN best', M') ∧ tF M M' ∧ tWy W' M' ∧ gI A B C m ((m * 1000 + 1000) * 8) 1000 W' ∧ gMn gKey 9223372036854775807 (gOk A B C m 0) best' := by
  intro d
  induction d with
  | zero =>
    intro s N best W M hs hN hz hy hI hb
    obtain ⟨N, rfl⟩ : ∃ q, N = q + 1 := ⟨N - 1, by omega⟩
    have : s = 1000 := by omega
    subst this
    refine ⟨M, W, best, ?_, tF_refl M, hy, hI, gMn_congr (fun p => ⟨fun q => q.1, fun q => ⟨q, ?_⟩⟩) hb⟩
    · show fX1_passMinute_B16 _ _ _ _ _ M = _
      unfold fX1_passMinute_B16
      rw [if_pos (by decide)]
    · exact (gTo_W hA hB hC (⟨q, rfl⟩ : gTo A B C m _ p)).1
  | succ d ih =>
    intro s N best W M hs hN hz hy hI hb
    obtain ⟨N, rfl⟩ : ∃ q, N = q + 1 := ⟨N - 1, by omega⟩
    have hs1 : s < 1000 := by omega
    have li : m % 10 * 1000 + s < 10000 := by omega
    obtain ⟨y1, y2⟩ := hy _ li
    have hat := gI_at hA hB hC hm hs1 hI
    have hbl := gMn_le (A := A) (B := B) (C := C) (fun p q => q.1) hm hb
    have hB16 : fX1_passMinute_L16 (N + 1) (nI m) (nI (m % 10 * 1000)) (lN best) (nI s) M = fX1_passMinute_B16 (fX1_passMinute_L16 N) (nI m) (nI (m % 10 * 1000)) (lN best) (nI s) M := rfl
    rw [hB16]
    unfold fX1_passMinute_B16
    rw [if_neg (by rw [show (1000 : Int32) = nI 1000 from rfl, nI_leI (by omega) (by omega)]; omega), nI_add, zG_t (zin_nI li (by omega)), nIc (by omega), y1, zL_r]
    by_cases c : W (m % 10 * 1000 + s) = 9223372036854775807
    · rw [if_pos ((zcmp_nv y2).mpr c), zL_r, nI_1]
      have hI' := gI_skip hA hB hC hm hs1 hI c
      refine ih (s + 1) N best W M (by omega) (by omega) hz hy hI' (gMn_congr (fun p => ⟨fun q => ⟨q.1, by omega⟩, fun q => ⟨q.1, ?_⟩⟩) hb)
      by_cases e : gEn A B C 0 p = s
      · rw [c] at hat
        rcases hat with ⟨-, n⟩ | ⟨k, a, b, -⟩
        · exact absurd ⟨q.1, e⟩ (n p)
        · have := gKey_lt a.1 hm
          omega
      · omega
    · obtain ⟨l1, l2⟩ := gMn_lt2 (A := A) (B := B) (C := C) (fun p q => q.1) hm hat c
      have hW : gW A B C s := by
        rcases hat with ⟨a, -⟩ | ⟨p, a, -, -⟩
        · exact absurd a c
        · exact gTo_W hA hB hC a
      rw [if_neg (fun q => c ((zcmp_nv y2).mp q)), zG_t (zin_nI li (by omega)), zL_r, zminl_lN (by omega) (by omega), zL_r]
      have hT := gI_take hs1 hI
      have hy1 := tWy_up hy (m % 10 * 1000 + s) (v := 9223372036854775807) (Nat.le_refl _)
      obtain ⟨M1, W1, t1, t2, t3, t4⟩ := tset_loop hA hB hC hm hs1 hW hat l1 l2 8 0 zF _ (zul M 7 (m % 10 * 1000 + s) (lN 9223372036854775807)) (by omega) (by unfold zF; omega) (show tSz A B C (zul M 7 (m % 10 * 1000 + s) (lN 9223372036854775807)) from hz) hy1 hT
      have t1' : fX1_turnSets (nI m) (nI s) (lN (W (m % 10 * 1000 + s))) (zul M 7 (m % 10 * 1000 + s) (9223372036854775807 : Int64)) = some M1 := t1
      rw [zV_s t1', zL_r, nI_1]
      have hz1 : tSz A B C M1 := by
        unfold tSz
        rw [t2.1]; exact hz
      rw [show (m * 1000 + s) * 8 + 8 = (m * 1000 + (s + 1)) * 8 by omega] at t4
      have hun := gMn_union hb hat (fun p hp => by
        rcases hp with hp | hp
        · exact Nat.le_of_lt (gKey_lt hp.1 hm)
        · exact Nat.le_of_lt (gKey_lt hp.1 hm))
      obtain ⟨M', W', best', g1, g2, g3⟩ := ih (s + 1) N (min best (W (m % 10 * 1000 + s))) W1 M1 (by omega) (by omega) hz1 t3 t4 (gMn_congr (fun p => by
        constructor
        · rintro (⟨q1, q2⟩ | ⟨q1, q2⟩)
          · exact ⟨q1, by omega⟩
          · exact ⟨q1, by omega⟩
        · rintro ⟨q1, q2⟩
          by_cases e : gEn A B C 0 p = s
          · exact Or.inr ⟨q1, e⟩
          · exact Or.inl ⟨q1, by omega⟩) hun)
      exact ⟨M', W', best', g1, tF_trans (tF_trans (tF_zul _ _ _) t2) g2, g3⟩
def tBest (A B C : Nat) (M : zM) : Prop := ∀ i, i ≤ 30 → ∃ w, M.2 8 i = lN w ∧ gMn gKey 9223372036854775807 (gOk A B C i 0) w
theorem lay_loop {A B C : Nat} (hA : A ≤ 9) (hB : B ≤ 9) (hC : C ≤ 9) : ∀ (d m N : Nat) (W : Nat → Nat) (M : zM), m + d = 31 → d < N → tSz A B C M → tWy W M → (m ≤ 30 → gI A B C m ((m * 1000 + 0) * 8) 0 W) → (∀ i, i < m → ∃ w, M.2 8 i = lN w ∧ gMn gKey 9223372036854775807 (gOk A B C i 0) w) → ∃ M', fX1_lay_L64 N (nI m) M = some M' ∧ M'.1 = M.1 ∧ tBest A B C M' := by
  intro d
  induction d with
  | zero =>
    intro m N W M hs hN hz hy hI hb
    obtain ⟨N, rfl⟩ : ∃ q, N = q + 1 := ⟨N - 1, by omega⟩
    have : m = 31 := by omega
    subst this
    refine ⟨M, ?_, rfl, fun i hi => hb i (by omega)⟩
    show fX1_lay_B64 _ _ M = _
    unfold fX1_lay_B64
    rw [if_pos (by decide)]
  | succ d ih =>
    intro m N W M hs hN hz hy hI hb
    obtain ⟨N, rfl⟩ : ∃ q, N = q + 1 := ⟨N - 1, by omega⟩
    have hm : m ≤ 30 := by omega
    obtain ⟨M1, W1, b1, p1, p2, p3, p4, p5⟩ := pmin_loop hA hB hC hm 1000 0 zF 9223372036854775807 W M (by omega) (by unfold zF; omega) hz hy (hI hm) (Or.inl ⟨rfl, fun p q => absurd q.2 (by omega)⟩)
    have hpm : fX1_passMinute (nI m) M = some (lN b1, M1) := by
      unfold fX1_passMinute
      rw [show zrm (nI m) (10 : Int32) = nI (m % 10) from nI_rm (show m < 2 ^ 31 by omega) (show 0 < 10 by decide) (by decide), show (1000 : Int32) = nI 1000 from rfl, pk_mul, zL_r]
      exact p1
    have hU : fX1_lay_L64 (N + 1) (nI m) M = fX1_lay_B64 (fX1_lay_L64 N) (nI m) M := rfl
    rw [hU]
    unfold fX1_lay_B64
    rw [if_neg (by rw [show (30 : Int32) = nI 30 from rfl, nI_ltI (by omega) (by omega)]; omega), zB_s hpm, zG_t (zin_nI (show m < 31 by omega) (by omega)), nIc (by omega), zL_r, zL_r, nI_1]
    have hy2 : tWy W1 (zul M1 8 m (lN b1)) := fun j hj => p3 j hj
    obtain ⟨M', g1, g2, g3⟩ := ih (m + 1) N W1 (zul M1 8 m (lN b1)) (by omega) (by omega) (show tSz A B C (zul M1 8 m (lN b1)) by
      unfold tSz
      show M1.1 6 3 = _ ∧ M1.1 6 4 = _ ∧ M1.1 6 5 = _
      rw [p2.1]; exact hz) hy2 (fun _ => gI_next hA hB hC p4) (fun i hi => by
      rw [zul_at]
      by_cases c : i = m
      · rw [if_pos c, c]; exact ⟨b1, rfl, p5⟩
      · rw [if_neg c, p2.2 8 (by decide)]; exact hb i (by omega))
    exact ⟨M', g1, g2.trans p2.1, g3⟩
theorem tfill_loop : ∀ (d i N : Nat) (M : zM), i + d = 10000 → d < N → (∀ j, j < i → M.2 7 j = 9223372036854775807) → ∃ M', fJ7_fill_d0a16_L6 7 10000 N (9223372036854775807 : Int64) (nI i) (nI 10000) M = some M' ∧ tF M M' ∧ ∀ j, j < 10000 → M'.2 7 j = 9223372036854775807 := by
  intro d
  induction d with
  | zero =>
    intro i N M hi hN hj
    obtain ⟨N, rfl⟩ : ∃ q, N = q + 1 := ⟨N - 1, by omega⟩
    have : i = 10000 := by omega
    subst this
    refine ⟨M, ?_, tF_refl M, hj⟩
    show fJ7_fill_d0a16_B6 _ _ _ _ _ _ M = _
    unfold fJ7_fill_d0a16_B6
    rw [if_pos (Int32.le_refl _)]
  | succ d ih =>
    intro i N M hi hN hj
    obtain ⟨N, rfl⟩ : ∃ q, N = q + 1 := ⟨N - 1, by omega⟩
    obtain ⟨M', g1, g2, g3⟩ := ih (i + 1) N (zul M 7 i (9223372036854775807 : Int64)) (by omega) (by omega) (fun j hjl => by
      rw [zul_at]
      by_cases c : j = i
      · rw [if_pos c]
      · rw [if_neg c]; exact hj j (by omega))
    refine ⟨M', ?_, tF_trans (tF_zul _ _ _) g2, g3⟩
    rw [← g1]
    show fJ7_fill_d0a16_B6 _ _ _ _ _ _ M = _
    unfold fJ7_fill_d0a16_B6
    rw [if_neg (by rw [nI_leI (by omega) (by omega)]; omega), zG_t (zin_nI (show i < 10000 by omega) (by omega)), nIc (by omega), zL_r, zL_r, nI_1]
/-- 6.6 names what is laid; 9 what is known of each three -/
def tKn (M : zM) : Prop := ∀ A B C, A ≤ 9 → B ≤ 9 → C ≤ 9 → M.1 9 (A * 100 + B * 10 + C) = 0 ∨ ∃ N, N < 2 ^ 31 ∧ M.1 9 (A * 100 + B * 10 + C) = 1 ||| nI N ∧ ∀ j, N.testBit j = true ↔ 1 ≤ j ∧ j ≤ 30 ∧ ∃ p, gOk A B C j 0 p
def zTab (M : zM) : Prop := (M.1 6 6 = -1 ∨ ∃ A B C, A ≤ 9 ∧ B ≤ 9 ∧ C ≤ 9 ∧ M.1 6 6 = nI (A * 100 + B * 10 + C) ∧ tBest A B C M) ∧ tKn M
theorem zTab_ok : tabOk zTab := by
  intro M M' h6 h9 h2 h
  unfold zTab tKn tBest at *
  rw [h6, h9, h2]
  exact h
theorem lay_e {M : zM} (hT : zTab M) {A B C : Nat} (hA : A ≤ 9) (hB : B ≤ 9) (hC : C ≤ 9) : ∃ M', fX1_lay (nI A) (nI B) (nI C) M = some M' ∧ zTab M' ∧ tBest A B C M' ∧ ∀ i, i ≠ 6 → M'.1 i = M.1 i := by
  unfold fX1_lay
  rw [show (100 : Int32) = nI 100 from rfl, show (10 : Int32) = nI 10 from rfl, pk_mul, pk_mul, nI_add, nI_add, zL_r]
  by_cases c : nI (A * 100 + B * 10 + C) = M.1 6 6
  · rw [if_pos c]
    refine ⟨M, rfl, hT, ?_, fun _ _ => rfl⟩
    rcases hT.1 with h | ⟨A', B', C', a1, a2, a3, a4, a5⟩
    · rw [h] at c
      exact absurd (show nI (A * 100 + B * 10 + C) < 0 by rw [c]; decide) (nI_pos (by omega))
    · rw [a4, nI_eq (by omega) (by omega)] at c
      have e1 : A' = A := by omega
      have e2 : B' = B := by omega
      have e3 : C' = C := by omega
      subst e1 e2 e3
      exact a5
  · rw [if_neg c, zL_r, zL_r, zL_r, zL_r]
    obtain ⟨M1, e1⟩ : ∃ M1, M1 = zu (zu (zu (zu M 6 6 (nI (A * 100 + B * 10 + C))) 6 3 (nI A)) 6 4 (nI B)) 6 5 (nI C) := ⟨_, rfl⟩
    rw [← e1]
    have s3 : M1.1 6 3 = nI A := by rw [e1, zu_other _ _ (by decide), zu_other _ _ (by decide), zu_same]
    have s4 : M1.1 6 4 = nI B := by rw [e1, zu_other _ _ (by decide), zu_same]
    have s5 : M1.1 6 5 = nI C := by rw [e1, zu_same]
    have s6 : M1.1 6 6 = nI (A * 100 + B * 10 + C) := by rw [e1, zu_other _ _ (by decide), zu_other _ _ (by decide), zu_other _ _ (by decide), zu_same]
    have so : ∀ i, i ≠ 6 → M1.1 i = M.1 i := fun i hi => by rw [e1, zu_row _ hi, zu_row _ hi, zu_row _ hi, zu_row _ hi]
    obtain ⟨M2, f1, f2, f3⟩ := tfill_loop 10000 0 zF M1 (by omega) (by unfold zF; omega) (fun j hj => absurd hj (by omega))
    rw [nI_0] at f1
    have f1' : fJ7_fill_d0a16 7 10000 (9223372036854775807 : Int64) M1 = some M2 := by
      unfold fJ7_fill_d0a16
      rw [zL_r]
      exact f1
    obtain ⟨M', g1, g2, g3⟩ := lay_loop hA hB hC 31 0 zF (fun j => if j = 0 then 0 else 9223372036854775807) (zul M2 7 0 (0 : Int64)) (by omega) (by unfold zF; omega) (show tSz A B C (zul M2 7 0 (0 : Int64)) by
      unfold tSz
      show M2.1 6 3 = _ ∧ M2.1 6 4 = _ ∧ M2.1 6 5 = _
      rw [f2.1]
      exact ⟨s3, s4, s5⟩) (fun j hj => by
      rw [zul_at]
      show _ = lN (if j = 0 then 0 else 9223372036854775807) ∧ (if j = 0 then 0 else 9223372036854775807) ≤ 9223372036854775807
      by_cases c : j = 0
      · rw [if_pos c, if_pos c]; exact ⟨rfl, by omega⟩
      · rw [if_neg c, if_neg c, f3 j hj]; exact ⟨rfl, Nat.le_refl _⟩) (fun _ => gI_0 (fun j _ => rfl)) (fun i hi => absurd hi (by omega))
    have g1' : fX1_lay_L64 zF (0 : Int32) (zul M2 7 0 (0 : Int64)) = some M' := g1
    have h1 : M'.1 = M1.1 := g2.trans f2.1
    refine ⟨M', ?_, ⟨Or.inr ⟨A, B, C, hA, hB, hC, by rw [h1]; exact s6, g3⟩, ?_⟩, g3, fun i hi => by rw [h1]; exact so i hi⟩
    · rw [zV_s f1', n0, zL_r, g1']
    · unfold tKn
      rw [h1, so 9 (by decide)]
      exact hT.2

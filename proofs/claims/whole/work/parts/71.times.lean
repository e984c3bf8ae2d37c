/-! what the class's table tells -/
/-- one bit more -/
theorem tb_or (N k j : Nat) : (N ||| 2 ^ k).testBit j = true ↔ N.testBit j = true ∨ j = k := by
  rw [Nat.testBit_or, Nat.testBit_two_pow, Bool.or_eq_true, decide_eq_true_eq]
  exact ⟨fun h => h.elim Or.inl (fun h => Or.inr h.symm), fun h => h.elim Or.inl (fun h => Or.inr h.symm)⟩
theorem tb_lt {N : Nat} (h : ∀ j, N.testBit j = true → j ≤ 30) : N < 2 ^ 31 := Nat.lt_pow_two_of_testBit N (fun i hi => by
  cases c : N.testBit i with
  | false => rfl
  | true => have := h i c; omega)
theorem tb_ext {N M : Nat} (h : ∀ j, N.testBit j = true ↔ M.testBit j = true) : N = M := Nat.eq_of_testBit_eq fun i => by
  cases c : N.testBit i with
  | true => exact ((h i).mp c).symm
  | false =>
    cases d : M.testBit i with
    | false => rfl
    | true => rw [(h i).mpr d] at c; exact absurd c (by decide)
theorem tlaid_loop {A B C : Nat} {M : zM} (hb : tBest A B C M) : ∀ (d m N b : Nat), 1 ≤ m → m + d = 31 → d < N → (∀ j, b.testBit j = true ↔ 1 ≤ j ∧ j < m ∧ ∃ p, gOk A B C j 0 p) → ∃ b', fX1_timesLaid_L4 N (nI b) (nI m) M = some (nI b', M) ∧ ∀ j, b'.testBit j = true ↔ 1 ≤ j ∧ j ≤ 30 ∧ ∃ p, gOk A B C j 0 p := by
  intro d
  induction d with
  | zero =>
    intro m N b h1 hm hN hj
    obtain ⟨N, rfl⟩ : ∃ q, N = q + 1 := ⟨N - 1, by omega⟩
    have : m = 31 := by omega
    subst this
    refine ⟨b, ?_, fun j => by rw [hj]; exact ⟨fun q => ⟨q.1, by omega, q.2.2⟩, fun q => ⟨q.1, by omega, q.2.2⟩⟩⟩
    show fX1_timesLaid_B4 _ _ _ M = _
    unfold fX1_timesLaid_B4
    rw [if_pos (by decide)]
  | succ d ih =>
    intro m N b h1 hm hN hj
    obtain ⟨N, rfl⟩ : ∃ q, N = q + 1 := ⟨N - 1, by omega⟩
    obtain ⟨w, w1, w2⟩ := hb m (by omega)
    have wl := gMn_le (A := A) (B := B) (C := C) (fun p q => q) (show m ≤ 30 by omega) w2
    have hx : (∃ p, gOk A B C m 0 p) ↔ ¬ w = 9223372036854775807 := by
      rcases w2 with ⟨a, n⟩ | ⟨p, a, e, -⟩
      · exact ⟨fun ⟨p, hp⟩ => absurd hp (n p), fun q => absurd a q⟩
      · have := gKey_lt a (by omega)
        exact ⟨fun _ => by omega, fun _ => ⟨p, a⟩⟩
    have hU : fX1_timesLaid_L4 (N + 1) (nI b) (nI m) M = fX1_timesLaid_B4 (fX1_timesLaid_L4 N) (nI b) (nI m) M := rfl
    rw [hU]
    unfold fX1_timesLaid_B4
    rw [if_neg (by rw [show (30 : Int32) = nI 30 from rfl, nI_ltI (by omega) (by omega)]; omega), zG_t (zin_nI (show m < 31 by omega) (by omega)), nIc (by omega), w1]
    by_cases c : w = 9223372036854775807
    · rw [if_pos ((zcmp_nv wl).mpr c), zL_r, nI_1]
      refine ih (m + 1) N b (by omega) (by omega) (by omega) (fun j => ?_)
      rw [hj]
      constructor
      · rintro ⟨q1, q2, q3⟩; exact ⟨q1, by omega, q3⟩
      · rintro ⟨q1, q2, q3⟩
        by_cases e : j = m
        · rw [e] at q3; exact absurd c (hx.mp q3)
        · exact ⟨q1, by omega, q3⟩
    · rw [if_neg (fun q => c ((zcmp_nv wl).mp q)), zshl_1 m (by omega), nI_or, zL_r, zL_r, nI_1]
      refine ih (m + 1) N (b ||| 2 ^ m) (by omega) (by omega) (by omega) (fun j => ?_)
      rw [tb_or, hj]
      constructor
      · rintro (⟨q1, q2, q3⟩ | q)
        · exact ⟨q1, by omega, q3⟩
        · rw [q]; exact ⟨h1, by omega, hx.mpr c⟩
      · rintro ⟨q1, q2, q3⟩
        by_cases e : j = m
        · exact Or.inr e
        · exact Or.inl ⟨q1, by omega, q3⟩
/-- the numbers' bits: what can be told -/
def tBits (A B C b : Nat) : Prop := b < 2 ^ 31 ∧ ∀ j, b.testBit j = true ↔ 1 ≤ j ∧ j ≤ 30 ∧ ∃ p, gOk A B C j 0 p
theorem tBits_lt {A B C b : Nat} (h : ∀ j, b.testBit j = true ↔ 1 ≤ j ∧ j ≤ 30 ∧ ∃ p, gOk A B C j 0 p) : tBits A B C b := ⟨tb_lt (fun j hj => ((h j).mp hj).2.1), h⟩
theorem tBits_0 {A B C b : Nat} (h : tBits A B C b) : b.testBit 0 = false := by
  cases c : b.testBit 0 with
  | false => rfl
  | true => have := ((h.2 0).mp c).1; omega
theorem tBits_uniq {A B C b b' : Nat} (h : tBits A B C b) (h' : tBits A B C b') : b = b' := tb_ext (fun j => by rw [h.2, h'.2])
theorem kn_ne {N : Nat} (hN : N < 2 ^ 31) : ¬ (1 : Int32) ||| nI N = 0 := by
  rw [show (1 : Int32) = nI 1 from rfl, nI_or]
  have h1 : (1 ||| N).testBit 0 = true := by rw [Nat.testBit_or]; rfl
  have h2 : 1 ||| N < 2 ^ 31 := Nat.or_lt_two_pow (by decide) hN
  intro q
  rw [nI_z0 h2] at q
  rw [q] at h1
  exact absurd h1 (by decide)
theorem timesOf_e {M : zM} (hT : zTab M) {A B C : Nat} (hA : A ≤ 9) (hB : B ≤ 9) (hC : C ≤ 9) : ∃ b M', fX1_timesOf (nI A) (nI B) (nI C) M = some (nI b, M') ∧ tBits A B C b ∧ zTab M' ∧ ∀ i, i ≠ 6 → i ≠ 9 → M'.1 i = M.1 i := by
  have li : A * 100 + B * 10 + C < 1000 := by omega
  have hin := zin_nI li (by omega)
  unfold fX1_timesOf
  rw [show (100 : Int32) = nI 100 from rfl, show (10 : Int32) = nI 10 from rfl, pk_mul, pk_mul, nI_add, nI_add, zL_r, if_neg (nI_pos (by omega)), if_pos (by rw [show (1000 : Int32) = nI 1000 from rfl, nI_ltI (by omega) (by omega)]; omega), zG_t hin, nIc (by omega)]
  rcases hT.2 A B C hA hB hC with h0 | ⟨N, k1, k2, k3⟩
  · rw [if_pos h0]
    obtain ⟨M1, l1, l2, l3, l4⟩ := lay_e hT hA hB hC
    obtain ⟨b, t1, t2⟩ := tlaid_loop l3 30 1 zF 0 (Nat.le_refl _) (by omega) (by unfold zF; omega) (fun j => by
      rw [Nat.zero_testBit]
      exact ⟨fun q => absurd q (by decide), fun q => by omega⟩)
    have t1' : fX1_timesLaid M1 = some (nI b, M1) := t1
    have tb := tBits_lt t2
    rw [zV_s l1, zB_s t1', zG_t hin, zL_r, zG_t hin, zu_same, nI_m2 tb.1 (tBits_0 tb)]
    refine ⟨b, _, rfl, tb, ⟨?_, ?_⟩, fun i h6 h9 => by rw [zu_row _ h9]; exact l4 i h6⟩
    · rw [zu_row _ (show (6 : Nat) ≠ 9 by decide)]
      exact l2.1
    · intro A' B' C' hA' hB' hC'
      rw [zu_at1]
      by_cases c : A' * 100 + B' * 10 + C' = A * 100 + B * 10 + C
      · rw [if_pos c]
        have e1 : A' = A := by omega
        have e2 : B' = B := by omega
        have e3 : C' = C := by omega
        subst e1 e2 e3
        exact Or.inr ⟨b, tb.1, rfl, t2⟩
      · rw [if_neg c]
        exact l2.2 A' B' C' hA' hB' hC'
  · have tb : tBits A B C N := ⟨k1, k3⟩
    rw [k2, if_neg (kn_ne k1), zG_t hin, nI_m2 k1 (tBits_0 tb)]
    exact ⟨N, M, rfl, tb, hT, fun _ _ _ => rfl⟩
theorem turnsTill_e {A B C m : Nat} {M : zM} (hb : tBest A B C M) (hm : m ≤ 30) {v : Nat} (hv : gMn gTn 9999 (gOk A B C m 0) v) : fX1_turnsTill (nI m) M = some ((if v < 9999 then nI v else -1), M) := by
  obtain ⟨w, w1, w2⟩ := hb m hm
  have wl := gMn_le (A := A) (B := B) (C := C) (fun p q => q) hm w2
  unfold fX1_turnsTill
  rw [zG_t (zin_nI (show m < 31 by omega) (by omega)), nIc (by omega), w1, zL_r]
  have hv9 := (gMn_lt hv (fun p hp => gOk_tn hp hm)).1
  by_cases c : w = 9223372036854775807
  · rw [if_pos ((zcmp_nv wl).mpr c), if_neg]
    intro q
    obtain ⟨p, hp⟩ := hv9.mp q
    rcases w2 with ⟨a, n⟩ | ⟨k, a, e, -⟩
    · exact n p hp
    · have := gKey_lt a hm
      omega
  · rw [if_neg (fun q => c ((zcmp_nv wl).mp q))]
    rcases id w2 with ⟨a, n⟩ | ⟨K, a, e, hmin⟩
    · exact absurd a c
    obtain ⟨P, hP⟩ := gGr_ex m m 0 (Nat.le_refl _) hm ⟨K, a⟩
    obtain ⟨K', k1, k2, k3, -⟩ := gWay_eq hm w2 hP
    have l := gOk_len k1
    have ev := gGr_tn hm hP hv
    have h9 := gOk_tn k1 hm
    rw [if_pos (by omega), show (100000000000 : Int64) = lN 100000000000 from rfl, pk_lDiv (by omega) (by omega) (by omega), lN_i, k2, (gKey_parts (gOk_8 k1) (by omega)).1, k3, ev]
theorem wayTill_e {A B C m : Nat} {M : zM} (hb : tBest A B C M) (h1 : 1 ≤ m) (hm : m ≤ 30) : ((∀ p, ¬ gOk A B C m 0 p) → fX1_wayTill (nI m) M = some (-1, M)) ∧ ∀ P, gGr A B C m 0 P → fX1_wayTill (nI m) M = some ((if P.length ≤ 9 then nI (gNm 0 P) else -1), M) := by
  obtain ⟨w, w1, w2⟩ := hb m hm
  have wl := gMn_le (A := A) (B := B) (C := C) (fun p q => q) hm w2
  have hsets : (zrml (lN w) (100 : Int64)).toInt32 = nI (w % 100) := by
    have := pk_lRem (a := w) (b := 100) (by omega) (by omega) (by omega)
    have e : zrml (lN w) (100 : Int64) = lN (w % 100) := this
    rw [e, lN_i]
  unfold fX1_wayTill
  rw [zG_t (zin_nI (show m < 31 by omega) (by omega)), nIc (by omega), w1, zL_r, hsets, zL_r]
  refine ⟨fun no => ?_, fun P hP => ?_⟩
  · rcases w2 with ⟨a, n⟩ | ⟨K, a, e, hmin⟩
    · rw [if_pos ((zcmp_nv wl).mpr a)]
    · exact absurd a (no K)
  · obtain ⟨K, k1, k2, k3, k4⟩ := gWay_eq hm w2 hP
    have l := gOk_len k1
    have hlt := gKey_lt k1 hm
    have h100 : w % 100 = K.length := by rw [k2]; exact gKey_mod (by omega)
    have hne : K.length ≠ 0 := fun q => by
      cases K with
      | nil => have e0 : m = 0 := k1; omega
      | cons _ _ => simp at q
    rw [if_neg (fun q => by have := (zcmp_nv wl).mp q; omega), h100, if_neg (by rw [show (1 : Int32) = nI 1 from rfl, nI_ltI (by omega) (by omega)]; omega)]
    rcases k4 with e | ⟨e1, e2⟩
    · subst e
      by_cases c9 : K.length ≤ 9
      · rw [if_pos c9, if_pos (by rw [show (9 : Int32) = nI 9 from rfl, nI_leI (by omega) (by omega)]; omega), show (1 : Int32) = nI 1 from rfl, pk_sub (by omega), zG_t (zin_nI (show K.length - 1 < 9 by omega) (by omega)), nIc (by omega), zPL_e _ (by omega), zL_r]
        have hpl : gPL (K.length - 1) = 10 ^ (11 - K.length) := by
          unfold gPL
          rw [if_pos (by omega), show 10 - (K.length - 1) = 11 - K.length by omega]
        have hp0 : 0 < 10 ^ (11 - K.length) := Nat.pow_pos (by decide)
        have hp1 : 10 ^ (11 - K.length) ≤ 10 ^ 11 := Nat.pow_le_pow_right (by decide) (by omega)
        rw [hpl, if_pos (by
          unfold zcmp
          rw [lg_cmp_gt, show (0 : Int64) = lN 0 from rfl, pk_lLT (by omega) (by omega)]
          exact hp0)]
        have hz : znzl (lN (10 ^ (11 - K.length))) = true := by
          simp only [znzl, Bool.not_eq_true', decide_eq_false_iff_not]
          rw [show (0 : Int64) = lN 0 from rfl, pk_lEQ (by omega) (by omega)]
          omega
        have hr : zrml (lN w) (100000000000 : Int64) = lN (w % 100000000000) := pk_lRem (a := w) (b := 100000000000) (by omega) (by omega) (by omega)
        rw [zG_t hz, hr, pk_lDiv (by omega) hp0 (by omega), lN_i, k2, gKey_way (gOk_8 k1) c9]
      · rw [if_neg c9, if_neg (by rw [show (9 : Int32) = nI 9 from rfl, nI_leI (by omega) (by omega)]; omega)]
    · rw [if_neg (by rw [show (9 : Int32) = nI 9 from rfl, nI_leI (by omega) (by omega)]; omega), if_neg (by omega)]

/-! the class's table, number by number -/
theorem nI_or (a b : Nat) : nI a ||| nI b = nI (a ||| b) := by
  apply Int32.toBitVec_inj.mp
  show BitVec.ofNat 32 a ||| BitVec.ofNat 32 b = BitVec.ofNat 32 (a ||| b)
  rw [BitVec.ofNat_or]
theorem lN_or (a b : Nat) : lN a ||| lN b = lN (a ||| b) := by
  apply Int64.toBitVec_inj.mp
  show BitVec.ofNat 64 a ||| BitVec.ofNat 64 b = BitVec.ofNat 64 (a ||| b)
  rw [BitVec.ofNat_or]
theorem nI_and (a b : Nat) : nI a &&& nI b = nI (a &&& b) := by
  apply Int32.toBitVec_inj.mp
  show BitVec.ofNat 32 a &&& BitVec.ofNat 32 b = BitVec.ofNat 32 (a &&& b)
  rw [BitVec.ofNat_and]
theorem bit_m2 : ∀ i, i < 32 → (4294967294 : Nat).testBit i = decide (0 < i) := by decide
theorem nI_m2 {N : Nat} (hN : N < 2 ^ 31) (h0 : N.testBit 0 = false) : (1 ||| nI N) &&& (-2) = nI N := by
  rw [show (1 : Int32) = nI 1 from rfl, show (-2 : Int32) = nI 4294967294 by decide, nI_or, nI_and]
  refine congrArg nI (Nat.eq_of_testBit_eq fun i => ?_)
  rw [Nat.testBit_and, Nat.testBit_or]
  by_cases c : i < 32
  · rw [bit_m2 i c]
    cases i with
    | zero => rw [h0]; rfl
    | succ i =>
      have : (1 : Nat).testBit (i + 1) = false := by rw [Nat.testBit_succ]; exact Nat.zero_testBit i
      rw [this]; simp
  · have hi : N < 2 ^ i := Nat.lt_of_lt_of_le hN (Nat.pow_le_pow_right (by decide) (by omega))
    have h1 : (1 : Nat) < 2 ^ i := Nat.lt_of_lt_of_le (show 1 < 2 ^ 31 by decide) (Nat.pow_le_pow_right (by decide) (by omega))
    rw [Nat.testBit_lt_two_pow hi, Nat.testBit_lt_two_pow h1]; rfl
theorem lN_shr {N k : Nat} (hN : N < 2 ^ 31) (hk : k < 31) : zlshr (lN N) (nI k) = lN (N / 2 ^ k) := by
  have e : ∀ k, k < 31 → ((nI k).toInt64 &&& 63).toBitVec.smod 64 = BitVec.ofNat 64 k := by decide
  apply Int64.toBitVec_inj.mp
  show ((lN N) >>> ((nI k).toInt64 &&& 63)).toBitVec = BitVec.ofNat 64 (N / 2 ^ k)
  rw [Int64.toBitVec_shiftRight, e k hk]
  show (BitVec.ofNat 64 N).sshiftRight (BitVec.ofNat 64 k).toNat = _
  have hm : (BitVec.ofNat 64 N).msb = false := by
    rw [BitVec.msb_eq_false_iff_two_mul_lt, BitVec.toNat_ofNat]
    omega
  rw [BitVec.sshiftRight_eq_of_msb_false hm]
  apply BitVec.eq_of_toNat_eq
  rw [BitVec.toNat_ushiftRight, BitVec.toNat_ofNat, BitVec.toNat_ofNat, BitVec.toNat_ofNat, Nat.shiftRight_eq_div_pow, Nat.mod_eq_of_lt (show N < 2 ^ 64 by omega), Nat.mod_eq_of_lt (show k < 2 ^ 64 by omega), Nat.mod_eq_of_lt]
  exact Nat.lt_of_le_of_lt (Nat.div_le_self _ _) (by omega)
theorem zshl_1 : ∀ k, k < 31 → zshl 1 (nI k) = nI (2 ^ k) := by decide
theorem zlshl_1 : ∀ k, k < 31 → zlshl 1 (nI k) = lN (2 ^ k) := by decide
theorem gbit : ∀ x, x < 8 → ((nI x &&& 1 = 0) ↔ ¬ x % 2 = 1) ∧ ((nI x &&& 2 = 0) ↔ ¬ x / 2 % 2 = 1) ∧ ((nI x &&& 4 = 0) ↔ ¬ x / 4 % 2 = 1) := by decide
theorem dg_1 {s : Nat} (hs : s < 1000) : nI s / (100 : Int32) = nI (s / 100) := pk_div (show s < 2 ^ 31 by omega) (show 0 < 100 by decide) (by decide)
theorem dg_2 {s : Nat} (hs : s < 1000) : zrm (nI s / (10 : Int32)) (10 : Int32) = nI (s / 10 % 10) := by
  rw [show nI s / (10 : Int32) = nI (s / 10) from pk_div (show s < 2 ^ 31 by omega) (show 0 < 10 by decide) (by decide)]
  exact nI_rm (show s / 10 < 2 ^ 31 by omega) (show 0 < 10 by decide) (by decide)
theorem dg_3 {s : Nat} (hs : s < 1000) : zrm (nI s) (10 : Int32) = nI (s % 10) := nI_rm (show s < 2 ^ 31 by omega) (show 0 < 10 by decide) (by decide)
theorem x1turned_e (a b c : Int32) (M : zM) : fX1_turned a b c M = some ((if c = 0 then a else b - a), M) := by
  unfold fX1_turned
  by_cases h : c = 0
  · rw [if_pos h, if_pos h]
  · rw [if_neg h, if_neg h]
theorem x1A {A s x : Nat} (hx : x < 8) (hs : s < 1000) (h : s / 100 ≤ A) (M : zM) : fX1_turned (nI s / (100 : Int32)) (nI A) (nI x &&& (1 : Int32)) M = some (nI (gA A s x), M) := by
  rw [x1turned_e, dg_1 hs]
  unfold gA
  by_cases c : x % 2 = 1
  · rw [if_neg (fun q => (((gbit x hx).1).mp q) c), if_pos c, pk_sub h]
  · rw [if_pos (((gbit x hx).1).mpr c), if_neg c]
theorem x1B {A s x : Nat} (hx : x < 8) (hs : s < 1000) (h : s / 10 % 10 ≤ A) (M : zM) : fX1_turned (zrm (nI s / (10 : Int32)) (10 : Int32)) (nI A) (nI x &&& (2 : Int32)) M = some (nI (gB A s x), M) := by
  rw [x1turned_e, dg_2 hs]
  unfold gB
  by_cases c : x / 2 % 2 = 1
  · rw [if_neg (fun q => (((gbit x hx).2.1).mp q) c), if_pos c, pk_sub h]
  · rw [if_pos (((gbit x hx).2.1).mpr c), if_neg c]
theorem x1C {A s x : Nat} (hx : x < 8) (hs : s < 1000) (h : s % 10 ≤ A) (M : zM) : fX1_turned (zrm (nI s) (10 : Int32)) (nI A) (nI x &&& (4 : Int32)) M = some (nI (gC A s x), M) := by
  rw [x1turned_e, dg_3 hs]
  unfold gC
  by_cases c : x / 4 % 2 = 1
  · rw [if_neg (fun q => (((gbit x hx).2.2).mp q) c), if_pos c, pk_sub h]
  · rw [if_pos (((gbit x hx).2.2).mpr c), if_neg c]
theorem zmin_nI {a b : Nat} (ha : a < 2 ^ 31) (hb : b < 2 ^ 31) : zmin (nI a) (nI b) = nI (min a b) := by
  unfold zmin
  by_cases c : b < a
  · rw [if_pos ((nI_ltI hb ha).mpr c), Nat.min_eq_right (by omega)]
  · rw [if_neg (fun q => c ((nI_ltI hb ha).mp q)), Nat.min_eq_left (by omega)]
theorem x1so {a b : Nat} (ha : a < 2 ^ 31) (hb : b < 2 ^ 31) (M : zM) : fX1_sooner (nI a) (nI b) M = some (nI (gSo a b), M) := by
  unfold fX1_sooner gSo
  by_cases c : a = 0
  · rw [if_pos ((nI_z0 ha).mpr c), if_pos c]
  · rw [if_neg (fun q => c ((nI_z0 ha).mp q)), if_neg c]
    by_cases d : b = 0
    · rw [if_pos ((nI_z0 hb).mpr d), if_pos d]
    · rw [if_neg (fun q => d ((nI_z0 hb).mp q)), if_neg d, zmin_nI ha hb]
theorem zmax_sub : ∀ a, a < 10 → ∀ k, k < 10 → zmax (0 : Int32) (nI a - nI k) = nI (a - k) := by decide
theorem zPL_e : ∀ k, k < 9 → zPL k = lN (gPL k) := by decide
theorem gBc_pop : ∀ x, x < 8 → popN x = gBc x := by decide
theorem x1ws {w x : Nat} (hw : w < 2 ^ 62) (hx : x < 8) (M : zM) : fX1_withSet (lN w) (nI x) M = some (lN (gExt w x), M) := by
  unfold fX1_withSet gExt
  have e0 : (zrml (lN w) (100 : Int64)).toInt32 = nI (w % 100) := by
    have := pk_lRem (a := w) (b := 100) (by omega) (by omega) (by omega)
    have e : zrml (lN w) (100 : Int64) = lN (w % 100) := this
    rw [e, lN_i]
  have e1 : lN w + ((nI (popN x)).toInt64 * (100000000000 : Int64)) + (1 : Int64) = lN (w + gBc x * 100000000000 + 1) := by
    rw [gBc_pop x hx, nI_l (show gBc x < 2 ^ 31 by have := gBc_le x; omega), show (100000000000 : Int64) = lN 100000000000 from rfl, lN_mul, lN_add, lN_1]
  rw [e0, zL_r, zB_s (bitCount_e (by omega) M), zL_r, e1, if_neg (nI_pos (by omega))]
  by_cases c : w % 100 < 9
  · rw [if_neg (by rw [show (9 : Int32) = nI 9 from rfl, nI_leI (by omega) (by omega)]; omega), if_pos c, zG_t (zin_nI c (by omega)), nIc (by omega), zPL_e _ c, nI_1, nI_l (by omega), lN_mul, lN_add]
  · rw [if_pos (by rw [show (9 : Int32) = nI 9 from rfl, nI_leI (by omega) (by omega)]; omega), if_neg c]
theorem zminl_lN {a b : Nat} (ha : a < 2 ^ 63) (hb : b < 2 ^ 63) : zminl (lN a) (lN b) = lN (min a b) := by
  unfold zminl
  by_cases c : b < a
  · rw [if_pos ((pk_lLT hb ha).mpr c), Nat.min_eq_right (by omega)]
  · rw [if_neg (fun q => c ((pk_lLT hb ha).mp q)), Nat.min_eq_left (by omega)]
def tSz (A B C : Nat) (M : zM) : Prop := M.1 6 3 = nI A ∧ M.1 6 4 = nI B ∧ M.1 6 5 = nI C
def tWy (W : Nat → Nat) (M : zM) : Prop := ∀ j, j < 10000 → M.2 7 j = lN (W j) ∧ W j ≤ 9223372036854775807
def tF (M M' : zM) : Prop := M'.1 = M.1 ∧ ∀ i, i ≠ 7 → M'.2 i = M.2 i
theorem tF_refl (M : zM) : tF M M := ⟨rfl, fun _ _ => rfl⟩
theorem tF_trans {M M' M'' : zM} (h1 : tF M M') (h2 : tF M' M'') : tF M M'' := ⟨h2.1.trans h1.1, fun i hi => (h2.2 i hi).trans (h1.2 i hi)⟩
theorem tF_zul (M : zM) (k : Nat) (v : Int64) : tF M (zul M 7 k v) := ⟨rfl, fun i hi => if_neg hi⟩
theorem zul_at (M : zM) (i k : Nat) (v : Int64) (j : Nat) : (zul M i k v).2 i j = if j = k then v else M.2 i j := by
  show (if i = i then vp_updL (M.2 i) k v else M.2 i) j = _
  rw [if_pos rfl]
  rfl
theorem tWy_up {W : Nat → Nat} {M : zM} (h : tWy W M) (k : Nat) {v : Nat} (hv : v ≤ 9223372036854775807) : tWy (gUp W k v) (zul M 7 k (lN v)) := by
  intro j hj
  rw [zul_at]
  unfold gUp
  by_cases c : j = k
  · rw [if_pos c, if_pos c]; exact ⟨rfl, hv⟩
  · rw [if_neg c, if_neg c]; exact h j hj
theorem tset_loop {A B C m s w : Nat} (hA : A ≤ 9) (hB : B ≤ 9) (hC : C ≤ 9) (hm : m ≤ 30) (hs : s < 1000) (hW : gW A B C s) (hw : gMn gKey 9223372036854775807 (gTo A B C m s) w) (hw1 : w < 9223372036854775807) (hw2 : w < 2 ^ 62) : ∀ (d x N : Nat) (W : Nat → Nat) (M : zM), x + d = 8 → d < N → tSz A B C M → tWy W M → gI A B C m ((m * 1000 + s) * 8 + x) (s + 1) W → ∃ M' W', fX1_turnSets_L3 N (nI m) (nI s) (lN w) (nI x) M = some M' ∧ tF M M' ∧ tWy W' M' ∧ gI A B C m ((m * 1000 + s) * 8 + 8) (s + 1) W' := by
  intro d
  induction d with
  | zero =>
    intro x N W M hx hN hz hy hI
    obtain ⟨N, rfl⟩ : ∃ q, N = q + 1 := ⟨N - 1, by omega⟩
    have : x = 8 := by omega
    subst this
    refine ⟨M, W, ?_, tF_refl M, hy, hI⟩
    show fX1_turnSets_B3 _ _ _ _ _ M = _
    unfold fX1_turnSets_B3
    rw [if_pos (by decide)]
  | succ d ih =>
    intro x N W M hx hN hz hy hI
    obtain ⟨N, rfl⟩ : ∃ q, N = q + 1 := ⟨N - 1, by omega⟩
    have hx8 : x < 8 := by omega
    obtain ⟨hs0, w1, w2, w3⟩ := id hW
    have la := gA_le (x := x) w1
    have lb := gB_le (x := x) w2
    have lc := gC_le (x := x) w3
    have ls := gS_le hA hB hC hW x
    have hI' := gI_set hA hB hC hm hs hx8 hw hw1 hI
    have lso : gSo (gB B s x) (gC C s x) ≤ 9 := gSo_le _ _ _ (by omega) (by omega)
    have hB3 : fX1_turnSets_L3 (N + 1) (nI m) (nI s) (lN w) (nI x) M = fX1_turnSets_B3 (fX1_turnSets_L3 N) (nI m) (nI s) (lN w) (nI x) M := rfl
    rw [hB3]
    unfold fX1_turnSets_B3
    rw [if_neg (by rw [show (8 : Int32) = nI 8 from rfl, nI_leI (by omega) (by omega)]; omega), hz.1, zB_s (x1A hx8 hs w1 M), hz.2.1, zB_s (x1B hx8 hs w2 M), hz.2.2, zB_s (x1C hx8 hs w3 M), zB_s (x1so (by omega) (by omega) M), zB_s (x1so (by omega) (by omega) M), show gSo (gA A s x) (gSo (gB B s x) (gC C s x)) = gS A B C s x from rfl, nI_add, zL_r]
    by_cases c0 : gS A B C s x = 0
    · rw [if_neg (fun q => by omega)] at hI'
      rw [if_pos (by rw [show (0 : Int32) = nI 0 from rfl, nI_leI (by omega) (by omega)]; omega), zL_r, nI_1]
      exact ih (x + 1) N W M (by omega) (by omega) hz hy hI'
    · rw [if_neg (by rw [show (0 : Int32) = nI 0 from rfl, nI_leI (by omega) (by omega)]; omega)]
      by_cases c1 : m + gS A B C s x ≤ 30
      · rw [if_pos ⟨by omega, c1⟩] at hI'
        have lN1 := (gN_W hA hB hC hW x).1
        have eN : nI (gA A s x - gS A B C s x) * (100 : Int32) + nI (gB B s x - gS A B C s x) * (10 : Int32) + nI (gC C s x - gS A B C s x) = nI (gN A B C s x) := by
          rw [show (100 : Int32) = nI 100 from rfl, show (10 : Int32) = nI 10 from rfl, pk_mul, pk_mul, nI_add, nI_add]
          unfold gN
          rw [Nat.mul_comm 100, Nat.mul_comm 10]
        have eI : zrm (nI (m + gS A B C s x)) (10 : Int32) * (1000 : Int32) + nI (gN A B C s x) = nI ((m + gS A B C s x) % 10 * 1000 + gN A B C s x) := by
          rw [show zrm (nI (m + gS A B C s x)) (10 : Int32) = nI ((m + gS A B C s x) % 10) from nI_rm (show m + gS A B C s x < 2 ^ 31 by omega) (show 0 < 10 by decide) (by decide), show (1000 : Int32) = nI 1000 from rfl, pk_mul, nI_add]
        have li : (m + gS A B C s x) % 10 * 1000 + gN A B C s x < 10000 := by omega
        have hzi := zin_nI li (by omega)
        obtain ⟨y1, y2⟩ := hy _ li
        have hext : gExt w x < 2 ^ 63 := by
          unfold gExt
          have := gBc_le x
          have hpl : (x + 1) * gPL (w % 100) ≤ 8 * 10 ^ 10 := Nat.mul_le_mul (by omega) (by
            unfold gPL
            split
            · exact Nat.pow_le_pow_right (by decide) (by omega)
            · exact Nat.zero_le _)
          split <;> omega
        rw [if_neg (by rw [show (30 : Int32) = nI 30 from rfl, nI_ltI (by omega) (by omega)]; omega), zmax_sub _ (by omega) _ (by omega), zmax_sub _ (by omega) _ (by omega), zmax_sub _ (by omega) _ (by omega), eN, zL_r, eI, zL_r, zG_t hzi, zB_s (x1ws hw2 hx8 M), zG_t hzi, nIc (by omega), y1, zminl_lN (by omega) hext, zL_r, zL_r, nI_1]
        obtain ⟨M', W', g1, g2, g3⟩ := ih (x + 1) N _ _ (by omega) (by omega) (show tSz A B C (zul M 7 ((m + gS A B C s x) % 10 * 1000 + gN A B C s x) (lN (min (W ((m + gS A B C s x) % 10 * 1000 + gN A B C s x)) (gExt w x)))) from hz) (tWy_up hy ((m + gS A B C s x) % 10 * 1000 + gN A B C s x) (v := min (W ((m + gS A B C s x) % 10 * 1000 + gN A B C s x)) (gExt w x)) (by omega)) hI'
        exact ⟨M', W', g1, tF_trans (tF_zul _ _ _) g2, g3⟩
      · rw [if_neg (fun q => c1 q.2)] at hI'
        rw [if_pos (by rw [show (30 : Int32) = nI 30 from rfl, nI_ltI (by omega) (by omega)]; omega), zL_r, nI_1]
        exact ih (x + 1) N W M (by omega) (by omega) hz hy hI'

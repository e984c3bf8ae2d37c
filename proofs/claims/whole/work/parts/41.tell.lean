/-! the class's text tells what its codes tell -/
theorem i_20k {c : Int32} : ¬ (20000 : Int32) ≤ c ↔ c < 20000 := Int32.not_le
theorem tell_loop (t nm : Nat) (hnt : nm ≠ t + 3) (h12 : t + 1 ≠ t + 3) (p E : Nat) (hp : p < 3) (hE : E ≤ 160) : ∀ (l : List Int32) (i h : Nat) (M : zM) (n : Nat), M.1 (t + 2) p = nI E → i + l.length = E → (∀ k, k < l.length → M.1 (t + 1) (i + k) = l.getD k 0) → wfc l h → h ≤ 160 → l.length < n →
    ∃ M', fX3_tell_L20 t nm n (nI p) (nI h) (nI i) M = some ((sE (M.1 nm) l (stk (M.1 (t + 3)) h)).headD 0, M') ∧ zO [t + 3] M M' := by
  intro l
  induction l with
  | nil =>
    intro i h M n hEnd hi hc hw hh hn
    obtain ⟨n, rfl⟩ : ∃ q, n = q + 1 := ⟨n - 1, by simp at hn; omega⟩
    have h1 : h = 1 := hw
    subst h1
    refine ⟨M, ?_, zO_refl _ _⟩
    show fX3_tell_B20 t nm (fX3_tell_L20 t nm n) (nI p) (nI 1) (nI i) M = _
    unfold fX3_tell_B20
    rw [zG_t (zin_nI hp (by decide)), nIc (by omega), hEnd, if_pos ((nI_leI (by omega) (by omega)).mpr (by simp at hi; omega)), if_neg (by decide), n0]
    rfl
  | cons c l ih =>
    intro i h M n hEnd hi hc hw hh hn
    simp only [List.length_cons] at hi hn hc
    obtain ⟨n, rfl⟩ : ∃ q, n = q + 1 := ⟨n - 1, by omega⟩
    have hc0 : M.1 (t + 1) i = c := by have := hc 0 (by omega); simpa using this
    show ∃ M', fX3_tell_B20 t nm (fX3_tell_L20 t nm n) (nI p) (nI h) (nI i) M = _ ∧ _
    unfold fX3_tell_B20
    rw [zG_t (zin_nI hp (by decide)), nIc (show p < 2 ^ 31 by omega), hEnd, if_neg (by rw [nI_leI (by omega) (by omega)]; omega), zG_t (zin_nI (show i < 160 by omega) (by decide)), nIc (show i < 2 ^ 31 by omega), zL_r, hc0]
    -- what goes on behind a changed stack
    have goes : ∀ (M2 : zM) (h2 : Nat), zO [t + 3] M M2 → wfc l h2 → h2 ≤ 160 → stk (M2.1 (t + 3)) h2 = sS (M.1 nm) c (stk (M.1 (t + 3)) h) →
        ∃ M', fX3_tell_L20 t nm n (nI p) (nI h2) (nI i + 1) M2 = some ((sE (M.1 nm) (c :: l) (stk (M.1 (t + 3)) h)).headD 0, M') ∧ zO [t + 3] M M' := by
      intro M2 h2 hO hw2 hh2 hs
      have e1 : M2.1 (t + 1) = M.1 (t + 1) := hO.2 _ (by simp)
      have e2 : M2.1 (t + 2) = M.1 (t + 2) := hO.2 _ (by simp)
      have e3 : M2.1 nm = M.1 nm := hO.2 _ (by simpa using hnt)
      obtain ⟨M', g1, g2⟩ := ih (i + 1) h2 M2 n (by rw [e2]; exact hEnd) (by omega) (fun k hk => by
        have := hc (k + 1) (by omega)
        rw [e1, show i + 1 + k = i + (k + 1) by omega, this]
        simp) hw2 hh2 (by omega)
      refine ⟨M', ?_, zO_trans hO g2⟩
      rw [nI_1, g1, e3, hs]
      rfl
    rcases hw with ⟨w1, w2, w3, w4⟩ | ⟨w1, w2, w3, w4⟩ | ⟨w1, w2, w3⟩
    · -- a number or a name
      have c2 : c < 20000 := Int32.lt_of_lt_of_le w2 (by decide)
      rw [if_neg (Int32.not_le.mpr c2), zL_r]
      rw [if_neg (by rw [show (160 : Int32) = nI 160 from rfl, nI_leI (by omega) (by omega)]; omega)]
      have hlt : ¬ (6 : Int32) ≤ c - 10000 := by
        rw [Int32.not_le, Int32.lt_iff_toInt_lt]
        rw [Int32.lt_iff_toInt_lt] at w2
        rw [Int32.le_iff_toInt_le] at w1
        have e : (c - 10000).toInt = c.toInt - 10000 := by
          rw [Int32.toInt_sub]
          have a1 : (0 : Int32).toInt = 0 := by decide
          have a2 : (10006 : Int32).toInt = 10006 := by decide
          have a3 : (10000 : Int32).toInt = 10000 := by decide
          rw [a1] at w1
          rw [a2] at w2
          rw [a3]
          exact Int.bmod_eq_of_le (by omega) (by omega)
        have a2 : (10006 : Int32).toInt = 10006 := by decide
        have a4 : (6 : Int32).toInt = 6 := by decide
        rw [a2] at w2
        rw [e, a4]
        omega
      rw [if_neg hlt]
      by_cases hnum : c < 10000
      · have hneg : ¬ (0 : Int32) ≤ c - 10000 := by
          rw [Int32.not_le, Int32.lt_iff_toInt_lt]
          rw [Int32.lt_iff_toInt_lt] at hnum
          rw [Int32.le_iff_toInt_le] at w1
          have a1 : (0 : Int32).toInt = 0 := by decide
          have a3 : (10000 : Int32).toInt = 10000 := by decide
          have e : (c - 10000).toInt = c.toInt - 10000 := by
            rw [Int32.toInt_sub, a3]
            rw [a1] at w1
            rw [a3] at hnum
            exact Int.bmod_eq_of_le (by omega) (by omega)
          rw [a3] at hnum
          rw [e, a1]
          omega
        rw [if_neg hneg, zG_t (zin_nI (show h < 160 by omega) (by decide)), nIc (show h < 2 ^ 31 by omega)]
        simp only [zL_r]
        rw [nI_1 h]
        refine goes _ (h + 1) (zO_zu _ _ _ _ (by simp)) w4 (by omega) ?_
        unfold zu
        rw [zr_s, stk_put]
        unfold sS
        rw [if_pos c2, if_pos hnum]
      · have hpos : (0 : Int32) ≤ c - 10000 := by
          rw [Int32.le_iff_toInt_le]
          rw [Int32.not_lt, Int32.le_iff_toInt_le] at hnum
          rw [Int32.lt_iff_toInt_lt] at w2
          have a1 : (0 : Int32).toInt = 0 := by decide
          have a2 : (10006 : Int32).toInt = 10006 := by decide
          have a3 : (10000 : Int32).toInt = 10000 := by decide
          have e : (c - 10000).toInt = c.toInt - 10000 := by
            rw [Int32.toInt_sub, a3]
            rw [a2] at w2
            rw [a3] at hnum
            exact Int.bmod_eq_of_le (by omega) (by omega)
          rw [a3] at hnum
          rw [e, a1]
          omega
        have hin6 : zin (c - 10000) 6 = true := by
          simp only [zin, Bool.and_eq_true, decide_eq_true_eq]
          rw [Int32.le_iff_toInt_le] at hpos
          rw [Int32.not_le, Int32.lt_iff_toInt_lt] at hlt
          have a1 : (0 : Int32).toInt = 0 := by decide
          have a4 : (6 : Int32).toInt = 6 := by decide
          rw [a1] at hpos
          rw [a4] at hlt
          exact ⟨hpos, by omega⟩
        rw [if_pos hpos, zG_t hin6, zG_t (zin_nI (show h < 160 by omega) (by decide)), nIc (show h < 2 ^ 31 by omega)]
        simp only [zL_r]
        rw [nI_1 h]
        refine goes _ (h + 1) (zO_zu _ _ _ _ (by simp)) w4 (by omega) ?_
        unfold zu
        rw [zr_s, stk_put]
        unfold sS
        rw [if_pos c2, if_neg hnum]
    · -- what joins two
      rw [if_pos w1, if_pos w2]
      rw [if_neg (by rw [show (1 : Int32) = nI 1 from rfl, nI_leI (by omega) (by omega)]; omega), zL_r, nI_p1, nI_m1 (by omega)]
      have e1 : nI (h - 1) - 1 = nI (h - 2) := nI_m1 (by omega)
      rw [e1, zG_t (zin_nI (show h - 2 < 160 by omega) (by decide)), zG_t (zin_nI (show h - 1 < 160 by omega) (by decide)), nIc (show h - 2 < 2 ^ 31 by omega), nIc (show h - 1 < 2 ^ 31 by omega)]
      rw [zB_s (fX3_joined_e _ _ _ _)]
      simp only [zL_r]
      rw [zG_t (zin_nI (show h - 2 < 160 by omega) (by decide))]
      refine goes _ (h - 1) (zO_zu _ _ _ _ (by simp)) w4 (by omega) ?_
      obtain ⟨q, rfl⟩ : ∃ q, h = q + 2 := ⟨h - 2, by omega⟩
      unfold zu
      rw [zr_s]
      show stk (upd (M.1 (t + 3)) q _) (q + 1) = _
      rw [stk_put]
      unfold sS
      rw [if_neg (Int32.not_lt.mpr w1), if_pos w2]
      rfl
    · -- what changes one
      have c2 : (20000 : Int32) ≤ c := Int32.le_trans (by decide) w1
      rw [if_pos c2, if_neg (Int32.not_lt.mpr w1)]
      rw [if_neg (by rw [show (0 : Int32) = nI 0 from rfl, nI_leI (by omega) (by omega)]; omega)]
      have e1 : nI h - 1 = nI (h - 1) := nI_m1 (by omega)
      rw [e1, zG_t (zin_nI (show h - 1 < 160 by omega) (by decide)), nIc (show h - 1 < 2 ^ 31 by omega)]
      rw [zB_s (fX3_changed_e _ _ _)]
      simp only [zL_r]
      rw [zG_t (zin_nI (show h - 1 < 160 by omega) (by decide))]
      refine goes _ h (zO_zu _ _ _ _ (by simp)) w3 (by omega) ?_
      obtain ⟨q, rfl⟩ : ∃ q, h = q + 1 := ⟨h - 1, by omega⟩
      unfold zu
      rw [zr_s]
      show stk (upd (M.1 (t + 3)) q _) (q + 1) = _
      rw [stk_put]
      unfold sS
      rw [if_neg (Int32.not_lt.mpr c2), if_neg (Int32.not_lt.mpr w1)]
      rfl

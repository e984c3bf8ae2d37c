/-! the reference's world -/
theorem sBd_m {v lo hi : Int32} (h : lo ≤ hi) (M : zM) : fX6_bound v lo hi M = some (sBd lo hi v, M) := by
  unfold fX6_bound sBd zmax zmin
  by_cases c1 : lo ≤ v
  · rw [if_pos c1]
    by_cases c2 : v ≤ hi
    · rw [if_pos c2]
      by_cases c3 : v < hi
      · rw [if_pos c3]
        by_cases c4 : lo < v
        · rw [if_pos c4]
        · rw [if_neg c4, Int32.le_antisymm c1 (Int32.not_lt.mp c4)]
      · rw [if_neg c3]
        have e : v = hi := Int32.le_antisymm c2 (Int32.not_lt.mp c3)
        by_cases c4 : lo < hi
        · rw [if_pos c4, e]
        · rw [if_neg c4, e, Int32.le_antisymm h (Int32.not_lt.mp c4)]
    · have c2' := Int32.not_le.mp c2
      rw [if_neg c2, if_neg (fun q => absurd (Int32.le_of_lt q) c2)]
      by_cases c4 : lo < hi
      · rw [if_pos c4]
      · rw [if_neg c4, Int32.le_antisymm h (Int32.not_lt.mp c4)]
  · have c1' := Int32.not_le.mp c1
    rw [if_neg c1, if_pos (Int32.lt_of_lt_of_le c1' h), if_neg (fun q => absurd (Int32.le_of_lt q) c1)]
/-- the reference's codes in the class's -/
def dM (c : Int32) : Int32 :=
  if c ≤ 5 then 10000 + c else if 15 ≤ c then c - 15
  else if c = 6 then 20043 else if c = 7 then 20045 else if c = 8 then 20042 else if c = 9 then 20060 else if c = 10 then 20061 else if c = 11 then 20008 else if c = 12 then 20007 else if c = 13 then 30001 else 30000
def cM (M : zM) (r p : Nat) : List Int32 :=
  (List.range (M.1 7 (3 * r + p)).toNatClampNeg).map (fun k => dM (M.1 8 ((M.1 6 (3 * r + p)).toNatClampNeg + k)))
def tM (M : zM) (r : Nat) : Nat → (Nat → Int32) → Int32 := fun p nm => if p < 3 then sV nm (cM M r p) else 0
def vM (M : zM) : zVw := ((M.1 0 2).toNatClampNeg, M.1 0 0, M.1 0 1, zt (M.1 0 2).toNatClampNeg (M.1 1), zt (M.1 0 2).toNatClampNeg (M.1 2), zt (M.1 0 2).toNatClampNeg (M.1 3), zt (M.1 0 2).toNatClampNeg (M.1 4), tM M (M.1 0 7).toNatClampNeg)
/-- a part of a text of the reference is one -/
def okP (M : zM) (q : Nat) (l : List Int32) : Prop := ∃ b n : Nat, M.1 6 q = nI b ∧ M.1 7 q = nI n ∧ b + n ≤ 3000 ∧ n ≤ 160 ∧ (∀ k, k < n → 0 ≤ M.1 8 (b + k) ∧ M.1 8 (b + k) < 10015) ∧ wfc l 0
def okTM (M : zM) (r : Nat) : Prop := ∀ p, p < 3 → okP M (3 * r + p) (cM M r p)
def okM (M : zM) : Prop := (∃ n : Nat, n ≤ 5 ∧ M.1 0 2 = nI n) ∧ ∃ r : Nat, r < 6 ∧ M.1 0 7 = nI r ∧ okTM M r
/-- both sides join alike -/
theorem fX6_both_e {t : Int32} (ht : 6 ≤ t) (ht2 : t < 13) (a b : Int32) (M : zM) : fX6_both t a b M = some (sJ (dM t - 20000) a b, M) := by
  obtain ⟨j, hj, e⟩ : ∃ j : Nat, j < 13 ∧ t = nI j := by
    rw [Int32.le_iff_toInt_le] at ht
    rw [Int32.lt_iff_toInt_lt] at ht2
    have a6 : (6 : Int32).toInt = 6 := by decide
    have a13 : (13 : Int32).toInt = 13 := by decide
    rw [a6] at ht
    rw [a13] at ht2
    refine ⟨t.toInt.toNat, by omega, ?_⟩
    apply Int32.toInt_inj.mp
    rw [nI_toInt (by omega)]
    omega
  have hj6 : 6 ≤ j := by
    rw [e, show (6 : Int32) = nI 6 from rfl, nI_leI (by omega) (by omega)] at ht
    exact ht
  subst e
  rcases (show j = 6 ∨ j = 7 ∨ j = 8 ∨ j = 9 ∨ j = 10 ∨ j = 11 ∨ j = 12 by omega) with rfl | rfl | rfl | rfl | rfl | rfl | rfl
  · rfl
  · rfl
  · rfl
  · show (if b ≤ a then some ((0 : Int32), M) else some ((1 : Int32), M)) = some ((if b ≤ a then (0 : Int32) else 1), M)
    by_cases c : b ≤ a
    · rw [if_pos c, if_pos c]
    · rw [if_neg c, if_neg c]
  · show (if a = b then some ((1 : Int32), M) else some ((0 : Int32), M)) = some ((if a = b then (1 : Int32) else 0), M)
    by_cases c : a = b
    · rw [if_pos c, if_pos c]
    · rw [if_neg c, if_neg c]
  · show (if a = 0 then some ((0 : Int32), M) else if b = 0 then some ((0 : Int32), M) else some ((1 : Int32), M)) = some ((if a = 0 then (0 : Int32) else if b = 0 then 0 else 1), M)
    by_cases c : a = 0
    · rw [if_pos c, if_pos c]
    · rw [if_neg c, if_neg c]
      by_cases c2 : b = 0
      · rw [if_pos c2, if_pos c2]
      · rw [if_neg c2, if_neg c2]
  · show (if a = 0 then (if b = 0 then some ((0 : Int32), M) else some ((1 : Int32), M)) else some ((1 : Int32), M)) = some ((if a = 0 then (if b = 0 then (0 : Int32) else 1) else 1), M)
    by_cases c : a = 0
    · rw [if_pos c, if_pos c]
      by_cases c2 : b = 0
      · rw [if_pos c2, if_pos c2]
      · rw [if_neg c2, if_neg c2]
    · rw [if_neg c, if_neg c]
/-- a code of the reference is a small number -/
theorem i32_nat {c : Int32} {n : Nat} (h0 : 0 ≤ c) (hn : c < nI n) (hb : n < 2 ^ 31) : ∃ j : Nat, j < n ∧ c = nI j := by
  rw [Int32.le_iff_toInt_le] at h0
  rw [Int32.lt_iff_toInt_lt, nI_toInt hb] at hn
  have a0 : (0 : Int32).toInt = 0 := by decide
  rw [a0] at h0
  refine ⟨c.toInt.toNat, by omega, ?_⟩
  apply Int32.toInt_inj.mp
  rw [nI_toInt (by omega)]
  omega
theorem dM_name {j : Nat} (h : j ≤ 5) : dM (nI j) = nI (10000 + j) := by
  rcases (show j = 0 ∨ j = 1 ∨ j = 2 ∨ j = 3 ∨ j = 4 ∨ j = 5 by omega) with rfl | rfl | rfl | rfl | rfl | rfl <;> decide
theorem dM_num {j : Nat} (h : 15 ≤ j) (hj : j < 2 ^ 31) : dM (nI j) = nI (j - 15) := by
  unfold dM
  rw [if_neg (by rw [show (5 : Int32) = nI 5 from rfl, nI_leI hj (by omega)]; omega), if_pos (by rw [show (15 : Int32) = nI 15 from rfl, nI_leI (by omega) hj]; omega), show (15 : Int32) = nI 15 from rfl, pk_sub h]
theorem i_sub3 (q : Nat) {r p : Nat} (hr : r < 6) (hp : p < 3) (h : nI r = nI r) : ((3 : Int32) * nI r) + nI p = nI (3 * r + p) := by
  rw [show (3 : Int32) = nI 3 from rfl, pk_mul, nI_add]
/-- the reference's text tells what its codes tell -/
theorem ruled_loop (q : Nat) (hq : q < 18) (p : Nat) (R3 : Int32) : ∀ (l : List Int32) (i h E b : Nat) (M : zM) (n : Nat), (3 : Int32) * M.1 0 7 + nI p = nI q → M.1 7 q = nI E → i + l.length = b + E → b + E ≤ 3000 → (∀ k, k < l.length → dM (M.1 8 (i + k)) = l.getD k 0 ∧ 0 ≤ M.1 8 (i + k) ∧ M.1 8 (i + k) < 10015) → wfc l h → h ≤ 160 → l.length < n →
    ∃ M', fX6_ruled_L19 n (nI p) (nI h) (nI b) (nI i) M = some ((sE (M.1 11) l (stk (M.1 10) h)).headD 0, M') ∧ zO [10] M M' := by
  intro l
  induction l with
  | nil =>
    intro i h E b M n hrq hE hi hE2 hc hw hh hn
    obtain ⟨n, rfl⟩ : ∃ z, n = z + 1 := ⟨n - 1, by simp at hn; omega⟩
    have h1 : h = 1 := hw
    subst h1
    refine ⟨M, ?_, zO_refl _ _⟩
    show fX6_ruled_B19 (fX6_ruled_L19 n) (nI p) (nI 1) (nI b) (nI i) M = _
    unfold fX6_ruled_B19
    rw [hrq, zG_t (zin_nI hq (by decide)), nIc (by omega), hE, nI_add, if_pos ((nI_leI (by omega) (by simp at hi; omega)).mpr (by simp at hi; omega)), n0]
    rfl
  | cons c l ih =>
    intro i h E b M n hrq hE hi hE2 hc hw hh hn
    simp only [List.length_cons] at hi hn hc
    obtain ⟨n, rfl⟩ : ∃ z, n = z + 1 := ⟨n - 1, by omega⟩
    obtain ⟨hc0, hc1, hc2⟩ := hc 0 (by omega)
    simp only [Nat.add_zero, List.getD_cons_zero] at hc0 hc1 hc2
    obtain ⟨j, hj, ej⟩ := i32_nat (n := 10015) hc1 hc2 (by omega)
    show ∃ M', fX6_ruled_B19 (fX6_ruled_L19 n) (nI p) (nI h) (nI b) (nI i) M = _ ∧ _
    unfold fX6_ruled_B19
    rw [hrq, zG_t (zin_nI hq (by decide)), nIc (show q < 2 ^ 31 by omega), hE, nI_add, if_neg (by rw [nI_leI (by omega) (by omega)]; omega), zG_t (zin_nI (show i < 3000 by omega) (by decide)), nIc (show i < 2 ^ 31 by omega), zL_r, ej]
    rw [ej] at hc0
    have goes : ∀ (M2 : zM) (h2 : Nat), zO [10] M M2 → wfc l h2 → h2 ≤ 160 → stk (M2.1 10) h2 = sS (M.1 11) c (stk (M.1 10) h) →
        ∃ M', fX6_ruled_L19 n (nI p) (nI h2) (nI b) (nI i + 1) M2 = some ((sE (M.1 11) (c :: l) (stk (M.1 10) h)).headD 0, M') ∧ zO [10] M M' := by
      intro M2 h2 hO hw2 hh2 hs
      have e0 : M2.1 0 = M.1 0 := hO.2 _ (by simp)
      have e7 : M2.1 7 = M.1 7 := hO.2 _ (by simp)
      have e8 : M2.1 8 = M.1 8 := hO.2 _ (by simp)
      have e11 : M2.1 11 = M.1 11 := hO.2 _ (by simp)
      obtain ⟨M', g1, g2⟩ := ih (i + 1) h2 E b M2 n (by rw [e0]; exact hrq) (by rw [e7]; exact hE) (by omega) hE2 (fun k hk => by
        have := hc (k + 1) (by omega)
        rw [e8, show i + 1 + k = i + (k + 1) by omega]
        simpa using this) hw2 hh2 (by omega)
      refine ⟨M', ?_, zO_trans hO g2⟩
      rw [nI_1, g1, e11, hs]
      rfl
    by_cases c15 : 15 ≤ j
    · -- a number
      have hcn : c = nI (j - 15) := by rw [← hc0, dM_num c15 (by omega)]
      have hlt : c < 10000 := by rw [hcn, show (10000 : Int32) = nI 10000 from rfl, nI_ltI (by omega) (by omega)]; omega
      have w' : h < 160 ∧ wfc l (h + 1) := by
        rcases hw with ⟨w1, w2, w3, w4⟩ | ⟨w1, w2, w3, w4⟩ | ⟨w1, w2, w3⟩
        · exact ⟨w3, w4⟩
        · exact absurd (Int32.lt_of_lt_of_le hlt (Int32.le_trans (by decide) w1)) Int32.lt_irrefl
        · exact absurd (Int32.lt_of_lt_of_le hlt (Int32.le_trans (by decide) w1)) Int32.lt_irrefl
      rw [if_pos (by rw [show (15 : Int32) = nI 15 from rfl, nI_leI (by omega) (by omega)]; omega)]
      unfold fX6_ruled_J61
      rw [zL_r, if_neg (by rw [show (15 : Int32) = nI 15 from rfl, nI_ltI (by omega) (by omega)]; omega), zG_t (zin_nI (show h < 200 by omega) (by decide)), nIc (show h < 2 ^ 31 by omega), zL_r, zL_r, nI_1 h, show (15 : Int32) = nI 15 from rfl, pk_sub c15, ← hcn]
      refine goes _ (h + 1) (zO_zu _ _ _ _ (by simp)) w'.2 (by omega) ?_
      unfold zu
      rw [zr_s, stk_put]
      unfold sS
      rw [if_pos (Int32.lt_trans hlt (by decide)), if_pos hlt]
    · rw [if_neg (by rw [show (15 : Int32) = nI 15 from rfl, nI_leI (by omega) (by omega)]; omega)]
      by_cases c5 : j ≤ 5
      · -- a name
        have hcn : c = nI (10000 + j) := by rw [← hc0, dM_name c5]
        have hlt : c < 20000 := by rw [hcn, show (20000 : Int32) = nI 20000 from rfl, nI_ltI (by omega) (by omega)]; omega
        have hge : ¬ c < 10000 := by rw [hcn, show (10000 : Int32) = nI 10000 from rfl, nI_ltI (by omega) (by omega)]; omega
        have w' : h < 160 ∧ wfc l (h + 1) := by
          rcases hw with ⟨w1, w2, w3, w4⟩ | ⟨w1, w2, w3, w4⟩ | ⟨w1, w2, w3⟩
          · exact ⟨w3, w4⟩
          · exact absurd (Int32.lt_of_lt_of_le hlt w1) Int32.lt_irrefl
          · exact absurd (Int32.lt_of_lt_of_le hlt (Int32.le_trans (by decide) w1)) Int32.lt_irrefl
        rw [if_neg (by rw [show (5 : Int32) = nI 5 from rfl, nI_ltI (by omega) (by omega)]; omega)]
        unfold fX6_ruled_J61
        rw [zL_r, if_pos (by rw [show (15 : Int32) = nI 15 from rfl, nI_ltI (by omega) (by omega)]; omega), zG_t (zin_nI (show j < 6 by omega) (by decide)), zG_t (zin_nI (show h < 200 by omega) (by decide)), nIc (show h < 2 ^ 31 by omega), nIc (show j < 2 ^ 31 by omega), zL_r, zL_r, nI_1 h]
        refine goes _ (h + 1) (zO_zu _ _ _ _ (by simp)) w'.2 (by omega) ?_
        unfold zu
        rw [zr_s, stk_put]
        unfold sS
        rw [if_pos hlt, if_neg hge, hcn, show (10000 : Int32) = nI 10000 from rfl, pk_sub (by omega), nIc (by omega), show 10000 + j - 10000 = j by omega]
      · rw [if_pos (by rw [show (5 : Int32) = nI 5 from rfl, nI_ltI (by omega) (by omega)]; omega)]
        by_cases c13 : 13 ≤ j
        · -- what changes one
          have hcn : c = if j = 13 then 30001 else 30000 := by
            rw [← hc0]
            rcases (show j = 13 ∨ j = 14 by omega) with rfl | rfl <;> decide
          have h3 : (30000 : Int32) ≤ c := by
            rw [hcn]
            by_cases cc : j = 13
            · rw [if_pos cc]; decide
            · rw [if_neg cc]; decide
          have w' : 1 ≤ h ∧ wfc l h := by
            rcases hw with ⟨w1, w2, w3, w4⟩ | ⟨w1, w2, w3, w4⟩ | ⟨w1, w2, w3⟩
            · exact absurd (Int32.lt_of_lt_of_le w2 (Int32.le_trans (by decide) h3)) Int32.lt_irrefl
            · exact absurd (Int32.lt_of_lt_of_le w2 h3) Int32.lt_irrefl
            · exact ⟨w2, w3⟩
          have e1 : nI h - 1 = nI (h - 1) := nI_m1 (by omega)
          have J109 : fX6_ruled_J109 (fX6_ruled_L19 n) (nI p) (nI h) (nI b) (nI i) (nI j) M = fX6_ruled_L19 n (nI p) (nI h) (nI b) (nI i + 1) (zu M 10 (h - 1) (sC c (M.1 10 (h - 1)))) := by
            unfold fX6_ruled_J109
            rw [e1, zG_t (zin_nI (show h - 1 < 200 by omega) (by decide)), zG_t (zin_nI (show h - 1 < 200 by omega) (by decide)), nIc (show h - 1 < 2 ^ 31 by omega)]
            have J151 : ∀ v : Int32, fX6_ruled_J151 (fX6_ruled_L19 n) (nI p) (nI h) (nI b) (nI i) v (nI (h - 1)) M = fX6_ruled_L19 n (nI p) (nI h) (nI b) (nI i + 1) (zu M 10 (h - 1) v) := fun v => by
              unfold fX6_ruled_J151
              rw [zG_t (zin_nI (show h - 1 < 200 by omega) (by decide)), nIc (show h - 1 < 2 ^ 31 by omega), zL_r, zL_r]
            rw [J151, J151, J151]
            by_cases cc : j = 13
            · subst cc
              have hs : sC c (M.1 10 (h - 1)) = if M.1 10 (h - 1) = 0 then 1 else 0 := by
                rw [hcn, if_pos rfl]
                unfold sC
                rw [if_neg (show ¬ (30001 : Int32) = 30000 by decide)]
              rw [if_neg (show ¬ nI 13 = 14 by decide), hs]
              by_cases cz : M.1 10 (h - 1) = 0
              · rw [if_pos cz, if_pos cz]
              · rw [if_neg cz, if_neg cz]
            · have : j = 14 := by omega
              subst this
              have hs : sC c (M.1 10 (h - 1)) = -M.1 10 (h - 1) := by
                rw [hcn, if_neg cc]
                unfold sC
                rw [if_pos rfl]
              rw [if_pos (show nI 14 = 14 from rfl), hs]
          have hgo := goes (zu M 10 (h - 1) (sC c (M.1 10 (h - 1)))) h (zO_zu _ _ _ _ (by simp)) w'.2 (by omega) (by
            obtain ⟨z, rfl⟩ : ∃ z, h = z + 1 := ⟨h - 1, by omega⟩
            unfold zu
            rw [zr_s]
            show stk (upd (M.1 10) z _) (z + 1) = _
            rw [stk_put]
            unfold sS
            rw [if_neg (Int32.not_lt.mpr (Int32.le_trans (by decide) h3)), if_neg (Int32.not_lt.mpr h3)]
            rfl)
          by_cases cc : j = 13
          · rw [if_pos (by rw [cc]; rfl), J109]; exact hgo
          · have : j = 14 := by omega
            rw [if_neg (by rw [this]; decide), if_pos (by rw [this]; rfl), J109]; exact hgo
        · -- what joins two
          have hj6 : 6 ≤ j := by omega
          have h2c : (20000 : Int32) ≤ c ∧ c < 30000 := by
            rw [← hc0]
            rcases (show j = 6 ∨ j = 7 ∨ j = 8 ∨ j = 9 ∨ j = 10 ∨ j = 11 ∨ j = 12 by omega) with rfl | rfl | rfl | rfl | rfl | rfl | rfl <;> decide
          have w' : 2 ≤ h ∧ wfc l (h - 1) := by
            rcases hw with ⟨w1, w2, w3, w4⟩ | ⟨w1, w2, w3, w4⟩ | ⟨w1, w2, w3⟩
            · exact absurd (Int32.lt_of_lt_of_le w2 (Int32.le_trans (by decide) h2c.1)) Int32.lt_irrefl
            · exact ⟨w3, w4⟩
            · exact absurd (Int32.lt_of_lt_of_le h2c.2 w1) Int32.lt_irrefl
          rw [if_neg (by rw [show (13 : Int32) = nI 13 from rfl, nI_eq (by omega) (by omega)]; omega), if_neg (by rw [show (14 : Int32) = nI 14 from rfl, nI_eq (by omega) (by omega)]; omega)]
          rw [zL_r, nI_p1, nI_m1 (by omega)]
          have e1 : nI (h - 1) - 1 = nI (h - 2) := nI_m1 (by omega)
          rw [e1, zG_t (zin_nI (show h - 2 < 200 by omega) (by decide)), zG_t (zin_nI (show h - 1 < 200 by omega) (by decide)), nIc (show h - 2 < 2 ^ 31 by omega), nIc (show h - 1 < 2 ^ 31 by omega)]
          rw [zB_s (fX6_both_e (by rw [show (6 : Int32) = nI 6 from rfl, nI_leI (by omega) (by omega)]; omega) (by rw [show (13 : Int32) = nI 13 from rfl, nI_ltI (by omega) (by omega)]; omega) _ _ _)]
          rw [zG_t (zin_nI (show h - 2 < 200 by omega) (by decide)), zL_r, zL_r, hc0]
          refine goes _ (h - 1) (zO_zu _ _ _ _ (by simp)) w'.2 (by omega) ?_
          obtain ⟨z, rfl⟩ : ∃ z, h = z + 2 := ⟨h - 2, by omega⟩
          unfold zu
          rw [zr_s]
          show stk (upd (M.1 10) z _) (z + 1) = _
          rw [stk_put]
          unfold sS
          rw [if_neg (Int32.not_lt.mpr h2c.1), if_pos h2c.2]
          rfl

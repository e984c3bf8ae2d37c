/-! steps: small ones -/
def zWin (x lo hi : Int32) : Int32 := if x < lo then 0 else if hi < x then 0 else 1
theorem win5 (x lo hi : Int32) (M : zM) : fX5_within x lo hi M = some (zWin x lo hi, M) := by
  unfold fX5_within zWin
  by_cases c1 : x < lo
  · rw [if_pos c1, if_pos c1]
  · rw [if_neg c1, if_neg c1]
    by_cases c2 : hi < x
    · rw [if_pos c2, if_pos c2]
    · rw [if_neg c2, if_neg c2]
theorem win6 (x lo hi : Int32) (M : zM) : fX6_within x lo hi M = some (zWin x lo hi, M) := by
  unfold fX6_within zWin
  by_cases c1 : x < lo
  · rw [if_pos c1, if_pos c1]
  · rw [if_neg c1, if_neg c1]
    by_cases c2 : hi < x
    · rw [if_pos c2, if_pos c2]
    · rw [if_neg c2, if_neg c2]
theorem zWin_c (x lo hi : Int32) : (zWin x lo hi = 0 ∧ ¬ (lo ≤ x ∧ x ≤ hi)) ∨ (zWin x lo hi = 1 ∧ lo ≤ x ∧ x ≤ hi) := by
  unfold zWin
  by_cases c1 : x < lo
  · rw [if_pos c1]; exact Or.inl ⟨rfl, fun q => absurd c1 (Int32.not_lt.mpr q.1)⟩
  · rw [if_neg c1]
    by_cases c2 : hi < x
    · rw [if_pos c2]; exact Or.inl ⟨rfl, fun q => absurd c2 (Int32.not_lt.mpr q.2)⟩
    · rw [if_neg c2]; exact Or.inr ⟨rfl, Int32.not_lt.mp c1, Int32.not_lt.mp c2⟩
/-- a number between two small ones -/
theorem i32_in {x : Int32} {a b : Nat} (h0 : nI a ≤ x) (h1 : x ≤ nI b) (hb : b < 2 ^ 30) (ha : a < 2 ^ 30) : ∃ i : Nat, a ≤ i ∧ i ≤ b ∧ x = nI i := by
  rw [Int32.le_iff_toInt_le, nI_toInt (by omega)] at h0
  rw [Int32.le_iff_toInt_le, nI_toInt (by omega)] at h1
  refine ⟨x.toInt.toNat, by omega, by omega, ?_⟩
  apply Int32.toInt_inj.mp
  rw [nI_toInt (by omega)]
  omega
theorem nm1_lt {n : Nat} (hn : n < 2 ^ 30) (x : Int32) : nI n - 1 < x ↔ nI n ≤ x := by
  have e : (nI n - 1).toInt = (n : Int) - 1 := (pk_sub_toInt (a := n) (b := 1) hn (by omega)).trans (by omega)
  rw [Int32.lt_iff_toInt_lt, Int32.le_iff_toInt_le, nI_toInt (by omega), e]
  omega
theorem one_e {w n : Nat} (hn : n ≤ 5) {MX MM : zM} (a7 : MX.1 w 7 = nI n) (b2 : MM.1 0 2 = nI n) (x : Int32) : (∃ i : Nat, i < n ∧ x = nI i ∧ fX4_has w x MX = some (1, MX) ∧ fX6_isOne x MM = some (1, MM)) ∨ (fX4_has w x MX = some (0, MX) ∧ fX6_isOne x MM = some (0, MM)) := by
  have hI : fX6_isOne x MM = zG (zbo (zWin x 0 (nI n - 1))) (some (zWin x 0 (nI n - 1), MM)) := by
    unfold fX6_isOne
    rw [b2, zB_s (win6 _ _ _ _)]
  rw [hI]
  unfold fX4_has
  rw [a7]
  unfold zWin
  by_cases c0 : x < 0
  · rw [if_pos c0, if_pos c0]
    exact Or.inr ⟨rfl, rfl⟩
  · rw [if_neg c0, if_neg c0]
    by_cases c1 : nI n ≤ x
    · rw [if_pos c1, if_pos ((nm1_lt (by omega) x).mpr c1)]
      exact Or.inr ⟨rfl, rfl⟩
    · rw [if_neg c1, if_neg (fun q => c1 ((nm1_lt (by omega) x).mp q))]
      obtain ⟨i, hi, e⟩ := i32_nat (n := n) (Int32.not_lt.mp c0) (Int32.not_le.mp c1) (by omega)
      exact Or.inl ⟨i, hi, e, rfl, rfl⟩
theorem nI_ne {a b : Nat} (ha : a < 2 ^ 31) (hb : b < 2 ^ 31) (h : a ≠ b) : nI a ≠ nI b := fun q => h ((nI_eq ha hb).mp q)
theorem ne_m2 {v : Int32} (h : 0 ≤ v) : ¬ v = -2 := fun q => by rw [q] at h; exact absurd h (by decide)
/-- SET on one cell: who is there changes at one place -/
theorem st_set {T : zM → Prop} (hTab : tabOk T) (MX MM : zM) (hR : RelT T MX MM) (a1 a2 a3 : Int32) : ∃ (r : Int32) (MX' MM' : zM), fX5_set a1 a2 a3 MX = some (r, MX') ∧ fX6_set a1 a2 a3 MM = some (r, MM') ∧ RelT T MX' MM' := by
  obtain ⟨t0, n, r, hn, hr, a7, b2, e8, e9, a10, b7, ⟨hd0, hd1, hw0⟩, hp⟩ := hR.2.imp (fun t h => h.1)
  -- the two that refuse
  have bad : fX5_set a1 a2 a3 MX = some (-2, MX) → fX6_set a1 a2 a3 MM = some (-2, MM) → ∃ (r : Int32) (MX' MM' : zM), fX5_set a1 a2 a3 MX = some (r, MX') ∧ fX6_set a1 a2 a3 MM = some (r, MM') ∧ RelT T MX' MM' := fun h1 h2 => ⟨-2, MX, MM, h1, h2, hR⟩
  by_cases c0 : a1 = 0
  · -- DAY
    subst c0
    have hX : fX5_set 0 a2 a3 MX = if zWin a3 0 999 = 0 then some ((-2 : Int32), MX) else some (MX.1 10 8, zu MX 10 8 a3) := by
      unfold fX5_set
      rw [zB_s (show fX5_held 0 a2 MX = some (MX.1 10 8, MX) from rfl), if_neg (by rw [e8]; exact ne_m2 hd0), zB_s (show fX5_heldMost 0 MX = some (999, MX) from rfl), zB_s (win5 _ _ _ _)]
      by_cases c : zWin a3 0 999 = 0
      · rw [if_pos c, if_pos c]
      · rw [if_neg c, if_neg c, if_pos rfl]; rfl
    have hM : fX6_set 0 a2 a3 MM = if zWin a3 0 999 = 0 then some ((-2 : Int32), MM) else some (MM.1 0 0, zu MM 0 0 a3) := by
      unfold fX6_set
      rw [zB_s (show fX6_isOf 0 a2 MM = some (1, MM) from rfl), if_neg (by decide), if_neg (by decide), if_neg (by decide)]
      unfold fX6_set_J29
      rw [zB_s (win6 _ _ _ _)]
      by_cases c : zWin a3 0 999 = 0
      · rw [if_pos c, if_pos c]
      · rw [if_neg c, if_neg c, zB_s (show fX6_get 0 a2 MM = some (MM.1 0 0, MM) from rfl), if_pos rfl]; rfl
    rcases zWin_c a3 0 999 with ⟨z, -⟩ | ⟨z, z1, z2⟩
    · rw [if_pos z] at hX hM; exact bad hX hM
    · rw [if_neg (by rw [z]; decide)] at hX hM
      refine ⟨MM.1 0 0, _, _, by rw [hX, e8], hM, RelT_now hTab hR (zO_zu _ _ _ _ (by decide)) (fun i hi => zu_row _ (fun q => hi (by rw [q]; decide)) _ _) (fun k hk _ => zu_other _ _ (by omega) _) (fun n' h1 h2 => ⟨n', Nat.le_refl _, h2, by rw [zu_other _ _ (by decide)]; exact h1, fun i _ => by rw [zu_row _ (by decide)]⟩) (fun t hP _ => ?_)⟩
      obtain ⟨n, r, hn, hr, a7, b2, e8, e9, a10, b7, ⟨hd0, hd1, hw0⟩, hp⟩ := hP
      refine ⟨n, r, hn, hr, by rw [zu_other _ _ (by decide)]; exact a7, by rw [zu_other _ _ (by decide)]; exact b2, by rw [zu_same, zu_same], by rw [zu_other _ _ (by decide), zu_other _ _ (by decide)]; exact e9, by rw [zu_other _ _ (by decide)]; exact a10, by rw [zu_other _ _ (by decide)]; exact b7, ?_, fun i hi => ?_⟩
      · rw [zu_same, zu_other _ _ (by decide)]; exact ⟨z1, z2, hw0⟩
      · simp only [zu_row MX (show (11 : Nat) ≠ 10 by decide), zu_row MX (show (12 : Nat) ≠ 10 by decide), zu_row MX (show (13 : Nat) ≠ 10 by decide), zu_row MX (show (14 : Nat) ≠ 10 by decide), zu_row MM (show (1 : Nat) ≠ 0 by decide), zu_row MM (show (2 : Nat) ≠ 0 by decide), zu_row MM (show (3 : Nat) ≠ 0 by decide), zu_row MM (show (4 : Nat) ≠ 0 by decide)]
        exact hp i hi
  by_cases c1 : a1 = 1
  · -- WET
    subst c1
    have hX : fX5_set 1 a2 a3 MX = if zWin a3 0 9 = 0 then some ((-2 : Int32), MX) else some (MX.1 10 9, zu MX 10 9 a3) := by
      unfold fX5_set
      rw [zB_s (show fX5_held 1 a2 MX = some (MX.1 10 9, MX) from rfl), if_neg (by rw [e9]; exact ne_m2 hw0), zB_s (show fX5_heldMost 1 MX = some (9, MX) from rfl), zB_s (win5 _ _ _ _)]
      by_cases c : zWin a3 0 9 = 0
      · rw [if_pos c, if_pos c]
      · rw [if_neg c, if_neg c, if_neg (by decide), if_pos rfl]; rfl
    have hM : fX6_set 1 a2 a3 MM = if zWin a3 0 9 = 0 then some ((-2 : Int32), MM) else some (MM.1 0 1, zu MM 0 1 a3) := by
      unfold fX6_set
      rw [zB_s (show fX6_isOf 1 a2 MM = some (1, MM) from rfl), if_neg (by decide), if_pos rfl]
      unfold fX6_set_J29
      rw [zB_s (win6 _ _ _ _)]
      by_cases c : zWin a3 0 9 = 0
      · rw [if_pos c, if_pos c]
      · rw [if_neg c, if_neg c, zB_s (show fX6_get 1 a2 MM = some (MM.1 0 1, MM) from rfl), if_neg (by decide), if_pos rfl]; rfl
    rcases zWin_c a3 0 9 with ⟨z, -⟩ | ⟨z, z1, z2⟩
    · rw [if_pos z] at hX hM; exact bad hX hM
    · rw [if_neg (by rw [z]; decide)] at hX hM
      refine ⟨MM.1 0 1, _, _, by rw [hX, e9], hM, RelT_now hTab hR (zO_zu _ _ _ _ (by decide)) (fun i hi => zu_row _ (fun q => hi (by rw [q]; decide)) _ _) (fun k hk _ => zu_other _ _ (by omega) _) (fun n' h1 h2 => ⟨n', Nat.le_refl _, h2, by rw [zu_other _ _ (by decide)]; exact h1, fun i _ => by rw [zu_row _ (by decide)]⟩) (fun t hP _ => ?_)⟩
      obtain ⟨n, r, hn, hr, a7, b2, e8, e9, a10, b7, ⟨hd0, hd1, hw0⟩, hp⟩ := hP
      refine ⟨n, r, hn, hr, by rw [zu_other _ _ (by decide)]; exact a7, by rw [zu_other _ _ (by decide)]; exact b2, by rw [zu_other _ _ (by decide), zu_other _ _ (by decide)]; exact e8, by rw [zu_same, zu_same], by rw [zu_other _ _ (by decide)]; exact a10, by rw [zu_other _ _ (by decide)]; exact b7, ?_, fun i hi => ?_⟩
      · rw [zu_same, zu_other _ _ (by decide)]; exact ⟨hd0, hd1, z1⟩
      · simp only [zu_row MX (show (11 : Nat) ≠ 10 by decide), zu_row MX (show (12 : Nat) ≠ 10 by decide), zu_row MX (show (13 : Nat) ≠ 10 by decide), zu_row MX (show (14 : Nat) ≠ 10 by decide), zu_row MM (show (1 : Nat) ≠ 0 by decide), zu_row MM (show (2 : Nat) ≠ 0 by decide), zu_row MM (show (3 : Nat) ≠ 0 by decide), zu_row MM (show (4 : Nat) ≠ 0 by decide)]
        exact hp i hi
  -- one of a person's three numbers
  have three : ∀ (b c top : Nat) (hi : Int32), (b = 12 ∧ c = 2 ∧ hi = 9 ∧ a1 = 2) ∨ (b = 13 ∧ c = 3 ∧ hi = 999 ∧ a1 = 3) ∨ (b = 14 ∧ c = 4 ∧ hi = 999 ∧ a1 = 4) → (∃ i : Nat, i < n ∧ a2 = nI i ∧ fX4_has 10 a2 MX = some (1, MX) ∧ fX6_isOne a2 MM = some (1, MM)) →
      fX5_set a1 a2 a3 MX = (if zWin a3 0 hi = 0 then some ((-2 : Int32), MX) else some (MX.1 b a2.toNatClampNeg, zu MX b a2.toNatClampNeg a3)) → fX6_set a1 a2 a3 MM = (if zWin a3 0 hi = 0 then some ((-2 : Int32), MM) else some (MM.1 c a2.toNatClampNeg, zu MM c a2.toNatClampNeg a3)) → ∃ (r : Int32) (MX' MM' : zM), fX5_set a1 a2 a3 MX = some (r, MX') ∧ fX6_set a1 a2 a3 MM = some (r, MM') ∧ RelT T MX' MM' := by
    intro b c top hi hbc hone hX hM
    obtain ⟨i, hi1, rfl, -, -⟩ := hone
    rw [nIc (show i < 2 ^ 31 by omega)] at hX hM
    rcases zWin_c a3 0 hi with ⟨z, -⟩ | ⟨z, z1, z2⟩
    · rw [if_pos z] at hX hM; exact bad hX hM
    · rw [if_neg (by rw [z]; decide)] at hX hM
      have heq : MX.1 b i = MM.1 c i := by
        obtain ⟨p1, p2, p3, p4⟩ := hp i hi1
        rcases hbc with ⟨rfl, rfl, -⟩ | ⟨rfl, rfl, -⟩ | ⟨rfl, rfl, -⟩
        · exact p2.1
        · exact p3.1
        · exact p4.1
      have z3 : a3 ≤ 999 := by
        rcases hbc with ⟨-, -, q, -⟩ | ⟨-, -, q, -⟩ | ⟨-, -, q, -⟩ <;> rw [q] at z2
        · exact Int32.le_trans z2 (by decide)
        · exact z2
        · exact z2
      refine ⟨MM.1 c i, _, _, by rw [hX, heq], hM, RelT_now hTab hR (zO_zu _ _ _ _ (by rcases hbc with ⟨rfl, -⟩ | ⟨rfl, -⟩ | ⟨rfl, -⟩ <;> decide)) (fun j hj => zu_row _ (fun q => hj (by rw [q]; rcases hbc with ⟨-, rfl, -⟩ | ⟨-, rfl, -⟩ | ⟨-, rfl, -⟩ <;> decide)) _ _) (fun k hk _ => by rw [zu_row _ (by rcases hbc with ⟨-, rfl, -⟩ | ⟨-, rfl, -⟩ | ⟨-, rfl, -⟩ <;> decide)]) (fun n' h1 h2 => ⟨n', Nat.le_refl _, h2, by rw [zu_row _ (by rcases hbc with ⟨-, rfl, -⟩ | ⟨-, rfl, -⟩ | ⟨-, rfl, -⟩ <;> decide)]; exact h1, fun i _ => by rw [zu_row _ (by rcases hbc with ⟨-, rfl, -⟩ | ⟨-, rfl, -⟩ | ⟨-, rfl, -⟩ <;> decide)]⟩) (fun t hP _ => ?_)⟩
      obtain ⟨n, r, hn, hr, a7, b2, e8, e9, a10, b7, hd, hp⟩ := hP
      have x10 : (zu MX b i a3).1 10 = MX.1 10 := zu_row _ (by rcases hbc with ⟨rfl, -⟩ | ⟨rfl, -⟩ | ⟨rfl, -⟩ <;> decide) _ _
      have m0 : (zu MM c i a3).1 0 = MM.1 0 := zu_row _ (by rcases hbc with ⟨-, rfl, -⟩ | ⟨-, rfl, -⟩ | ⟨-, rfl, -⟩ <;> decide) _ _
      refine ⟨n, r, hn, hr, by rw [x10]; exact a7, by rw [m0]; exact b2, by rw [x10, m0]; exact e8, by rw [x10, m0]; exact e9, by rw [x10]; exact a10, by rw [m0]; exact b7, by rw [m0]; exact hd, fun j hj => ?_⟩
      obtain ⟨p1, p2, p3, p4⟩ := hp j hj
      simp only [zu_at]
      rcases hbc with ⟨rfl, rfl, -⟩ | ⟨rfl, rfl, -⟩ | ⟨rfl, rfl, -⟩
      · by_cases cj : j = i
        · simp only [cj, and_self, and_true, if_true, if_false, reduceCtorEq, Nat.reduceEqDiff]
          subst cj
          exact ⟨p1, ⟨trivial, z1⟩, p3, p4⟩
        · simp only [cj, and_false, if_false]
          exact ⟨p1, p2, p3, p4⟩
      · by_cases cj : j = i
        · simp only [cj, and_self, and_true, if_true, if_false, reduceCtorEq, Nat.reduceEqDiff]
          subst cj
          exact ⟨p1, p2, ⟨trivial, z1, z3⟩, p4⟩
        · simp only [cj, and_false, if_false]
          exact ⟨p1, p2, p3, p4⟩
      · by_cases cj : j = i
        · simp only [cj, and_self, and_true, if_true, if_false, reduceCtorEq, Nat.reduceEqDiff]
          subst cj
          exact ⟨p1, p2, p3, trivial, z1, z3⟩
        · simp only [cj, and_false, if_false]
          exact ⟨p1, p2, p3, p4⟩
  have hmid : ∀ v : Int32, 2 ≤ v → v ≤ 4 → fX6_isOf v a2 MM = zB (fX6_isOne a2 MM) (fun r M => if r = (0 : Int32) then some ((0 : Int32), M) else some ((1 : Int32), M)) := by
    intro v h1 h2
    unfold fX6_isOf
    rw [zB_s (win6 _ _ _ _), if_pos (by
      unfold zWin
      rw [if_neg (Int32.not_lt.mpr (Int32.le_trans (by decide) h1)), if_pos (Int32.lt_of_lt_of_le (by decide) h1)]), zB_s (win6 _ _ _ _), if_neg (by
      unfold zWin
      rw [if_neg (Int32.not_lt.mpr h1), if_neg (Int32.not_lt.mpr h2)]
      decide)]
  by_cases c2 : a1 = 2
  · subst c2
    rcases one_e hn a7 b2 a2 with hone | ⟨h1, h2⟩
    · refine three 12 2 0 9 (Or.inl ⟨rfl, rfl, rfl, rfl⟩) hone ?_ ?_
      · obtain ⟨i, hi1, e, h1, h2⟩ := hone
        have hin : zin a2 5 = true := by rw [e]; exact zin_nI (by omega) (by decide)
        have hi2 : a2.toNatClampNeg = i := by rw [e, nIc (by omega)]
        unfold fX5_set
        rw [zB_s (show fX5_held 2 a2 MX = some (MX.1 12 a2.toNatClampNeg, MX) from by
          unfold fX5_held
          rw [if_neg (by decide), if_neg (by decide), if_pos rfl, zB_s h1, if_neg (by decide), zG_t hin]), if_neg (by rw [hi2, (hp i hi1).2.1.1]; exact ne_m2 (hp i hi1).2.1.2), zB_s (show fX5_heldMost 2 MX = some (9, MX) from rfl), zB_s (win5 _ _ _ _)]
        by_cases c : zWin a3 0 9 = 0
        · rw [if_pos c, if_pos c]
        · rw [if_neg c, if_neg c, if_neg (by decide), if_neg (by decide), if_pos rfl, zG_t hin]; rfl
      · obtain ⟨i, hi1, e, h1, h2⟩ := hone
        have hin : zin a2 5 = true := by rw [e]; exact zin_nI (by omega) (by decide)
        unfold fX6_set
        rw [hmid 2 (by decide) (by decide), zB_s h2, if_neg (by decide), zB_s rfl, if_neg (by decide), if_neg (by decide), if_pos rfl]
        unfold fX6_set_J29
        rw [zB_s (win6 _ _ _ _)]
        by_cases c : zWin a3 0 9 = 0
        · rw [if_pos c, if_pos c]
        · rw [if_neg c, if_neg c, zB_s (show fX6_get 2 a2 MM = some (MM.1 2 a2.toNatClampNeg, MM) from by
            unfold fX6_get
            rw [if_neg (by decide), if_neg (by decide), if_pos rfl, zG_t hin]), if_neg (by decide), if_neg (by decide), if_pos rfl, zG_t hin]; rfl
    · refine bad ?_ ?_
      · unfold fX5_set
        rw [zB_s (show fX5_held 2 a2 MX = some (-2, MX) from by
          unfold fX5_held
          rw [if_neg (by decide), if_neg (by decide), if_pos rfl, zB_s h1, if_pos rfl]), if_pos rfl]
      · unfold fX6_set
        rw [hmid 2 (by decide) (by decide), zB_s h2, if_pos rfl, zB_s rfl, if_pos rfl]
  by_cases c3 : a1 = 3
  · subst c3
    rcases one_e hn a7 b2 a2 with hone | ⟨h1, h2⟩
    · refine three 13 3 0 999 (Or.inr (Or.inl ⟨rfl, rfl, rfl, rfl⟩)) hone ?_ ?_
      · obtain ⟨i, hi1, e, h1, h2⟩ := hone
        have hin : zin a2 5 = true := by rw [e]; exact zin_nI (by omega) (by decide)
        have hi2 : a2.toNatClampNeg = i := by rw [e, nIc (by omega)]
        unfold fX5_set
        rw [zB_s (show fX5_held 3 a2 MX = some (MX.1 13 a2.toNatClampNeg, MX) from by
          unfold fX5_held
          rw [if_neg (by decide), if_neg (by decide), if_neg (by decide), if_pos rfl, zB_s h1, if_neg (by decide), zG_t hin]), if_neg (by rw [hi2, (hp i hi1).2.2.1.1]; exact ne_m2 (hp i hi1).2.2.1.2.1), zB_s (show fX5_heldMost 3 MX = some (999, MX) from rfl), zB_s (win5 _ _ _ _)]
        by_cases c : zWin a3 0 999 = 0
        · rw [if_pos c, if_pos c]
        · rw [if_neg c, if_neg c, if_neg (by decide), if_neg (by decide), if_neg (by decide), if_pos rfl, zG_t hin]; rfl
      · obtain ⟨i, hi1, e, h1, h2⟩ := hone
        have hin : zin a2 5 = true := by rw [e]; exact zin_nI (by omega) (by decide)
        unfold fX6_set
        rw [hmid 3 (by decide) (by decide), zB_s h2, if_neg (by decide), zB_s rfl, if_neg (by decide), if_neg (by decide), if_neg (by decide)]
        unfold fX6_set_J29
        rw [zB_s (win6 _ _ _ _)]
        by_cases c : zWin a3 0 999 = 0
        · rw [if_pos c, if_pos c]
        · rw [if_neg c, if_neg c, zB_s (show fX6_get 3 a2 MM = some (MM.1 3 a2.toNatClampNeg, MM) from by
            unfold fX6_get
            rw [if_neg (by decide), if_neg (by decide), if_neg (by decide), if_pos rfl, zG_t hin]), if_neg (by decide), if_neg (by decide), if_neg (by decide), if_pos rfl, zG_t hin]; rfl
    · refine bad ?_ ?_
      · unfold fX5_set
        rw [zB_s (show fX5_held 3 a2 MX = some (-2, MX) from by
          unfold fX5_held
          rw [if_neg (by decide), if_neg (by decide), if_neg (by decide), if_pos rfl, zB_s h1, if_pos rfl]), if_pos rfl]
      · unfold fX6_set
        rw [hmid 3 (by decide) (by decide), zB_s h2, if_pos rfl, zB_s rfl, if_pos rfl]
  by_cases c4 : a1 = 4
  · subst c4
    rcases one_e hn a7 b2 a2 with hone | ⟨h1, h2⟩
    · refine three 14 4 0 999 (Or.inr (Or.inr ⟨rfl, rfl, rfl, rfl⟩)) hone ?_ ?_
      · obtain ⟨i, hi1, e, h1, h2⟩ := hone
        have hin : zin a2 5 = true := by rw [e]; exact zin_nI (by omega) (by decide)
        have hi2 : a2.toNatClampNeg = i := by rw [e, nIc (by omega)]
        unfold fX5_set
        rw [zB_s (show fX5_held 4 a2 MX = some (MX.1 14 a2.toNatClampNeg, MX) from by
          unfold fX5_held
          rw [if_neg (by decide), if_neg (by decide), if_neg (by decide), if_neg (by decide), if_pos rfl, zB_s h1, if_neg (by decide), zG_t hin]), if_neg (by rw [hi2, (hp i hi1).2.2.2.1]; exact ne_m2 (hp i hi1).2.2.2.2.1), zB_s (show fX5_heldMost 4 MX = some (999, MX) from rfl), zB_s (win5 _ _ _ _)]
        by_cases c : zWin a3 0 999 = 0
        · rw [if_pos c, if_pos c]
        · rw [if_neg c, if_neg c, if_neg (by decide), if_neg (by decide), if_neg (by decide), if_neg (by decide), zG_t hin]; rfl
      · obtain ⟨i, hi1, e, h1, h2⟩ := hone
        have hin : zin a2 5 = true := by rw [e]; exact zin_nI (by omega) (by decide)
        unfold fX6_set
        rw [hmid 4 (by decide) (by decide), zB_s h2, if_neg (by decide), zB_s rfl, if_neg (by decide), if_neg (by decide), if_neg (by decide)]
        unfold fX6_set_J29
        rw [zB_s (win6 _ _ _ _)]
        by_cases c : zWin a3 0 999 = 0
        · rw [if_pos c, if_pos c]
        · rw [if_neg c, if_neg c, zB_s (show fX6_get 4 a2 MM = some (MM.1 4 a2.toNatClampNeg, MM) from by
            unfold fX6_get
            rw [if_neg (by decide), if_neg (by decide), if_neg (by decide), if_neg (by decide), zG_t hin]), if_neg (by decide), if_neg (by decide), if_neg (by decide), if_neg (by decide), zG_t hin]; rfl
    · refine bad ?_ ?_
      · unfold fX5_set
        rw [zB_s (show fX5_held 4 a2 MX = some (-2, MX) from by
          unfold fX5_held
          rw [if_neg (by decide), if_neg (by decide), if_neg (by decide), if_neg (by decide), if_pos rfl, zB_s h1, if_pos rfl]), if_pos rfl]
      · unfold fX6_set
        rw [hmid 4 (by decide) (by decide), zB_s h2, if_pos rfl, zB_s rfl, if_pos rfl]
  -- no such number
  refine bad ?_ ?_
  · unfold fX5_set
    rw [zB_s (show fX5_held a1 a2 MX = some (-2, MX) from by
      unfold fX5_held
      rw [if_neg c0, if_neg c1, if_neg c2, if_neg c3, if_neg c4]), if_pos rfl]
  · unfold fX6_set
    rw [zB_s (show fX6_isOf a1 a2 MM = some (0, MM) from by
      unfold fX6_isOf
      rw [zB_s (win6 _ _ _ _)]
      rcases zWin_c a1 0 1 with ⟨z, zn⟩ | ⟨z, z1, z2⟩
      · rw [if_pos z, zB_s (win6 _ _ _ _)]
        rcases zWin_c a1 2 4 with ⟨y, yn⟩ | ⟨y, y1, y2⟩
        · rw [if_pos y]
        · obtain ⟨i, h1, h2, h3⟩ := i32_in (a := 2) (b := 4) y1 y2 (by omega) (by omega)
          rcases (show i = 2 ∨ i = 3 ∨ i = 4 by omega) with rfl | rfl | rfl
          · exact absurd h3 c2
          · exact absurd h3 c3
          · exact absurd h3 c4
      · obtain ⟨i, h1, h2, h3⟩ := i32_in (a := 0) (b := 1) z1 z2 (by omega) (by omega)
        rcases (show i = 0 ∨ i = 1 by omega) with rfl | rfl
        · exact absurd h3 c0
        · exact absurd h3 c1), if_pos rfl]

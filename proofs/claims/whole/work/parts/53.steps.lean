/-! steps: one comes -/
theorem come_e {MX : zM} {n : Nat} (hn : n < 5) (a7 : MX.1 10 7 = nI n) (a1 a2 a3 : Int32) : fX4_come 10 a1 a2 a3 MX = some (nI n, zu (zu (zu (zu (zu MX 11 n a1) 12 n a2) 13 n a3) 14 n 0) 10 7 (nI (n + 1))) := by
  have hin := zin_nI hn (show 5 < 2 ^ 31 by decide)
  obtain ⟨M1, e1⟩ : ∃ M1, M1 = zu MX 11 n a1 := ⟨_, rfl⟩
  obtain ⟨M2, e2⟩ : ∃ M2, M2 = zu M1 12 n a2 := ⟨_, rfl⟩
  obtain ⟨M3, e3⟩ : ∃ M3, M3 = zu M2 13 n a3 := ⟨_, rfl⟩
  obtain ⟨M4, e4⟩ : ∃ M4, M4 = zu M3 14 n 0 := ⟨_, rfl⟩
  obtain ⟨M5, e5⟩ : ∃ M5, M5 = zu M4 10 7 (nI (n + 1)) := ⟨_, rfl⟩
  have r1 : M1.1 10 7 = nI n := by rw [e1, zu_row _ (by decide)]; exact a7
  have r2 : M2.1 10 7 = nI n := by rw [e2, zu_row _ (by decide)]; exact r1
  have r3 : M3.1 10 7 = nI n := by rw [e3, zu_row _ (by decide)]; exact r2
  have r4 : M4.1 10 7 = nI n := by rw [e4, zu_row _ (by decide)]; exact r3
  have r5 : M5.1 10 7 = nI (n + 1) := by rw [e5, zu_same]
  rw [← e1, ← e2, ← e3, ← e4, ← e5]
  unfold fX4_come
  simp only [Nat.reduceAdd]
  rw [a7, if_pos (by rw [show (5 : Int32) = nI 5 from rfl, nI_ltI (by omega) (by omega)]; omega), zG_t hin, nIc (by omega), zL_r, ← e1, r1, zG_t hin, nIc (by omega), zL_r, ← e2, r2, zG_t hin, nIc (by omega), zL_r, ← e3, r3, zG_t hin, nIc (by omega), zL_r, ← e4, zL_r, r4, nI_1, ← e5, r5, nI_pred]
theorem five_e (M : zM) {A B C D E n f : Nat} (hAB : A ≠ B) (hAC : A ≠ C) (hAD : A ≠ D) (hAE : A ≠ E) (hBC : B ≠ C) (hBD : B ≠ D) (hBE : B ≠ E) (hCD : C ≠ D) (hCE : C ≠ E) (hDE : D ≠ E) (a b c d e : Int32) : ∃ M', M' = zu (zu (zu (zu (zu M A n a) B n b) C n c) D n d) E f e ∧ (∀ k, k ≠ f → M'.1 E k = M.1 E k) ∧ M'.1 E f = e ∧ (∀ j, M'.1 A j = if j = n then a else M.1 A j) ∧ (∀ j, M'.1 B j = if j = n then b else M.1 B j) ∧ (∀ j, M'.1 C j = if j = n then c else M.1 C j) ∧ (∀ j, M'.1 D j = if j = n then d else M.1 D j) ∧ zO [A, B, C, D, E] M M' := by
  have at1 : ∀ (M : zM) (i : Nat) (v : Int32) (j : Nat), (zu M i n v).1 i j = if j = n then v else M.1 i j := fun M i v j => by
    rw [zu_at]
    by_cases h : j = n
    · rw [if_pos ⟨rfl, h⟩, if_pos h]
    · rw [if_neg (fun q => h q.2), if_neg h]
  obtain ⟨M1, e1⟩ : ∃ M1, M1 = zu M A n a := ⟨_, rfl⟩
  obtain ⟨M2, e2⟩ : ∃ M2, M2 = zu M1 B n b := ⟨_, rfl⟩
  obtain ⟨M3, e3⟩ : ∃ M3, M3 = zu M2 C n c := ⟨_, rfl⟩
  obtain ⟨M4, e4⟩ : ∃ M4, M4 = zu M3 D n d := ⟨_, rfl⟩
  obtain ⟨M5, e5⟩ : ∃ M5, M5 = zu M4 E f e := ⟨_, rfl⟩
  refine ⟨M5, by rw [e5, e4, e3, e2, e1], fun k hk => ?_, by rw [e5, zu_same], fun j => ?_, fun j => ?_, fun j => ?_, fun j => ?_, ?_⟩
  · rw [e5, zu_other _ _ hk, e4, zu_row _ hDE.symm, e3, zu_row _ hCE.symm, e2, zu_row _ hBE.symm, e1, zu_row _ hAE.symm]
  · rw [e5, zu_row _ hAE, e4, zu_row _ hAD, e3, zu_row _ hAC, e2, zu_row _ hAB, e1, at1]
  · rw [e5, zu_row _ hBE, e4, zu_row _ hBD, e3, zu_row _ hBC, e2, at1, e1, zu_row _ hAB.symm]
  · rw [e5, zu_row _ hCE, e4, zu_row _ hCD, e3, at1, e2, zu_row _ hBC.symm, e1, zu_row _ hAC.symm]
  · rw [e5, zu_row _ hDE, e4, at1, e3, zu_row _ hCD.symm, e2, zu_row _ hBD.symm, e1, zu_row _ hAD.symm]
  · rw [e5, e4, e3, e2, e1]
    exact zO_trans (zO_trans (zO_trans (zO_trans (zO_zu _ _ _ _ (by simp)) (zO_zu _ _ _ _ (by simp))) (zO_zu _ _ _ _ (by simp))) (zO_zu _ _ _ _ (by simp))) (zO_zu _ _ _ _ (by simp))
theorem st_person {T : zM → Prop} (hTab : tabOk T) (MX MM : zM) (hR : RelT T MX MM) (a1 a2 a3 : Int32) : ∃ (r : Int32) (MX' MM' : zM), fX5_person a1 a2 a3 MX = some (r, MX') ∧ fX6_person a1 a2 a3 MM = some (r, MM') ∧ RelT T MX' MM' := by
  obtain ⟨t0, n, r, hn, hr, a7, b2, e8, e9, a10, b7, ⟨hd0, hd1, hw0⟩, hp⟩ := hR.2.imp (fun t h => h.1)
  have bad : fX5_person a1 a2 a3 MX = some (-2, MX) → fX6_person a1 a2 a3 MM = some (-2, MM) → ∃ (r : Int32) (MX' MM' : zM), fX5_person a1 a2 a3 MX = some (r, MX') ∧ fX6_person a1 a2 a3 MM = some (r, MM') ∧ RelT T MX' MM' := fun h1 h2 => ⟨-2, MX, MM, h1, h2, hR⟩
  rcases zWin_c a1 0 5 with ⟨z1, -⟩ | ⟨z1, k1, k2⟩
  · refine bad ?_ ?_
    · unfold fX5_person
      rw [zB_s (show fX4_canBe a1 a2 a3 MX = some (0, MX) from by unfold fX4_canBe; rw [zB_s (win5 _ _ _ _), if_pos z1]), if_pos rfl]
    · unfold fX6_person
      rw [zB_s (win6 _ _ _ _), if_pos z1]
  rcases zWin_c a2 0 9 with ⟨z2, -⟩ | ⟨z2, k3, k4⟩
  · refine bad ?_ ?_
    · unfold fX5_person
      rw [zB_s (show fX4_canBe a1 a2 a3 MX = some (0, MX) from by unfold fX4_canBe; rw [zB_s (win5 _ _ _ _), if_neg (by rw [z1]; decide), zB_s (win5 _ _ _ _), if_pos z2]), if_pos rfl]
    · unfold fX6_person
      rw [zB_s (win6 _ _ _ _), if_neg (by rw [z1]; decide), zB_s (win6 _ _ _ _), if_pos z2]
  rcases zWin_c a3 0 999 with ⟨z3, -⟩ | ⟨z3, k5, k6⟩
  · refine bad ?_ ?_
    · unfold fX5_person
      rw [zB_s (show fX4_canBe a1 a2 a3 MX = some (0, MX) from by unfold fX4_canBe; rw [zB_s (win5 _ _ _ _), if_neg (by rw [z1]; decide), zB_s (win5 _ _ _ _), if_neg (by rw [z2]; decide), zB_s (win5 _ _ _ _), if_pos z3]), if_pos rfl]
    · unfold fX6_person
      rw [zB_s (win6 _ _ _ _), if_neg (by rw [z1]; decide), zB_s (win6 _ _ _ _), if_neg (by rw [z2]; decide), zB_s (win6 _ _ _ _), if_pos z3]
  have hX : fX5_person a1 a2 a3 MX = zB (fX4_come 10 a1 a2 a3 MX) fun r M => some (r, M) := by
    unfold fX5_person
    rw [zB_s (show fX4_canBe a1 a2 a3 MX = some (1, MX) from by unfold fX4_canBe; rw [zB_s (win5 _ _ _ _), if_neg (by rw [z1]; decide), zB_s (win5 _ _ _ _), if_neg (by rw [z2]; decide), zB_s (win5 _ _ _ _), if_neg (by rw [z3]; decide)]), if_neg (by decide)]
  by_cases c5 : n = 5
  · refine ⟨-4, MX, MM, ?_, ?_, hR⟩
    · rw [hX, zB_s (show fX4_come 10 a1 a2 a3 MX = some (-4, MX) from by unfold fX4_come; rw [a7, c5, if_neg (by decide)])]
    · unfold fX6_person
      rw [zB_s (win6 _ _ _ _), if_neg (by rw [z1]; decide), zB_s (win6 _ _ _ _), if_neg (by rw [z2]; decide), zB_s (win6 _ _ _ _), if_neg (by rw [z3]; decide), b2, c5, if_pos (show nI 5 = 5 from rfl)]
  · have hn5 : n < 5 := by omega
    have hM : fX6_person a1 a2 a3 MM = some (nI n, zu (zu (zu (zu (zu MM 1 n a1) 2 n a2) 3 n a3) 4 n 0) 0 2 (nI (n + 1))) := by
      have hin := zin_nI hn5 (show 5 < 2 ^ 31 by decide)
      obtain ⟨M1, e1⟩ : ∃ M1, M1 = zu MM 1 n a1 := ⟨_, rfl⟩
      obtain ⟨M2, e2⟩ : ∃ M2, M2 = zu M1 2 n a2 := ⟨_, rfl⟩
      obtain ⟨M3, e3⟩ : ∃ M3, M3 = zu M2 3 n a3 := ⟨_, rfl⟩
      obtain ⟨M4, e4⟩ : ∃ M4, M4 = zu M3 4 n 0 := ⟨_, rfl⟩
      have r1 : M1.1 0 2 = nI n := by rw [e1, zu_row _ (by decide)]; exact b2
      have r2 : M2.1 0 2 = nI n := by rw [e2, zu_row _ (by decide)]; exact r1
      have r3 : M3.1 0 2 = nI n := by rw [e3, zu_row _ (by decide)]; exact r2
      have r4 : M4.1 0 2 = nI n := by rw [e4, zu_row _ (by decide)]; exact r3
      rw [← e1, ← e2, ← e3, ← e4]
      unfold fX6_person
      rw [zB_s (win6 _ _ _ _), if_neg (by rw [z1]; decide), zB_s (win6 _ _ _ _), if_neg (by rw [z2]; decide), zB_s (win6 _ _ _ _), if_neg (by rw [z3]; decide), b2, if_neg (show ¬ nI n = 5 from fun q => c5 ((nI_eq (by omega) (by omega)).mp q)), zG_t hin, nIc (by omega), zL_r, ← e1, r1, zG_t hin, nIc (by omega), zL_r, ← e2, r2, zG_t hin, nIc (by omega), zL_r, ← e3, r3, zG_t hin, nIc (by omega), zL_r, ← e4, zL_r, r4, nI_1]
    obtain ⟨X', eX', x0, x1, x2, x3, x4, x5, xO⟩ := five_e MX (n := n) (f := 7) (show (11 : Nat) ≠ 12 by decide) (show (11 : Nat) ≠ 13 by decide) (show (11 : Nat) ≠ 14 by decide) (show (11 : Nat) ≠ 10 by decide) (show (12 : Nat) ≠ 13 by decide) (show (12 : Nat) ≠ 14 by decide) (show (12 : Nat) ≠ 10 by decide) (show (13 : Nat) ≠ 14 by decide) (show (13 : Nat) ≠ 10 by decide) (show (14 : Nat) ≠ 10 by decide) a1 a2 a3 0 (nI (n + 1))
    obtain ⟨M', eM', m0, m1, m2, m3, m4, m5, mO⟩ := five_e MM (n := n) (f := 2) (show (1 : Nat) ≠ 2 by decide) (show (1 : Nat) ≠ 3 by decide) (show (1 : Nat) ≠ 4 by decide) (show (1 : Nat) ≠ 0 by decide) (show (2 : Nat) ≠ 3 by decide) (show (2 : Nat) ≠ 4 by decide) (show (2 : Nat) ≠ 0 by decide) (show (3 : Nat) ≠ 4 by decide) (show (3 : Nat) ≠ 0 by decide) (show (4 : Nat) ≠ 0 by decide) a1 a2 a3 0 (nI (n + 1))
    refine ⟨nI n, X', M', by rw [hX, zB_s (come_e hn5 a7 a1 a2 a3), eX'], by rw [hM, eM'], RelT_now hTab hR ?_ (fun i hi => ?_) (fun k hk1 hk2 => ?_) (fun n' h1 h2 => ?_) (fun t hP _ => ?_)⟩
    · exact zO_mono xO (fun i hi => by simp only [List.mem_cons, List.not_mem_nil, or_false] at hi; simp only [List.mem_cons]; omega)
    · exact mO.2 i (fun q => hi (by simp only [List.mem_cons, List.not_mem_nil, or_false] at q; simp only [SR, List.mem_cons, List.not_mem_nil, or_false]; omega))
    · exact m0 k (by omega)
    · have : n' = n := (nI_eq (by omega) (by omega)).mp (h1.symm.trans b2)
      subst this
      refine ⟨n' + 1, by omega, by omega, m1, fun i hi => ?_⟩
      rw [m2 i, if_neg (by omega)]
    · obtain ⟨n', r, hn', hr, a7', b2', e8, e9, a10, b7, hd, hp⟩ := hP
      have : n' = n := (nI_eq (by omega) (by omega)).mp (b2'.symm.trans b2)
      subst this
      refine ⟨n' + 1, r, by omega, hr, x1, m1, ?_, ?_, ?_, ?_, ?_, fun i hi => ?_⟩
      · rw [x0 8 (by decide), m0 0 (by decide)]; exact e8
      · rw [x0 9 (by decide), m0 1 (by decide)]; exact e9
      · rw [x0 10 (by decide)]; exact a10
      · rw [m0 7 (by decide)]; exact b7
      · rw [m0 0 (by decide), m0 1 (by decide)]; exact hd
      · rw [x2, x3, x4, x5, m2, m3, m4, m5]
        by_cases ci : i = n'
        · simp only [if_pos ci]
          exact ⟨⟨trivial, k1, k2⟩, ⟨trivial, k3⟩, ⟨trivial, k5, k6⟩, trivial, by decide, by decide⟩
        · simp only [if_neg ci]
          exact hp i (by omega)
/-! steps: told -/
theorem eM_SN {M M' : zM} (h : zO SN M M') : eM M M' := eM_SM (SNM h)
theorem SB_X0 {M M' : zM} (h : zO SB M M') : zO SX0 M M' := zO_mono h (fun i hi => by
  simp only [SB, List.mem_cons, List.not_mem_nil, or_false] at hi
  simp only [SX0, List.mem_cons, List.not_mem_nil, or_false]
  omega)
theorem RelT_both {T : zM → Prop} (hTab : tabOk T) {MX MX' MM MM' : zM} (hR : RelT T MX MM) (hX : zO SX0 MX MX') (hM : eM MM MM') : RelT T MX' MM' := RelT_M (RelT_X0 hTab hR hX) hM
theorem held_e {MX MM : zM} {n : Nat} (hn : n ≤ 5) (a7 : MX.1 10 7 = nI n) (b2 : MM.1 0 2 = nI n) (e8 : MX.1 10 8 = MM.1 0 0) (e9 : MX.1 10 9 = MM.1 0 1) (hp : ∀ i, i < n → MX.1 12 i = MM.1 2 i ∧ MX.1 13 i = MM.1 3 i ∧ MX.1 14 i = MM.1 4 i) (a1 a2 : Int32) (ha : a1 ≤ 4) : ∃ v, fX5_held a1 a2 MX = some (v, MX) ∧ (zB (fX6_isOf a1 a2 MM) fun r M => if r = (0 : Int32) then some ((-2 : Int32), M) else zB (fX6_get a1 a2 M) fun r M => some (r, M)) = some (v, MM) ∧ (a1 < 0 → v = -2) := by
  have hmid : ∀ v : Int32, 2 ≤ v → v ≤ 4 → fX6_isOf v a2 MM = zB (fX6_isOne a2 MM) (fun r M => if r = (0 : Int32) then some ((0 : Int32), M) else some ((1 : Int32), M)) := by
    intro v h1 h2
    unfold fX6_isOf
    rw [zB_s (win6 _ _ _ _), if_pos (by
      unfold zWin
      rw [if_neg (Int32.not_lt.mpr (Int32.le_trans (by decide) h1)), if_pos (Int32.lt_of_lt_of_le (by decide) h1)]), zB_s (win6 _ _ _ _), if_neg (by
      unfold zWin
      rw [if_neg (Int32.not_lt.mpr h1), if_neg (Int32.not_lt.mpr h2)]
      decide)]
  by_cases c0 : a1 = 0
  · subst c0
    refine ⟨MM.1 0 0, by rw [← e8]; rfl, ?_, fun h => absurd h (by decide)⟩
    rw [zB_s (show fX6_isOf 0 a2 MM = some (1, MM) from rfl), if_neg (by decide), zB_s (show fX6_get 0 a2 MM = some (MM.1 0 0, MM) from rfl)]
  by_cases c1 : a1 = 1
  · subst c1
    refine ⟨MM.1 0 1, by rw [← e9]; rfl, ?_, fun h => absurd h (by decide)⟩
    rw [zB_s (show fX6_isOf 1 a2 MM = some (1, MM) from rfl), if_neg (by decide), zB_s (show fX6_get 1 a2 MM = some (MM.1 0 1, MM) from rfl)]
  by_cases c2 : a1 = 2
  · subst c2
    rcases one_e hn a7 b2 a2 with ⟨i, hi, rfl, h1, h2⟩ | ⟨h1, h2⟩
    · have hin := zin_nI (show i < 5 by omega) (show 5 < 2 ^ 31 by decide)
      refine ⟨MM.1 2 i, ?_, ?_, fun h => absurd h (by decide)⟩
      · unfold fX5_held
        rw [if_neg (by decide), if_neg (by decide), if_pos rfl, zB_s h1, if_neg (by decide), zG_t hin, nIc (by omega), (hp i hi).1]
      · rw [hmid 2 (by decide) (by decide), zB_s h2, if_neg (by decide), zB_s rfl, if_neg (by decide)]
        unfold fX6_get
        rw [if_neg (by decide), if_neg (by decide), if_pos rfl, zG_t hin, nIc (by omega), zB_s rfl]
    · refine ⟨-2, ?_, ?_, fun h => absurd h (by decide)⟩
      · unfold fX5_held
        rw [if_neg (by decide), if_neg (by decide), if_pos rfl, zB_s h1, if_pos rfl]
      · rw [hmid 2 (by decide) (by decide), zB_s h2, if_pos rfl, zB_s rfl, if_pos rfl]
  by_cases c3 : a1 = 3
  · subst c3
    rcases one_e hn a7 b2 a2 with ⟨i, hi, rfl, h1, h2⟩ | ⟨h1, h2⟩
    · have hin := zin_nI (show i < 5 by omega) (show 5 < 2 ^ 31 by decide)
      refine ⟨MM.1 3 i, ?_, ?_, fun h => absurd h (by decide)⟩
      · unfold fX5_held
        rw [if_neg (by decide), if_neg (by decide), if_neg (by decide), if_pos rfl, zB_s h1, if_neg (by decide), zG_t hin, nIc (by omega), (hp i hi).2.1]
      · rw [hmid 3 (by decide) (by decide), zB_s h2, if_neg (by decide), zB_s rfl, if_neg (by decide)]
        unfold fX6_get
        rw [if_neg (by decide), if_neg (by decide), if_neg (by decide), if_pos rfl, zG_t hin, nIc (by omega), zB_s rfl]
    · refine ⟨-2, ?_, ?_, fun h => absurd h (by decide)⟩
      · unfold fX5_held
        rw [if_neg (by decide), if_neg (by decide), if_neg (by decide), if_pos rfl, zB_s h1, if_pos rfl]
      · rw [hmid 3 (by decide) (by decide), zB_s h2, if_pos rfl, zB_s rfl, if_pos rfl]
  by_cases c4 : a1 = 4
  · subst c4
    rcases one_e hn a7 b2 a2 with ⟨i, hi, rfl, h1, h2⟩ | ⟨h1, h2⟩
    · have hin := zin_nI (show i < 5 by omega) (show 5 < 2 ^ 31 by decide)
      refine ⟨MM.1 4 i, ?_, ?_, fun h => absurd h (by decide)⟩
      · unfold fX5_held
        rw [if_neg (by decide), if_neg (by decide), if_neg (by decide), if_neg (by decide), if_pos rfl, zB_s h1, if_neg (by decide), zG_t hin, nIc (by omega), (hp i hi).2.2]
      · rw [hmid 4 (by decide) (by decide), zB_s h2, if_neg (by decide), zB_s rfl, if_neg (by decide)]
        unfold fX6_get
        rw [if_neg (by decide), if_neg (by decide), if_neg (by decide), if_neg (by decide), zG_t hin, nIc (by omega), zB_s rfl]
    · refine ⟨-2, ?_, ?_, fun h => absurd h (by decide)⟩
      · unfold fX5_held
        rw [if_neg (by decide), if_neg (by decide), if_neg (by decide), if_neg (by decide), if_pos rfl, zB_s h1, if_pos rfl]
      · rw [hmid 4 (by decide) (by decide), zB_s h2, if_pos rfl, zB_s rfl, if_pos rfl]
  refine ⟨-2, ?_, ?_, fun _ => rfl⟩
  · unfold fX5_held
    rw [if_neg c0, if_neg c1, if_neg c2, if_neg c3, if_neg c4]
  · rw [zB_s (show fX6_isOf a1 a2 MM = some (0, MM) from by
      unfold fX6_isOf
      rw [zB_s (win6 _ _ _ _)]
      rcases zWin_c a1 0 1 with ⟨z, zn⟩ | ⟨z, z1, z2⟩
      · rw [if_pos z, zB_s (win6 _ _ _ _)]
        rcases zWin_c a1 2 4 with ⟨y, yn⟩ | ⟨y, y1, y2⟩
        · rw [if_pos y]
        · obtain ⟨i, h1, h2, h3⟩ := i32_in (a := 2) (b := 4) y1 y2 (by omega) (by omega)
          rcases (show i = 2 ∨ i = 3 ∨ i = 4 by omega) with rfl | rfl | rfl
          · exact absurd h3 c2
          · exact absurd h3 c3
          · exact absurd h3 c4
      · obtain ⟨i, h1, h2, h3⟩ := i32_in (a := 0) (b := 1) z1 z2 (by omega) (by omega)
        rcases (show i = 0 ∨ i = 1 by omega) with rfl | rfl
        · exact absurd h3 c0
        · exact absurd h3 c1), if_pos rfl]
theorem st_told {T : zM → Prop} (hTab : tabOk T) (MX MM : zM) (hR : RelT T MX MM) (a1 a2 : Int32) : ∃ (r : Int32) (MX' MM' : zM), fX5_told a1 a2 MX = some (r, MX') ∧ fX6_told a1 a2 MM = some (r, MM') ∧ RelT T MX' MM' := by
  obtain ⟨hT, t, hP, hTx, hA, hSh, hI⟩ := id hR
  obtain ⟨n, r, hn, hr, a7, b2, a10, b7, oX, oM, oV, hv, n2, n1⟩ := rP_view hP hTx
  obtain ⟨n', r', hn', hr', a7', b2', e8, e9, a10', b7', ⟨hd0, hd1, hw0⟩, hp⟩ := hP
  have hnn : n' = n := (nI_eq (by omega) (by omega)).mp (b2'.symm.trans b2)
  subst hnn
  have one2 : ∀ (f : zM → Option (Int32 × zM)) (g : zM → Option (Int32 × zM)) (v : Int32), (∃ M', f MX = some (v, M') ∧ zO SB MX M') → (∃ M', g MM = some (v, M') ∧ zO SN MM M') → ∀ k : Int32 → Int32, ∃ (r : Int32) (MX' MM' : zM), (zB (f MX) fun r M => some (k r, M)) = some (r, MX') ∧ (zB (g MM) fun r M => some (k r, M)) = some (r, MM') ∧ RelT T MX' MM' := by
    intro f g v ⟨X', x1, x2⟩ ⟨M', m1, m2⟩ k
    exact ⟨k v, X', M', by rw [zB_s x1], by rw [zB_s m1], RelT_both hTab hR (SB_X0 x2) (eM_SN m2)⟩
  by_cases c4 : (4 : Int32) < a2
  · have hX : fX5_told a1 a2 MX = zB (fX4_has 10 a1 MX) fun r_4 M_2 =>
        if r_4 = (0 : Int32) then some ((-2 : Int32), M_2)
        else if a2 = (5 : Int32) then zG (zin a1 5) <| some ((M_2.1 11 a1.toNatClampNeg), M_2)
        else if a2 = (6 : Int32) then zB (fX4_runsOf 10 a1 M_2) fun r_11 M_9 => some (r_11, M_9)
        else if a2 = (7 : Int32) then zB (fX4_clogsOf 10 a1 M_2) fun r_15 M_13 => if r_15 = (0 : Int32) then some ((0 : Int32), M_13) else some ((1 : Int32), M_13)
        else if a2 = (8 : Int32) then zB (fX4_ruesOf 10 a1 M_2) fun r_20 M_18 => some (r_20, M_18)
        else if a2 = (9 : Int32) then zB (fX4_minutesOf 10 a1 M_2) fun r_24 M_22 => some (r_24, M_22)
        else some ((-2 : Int32), M_2) := by
      unfold fX5_told
      rw [if_pos c4]
    have hM : fX6_told a1 a2 MM = zB (fX6_isOne a1 MM) fun r_7 M_5 =>
        if r_7 = (0 : Int32) then some ((-2 : Int32), M_5)
        else if a2 = (5 : Int32) then zG (zin a1 5) <| some ((M_5.1 1 a1.toNatClampNeg), M_5)
        else if a2 = (6 : Int32) then zB (fX6_runsOf a1 M_5) fun r_14 M_12 => some (r_14, M_12)
        else if a2 = (7 : Int32) then zB (fX6_isClogged a1 M_5) fun r_18 M_16 => if r_18 = (0 : Int32) then some ((0 : Int32), M_16) else some ((1 : Int32), M_16)
        else if a2 = (8 : Int32) then zB (fX6_ruesOf a1 M_5) fun r_23 M_21 => some (r_23, M_21)
        else if a2 = (9 : Int32) then zB (fX6_minutes a1 M_5) fun r_27 M_25 => some (r_27, M_25)
        else some ((-2 : Int32), M_5) := by
      unfold fX6_told
      rw [zB_s (win6 _ _ _ _), if_pos (by
        unfold zWin
        rw [if_neg (Int32.not_lt.mpr (Int32.le_of_lt (Int32.lt_trans (by decide) c4))), if_pos c4])]
    rw [hX, hM]
    rcases one_e hn a7 b2 a1 with ⟨i, hi, rfl, h1, h2⟩ | ⟨h1, h2⟩
    · have hin := zin_nI (show i < 5 by omega) (show 5 < 2 ^ 31 by decide)
      rw [zB_s h1, zB_s h2, if_neg (show ¬ (1 : Int32) = 0 by decide), if_neg (show ¬ (1 : Int32) = 0 by decide)]
      have hi2 : i < vN (vM MM) := by rw [n2]; exact hi
      have hi1 : i < vN (vX 10 MX) := by rw [n1]; exact hi
      by_cases d5 : a2 = 5
      · rw [if_pos d5, if_pos d5, zG_t hin, zG_t hin, nIc (by omega), (hp i hi).1.1]
        exact ⟨_, MX, MM, rfl, rfl, hR⟩
      rw [if_neg d5, if_neg d5]
      by_cases d6 : a2 = 6
      · rw [if_pos d6, if_pos d6]
        exact one2 (fX4_runsOf 10 (nI i)) (fX6_runsOf (nI i)) (sRuns (vM MM) i) (by rw [← hv]; exact fX4_runsOf_e (Or.inl rfl) oX hi1) (fX6_runsOf_e oM hi2) id
      rw [if_neg d6, if_neg d6]
      by_cases d7 : a2 = 7
      · rw [if_pos d7, if_pos d7]
        obtain ⟨X', x1, x2⟩ := fX4_clogsOf_e (Or.inl rfl) oX hi1
        obtain ⟨M', m1, m2⟩ := fX6_isClogged_e oM hi2
        rw [hv] at x1
        rw [zB_s x1, zB_s m1]
        by_cases c : sClg (vM MM) i = 0
        · rw [if_pos c, if_pos c]; exact ⟨_, X', M', rfl, rfl, RelT_both hTab hR (SB_X0 x2) (eM_SN m2)⟩
        · rw [if_neg c, if_neg c]; exact ⟨_, X', M', rfl, rfl, RelT_both hTab hR (SB_X0 x2) (eM_SN m2)⟩
      rw [if_neg d7, if_neg d7]
      by_cases d8 : a2 = 8
      · rw [if_pos d8, if_pos d8]
        exact one2 (fX4_ruesOf 10 (nI i)) (fX6_ruesOf (nI i)) (sRues (vM MM) i) (by rw [← hv]; exact fX4_ruesOf_e (Or.inl rfl) oX hi1) (fX6_ruesOf_e oM hi2) id
      rw [if_neg d8, if_neg d8]
      by_cases d9 : a2 = 9
      · rw [if_pos d9, if_pos d9]
        exact one2 (fX4_minutesOf 10 (nI i)) (fX6_minutes (nI i)) (sMin (vM MM) i) (by rw [← hv]; exact fX4_minutesOf_e (Or.inl rfl) oX hi1) (fX6_minutes_e oM hi2) id
      rw [if_neg d9, if_neg d9]
      exact ⟨-2, MX, MM, rfl, rfl, hR⟩
    · rw [zB_s h1, zB_s h2, if_pos rfl, if_pos rfl]
      exact ⟨-2, MX, MM, rfl, rfl, hR⟩
  · have ha : a2 ≤ 4 := Int32.not_lt.mp c4
    obtain ⟨v, x1, m1, mneg⟩ := held_e hn a7 b2 e8 e9 (fun i hi => ⟨(hp i hi).2.1.1, (hp i hi).2.2.1.1, (hp i hi).2.2.2.1⟩) a2 a1 ha
    refine ⟨v, MX, MM, ?_, ?_, hR⟩
    · unfold fX5_told
      rw [if_neg c4, zB_s x1]
    · by_cases c0 : a2 < 0
      · rw [mneg c0]
        unfold fX6_told
        rw [zB_s (win6 _ _ _ _), if_pos (by unfold zWin; rw [if_pos c0])]
        have hne : ∀ k : Int32, 0 ≤ k → ¬ a2 = k := fun k h q => absurd c0 (by rw [q]; exact Int32.not_lt.mpr h)
        rcases one_e hn a7 b2 a1 with ⟨i, hi, rfl, h1, h2⟩ | ⟨h1, h2⟩
        · rw [zB_s h2, if_neg (by decide), if_neg (hne 5 (by decide)), if_neg (hne 6 (by decide)), if_neg (hne 7 (by decide)), if_neg (hne 8 (by decide)), if_neg (hne 9 (by decide))]
        · rw [zB_s h2, if_pos rfl]
      · rw [← m1]
        unfold fX6_told
        rw [zB_s (win6 _ _ _ _), if_neg (by
          unfold zWin
          rw [if_neg c0, if_neg c4]
          decide)]

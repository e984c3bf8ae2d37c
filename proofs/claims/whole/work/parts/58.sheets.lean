/-! the host: sheets -/
theorem RelT_she {T : zM → Prop} (hTab : tabOk T) {MX X' MM M' : zM} (hR : RelT T MX MM) (hX : ∀ i, i < 56 → X'.1 i = MX.1 i) (h2 : X'.2 = MX.2) (hM : ∀ i, i ≠ 20 → i ≠ 21 → i ≠ 22 → M'.1 i = MM.1 i) (hS : rS X' M') : RelT T X' M' := by
  obtain ⟨hT, t, hP, hTx, hA, hSh, hI⟩ := hR
  obtain ⟨-, t6, -⟩ := id hTx
  have m0 := hM 0 (by decide) (by decide) (by decide)
  have m1 := hM 1 (by decide) (by decide) (by decide)
  refine ⟨hTab MX X' (hX 6 (by decide)) (hX 9 (by decide)) h2 hT, t, ?_, ?_, ?_, hS, ?_⟩
  · exact rP_M (by rw [m0]) (by rw [m0]) (by rw [m0]) (by rw [m0]) m1 (hM 2 (by decide) (by decide) (by decide)) (fun j _ => by rw [hM 3 (by decide) (by decide) (by decide)]) (fun j _ => by rw [hM 4 (by decide) (by decide) (by decide)]) (rP_X (fun i h1 h2 => hX i (by omega)) hP)
  · obtain ⟨a, b, c, d, e, f⟩ := hTx
    have hc : ∀ r p, r < 6 → cX X' r p = cX MX r p := fun r p hr => by unfold cX; rw [hX (32 + 4 * r + 1) (by omega), hX (32 + 4 * r + 2) (by omega)]
    have h6 := hM 6 (by decide) (by decide) (by decide)
    have h7 := hM 7 (by decide) (by decide) (by decide)
    have h8 := hM 8 (by decide) (by decide) (by decide)
    refine ⟨a, b, by rw [hX 0 (by decide)]; exact c, by rw [m0]; exact d, fun r hr => ?_, by rw [m0, h6, h7]; exact f⟩
    obtain ⟨g1, g2, g3⟩ := e r hr
    refine ⟨?_, okTM_rows h6 h7 h8 g2, fun p hp => by rw [hc r p (by omega), cM_rows h6 h7 h8]; exact g3 p hp⟩
    unfold okT
    rw [hX (32 + 4 * r + 2) (by omega)]
    exact ⟨g1.1, fun p hp => by rw [hc r p (by omega)]; exact g1.2 p hp⟩
  · exact rA_M (by rw [m0]) (hM 5 (by decide) (by decide) (by decide)) (rA_X (by rw [hX 2 (by decide)]) (hX 3 (by decide)) hA)
  · exact rI_M (fun k a b => by rw [m0]) (fun n e5 hn => ⟨n, Nat.le_refl _, hn, by rw [m0]; exact e5, fun i _ => by rw [m1]⟩) (hM 17 (by decide) (by decide) (by decide)) (hM 18 (by decide) (by decide) (by decide)) (hM 19 (by decide) (by decide) (by decide)) (rI_X (by rw [hX 0 (by decide)]) (fun i a b => hX i (by omega)) hI)
theorem fill_loop (a n : Nat) (hn : n < 2 ^ 31) (v : Int32) (M0 : zM) : ∀ (d i N : Nat) (M : zM), zO [a] M0 M → (∀ j, M.1 a j = if j < i then v else M0.1 a j) → i + d = n → d < N → ∃ M', fJ7_fill_53178_L5 a n N v (nI i) (nI n) M = some M' ∧ zO [a] M0 M' ∧ ∀ j, M'.1 a j = if j < n then v else M0.1 a j := by
  intro d
  induction d with
  | zero =>
    intro i N M hO hj hi hN
    obtain ⟨N, rfl⟩ : ∃ q, N = q + 1 := ⟨N - 1, by omega⟩
    have : i = n := by omega
    subst this
    refine ⟨M, ?_, hO, hj⟩
    show fJ7_fill_53178_B5 a i _ _ _ _ M = _
    unfold fJ7_fill_53178_B5
    rw [if_pos (Int32.le_refl _)]
  | succ d ih =>
    intro i N M hO hj hi hN
    obtain ⟨N, rfl⟩ : ∃ q, N = q + 1 := ⟨N - 1, by omega⟩
    obtain ⟨M', q1, q2⟩ := ih (i + 1) N (zu M a i v) (zO_trans hO (zO_zu _ _ _ _ (by simp))) (fun j => by
      rw [zu_at1, hj]
      by_cases c : j = i
      · rw [if_pos c, if_pos (by omega)]
      · rw [if_neg c]
        by_cases c2 : j < i
        · rw [if_pos c2, if_pos (by omega)]
        · rw [if_neg c2, if_neg (by omega)]) (by omega) (by omega)
    refine ⟨M', ?_, q2⟩
    rw [← q1]
    show fJ7_fill_53178_B5 a n _ _ _ _ M = _
    unfold fJ7_fill_53178_B5
    rw [if_neg (by rw [nI_leI hn (by omega)]; omega), zG_t (zin_nI (by omega) hn), nIc (by omega), zL_r, zL_r, nI_1]
theorem fX0_become_e (q : Nat) (v z : Int32) (M : zM) : ∃ M', fX0_become q v z M = some M' ∧ M'.1 q 1 = v ∧ M'.1 q 2 = z ∧ (∀ j, j < 40 → M'.1 (q + 1) j = 0) ∧ zO [q, q + 1] M M' := by
  obtain ⟨M1, e1⟩ : ∃ M1, M1 = zu M q 1 v := ⟨_, rfl⟩
  obtain ⟨M2, e2⟩ : ∃ M2, M2 = zu M1 q 2 z := ⟨_, rfl⟩
  obtain ⟨M', q1, q2, q3⟩ := fill_loop (q + 1) 40 (by decide) 0 M2 40 0 zF M2 (zO_refl _ _) (fun j => by rw [if_neg (by omega)]) (by omega) (by unfold zF; omega)
  have q0 : M'.1 q = M2.1 q := q2.2 q (by simp)
  refine ⟨M', ?_, by rw [q0, e2, zu_other _ _ (by decide), e1, zu_same], by rw [q0, e2, zu_same], fun j hj => by rw [q3 j, if_pos hj], ?_⟩
  · unfold fX0_become
    rw [zL_r, ← e1, zL_r, ← e2]
    have hf : fJ7_fill_53178 (q + 1) 40 0 M2 = some M' := by
      unfold fJ7_fill_53178
      rw [zL_r]
      exact q1
    rw [zV_s hf]
  · have h2 : zO [q, q + 1] M M2 := by rw [e2, e1]; exact zO_trans (zO_zu _ _ _ _ (by simp)) (zO_zu _ _ _ _ (by simp))
    exact zO_trans h2 (zO_mono q2 (fun i hi => by simp at hi; simp [hi]))
theorem cl_ix {s i : Nat} : ((40 : Int32) * nI s) + nI i = nI (40 * s + i) := by
  rw [show (40 : Int32) = nI 40 from rfl, pk_mul, nI_add]
theorem msheet_loop {s : Nat} (hs : s < 4) (M0 : zM) : ∀ (d i N : Nat) (M : zM), zO [22] M0 M → (∀ j, M.1 22 j = if 40 * s ≤ j ∧ j < 40 * s + i then 0 else M0.1 22 j) → i + d = 40 → d < N → ∃ M', fX6_sheet_L68 N (nI s) (nI i) M = some (1, M') ∧ zO [22] M0 M' ∧ ∀ j, M'.1 22 j = if 40 * s ≤ j ∧ j < 40 * s + 40 then 0 else M0.1 22 j := by
  intro d
  induction d with
  | zero =>
    intro i N M hO hj hi hN
    obtain ⟨N, rfl⟩ : ∃ q, N = q + 1 := ⟨N - 1, by omega⟩
    have : i = 40 := by omega
    subst this
    refine ⟨M, ?_, hO, hj⟩
    show fX6_sheet_B68 _ _ _ M = _
    unfold fX6_sheet_B68
    rw [if_pos (by decide)]
  | succ d ih =>
    intro i N M hO hj hi hN
    obtain ⟨N, rfl⟩ : ∃ q, N = q + 1 := ⟨N - 1, by omega⟩
    obtain ⟨M', q1, q2⟩ := ih (i + 1) N (zu M 22 (40 * s + i) 0) (zO_trans hO (zO_zu _ _ _ _ (by simp))) (fun j => by
      rw [zu_at1, hj]
      by_cases c : j = 40 * s + i
      · rw [if_pos c, if_pos (by omega)]
      · rw [if_neg c]
        by_cases c2 : 40 * s ≤ j ∧ j < 40 * s + i
        · rw [if_pos c2, if_pos (by omega)]
        · rw [if_neg c2, if_neg (by omega)]) (by omega) (by omega)
    refine ⟨M', ?_, q2⟩
    rw [← q1]
    show fX6_sheet_B68 _ _ _ M = _
    unfold fX6_sheet_B68
    rw [if_neg (by rw [show (40 : Int32) = nI 40 from rfl, nI_leI (by omega) (by omega)]; omega), cl_ix, zG_t (zin_nI (by omega) (by decide)), nIc (by omega), zL_r, zL_r, nI_1]
theorem isSheet_e (x : Int32) (M : zM) : fX6_isSheet x M = some (zWin x 0 3, M) := by
  unfold fX6_isSheet
  rw [zB_s (win6 _ _ _ _)]
  rcases zWin_c x 0 3 with ⟨z, -⟩ | ⟨z, -⟩ <;> rw [z] <;> rfl
theorem msheet_e {s : Nat} (hs : s < 4) (v z : Int32) (hv : -1 ≤ v) (M : zM) : ∃ M', fX6_sheet_J43 (nI s) v z M = some (1, M') ∧ M'.1 20 s = v ∧ M'.1 21 s = (if v = -1 then 0 else z) ∧ (∀ k, k ≠ s → M'.1 20 k = M.1 20 k ∧ M'.1 21 k = M.1 21 k) ∧ (∀ j, M'.1 22 j = if 40 * s ≤ j ∧ j < 40 * s + 40 then 0 else M.1 22 j) ∧ (∀ i, i ≠ 20 → i ≠ 21 → i ≠ 22 → M'.1 i = M.1 i) := by
  have hin := zin_nI hs (show 4 < 2 ^ 31 by decide)
  have go : ∀ y : Int32, ∃ M', fX6_sheet_L68 zF (nI s) (nI 0) (zu (zu M 20 s v) 21 s y) = some (1, M') ∧ M'.1 20 s = v ∧ M'.1 21 s = y ∧ (∀ k, k ≠ s → M'.1 20 k = M.1 20 k ∧ M'.1 21 k = M.1 21 k) ∧ (∀ j, M'.1 22 j = if 40 * s ≤ j ∧ j < 40 * s + 40 then 0 else M.1 22 j) ∧ (∀ i, i ≠ 20 → i ≠ 21 → i ≠ 22 → M'.1 i = M.1 i) := fun y => by
    obtain ⟨M1, e1⟩ : ∃ M1, M1 = zu M 20 s v := ⟨_, rfl⟩
    obtain ⟨M2, e2⟩ : ∃ M2, M2 = zu M1 21 s y := ⟨_, rfl⟩
    rw [← e1, ← e2]
    obtain ⟨M', q1, q2, q3⟩ := msheet_loop hs M2 40 0 zF M2 (zO_refl _ _) (fun j => by rw [if_neg (by omega)]) (by omega) (by unfold zF; omega)
    have r20 : M'.1 20 = M2.1 20 := q2.2 20 (by decide)
    have r21 : M'.1 21 = M2.1 21 := q2.2 21 (by decide)
    have s20 : M2.1 20 = M1.1 20 := by rw [e2, zu_row _ (by decide)]
    have s21 : M1.1 21 = M.1 21 := by rw [e1, zu_row _ (by decide)]
    refine ⟨M', q1, by rw [r20, s20, e1, zu_same], by rw [r21, e2, zu_same], fun k hk => ⟨by rw [r20, s20, e1, zu_other _ _ hk], by rw [r21, e2, zu_other _ _ hk, s21]⟩, fun j => ?_, fun i h0 h1 h2 => ?_⟩
    · rw [q3 j, e2, zu_row _ (by decide), e1, zu_row _ (by decide)]
    · rw [q2.2 i (by simpa using h2), e2, zu_row _ h1, e1, zu_row _ h0]
  unfold fX6_sheet_J43
  rw [zG_t hin, nIc (by omega), zL_r]
  by_cases c : v = -1
  · rw [if_neg (by rw [c]; decide), zG_t hin, zL_r, if_pos c]
    exact go 0
  · have h0 : 0 ≤ v := by
      rw [Int32.le_iff_toInt_le] at hv ⊢
      have a1 : (-1 : Int32).toInt = -1 := by decide
      have a0 : (0 : Int32).toInt = 0 := by decide
      rw [a1] at hv
      rw [a0]
      by_cases h : v.toInt < 0
      · exact absurd (Int32.toInt_inj.mp (by rw [a1]; omega)) c
      · omega
    rw [if_pos h0, zG_t hin, zL_r, if_neg c]
    exact go z
theorem m1_neg {v : Int32} (hv : -1 ≤ v) : v < 0 ↔ v = -1 := by
  have a1 : (-1 : Int32).toInt = -1 := by decide
  have a0 : (0 : Int32).toInt = 0 := by decide
  rw [Int32.le_iff_toInt_le, a1] at hv
  rw [Int32.lt_iff_toInt_lt, a0]
  constructor
  · intro h
    exact Int32.toInt_inj.mp (by rw [a1]; omega)
  · intro h
    rw [h, a1]; omega
/-- both sides' sheet s becomes as said -/
theorem rS_sheet {MX X' MM M' : zM} {s : Nat} (hs : s < 4) {v z : Int32} (hv : -1 ≤ v ∧ v ≤ 2) (hz : ∃ k : Nat, k ≤ 40 ∧ z = nI k) (hSh : rS MX MM) (x1 : X'.1 (56 + 2 * s) 1 = v) (x2 : X'.1 (56 + 2 * s) 2 = z) (x3 : ∀ j, j < 40 → X'.1 (56 + 2 * s + 1) j = 0) (xO : zO [56 + 2 * s, 56 + 2 * s + 1] MX X') (m1 : M'.1 20 s = v) (m2 : M'.1 21 s = z) (m3 : ∀ k, k ≠ s → M'.1 20 k = MM.1 20 k ∧ M'.1 21 k = MM.1 21 k) (m4 : ∀ j, M'.1 22 j = if 40 * s ≤ j ∧ j < 40 * s + 40 then 0 else MM.1 22 j) : rS X' M' := by
  intro k hk
  by_cases c : k = s
  · subst c
    obtain ⟨y, hy, ey⟩ := hz
    refine ⟨⟨by rw [x1, m1], by rw [m1]; exact hv.1, by rw [m1]; exact hv.2⟩, ⟨y, hy, by rw [x2, ey], by rw [m2, ey]⟩, fun j hj => ?_⟩
    rw [show 57 + 2 * k = 56 + 2 * k + 1 by omega, x3 j hj, m4, if_pos (by omega)]
  · obtain ⟨a, b, d⟩ := hSh k hk
    have e1 : X'.1 (56 + 2 * k) = MX.1 (56 + 2 * k) := xO.2 _ (by simp only [List.mem_cons, List.not_mem_nil, or_false]; omega)
    have e2 : X'.1 (57 + 2 * k) = MX.1 (57 + 2 * k) := xO.2 _ (by simp only [List.mem_cons, List.not_mem_nil, or_false]; omega)
    obtain ⟨f1, f2⟩ := m3 k c
    rw [e1, e2, f1, f2]
    refine ⟨a, b, fun j hj => ?_⟩
    rw [m4, if_neg (by omega)]
    exact d j hj
theorem st_sheet {T : zM → Prop} (hTab : tabOk T) (MX MM : zM) (hR : RelT T MX MM) (a1 a2 a3 : Int32) : ∃ (r : Int32) (MX' MM' : zM), fX5_sheet a1 a2 a3 MX = some (r, MX') ∧ fX6_sheet a1 a2 a3 MM = some (r, MM') ∧ RelT T MX' MM' := by
  obtain ⟨hT, t, hP, hTx, hA, hSh, hI⟩ := id hR
  unfold fX5_sheet fX6_sheet
  rw [zB_s (win5 _ _ _ _), zB_s (isSheet_e _ _)]
  rcases zWin_c a1 0 3 with ⟨z1, -⟩ | ⟨z1, k1, k2⟩
  · rw [if_pos z1, if_pos z1]; exact ⟨-2, MX, MM, rfl, rfl, hR⟩
  rw [if_neg (show ¬ zWin a1 0 3 = 0 by rw [z1]; decide), if_neg (show ¬ zWin a1 0 3 = 0 by rw [z1]; decide), zB_s (win5 _ _ _ _), zB_s (win6 _ _ _ _)]
  rcases zWin_c a2 (-1) 2 with ⟨z2, -⟩ | ⟨z2, k3, k4⟩
  · rw [if_pos z2, if_pos z2]; exact ⟨-2, MX, MM, rfl, rfl, hR⟩
  rw [if_neg (show ¬ zWin a2 (-1) 2 = 0 by rw [z2]; decide), if_neg (show ¬ zWin a2 (-1) 2 = 0 by rw [z2]; decide)]
  obtain ⟨s, -, hs3, rfl⟩ := i32_in (a := 0) (b := 3) k1 k2 (by omega) (by omega)
  have hs : s < 4 := by omega
  have hin := zin_nI hs (show 4 < 2 ^ 31 by decide)
  have fin : ∀ z : Int32, (∃ k : Nat, k ≤ 40 ∧ (if a2 = -1 then 0 else a3) = nI k) → z = (if a2 = -1 then 0 else a3) → ∃ (r : Int32) (MX' MM' : zM), (zG (zin (nI s) 4) <| zL (56 + 2 * (nI s).toNatClampNeg) fun q => zV (fX0_become q a2 z MX) fun M => some ((1 : Int32), M)) = some (r, MX') ∧ fX6_sheet_J43 (nI s) a2 a3 MM = some (r, MM') ∧ RelT T MX' MM' := by
    intro z hz ez
    obtain ⟨X', x1, x2, x3, x4, x5⟩ := fX0_become_e (56 + 2 * s) a2 z MX
    obtain ⟨M', m1, m2, m3, m4, m5, m6⟩ := msheet_e hs a2 a3 k3 MM
    refine ⟨1, X', M', ?_, m1, RelT_she hTab hR (fun i hi => x5.2 i (by simp only [List.mem_cons, List.not_mem_nil, or_false]; omega)) x5.1 m6 (rS_sheet hs ⟨k3, k4⟩ (by rw [ez]; exact hz) hSh x2 x3 x4 x5 m2 (by rw [m3, ez]) m4 m5)⟩
    rw [zG_t hin, nIc (by omega), zL_r, zV_s x1]
  by_cases c : a2 = -1
  · rw [if_pos c, if_pos ((m1_neg k3).mpr c), if_pos ((m1_neg k3).mpr c)]
    have h := fin 0 ⟨0, by omega, by rw [if_pos c]; rfl⟩ (by rw [if_pos c])
    rw [c] at h ⊢
    exact h
  · have hge : ¬ a2 < 0 := fun q => c ((m1_neg k3).mp q)
    rw [if_neg c, if_neg hge]
    by_cases c40 : a3 ≤ 40
    · rw [if_pos c40]
      by_cases c0 : 0 ≤ a3
      · rw [if_pos c0, if_pos c0, if_neg hge, if_pos c40]
        obtain ⟨k, -, hk, ek⟩ := i32_in (a := 0) (b := 40) c0 c40 (by omega) (by omega)
        exact fin a3 ⟨k, hk, by rw [if_neg c]; exact ek⟩ (by rw [if_neg c])
      · rw [if_neg c0, if_neg c0]; exact ⟨-14, MX, MM, rfl, rfl, hR⟩
    · rw [if_neg c40]
      have h0 : 0 ≤ a3 := Int32.le_of_lt (Int32.lt_trans (by decide) (Int32.not_le.mp c40))
      rw [if_pos h0, if_neg hge, if_neg c40]
      exact ⟨-2, MX, MM, rfl, rfl, hR⟩
/-- one cell of sheet s on both sides -/
theorem rS_cell {MX MM : zM} {s i : Nat} (hs : s < 4) (hi : i < 40) (v : Int32) (hSh : rS MX MM) : rS (zu MX (57 + 2 * s) i v) (zu MM 22 (40 * s + i) v) := by
  intro k hk
  obtain ⟨a, b, d⟩ := hSh k hk
  rw [zu_row MX (show 56 + 2 * k ≠ 57 + 2 * s by omega), zu_row MM (show (20 : Nat) ≠ 22 by decide), zu_row MM (show (21 : Nat) ≠ 22 by decide)]
  refine ⟨a, b, fun j hj => ?_⟩
  rw [zu_at1 MM]
  by_cases c : k = s
  · subst c
    rw [zu_at1]
    by_cases cj : j = i
    · rw [if_pos cj, if_pos (by omega)]
    · rw [if_neg cj, if_neg (by omega)]; exact d j hj
  · rw [zu_row MX (show 57 + 2 * k ≠ 57 + 2 * s by omega), if_neg (by omega)]; exact d j hj
theorem st_cell {T : zM → Prop} (hTab : tabOk T) (MX MM : zM) (hR : RelT T MX MM) (a1 a2 a3 : Int32) : ∃ (r : Int32) (MX' MM' : zM), fX5_cell a1 a2 a3 MX = some (r, MX') ∧ fX6_cell a1 a2 a3 MM = some (r, MM') ∧ RelT T MX' MM' := by
  obtain ⟨hT, t, hP, hTx, hA, hSh, hI⟩ := id hR
  unfold fX5_cell fX6_cell
  rw [zB_s (win5 _ _ _ _), zB_s (isSheet_e _ _)]
  rcases zWin_c a1 0 3 with ⟨z1, -⟩ | ⟨z1, k1, k2⟩
  · rw [if_pos z1, if_pos z1]; exact ⟨-2, MX, MM, rfl, rfl, hR⟩
  obtain ⟨s, -, hs3, rfl⟩ := i32_in (a := 0) (b := 3) k1 k2 (by omega) (by omega)
  have hs : s < 4 := by omega
  have hin := zin_nI hs (show 4 < 2 ^ 31 by decide)
  obtain ⟨⟨a, b1, b2⟩, ⟨z, hz, e1, e2⟩, d⟩ := hSh s hs
  rw [if_neg (show ¬ zWin (nI s) 0 3 = 0 by rw [z1]; decide), if_neg (show ¬ zWin (nI s) 0 3 = 0 by rw [z1]; decide), zG_t hin, zG_t hin, nIc (by omega), zL_r, a]
  by_cases c : MM.1 20 s = -1
  · rw [if_pos c, if_neg (by rw [c]; decide)]; exact ⟨-11, MX, MM, rfl, rfl, hR⟩
  have hge : 0 ≤ MM.1 20 s := Int32.not_lt.mp (fun q => c ((m1_neg b1).mp q))
  rw [if_neg c, if_pos hge, zG_t hin, e1, e2, zB_s (win5 _ _ _ _), zB_s (win6 _ _ _ _)]
  rcases zWin_c a2 0 (nI z - 1) with ⟨z2, -⟩ | ⟨z2, k3, k4⟩
  · rw [if_pos z2, if_pos z2]; exact ⟨-12, MX, MM, rfl, rfl, hR⟩
  rw [if_neg (show ¬ zWin a2 0 (nI z - 1) = 0 by rw [z2]; decide), if_neg (show ¬ zWin a2 0 (nI z - 1) = 0 by rw [z2]; decide), zG_t hin]
  have hlt : a2 < nI z := by
    rcases Int32.lt_or_le a2 (nI z) with h | h
    · exact h
    · exact absurd ((nm1_lt (by omega) a2).mpr h) (Int32.not_lt.mpr k4)
  obtain ⟨i, hi, rfl⟩ := i32_nat (n := z) k3 hlt (by omega)
  have hin2 := zin_nI (show i < 40 by omega) (show 40 < 2 ^ 31 by decide)
  have hin3 := zin_nI (show 40 * s + i < 160 by omega) (show 160 < 2 ^ 31 by decide)
  have fin : ∀ v : Int32, RelT T (zu MX (56 + 2 * s + 1) i v) (zu MM 22 (40 * s + i) v) := fun v => by
    rw [show 56 + 2 * s + 1 = 57 + 2 * s by omega]
    exact RelT_she hTab hR (fun j hj => zu_row _ (by omega) _ _) rfl (fun j h0 h1 h2 => zu_row _ h2 _ _) (rS_cell hs (by omega) v hSh)
  have hput : fX0_put (56 + 2 * s) (nI i) a3 MX = some (zu MX (56 + 2 * s + 1) i (if MM.1 20 s = 0 then zi2b a3 else if MM.1 20 s = 1 then zi2s a3 else a3)) := by
    unfold fX0_put
    rw [if_neg (nI_pos (by omega)), e1, if_neg (by rw [nI_leI (by omega) (by omega)]; omega), a]
    by_cases d0 : MM.1 20 s = 0
    · rw [if_pos d0, if_pos d0, zG_t hin2, nIc (by omega), zL_r]
    · rw [if_neg d0, if_neg d0]
      by_cases d1 : MM.1 20 s = 1
      · rw [if_pos d1, if_pos d1, zG_t hin2, nIc (by omega), zL_r]
      · rw [if_neg d1, if_neg d1, zG_t hin2, nIc (by omega), zL_r]
  rw [zV_s hput, cl_ix]
  by_cases d0 : MM.1 20 s = 0
  · rw [if_pos d0, if_pos d0, zG_t hin3, nIc (by omega), zL_r]
    exact ⟨1, _, _, rfl, rfl, fin _⟩
  · rw [if_neg d0, if_neg d0, zG_t hin]
    by_cases d1 : MM.1 20 s = 1
    · rw [if_pos d1, if_pos d1, zG_t hin3, nIc (by omega), zL_r]
      exact ⟨1, _, _, rfl, rfl, fin _⟩
    · rw [if_neg d1, if_neg d1, zG_t hin3, nIc (by omega), zL_r]
      exact ⟨1, _, _, rfl, rfl, fin _⟩

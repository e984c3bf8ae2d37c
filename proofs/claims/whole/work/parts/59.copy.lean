/-! the host: copy, people -/
theorem i32_ge0 {x : Int32} (h : 0 ≤ x) : ∃ a : Nat, a < 2 ^ 31 ∧ x = nI a := by
  rw [Int32.le_iff_toInt_le] at h
  have a0 : (0 : Int32).toInt = 0 := by decide
  rw [a0] at h
  have hlt := Int32.toInt_lt x
  refine ⟨x.toInt.toNat, by omega, ?_⟩
  apply Int32.toInt_inj.mp
  rw [nI_toInt (by omega)]
  omega
/-- forward, the source's rest not overwritten -/
theorem copyF_loop {s1 s2 i j n : Nat} (h1 : 40 * s1 + i + n ≤ 160) (h2 : 40 * s2 + j + n ≤ 160) (hs : 40 * s2 + j ≤ 40 * s1 + i ∨ 40 * s1 + i + n ≤ 40 * s2 + j) (M0 : zM) : ∀ (d k N : Nat) (M : zM), zO [22] M0 M → (∀ p, M.1 22 p = if 40 * s2 + j ≤ p ∧ p < 40 * s2 + j + k then M0.1 22 (40 * s1 + i + (p - (40 * s2 + j))) else M0.1 22 p) → k + d = n → d < N → ∃ M', fX6_copy_L171 N (nI s1) (nI i) (nI s2) (nI j) (nI n) (nI k) M = some (nI n, M') ∧ zO [22] M0 M' ∧ ∀ p, M'.1 22 p = if 40 * s2 + j ≤ p ∧ p < 40 * s2 + j + n then M0.1 22 (40 * s1 + i + (p - (40 * s2 + j))) else M0.1 22 p := by
  intro d
  induction d with
  | zero =>
    intro k N M hO hj hi hN
    obtain ⟨N, rfl⟩ : ∃ q, N = q + 1 := ⟨N - 1, by omega⟩
    have : k = n := by omega
    subst this
    refine ⟨M, ?_, hO, hj⟩
    show fX6_copy_B171 _ _ _ _ _ _ _ M = _
    unfold fX6_copy_B171
    rw [if_pos (Int32.le_refl _)]
  | succ d ih =>
    intro k N M hO hj hi hN
    obtain ⟨N, rfl⟩ : ∃ q, N = q + 1 := ⟨N - 1, by omega⟩
    have hsrc : M.1 22 (40 * s1 + i + k) = M0.1 22 (40 * s1 + i + k) := by rw [hj, if_neg (by omega)]
    obtain ⟨M', q1, q2⟩ := ih (k + 1) N (zu M 22 (40 * s2 + j + k) (M0.1 22 (40 * s1 + i + k))) (zO_trans hO (zO_zu _ _ _ _ (by simp))) (fun p => by
      rw [zu_at1, hj]
      by_cases c : p = 40 * s2 + j + k
      · rw [if_pos c, if_pos (by omega), show 40 * s1 + i + (p - (40 * s2 + j)) = 40 * s1 + i + k by omega]
      · rw [if_neg c]
        by_cases c2 : 40 * s2 + j ≤ p ∧ p < 40 * s2 + j + k
        · rw [if_pos c2, if_pos (by omega)]
        · rw [if_neg c2, if_neg (by omega)]) (by omega) (by omega)
    refine ⟨M', ?_, q2⟩
    rw [← q1]
    show fX6_copy_B171 _ _ _ _ _ _ _ M = _
    unfold fX6_copy_B171
    rw [if_neg (by rw [nI_leI (by omega) (by omega)]; omega), cl_ix, cl_ix, nI_add, nI_add, zG_t (zin_nI (by omega) (by decide)), zG_t (zin_nI (by omega) (by decide)), nIc (by omega), nIc (by omega), hsrc, zL_r, zL_r, nI_1]
/-- backward, within one sheet -/
theorem copyB_loop {s i j n : Nat} (h1 : 40 * s + i + n ≤ 160) (h2 : 40 * s + j + n ≤ 160) (hij : i < j) (M0 : zM) : ∀ (m N : Nat) (M : zM), zO [22] M0 M → (∀ p, M.1 22 p = if 40 * s + j + m ≤ p ∧ p < 40 * s + j + n then M0.1 22 (40 * s + i + (p - (40 * s + j))) else M0.1 22 p) → m ≤ n → m < N → ∃ M', fX6_copy_L125 N (nI s) (nI i) (nI s) (nI j) (nI n) (nI m - 1) M = some (nI n, M') ∧ zO [22] M0 M' ∧ ∀ p, M'.1 22 p = if 40 * s + j ≤ p ∧ p < 40 * s + j + n then M0.1 22 (40 * s + i + (p - (40 * s + j))) else M0.1 22 p := by
  intro m
  induction m with
  | zero =>
    intro N M hO hj hm hN
    obtain ⟨N, rfl⟩ : ∃ q, N = q + 1 := ⟨N - 1, by omega⟩
    refine ⟨M, ?_, hO, hj⟩
    show fX6_copy_B125 _ _ _ _ _ _ _ M = _
    unfold fX6_copy_B125
    rw [if_pos (by decide)]
  | succ m ih =>
    intro N M hO hj hm hN
    obtain ⟨N, rfl⟩ : ∃ q, N = q + 1 := ⟨N - 1, by omega⟩
    have hsrc : M.1 22 (40 * s + i + m) = M0.1 22 (40 * s + i + m) := by rw [hj, if_neg (by omega)]
    obtain ⟨M', q1, q2⟩ := ih N (zu M 22 (40 * s + j + m) (M0.1 22 (40 * s + i + m))) (zO_trans hO (zO_zu _ _ _ _ (by simp))) (fun p => by
      rw [zu_at1, hj]
      by_cases c : p = 40 * s + j + m
      · rw [if_pos c, if_pos (by omega), show 40 * s + i + (p - (40 * s + j)) = 40 * s + i + m by omega]
      · rw [if_neg c]
        by_cases c2 : 40 * s + j + (m + 1) ≤ p ∧ p < 40 * s + j + n
        · rw [if_pos c2, if_pos (by omega)]
        · rw [if_neg c2, if_neg (by omega)]) (by omega) (by omega)
    refine ⟨M', ?_, q2⟩
    rw [← q1]
    show fX6_copy_B125 _ _ _ _ _ _ _ M = _
    unfold fX6_copy_B125
    rw [nI_pred, if_neg (nI_pos (by omega)), cl_ix, cl_ix, nI_add, nI_add, zG_t (zin_nI (by omega) (by decide)), zG_t (zin_nI (by omega) (by decide)), nIc (by omega), nIc (by omega), hsrc, zL_r, zL_r, nI_p1]
theorem rS_copy {MX MM M' : zM} {s1 s2 i j n : Nat} (h1 : s1 < 4) (h2 : s2 < 4) (hi : i + n ≤ 40) (hj : j + n ≤ 40) (hSh : rS MX MM) (mO : zO [22] MM M') (hp : ∀ p, M'.1 22 p = if 40 * s2 + j ≤ p ∧ p < 40 * s2 + j + n then MM.1 22 (40 * s1 + i + (p - (40 * s2 + j))) else MM.1 22 p) : rS (zcpy MX (56 + 2 * s1 + 1) (nI i) (56 + 2 * s2 + 1) (nI j) (nI n)) M' := by
  have hz : ∀ a, a ≠ 56 + 2 * s2 + 1 → (zcpy MX (56 + 2 * s1 + 1) (nI i) (56 + 2 * s2 + 1) (nI j) (nI n)).1 a = MX.1 a := fun a ha => zr_n MX ha _
  have hzs : (zcpy MX (56 + 2 * s1 + 1) (nI i) (56 + 2 * s2 + 1) (nI j) (nI n)).1 (56 + 2 * s2 + 1) = va_cpy (MX.1 (56 + 2 * s1 + 1)) (MX.1 (56 + 2 * s2 + 1)) i j n := by
    unfold zcpy
    rw [zr_s, nIc (by omega), nIc (by omega), nIc (by omega)]
  intro k hk
  obtain ⟨a, b, d⟩ := hSh k hk
  rw [hz _ (by omega), mO.2 20 (by decide), mO.2 21 (by decide)]
  refine ⟨a, b, fun q hq => ?_⟩
  rw [hp]
  by_cases c : k = s2
  · subst c
    rw [show 57 + 2 * k = 56 + 2 * k + 1 by omega, hzs]
    show (if j ≤ q ∧ q < j + n then MX.1 (56 + 2 * s1 + 1) (i + (q - j)) else MX.1 (56 + 2 * k + 1) q) = _
    by_cases c2 : j ≤ q ∧ q < j + n
    · rw [if_pos c2, if_pos (by omega), show 56 + 2 * s1 + 1 = 57 + 2 * s1 by omega, (hSh s1 h1).2.2 _ (by omega), show 40 * s1 + i + (40 * k + q - (40 * k + j)) = 40 * s1 + (i + (q - j)) by omega]
    · rw [if_neg c2, if_neg (by omega), show 56 + 2 * k + 1 = 57 + 2 * k by omega]
      exact d q hq
  · rw [hz _ (by omega), if_neg (by omega)]
    exact d q hq
theorem holds_e {q z : Nat} {M : zM} (hz : z ≤ 40) (e : M.1 q 2 = nI z) (x y : Int32) : (∃ i n : Nat, i + n ≤ z ∧ x = nI i ∧ y = nI n ∧ fX0_holds q x y M = some (1, M)) ∨ (fX0_holds q x y M = some (0, M) ∧ ¬ ∃ i n : Nat, i + n ≤ z ∧ x = nI i ∧ y = nI n) := by
  unfold fX0_holds
  rw [e]
  have neg : ∀ (u : Int32) (w : Nat), w ≤ 40 → u < 0 → u = nI w → False := fun u w hw h1 h2 => nI_pos (n := w) (by omega) (by rw [← h2]; exact h1)
  by_cases c0 : x < 0
  · rw [if_pos c0]; exact Or.inr ⟨rfl, fun ⟨i, n, h, h1, h2⟩ => neg x i (by omega) c0 h1⟩
  rw [if_neg c0]
  by_cases c1 : y < 0
  · rw [if_pos c1]; exact Or.inr ⟨rfl, fun ⟨i, n, h, h1, h2⟩ => neg y n (by omega) c1 h2⟩
  rw [if_neg c1]
  by_cases c2 : nI z < x
  · rw [if_pos c2]; exact Or.inr ⟨rfl, fun ⟨i, n, h, h1, h2⟩ => by rw [h1, nI_ltI (by omega) (by omega)] at c2; omega⟩
  rw [if_neg c2]
  obtain ⟨i, -, hi, rfl⟩ := i32_in (a := 0) (b := z) (Int32.not_lt.mp c0) (Int32.not_lt.mp c2) (by omega) (by omega)
  rw [pk_sub hi]
  by_cases c3 : nI (z - i) < y
  · rw [if_pos c3]; exact Or.inr ⟨rfl, fun ⟨i', n, h, h1, h2⟩ => by
      have := (nI_eq (by omega) (by omega)).mp h1
      rw [h2, nI_ltI (by omega) (by omega)] at c3
      omega⟩
  rw [if_neg c3]
  obtain ⟨n, -, hn, rfl⟩ := i32_in (a := 0) (b := z - i) (Int32.not_lt.mp c1) (Int32.not_lt.mp c3) (by omega) (by omega)
  exact Or.inl ⟨i, n, by omega, rfl, rfl, rfl⟩
theorem cmp_sum {a b z : Nat} (ha : a < 2 ^ 31) (hb : b < 2 ^ 31) (hz : z ≤ 40) : (0 < zcmp ((nI a).toInt64 + (nI b).toInt64) (nI z).toInt64 ↔ z < a + b) ∧ (zcmp ((nI a).toInt64 + (nI b).toInt64) (nI z).toInt64 ≤ 0 ↔ a + b ≤ z) := by
  unfold zcmp
  rw [nI_l ha, nI_l hb, nI_l (by omega), lN_add, lg_cmp_gt, lg_cmp_le, pk_lLT (by omega) (by omega), pk_lLE (by omega) (by omega)]
  exact ⟨Iff.rfl, Iff.rfl⟩
theorem st_copy {T : zM → Prop} (hTab : tabOk T) (MX MM : zM) (hR : RelT T MX MM) (a1 a2 a3 a4 a5 : Int32) : ∃ (r : Int32) (MX' MM' : zM), fX5_copy a1 a2 a3 a4 a5 MX = some (r, MX') ∧ fX6_copy a1 a2 a3 a4 a5 MM = some (r, MM') ∧ RelT T MX' MM' := by
  obtain ⟨hT, t, hP, hTx, hA, hSh, hI⟩ := id hR
  unfold fX5_copy fX6_copy
  rw [zB_s (win5 _ _ _ _), zB_s (isSheet_e _ _)]
  rcases zWin_c a1 0 3 with ⟨z1, -⟩ | ⟨z1, k1, k2⟩
  · rw [if_pos z1, if_pos z1]; exact ⟨-2, MX, MM, rfl, rfl, hR⟩
  obtain ⟨s, -, hs3, rfl⟩ := i32_in (a := 0) (b := 3) k1 k2 (by omega) (by omega)
  have hs : s < 4 := by omega
  have hin := zin_nI hs (show 4 < 2 ^ 31 by decide)
  rw [if_neg (show ¬ zWin (nI s) 0 3 = 0 by rw [z1]; decide), if_neg (show ¬ zWin (nI s) 0 3 = 0 by rw [z1]; decide), zB_s (win5 _ _ _ _), zB_s (isSheet_e _ _)]
  rcases zWin_c a3 0 3 with ⟨z2, -⟩ | ⟨z2, k3, k4⟩
  · rw [if_pos z2, if_pos z2]; exact ⟨-2, MX, MM, rfl, rfl, hR⟩
  obtain ⟨u, -, hu3, rfl⟩ := i32_in (a := 0) (b := 3) k3 k4 (by omega) (by omega)
  have hu : u < 4 := by omega
  have hun := zin_nI hu (show 4 < 2 ^ 31 by decide)
  obtain ⟨⟨a, b1, b2⟩, ⟨z, hz, e1, e2⟩, d⟩ := hSh s hs
  obtain ⟨⟨a', b1', b2'⟩, ⟨z', hz', e1', e2'⟩, d'⟩ := hSh u hu
  rw [if_neg (show ¬ zWin (nI u) 0 3 = 0 by rw [z2]; decide), if_neg (show ¬ zWin (nI u) 0 3 = 0 by rw [z2]; decide)]
  simp only [zG_t hin, zG_t hun, nIc (show s < 2 ^ 31 by omega), nIc (show u < 2 ^ 31 by omega)]
  rw [zL_r, zL_r, a, a']
  by_cases c : MM.1 20 s = -1
  · rw [if_pos c, if_pos ((m1_neg b1).mpr c)]; exact ⟨-11, MX, MM, rfl, rfl, hR⟩
  rw [if_neg c, if_neg (fun q => c ((m1_neg b1).mp q))]
  by_cases c' : MM.1 20 u = -1
  · rw [if_pos c', if_neg (by rw [c']; decide)]; exact ⟨-11, MX, MM, rfl, rfl, hR⟩
  rw [if_neg c', if_pos (Int32.not_lt.mp (fun q => c' ((m1_neg b1').mp q)))]
  by_cases ce : MM.1 20 s = MM.1 20 u
  rotate_left
  · rw [if_neg ce, if_neg ce]; exact ⟨-13, MX, MM, rfl, rfl, hR⟩
  rw [if_pos ce, if_pos ce, e2, e2']
  -- the reference's own tests
  have mno : (¬ ((∃ i n : Nat, i + n ≤ z ∧ a2 = nI i ∧ a5 = nI n) ∧ ∃ j n : Nat, j + n ≤ z' ∧ a4 = nI j ∧ a5 = nI n)) → ∀ w : Option (Int32 × zM), (if a5 < (0 : Int32) then some ((-12 : Int32), MM) else if a2 < (0 : Int32) then some ((-12 : Int32), MM) else if a4 < (0 : Int32) then some ((-12 : Int32), MM) else if (0 : Int32) < (zcmp (a2.toInt64 + a5.toInt64) (nI z).toInt64) then some ((-12 : Int32), MM) else if (zcmp (a4.toInt64 + a5.toInt64) (nI z').toInt64) ≤ (0 : Int32) then w else some ((-12 : Int32), MM)) = some (-12, MM) := by
    intro hno w
    by_cases c5 : a5 < 0
    · rw [if_pos c5]
    rw [if_neg c5]
    by_cases c2 : a2 < 0
    · rw [if_pos c2]
    rw [if_neg c2]
    by_cases c4 : a4 < 0
    · rw [if_pos c4]
    rw [if_neg c4]
    obtain ⟨n, hn, rfl⟩ := i32_ge0 (Int32.not_lt.mp c5)
    obtain ⟨i, hi, rfl⟩ := i32_ge0 (Int32.not_lt.mp c2)
    obtain ⟨j, hj, rfl⟩ := i32_ge0 (Int32.not_lt.mp c4)
    by_cases g1 : i + n ≤ z
    · rw [if_neg (by rw [(cmp_sum hi hn hz).1]; omega)]
      by_cases g2 : j + n ≤ z'
      · exact absurd ⟨⟨i, n, g1, rfl, rfl⟩, j, n, g2, rfl, rfl⟩ hno
      · rw [if_neg (by rw [(cmp_sum hj hn hz').2]; omega)]
    · rw [if_pos (by rw [(cmp_sum hi hn hz).1]; omega)]
  rcases holds_e hz e1 a2 a5 with ⟨i, n, hin1, rfl, rfl, h1⟩ | ⟨h1, h1n⟩
  rotate_left
  · rw [zB_s h1, if_pos rfl, mno (fun q => h1n q.1)]; exact ⟨-12, MX, MM, rfl, rfl, hR⟩
  rw [zB_s h1, if_neg (show ¬ (1 : Int32) = 0 by decide)]
  rcases holds_e hz' e1' a4 (nI n) with ⟨j, n', hjn1, rfl, en, h2⟩ | ⟨h2, h2n⟩
  rotate_left
  · rw [zB_s h2, if_pos rfl, mno (fun q => h2n q.2)]; exact ⟨-12, MX, MM, rfl, rfl, hR⟩
  have hnn : n' = n := (nI_eq (by omega) (by omega)).mp en.symm
  subst hnn
  have rg : ∀ w : Nat, w + n' ≤ 40 → zrg (nI w) (nI n') 40 = true := fun w hw => by
    simp only [zrg, Bool.and_eq_true, decide_eq_true_eq]
    rw [nI_toInt (by omega), nI_toInt (by omega)]
    omega
  rw [zB_s h2, if_neg (show ¬ (1 : Int32) = 0 by decide), zG_t (rg i (by omega)), zG_t (rg j (by omega)), zL_r, if_neg (nI_pos (by omega)), if_neg (nI_pos (by omega)), if_neg (nI_pos (by omega)), if_neg (by rw [(cmp_sum (by omega) (by omega) hz).1]; omega), if_pos (by rw [(cmp_sum (by omega) (by omega) hz').2]; omega)]
  have fin : ∀ M', zO [22] MM M' → (∀ p, M'.1 22 p = if 40 * u + j ≤ p ∧ p < 40 * u + j + n' then MM.1 22 (40 * s + i + (p - (40 * u + j))) else MM.1 22 p) → ∀ w, w = some (nI n', M') → ∃ (r : Int32) (MX' MM' : zM), some (nI n', zcpy MX (56 + 2 * s + 1) (nI i) (56 + 2 * u + 1) (nI j) (nI n')) = some (r, MX') ∧ w = some (r, MM') ∧ RelT T MX' MM' := by
    intro M' mO hp w hw
    refine ⟨nI n', _, M', rfl, hw, RelT_she hTab hR (fun k hk => zr_n MX (by omega) _) rfl (fun k h0 h1 h2 => mO.2 k (by simpa using h2)) (rS_copy hs hu (by omega) (by omega) hSh mO hp)⟩
  by_cases csu : s = u
  · subst csu
    rw [if_pos rfl]
    by_cases cji : j ≤ i
    · rw [if_pos ((nI_leI (by omega) (by omega)).mpr cji)]
      obtain ⟨M', q1, q2, q3⟩ := copyF_loop (s1 := s) (s2 := s) (i := i) (j := j) (n := n') (by omega) (by omega) (by omega) MM n' 0 zF MM (zO_refl _ _) (fun p => by rw [if_neg (by omega)]) (by omega) (by unfold zF; omega)
      exact fin M' q2 q3 _ q1
    · rw [if_neg (by rw [nI_leI (by omega) (by omega)]; omega), zL_r]
      obtain ⟨M', q1, q2, q3⟩ := copyB_loop (s := s) (i := i) (j := j) (n := n') (by omega) (by omega) (by omega) MM n' zF MM (zO_refl _ _) (fun p => by rw [if_neg (by omega)]) (by omega) (by unfold zF; omega)
      exact fin M' q2 q3 _ q1
  · rw [if_neg (nI_ne (by omega) (by omega) csu)]
    obtain ⟨M', q1, q2, q3⟩ := copyF_loop (s1 := s) (s2 := u) (i := i) (j := j) (n := n') (by omega) (by omega) (by omega) MM n' 0 zF MM (zO_refl _ _) (fun p => by rw [if_neg (by omega)]) (by omega) (by unfold zF; omega)
    exact fin M' q2 q3 _ q1

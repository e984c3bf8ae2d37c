/-! what was told of a glass, read back -/
/-- the first that isn't so -/
def sWr (cells : Nat → Int32) (one : Nat) : Nat → Nat → zVw → Int32
  | 0 => fun _ _ => -1
  | d + 1 => fun i V => if sMin V one = cells i then sWr cells one d (i + 1) (sDay V) else nI i
theorem W8_X0 {M M' : zM} (h : zO (17 :: (17 + 3) :: SC) M M') : zO SX0 M M' := zO_mono h (fun i hi => by
  simp only [SC, List.mem_cons, List.not_mem_nil, or_false] at hi
  simp only [SX0, List.mem_cons, List.not_mem_nil, or_false]
  omega)
theorem X0_56 {a : Nat} (ha : 56 ≤ a) : a ∉ SX0 := fun q => by
  simp only [SX0, List.mem_cons, List.not_mem_nil, or_false] at q
  omega
theorem firstX_loop {s one z : Nat} (hz : z ≤ 40) {M0 : zM} {cells : Nat → Int32} (hc : ∀ j, j < 40 → M0.1 (57 + 2 * s) j = cells j) (h2 : M0.1 (56 + 2 * s) 2 = nI z) : ∀ (d i N : Nat) (V : zVw) (M : zM), okX 17 M → vX 17 M = V → one < vN V → zO SX0 M0 M → i + d = z → d < N → ∃ M', fX5_firstOtherwise_L133 (56 + 2 * s) N (nI one) (nI i) M = some (sWr cells one d i V, M') ∧ zO SX0 M0 M' := by
  have hw : isW 17 := Or.inr (Or.inl rfl)
  intro d
  induction d with
  | zero =>
    intro i N V M hM hv hone hO hi hN
    obtain ⟨N, rfl⟩ : ∃ q, N = q + 1 := ⟨N - 1, by omega⟩
    have : i = z := by omega
    subst this
    refine ⟨M, ?_, hO⟩
    show fX5_firstOtherwise_B133 _ _ _ _ M = _
    unfold fX5_firstOtherwise_B133
    rw [hO.2 _ (X0_56 (a := 56 + 2 * s) (by omega)), h2, if_pos (Int32.le_refl _)]
    rfl
  | succ d ih =>
    intro i N V M hM hv hone hO hi hN
    obtain ⟨N, rfl⟩ : ∃ q, N = q + 1 := ⟨N - 1, by omega⟩
    obtain ⟨X1, x1, x2⟩ := fX4_minutesOf_e hw hM (i := one) (by rw [hv]; exact hone)
    rw [hv] at x1
    have hO1 : zO SX0 M0 X1 := zO_trans hO (SB_X0 x2)
    have e2 : X1.1 (56 + 2 * s) 2 = nI z := by rw [hO1.2 _ (X0_56 (by omega))]; exact h2
    have hat := at_e (q := 56 + 2 * s) (M := X1) hz e2 (w := i) (by omega)
    have hcell : X1.1 (56 + 2 * s + 1) i = cells i := by
      rw [hO1.2 _ (X0_56 (by omega)), show 56 + 2 * s + 1 = 57 + 2 * s by omega]
      exact hc i (by omega)
    rw [hcell] at hat
    have e : sWr cells one (d + 1) i V = if sMin V one = cells i then sWr cells one d (i + 1) (sDay V) else nI i := rfl
    rw [e]
    show ∃ M', fX5_firstOtherwise_B133 (56 + 2 * s) (fX5_firstOtherwise_L133 (56 + 2 * s) N) (nI one) (nI i) M = _ ∧ _
    unfold fX5_firstOtherwise_B133
    rw [hO.2 _ (X0_56 (a := 56 + 2 * s) (by omega)), h2, if_neg (by rw [nI_leI (by omega) (by omega)]; omega), zB_s x1, zB_s hat]
    by_cases c : sMin V one = cells i
    · rw [if_pos c, if_pos c]
      obtain ⟨X2, y1, y2, y3, y4, -⟩ := fX4_passDay_e hw (okX_congr hw (SBC x2) hM)
      rw [vX_congr hw (SBC x2), hv] at y2
      obtain ⟨M', q1, q2⟩ := ih (i + 1) N (sDay V) X2 y3 y2 (show one < vN V from hone) (zO_trans hO1 (W8_X0 y4)) (by omega) (by omega)
      refine ⟨M', ?_, q2⟩
      rw [zV_s y1, zL_r, nI_1]
      exact q1
    · rw [if_neg c, if_neg c]
      exact ⟨X1, rfl, hO1⟩
theorem wrongM_loop {s one z : Nat} (hs : s < 4) (hz : z ≤ 40) {M0 : zM} {cells : Nat → Int32} (hc : ∀ j, j < 40 → M0.1 22 (40 * s + j) = cells j) (h21 : M0.1 21 s = nI z) : ∀ (d i N : Nat) (V : zVw) (M : zM), (i = 0 ∧ mTh M0 M V ∨ 0 < i ∧ ∃ V0, mTh M0 M V0 ∧ sDay V0 = V) → one < vN V → i + d = z → d + 1 < N → ∃ M', fX6_wrong_L9 N (nI s) (nI one) (-1 : Int32) (nI i) M = some (sWr cells one d i V, M') ∧ zBk M0 M' := by
  have hin := zin_nI hs (show 4 < 2 ^ 31 by decide)
  have r21 : ∀ {M V}, mTh M0 M V → M.1 21 s = nI z := fun h => by rw [h.1.2.1 21 (by decide)]; exact h21
  have r22 : ∀ {M V}, mTh M0 M V → ∀ j, j < 40 → M.1 22 (40 * s + j) = cells j := fun h j hj => by rw [h.1.2.1 22 (by decide)]; exact hc j hj
  have stop : ∀ (x i N : Nat) (V : zVw) (M : zM), mTh M0 M V → x < 40 → ∃ M', fX6_wrong_L9 (N + 1) (nI s) (nI one) (nI x) (nI i) M = some (nI x, M') ∧ zBk M0 M' := by
    intro x i N V M h hx
    obtain ⟨M', b1, b2⟩ := mTh_back h
    refine ⟨M', ?_, b2⟩
    show fX6_wrong_B9 _ _ _ _ _ M = _
    unfold fX6_wrong_B9
    rw [zG_t hin, nIc (show s < 2 ^ 31 by omega), r21 h]
    by_cases c : nI z ≤ nI i
    · rw [if_pos c, zV_s b1]
    · rw [if_neg c, if_neg (fun q => nI_pos (show x < 2 ^ 31 by omega) (by rw [q]; decide)), zV_s b1]
  intro d
  induction d with
  | zero =>
    intro i N V M hM hone hi hN
    obtain ⟨N, rfl⟩ : ∃ q, N = q + 1 := ⟨N - 1, by omega⟩
    have : i = z := by omega
    subst this
    obtain ⟨V0, h0⟩ : ∃ V0, mTh M0 M V0 := by
      rcases hM with ⟨-, h⟩ | ⟨-, V0, h, -⟩
      · exact ⟨V, h⟩
      · exact ⟨V0, h⟩
    obtain ⟨M', b1, b2⟩ := mTh_back h0
    refine ⟨M', ?_, b2⟩
    show fX6_wrong_B9 _ _ _ _ _ M = _
    unfold fX6_wrong_B9
    rw [zG_t hin, nIc (show s < 2 ^ 31 by omega), r21 h0, if_pos (Int32.le_refl _), zV_s b1]
    rfl
  | succ d ih =>
    intro i N V M hM hone hi hN
    obtain ⟨N, rfl⟩ : ∃ q, N = q + 1 := ⟨N - 1, by omega⟩
    have e : sWr cells one (d + 1) i V = if sMin V one = cells i then sWr cells one d (i + 1) (sDay V) else nI i := rfl
    have J : ∀ M1 : zM, mTh M0 M1 V → ∃ M', fX6_wrong_J34 (fX6_wrong_L9 N) (nI s) (nI one) (-1 : Int32) (nI i) M1 = some (sWr cells one (d + 1) i V, M') ∧ zBk M0 M' := by
      intro M1 h1
      obtain ⟨M2, g1, g2⟩ := mTh_minutes h1 hone
      rw [e]
      unfold fX6_wrong_J34
      rw [zB_s g1, cl_ix, zG_t (zin_nI (by omega) (by decide)), nIc (show 40 * s + i < 2 ^ 31 by omega), r22 g2 i (by omega)]
      by_cases c : sMin V one = cells i
      · rw [if_pos c, if_pos c, zL_r, nI_1]
        exact ih (i + 1) N (sDay V) M2 (Or.inr ⟨by omega, V, g2, rfl⟩) (show one < vN V from hone) (by omega) (by omega)
      · rw [if_neg c, if_neg c, zL_r, nI_1]
        obtain ⟨N', rfl⟩ : ∃ q, N = q + 1 := ⟨N - 1, by omega⟩
        exact stop i (i + 1) N' V M2 g2 (by omega)
    show ∃ M', fX6_wrong_B9 (fX6_wrong_L9 N) (nI s) (nI one) (-1 : Int32) (nI i) M = _ ∧ _
    unfold fX6_wrong_B9
    rcases hM with ⟨c0, h⟩ | ⟨c0, V0, h, eV⟩
    · rw [zG_t hin, nIc (show s < 2 ^ 31 by omega), r21 h, if_neg (by rw [nI_leI (by omega) (by omega)]; omega), if_pos rfl, if_pos (by rw [c0]; decide)]
      exact J M h
    · obtain ⟨M1, g1, g2⟩ := mTh_goes h
      rw [zG_t hin, nIc (show s < 2 ^ 31 by omega), r21 h, if_neg (by rw [nI_leI (by omega) (by omega)]; omega), if_pos rfl, if_neg (by rw [show (0 : Int32) = nI 0 from rfl, nI_leI (by omega) (by omega)]; omega), zV_s g1]
      rw [eV] at g2
      exact J M1 g2
theorem fX6_wrong_e {s one z : Nat} (hs : s < 4) (hz : z ≤ 40) {M : zM} {cells : Nat → Int32} (hc : ∀ j, j < 40 → M.1 22 (40 * s + j) = cells j) (h21 : M.1 21 s = nI z) (hM : okM M) (hV : okV (vM M)) (hone : one < vN (vM M)) : ∃ M', fX6_wrong (nI s) (nI one) M = some (sWr cells one z 0 (vM M), M') ∧ zBk M M' := by
  obtain ⟨M2, g1, g2, g3⟩ := fX6_keeps_e M
  obtain ⟨M', q1, q2⟩ := wrongM_loop hs hz hc h21 z 0 zF (vM M) M2 (Or.inl ⟨rfl, mTh_keep hM hV g2 g3⟩) hone (by omega) (by unfold zF; omega)
  refine ⟨M', ?_, q2⟩
  have q1' : fX6_wrong_L9 zF (nI s) (nI one) (-1 : Int32) (0 : Int32) M2 = _ := q1
  unfold fX6_wrong
  rw [zV_s g1, q1']
theorem fX6_isSo_e {s one z : Nat} (hs : s < 4) (hz : z ≤ 40) {M : zM} {cells : Nat → Int32} (hc : ∀ j, j < 40 → M.1 22 (40 * s + j) = cells j) (h21 : M.1 21 s = nI z) (hM : okM M) (hV : okV (vM M)) (hone : one < vN (vM M)) : ∃ M', fX6_isSo (nI s) (nI one) M = some ((if sWr cells one z 0 (vM M) = -1 then 1 else 0), M') ∧ zBk M M' := by
  obtain ⟨M', q1, q2⟩ := fX6_wrong_e hs hz hc h21 hM hV hone
  refine ⟨M', ?_, q2⟩
  unfold fX6_isSo
  rw [zB_s q1]
  by_cases c : sWr cells one z 0 (vM M) = -1
  · rw [if_pos c, if_pos c]
  · rw [if_neg c, if_neg c]
/-! a place changed before -/
theorem zu_zu (M : zM) (a k : Nat) (u v : Int32) : zu (zu M a k u) a k v = zu M a k v := by
  refine Prod.ext ?_ rfl
  funext i j
  rw [zu_at, zu_at, zu_at]
  by_cases c : i = a ∧ j = k
  · rw [if_pos c, if_pos c]
  · rw [if_neg c, if_neg c, if_neg c]
theorem zu_self (M : zM) (a k : Nat) : zu M a k (M.1 a k) = M := by
  refine Prod.ext ?_ rfl
  funext i j
  rw [zu_at]
  by_cases c : i = a ∧ j = k
  · rw [if_pos c, c.1, c.2]
  · rw [if_neg c]
theorem zBk_zu {M0 M : zM} (h : zBk M0 M) (a k : Nat) (v : Int32) : zBk (zu M0 a k v) (zu M a k v) := by
  obtain ⟨⟨t1, t2, t3⟩, b0, b1, b3, b4⟩ := h
  have g : ∀ i j, M.1 i j = M0.1 i j → (zu M a k v).1 i j = (zu M0 a k v).1 i j := fun i j q => by rw [zu_at, zu_at, q]
  exact ⟨⟨t1, fun i hi => funext fun j => g i j (by rw [t2 i hi]), fun j c0 c1 c2 c3 => g 0 j (t3 j c0 c1 c2 c3)⟩, g 0 0 b0, g 0 1 b1, fun j hj => g 3 j (b3 j hj), fun j hj => g 4 j (b4 j hj)⟩
theorem so_step {s one z a k n : Nat} (hs : s < 4) (hz : z ≤ 40) {MM : zM} {cells : Nat → Int32} (hc : ∀ j, j < 40 → MM.1 22 (40 * s + j) = cells j) (h21 : MM.1 21 s = nI z) (ha : a ≠ 21 ∧ a ≠ 22) (hO : ∀ v, v < n → okM (zu MM a k (nI v)) ∧ okV (vM (zu MM a k (nI v))) ∧ one < vN (vM (zu MM a k (nI v)))) : ∀ v, v < n → ∀ M, (∃ u, zBk (zu MM a k u) M) → ∃ M', fX6_isSo (nI s) (nI one) (zu M a k (nI v)) = some ((if sWr cells one z 0 (vM (zu MM a k (nI v))) = -1 then 1 else 0), M') ∧ ∃ u, zBk (zu MM a k u) M' := by
  intro v hv M hM
  obtain ⟨u, hu⟩ := hM
  have hb : zBk (zu MM a k (nI v)) (zu M a k (nI v)) := by
    have q := zBk_zu hu a k (nI v)
    rw [zu_zu] at q
    exact q
  obtain ⟨o1, o2, o3⟩ := hO v hv
  obtain ⟨e1, e2⟩ := vM_bk o1 hb
  obtain ⟨M', q1, q2⟩ := fX6_isSo_e (one := one) hs hz (M := zu M a k (nI v)) (cells := cells) (fun j hj => by rw [hb.1.2.1 22 (by decide), zu_row _ (Ne.symm ha.2)]; exact hc j hj) (by rw [hb.1.2.1 21 (by decide), zu_row _ (Ne.symm ha.1)]; exact h21) e2 (by rw [e1]; exact o2) (by rw [e1]; exact o3)
  rw [e1] at q1
  exact ⟨M', q1, nI v, zBk_trans hb q2⟩
def sBits (rr : Nat → Int32) : Nat → Int32
  | 0 => 0
  | k + 1 => if rr k = -1 then sBits rr k ||| zshl 1 (nI k) else sBits rr k
def sDn (rr : Nat → Int32) : Nat → Int32 → Int32 → Int32 → Int32 × Int32 × Int32
  | 0 => fun b m l => (b, m, l)
  | k + 1 => fun b m l => if rr k = -1 then sDn rr k (b ||| zshl 1 (nI k)) (m + 1) (nI k) else sDn rr k b m l
theorem sDn_bits (rr : Nat → Int32) : ∀ k b m l, (sDn rr k b m l).1 = b ||| sBits rr k
  | 0, b, m, l => by
    show b = b ||| 0
    rw [Int32.or_comm, Int32.zero_or]
  | k + 1, b, m, l => by
    have e : sDn rr (k + 1) b m l = if rr k = -1 then sDn rr k (b ||| zshl 1 (nI k)) (m + 1) (nI k) else sDn rr k b m l := rfl
    have e2 : sBits rr (k + 1) = if rr k = -1 then sBits rr k ||| zshl 1 (nI k) else sBits rr k := rfl
    rw [e, e2]
    by_cases c : rr k = -1
    · rw [if_pos c, if_pos c, sDn_bits rr k, Int32.or_assoc, Int32.or_comm (zshl 1 (nI k))]
    · rw [if_neg c, if_neg c, sDn_bits rr k]
theorem sDn_ml (rr : Nat → Int32) : ∀ k b b' m l, (sDn rr k b m l).2 = (sDn rr k b' m l).2
  | 0, b, b', m, l => rfl
  | k + 1, b, b', m, l => by
    have e : ∀ b, sDn rr (k + 1) b m l = if rr k = -1 then sDn rr k (b ||| zshl 1 (nI k)) (m + 1) (nI k) else sDn rr k b m l := fun _ => rfl
    rw [e, e]
    by_cases c : rr k = -1
    · rw [if_pos c, if_pos c]; exact sDn_ml rr k _ _ _ _
    · rw [if_neg c, if_neg c]; exact sDn_ml rr k _ _ _ _
theorem sBits_s (rr : Nat → Int32) (k : Nat) : sBits rr (k + 1) = if rr k = -1 then sBits rr k ||| zshl 1 (nI k) else sBits rr k := rfl
theorem so_if {p : Prop} [Decidable p] : ((if p then (1 : Int32) else 0) = 0) ↔ ¬ p := by
  by_cases c : p
  · rw [if_pos c]; exact ⟨fun q => absurd q (by decide), fun q => absurd c q⟩
  · rw [if_neg c]; exact ⟨fun _ => c, fun _ => rfl⟩
theorem kindsM_loop {s one : Nat} (h5 : one < 5) {P : zM → Prop} {rr : Nat → Int32} (old : Int32) (H : ∀ v, v < 6 → ∀ M, P M → ∃ M', fX6_isSo (nI s) (nI one) (zu M 1 one (nI v)) = some ((if rr v = -1 then 1 else 0), M') ∧ P M') : ∀ (d i N : Nat) (M : zM), P M → i + d = 6 → d < N → ∃ M', fX6_kindsSo_L13 N (nI s) (nI one) old (sBits rr i) (nI i) M = some (sBits rr 6, zu M' 1 one old) ∧ P M' := by
  have hin := zin_nI h5 (show 5 < 2 ^ 31 by decide)
  intro d
  induction d with
  | zero =>
    intro i N M hP hi hN
    obtain ⟨N, rfl⟩ : ∃ q, N = q + 1 := ⟨N - 1, by omega⟩
    have : i = 6 := by omega
    subst this
    refine ⟨M, ?_, hP⟩
    show fX6_kindsSo_B13 _ _ _ _ _ _ M = _
    unfold fX6_kindsSo_B13
    rw [if_pos (by decide), zG_t hin, nIc (show one < 2 ^ 31 by omega), zL_r]
  | succ d ih =>
    intro i N M hP hi hN
    obtain ⟨N, rfl⟩ : ∃ q, N = q + 1 := ⟨N - 1, by omega⟩
    obtain ⟨M1, q1, q2⟩ := H i (by omega) M hP
    obtain ⟨M', g1, g2⟩ := ih (i + 1) N M1 q2 (by omega) (by omega)
    refine ⟨M', ?_, g2⟩
    rw [← g1, sBits_s]
    show fX6_kindsSo_B13 _ _ _ _ _ _ M = _
    unfold fX6_kindsSo_B13
    rw [if_neg (by rw [show (6 : Int32) = nI 6 from rfl, nI_leI (by omega) (by omega)]; omega), zG_t hin, nIc (show one < 2 ^ 31 by omega), zL_r, zB_s q1]
    by_cases c : rr i = -1
    · rw [if_neg (fun q => (so_if.mp q) c), if_pos c, zL_r, zL_r, nI_1]
    · rw [if_pos (so_if.mpr c), if_neg c, zL_r, nI_1]
theorem numbersM_loop {s one : Nat} (h5 : one < 5) {P : zM → Prop} {rr : Nat → Int32} (old : Int32) (H : ∀ v, v < 10 → ∀ M, P M → ∃ M', fX6_isSo (nI s) (nI one) (zu M 2 one (nI v)) = some ((if rr v = -1 then 1 else 0), M') ∧ P M') : ∀ (d i N : Nat) (M : zM), P M → i + d = 10 → d < N → ∃ M', fX6_numbersSo_L13 N (nI s) (nI one) old (sBits rr i) (nI i) M = some (sBits rr 10, zu M' 2 one old) ∧ P M' := by
  have hin := zin_nI h5 (show 5 < 2 ^ 31 by decide)
  intro d
  induction d with
  | zero =>
    intro i N M hP hi hN
    obtain ⟨N, rfl⟩ : ∃ q, N = q + 1 := ⟨N - 1, by omega⟩
    have : i = 10 := by omega
    subst this
    refine ⟨M, ?_, hP⟩
    show fX6_numbersSo_B13 _ _ _ _ _ _ M = _
    unfold fX6_numbersSo_B13
    rw [if_pos (by decide), zG_t hin, nIc (show one < 2 ^ 31 by omega), zL_r]
  | succ d ih =>
    intro i N M hP hi hN
    obtain ⟨N, rfl⟩ : ∃ q, N = q + 1 := ⟨N - 1, by omega⟩
    obtain ⟨M1, q1, q2⟩ := H i (by omega) M hP
    obtain ⟨M', g1, g2⟩ := ih (i + 1) N M1 q2 (by omega) (by omega)
    refine ⟨M', ?_, g2⟩
    rw [← g1, sBits_s]
    show fX6_numbersSo_B13 _ _ _ _ _ _ M = _
    unfold fX6_numbersSo_B13
    rw [if_neg (by rw [show (10 : Int32) = nI 10 from rfl, nI_leI (by omega) (by omega)]; omega), zG_t hin, nIc (show one < 2 ^ 31 by omega), zL_r, zB_s q1]
    by_cases c : rr i = -1
    · rw [if_neg (fun q => (so_if.mp q) c), if_pos c, zL_r, zL_r, nI_1]
    · rw [if_pos (so_if.mpr c), if_neg c, zL_r, nI_1]
theorem wetsM_loop {s one : Nat} {P : zM → Prop} {rr : Nat → Int32} (old : Int32) (H : ∀ v, v < 10 → ∀ M, P M → ∃ M', fX6_isSo (nI s) (nI one) (zu M 0 1 (nI v)) = some ((if rr v = -1 then 1 else 0), M') ∧ P M') : ∀ (d i N : Nat) (M : zM), P M → i + d = 10 → d < N → ∃ M', fX6_wetsSo_L11 N (nI s) (nI one) old (sBits rr i) (nI i) M = some (sBits rr 10, zu M' 0 1 old) ∧ P M' := by
  intro d
  induction d with
  | zero =>
    intro i N M hP hi hN
    obtain ⟨N, rfl⟩ : ∃ q, N = q + 1 := ⟨N - 1, by omega⟩
    have : i = 10 := by omega
    subst this
    refine ⟨M, ?_, hP⟩
    show fX6_wetsSo_B11 _ _ _ _ _ _ M = _
    unfold fX6_wetsSo_B11
    rw [if_pos (by decide), zL_r]
  | succ d ih =>
    intro i N M hP hi hN
    obtain ⟨N, rfl⟩ : ∃ q, N = q + 1 := ⟨N - 1, by omega⟩
    obtain ⟨M1, q1, q2⟩ := H i (by omega) M hP
    obtain ⟨M', g1, g2⟩ := ih (i + 1) N M1 q2 (by omega) (by omega)
    refine ⟨M', ?_, g2⟩
    rw [← g1, sBits_s]
    show fX6_wetsSo_B11 _ _ _ _ _ _ M = _
    unfold fX6_wetsSo_B11
    rw [if_neg (by rw [show (10 : Int32) = nI 10 from rfl, nI_leI (by omega) (by omega)]; omega), zL_r, zB_s q1]
    by_cases c : rr i = -1
    · rw [if_neg (fun q => (so_if.mp q) c), if_pos c, zL_r, zL_r, nI_1]
    · rw [if_pos (so_if.mpr c), if_neg c, zL_r, nI_1]
theorem textsM_loop {s one t : Nat} (ht : t ≤ 6) {P : zM → Prop} {rr : Nat → Int32} (old : Int32) (hP10 : ∀ M, P M → M.1 0 10 = nI t) (H : ∀ v, v < t → ∀ M, P M → ∃ M', fX6_isSo (nI s) (nI one) (zu M 0 7 (nI v)) = some ((if rr v = -1 then 1 else 0), M') ∧ P M') : ∀ (d i N : Nat) (M : zM), P M → i + d = t → d < N → ∃ M', fX6_textsSo_L11 N (nI s) (nI one) old (sBits rr i) (nI i) M = some (sBits rr t, zu M' 0 7 old) ∧ P M' := by
  intro d
  induction d with
  | zero =>
    intro i N M hP hi hN
    obtain ⟨N, rfl⟩ : ∃ q, N = q + 1 := ⟨N - 1, by omega⟩
    have : i = t := by omega
    subst this
    refine ⟨M, ?_, hP⟩
    show fX6_textsSo_B11 _ _ _ _ _ _ M = _
    unfold fX6_textsSo_B11
    rw [hP10 M hP, if_pos (Int32.le_refl _), zL_r]
  | succ d ih =>
    intro i N M hP hi hN
    obtain ⟨N, rfl⟩ : ∃ q, N = q + 1 := ⟨N - 1, by omega⟩
    obtain ⟨M1, q1, q2⟩ := H i (by omega) M hP
    obtain ⟨M', g1, g2⟩ := ih (i + 1) N M1 q2 (by omega) (by omega)
    refine ⟨M', ?_, g2⟩
    rw [← g1, sBits_s]
    show fX6_textsSo_B11 _ _ _ _ _ _ M = _
    unfold fX6_textsSo_B11
    rw [hP10 M hP, if_neg (by rw [nI_leI (by omega) (by omega)]; omega), zL_r, zB_s q1]
    by_cases c : rr i = -1
    · rw [if_neg (fun q => (so_if.mp q) c), if_pos c, zL_r, zL_r, nI_1]
    · rw [if_pos (so_if.mpr c), if_neg c, zL_r, nI_1]
theorem peopleM_loop {s n : Nat} (hn : n ≤ 5) {P : zM → Prop} {rr : Nat → Int32} (hP2 : ∀ M, P M → M.1 0 2 = nI n) (H : ∀ v, v < n → ∀ M, P M → ∃ M', fX6_isSo (nI s) (nI v) M = some ((if rr v = -1 then 1 else 0), M') ∧ P M') : ∀ (d i N : Nat) (M : zM), P M → i + d = n → d < N → ∃ M', fX6_peopleSo_L4 N (nI s) (sBits rr i) (nI i) M = some (sBits rr n, M') ∧ P M' := by
  intro d
  induction d with
  | zero =>
    intro i N M hP hi hN
    obtain ⟨N, rfl⟩ : ∃ q, N = q + 1 := ⟨N - 1, by omega⟩
    have : i = n := by omega
    subst this
    refine ⟨M, ?_, hP⟩
    show fX6_peopleSo_B4 _ _ _ _ M = _
    unfold fX6_peopleSo_B4
    rw [hP2 M hP, if_pos (Int32.le_refl _)]
  | succ d ih =>
    intro i N M hP hi hN
    obtain ⟨N, rfl⟩ : ∃ q, N = q + 1 := ⟨N - 1, by omega⟩
    obtain ⟨M1, q1, q2⟩ := H i (by omega) M hP
    obtain ⟨M', g1, g2⟩ := ih (i + 1) N M1 q2 (by omega) (by omega)
    refine ⟨M', ?_, g2⟩
    rw [← g1, sBits_s]
    show fX6_peopleSo_B4 _ _ _ _ M = _
    unfold fX6_peopleSo_B4
    rw [hP2 M hP, if_neg (by rw [nI_leI (by omega) (by omega)]; omega), zB_s q1]
    by_cases c : rr i = -1
    · rw [if_neg (fun q => (so_if.mp q) c), if_pos c, zL_r, zL_r, nI_1]
    · rw [if_pos (so_if.mpr c), if_neg c, zL_r, nI_1]
theorem sDn_s (rr : Nat → Int32) (k : Nat) (b m l : Int32) : sDn rr (k + 1) b m l = if rr k = -1 then sDn rr k (b ||| zshl 1 (nI k)) (m + 1) (nI k) else sDn rr k b m l := rfl
theorem nI_dn (k : Nat) : nI (k + 1) - 1 = nI k := by
  have q := nI_m1 (show 0 < k + 1 by omega)
  rw [q]
  rfl
theorem ruesM_loop {s one : Nat} (h5 : one < 5) {P : zM → Prop} {rr : Nat → Int32} (old x3 : Int32) (H : ∀ v, v < 100 → ∀ M, P M → ∃ M', fX6_isSo (nI s) (nI one) (zu M 3 one (nI v)) = some ((if rr v = -1 then 1 else 0), M') ∧ P M') : ∀ (k N : Nat) (b m l : Int32) (M : zM), P M → k ≤ 100 → k < N → ∃ M', fX6_ruesSo_L18 N (nI s) (nI one) x3 old m l (nI k - 1) M = some ((if x3 = 0 then (sDn rr k b m l).2.1 else (sDn rr k b m l).2.2), zu M' 3 one old) ∧ P M' := by
  have hin := zin_nI h5 (show 5 < 2 ^ 31 by decide)
  intro k
  induction k with
  | zero =>
    intro N b m l M hP hk hN
    obtain ⟨N, rfl⟩ : ∃ q, N = q + 1 := ⟨N - 1, by omega⟩
    refine ⟨M, ?_, hP⟩
    show fX6_ruesSo_B18 _ _ _ _ _ _ _ _ M = _
    unfold fX6_ruesSo_B18
    rw [if_pos (by decide), zG_t hin, nIc (show one < 2 ^ 31 by omega), zL_r]
    by_cases c : x3 = 0
    · rw [if_pos c, if_pos c]; rfl
    · rw [if_neg c, if_neg c]; rfl
  | succ k ih =>
    intro N b m l M hP hk hN
    obtain ⟨N, rfl⟩ : ∃ q, N = q + 1 := ⟨N - 1, by omega⟩
    obtain ⟨M1, q1, q2⟩ := H k (by omega) M hP
    rw [nI_dn, sDn_s]
    show ∃ M', fX6_ruesSo_B18 (fX6_ruesSo_L18 N) (nI s) (nI one) x3 old m l (nI k) M = _ ∧ _
    unfold fX6_ruesSo_B18
    rw [if_neg (nI_pos (by omega)), zG_t hin, nIc (show one < 2 ^ 31 by omega), zL_r, zB_s q1]
    by_cases c : rr k = -1
    · rw [if_neg (fun q => (so_if.mp q) c), if_pos c, zL_r, zL_r, nI_p1]
      exact ih N (b ||| zshl 1 (nI k)) (m + 1) (nI k) M1 q2 (by omega) (by omega)
    · rw [if_pos (so_if.mpr c), if_neg c, zL_r, nI_p1]
      exact ih N b m l M1 q2 (by omega) (by omega)
theorem tellsX_loop {q n : Nat} {x2 x3 : Int32} {MX : zM} {rr : Nat → Int32} (hn : n ≤ 100) (H : ∀ v, v < n → ∀ X, zO SX0 MX X → ∃ X', fX5_firstOtherwise q x2 x3 (nI v) X = some (rr v, X') ∧ zO SX0 MX X') : ∀ (k N : Nat) (b m l : Int32) (X : zM), zO SX0 MX X → k ≤ n → k < N → ∃ X', fX5_tells_L98 N x2 x3 q b m l (nI k - 1) X = some ((if x3 = 4 then (sDn rr k b m l).2.1 else if x3 = 5 then (sDn rr k b m l).2.2 else (sDn rr k b m l).1), X') ∧ zO SX0 MX X' := by
  intro k
  induction k with
  | zero =>
    intro N b m l X hX hk hN
    obtain ⟨N, rfl⟩ : ∃ q, N = q + 1 := ⟨N - 1, by omega⟩
    refine ⟨X, ?_, hX⟩
    show fX5_tells_B98 _ _ _ _ _ _ _ _ X = _
    unfold fX5_tells_B98
    rw [if_pos (by decide)]
    by_cases c : x3 = 4
    · rw [if_pos c, if_pos c]; rfl
    · rw [if_neg c, if_neg c]
      by_cases c5 : x3 = 5
      · rw [if_pos c5, if_pos c5]; rfl
      · rw [if_neg c5, if_neg c5]; rfl
  | succ k ih =>
    intro N b m l X hX hk hN
    obtain ⟨N, rfl⟩ : ∃ q, N = q + 1 := ⟨N - 1, by omega⟩
    obtain ⟨X1, q1, q2⟩ := H k (by omega) X hX
    rw [nI_dn, sDn_s]
    show ∃ X', fX5_tells_B98 (fX5_tells_L98 N) x2 x3 q b m l (nI k) X = _ ∧ _
    unfold fX5_tells_B98
    rw [if_neg (nI_pos (by omega)), zB_s q1]
    by_cases c : rr k = -1
    · rw [if_pos c, if_pos c, zL_r, zL_r, zL_r, nI_p1]
      exact ih N (b ||| zshl 1 (nI k)) (m + 1) (nI k) X1 q2 (by omega) (by omega)
    · rw [if_neg c, if_neg c, zL_r, nI_p1]
      exact ih N b m l X1 q2 (by omega) (by omega)

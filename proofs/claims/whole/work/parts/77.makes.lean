/-! makes -/
def sMk (tv : Nat → Bool) : Nat → Nat → Int32
  | 0 => fun _ => -1
  | d + 1 => fun x => if tv x = true then nI x else sMk tv d (x + 1)
/-- can be told at that minute, three of V -/
def gTl (V : zVw) (a b c m : Nat) : Prop := ∃ p, gOk (mN V a) (mN V b) (mN V c) m 0 p
theorem tBits_m {A B C b m : Nat} (h : tBits A B C b) (h1 : 1 ≤ m) (h30 : m ≤ 30) : b.testBit m = true ↔ ∃ p, gOk A B C m 0 p := by
  rw [h.2]
  exact ⟨fun q => q.2.2, fun q => ⟨h1, h30, q⟩⟩
/-- the reference's thought, while it pours and counts -/
theorem mTh_g {M0 M M' : zM} {V : zVw} (h : mTh M0 M V) (hg : gG M M') : ∃ M0', mTh M0' M' V ∧ gG M0 M0' := by
  obtain ⟨⟨t1, t2, t3⟩, ⟨k1, k2, k3, k4⟩, h3, h4, h5⟩ := h
  obtain ⟨u1, u2⟩ := gG_view hg h4
  obtain ⟨g1, g2, g3⟩ := hg
  refine ⟨(fun i => if i = 0 then (fun k => if k ∈ [33, 34, 35, 38, 39] then M'.1 0 k else M0.1 0 k) else if i = 15 ∨ i = 16 then M'.1 i else M0.1 i, M0.2), ⟨⟨g1.trans t1, fun i hi => ?_, fun k a b c d => ?_⟩, ⟨?_, ?_, fun j hj => ?_, fun j hj => ?_⟩, by rw [u1, h3], u2, h5⟩, ⟨rfl, fun i hi => ?_, fun k hk => ?_⟩⟩
  · show M'.1 i = if i = 0 then _ else if i = 15 ∨ i = 16 then M'.1 i else M0.1 i
    have i0 : i ≠ 0 := fun q => hi (by rw [q]; decide)
    rw [if_neg i0]
    by_cases c : i = 15 ∨ i = 16
    · rw [if_pos c]
    · rw [if_neg c, g2 i (fun q => by
        simp only [List.mem_cons, List.not_mem_nil, or_false] at q
        have a10 : i ≠ 10 := fun q => hi (by rw [q]; decide)
        have a11 : i ≠ 11 := fun q => hi (by rw [q]; decide)
        omega)]
      exact t2 i hi
  · show M'.1 0 k = if k ∈ [33, 34, 35, 38, 39] then M'.1 0 k else M0.1 0 k
    by_cases e : k ∈ [33, 34, 35, 38, 39]
    · rw [if_pos e]
    · rw [if_neg e, g3 k e]; exact t3 k a b c d
  · show M'.1 0 28 = M0.1 0 0
    rw [g3 28 (by decide)]; exact k1
  · show M'.1 0 29 = M0.1 0 1
    rw [g3 29 (by decide)]; exact k2
  · show M'.1 12 j = M0.1 3 j
    rw [g2 12 (by decide)]; exact k3 j hj
  · show M'.1 13 j = M0.1 4 j
    rw [g2 13 (by decide)]; exact k4 j hj
  · show (if i = 0 then _ else if i = 15 ∨ i = 16 then M'.1 i else M0.1 i) = M0.1 i
    rw [if_neg (fun q => hi (by rw [q]; decide)), if_neg (fun q => hi (by rcases q with q | q <;> rw [q] <;> decide))]
  · show (if k ∈ [33, 34, 35, 38, 39] then M'.1 0 k else M0.1 0 k) = M0.1 0 k
    rw [if_neg hk]
theorem isTold_e {M : zM} (hM : okM M) {a b c m : Nat} (ha : a < vN (vM M)) (hb : b < vN (vM M)) (hc : c < vN (vM M)) (h1 : 1 ≤ m) (h30 : m ≤ 30) {t : Bool} (ht : t = true ↔ gTl (vM M) a b c m) : ∃ M', fX6_isTold (nI (a * 100 + b * 10 + c)) (nI m) M = some ((if t = true then 1 else 0), M') ∧ gG M M' := by
  obtain ⟨M1, p1, p2, p3⟩ := pours_e hM ha hb hc
  obtain ⟨bt, M2, t1, t2, t3⟩ := told_e (mN_e (vM M) a).2 (mN_e (vM M) b).2 (mN_e (vM M) c).2 p2
  refine ⟨M2, ?_, gG_trans p3 (gG_F t3)⟩
  have e : bt.testBit m = true ↔ t = true := by
    rw [tBits_m t2 h1 h30, ht]
    rfl
  unfold fX6_isTold
  rw [zV_s p1, zB_s t1]
  by_cases c : t = true
  · rw [if_pos ((bitM t2.1 (by omega)).mpr (e.mpr c)), if_pos c]
  · rw [if_neg (fun q => c (e.mp ((bitM t2.1 (by omega)).mp q))), if_neg c]
theorem restores_k {M M' : zM} (h : fX6_restores M = some M') : M'.1 0 28 = M.1 0 28 ∧ M'.1 0 29 = M.1 0 29 ∧ M'.1 12 = M.1 12 ∧ M'.1 13 = M.1 13 := by
  obtain ⟨M1, e1⟩ : ∃ M1, M1 = zu M 0 0 (M.1 0 28) := ⟨_, rfl⟩
  obtain ⟨M2, e2⟩ : ∃ M2, M2 = zu M1 0 1 (M1.1 0 29) := ⟨_, rfl⟩
  obtain ⟨M'', q1, q2, -⟩ := restores_loop M2 5 0 zF M2 (zO_refl _ _) (fun j hj => absurd hj (by omega)) (by omega) (by unfold zF; omega)
  have q0 : fX6_restores M = some M'' := by
    unfold fX6_restores
    rw [zL_r, ← e1, zL_r, ← e2]
    exact q1
  rw [q0] at h
  have e := Option.some.inj h
  rw [← e]
  refine ⟨?_, ?_, ?_, ?_⟩
  · rw [q2.2 0 (by decide), e2, zu_other _ _ (by decide), e1, zu_other _ _ (by decide)]
  · rw [q2.2 0 (by decide), e2, zu_other _ _ (by decide), e1, zu_other _ _ (by decide)]
  · rw [q2.2 12 (by decide), e2, zu_row _ (by decide), e1, zu_row _ (by decide)]
  · rw [q2.2 13 (by decide), e2, zu_row _ (by decide), e1, zu_row _ (by decide)]
theorem drawM_loop {a b c m most : Nat} {V : zVw} (ha : a < vN V) (hb : b < vN V) (hc : c < vN V) (hab : a ≠ b) (h1 : 1 ≤ m) (h30 : m ≤ 30) (hm : most ≤ 40) (hr : nI most ≤ vRue V a) {tv : Nat → Bool} (ht : ∀ x, tv x = true ↔ gTl (sDraw V a b (nI x)) a b c m) : ∀ (d x N : Nat) (M0 M : zM), okM M0 → okV V → vM M0 = V → zBk M0 M → zKp M0 M → x + d = most + 1 → d + 1 < N → ∃ M0' M', fX6_drawFor_L48 N (nI (a * 100 + b * 10 + c)) (nI m) (nI a) (nI b) (nI most) (-1 : Int32) (nI x) M = some (sMk tv d x, M') ∧ zBk M0' M' ∧ gG M0 M0' := by
  intro d
  induction d with
  | zero =>
    intro x N M0 M hM hV hv hk hp hx hN
    obtain ⟨N, rfl⟩ : ∃ q, N = q + 1 := ⟨N - 1, by omega⟩
    refine ⟨M0, M, ?_, hk, gG_refl _⟩
    show fX6_drawFor_B48 _ _ _ _ _ _ _ _ M = _
    unfold fX6_drawFor_B48
    rw [if_pos ((nI_ltI (by omega) (by omega)).mpr (by omega))]
    rfl
  | succ d ih =>
    intro x N M0 M hM hV hv hk hp hx hN
    obtain ⟨N, rfl⟩ : ∃ q, N = q + 1 := ⟨N - 1, by omega⟩
    obtain ⟨v1, o1⟩ := vM_bk hM hk
    rw [hv] at v1
    have x999 : nI x ≤ 999 := by
      rw [show (999 : Int32) = nI 999 from rfl, nI_leI (by omega) (by omega)]
      omega
    have xr : nI x ≤ vRue V a := Int32.le_trans ((nI_leI (by omega) (by omega)).mpr (show x ≤ most by omega)) hr
    obtain ⟨M1, q1, q2, q3, q4, -⟩ := fX6_drawsOff_e o1 (by rw [v1]; exact hV) (i := a) (j := b) (by rw [v1]; exact ha) (by rw [v1]; exact hb) hab (nI_pos' (show x < 2 ^ 31 by omega)) x999
    rw [v1] at q2
    have hV1 : okV (sDraw V a b (nI x)) := sDraw_ok hV ha hb (nI_pos' (by omega)) xr
    have hT1 : mTh M0 M1 (sDraw V a b (nI x)) := by
      refine ⟨⟨q4.1.trans hk.1.1, fun i hi => ?_, fun k e0 e1 e2 e3 => ?_⟩, ⟨?_, ?_, fun j hj => ?_, fun j hj => ?_⟩, q2, q3, hV1⟩
      · rw [q4.2 i (fun q => hi (by
          simp only [List.mem_cons, List.not_mem_nil, or_false] at q
          simp only [ST, List.mem_cons, List.not_mem_nil, or_false]
          omega))]
        exact hk.1.2.1 i hi
      · rw [q4.2 0 (by decide)]
        exact hk.1.2.2 k e0 e1 e2 e3
      · rw [q4.2 0 (by decide)]; exact hp.1
      · rw [q4.2 0 (by decide)]; exact hp.2.1
      · rw [q4.2 12 (by decide)]; exact hp.2.2.1 j hj
      · rw [q4.2 13 (by decide)]; exact hp.2.2.2 j hj
    obtain ⟨M2, s1, s2⟩ := isTold_e (t := tv x) q3 (a := a) (b := b) (c := c) (m := m) (by rw [q2]; exact ha) (by rw [q2]; exact hb) (by rw [q2]; exact hc) h1 h30 (by rw [q2]; exact ht x)
    obtain ⟨M0', n1, n2⟩ := mTh_g hT1 s2
    obtain ⟨M3, b1, b3⟩ := mTh_back n1
    obtain ⟨w1, w2⟩ := gG_view n2 hM
    have hkp : zKp M0' M3 := by
      obtain ⟨r1, r2, r3, r4⟩ := restores_k b1
      obtain ⟨u1, u2, u3, u4⟩ := n1.2.1
      unfold zKp
      rw [r1, r2, r3, r4]
      exact ⟨u1, u2, u3, u4⟩
    have e : sMk tv (d + 1) x = if tv x = true then nI x else sMk tv d (x + 1) := rfl
    rw [e]
    show ∃ M0' M', fX6_drawFor_B48 (fX6_drawFor_L48 N) (nI (a * 100 + b * 10 + c)) (nI m) (nI a) (nI b) (nI most) (-1 : Int32) (nI x) M = _ ∧ _
    unfold fX6_drawFor_B48
    rw [if_neg (show ¬ nI most < nI x by rw [nI_ltI (by omega) (by omega)]; omega), if_pos rfl, zV_s q1, zB_s s1]
    by_cases c : tv x = true
    · rw [if_pos c, if_pos c, if_neg (show ¬ (1 : Int32) = 0 by decide), zV_s b1, zL_r, nI_1]
      obtain ⟨N, rfl⟩ : ∃ q, N = q + 1 := ⟨N - 1, by omega⟩
      refine ⟨M0', M3, ?_, b3, n2⟩
      show fX6_drawFor_B48 _ _ _ _ _ _ _ _ M3 = _
      unfold fX6_drawFor_B48
      by_cases l : nI most < nI (x + 1)
      · rw [if_pos l]
      · rw [if_neg l, if_neg (fun q => nI_pos (show x < 2 ^ 31 by omega) (by rw [q]; decide))]
    · rw [if_neg c, if_neg c, if_pos rfl, zV_s b1, zL_r, nI_1]
      obtain ⟨M0'', M', r1, r2, r3⟩ := ih (x + 1) N M0' M3 w2 hV (by rw [w1, hv]) b3 hkp (by omega) (by omega)
      exact ⟨M0'', M', r1, r2, gG_trans n2 r3⟩
theorem daysM_loop {a b c m : Nat} {V : zVw} (ha : a < vN V) (hb : b < vN V) (hc : c < vN V) (h1 : 1 ≤ m) (h30 : m ≤ 30) {tv : Nat → Bool} (ht : ∀ x, tv x = true ↔ gTl (sDays V x) a b c m) : ∀ (d x N : Nat) (M0 M : zM), mTh M0 M (sDays V (x - 1)) → x + d = 11 → d + 1 < N → ∃ M0' M', fX6_daysFor_L9 N (nI (a * 100 + b * 10 + c)) (nI m) (-1 : Int32) (nI x) M = some (sMk tv d x, M') ∧ zBk M0' M' ∧ gG M0 M0' := by
  intro d
  induction d with
  | zero =>
    intro x N M0 M h hx hN
    obtain ⟨N, rfl⟩ : ∃ q, N = q + 1 := ⟨N - 1, by omega⟩
    have : x = 11 := by omega
    subst this
    obtain ⟨M', b1, b2⟩ := mTh_back h
    refine ⟨M0, M', ?_, b2, gG_refl _⟩
    show fX6_daysFor_B9 _ _ _ _ _ M = _
    unfold fX6_daysFor_B9
    rw [if_pos (by decide), zV_s b1]
    rfl
  | succ d ih =>
    intro x N M0 M h hx hN
    obtain ⟨N, rfl⟩ : ∃ q, N = q + 1 := ⟨N - 1, by omega⟩
    have e : sMk tv (d + 1) x = if tv x = true then nI x else sMk tv d (x + 1) := rfl
    have J : ∀ M1 : zM, mTh M0 M1 (sDays V x) → ∃ M0' M', fX6_daysFor_J30 (fX6_daysFor_L9 N) (nI (a * 100 + b * 10 + c)) (nI m) (-1 : Int32) (nI x) M1 = some (sMk tv (d + 1) x, M') ∧ zBk M0' M' ∧ gG M0 M0' := by
      intro M1 h1'
      have hv1 := h1'.2.2.1
      obtain ⟨M2, s1, s2⟩ := isTold_e (t := tv x) h1'.2.2.2.1 (a := a) (b := b) (c := c) (m := m) (by rw [hv1, sDays_n]; exact ha) (by rw [hv1, sDays_n]; exact hb) (by rw [hv1, sDays_n]; exact hc) h1 h30 (by rw [hv1]; exact ht x)
      obtain ⟨M0', n1, n2⟩ := mTh_g h1' s2
      rw [e]
      unfold fX6_daysFor_J30
      rw [zB_s s1]
      by_cases c : tv x = true
      · rw [if_pos c, if_pos c, if_neg (show ¬ (1 : Int32) = 0 by decide), zL_r, nI_1]
        obtain ⟨N, rfl⟩ : ∃ q, N = q + 1 := ⟨N - 1, by omega⟩
        obtain ⟨M3, b1, b2⟩ := mTh_back n1
        refine ⟨M0', M3, ?_, b2, n2⟩
        show fX6_daysFor_B9 _ _ _ _ _ M2 = _
        unfold fX6_daysFor_B9
        by_cases l : (10 : Int32) < nI (x + 1)
        · rw [if_pos l, zV_s b1]
        · rw [if_neg l, if_neg (fun q => nI_pos (show x < 2 ^ 31 by omega) (by rw [q]; decide)), zV_s b1]
      · rw [if_neg c, if_neg c, if_pos rfl, zL_r, nI_1]
        obtain ⟨M0'', M', r1, r2, r3⟩ := ih (x + 1) N M0' M2 (by rw [show x + 1 - 1 = x by omega]; exact n1) (by omega) (by omega)
        exact ⟨M0'', M', r1, r2, gG_trans n2 r3⟩
    show ∃ M0' M', fX6_daysFor_B9 (fX6_daysFor_L9 N) (nI (a * 100 + b * 10 + c)) (nI m) (-1 : Int32) (nI x) M = _ ∧ _
    unfold fX6_daysFor_B9
    rw [if_neg (show ¬ (10 : Int32) < nI x by rw [show (10 : Int32) = nI 10 from rfl, nI_ltI (by omega) (by omega)]; omega), if_pos rfl]
    by_cases c0 : x = 0
    · rw [if_pos (by rw [c0]; decide)]
      exact J M (by rw [c0] at h ⊢; exact h)
    · rw [if_neg (by rw [show (0 : Int32) = nI 0 from rfl, nI_leI (by omega) (by omega)]; omega)]
      obtain ⟨M1, g1, g2⟩ := mTh_goes h
      rw [zV_s g1]
      exact J M1 (by rw [show x = x - 1 + 1 by omega]; exact g2)
/-- the class's: each try begins anew -/
theorem makesX_loop {a b c m most : Nat} {V : zVw} (ha : a < vN V) (hb : b < vN V) (hc : c < vN V) (h1 : 1 ≤ m) (h30 : m ≤ 30) (hm : most ≤ 40) {tv : Nat → Bool} (Vx : Nat → zVw) (hn : ∀ x, vN (Vx x) = vN V) (ht : ∀ x, tv x = true ↔ gTl (Vx x) a b c m) (x3 : Int32) {MX : zM} (hstep : ∀ x, x ≤ most → ∀ M, okX 17 M → vX 17 M = V → ∃ M', (if x3 = (0 : Int32) then fX4_drawOff 17 (nI a) (nI b) (nI x) M else fX4_passDays 17 (nI x) M) = some M' ∧ vX 17 M' = Vx x ∧ okX 17 M' ∧ zO (WS 17) M M') (hB : ∀ X, eX MX X → ∃ X1, fX4_become 17 10 X = some X1 ∧ vX 17 X1 = V ∧ okX 17 X1 ∧ zO SX0 X X1) : ∀ (d x N : Nat) (M : zM), eX MX M → zTab M → x + d = most + 1 → d < N → ∃ M', fX5_makes_L71 N (nI (a * 100 + b * 10 + c)) (nI m) x3 (nI a) (nI b) (nI most) (nI x) M = some (sMk tv d x, M') ∧ eX MX M' ∧ zTab M' := by
  intro d
  induction d with
  | zero =>
    intro x N M hM hT hx hN
    obtain ⟨N, rfl⟩ : ∃ q, N = q + 1 := ⟨N - 1, by omega⟩
    refine ⟨M, ?_, hM, hT⟩
    show fX5_makes_B71 _ _ _ _ _ _ _ _ M = _
    unfold fX5_makes_B71
    rw [if_pos ((nI_ltI (by omega) (by omega)).mpr (by omega))]
    rfl
  | succ d ih =>
    intro x N M hM hT hx hN
    obtain ⟨N, rfl⟩ : ∃ q, N = q + 1 := ⟨N - 1, by omega⟩
    obtain ⟨X1, y1, y2, y3, y4⟩ := hB M hM
    obtain ⟨X2, s1, s2, s3, s4⟩ := hstep x (by omega) X1 y3 y2
    have hX0 : zO SX0 M X2 := zO_trans y4 (WS_X0 s4)
    have hT2 : zTab X2 := zTab_ok M X2 (hX0.2 6 (by decide)) (hX0.2 9 (by decide)) hX0.1 hT
    have hw : isW 17 := Or.inr (Or.inl rfl)
    obtain ⟨bt, X3, t1, t2, t3, t4⟩ := xtimes_e hw s3 hT2 (a := a) (b := b) (c := c) (by rw [s2, hn]; exact ha) (by rw [s2, hn]; exact hb) (by rw [s2, hn]; exact hc)
    rw [s2] at t2
    have hM3 : eX MX X3 := eX_trans (eX_trans hM (eX_of hX0 (fun i hi => X0_SX hi))) (gX_eX t3)
    have e : sMk tv (d + 1) x = if tv x = true then nI x else sMk tv d (x + 1) := rfl
    have et : bt.testBit m = true ↔ tv x = true := by
      rw [tBits_m t2 h1 h30, ht]
      rfl
    have J : ∃ M', fX5_makes_J118 (fX5_makes_L71 N) (nI (a * 100 + b * 10 + c)) (nI m) x3 (nI a) (nI b) (nI most) (nI x) X2 = some (sMk tv (d + 1) x, M') ∧ eX MX M' ∧ zTab M' := by
      rw [e]
      unfold fX5_makes_J118
      rw [zB_s t1]
      by_cases c : tv x = true
      · rw [if_pos ((bitX t2.1 (by omega)).mpr (et.mpr c)), if_pos c]
        exact ⟨X3, rfl, hM3, t4⟩
      · rw [if_neg (fun q => c (et.mp ((bitX t2.1 (by omega)).mp q))), if_neg c, zL_r, nI_1]
        exact ih (x + 1) N X3 hM3 t4 (by omega) (by omega)
    obtain ⟨M', j1, j2⟩ := J
    refine ⟨M', ?_, j2⟩
    rw [← j1]
    show fX5_makes_B71 _ _ _ _ _ _ _ _ M = _
    unfold fX5_makes_B71
    rw [if_neg (show ¬ nI most < nI x by rw [nI_ltI (by omega) (by omega)]; omega), zV_s y1]
    by_cases c : x3 = (0 : Int32)
    · rw [if_pos c] at s1 ⊢
      rw [zV_s s1]
    · rw [if_neg c] at s1 ⊢
      rw [zV_s s1]
theorem tv_ex (P : Nat → Prop) : ∃ tv : Nat → Bool, ∀ x, tv x = true ↔ P x := ⟨fun x => @decide (P x) (Classical.propDecidable _), fun x => @decide_eq_true_iff (P x) (Classical.propDecidable _)⟩
theorem st_makes (MX MM : zM) (hR : RelT zTab MX MM) (a1 a2 a3 : Int32) : ∃ (r : Int32) (MX' MM' : zM), fX5_makes a1 a2 a3 MX = some (r, MX') ∧ fX6_makes a1 a2 a3 MM = some (r, MM') ∧ RelT zTab MX' MM' := by
  obtain ⟨hT, t, hP, hTx, hA, hSh, hI⟩ := id hR
  obtain ⟨n, r, hn, hr, a7, b2, a10, b7, oX, oM, oV, hv, n2, n1⟩ := rP_view hP hTx
  unfold fX5_makes fX6_makes
  rcases three_e hn a7 b2 a1 with ⟨a, b, c, ha, hb, hc, hab, -, -, rfl, h1, h2⟩ | ⟨h1, h2⟩
  rotate_left
  · rw [zB_s h1, zB_s h2, if_pos rfl, if_pos rfl]; exact ⟨_, MX, MM, rfl, rfl, hR⟩
  rw [zB_s h1, zB_s h2, if_neg (show ¬ (1 : Int32) = 0 by decide), if_neg (show ¬ (1 : Int32) = 0 by decide)]
  rcases minute_e a2 MX MM with ⟨m, m1, m30, rfl, h1, h2⟩ | ⟨h1, h2⟩
  rotate_left
  · rw [zB_s h1, zB_s h2, if_pos rfl, if_pos rfl]; exact ⟨_, MX, MM, rfl, rfl, hR⟩
  rw [zB_s h1, zB_s h2, if_neg (show ¬ (1 : Int32) = 0 by decide), if_neg (show ¬ (1 : Int32) = 0 by decide), zB_s (win5 _ _ _ _), zB_s (win6 _ _ _ _)]
  rcases zWin_c a3 0 1 with ⟨z3, -⟩ | ⟨z3, k5, k6⟩
  · rw [if_pos z3, if_pos z3]; exact ⟨-2, MX, MM, rfl, rfl, hR⟩
  rw [if_neg (show ¬ zWin a3 0 1 = 0 by rw [z3]; decide), if_neg (show ¬ zWin a3 0 1 = 0 by rw [z3]; decide)]
  obtain ⟨d1, d2, d3, d4⟩ := dgs (a := a) (b := b) (c := c) (by omega) (by omega) (by omega)
  have haV : a < vN (vM MM) := by rw [n2]; exact ha
  have hbV : b < vN (vM MM) := by rw [n2]; exact hb
  have hcV : c < vN (vM MM) := by rw [n2]; exact hc
  have hw : isW 17 := Or.inr (Or.inl rfl)
  have hB : ∀ X, eX MX X → ∃ X1, fX4_become 17 10 X = some X1 ∧ vX 17 X1 = vM MM ∧ okX 17 X1 ∧ zO SX0 X X1 := by
    intro X hX
    obtain ⟨g1, g2⟩ := vX_rows6 (w := 10) (M := MX) (M' := X) oX (fun k hk => hX _ (SX_w _ (Or.inl (by omega)))) (fun q hq => ⟨hX _ (SX_t q).1, hX _ (SX_t q).2⟩)
    obtain ⟨X1, y1, y2, y3, y4, -⟩ := fX4_become_e (w := 17) (v := 10) hw (Or.inl rfl) (by decide) g2
    exact ⟨X1, y1, by rw [y2, g1, hv], y3, W5_X0 y4⟩
  rw [dg_1 d4, d1, dg_2 d4, d2, zL_r, zL_r]
  by_cases c0 : a3 = (0 : Int32)
  · rw [if_pos c0, if_pos c0]
    -- drawn off
    obtain ⟨-, -, x3', -⟩ := vX_at (w := 10) (M := MX) (i := a) (by rw [n1]; exact ha)
    obtain ⟨-, -, m3', -⟩ := vM_at (M := MM) (i := a) haV
    rw [hv] at x3'
    have hrue := oV a haV
    obtain ⟨q, -, hq9, eq⟩ := i32_in (a := 0) (b := 999) hrue.1.1 hrue.1.2 (by omega) (by omega)
    obtain ⟨tv, htv⟩ := tv_ex (fun x => gTl (sDraw (vM MM) a b (nI x)) a b c m)
    have hmost : zmin (MX.1 13 a) (40 : Int32) = nI (min q 40) := by
      rw [← x3', eq, show (40 : Int32) = nI 40 from rfl, zmin_nI (by omega) (by omega)]
    obtain ⟨X', g1, g2, g3⟩ := makesX_loop (most := min q 40) haV hbV hcV m1 m30 (by omega) (fun x => sDraw (vM MM) a b (nI x)) (fun _ => rfl) htv a3 (MX := MX) (fun x hx M oM' vM' => by
      rw [if_pos c0]
      obtain ⟨M', e1, e2, e3, e4, -⟩ := fX4_drawOff_e hw oM' (i := a) (j := b) (by rw [vM']; exact haV) (by rw [vM']; exact hbV) hab (nI x)
      exact ⟨M', e1, by rw [e2, vM'], e3, zO_mono e4 (fun i hi => by
        simp only [List.mem_cons, List.not_mem_nil, or_false] at hi
        simp only [WS, List.mem_cons]
        omega)⟩) hB (min q 40 + 1) 0 zF MX (eX_refl _) hT (by omega) (by unfold zF; omega)
    obtain ⟨M2, k1, k2, k3⟩ := fX6_keeps_e MM
    obtain ⟨M0', M', r1, r2, r3⟩ := drawM_loop (most := min q 40) haV hbV hcV hab m1 m30 (by omega) (by rw [eq, nI_leI (by omega) (by omega)]; omega) htv (min q 40 + 1) 0 zF MM M2 oM oV rfl k2 k3 (by omega) (by unfold zF; omega)
    have g1' : fX5_makes_L71 zF (nI (a * 100 + b * 10 + c)) (nI m) a3 (nI a) (nI b) (nI (min q 40)) (0 : Int32) MX = _ := g1
    have r1' : fX6_drawFor_L48 zF (nI (a * 100 + b * 10 + c)) (nI m) (nI a) (nI b) (nI (min q 40)) (-1 : Int32) (0 : Int32) M2 = _ := r1
    refine ⟨sMk tv (min q 40 + 1) 0, X', M', ?_, ?_, RelT_M (RelT_X hR g2 g3) (eM_trans (gG_eM r3) (eM_bk r2))⟩
    · rw [zG_t (zin_nI (show a < 5 by omega) (by decide)), nIc (by omega), hmost, zL_r, g1']
    · have hd : fX6_drawFor (nI (a * 100 + b * 10 + c)) (nI m) MM = some (sMk tv (min q 40 + 1) 0, M') := by
        unfold fX6_drawFor
        rw [dg_1 d4, d1, zL_r, dg_2 d4, d2, zL_r, zG_t (zin_nI (show a < 5 by omega) (by decide)), nIc (by omega), ← m3', eq]
        by_cases c40 : 40 ≤ q
        · rw [if_pos (show (40 : Int32) ≤ nI q from (nI_leI (show 40 < 2 ^ 31 by decide) (by omega)).mpr c40), zV_s k1]
          rw [Nat.min_eq_right c40] at r1' ⊢
          exact r1'
        · rw [if_neg (show ¬ (40 : Int32) ≤ nI q from fun z => c40 ((nI_leI (show 40 < 2 ^ 31 by decide) (by omega)).mp z)), zG_t (zin_nI (show a < 5 by omega) (by decide)), zL_r, zV_s k1]
          rw [Nat.min_eq_left (by omega)] at r1' ⊢
          exact r1'
      rw [zB_s hd]
  · rw [if_neg c0, if_neg c0]
    obtain ⟨tv, htv⟩ := tv_ex (fun x => gTl (sDays (vM MM) x) a b c m)
    obtain ⟨X', g1, g2, g3⟩ := makesX_loop (most := 10) haV hbV hcV m1 m30 (by omega) (fun x => sDays (vM MM) x) (fun x => sDays_n _ x) htv a3 (MX := MX) (fun x hx M oM' vM' => by
      rw [if_neg c0]
      obtain ⟨M', e1, e2, e3, e4⟩ := fX4_passDays_e hw (m := x) (by omega) oM'
      exact ⟨M', e1, by rw [e2, vM'], e3, e4⟩) hB 11 0 zF MX (eX_refl _) hT (by omega) (by unfold zF; omega)
    obtain ⟨M2, k1, k2, k3⟩ := fX6_keeps_e MM
    obtain ⟨M0', M', r1, r2, r3⟩ := daysM_loop haV hbV hcV m1 m30 htv 11 0 zF MM M2 (mTh_keep oM oV k2 k3) (by omega) (by unfold zF; omega)
    have g1' : fX5_makes_L71 zF (nI (a * 100 + b * 10 + c)) (nI m) a3 (nI a) (nI b) (10 : Int32) (0 : Int32) MX = _ := g1
    have r1' : fX6_daysFor_L9 zF (nI (a * 100 + b * 10 + c)) (nI m) (-1 : Int32) (0 : Int32) M2 = _ := r1
    refine ⟨sMk tv 11 0, X', M', by rw [g1'], ?_, RelT_M (RelT_X hR g2 g3) (eM_trans (gG_eM r3) (eM_bk r2))⟩
    have hd : fX6_daysFor (nI (a * 100 + b * 10 + c)) (nI m) MM = some (sMk tv 11 0, M') := by
      unfold fX6_daysFor
      rw [zV_s k1, r1']
    rw [zB_s hd]

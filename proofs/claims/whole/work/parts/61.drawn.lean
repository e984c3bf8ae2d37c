/-! DRAWN by a SEED -/
def sWet (V : zVw) (w : Int32) : zVw := (vN V, vDay V, w, vKind V, vNum V, vRue V, vHad V, vT V)
/-- how many clog -/
def sCt (V : zVw) : Nat → Int32
  | 0 => 0
  | k + 1 => if sClg V k = 0 then sCt V k else sCt V k + 1
def cbN (V : zVw) : Nat → Nat
  | 0 => 0
  | k + 1 => if sClg V k = 0 then cbN V k else cbN V k + 2 ^ k
def popN (n : Nat) : Nat := n % 2 + n / 2 % 2 + n / 4 % 2 + n / 8 % 2 + n / 16 % 2
theorem or_bit : ∀ k, k < 5 → ∀ c, c < 2 ^ k → nI c ||| zshl 1 (nI k) = nI (c + 2 ^ k) := by decide
theorem pop_bit : ∀ k, k < 5 → ∀ c, c < 2 ^ k → popN (c + 2 ^ k) = popN c + 1 := by decide
theorem cbN_lt (V : zVw) : ∀ k, cbN V k < 2 ^ k
  | 0 => by
    show 0 < 2 ^ 0
    decide
  | k + 1 => by
    have h := cbN_lt V k
    have e : cbN V (k + 1) = if sClg V k = 0 then cbN V k else cbN V k + 2 ^ k := rfl
    rw [e, Nat.pow_succ]
    by_cases c : sClg V k = 0
    · rw [if_pos c]; omega
    · rw [if_neg c]; omega
theorem sClB_n (V : zVw) : ∀ k, k ≤ 5 → sClB V k = nI (cbN V k) ∧ sCt V k = nI (popN (cbN V k))
  | 0, _ => ⟨rfl, by
    show (0 : Int32) = nI (popN 0)
    decide⟩
  | k + 1, hk => by
    obtain ⟨h1, h2⟩ := sClB_n V k (by omega)
    have e0 : cbN V (k + 1) = if sClg V k = 0 then cbN V k else cbN V k + 2 ^ k := rfl
    have e1 : sClB V (k + 1) = if sClg V k = 0 then sClB V k else sClB V k ||| zshl 1 (nI k) := rfl
    have e2 : sCt V (k + 1) = if sClg V k = 0 then sCt V k else sCt V k + 1 := rfl
    rw [e0, e1, e2]
    by_cases c : sClg V k = 0
    · rw [if_pos c, if_pos c, if_pos c]; exact ⟨h1, h2⟩
    · rw [if_neg c, if_neg c, if_neg c, h1, h2, or_bit k (by omega) _ (cbN_lt V k), pop_bit k (by omega) _ (cbN_lt V k), nI_1]
      exact ⟨rfl, rfl⟩
def bcI (x0 : Int32) : Int32 :=
  let x1 := x0 - ((zushr x0 1) &&& 1431655765)
  let x2 := (x1 &&& 858993459) + ((zushr x1 2) &&& 858993459)
  let x3 := (x2 + (zushr x2 4)) &&& 252645135
  let x4 := x3 + (zushr x3 8)
  let x5 := x4 + (zushr x4 16)
  x5 &&& 63
theorem bcI_e : ∀ n, n < 32 → bcI (nI n) = nI (popN n) := by decide
theorem bitCount_e {n : Nat} (h : n < 32) (M : zM) : fJ6_bitCount_0f7a4 (nI n) M = some (nI (popN n), M) := by
  have e : fJ6_bitCount_0f7a4 (nI n) M = some (bcI (nI n), M) := rfl
  rw [e, bcI_e n h]
/-- what is drawn, d DAYS more -/
def sLot : Nat → zVw → Int32 → Int32 → Int32
  | 0 => fun _ _ c => c
  | d + 1 => fun V z c => sLot d (sDay (sWet V (zrm (zushr (z * 1103515245 + 12345) 9) 10))) (z * 1103515245 + 12345) (c + sCt (sDay (sWet V (zrm (zushr (z * 1103515245 + 12345) 9) 10))) (vN V))
theorem vX_wet {w : Nat} (hw : isW w) (M : zM) (v : Int32) : vX w (zu M w 9 v) = sWet (vX w M) v ∧ (okX w M → okX w (zu M w 9 v)) := by
  have h0 : ∀ k, k ≠ 9 → (zu M w 9 v).1 w k = M.1 w k := fun k hk => zu_other _ _ hk _
  have hr : ∀ a, a ≠ w → (zu M w 9 v).1 a = M.1 a := fun a ha => zu_row _ ha _ _
  have ht : ∀ r, (zu M w 9 v).1 (32 + 4 * r + 1) = M.1 (32 + 4 * r + 1) ∧ (zu M w 9 v).1 (32 + 4 * r + 2) = M.1 (32 + 4 * r + 2) := fun r => by
    refine ⟨hr _ ?_, hr _ ?_⟩ <;> rcases hw with rfl | rfl | rfl <;> omega
  have hc : ∀ r p, cX (zu M w 9 v) r p = cX M r p := fun r p => by unfold cX; rw [(ht r).1, (ht r).2]
  have htx : ∀ r, tX (zu M w 9 v) r = tX M r := fun r => by unfold tX; funext p nm; rw [hc]
  refine ⟨?_, fun hM => ?_⟩
  · unfold vX
    rw [h0 7 (by decide), h0 8 (by decide), h0 10 (by decide), hr (w + 1) (by omega), hr (w + 2) (by omega), hr (w + 3) (by omega), hr (w + 4) (by omega), htx, zu_same]
    rfl
  · obtain ⟨⟨n, hn', h7'⟩, r, hr', h10, hT⟩ := hM
    refine ⟨⟨n, hn', by rw [h0 7 (by decide)]; exact h7'⟩, r, hr', by rw [h0 10 (by decide)]; exact h10, ?_⟩
    unfold okT
    rw [(ht r).2]
    exact ⟨hT.1, fun p hp => by rw [hc]; exact hT.2 p hp⟩
theorem vM_wet (M : zM) (v : Int32) : vM (zu M 0 1 v) = sWet (vM M) v ∧ (okM M → okM (zu M 0 1 v)) := by
  have h0 : ∀ k, k ≠ 1 → (zu M 0 1 v).1 0 k = M.1 0 k := fun k hk => zu_other _ _ hk _
  have hr : ∀ a, a ≠ 0 → (zu M 0 1 v).1 a = M.1 a := fun a ha => zu_row _ ha _ _
  have htm : ∀ r, tM (zu M 0 1 v) r = tM M r := fun r => by
    unfold tM
    funext p nm
    rw [cM_rows (hr 6 (by decide)) (hr 7 (by decide)) (hr 8 (by decide))]
  refine ⟨?_, fun hM => ?_⟩
  · unfold vM
    rw [h0 2 (by decide), h0 0 (by decide), h0 7 (by decide), hr 1 (by decide), hr 2 (by decide), hr 3 (by decide), hr 4 (by decide), htm, zu_same]
    rfl
  · obtain ⟨⟨n, hn', h7''⟩, r, hr', h10, hT⟩ := hM
    exact ⟨⟨n, hn', by rw [h0 2 (by decide)]; exact h7''⟩, r, hr', by rw [h0 7 (by decide)]; exact h10, okTM_rows (hr 6 (by decide)) (hr 7 (by decide)) (hr 8 (by decide)) hT⟩
theorem mTh_wet {M0 M : zM} {V : zVw} (h : mTh M0 M V) (v : Int32) : mTh M0 (zu M 0 1 v) (sWet V v) := by
  obtain ⟨h1, h2, h3, h4, h5⟩ := h
  obtain ⟨g1, g2⟩ := zTh_wet h1 v
  obtain ⟨u1, u2⟩ := vM_wet M v
  exact ⟨g1, g2 h2, by rw [u1, h3], u2 h4, h5⟩
theorem lotX_loop (n : Nat) (hn : n ≤ 40) {M0 : zM} : ∀ (d i N : Nat) (z c : Int32) (V : zVw) (M : zM), okX 17 M → vX 17 M = V → zO SX0 M0 M → i + d = n → d < N → ∃ M', fX5_clogsBySeed_L19 N (nI n) z c (nI i) M = some (sLot d V z c, M') ∧ zO SX0 M0 M' := by
  intro d
  induction d with
  | zero =>
    intro i N z c V M hM hv hO hi hN
    obtain ⟨N, rfl⟩ : ∃ q, N = q + 1 := ⟨N - 1, by omega⟩
    have : i = n := by omega
    subst this
    refine ⟨M, ?_, hO⟩
    show fX5_clogsBySeed_B19 _ _ _ _ _ M = _
    unfold fX5_clogsBySeed_B19
    rw [if_pos (Int32.le_refl _)]
    rfl
  | succ d ih =>
    intro i N z c V M hM hv hO hi hN
    obtain ⟨N, rfl⟩ : ∃ q, N = q + 1 := ⟨N - 1, by omega⟩
    obtain ⟨z', ez⟩ : ∃ z', z' = z * 1103515245 + 12345 := ⟨_, rfl⟩
    obtain ⟨w', ew⟩ : ∃ w', w' = zrm (zushr z' 9) 10 := ⟨_, rfl⟩
    have hw : isW 17 := Or.inr (Or.inl rfl)
    obtain ⟨u1, u2⟩ := vX_wet hw M w'
    obtain ⟨X1, x1, x2, x3, x4, -⟩ := fX4_passDay_e hw (u2 hM)
    rw [u1, hv] at x2
    obtain ⟨X2, y1, y2⟩ := fX4_whoClog_e hw x3
    rw [x2] at y1
    have hV5 : vN (sDay (sWet V w')) ≤ 5 := by rw [← x2]; exact (okX_n x3).1
    obtain ⟨b1, b2⟩ := sClB_n (sDay (sWet V w')) _ hV5
    have hc32 : cbN (sDay (sWet V w')) (vN (sDay (sWet V w'))) < 32 := Nat.lt_of_lt_of_le (cbN_lt _ _) (Nat.pow_le_pow_right (by decide) hV5)
    have hO2 : zO SX0 M0 X2 := zO_trans (zO_trans (zO_trans hO (zO_zu _ _ _ _ (by decide))) (zO_mono x4 (fun i hi => by
      simp only [SC, List.mem_cons, List.not_mem_nil, or_false] at hi
      simp only [SX0, List.mem_cons, List.not_mem_nil, or_false]
      omega))) (SB_X0 y2)
    obtain ⟨M', q1, q2⟩ := ih (i + 1) N z' (c + sCt (sDay (sWet V w')) (vN (sDay (sWet V w')))) (sDay (sWet V w')) X2 (okX_congr hw (SBC y2) x3) (by rw [vX_congr hw (SBC y2), x2]) hO2 (by omega) (by omega)
    refine ⟨M', ?_, q2⟩
    have es : sLot (d + 1) V z c = sLot d (sDay (sWet V w')) z' (c + sCt (sDay (sWet V w')) (vN (sDay (sWet V w')))) := by rw [ew, ez]; rfl
    rw [es, ← q1]
    show fX5_clogsBySeed_B19 _ _ _ _ _ M = _
    unfold fX5_clogsBySeed_B19
    rw [if_neg (by rw [nI_leI (by omega) (by omega)]; omega), zL_r, ← ez, ← ew, zL_r, zV_s x1, zB_s y1, b1, zB_s (bitCount_e hc32 _), zL_r, zL_r, nI_1, b2]
theorem lotM_in {M0 : zM} {V : zVw} (r12 : Int32 → Int32 → Int32 → Int32 → zM → Option (Int32 × zM)) (x2 x3 c x5 : Int32) : ∀ (d k N : Nat) (M : zM), mTh M0 M V → k + d = vN V → d < N → ∃ M', fX6_byLot_L46 r12 N x2 x3 (c + sCt V k) x5 (nI k) M = r12 x2 x3 (c + sCt V (vN V)) (x5 + 1) M' ∧ mTh M0 M' V := by
  intro d
  induction d with
  | zero =>
    intro k N M h hk hN
    obtain ⟨N, rfl⟩ : ∃ q, N = q + 1 := ⟨N - 1, by omega⟩
    have : k = vN V := by omega
    subst this
    refine ⟨M, ?_, h⟩
    have h7 := (okM_n h.2.2.2.1).2
    rw [h.2.2.1] at h7
    show fX6_byLot_B46 _ _ _ _ _ _ _ M = _
    unfold fX6_byLot_B46
    rw [h7, if_pos (Int32.le_refl _), zL_r]
  | succ d ih =>
    intro k N M h hk hN
    obtain ⟨N, rfl⟩ : ∃ q, N = q + 1 := ⟨N - 1, by omega⟩
    obtain ⟨h5, h7⟩ := okM_n h.2.2.2.1
    rw [h.2.2.1] at h7 h5
    obtain ⟨M1, g1, g2⟩ := fX6_isClogged_e h.2.2.2.1 (i := k) (by rw [h.2.2.1]; omega)
    rw [h.2.2.1] at g1
    obtain ⟨M', q1, q2⟩ := ih (k + 1) N M1 (mTh_SN h g2) (by omega) (by omega)
    refine ⟨M', ?_, q2⟩
    rw [← q1]
    show fX6_byLot_B46 _ _ _ _ _ _ _ M = _
    unfold fX6_byLot_B46
    have e2 : sCt V (k + 1) = if sClg V k = 0 then sCt V k else sCt V k + 1 := rfl
    rw [h7, if_neg (by rw [nI_leI (by omega) (by omega)]; omega), zB_s g1, e2]
    by_cases cc : sClg V k = 0
    · rw [if_pos cc, if_pos cc, zL_r, nI_1]
    · rw [if_neg cc, if_neg cc, zL_r, zL_r, nI_1, Int32.add_assoc]
theorem lotM_loop (n : Nat) (hn : n ≤ 40) {M0 : zM} : ∀ (d i N : Nat) (z c : Int32) (V : zVw) (M : zM), mTh M0 M V → i + d = n → d < N → ∃ M', fX6_byLot_L12 N (nI n) z c (nI i) M = some (sLot d V z c, M') ∧ zBk M0 M' := by
  intro d
  induction d with
  | zero =>
    intro i N z c V M h hi hN
    obtain ⟨N, rfl⟩ : ∃ q, N = q + 1 := ⟨N - 1, by omega⟩
    have : i = n := by omega
    subst this
    obtain ⟨M', b1, b2⟩ := mTh_back h
    refine ⟨M', ?_, b2⟩
    show fX6_byLot_B12 _ _ _ _ _ M = _
    unfold fX6_byLot_B12
    rw [if_pos (Int32.le_refl _), zV_s b1]
    rfl
  | succ d ih =>
    intro i N z c V M h hi hN
    obtain ⟨N, rfl⟩ : ∃ q, N = q + 1 := ⟨N - 1, by omega⟩
    obtain ⟨z', ez⟩ : ∃ z', z' = z * 1103515245 + 12345 := ⟨_, rfl⟩
    obtain ⟨w', ew⟩ : ∃ w', w' = zrm (zushr z' 9) 10 := ⟨_, rfl⟩
    obtain ⟨M1, m1, m2⟩ := mTh_goes (mTh_wet h w')
    have h5 : vN (sDay (sWet V w')) ≤ 5 := by have := (okM_n m2.2.2.2.1).1; rw [m2.2.2.1] at this; exact this
    obtain ⟨M2, g1, g2⟩ := lotM_in (fX6_byLot_L12 N) (nI n) z' c (nI i) (vN (sDay (sWet V w'))) 0 zF M1 m2 (by omega) (by unfold zF; omega)
    obtain ⟨M', q1, q2⟩ := ih (i + 1) N z' (c + sCt (sDay (sWet V w')) (vN (sDay (sWet V w')))) (sDay (sWet V w')) M2 g2 (by omega) (by omega)
    refine ⟨M', ?_, q2⟩
    have es : sLot (d + 1) V z c = sLot d (sDay (sWet V w')) z' (c + sCt (sDay (sWet V w')) (vN (sDay (sWet V w')))) := by rw [ew, ez]; rfl
    have g1' : fX6_byLot_L46 (fX6_byLot_L12 N) zF (nI n) z' c (nI i) (0 : Int32) M1 = fX6_byLot_L12 N (nI n) z' (c + sCt (sDay (sWet V w')) (vN (sDay (sWet V w')))) (nI i + 1) M2 := by
      have e0 : c + sCt (sDay (sWet V w')) 0 = c := Int32.add_zero c
      rw [e0] at g1
      exact g1
    rw [es, ← q1]
    show fX6_byLot_B12 _ _ _ _ _ M = _
    unfold fX6_byLot_B12
    rw [if_neg (by rw [nI_leI (by omega) (by omega)]; omega), zL_r, ← ez, ← ew, zL_r, zV_s m1, g1', nI_1]
/-- both sides draw alike -/
theorem lot_e {T : zM → Prop} (hTab : tabOk T) {MX MM : zM} (hR : RelT T MX MM) (seed : Int32) {n : Nat} (hn : n ≤ 40) : ∃ (v : Int32) (MX' MM' : zM), fX5_clogsBySeed seed (nI n) MX = some (v, MX') ∧ fX6_byLot seed (nI n) MM = some (v, MM') ∧ RelT T MX' MM' := by
  obtain ⟨hT, t, hP, hTx, hA, hSh, hI⟩ := id hR
  obtain ⟨k, r, hk, hr, a7, b2, a10, b7, oX, oM, oV, hv, n2, n1⟩ := rP_view hP hTx
  obtain ⟨X1, x1, x2, x3, x4, -⟩ := fX4_become_e (w := 17) (v := 10) (Or.inr (Or.inl rfl)) (Or.inl rfl) (by decide) oX
  obtain ⟨M1, m1, m2, m3⟩ := fX6_keeps_e MM
  obtain ⟨X', y1, y2⟩ := lotX_loop n hn (M0 := MX) n 0 zF seed 0 (vM MM) X1 x3 (by rw [x2, hv]) (W5_X0 x4) (by omega) (by unfold zF; omega)
  obtain ⟨M', g1, g2⟩ := lotM_loop n hn (M0 := MM) n 0 zF seed 0 (vM MM) M1 (mTh_keep oM oV m2 m3) (by omega) (by unfold zF; omega)
  refine ⟨sLot n (vM MM) seed 0, X', M', ?_, ?_, RelT_both hTab hR y2 (eM_bk g2)⟩
  · unfold fX5_clogsBySeed
    rw [zV_s x1]
    exact y1
  · unfold fX6_byLot
    rw [zV_s m1]
    exact g1
theorem st_drawn {T : zM → Prop} (hTab : tabOk T) (MX MM : zM) (hR : RelT T MX MM) (a1 a2 : Int32) : ∃ (r : Int32) (MX' MM' : zM), fX5_drawn a1 a2 MX = some (r, MX') ∧ fX6_drawn a1 a2 MM = some (r, MM') ∧ RelT T MX' MM' := by
  unfold fX5_drawn fX6_drawn
  rw [zB_s (win5 _ _ _ _), zB_s (win6 _ _ _ _)]
  rcases zWin_c a2 0 40 with ⟨z1, -⟩ | ⟨z1, k1, k2⟩
  · rw [if_pos z1, if_pos z1]; exact ⟨-2, MX, MM, rfl, rfl, hR⟩
  rw [if_neg (show ¬ zWin a2 0 40 = 0 by rw [z1]; decide), if_neg (show ¬ zWin a2 0 40 = 0 by rw [z1]; decide)]
  obtain ⟨n, -, hn, rfl⟩ := i32_in (a := 0) (b := 40) k1 k2 (by omega) (by omega)
  obtain ⟨v, X', M', x1, m1, hR'⟩ := lot_e hTab hR a1 hn
  rw [zB_s x1, zB_s m1]
  exact ⟨v, X', M', rfl, rfl, hR'⟩

/-! drawn off -/
def sDraw (V : zVw) (i j : Nat) (v : Int32) : zVw := (vN V, vDay V, vWet V, vKind V, vNum V, (fun k => if k = j then zmin 999 (vRue V j + v) else if k = i then vRue V i - v else vRue V k), (fun k => if k = j then zmin 999 (vHad V j + v) else vHad V k), vT V)
theorem vX_upd {w : Nat} (hw : isW w) {M M' : zM} (h : zO ((w + 3) :: (w + 4) :: SC) M M') : vX w M' = (vN (vX w M), vDay (vX w M), vWet (vX w M), vKind (vX w M), vNum (vX w M), zt (vN (vX w M)) (M'.1 (w + 3)), zt (vN (vX w M)) (M'.1 (w + 4)), vT (vX w M)) ∧ (okX w M → okX w M') := by
  have hs : ∀ k, k < 3 → w + k ∉ ((w + 3) :: (w + 4) :: SC) := fun k hk q => by
    simp only [List.mem_cons] at q
    rcases q with q | q | q
    · omega
    · omega
    · exact SC_w hw k (by omega) q
  have e0 : M'.1 w = M.1 w := h.2 _ (hs 0 (by omega))
  have e1 : M'.1 (w + 1) = M.1 (w + 1) := h.2 _ (hs 1 (by omega))
  have e2 : M'.1 (w + 2) = M.1 (w + 2) := h.2 _ (hs 2 (by omega))
  have ht : ∀ r, M'.1 (32 + 4 * r + 1) = M.1 (32 + 4 * r + 1) ∧ M'.1 (32 + 4 * r + 2) = M.1 (32 + 4 * r + 2) := fun r => by
    refine ⟨h.2 _ ?_, h.2 _ ?_⟩ <;> rcases hw with rfl | rfl | rfl <;> simp [SC] <;> omega
  have hc : ∀ r p, cX M' r p = cX M r p := fun r p => by unfold cX; rw [(ht r).1, (ht r).2]
  have htx : ∀ r, tX M' r = tX M r := fun r => by unfold tX; funext p nm; rw [hc]
  refine ⟨?_, fun hM => ?_⟩
  · unfold vX
    rw [e0, e1, e2, htx]
  · obtain ⟨⟨n, hn', h7'⟩, r, hr, h10, hT⟩ := hM
    refine ⟨⟨n, hn', by rw [e0]; exact h7'⟩, r, hr, by rw [e0]; exact h10, ?_⟩
    unfold okT
    rw [(ht r).2]
    exact ⟨hT.1, fun p hp => by rw [hc]; exact hT.2 p hp⟩
theorem vM_upd {M M' : zM} (h : ∀ i, i ∉ [3, 4] → M'.1 i = M.1 i) : vM M' = (vN (vM M), vDay (vM M), vWet (vM M), vKind (vM M), vNum (vM M), zt (vN (vM M)) (M'.1 3), zt (vN (vM M)) (M'.1 4), vT (vM M)) ∧ (okM M → okM M') := by
  have e0 : M'.1 0 = M.1 0 := h 0 (by decide)
  have h6 : M'.1 6 = M.1 6 := h 6 (by decide)
  have h7 : M'.1 7 = M.1 7 := h 7 (by decide)
  have h8 : M'.1 8 = M.1 8 := h 8 (by decide)
  have htm : ∀ r, tM M' r = tM M r := fun r => by
    unfold tM
    funext p nm
    rw [cM_rows h6 h7 h8]
  refine ⟨?_, fun hM => ?_⟩
  · unfold vM
    rw [e0, h 1 (by decide), h 2 (by decide), htm]
  · obtain ⟨⟨n, hn', h7''⟩, r, hr, h10, hT⟩ := hM
    exact ⟨⟨n, hn', by rw [e0]; exact h7''⟩, r, hr, by rw [e0]; exact h10, okTM_rows h6 h7 h8 hT⟩
theorem zu_at1 (M : zM) (i n : Nat) (v : Int32) (j : Nat) : (zu M i n v).1 i j = if j = n then v else M.1 i j := by
  rw [zu_at]
  by_cases h : j = n
  · rw [if_pos ⟨rfl, h⟩, if_pos h]
  · rw [if_neg (fun q => h q.2), if_neg h]
theorem fX4_drawOff_e {w : Nat} (hw : isW w) {M : zM} (hM : okX w M) {i j : Nat} (hi : i < vN (vX w M)) (hj : j < vN (vX w M)) (hij : i ≠ j) (v : Int32) : ∃ M', fX4_drawOff w (nI i) (nI j) v M = some M' ∧ vX w M' = sDraw (vX w M) i j v ∧ okX w M' ∧ zO [w + 3, w + 4] M M' ∧ M'.1 (w + 3) i = M.1 (w + 3) i - v := by
  obtain ⟨hn, h7⟩ := okX_n hM
  have hin := zin_nI (show i < 5 by omega) (show 5 < 2 ^ 31 by decide)
  have hjn := zin_nI (show j < 5 by omega) (show 5 < 2 ^ 31 by decide)
  obtain ⟨M1, e1⟩ : ∃ M1, M1 = zu M (w + 3) i (M.1 (w + 3) i - v) := ⟨_, rfl⟩
  obtain ⟨M2, e2⟩ : ∃ M2, M2 = zu M1 (w + 3) j (zmin 999 (M1.1 (w + 3) j + v)) := ⟨_, rfl⟩
  obtain ⟨M3, e3⟩ : ∃ M3, M3 = zu M2 (w + 4) j (zmin 999 (M2.1 (w + 4) j + v)) := ⟨_, rfl⟩
  have hO : zO [w + 3, w + 4] M M3 := by
    rw [e3, e2, e1]
    exact zO_trans (zO_trans (zO_zu _ _ _ _ (by simp)) (zO_zu _ _ _ _ (by simp))) (zO_zu _ _ _ _ (by simp))
  have g3 : ∀ k, M3.1 (w + 3) k = if k = j then zmin 999 (M.1 (w + 3) j + v) else if k = i then M.1 (w + 3) i - v else M.1 (w + 3) k := fun k => by
    rw [e3, zu_row _ (by omega), e2, zu_at1, e1, zu_at1, zu_at1, if_neg (Ne.symm hij)]
  have g4 : ∀ k, M3.1 (w + 4) k = if k = j then zmin 999 (M.1 (w + 4) j + v) else M.1 (w + 4) k := fun k => by
    have r4 : M2.1 (w + 4) = M.1 (w + 4) := by rw [e2, zu_row _ (by omega), e1, zu_row _ (by omega)]
    rw [e3, zu_at1, r4]
  obtain ⟨u1, u2⟩ := vX_upd hw (zO_mono hO (fun a ha => by simp only [List.mem_cons, List.not_mem_nil, or_false] at ha; simp only [List.mem_cons]; rcases ha with h | h <;> simp [h]))
  obtain ⟨k1, k2, k3, k4⟩ := vX_at hi
  obtain ⟨l1, l2, l3, l4⟩ := vX_at hj
  refine ⟨M3, ?_, ?_, u2 hM, hO, by rw [g3, if_neg hij, if_pos rfl]⟩
  · unfold fX4_drawOff
    rw [zG_t hin, zG_t hin, nIc (show i < 2 ^ 31 by omega), zL_r, ← e1, zG_t hjn, zG_t hjn, nIc (show j < 2 ^ 31 by omega), zL_r, ← e2, zG_t hjn, zG_t hjn, zL_r, ← e3]
  · rw [u1]
    refine zV_ext rfl rfl rfl rfl rfl ?_ ?_ rfl
    · funext k
      show (if k < vN (vX w M) then M3.1 (w + 3) k else 0) = if k = j then zmin 999 (vRue (vX w M) j + v) else if k = i then vRue (vX w M) i - v else vRue (vX w M) k
      rw [g3, k3, l3]
      by_cases c : k < vN (vX w M)
      · rw [if_pos c, (vX_at c).2.2.1]
      · rw [if_neg c, if_neg (by omega), if_neg (by omega)]
        exact (zt_ge (by show vN (vX w M) ≤ k; omega) _).symm
    · funext k
      show (if k < vN (vX w M) then M3.1 (w + 4) k else 0) = if k = j then zmin 999 (vHad (vX w M) j + v) else vHad (vX w M) k
      rw [g4, l4]
      by_cases c : k < vN (vX w M)
      · rw [if_pos c, (vX_at c).2.2.2]
      · rw [if_neg c, if_neg (by omega)]
        exact (zt_ge (by show vN (vX w M) ≤ k; omega) _).symm
theorem fX6_drawsOff_e {M : zM} (hM : okM M) (hV : okV (vM M)) {i j : Nat} (hi : i < vN (vM M)) (hj : j < vN (vM M)) (hij : i ≠ j) {v : Int32} (hv0 : 0 ≤ v) (hv9 : v ≤ 999) : ∃ M', fX6_drawsOff (nI i) (nI j) v M = some M' ∧ vM M' = sDraw (vM M) i j v ∧ okM M' ∧ zO [3, 4] M M' ∧ M'.1 3 i = M.1 3 i - v := by
  obtain ⟨hn, h7⟩ := okM_n hM
  have hin := zin_nI (show i < 5 by omega) (show 5 < 2 ^ 31 by decide)
  have hjn := zin_nI (show j < 5 by omega) (show 5 < 2 ^ 31 by decide)
  obtain ⟨k1, k2, k3, k4⟩ := vM_at hi
  obtain ⟨l1, l2, l3, l4⟩ := vM_at hj
  obtain ⟨⟨o1, o2⟩, o3, o4⟩ := hV j hj
  rw [l3] at o1 o2
  rw [l4] at o3 o4
  obtain ⟨M1, e1⟩ : ∃ M1, M1 = zu M 3 i (M.1 3 i - v) := ⟨_, rfl⟩
  obtain ⟨M2, e2⟩ : ∃ M2, M2 = zu M1 3 j (zmin 999 (M.1 3 j + v)) := ⟨_, rfl⟩
  obtain ⟨M3, e3⟩ : ∃ M3, M3 = zu M2 4 j (zmin 999 (M.1 4 j + v)) := ⟨_, rfl⟩
  have a1 : M1.1 3 j = M.1 3 j := by rw [e1, zu_at1, if_neg (Ne.symm hij)]
  have a2 : M2.1 4 j = M.1 4 j := by rw [e2, zu_row _ (by decide), e1, zu_row _ (by decide)]
  have hO : zO [3, 4] M M3 := by
    rw [e3, e2, e1]
    exact zO_trans (zO_trans (zO_zu _ _ _ _ (by simp)) (zO_zu _ _ _ _ (by simp))) (zO_zu _ _ _ _ (by simp))
  have g3 : ∀ k, M3.1 3 k = if k = j then zmin 999 (M.1 3 j + v) else if k = i then M.1 3 i - v else M.1 3 k := fun k => by
    rw [e3, zu_row _ (by decide), e2, zu_at1, e1, zu_at1]
  have g4 : ∀ k, M3.1 4 k = if k = j then zmin 999 (M.1 4 j + v) else M.1 4 k := fun k => by
    have r4 : M2.1 4 = M.1 4 := by rw [e2, zu_row _ (by decide), e1, zu_row _ (by decide)]
    rw [e3, zu_at1, r4]
  obtain ⟨u1, u2⟩ := vM_upd hO.2
  refine ⟨M3, ?_, ?_, u2 hM, hO, by rw [g3, if_neg hij, if_pos rfl]⟩
  · unfold fX6_drawsOff
    rw [zG_t hin, zG_t hin, nIc (show i < 2 ^ 31 by omega), zL_r, ← e1, zG_t hjn, nIc (show j < 2 ^ 31 by omega), a1, zB_s (sBd_m (by decide) _), sBd_min (add_rng (A := 999) (B := 999) o1 o2 hv0 hv9 (by omega)).1, zG_t hjn, zL_r, ← e2, zG_t hjn, a2, zB_s (sBd_m (by decide) _), sBd_min (add_rng (A := 999) (B := 999) o3 o4 hv0 hv9 (by omega)).1, zG_t hjn, zL_r, ← e3]
  · rw [u1]
    refine zV_ext rfl rfl rfl rfl rfl ?_ ?_ rfl
    · funext k
      show (if k < vN (vM M) then M3.1 3 k else 0) = if k = j then zmin 999 (vRue (vM M) j + v) else if k = i then vRue (vM M) i - v else vRue (vM M) k
      rw [g3, k3, l3]
      by_cases c : k < vN (vM M)
      · rw [if_pos c, (vM_at c).2.2.1]
      · rw [if_neg c, if_neg (by omega), if_neg (by omega)]
        exact (zt_ge (by show vN (vM M) ≤ k; omega) _).symm
    · funext k
      show (if k < vN (vM M) then M3.1 4 k else 0) = if k = j then zmin 999 (vHad (vM M) j + v) else vHad (vM M) k
      rw [g4, l4]
      by_cases c : k < vN (vM M)
      · rw [if_pos c, (vM_at c).2.2.2]
      · rw [if_neg c, if_neg (by omega)]
        exact (zt_ge (by show vN (vM M) ≤ k; omega) _).symm
theorem sub_rng {a v : Int32} (h0 : 0 ≤ v) (hv : v ≤ a) (ha : a ≤ 999) : 0 ≤ a - v ∧ a - v ≤ 999 := by
  obtain ⟨x, -, hx, rfl⟩ := i32_in (a := 0) (b := 999) (Int32.le_trans h0 hv) ha (by omega) (by omega)
  obtain ⟨y, -, hy, rfl⟩ := i32_in (a := 0) (b := x) h0 hv (by omega) (by omega)
  rw [pk_sub hy]
  exact ⟨nI_pos' (by omega), by rw [show (999 : Int32) = nI 999 from rfl, nI_leI (by omega) (by omega)]; omega⟩
theorem sDraw_ok {V : zVw} (h : okV V) {i j : Nat} (hi : i < vN V) (hj : j < vN V) {v : Int32} (h0 : 0 ≤ v) (hv : v ≤ vRue V i) : okV (sDraw V i j v) := by
  obtain ⟨⟨a1, a2⟩, a3, a4⟩ := h i hi
  obtain ⟨⟨b1, b2⟩, b3, b4⟩ := h j hj
  have hv9 : v ≤ 999 := Int32.le_trans hv a2
  intro k hk
  have hk' : k < vN V := hk
  obtain ⟨⟨c1, c2⟩, c3, c4⟩ := h k hk'
  show (0 ≤ (if k = j then zmin 999 (vRue V j + v) else if k = i then vRue V i - v else vRue V k) ∧ (if k = j then zmin 999 (vRue V j + v) else if k = i then vRue V i - v else vRue V k) ≤ 999) ∧ (0 ≤ (if k = j then zmin 999 (vHad V j + v) else vHad V k) ∧ (if k = j then zmin 999 (vHad V j + v) else vHad V k) ≤ 999)
  by_cases ck : k = j
  · rw [if_pos ck, if_pos ck]
    exact ⟨zmin_rng (add_rng (A := 999) (B := 999) b1 b2 h0 hv9 (by omega)).1, zmin_rng (add_rng (A := 999) (B := 999) b3 b4 h0 hv9 (by omega)).1⟩
  · rw [if_neg ck, if_neg ck]
    by_cases ci : k = i
    · rw [if_pos ci]
      exact ⟨sub_rng h0 hv a2, c3, c4⟩
    · rw [if_neg ci]
      exact ⟨⟨c1, c2⟩, c3, c4⟩
theorem st_draw {T : zM → Prop} (hTab : tabOk T) (MX MM : zM) (hR : RelT T MX MM) (a1 a2 a3 : Int32) : ∃ (r : Int32) (MX' MM' : zM), fX5_draw a1 a2 a3 MX = some (r, MX') ∧ fX6_draw a1 a2 a3 MM = some (r, MM') ∧ RelT T MX' MM' := by
  obtain ⟨hT, t, hP, hTx, hA, hSh, hI⟩ := id hR
  obtain ⟨n, r, hn, hr, a7, b2, a10, b7, oX, oM, oV, hv, n2, n1⟩ := rP_view hP hTx
  obtain ⟨n', r', hn', hr', a7', b2', e8, e9, a10', b7', hd, hp⟩ := id hP
  have hnn : n' = n := (nI_eq (by omega) (by omega)).mp (b2'.symm.trans b2)
  subst hnn
  unfold fX5_draw fX6_draw
  rcases one_e hn a7 b2 a1 with ⟨i, hi, rfl, h1, h2⟩ | ⟨h1, h2⟩
  rotate_left
  · rw [zB_s h1, zB_s h2, if_pos rfl, if_pos rfl]; exact ⟨-2, MX, MM, rfl, rfl, hR⟩
  rw [zB_s h1, zB_s h2, if_neg (show ¬ (1 : Int32) = 0 by decide), if_neg (show ¬ (1 : Int32) = 0 by decide)]
  rcases one_e hn a7 b2 a2 with ⟨j, hj, rfl, h3, h4⟩ | ⟨h3, h4⟩
  rotate_left
  · rw [zB_s h3, zB_s h4, if_pos rfl, if_pos rfl]; exact ⟨-2, MX, MM, rfl, rfl, hR⟩
  rw [zB_s h3, zB_s h4, if_neg (show ¬ (1 : Int32) = 0 by decide), if_neg (show ¬ (1 : Int32) = 0 by decide)]
  by_cases cij : i = j
  · rw [if_pos (show nI i = nI j by rw [cij]), if_pos (show nI i = nI j by rw [cij])]; exact ⟨-2, MX, MM, rfl, rfl, hR⟩
  have hne : ¬ nI i = nI j := fun q => cij ((nI_eq (by omega) (by omega)).mp q)
  rw [if_neg hne, if_neg hne, zB_s (win5 _ _ _ _), zB_s (win6 _ _ _ _)]
  rcases zWin_c a3 0 999 with ⟨z1, -⟩ | ⟨z1, k1, k2⟩
  · rw [if_pos z1, if_pos z1]; exact ⟨-2, MX, MM, rfl, rfl, hR⟩
  have hin := zin_nI (show i < 5 by omega) (show 5 < 2 ^ 31 by decide)
  rw [if_neg (show ¬ zWin a3 0 999 = 0 by rw [z1]; decide), if_neg (show ¬ zWin a3 0 999 = 0 by rw [z1]; decide), zG_t hin, zG_t hin, nIc (by omega), (hp i hi).2.2.1.1]
  by_cases c : a3 ≤ MM.1 3 i
  rotate_left
  · rw [if_neg c, if_neg c]; exact ⟨-3, MX, MM, rfl, rfl, hR⟩
  rw [if_pos c, if_pos c]
  obtain ⟨X1, x1, x2, x3, x4, x5⟩ := fX4_drawOff_e (Or.inl rfl) oX (i := i) (j := j) (by omega) (by omega) cij a3
  obtain ⟨M1, m1, m2, m3, m4, m5⟩ := fX6_drawsOff_e oM oV (i := i) (j := j) (by omega) (by omega) cij k1 k2
  have x5' : X1.1 13 i = MM.1 3 i - a3 := by rw [show X1.1 13 i = MX.1 13 i - a3 from x5, (hp i hi).2.2.1.1]
  rw [zV_s x1, zV_s m1, zG_t hin, zG_t hin, x5', m5]
  obtain ⟨vv1, vv2, vv3, vv4⟩ := vM_at (M := MM) (i := i) (by omega)
  refine ⟨_, X1, M1, rfl, rfl, RelT_now hTab hR (zO_mono x4 (fun i hi => ?_)) (fun i hi => m4.2 i (fun q => hi ?_)) (fun k hk1 hk2 => by rw [m4.2 0 (by decide)]) (fun n'' h1 h2 => ⟨n'', Nat.le_refl _, h2, by rw [m4.2 0 (by decide)]; exact h1, fun i _ => by rw [m4.2 1 (by decide)]⟩) (fun t' hP' hT' => ?_)⟩
  · simp only [List.mem_cons, List.not_mem_nil, or_false] at hi
    simp only [SX0, List.mem_cons, List.not_mem_nil, or_false]
    omega
  · simp only [List.mem_cons, List.not_mem_nil, or_false] at q
    simp only [SR, List.mem_cons, List.not_mem_nil, or_false]
    omega
  · obtain ⟨q, rr, -, hrr, -, -, -, -, w10, w7, -, -⟩ := hP'
    have e1 : rr = r := by
      obtain ⟨-, g2, -⟩ := hT'
      obtain ⟨-, g6, -⟩ := hTx
      exact (nI_eq (by omega) (by omega)).mp (w7.symm.trans b7)
    subst e1
    refine rP_of (n := n') (r := rr) hn hrr (by rw [x4.2 10 (by decide)]; exact a7) (by rw [m4.2 0 (by decide)]; exact b2) (by rw [x4.2 10 (by decide)]; exact a10) (by rw [m4.2 0 (by decide)]; exact b7) (by rw [x2, m2, hv]) (by rw [m2]; exact sDraw_ok oV (by omega) (by omega) k1 (by rw [vv3]; exact c)) (by rw [m2]; exact hd) (fun i hi => ?_)
    rw [m2]
    obtain ⟨v1, v2, v3, v4⟩ := vM_at (M := MM) (i := i) (by rw [n2]; exact hi)
    show (0 ≤ vKind (vM MM) i ∧ vKind (vM MM) i ≤ 5) ∧ 0 ≤ vNum (vM MM) i
    rw [v1, v2]
    exact ⟨(hp i hi).1.2, (hp i hi).2.1.2⟩

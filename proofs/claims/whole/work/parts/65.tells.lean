/-! tells, class and reference side by side -/
def sUp (f : Nat → Int32) (i : Nat) (v : Int32) : Nat → Int32 := fun j => if j = i then v else f j
def sPut (V : zVw) (a i : Nat) (v : Int32) : zVw := (vN V, vDay V, vWet V, (if a = 1 then sUp (vKind V) i v else vKind V), (if a = 2 then sUp (vNum V) i v else vNum V), (if a = 3 then sUp (vRue V) i v else vRue V), (if a = 4 then sUp (vHad V) i v else vHad V), vT V)
def sTx (V : zVw) (tt : Nat → (Nat → Int32) → Int32) : zVw := (vN V, vDay V, vWet V, vKind V, vNum V, vRue V, vHad V, tt)
theorem X0_SX {a : Nat} (h : a ∈ SX0) : a ∈ SX := by
  simp only [SX0, List.mem_cons, List.not_mem_nil, or_false] at h
  simp only [SX, List.mem_cons, List.not_mem_nil, or_false]
  omega
theorem X0_t (r : Nat) : 32 + 4 * r + 1 ∉ SX0 ∧ 32 + 4 * r + 2 ∉ SX0 := ⟨fun q => (SX_t r).1 (X0_SX q), fun q => (SX_t r).2 (X0_SX q)⟩
theorem sBits_0 (rr : Nat → Int32) : sBits rr 0 = 0 := rfl
theorem okV_tx {V : zVw} (h : okV V) (tt : Nat → (Nat → Int32) → Int32) : okV (sTx V tt) := fun i hi => h i hi
theorem vN_tx (V : zVw) (tt : Nat → (Nat → Int32) → Int32) : vN (sTx V tt) = vN V := rfl
theorem zt_up {n i : Nat} (hi : i < n) (M : zM) (r : Nat) (v : Int32) : zt n ((zu M r i v).1 r) = sUp (zt n (M.1 r)) i v := by
  funext j
  show (if j < n then (zu M r i v).1 r j else 0) = if j = i then v else (if j < n then M.1 r j else 0)
  rw [zu_at1]
  by_cases c : j = i
  · rw [if_pos c, if_pos c, if_pos (by omega)]
  · rw [if_neg c, if_neg c]
theorem vX_put {w a i : Nat} (hw : isW w) (ha : 1 ≤ a ∧ a ≤ 4) {M : zM} (hi : i < vN (vX w M)) (v : Int32) : vX w (zu M (w + a) i v) = sPut (vX w M) a i v ∧ (okX w M → okX w (zu M (w + a) i v)) := by
  have hr : ∀ x, x ≠ w + a → (zu M (w + a) i v).1 x = M.1 x := fun x hx => zu_row _ hx _ _
  have e0 := hr w (by omega)
  have ht : ∀ r, (zu M (w + a) i v).1 (32 + 4 * r + 1) = M.1 (32 + 4 * r + 1) ∧ (zu M (w + a) i v).1 (32 + 4 * r + 2) = M.1 (32 + 4 * r + 2) := fun r => by
    refine ⟨hr _ ?_, hr _ ?_⟩ <;> rcases hw with rfl | rfl | rfl <;> omega
  have hc : ∀ r p, cX (zu M (w + a) i v) r p = cX M r p := fun r p => by unfold cX; rw [(ht r).1, (ht r).2]
  have htx : ∀ r, tX (zu M (w + a) i v) r = tX M r := fun r => by unfold tX; funext p nm; rw [hc]
  have G : ∀ b, 1 ≤ b → zt ((zu M (w + a) i v).1 w 7).toNatClampNeg ((zu M (w + a) i v).1 (w + b)) = if a = b then sUp (zt (M.1 w 7).toNatClampNeg (M.1 (w + b))) i v else zt (M.1 w 7).toNatClampNeg (M.1 (w + b)) := fun b hb => by
    rw [e0]
    by_cases c : a = b
    · rw [if_pos c]; subst c; exact zt_up hi M _ v
    · rw [if_neg c, hr (w + b) (by omega)]
  refine ⟨zV_ext ?_ ?_ ?_ (G 1 (by omega)) (G 2 (by omega)) (G 3 (by omega)) (G 4 (by omega)) ?_, fun hM => ?_⟩
  · show ((zu M (w + a) i v).1 w 7).toNatClampNeg = (M.1 w 7).toNatClampNeg; rw [e0]
  · show (zu M (w + a) i v).1 w 8 = M.1 w 8; rw [e0]
  · show (zu M (w + a) i v).1 w 9 = M.1 w 9; rw [e0]
  · show tX (zu M (w + a) i v) ((zu M (w + a) i v).1 w 10).toNatClampNeg = tX M (M.1 w 10).toNatClampNeg; rw [e0, htx]
  · obtain ⟨⟨n, hn', h7'⟩, r, hr', h10, hT⟩ := hM
    refine ⟨⟨n, hn', by rw [e0]; exact h7'⟩, r, hr', by rw [e0]; exact h10, ?_⟩
    unfold okT
    rw [(ht r).2]
    exact ⟨hT.1, fun p hp => by rw [hc]; exact hT.2 p hp⟩
theorem vM_put {a i : Nat} (ha : 1 ≤ a ∧ a ≤ 4) {M : zM} (hi : i < vN (vM M)) (v : Int32) : vM (zu M a i v) = sPut (vM M) a i v ∧ (okM M → okM (zu M a i v)) := by
  have hr : ∀ x, x ≠ a → (zu M a i v).1 x = M.1 x := fun x hx => zu_row _ hx _ _
  have e0 := hr 0 (by omega)
  have h6 := hr 6 (by omega)
  have h7 := hr 7 (by omega)
  have h8 := hr 8 (by omega)
  have htm : ∀ r, tM (zu M a i v) r = tM M r := fun r => by
    unfold tM
    funext p nm
    rw [cM_rows h6 h7 h8]
  have G : ∀ b, zt ((zu M a i v).1 0 2).toNatClampNeg ((zu M a i v).1 b) = if a = b then sUp (zt (M.1 0 2).toNatClampNeg (M.1 b)) i v else zt (M.1 0 2).toNatClampNeg (M.1 b) := fun b => by
    rw [e0]
    by_cases c : a = b
    · rw [if_pos c]; subst c; exact zt_up hi M _ v
    · rw [if_neg c, hr b (by omega)]
  refine ⟨zV_ext ?_ ?_ ?_ (G 1) (G 2) (G 3) (G 4) ?_, fun hM => ?_⟩
  · show ((zu M a i v).1 0 2).toNatClampNeg = (M.1 0 2).toNatClampNeg; rw [e0]
  · show (zu M a i v).1 0 0 = M.1 0 0; rw [e0]
  · show (zu M a i v).1 0 1 = M.1 0 1; rw [e0]
  · show tM (zu M a i v) ((zu M a i v).1 0 7).toNatClampNeg = tM M (M.1 0 7).toNatClampNeg; rw [e0, htm]
  · obtain ⟨⟨n, hn', h7'⟩, r, hr', h10, hT⟩ := hM
    exact ⟨⟨n, hn', by rw [e0]; exact h7'⟩, r, hr', by rw [e0]; exact h10, okTM_rows h6 h7 h8 hT⟩
theorem vX_txt {w v : Nat} (hw : isW w) (hv : v < 6) {M : zM} (hM : okX w M) (hT : okT M v) : vX w (zu M w 10 (nI v)) = sTx (vX w M) (tX M v) ∧ okX w (zu M w 10 (nI v)) := by
  have h0 : ∀ k, k ≠ 10 → (zu M w 10 (nI v)).1 w k = M.1 w k := fun k hk => zu_other _ _ hk _
  have hr : ∀ a, a ≠ w → (zu M w 10 (nI v)).1 a = M.1 a := fun a ha => zu_row _ ha _ _
  have ht : ∀ r, (zu M w 10 (nI v)).1 (32 + 4 * r + 1) = M.1 (32 + 4 * r + 1) ∧ (zu M w 10 (nI v)).1 (32 + 4 * r + 2) = M.1 (32 + 4 * r + 2) := fun r => by
    refine ⟨hr _ ?_, hr _ ?_⟩ <;> rcases hw with rfl | rfl | rfl <;> omega
  have hc : ∀ r p, cX (zu M w 10 (nI v)) r p = cX M r p := fun r p => by unfold cX; rw [(ht r).1, (ht r).2]
  have htx : ∀ r, tX (zu M w 10 (nI v)) r = tX M r := fun r => by unfold tX; funext p nm; rw [hc]
  refine ⟨?_, ?_⟩
  · unfold vX
    rw [h0 7 (by decide), h0 8 (by decide), h0 9 (by decide), hr (w + 1) (by omega), hr (w + 2) (by omega), hr (w + 3) (by omega), hr (w + 4) (by omega), htx, zu_same, nIc (by omega)]
    rfl
  · obtain ⟨⟨n, hn', h7'⟩, r, hr', h10, hT'⟩ := hM
    refine ⟨⟨n, hn', by rw [h0 7 (by decide)]; exact h7'⟩, v, hv, zu_same _ _ _ _, ?_⟩
    unfold okT
    rw [(ht v).2]
    exact ⟨hT.1, fun p hp => by rw [hc]; exact hT.2 p hp⟩
theorem vM_txt {v : Nat} (hv : v < 6) {M : zM} (hM : okM M) (hT : okTM M v) : vM (zu M 0 7 (nI v)) = sTx (vM M) (tM M v) ∧ okM (zu M 0 7 (nI v)) := by
  have h0 : ∀ k, k ≠ 7 → (zu M 0 7 (nI v)).1 0 k = M.1 0 k := fun k hk => zu_other _ _ hk _
  have hr : ∀ a, a ≠ 0 → (zu M 0 7 (nI v)).1 a = M.1 a := fun a ha => zu_row _ ha _ _
  have h6 := hr 6 (by omega)
  have h7 := hr 7 (by omega)
  have h8 := hr 8 (by omega)
  have htm : ∀ r, tM (zu M 0 7 (nI v)) r = tM M r := fun r => by
    unfold tM
    funext p nm
    rw [cM_rows h6 h7 h8]
  refine ⟨?_, ?_⟩
  · unfold vM
    rw [h0 2 (by decide), h0 0 (by decide), h0 1 (by decide), hr 1 (by decide), hr 2 (by decide), hr 3 (by decide), hr 4 (by decide), htm, zu_same, nIc (by omega)]
    rfl
  · obtain ⟨⟨n, hn', h7'⟩, r, hr', h10, hT'⟩ := hM
    exact ⟨⟨n, hn', by rw [h0 2 (by decide)]; exact h7'⟩, v, hv, zu_same _ _ _ _, okTM_rows h6 h7 h8 hT⟩
theorem okV_put {V : zVw} (h : okV V) (a i : Nat) {v : Int32} (h0 : 0 ≤ v) (h9 : v ≤ 999) : okV (sPut V a i v) := by
  intro j hj
  obtain ⟨g1, g2⟩ := h j hj
  constructor
  · show 0 ≤ (if a = 3 then sUp (vRue V) i v else vRue V) j ∧ (if a = 3 then sUp (vRue V) i v else vRue V) j ≤ 999
    by_cases c : a = 3
    · rw [if_pos c]
      show 0 ≤ (if j = i then v else vRue V j) ∧ (if j = i then v else vRue V j) ≤ 999
      by_cases e : j = i
      · rw [if_pos e]; exact ⟨h0, h9⟩
      · rw [if_neg e]; exact g1
    · rw [if_neg c]; exact g1
  · show 0 ≤ (if a = 4 then sUp (vHad V) i v else vHad V) j ∧ (if a = 4 then sUp (vHad V) i v else vHad V) j ≤ 999
    by_cases c : a = 4
    · rw [if_pos c]
      show 0 ≤ (if j = i then v else vHad V j) ∧ (if j = i then v else vHad V j) ≤ 999
      by_cases e : j = i
      · rw [if_pos e]; exact ⟨h0, h9⟩
      · rw [if_neg e]; exact g2
    · rw [if_neg c]; exact g2
theorem firstX_J {s one z : Nat} (hz : z ≤ 40) {M0 : zM} {cells : Nat → Int32} (hc : ∀ j, j < 40 → M0.1 (57 + 2 * s) j = cells j) (h2 : M0.1 (56 + 2 * s) 2 = nI z) {V : zVw} {M : zM} (hM : okX 17 M) (hv : vX 17 M = V) (hone : one < vN V) (hO : zO SX0 M0 M) : ∃ M', fX5_firstOtherwise_J130 (56 + 2 * s) (nI one) M = some (sWr cells one z 0 V, M') ∧ zO SX0 M0 M' := by
  obtain ⟨M', q1, q2⟩ := firstX_loop hz hc h2 z 0 zF V M hM hv hone hO (by omega) (by unfold zF; omega)
  have q1' : fX5_firstOtherwise_L133 (56 + 2 * s) zF (nI one) (0 : Int32) M = _ := q1
  refine ⟨M', ?_, q2⟩
  unfold fX5_firstOtherwise_J130
  rw [q1']
theorem st_tells {T : zM → Prop} (hTab : tabOk T) (MX MM : zM) (hR : RelT T MX MM) (a1 a2 a3 : Int32) : ∃ (r : Int32) (MX' MM' : zM), fX5_tells a1 a2 a3 MX = some (r, MX') ∧ fX6_tells a1 a2 a3 MM = some (r, MM') ∧ RelT T MX' MM' := by
  obtain ⟨hT, t, hP, hTx, hA, hSh, hI⟩ := id hR
  obtain ⟨n, r, hn, hr, a7, b2, a10, b7, oX, oM, oV, hv, n2, n1⟩ := rP_view hP hTx
  unfold fX5_tells fX6_tells
  rw [zB_s (win5 _ _ _ _), zB_s (isSheet_e _ _)]
  rcases zWin_c a1 0 3 with ⟨z1, -⟩ | ⟨z1, k1, k2⟩
  · rw [if_pos z1, if_pos z1]; exact ⟨-2, MX, MM, rfl, rfl, hR⟩
  obtain ⟨s, -, hs3, rfl⟩ := i32_in (a := 0) (b := 3) k1 k2 (by omega) (by omega)
  have hs : s < 4 := by omega
  have hin := zin_nI hs (show 4 < 2 ^ 31 by decide)
  rw [if_neg (show ¬ zWin (nI s) 0 3 = 0 by rw [z1]; decide), if_neg (show ¬ zWin (nI s) 0 3 = 0 by rw [z1]; decide)]
  rcases one_e hn a7 b2 a2 with ⟨i, hi, rfl, h1, h2⟩ | ⟨h1, h2⟩
  rotate_left
  · rw [zB_s h1, zB_s h2, if_pos rfl, if_pos rfl]; exact ⟨-2, MX, MM, rfl, rfl, hR⟩
  rw [zB_s h1, zB_s h2, if_neg (show ¬ (1 : Int32) = 0 by decide), if_neg (show ¬ (1 : Int32) = 0 by decide), zB_s (win5 _ _ _ _), zB_s (win6 _ _ _ _)]
  rcases zWin_c a3 0 7 with ⟨z3, -⟩ | ⟨z3, k5, k6⟩
  · rw [if_pos z3, if_pos z3]; exact ⟨-2, MX, MM, rfl, rfl, hR⟩
  obtain ⟨w, -, hw7, rfl⟩ := i32_in (a := 0) (b := 7) k5 k6 (by omega) (by omega)
  rw [if_neg (show ¬ zWin (nI w) 0 7 = 0 by rw [z3]; decide), if_neg (show ¬ zWin (nI w) 0 7 = 0 by rw [z3]; decide), zG_t hin, zG_t hin, nIc (show s < 2 ^ 31 by omega), zL_r]
  obtain ⟨⟨u1, u2, u3⟩, ⟨z, hz, e1, e2⟩, hcell⟩ := hSh s hs
  by_cases c1 : MM.1 20 s = -1
  · rw [if_pos (by rw [u1]; exact c1), if_neg (by rw [c1]; decide)]
    exact ⟨-11, MX, MM, rfl, rfl, hR⟩
  have hge : 0 ≤ MM.1 20 s := Int32.not_lt.mp (fun q => c1 ((m1_neg u2).mp q))
  rw [if_neg (by rw [u1]; exact c1), if_pos hge, zG_t hin, e1, e2]
  by_cases c2 : nI z ≤ 30
  rotate_left
  · rw [if_neg c2, if_neg c2]; exact ⟨-2, MX, MM, rfl, rfl, hR⟩
  rw [if_pos c2, if_pos c2]
  obtain ⟨cells, ecells⟩ : ∃ cells : Nat → Int32, cells = fun j => MM.1 22 (40 * s + j) := ⟨_, rfl⟩
  have hcM : ∀ j, j < 40 → MM.1 22 (40 * s + j) = cells j := fun j _ => by rw [ecells]
  have hcX : ∀ j, j < 40 → MX.1 (57 + 2 * s) j = cells j := fun j hj => by rw [ecells]; exact hcell j hj
  have hw : isW 17 := Or.inr (Or.inl rfl)
  have hi5 : i < 5 := by omega
  have hin5 := zin_nI hi5 (show 5 < 2 ^ 31 by decide)
  obtain ⟨t1, t6, tc7, tc10, htx, -⟩ := id hTx
  -- thought becomes now
  have B : ∀ X, zO SX0 MX X → ∃ X1, fX4_become 17 10 X = some X1 ∧ vX 17 X1 = vM MM ∧ okX 17 X1 ∧ zO SX0 MX X1 := by
    intro X hX
    have hrow : ∀ a, (10 ≤ a ∧ a < 15 ∨ (∃ q, q < 6 ∧ (a = 32 + 4 * q + 1 ∨ a = 32 + 4 * q + 2))) → X.1 a = MX.1 a := fun a ha => hX.2 a (fun q => by
      simp only [SX0, List.mem_cons, List.not_mem_nil, or_false] at q
      rcases ha with ha | ⟨b, hb, ha⟩ <;> omega)
    obtain ⟨g1, g2⟩ := vX_rows6 (w := 10) (M := MX) (M' := X) oX (fun k hk => hrow _ (Or.inl (by omega))) (fun q hq => ⟨hrow _ (Or.inr ⟨q, hq, Or.inl rfl⟩), hrow _ (Or.inr ⟨q, hq, Or.inr rfl⟩)⟩)
    obtain ⟨X1, y1, y2, y3, y4, -⟩ := fX4_become_e (w := 17) (v := 10) hw (Or.inl rfl) (by decide) g2
    exact ⟨X1, y1, by rw [y2, g1, hv], y3, zO_trans hX (W5_X0 y4)⟩
  have L : ∀ (X1 : zM) (V : zVw) (who : Nat), okX 17 X1 → vX 17 X1 = V → who < vN V → zO SX0 MX X1 → ∃ X', fX5_firstOtherwise_J130 (56 + 2 * s) (nI who) X1 = some (sWr cells who z 0 V, X') ∧ zO SX0 MX X' := fun X1 V who o e h hO => firstX_J hz hcX e1 o e h hO
  have fin : ∀ (m : Nat) (rr : Nat → Int32) (r6 : Option (Int32 × zM)), m ≤ 100 → (∀ v, v < m → ∀ X, zO SX0 MX X → ∃ X', fX5_firstOtherwise (56 + 2 * s) (nI i) (nI w) (nI v) X = some (rr v, X') ∧ zO SX0 MX X') → fX5_choices (nI w) MX = some (nI m, MX) → (∃ M', r6 = some ((if nI w = 4 then (sDn rr m 0 0 (-1)).2.1 else if nI w = 5 then (sDn rr m 0 0 (-1)).2.2 else (sDn rr m 0 0 (-1)).1), M') ∧ zBk MM M') → ∃ (r : Int32) (MX' MM' : zM), (zB (fX5_choices (nI w) MX) fun r_20 M_18 => zL (r_20 - (1 : Int32)) fun x8_21 => fX5_tells_L98 zF (nI i) (nI w) (56 + 2 * s) (0 : Int32) (0 : Int32) (-1 : Int32) x8_21 M_18) = some (r, MX') ∧ r6 = some (r, MM') ∧ RelT T MX' MM' := by
    intro m rr r6 hm HX hch hM6
    obtain ⟨M', m1, m2⟩ := hM6
    obtain ⟨X', x1, x2⟩ := tellsX_loop hm HX m zF 0 0 (-1) MX (zO_refl _ _) (Nat.le_refl _) (by unfold zF; omega)
    exact ⟨_, X', M', by rw [zB_s hch, zL_r]; exact x1, m1, RelT_both hTab hR x2 (eM_bk m2)⟩
  have hiM : i < vN (vM MM) := by rw [n2]; exact hi
  rcases (show w = 0 ∨ w = 1 ∨ w = 2 ∨ w = 3 ∨ w = 4 ∨ w = 5 ∨ w = 6 ∨ w = 7 by omega) with rfl | rfl | rfl | rfl | rfl | rfl | rfl | rfl
  · -- nothing changed
    rw [if_pos (show nI 0 = 0 from rfl), if_pos (show nI 0 = 0 from rfl)]
    obtain ⟨X1, x1, x2, x3, x4⟩ := B MX (zO_refl _ _)
    obtain ⟨X', y1, y2⟩ := L X1 (vM MM) i x3 x2 hiM x4
    obtain ⟨M', m1, m2⟩ := fX6_wrong_e hs hz hcM e2 oM oV hiM
    refine ⟨sWr cells i z 0 (vM MM), X', M', ?_, ?_, RelT_both hTab hR y2 (eM_bk m2)⟩
    · have q : fX5_firstOtherwise (56 + 2 * s) (nI i) (nI 0) (0 : Int32) MX = some (sWr cells i z 0 (vM MM), X') := by
        unfold fX5_firstOtherwise
        rw [if_neg (show ¬ nI 0 = 7 by decide)]
        unfold fX5_firstOtherwise_J12
        rw [zV_s x1, if_neg (show ¬ nI 0 = 1 by decide), if_neg (show ¬ nI 0 = 2 by decide), if_neg (show ¬ nI 0 = 3 by decide), if_neg (show ¬ nI 0 = 4 by decide), if_neg (show ¬ nI 0 = 5 by decide), if_neg (show ¬ nI 0 = 6 by decide), y1]
      rw [zB_s q]
    · rw [zB_s m1]
  · -- kinds
    rw [if_neg (show ¬ nI 1 = 0 by decide), if_neg (show ¬ nI 1 = 0 by decide), if_pos (show nI 1 = 1 from rfl)]
    refine fin 6 (fun v => sWr cells i z 0 (vM (zu MM 1 i (nI v)))) _ (by omega) ?_ (by rfl) ?_
    · intro v hv6 X hX
      obtain ⟨X1, x1, x2, x3, x4⟩ := B X hX
      obtain ⟨p1, p2⟩ := vX_put (a := 1) (i := i) hw (by omega) (M := X1) (by rw [x2]; exact hiM) (nI v)
      obtain ⟨p3, p4⟩ := vM_put (a := 1) (i := i) (by omega) (M := MM) hiM (nI v)
      obtain ⟨X', y1, y2⟩ := L (zu X1 (17 + 1) i (nI v)) (vM (zu MM 1 i (nI v))) i (p2 x3) (by rw [p1, p3, x2]) (by rw [p3]; exact hiM) (zO_trans x4 (zO_zu _ _ _ _ (by decide)))
      refine ⟨X', ?_, y2⟩
      unfold fX5_firstOtherwise
      rw [if_neg (show ¬ nI 1 = 7 by decide)]
      unfold fX5_firstOtherwise_J12
      rw [zV_s x1, if_pos (show nI 1 = 1 from rfl), zG_t hin5, nIc (show i < 2 ^ 31 by omega), zL_r]
      exact y1
    · have H := so_step (a := 1) (k := i) (n := 6) (one := i) hs hz hcM e2 (by omega) (fun v hv6 => by
        obtain ⟨p3, p4⟩ := vM_put (a := 1) (i := i) (by omega) (M := MM) hiM (nI v)
        exact ⟨p4 oM, by rw [p3]; exact okV_put oV 1 i (nI_pos' (by omega)) (by rw [show (999 : Int32) = nI 999 from rfl, nI_leI (by omega) (by omega)]; omega), by rw [p3]; exact hiM⟩)
      obtain ⟨M', m1, u, m2⟩ := kindsM_loop hi5 (MM.1 1 i) H 6 0 zF MM ⟨MM.1 1 i, by rw [zu_self]; exact zBk_refl _⟩ (by omega) (by unfold zF; omega)
      have m1' := m1
      rw [sBits_0, show nI 0 = (0 : Int32) from rfl] at m1'
      refine ⟨zu M' 1 i (MM.1 1 i), ?_, ?_⟩
      · have q : fX6_kindsSo (nI s) (nI i) MM = fX6_kindsSo_L13 zF (nI s) (nI i) (MM.1 1 i) (0 : Int32) (0 : Int32) MM := by
          unfold fX6_kindsSo
          rw [zG_t hin5, nIc (show i < 2 ^ 31 by omega), zL_r]
        rw [zB_s (q.trans m1'), if_neg (show ¬ nI 1 = 4 by decide), if_neg (show ¬ nI 1 = 5 by decide), sDn_bits, Int32.zero_or]
      · have q := zBk_zu m2 1 i (MM.1 1 i)
        rw [zu_zu, zu_self] at q
        exact q
  · -- numbers
    rw [if_neg (show ¬ nI 2 = 0 by decide), if_neg (show ¬ nI 2 = 0 by decide), if_neg (show ¬ nI 2 = 1 by decide), if_pos (show nI 2 = 2 from rfl)]
    refine fin 10 (fun v => sWr cells i z 0 (vM (zu MM 2 i (nI v)))) _ (by omega) ?_ (by rfl) ?_
    · intro v hv6 X hX
      obtain ⟨X1, x1, x2, x3, x4⟩ := B X hX
      obtain ⟨p1, p2⟩ := vX_put (a := 2) (i := i) hw (by omega) (M := X1) (by rw [x2]; exact hiM) (nI v)
      obtain ⟨p3, p4⟩ := vM_put (a := 2) (i := i) (by omega) (M := MM) hiM (nI v)
      obtain ⟨X', y1, y2⟩ := L (zu X1 (17 + 2) i (nI v)) (vM (zu MM 2 i (nI v))) i (p2 x3) (by rw [p1, p3, x2]) (by rw [p3]; exact hiM) (zO_trans x4 (zO_zu _ _ _ _ (by decide)))
      refine ⟨X', ?_, y2⟩
      unfold fX5_firstOtherwise
      rw [if_neg (show ¬ nI 2 = 7 by decide)]
      unfold fX5_firstOtherwise_J12
      rw [zV_s x1, if_neg (show ¬ nI 2 = 1 by decide), if_pos (show nI 2 = 2 from rfl), zG_t hin5, nIc (show i < 2 ^ 31 by omega), zL_r]
      exact y1
    · have H := so_step (a := 2) (k := i) (n := 10) (one := i) hs hz hcM e2 (by omega) (fun v hv6 => by
        obtain ⟨p3, p4⟩ := vM_put (a := 2) (i := i) (by omega) (M := MM) hiM (nI v)
        exact ⟨p4 oM, by rw [p3]; exact okV_put oV 2 i (nI_pos' (by omega)) (by rw [show (999 : Int32) = nI 999 from rfl, nI_leI (by omega) (by omega)]; omega), by rw [p3]; exact hiM⟩)
      obtain ⟨M', m1, u, m2⟩ := numbersM_loop hi5 (MM.1 2 i) H 10 0 zF MM ⟨MM.1 2 i, by rw [zu_self]; exact zBk_refl _⟩ (by omega) (by unfold zF; omega)
      have m1' := m1
      rw [sBits_0, show nI 0 = (0 : Int32) from rfl] at m1'
      refine ⟨zu M' 2 i (MM.1 2 i), ?_, ?_⟩
      · have q : fX6_numbersSo (nI s) (nI i) MM = fX6_numbersSo_L13 zF (nI s) (nI i) (MM.1 2 i) (0 : Int32) (0 : Int32) MM := by
          unfold fX6_numbersSo
          rw [zG_t hin5, nIc (show i < 2 ^ 31 by omega), zL_r]
        rw [zB_s (q.trans m1'), if_neg (show ¬ nI 2 = 4 by decide), if_neg (show ¬ nI 2 = 5 by decide), sDn_bits, Int32.zero_or]
      · have q := zBk_zu m2 2 i (MM.1 2 i)
        rw [zu_zu, zu_self] at q
        exact q
  · -- how wet
    rw [if_neg (show ¬ nI 3 = 0 by decide), if_neg (show ¬ nI 3 = 0 by decide), if_neg (show ¬ nI 3 = 1 by decide), if_neg (show ¬ nI 3 = 2 by decide), if_pos (show nI 3 = 3 from rfl)]
    refine fin 10 (fun v => sWr cells i z 0 (vM (zu MM 0 1 (nI v)))) _ (by omega) ?_ (by rfl) ?_
    · intro v hv6 X hX
      obtain ⟨X1, x1, x2, x3, x4⟩ := B X hX
      obtain ⟨p1, p2⟩ := vX_wet hw X1 (nI v)
      obtain ⟨p3, p4⟩ := vM_wet MM (nI v)
      obtain ⟨X', y1, y2⟩ := L (zu X1 17 9 (nI v)) (vM (zu MM 0 1 (nI v))) i (p2 x3) (by rw [p1, p3, x2]) (by rw [p3]; exact hiM) (zO_trans x4 (zO_zu _ _ _ _ (by decide)))
      refine ⟨X', ?_, y2⟩
      unfold fX5_firstOtherwise
      rw [if_neg (show ¬ nI 3 = 7 by decide)]
      unfold fX5_firstOtherwise_J12
      rw [zV_s x1, if_neg (show ¬ nI 3 = 1 by decide), if_neg (show ¬ nI 3 = 2 by decide), if_pos (show nI 3 = 3 from rfl), zL_r]
      exact y1
    · have H := so_step (a := 0) (k := 1) (n := 10) (one := i) hs hz hcM e2 (by omega) (fun v hv6 => by
        obtain ⟨p3, p4⟩ := vM_wet MM (nI v)
        exact ⟨p4 oM, by rw [p3]; exact oV, by rw [p3]; exact hiM⟩)
      obtain ⟨M', m1, u, m2⟩ := wetsM_loop (MM.1 0 1) H 10 0 zF MM ⟨MM.1 0 1, by rw [zu_self]; exact zBk_refl _⟩ (by omega) (by unfold zF; omega)
      have m1' := m1
      rw [sBits_0, show nI 0 = (0 : Int32) from rfl] at m1'
      refine ⟨zu M' 0 1 (MM.1 0 1), ?_, ?_⟩
      · have q : fX6_wetsSo (nI s) (nI i) MM = fX6_wetsSo_L11 zF (nI s) (nI i) (MM.1 0 1) (0 : Int32) (0 : Int32) MM := by
          unfold fX6_wetsSo
          rw [zL_r]
        rw [zB_s (q.trans m1'), if_neg (show ¬ nI 3 = 4 by decide), if_neg (show ¬ nI 3 = 5 by decide), sDn_bits, Int32.zero_or]
      · have q := zBk_zu m2 0 1 (MM.1 0 1)
        rw [zu_zu, zu_self] at q
        exact q
  · -- to rue: how many
    rw [if_neg (show ¬ nI 4 = 0 by decide), if_neg (show ¬ nI 4 = 0 by decide), if_neg (show ¬ nI 4 = 1 by decide), if_neg (show ¬ nI 4 = 2 by decide), if_neg (show ¬ nI 4 = 3 by decide), if_pos (show nI 4 = 4 from rfl)]
    refine fin 100 (fun v => sWr cells i z 0 (vM (zu MM 3 i (nI v)))) _ (by omega) ?_ (by rfl) ?_
    · intro v hv6 X hX
      obtain ⟨X1, x1, x2, x3, x4⟩ := B X hX
      obtain ⟨p1, p2⟩ := vX_put (a := 3) (i := i) hw (by omega) (M := X1) (by rw [x2]; exact hiM) (nI v)
      obtain ⟨p3, p4⟩ := vM_put (a := 3) (i := i) (by omega) (M := MM) hiM (nI v)
      obtain ⟨X', y1, y2⟩ := L (zu X1 (17 + 3) i (nI v)) (vM (zu MM 3 i (nI v))) i (p2 x3) (by rw [p1, p3, x2]) (by rw [p3]; exact hiM) (zO_trans x4 (zO_zu _ _ _ _ (by decide)))
      refine ⟨X', ?_, y2⟩
      unfold fX5_firstOtherwise
      rw [if_neg (show ¬ nI 4 = 7 by decide)]
      unfold fX5_firstOtherwise_J12
      rw [zV_s x1, if_neg (show ¬ nI 4 = 1 by decide), if_neg (show ¬ nI 4 = 2 by decide), if_neg (show ¬ nI 4 = 3 by decide), if_pos (show nI 4 = 4 from rfl), zG_t hin5, nIc (show i < 2 ^ 31 by omega), zL_r]
      exact y1
    · have H := so_step (a := 3) (k := i) (n := 100) (one := i) hs hz hcM e2 (by omega) (fun v hv6 => by
        obtain ⟨p3, p4⟩ := vM_put (a := 3) (i := i) (by omega) (M := MM) hiM (nI v)
        exact ⟨p4 oM, by rw [p3]; exact okV_put oV 3 i (nI_pos' (by omega)) (by rw [show (999 : Int32) = nI 999 from rfl, nI_leI (by omega) (by omega)]; omega), by rw [p3]; exact hiM⟩)
      obtain ⟨M', m1, u, m2⟩ := ruesM_loop hi5 (MM.1 3 i) 0 H 100 zF 0 0 (-1) MM ⟨MM.1 3 i, by rw [zu_self]; exact zBk_refl _⟩ (by omega) (by unfold zF; omega)
      rw [show nI 100 - 1 = (99 : Int32) by decide] at m1
      have m1' : fX6_ruesSo_L18 zF (nI s) (nI i) (0 : Int32) (MM.1 3 i) (0 : Int32) (-1 : Int32) (99 : Int32) MM = _ := m1
      refine ⟨zu M' 3 i (MM.1 3 i), ?_, ?_⟩
      · have q : fX6_ruesSo (nI s) (nI i) (0 : Int32) MM = fX6_ruesSo_L18 zF (nI s) (nI i) (0 : Int32) (MM.1 3 i) (0 : Int32) (-1 : Int32) (99 : Int32) MM := by
          unfold fX6_ruesSo
          rw [zG_t hin5, nIc (show i < 2 ^ 31 by omega), zL_r]
        rw [zB_s (q.trans m1'), if_pos (show nI 4 = 4 from rfl), if_pos (show (0 : Int32) = 0 from rfl)]
      · have q := zBk_zu m2 3 i (MM.1 3 i)
        rw [zu_zu, zu_self] at q
        exact q
  · -- to rue: the least
    rw [if_neg (show ¬ nI 5 = 0 by decide), if_neg (show ¬ nI 5 = 0 by decide), if_neg (show ¬ nI 5 = 1 by decide), if_neg (show ¬ nI 5 = 2 by decide), if_neg (show ¬ nI 5 = 3 by decide), if_neg (show ¬ nI 5 = 4 by decide), if_pos (show nI 5 = 5 from rfl)]
    refine fin 100 (fun v => sWr cells i z 0 (vM (zu MM 3 i (nI v)))) _ (by omega) ?_ (by rfl) ?_
    · intro v hv6 X hX
      obtain ⟨X1, x1, x2, x3, x4⟩ := B X hX
      obtain ⟨p1, p2⟩ := vX_put (a := 3) (i := i) hw (by omega) (M := X1) (by rw [x2]; exact hiM) (nI v)
      obtain ⟨p3, p4⟩ := vM_put (a := 3) (i := i) (by omega) (M := MM) hiM (nI v)
      obtain ⟨X', y1, y2⟩ := L (zu X1 (17 + 3) i (nI v)) (vM (zu MM 3 i (nI v))) i (p2 x3) (by rw [p1, p3, x2]) (by rw [p3]; exact hiM) (zO_trans x4 (zO_zu _ _ _ _ (by decide)))
      refine ⟨X', ?_, y2⟩
      unfold fX5_firstOtherwise
      rw [if_neg (show ¬ nI 5 = 7 by decide)]
      unfold fX5_firstOtherwise_J12
      rw [zV_s x1, if_neg (show ¬ nI 5 = 1 by decide), if_neg (show ¬ nI 5 = 2 by decide), if_neg (show ¬ nI 5 = 3 by decide), if_neg (show ¬ nI 5 = 4 by decide), if_pos (show nI 5 = 5 from rfl), zG_t hin5, nIc (show i < 2 ^ 31 by omega), zL_r]
      exact y1
    · have H := so_step (a := 3) (k := i) (n := 100) (one := i) hs hz hcM e2 (by omega) (fun v hv6 => by
        obtain ⟨p3, p4⟩ := vM_put (a := 3) (i := i) (by omega) (M := MM) hiM (nI v)
        exact ⟨p4 oM, by rw [p3]; exact okV_put oV 3 i (nI_pos' (by omega)) (by rw [show (999 : Int32) = nI 999 from rfl, nI_leI (by omega) (by omega)]; omega), by rw [p3]; exact hiM⟩)
      obtain ⟨M', m1, u, m2⟩ := ruesM_loop hi5 (MM.1 3 i) 1 H 100 zF 0 0 (-1) MM ⟨MM.1 3 i, by rw [zu_self]; exact zBk_refl _⟩ (by omega) (by unfold zF; omega)
      rw [show nI 100 - 1 = (99 : Int32) by decide] at m1
      have m1' : fX6_ruesSo_L18 zF (nI s) (nI i) (1 : Int32) (MM.1 3 i) (0 : Int32) (-1 : Int32) (99 : Int32) MM = _ := m1
      refine ⟨zu M' 3 i (MM.1 3 i), ?_, ?_⟩
      · have q : fX6_ruesSo (nI s) (nI i) (1 : Int32) MM = fX6_ruesSo_L18 zF (nI s) (nI i) (1 : Int32) (MM.1 3 i) (0 : Int32) (-1 : Int32) (99 : Int32) MM := by
          unfold fX6_ruesSo
          rw [zG_t hin5, nIc (show i < 2 ^ 31 by omega), zL_r]
        rw [zB_s (q.trans m1'), if_neg (show ¬ nI 5 = 4 by decide), if_pos (show nI 5 = 5 from rfl), if_neg (show ¬ (1 : Int32) = 0 by decide)]
      · have q := zBk_zu m2 3 i (MM.1 3 i)
        rw [zu_zu, zu_self] at q
        exact q
  · -- texts
    rw [if_neg (show ¬ nI 6 = 0 by decide), if_neg (show ¬ nI 6 = 0 by decide), if_neg (show ¬ nI 6 = 1 by decide), if_neg (show ¬ nI 6 = 2 by decide), if_neg (show ¬ nI 6 = 3 by decide), if_neg (show ¬ nI 6 = 4 by decide), if_neg (show ¬ nI 6 = 5 by decide), if_pos (show nI 6 = 6 from rfl)]
    have hvt : ∀ v, v < t → tX MX v = tM MM v := fun v hvt => by
      funext p nm
      show (if p < 3 then sV nm (cX MX v p) else 0) = (if p < 3 then sV nm (cM MM v p) else 0)
      by_cases c : p < 3
      · rw [if_pos c, if_pos c, (htx v hvt).2.2 p c]
      · rw [if_neg c, if_neg c]
    refine fin t (fun v => sWr cells i z 0 (vM (zu MM 0 7 (nI v)))) _ (by omega) ?_ (by
      unfold fX5_choices
      rw [if_neg (show ¬ nI 6 = 1 by decide), if_neg (show ¬ nI 6 = 2 by decide), if_neg (show ¬ nI 6 = 3 by decide), if_neg (show ¬ nI 6 = 4 by decide), if_neg (show ¬ nI 6 = 5 by decide), if_pos (show nI 6 = 6 from rfl), tc7]) ?_
    · intro v hvt6 X hX
      obtain ⟨X1, x1, x2, x3, x4⟩ := B X hX
      have r1 : X1.1 (32 + 4 * v + 1) = MX.1 (32 + 4 * v + 1) := x4.2 _ (X0_t v).1
      have r2 : X1.1 (32 + 4 * v + 2) = MX.1 (32 + 4 * v + 2) := x4.2 _ (X0_t v).2
      have hcx : ∀ p, cX X1 v p = cX MX v p := fun p => by unfold cX; rw [r1, r2]
      have htx1 : tX X1 v = tX MX v := by unfold tX; funext p nm; rw [hcx]
      have hokt : okT X1 v := by
        have g := (htx v hvt6).1
        unfold okT
        rw [r2]
        exact ⟨g.1, fun p hp => by rw [hcx]; exact g.2 p hp⟩
      obtain ⟨p1, p2⟩ := vX_txt hw (show v < 6 by omega) x3 hokt
      obtain ⟨p3, p4⟩ := vM_txt (show v < 6 by omega) oM (htx v hvt6).2.1
      obtain ⟨X', y1, y2⟩ := L (zu X1 17 10 (nI v)) (vM (zu MM 0 7 (nI v))) i p2 (by rw [p1, p3, x2, htx1, hvt v hvt6]) (by rw [p3, vN_tx]; exact hiM) (zO_trans x4 (zO_zu _ _ _ _ (by decide)))
      refine ⟨X', ?_, y2⟩
      unfold fX5_firstOtherwise
      rw [if_neg (show ¬ nI 6 = 7 by decide)]
      unfold fX5_firstOtherwise_J12
      rw [zV_s x1, if_neg (show ¬ nI 6 = 1 by decide), if_neg (show ¬ nI 6 = 2 by decide), if_neg (show ¬ nI 6 = 3 by decide), if_neg (show ¬ nI 6 = 4 by decide), if_neg (show ¬ nI 6 = 5 by decide), if_pos (show nI 6 = 6 from rfl), zL_r]
      exact y1
    · have H := so_step (a := 0) (k := 7) (n := t) (one := i) hs hz hcM e2 (by omega) (fun v hv6 => by
        obtain ⟨p3, p4⟩ := vM_txt (show v < 6 by omega) oM (htx v hv6).2.1
        exact ⟨p4, by rw [p3]; exact okV_tx oV _, by rw [p3, vN_tx]; exact hiM⟩)
      obtain ⟨M', m1, u, m2⟩ := textsM_loop t6 (MM.1 0 7) (fun M hM => by
        obtain ⟨u, hu⟩ := hM
        rw [hu.1.2.2 10 (by decide) (by decide) (by decide) (by decide), zu_other _ _ (show (10 : Nat) ≠ 7 by decide)]
        exact tc10) H t 0 zF MM ⟨MM.1 0 7, by rw [zu_self]; exact zBk_refl _⟩ (by omega) (by unfold zF; omega)
      have m1' := m1
      rw [sBits_0, show nI 0 = (0 : Int32) from rfl] at m1'
      refine ⟨zu M' 0 7 (MM.1 0 7), ?_, ?_⟩
      · have q : fX6_textsSo (nI s) (nI i) MM = fX6_textsSo_L11 zF (nI s) (nI i) (MM.1 0 7) (0 : Int32) (0 : Int32) MM := by
          unfold fX6_textsSo
          rw [zL_r]
        rw [zB_s (q.trans m1'), if_neg (show ¬ nI 6 = 4 by decide), if_neg (show ¬ nI 6 = 5 by decide), sDn_bits, Int32.zero_or]
      · have q := zBk_zu m2 0 7 (MM.1 0 7)
        rw [zu_zu, zu_self] at q
        exact q
  · -- people
    rw [if_neg (show ¬ nI 7 = 0 by decide), if_neg (show ¬ nI 7 = 0 by decide), if_neg (show ¬ nI 7 = 1 by decide), if_neg (show ¬ nI 7 = 2 by decide), if_neg (show ¬ nI 7 = 3 by decide), if_neg (show ¬ nI 7 = 4 by decide), if_neg (show ¬ nI 7 = 5 by decide), if_neg (show ¬ nI 7 = 6 by decide)]
    refine fin n (fun v => sWr cells v z 0 (vM MM)) _ (by omega) ?_ (by
      unfold fX5_choices
      rw [if_neg (show ¬ nI 7 = 1 by decide), if_neg (show ¬ nI 7 = 2 by decide), if_neg (show ¬ nI 7 = 3 by decide), if_neg (show ¬ nI 7 = 4 by decide), if_neg (show ¬ nI 7 = 5 by decide), if_neg (show ¬ nI 7 = 6 by decide), a7]) ?_
    · intro v hvn X hX
      obtain ⟨X1, x1, x2, x3, x4⟩ := B X hX
      obtain ⟨X', y1, y2⟩ := L X1 (vM MM) v x3 x2 (by rw [n2]; exact hvn) x4
      refine ⟨X', ?_, y2⟩
      unfold fX5_firstOtherwise
      rw [if_pos (show nI 7 = 7 from rfl)]
      unfold fX5_firstOtherwise_J12
      rw [zV_s x1, if_neg (show ¬ nI 7 = 1 by decide), if_neg (show ¬ nI 7 = 2 by decide), if_neg (show ¬ nI 7 = 3 by decide), if_neg (show ¬ nI 7 = 4 by decide), if_neg (show ¬ nI 7 = 5 by decide), if_neg (show ¬ nI 7 = 6 by decide)]
      exact y1
    · obtain ⟨M', m1, m2⟩ := peopleM_loop (s := s) hn (P := fun M => zBk MM M) (rr := fun v => sWr cells v z 0 (vM MM)) (fun M hM => by rw [hM.1.2.2 2 (by decide) (by decide) (by decide) (by decide)]; exact b2) (fun v hvn M hM => by
        obtain ⟨g1, g2⟩ := vM_bk oM hM
        obtain ⟨M', q1, q2⟩ := fX6_isSo_e (one := v) hs hz (M := M) (cells := cells) (fun j hj => by rw [hM.1.2.1 22 (by decide)]; exact hcM j hj) (by rw [hM.1.2.1 21 (by decide)]; exact e2) g2 (by rw [g1]; exact oV) (by rw [g1, n2]; exact hvn)
        rw [g1] at q1
        exact ⟨M', q1, zBk_trans hM q2⟩) n 0 zF MM (zBk_refl _) (by omega) (by unfold zF; omega)
      have m1' := m1
      rw [sBits_0, show nI 0 = (0 : Int32) from rfl] at m1'
      refine ⟨M', ?_, m2⟩
      have q : fX6_peopleSo (nI s) MM = fX6_peopleSo_L4 zF (nI s) (0 : Int32) (0 : Int32) MM := by
        unfold fX6_peopleSo
        rfl
      rw [zB_s (q.trans m1'), if_neg (show ¬ nI 7 = 4 by decide), if_neg (show ¬ nI 7 = 5 by decide), sDn_bits, Int32.zero_or]

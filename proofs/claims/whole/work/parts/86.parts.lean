/-! texts: a part -/
def keyP (p : Nat) : Int32 := if p = 0 then 370000 else if p = 1 then 1841662 else 369757
def cF5 (M M' : zM) : Prop := M'.2 = M.2 ∧ (∀ i, i ≠ 2 → i ≠ 4 → i ≠ 5 → M'.1 i = M.1 i) ∧ ∀ k, k ∉ [4, 5, 6, 7, 8] → M'.1 2 k = M.1 2 k
theorem cF5_refl (M : zM) : cF5 M M := ⟨rfl, fun _ _ _ _ => rfl, fun _ _ => rfl⟩
theorem cF5_trans {M M' M'' : zM} (h1 : cF5 M M') (h2 : cF5 M' M'') : cF5 M M'' := ⟨h2.1.trans h1.1, fun i a b c => (h2.2.1 i a b c).trans (h1.2.1 i a b c), fun k a => (h2.2.2 k a).trans (h1.2.2 k a)⟩
theorem cF5_c {M M' : zM} (h : cF M M') : cF5 M M' := ⟨h.1, fun i a b _ => h.2.1 i a b, h.2.2⟩
theorem cF5_zu (M : zM) (k : Nat) (v : Int32) : cF5 M (zu M 5 k v) := ⟨rfl, fun i _ _ c => zu_row _ c _ _, fun q _ => by rw [zu_row _ (by decide)]⟩
def rG (u base : Nat) (M M' : zM) : Prop := M'.2 = M.2 ∧ (∀ i, i ∉ [0, 6, 7, 8, 9] → M'.1 i = M.1 i) ∧ (∀ k, k ∉ [14, 15, 16, 17, 18, 19, 21, 22, 23, 24, 25] → M'.1 0 k = M.1 0 k) ∧ (∀ k, k < base → M'.1 8 k = M.1 8 k) ∧ ∀ k, k ≠ u → M'.1 6 k = M.1 6 k ∧ M'.1 7 k = M.1 7 k
theorem rG_refl (u base : Nat) (M : zM) : rG u base M M := ⟨rfl, fun _ _ => rfl, fun _ _ => rfl, fun _ _ => rfl, fun _ _ => ⟨rfl, rfl⟩⟩
theorem rG_trans {u base : Nat} {M M' M'' : zM} (h1 : rG u base M M') (h2 : rG u base M' M'') : rG u base M M'' := ⟨h2.1.trans h1.1, fun i a => (h2.2.1 i a).trans (h1.2.1 i a), fun k a => (h2.2.2.1 k a).trans (h1.2.2.1 k a), fun k a => (h2.2.2.2.1 k a).trans (h1.2.2.2.1 k a), fun k a => ⟨(h2.2.2.2.2 k a).1.trans (h1.2.2.2.2 k a).1, (h2.2.2.2.2 k a).2.trans (h1.2.2.2.2 k a).2⟩⟩
theorem rG_F {u base : Nat} {M M' : zM} (h : rF base M M') : rG u base M M' := ⟨h.1, fun i hi => h.2.1 i (fun q => hi (by rw [q]; decide)) (fun q => hi (by rw [q]; decide)) (fun q => hi (by rw [q]; decide)), h.2.2.1, h.2.2.2, fun k _ => by rw [h.2.1 6 (by decide) (by decide) (by decide), h.2.1 7 (by decide) (by decide) (by decide)]; exact ⟨rfl, rfl⟩⟩
theorem rG_6 (u base : Nat) (M : zM) (v : Int32) : rG u base M (zu M 6 u v) := ⟨rfl, fun i hi => zu_row _ (fun q => hi (by rw [q]; decide)) _ _, fun k _ => by rw [zu_row _ (by decide)], fun k _ => by rw [zu_row _ (by decide)], fun k hk => ⟨zu_other _ _ hk _, by rw [zu_row _ (by decide)]⟩⟩
theorem rG_7 (u base : Nat) (M : zM) (v : Int32) : rG u base M (zu M 7 u v) := ⟨rfl, fun i hi => zu_row _ (fun q => hi (by rw [q]; decide)) _ _, fun k _ => by rw [zu_row _ (by decide)], fun k _ => by rw [zu_row _ (by decide)], fun k hk => ⟨by rw [zu_row _ (by decide)], zu_other _ _ hk _⟩⟩
theorem key_e {T : zTk} (hT : okTk T) {i p : Nat} (hp : p < 3) : (tk T i = 4 + p → nI (wcd (tk T i) (tv T i)) = keyP p) ∧ (3 ≤ tk T i → tk T i ≤ 9 → nI (wcd (tk T i) (tv T i)) = keyP p → tk T i = 4 + p) := by
  have k3 := (hT i).2.2.1
  refine ⟨fun h => ?_, fun h3 h9 h => ?_⟩
  · rw [h]
    rcases (show p = 0 ∨ p = 1 ∨ p = 2 by omega) with rfl | rfl | rfl <;> rfl
  · have e3 : ∀ v, v < 6 → ∀ p, p < 3 → ¬ nI (wcd 3 v) = keyP p := by decide
    have f : ∀ k, k < 10 → 4 ≤ k → ∀ p, p < 3 → nI (wcd k 0) = keyP p → k = 4 + p := by decide
    by_cases c : tk T i = 3
    · rw [c] at h
      exact absurd h (e3 _ (by have := k3 c; omega) p hp)
    · refine f (tk T i) (by omega) (by omega) p hp ?_
      rw [← h]
      rcases (show tk T i = 4 ∨ tk T i = 5 ∨ tk T i = 6 ∨ tk T i = 7 ∨ tk T i = 8 ∨ tk T i = 9 by omega) with w | w | w | w | w | w <;> rw [w] <;> rfl
theorem sgT_m1 {T : zTk} {j c c' : Nat} (h : qEi (tk T j) c c') : sgT (tk T j) c' = -1 := by
  obtain ⟨⟨q1, q2, q3, q4⟩, q5, q6⟩ := h
  unfold sgT
  rw [if_neg q1, if_neg q2, if_neg q3]
  by_cases c60 : tk T j = 60
  · rw [if_pos c60, q4 (Or.inl c60)]; rfl
  · rw [if_neg c60]
    by_cases c61 : tk T j = 61
    · rw [if_pos c61, q4 (Or.inr c61)]; rfl
    · rw [if_neg c61, if_neg q5, if_neg q6]
theorem part_e {z : Nat} {b : Nat → Int32} {T : zTk} (hX : hNX z b T) (hN : hNM z b T) (hT : okTk T) {u p i base : Nat} (hu : u < 18) (hp : p < 3) {K : List Int32} {M MM : zM} (hc : cSt z b T M i K) (hK : K.length ≤ i) (hr : rTok z b T MM i) (h14 : MM.1 0 14 = nI base) (hb : base + 170 ≤ 3000) : (∃ j M' MM', (∀ r16, fX2_read_B16 r16 (nI p) M = some (nI (tf T j), M')) ∧ cF5 M M' ∧ fX6_part (nI u) (keyP p) MM = some (0, MM') ∧ MM'.1 0 15 = nI (tf T j) ∧ rG u base MM MM') ∨ (∃ j E M' MM', (∀ r16, fX2_read_B16 r16 (nI p) M = r16 (nI (p + 1)) M') ∧ cF5 M M' ∧ cSt z b T M' j (K ++ E.map dM) ∧ M'.1 5 p = nI (K.length + E.length) ∧ (∀ p', p' ≠ p → M'.1 5 p' = M.1 5 p') ∧ (i + E.length + 1 ≤ j ∧ j ≤ 160) ∧ fX6_part (nI u) (keyP p) MM = some (1, MM') ∧ rTok z b T MM' j ∧ MM'.1 0 14 = nI (base + E.length) ∧ MM'.1 6 u = nI base ∧ MM'.1 7 u = nI E.length ∧ cds (MM'.1 8) base E.length = E ∧ gWf E ∧ gCd E ∧ rG u base MM MM') := by
  have c6 : M.1 2 6 = nI (tk T i) := hc.1.2.2.2.2.1
  obtain ⟨g1, g2, g3, g4, g5, g6, g7⟩ := id hr
  obtain ⟨t119, t48, t45, t40, t41, t59, -⟩ := rkTok_9 (hT i).1
  have hB : ∀ r16, fX2_read_B16 r16 (nI p) M = (if M.1 2 6 = nI (4 + p) then
      zV (fX2_next M) fun M_8 =>
      zB (fX2_readTop (0 : Int32) M_8) fun r_12 M_10 =>
      if r_12 = (0 : Int32) then
        some ((M_10.1 2 7), M_10)
      else
        if (M_10.1 2 6) = (59 : Int32) then
          zG (zin (nI p) 3) <|
          zL (zu M_10 5 (nI p).toNatClampNeg (M_10.1 2 4)) fun M_16 =>
          zV (fX2_next M_16) fun M_17 =>
          zL (nI p + (1 : Int32)) fun x1_19 =>
          r16 x1_19 M_17
        else
          some ((M_10.1 2 7), M_10)
    else
      some ((M.1 2 7), M)) := fun r16 => by
    unfold fX2_read_B16
    rw [if_neg (by rw [show (3 : Int32) = nI 3 from rfl, nI_leI (by omega) (by omega)]; omega), show (4 : Int32) + nI p = nI (4 + p) by rw [show (4 : Int32) = nI 4 from rfl, nI_add]]
  obtain ⟨k1, k2⟩ := key_e hT (i := i) hp
  by_cases hk : tk T i = 4 + p
  rotate_left
  · refine Or.inl ⟨i, M, MM, fun r16 => ?_, cF5_refl _, ?_, g3, rG_refl _ _ _⟩
    · rw [hB, if_neg (fun e => hk ((tk_c hT c6 (n := 4 + p) rfl (by omega)).mp e)), hc.1.2.2.1]
    · have ht : fX6_takes (keyP p) MM = some (0, MM) := by
        unfold fX6_takes
        rw [g5]
        by_cases d : 3 ≤ tk T i ∧ tk T i ≤ 9
        · rw [if_pos (t119.mpr d), g7 d.1 d.2, if_neg (fun e => hk (k2 d.1 d.2 e))]
        · rw [if_neg (fun e => d (t119.mp e))]
      unfold fX6_part
      rw [zB_s ht, if_pos rfl]
  -- the key stands
  obtain ⟨M1, n1, n2, n3⟩ := cSt_next hX hc (by omega)
  obtain ⟨MM1, m1, m2, m3⟩ := hN i MM hr (by omega)
  have ht : fX6_takes (keyP p) MM = some (1, MM1) := by
    unfold fX6_takes
    rw [g5, if_pos (t119.mpr (by omega)), g7 (by omega) (by omega), if_pos (k1 hk), zV_s m1]
  obtain ⟨MM2, e2⟩ : ∃ MM2, MM2 = zu (zu (zu (zu (zu (zu MM1 6 u (nI base)) 0 21 0) 0 22 0) 0 23 0) 0 24 0) 0 25 1 := ⟨_, rfl⟩
  have F1 : rF base MM MM1 := rF_n m3
  have h14' : MM1.1 0 14 = nI base := by rw [m3.2.2 14 (by decide)]; exact h14
  have f2 : ∀ k, k ∉ [21, 22, 23, 24, 25] → MM2.1 0 k = MM1.1 0 k := fun k hk => by
    simp only [List.mem_cons, List.not_mem_nil, or_false] at hk
    rw [e2, zu_other _ _ (by omega), zu_other _ _ (by omega), zu_other _ _ (by omega), zu_other _ _ (by omega), zu_other _ _ (by omega), zu_row _ (by decide)]
  have r2 : ∀ k, k ≠ 0 → k ≠ 6 → MM2.1 k = MM1.1 k := fun k a c => by rw [e2, zu_row _ a, zu_row _ a, zu_row _ a, zu_row _ a, zu_row _ a, zu_row _ c]
  have r6 : MM2.1 6 u = nI base ∧ ∀ k, k ≠ u → MM2.1 6 k = MM1.1 6 k := ⟨by rw [e2, zu_row _ (by decide), zu_row _ (by decide), zu_row _ (by decide), zu_row _ (by decide), zu_row _ (by decide), zu_same], fun k hk => by rw [e2, zu_row _ (by decide), zu_row _ (by decide), zu_row _ (by decide), zu_row _ (by decide), zu_row _ (by decide), zu_other _ _ hk]⟩
  have G2 : rG u base MM MM2 := by
    refine rG_trans (rG_F F1) ⟨by rw [e2]; rfl, fun i hi => r2 i (fun q => hi (by rw [q]; decide)) (fun q => hi (by rw [q]; decide)), fun k hk => f2 k (fun q => hk (by
      simp only [List.mem_cons, List.not_mem_nil, or_false] at q ⊢
      omega)), fun k _ => by rw [r2 8 (by decide) (by decide)], fun k hk => ⟨r6.2 k hk, by rw [r2 7 (by decide) (by decide)]⟩⟩
  have S2 : rSt z b T MM2 (i + 1) base [] [] 0 0 1 := by
    refine ⟨rTok_F m2 (r2 5 (by decide) (by decide)) (fun k hk => f2 k (fun q => by
      simp only [List.mem_cons, List.not_mem_nil, or_false] at q hk
      omega)), ⟨?_, rfl, ?_, rfl, ?_⟩, ?_, ?_, ?_, Nat.zero_le _, hb, by omega⟩
    · rw [f2 14 (by decide)]; exact h14'
    · rw [e2, zu_other _ _ (by decide), zu_other _ _ (by decide), zu_other _ _ (by decide), zu_other _ _ (by decide), zu_same]; rfl
    · rw [e2, zu_other _ _ (by decide), zu_other _ _ (by decide), zu_other _ _ (by decide), zu_same]; rfl
    · rw [e2, zu_other _ _ (by decide), zu_other _ _ (by decide), zu_same]; rfl
    · rw [e2, zu_other _ _ (by decide), zu_same]; rfl
    · rw [e2, zu_same]; rfl
  have hpart : fX6_part (nI u) (keyP p) MM = fX6_part_L45 zF (nI u) MM2 := by
    unfold fX6_part
    rw [zB_s ht, if_neg (show ¬ (1 : Int32) = 0 by decide), zG_t (zin_nI hu (by decide)), nIc (by omega), h14', zL_r, zL_r, zL_r, zL_r, zL_r, zL_r, ← e2]
  obtain ⟨r, M2, j, q1, q2, q3⟩ := top_rd hX hN hT (nI u) base (i + 1) K M1 MM2 [] [] 0 1 n2 (by have := (hT i).2.2.2 (by omega); omega) S2 (by omega) rfl ⟨tpl_nil 1, rfl, rfl⟩
  have q1' : fX2_readTop (0 : Int32) M1 = some (r, M2) := q1
  have hi := (hT i).2.2.2 (by omega)
  rcases q3 with ⟨e1, E, MM', C', W', cmp', st', a1, a2, a3, a4, a5, a6, a7, a8, a9, a10⟩ | ⟨e1, K', f1, f3, f3', MM', f4, f5, f6⟩
  rotate_left
  · refine Or.inl ⟨j, M2, MM', fun r16 => ?_, cF5_c (cF_trans n3 q2), ?_, f5.2.2.1, rG_trans G2 (rG_F f6)⟩
    · rw [hB, if_pos ((tk_c hT c6 (n := 4 + p) rfl (by omega)).mpr hk), zV_s n1, zB_s q1', e1, if_pos rfl, f1.1.2.2.1]
    · rw [hpart, show zF = (99999 - (j - (i + 1))) + (j - (i + 1)) + 1 by rw [zF_1]; omega]
      exact f4 _
  have a4' : lay 1 W' C' = (E, []) := a4
  have c6' : M2.1 2 6 = nI (tk T j) := a1.1.2.2.2.2.1
  by_cases h59 : tk T j = 59
  rotate_left
  · have hf := fBeh hT (nI u) a2 (fun h => (hT j).2.2.2 (by omega)) (by
      by_cases h41 : tk T j = 41
      · exact Or.inl ⟨h41, by rw [a4']⟩
      · exact Or.inr (Or.inr ⟨h41, h59, sgT_m1 a10⟩)) a7.2.2
    obtain ⟨-, -, MM'', f4, f5, f6⟩ := runs_fails a5 a6 hf
    refine Or.inl ⟨j, M2, MM'', fun r16 => ?_, cF5_c (cF_trans n3 q2), ?_, f5.2.2.1, rG_trans G2 (rG_F f6)⟩
    · rw [hB, if_pos ((tk_c hT c6 (n := 4 + p) rfl (by omega)).mpr hk), zV_s n1, zB_s q1', e1, if_neg (show ¬ (1 : Int32) = 0 by decide), if_neg (fun e => h59 ((tk_c hT c6' (x := 59) (n := 59) rfl (by omega)).mp e)), a1.1.2.2.1]
    · rw [hpart, show zF = (99999 - (j - (i + 1))) + (j - (i + 1)) + 1 by rw [zF_1]; omega]
      exact f4 _
  -- ;
  obtain ⟨ht2, hs2, h23, h24, h25, hl, hb2, hc2⟩ := id a2
  obtain ⟨MM3, l1, l2, l3⟩ := lays_e (k := 1) (by omega) (by omega) hs2 (by omega) (by omega)
  have l1' : fX6_lays (1 : Int32) MM' = some MM3 := l1
  rw [a4'] at l2
  obtain ⟨l14, l8, l21, -, -⟩ := l2
  have t3 : rTok z b T MM3 j := rTok_0 ht2 l3
  have G3 : rG u base MM MM3 := rG_trans G2 (rG_F (rF_trans a6 (rF_0 l3)))
  have q6 : MM3.1 6 u = nI base := by
    rw [l3.2.1 6 (by decide) (by decide) (by decide), a6.2.1 6 (by decide) (by decide) (by decide)]
    exact r6.1
  obtain ⟨MM4, e4⟩ : ∃ MM4, MM4 = zu MM3 7 u (nI E.length) := ⟨_, rfl⟩
  have t4 : rTok z b T MM4 j := by rw [e4]; exact rTok_F t3 (zu_row _ (by decide) _ _) (fun k _ => by rw [zu_row _ (by decide)])
  obtain ⟨MM5, w1, w2, w3⟩ := hN j MM4 t4 (by omega)
  obtain ⟨M3, e3⟩ : ∃ M3, M3 = zu M2 5 p (M2.1 2 4) := ⟨_, rfl⟩
  have s3 : cSt z b T M3 j (K ++ E.map dM) := by
    obtain ⟨⟨y1, y2, y3, y4, y5, y6⟩, y7, y8, y9⟩ := a1
    rw [e3]
    exact ⟨⟨by rw [zu_row _ (by decide)]; exact y1, by rw [zu_row _ (by decide)]; exact y2, by rw [zu_row _ (by decide)]; exact y3, by rw [zu_row _ (by decide)]; exact y4, by rw [zu_row _ (by decide)]; exact y5, fun h => by rw [zu_row _ (by decide)]; exact y6 h⟩, by rw [zu_row _ (by decide)]; exact y7, by rw [zu_row _ (by decide)]; exact y8, y9⟩
  obtain ⟨M4, x1, x2, x3⟩ := cSt_next hX s3 (by omega)
  have r5 : M4.1 5 = M3.1 5 := x3.2.1 5 (by decide) (by decide)
  have hj0 := (hT j).2.2.2 (by omega)
  refine Or.inr ⟨j + 1, E, M4, MM5, fun r16 => ?_, ?_, x2, ?_, fun p' hp' => ?_, ⟨by omega, by omega⟩, ?_, w2, ?_, ?_, ?_, ?_, a8, a9, rG_trans G3 (rG_trans (by rw [e4]; exact rG_7 _ _ _ _) (rG_F (rF_n w3)))⟩
  · rw [hB, if_pos ((tk_c hT c6 (n := 4 + p) rfl (by omega)).mpr hk), zV_s n1, zB_s q1', e1, if_neg (show ¬ (1 : Int32) = 0 by decide), if_pos ((tk_c hT c6' (x := 59) (n := 59) rfl (by omega)).mpr h59), zG_t (zin_nI hp (by decide)), nIc (by omega), ← e3, zL_r, zV_s x1, nI_1, zL_r]
  · exact cF5_trans (cF5_c (cF_trans n3 q2)) (cF5_trans (by rw [e3]; exact cF5_zu _ _ _) (cF5_c x3))
  · rw [r5, e3, zu_same, a1.2.1, List.length_append, List.length_map]
  · rw [r5, e3, zu_other _ _ hp', q2.2.1 5 (by decide) (by decide), n3.2.1 5 (by decide) (by decide)]
  · rw [hpart, show zF = (99999 - (j - (i + 1))) + 1 + (j - (i + 1)) by rw [zF_1]; omega, a5.2]
    show fX6_part_B45 _ _ MM' = _
    unfold fX6_part_B45
    obtain ⟨y119, y48, y45, y40, y41, y59, -⟩ := rkTok_9 (hT j).1
    have l21' : MM3.1 0 21 = nI 0 := l21
    rw [h24, if_neg (show ¬ nI 1 = 0 by decide), ht2.2.2.2.2.1, if_pos (y59.mpr h59), zV_s l1', l21', if_pos (show nI 0 ≤ (0 : Int32) by decide), zG_t (zin_nI hu (by decide)), zG_t (zin_nI hu (by decide)), nIc (by omega), l14, q6, pk_sub (by omega), Nat.add_sub_cancel_left, ← e4, zL_r, zV_s w1]
  · rw [w3.2.2 14 (by decide), e4, zu_row _ (by decide)]; exact l14
  · rw [w3.2.1 6 (by decide), e4, zu_row _ (by decide)]; exact q6
  · rw [w3.2.1 7 (by decide), e4, zu_same]
  · rw [w3.2.1 8 (by decide), e4, zu_row _ (by decide)]; exact l8

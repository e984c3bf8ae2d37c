/-! text, the step -/
def gAll (cd t : Nat) (M M' : zM) : Prop := (∀ i, i ∉ [0, 6, 7, 8, 9] → M'.1 i = M.1 i) ∧ (∀ k, k ∉ [14, 15, 16, 17, 18, 19, 21, 22, 23, 24, 25] → M'.1 0 k = M.1 0 k) ∧ (∀ k, k < cd → M'.1 8 k = M.1 8 k) ∧ ∀ k, k < 3 * t → M'.1 6 k = M.1 6 k ∧ M'.1 7 k = M.1 7 k
theorem gAll_trans {cd t : Nat} {M M' M'' : zM} (h1 : gAll cd t M M') (h2 : gAll cd t M' M'') : gAll cd t M M'' := ⟨fun i a => (h2.1 i a).trans (h1.1 i a), fun k a => (h2.2.1 k a).trans (h1.2.1 k a), fun k a => (h2.2.2.1 k a).trans (h1.2.2.1 k a), fun k a => ⟨(h2.2.2.2 k a).1.trans (h1.2.2.2 k a).1, (h2.2.2.2 k a).2.trans (h1.2.2.2 k a).2⟩⟩
theorem gAll_G {cd t u base : Nat} {M M' : zM} (hu : 3 * t ≤ u) (hb : cd ≤ base) (h : rG u base M M') : gAll cd t M M' := ⟨h.2.1, h.2.2.1, fun k hk => h.2.2.2.1 k (by omega), fun k hk => h.2.2.2.2 k (by omega)⟩
theorem gAll_n {cd t : Nat} {M M' : zM} (h : rNx M M') : gAll cd t M M' := ⟨fun i hi => h.2.1 i (fun q => hi (by rw [q]; decide)), fun k hk => h.2.2 k (fun q => hk (by
  simp only [List.mem_cons, List.not_mem_nil, or_false] at q ⊢
  omega)), fun k _ => by rw [h.2.1 8 (by decide)], fun k _ => by rw [h.2.1 6 (by decide), h.2.1 7 (by decide)]; exact ⟨rfl, rfl⟩⟩
theorem rT_low {MX MM MX' MM' : zM} {t cd : Nat} (t1 : 1 ≤ t) (t6 : t ≤ 6) (h7 : MX'.1 0 7 = nI t) (h10 : MM'.1 0 10 = nI t) (h14 : MM'.1 0 14 = nI cd) (hcd : cd ≤ 160 * t) (htx : ∀ r, r < t → okT MX r ∧ okTM MM r ∧ ∀ p, p < 3 → cX MX r p = cM MM r p) (hq : ∀ q, q < 3 * t → ∃ b l : Nat, MM.1 6 q = nI b ∧ MM.1 7 q = nI l ∧ b + l ≤ cd) (hX : ∀ r, r < t → MX'.1 (32 + 4 * r + 1) = MX.1 (32 + 4 * r + 1) ∧ MX'.1 (32 + 4 * r + 2) = MX.1 (32 + 4 * r + 2)) (h67 : ∀ q, q < 3 * t → MM'.1 6 q = MM.1 6 q ∧ MM'.1 7 q = MM.1 7 q) (h8 : ∀ k, k < cd → MM'.1 8 k = MM.1 8 k) : rT t MX' MM' := by
  refine ⟨t1, t6, h7, h10, fun r hr => ?_, cd, h14, hcd, fun q hql => ?_⟩
  · obtain ⟨g1, g2, g3⟩ := htx r hr
    obtain ⟨m1, m2⟩ := cM_low t6 hcd hq h67 h8 hr g2
    have hc : ∀ p, cX MX' r p = cX MX r p := fun p => by unfold cX; rw [(hX r hr).1, (hX r hr).2]
    refine ⟨?_, m1, fun p hp => by rw [hc, m2 p hp]; exact g3 p hp⟩
    unfold okT
    rw [(hX r hr).2]
    exact ⟨g1.1, fun p hp => by rw [hc]; exact g1.2 p hp⟩
  · obtain ⟨b, l, e6, e7, hbl⟩ := hq q hql
    exact ⟨b, l, (h67 q hql).1.trans e6, (h67 q hql).2.trans e7, hbl⟩
theorem st_text (MX MM : zM) (hR : RelT zTab MX MM) : ∃ (r : Int32) (MX' MM' : zM), fX5_text MX = some (r, MX') ∧ fX6_text MM = some (r, MM') ∧ RelT zTab MX' MM' := by
  obtain ⟨hT, t, hP, hTx, hA, hS, hI⟩ := id hR
  obtain ⟨t1, t6, tc7, tc10, htx, cd, hcd14, hcd, hq⟩ := hTx
  obtain ⟨z, hz, a3, b8, hby⟩ := hA
  unfold fX5_text fX6_text
  rw [tc7, tc10]
  by_cases ht : t < 6
  rotate_left
  · have e : t = 6 := by omega
    rw [if_neg (by rw [show (6 : Int32) = nI 6 from rfl, nI_ltI (by omega) (by omega)]; exact ht), if_pos (by rw [e]; rfl)]
    exact ⟨-4, MX, MM, rfl, rfl, hR⟩
  rw [if_pos (show nI t < (6 : Int32) by rw [show (6 : Int32) = nI 6 from rfl, nI_ltI (by omega) (by omega)]; exact ht), if_neg (show ¬ nI t = (6 : Int32) by rw [show (6 : Int32) = nI 6 from rfl, nI_eq (by omega) (by omega)]; omega)]
  obtain ⟨b, eb⟩ : ∃ b, b = MM.1 5 := ⟨_, rfl⟩
  have hb : ∀ j, j < z → 0 ≤ b j ∧ b j ≤ 255 := fun j hj => by rw [eb]; exact (hby j hj).2
  have hX := hNX_lx hz hb
  have hN := hNM_lx hz hb
  have hTk := lxT_ok (b := b) hz
  obtain ⟨T, eT⟩ : ∃ T, T = lxT b z := ⟨_, rfl⟩
  rw [← eT] at hX hN hTk
  have tf_le : ∀ j, tf T j ≤ 160 := fun j => by
    have h1 := lx_p (b := b) (p := psT b z j) hz
    have h2 := h1.2.2.1 (psT_le hz j)
    have h3 := h1.2.1
    rw [eT]
    show (lx b z (psT b z j)).2.2.1 ≤ 160
    omega
  -- both begin
  obtain ⟨X2, eX2⟩ : ∃ X2, X2 = zu (zu MX 2 5 0) 2 4 0 := ⟨_, rfl⟩
  have pX2 : cPre z b X2 0 := by
    rw [eX2]
    exact ⟨by rw [zu_other _ _ (by decide), zu_other _ _ (by decide)]; exact a3, fun j hj => by rw [zu_row _ (by decide), zu_row _ (by decide), eb]; exact (hby j hj).1, by rw [zu_other _ _ (by decide), zu_same]; rfl, by omega⟩
  have F2 : cF5 MX X2 := by
    rw [eX2]
    refine cF5_c ⟨rfl, fun i a c => by rw [zu_row _ a, zu_row _ a], fun k hk => ?_⟩
    simp only [List.mem_cons, List.not_mem_nil, or_false] at hk
    rw [zu_other _ _ (by omega), zu_other _ _ (by omega)]
  obtain ⟨X3, n1, n2, n3⟩ := cnext hz hb pX2
  have hc3 : cSt z b T X3 0 [] := by
    refine ⟨?_, ?_, rfl, by simp⟩
    · rw [eT]; exact n2
    · rw [n3.2.2 4 (by decide), eX2, zu_same]; rfl
  have F3 : cF5 MX X3 := cF5_trans F2 (cF5_c (cF_n n3))
  have hread : fX2_read MX = fX2_read_L16 (99999 + 1) (nI 0) X3 := by
    unfold fX2_read
    rw [zL_r, zL_r, ← eX2, zV_s n1, zF_1, nI_0]
  have pM1 : rPre z b (zu MM 0 16 0) 0 := ⟨by rw [zu_other _ _ (by decide)]; exact b8, by rw [zu_row _ (by decide)]; exact eb.symm, by rw [zu_same]; rfl, by omega⟩
  obtain ⟨M2, m1, m2, m3⟩ := rnext hz hb pM1
  have hr2 : rTok z b T M2 0 := by rw [eT]; exact m2
  have G2 : gAll cd t MM M2 := gAll_trans (gAll_n (rNx_zu MM (k := 16) (by decide) _)) (gAll_n m3)
  have c14 : M2.1 0 14 = nI cd := by rw [m3.2.2 14 (by decide), zu_other _ _ (by decide)]; exact hcd14
  have g10 : ∀ {M'}, gAll cd t MM M' → M'.1 0 10 = nI t := fun h => by rw [h.2.1 10 (by decide)]; exact tc10
  have u0 : (3 : Int32) * nI t = nI (3 * t) := by rw [show (3 : Int32) = nI 3 from rfl, pk_mul]
  have u1 : (3 : Int32) * nI t + (1 : Int32) = nI (3 * t + 1) := by rw [u0, nI_1]
  have u2 : (3 : Int32) * nI t + (2 : Int32) = nI (3 * t + 2) := by rw [u0, show (2 : Int32) = nI 2 from rfl, nI_add]
  rw [hcd14, zL_r, zL_r, zV_s m1, g10 G2, u0]
  -- a fault
  have fault : ∀ (X' M' : zM) (j : Nat), fX2_read MX = some (nI (tf T j), X') → cF5 MX X' → gAll cd t MM M' → M'.1 0 15 = nI (tf T j) → ∃ (r : Int32) (MX' MM' : zM), (zB (fX2_read MX) fun r_4 M_2 =>
    zL (zu M_2 2 3 (0 : Int32)) fun M_5 =>
    if r_4 = (-1 : Int32) then
      zG (zin (M_5.1 0 7) 6) <|
      zL (32 + 4 * (M_5.1 0 7).toNatClampNeg) fun q_8 =>
      zV (fX3_become q_8 M_5) fun M_9 =>
      zL (zu M_9 0 7 ((M_9.1 0 7) + (1 : Int32))) fun M_11 =>
      some (((M_11.1 0 7) - (1 : Int32)), M_11)
    else
      some (((-100 : Int32) - r_4), M_5)) = some (r, MX') ∧ fX6_text_J89 (nI cd) (0 : Int32) M' = some (r, MM') ∧ RelT zTab MX' MM' := by
    intro X' M' j hr hF hG h15
    refine ⟨(-100 : Int32) - nI (tf T j), zu X' 2 3 0, zu (zu M' 0 8 0) 0 14 (nI cd), ?_, ?_, ?_⟩
    · rw [zB_s hr, zL_r, if_neg (ne_m1 (by have := tf_le j; omega))]
    · unfold fX6_text_J89
      rw [zL_r, if_pos rfl, zL_r, zu_other _ _ (show (15 : Nat) ≠ 14 by decide), zu_other _ _ (show (15 : Nat) ≠ 8 by decide), h15]
    · have rowX : ∀ i, i ≠ 2 → i ≠ 4 → i ≠ 5 → (zu X' 2 3 0).1 i = MX.1 i := fun i x y w => by rw [zu_row _ x]; exact hF.2.1 i x y w
      have rowM : ∀ i, i ∉ [0, 6, 7, 8, 9] → (zu (zu M' 0 8 0) 0 14 (nI cd)).1 i = MM.1 i := fun i hi => by
        have h0 : i ≠ 0 := fun q => hi (by rw [q]; decide)
        rw [zu_row _ h0, zu_row _ h0]; exact hG.1 i hi
      refine rel_tx hT hP hS hI (Nat.le_refl t) (fun i hi => rowX i (by omega) (by omega) (by omega)) hF.1 (by rw [rowX 0 (by decide) (by decide) (by decide)]) (zu_same _ _ _ _) (fun i hi => rowM i (fun q => by
        simp only [List.mem_cons, List.not_mem_nil, or_false] at q
        omega)) (fun k hk => ?_) (by rw [zu_other _ _ (by decide), zu_same]) ?_
      · simp only [List.mem_cons, List.not_mem_nil, or_false] at hk
        rw [zu_other _ _ (by omega), zu_other _ _ (by omega)]
        exact hG.2.1 k (fun q => by
          simp only [List.mem_cons, List.not_mem_nil, or_false] at q
          omega)
      · exact rT_low t1 t6 (by rw [rowX 0 (by decide) (by decide) (by decide)]; exact tc7) (by rw [zu_other _ _ (by decide), zu_other _ _ (by decide)]; exact g10 hG) (zu_same _ _ _ _) hcd htx hq (fun r hr => ⟨rowX _ (by omega) (by omega) (by omega), rowX _ (by omega) (by omega) (by omega)⟩) (fun q hql => by rw [zu_row _ (by decide), zu_row _ (by decide), zu_row _ (by decide), zu_row _ (by decide)]; exact hG.2.2.2 q hql) (fun k hk => by rw [zu_row _ (by decide), zu_row _ (by decide)]; exact hG.2.2.1 k hk)
  have step : ∀ (N : Nat) (x : Int32) (M : zM), fX2_read_L16 (N + 1) x M = fX2_read_B16 (fX2_read_L16 N) x M := fun _ _ _ => rfl
  -- runs
  rcases part_e hX hN hTk (u := 3 * t) (p := 0) (base := cd) (by omega) (by omega) hc3 (by simp) hr2 c14 (by omega) with ⟨j, X4, M3, p1, p2, p3, p4, p5⟩ | ⟨j0, E0, X4, M3, p1, p2, p3, p4, p5, p6, p7, p8, p9, p10, p11, p12, p13, p14, p15⟩
  · have p3' : fX6_part (nI (3 * t)) (370000 : Int32) M2 = some (0, M3) := p3
    rw [zB_s p3', if_pos rfl]
    exact fault X4 M3 j (by rw [hread, step]; exact p1 _) (cF5_trans F3 p2) (gAll_trans G2 (gAll_G (by omega) (Nat.le_refl _) p5)) p4
  have p7' : fX6_part (nI (3 * t)) (370000 : Int32) M2 = some (1, M3) := p7
  have F4 := cF5_trans F3 p2
  have G3 := gAll_trans G2 (gAll_G (t := t) (cd := cd) (by omega) (Nat.le_refl _) p15)
  rw [zB_s p7', if_neg (show ¬ (1 : Int32) = 0 by decide), g10 G3, u1]
  have hr1 : fX2_read MX = fX2_read_L16 (99998 + 1) (nI 1) X4 := by rw [hread, step]; exact p1 _
  -- clogs
  rcases part_e hX hN hTk (u := 3 * t + 1) (p := 1) (base := cd + E0.length) (by omega) (by omega) p3 (by simp only [List.length_append, List.length_map, List.length_nil]; omega) p8 p9 (by omega) with ⟨j, X5, M4, q1, q2, q3, q4, q5⟩ | ⟨j1, E1, X5, M4, q1, q2, q3, q4, q5, q6, q7, q8, q9, q10, q11, q12, q13, q14, q15⟩
  · have q3' : fX6_part (nI (3 * t + 1)) (1841662 : Int32) M3 = some (0, M4) := q3
    rw [zB_s q3', if_pos rfl]
    exact fault X5 M4 j (by rw [hr1, step]; exact q1 _) (cF5_trans F4 q2) (gAll_trans G3 (gAll_G (by omega) (by omega) q5)) q4
  have q7' : fX6_part (nI (3 * t + 1)) (1841662 : Int32) M3 = some (1, M4) := q7
  have F5 := cF5_trans F4 q2
  have G4 := gAll_trans G3 (gAll_G (t := t) (cd := cd) (by omega) (by omega) q15)
  rw [zB_s q7', if_neg (show ¬ (1 : Int32) = 0 by decide), g10 G4, u2]
  have hr2' : fX2_read MX = fX2_read_L16 (99997 + 1) (nI 2) X5 := by rw [hr1, step]; exact q1 _
  -- rues
  rcases part_e hX hN hTk (u := 3 * t + 2) (p := 2) (base := cd + E0.length + E1.length) (by omega) (by omega) q3 (by simp only [List.length_append, List.length_map, List.length_nil]; omega) q8 q9 (by omega) with ⟨j, X6, M5, s1, s2, s3, s4, s5⟩ | ⟨j2, E2, X6, M5, s1, s2, s3, s4, s5, s6, s7, s8, s9, s10, s11, s12, s13, s14, s15⟩
  · have s3' : fX6_part (nI (3 * t + 2)) (369757 : Int32) M4 = some (0, M5) := s3
    rw [zB_s s3', if_pos rfl]
    exact fault X6 M5 j (by rw [hr2', step]; exact s1 _) (cF5_trans F5 s2) (gAll_trans G4 (gAll_G (by omega) (by omega) s5)) s4
  have s7' : fX6_part (nI (3 * t + 2)) (369757 : Int32) M4 = some (1, M5) := s7
  have F6 := cF5_trans F5 s2
  have G5 := gAll_trans G4 (gAll_G (t := t) (cd := cd) (by omega) (by omega) s15)
  have hr3 : fX2_read MX = fX2_read_B16 (fX2_read_L16 99996) (nI 3) X6 := by rw [hr2', step]; exact s1 _
  have x6 : X6.1 2 6 = nI (tk T j2) := s3.1.2.2.2.2.1
  have m17 : M5.1 0 17 = nI (rkTok (tk T j2)) := s8.2.2.2.2.1
  have t101 := (rkTok_9 (hTk j2).1).2.2.2.2.2.2.2.2.2.2
  have hB3 : fX2_read_B16 (fX2_read_L16 99996) (nI 3) X6 = (if X6.1 2 6 = (0 : Int32) then some ((-1 : Int32), X6) else some ((X6.1 2 7), X6)) := by
    unfold fX2_read_B16
    rw [if_pos (show (3 : Int32) ≤ nI 3 by decide)]
  rw [zB_s s7', if_neg (show ¬ (1 : Int32) = 0 by decide), m17]
  by_cases k0 : tk T j2 = 0
  rotate_left
  · rw [if_neg (fun e => k0 (t101.mp e))]
    exact fault X6 M5 j2 (by rw [hr3, hB3, if_neg (fun e => k0 ((tk_c hTk x6 (x := 0) (n := 0) rfl (by omega)).mp e)), s3.1.2.2.1]) F6 G5 s8.2.2.1
  -- a text
  rw [if_pos (t101.mpr k0)]
  have hrd : fX2_read MX = some (-1, X6) := by rw [hr3, hB3, if_pos ((tk_c hTk x6 (x := 0) (n := 0) rfl (by omega)).mpr k0)]
  obtain ⟨X7, eX7⟩ : ∃ X7, X7 = zu X6 2 3 0 := ⟨_, rfl⟩
  have r7 : ∀ i, i ≠ 2 → X7.1 i = X6.1 i := fun i hi => by rw [eX7, zu_row _ hi]
  have x07 : X7.1 0 7 = nI t := by rw [r7 0 (by decide), F6.2.1 0 (by decide) (by decide) (by decide)]; exact tc7
  obtain ⟨X8, w1, w2, w3, w4⟩ := bec3_e (q := 32 + 4 * t) (by omega) X7
  have r8 : ∀ i, i ≠ 32 + 4 * t + 1 → i ≠ 32 + 4 * t + 2 → X8.1 i = X7.1 i := fun i x y => w4.2 i (by simp only [List.mem_cons, List.not_mem_nil, or_false]; omega)
  have x8 : X8.1 0 7 = nI t := by rw [r8 0 (by omega) (by omega)]; exact x07
  obtain ⟨X9, eX9⟩ : ∃ X9, X9 = zu X8 0 7 (nI (t + 1)) := ⟨_, rfl⟩
  have r9 : ∀ i, i ≠ 0 → X9.1 i = X8.1 i := fun i hi => by rw [eX9, zu_row _ hi]
  obtain ⟨M6, eM6⟩ : ∃ M6, M6 = zu (zu M5 0 8 0) 0 10 (nI (t + 1)) := ⟨_, rfl⟩
  have rM : ∀ i, i ≠ 0 → M6.1 i = M5.1 i := fun i hi => by rw [eM6, zu_row _ hi, zu_row _ hi]
  have fM : ∀ k, k ≠ 8 → k ≠ 10 → M6.1 0 k = M5.1 0 k := fun k x y => by rw [eM6, zu_other _ _ y, zu_other _ _ x]
  refine ⟨nI t, X9, M6, ?_, ?_, ?_⟩
  · rw [zB_s hrd, zL_r, ← eX7, if_pos rfl, x07, zG_t (zin_nI ht (by decide)), nIc (by omega), zL_r, zV_s w1, x8, nI_1, ← eX9, zL_r, eX9, zu_same, nI_dn]
  · unfold fX6_text_J89
    rw [zL_r, if_neg (show ¬ (1 : Int32) = 0 by decide), zu_other _ _ (show (10 : Nat) ≠ 8 by decide), g10 G5, nI_1, ← eM6, zL_r]
  have rowX : ∀ i, i ≠ 0 → i ≠ 2 → i ≠ 4 → i ≠ 5 → i ≠ 32 + 4 * t + 1 → i ≠ 32 + 4 * t + 2 → X9.1 i = MX.1 i := fun i a c d e f g => by rw [r9 i a, r8 i f g, r7 i c]; exact F6.2.1 i c d e
  have rowM : ∀ i, i ∉ [0, 6, 7, 8, 9] → M6.1 i = MM.1 i := fun i hi => by rw [rM i (fun q => hi (by rw [q]; decide))]; exact G5.1 i hi
  have x00 : ∀ k, k ≠ 7 → X9.1 0 k = MX.1 0 k := fun k hk => by
    rw [eX9, zu_other _ _ hk, r8 0 (by omega) (by omega), r7 0 (by decide), F6.2.1 0 (by decide) (by decide) (by decide)]
  have l012 : E0.length + E1.length + E2.length ≤ 160 := by omega
  refine rel_tx hT hP hS hI (Nat.le_succ t) (fun i hi => rowX i (by omega) (by omega) (by omega) (by omega) (by omega) (by omega)) ?_ (x00 8 (by decide)) ?_ (fun i hi => rowM i (fun q => by
    simp only [List.mem_cons, List.not_mem_nil, or_false] at q
    omega)) (fun k hk => ?_) (by rw [eM6, zu_other _ _ (by decide), zu_same]) ?_
  · rw [eX9]
    exact w4.1.trans (by rw [eX7]; exact F6.1)
  · rw [r9 2 (by decide), r8 2 (by omega) (by omega), eX7, zu_same]
  · simp only [List.mem_cons, List.not_mem_nil, or_false] at hk
    rw [fM k (by omega) (by omega)]
    exact G5.2.1 k (fun q => by
      simp only [List.mem_cons, List.not_mem_nil, or_false] at q
      omega)
  -- the texts
  have e5 : X6.1 5 0 = nI E0.length ∧ X6.1 5 1 = nI (E0.length + E1.length) ∧ X6.1 5 2 = nI (E0.length + E1.length + E2.length) := by
    simp only [List.length_append, List.length_map, List.length_nil, Nat.zero_add] at p4 q4 s4
    exact ⟨by rw [s5 0 (by decide), q5 0 (by decide)]; exact p4, by rw [s5 1 (by decide)]; exact q4, s4⟩
  have e4 : cds (X6.1 4) 0 (E0.length + E1.length + E2.length) = E0.map dM ++ E1.map dM ++ E2.map dM := by
    have h := s3.2.2.1
    simp only [List.length_append, List.length_map, List.length_nil, Nat.zero_add, List.nil_append] at h
    exact h
  rw [cds_add, cds_add, Nat.zero_add, Nat.zero_add] at e4
  have ea := List.append_inj e4 (by simp only [List.length_append, List.length_map, cds_len])
  have eb' := List.append_inj ea.1 (by simp only [List.length_map, cds_len])
  have qq : ∀ k, k < 160 → X9.1 (32 + 4 * t + 1) k = X6.1 4 k := fun k hk => by rw [r9 _ (by omega), w2 k hk, r7 4 (by decide)]
  have q2' : ∀ p, p < 3 → X9.1 (32 + 4 * t + 2) p = X6.1 5 p := fun p hp => by rw [r9 _ (by omega), w3 p hp, r7 5 (by decide)]
  have cX0 : cX X9 t 0 = E0.map dM := cX_new (s := 0) (e := E0.length) (f := X6.1 4) rfl (by rw [q2' 0 (by omega), e5.1, nIc (by omega)]) (by simp only [List.length_map]; omega) qq (by omega) (by rw [List.length_map]; exact eb'.1)
  have cX1 : cX X9 t 1 = E1.map dM := cX_new (s := E0.length) (e := E0.length + E1.length) (f := X6.1 4) (by rw [if_neg (by decide), q2' 0 (by omega), e5.1, nIc (by omega)]) (by rw [q2' 1 (by omega), e5.2.1, nIc (by omega)]) (by simp only [List.length_map]) qq (by omega) (by rw [List.length_map]; exact eb'.2)
  have cX2 : cX X9 t 2 = E2.map dM := cX_new (s := E0.length + E1.length) (e := E0.length + E1.length + E2.length) (f := X6.1 4) (by rw [if_neg (by decide), q2' 1 (by omega), e5.2.1, nIc (by omega)]) (by rw [q2' 2 (by omega), e5.2.2, nIc (by omega)]) (by simp only [List.length_map]) qq (by omega) (by rw [List.length_map]; exact ea.2)
  -- the reference's parts
  have k6 : ∀ q, M6.1 6 q = M5.1 6 q := fun q => by rw [rM 6 (by decide)]
  have k7 : ∀ q, M6.1 7 q = M5.1 7 q := fun q => by rw [rM 7 (by decide)]
  have d8 : M6.1 8 = M5.1 8 := rM 8 (by decide)
  have m0 : okP M6 (3 * t + 0) (cM M6 t 0) ∧ cM M6 t 0 = E0.map dM := cM_new (base := cd) (E := E0) (by omega) (by omega) (by rw [k6, (s15.2.2.2.2 _ (by omega)).1, (q15.2.2.2.2 _ (by omega)).1]; exact p10) (by rw [k7, (s15.2.2.2.2 _ (by omega)).2, (q15.2.2.2.2 _ (by omega)).2]; exact p11) (by
    rw [d8, cds_congr (g := M3.1 8) (fun k hk => by rw [s15.2.2.2.1 _ (by omega), q15.2.2.2.1 _ (by omega)])]
    exact p12) p13 p14
  have m1' : okP M6 (3 * t + 1) (cM M6 t 1) ∧ cM M6 t 1 = E1.map dM := cM_new (base := cd + E0.length) (E := E1) (by omega) (by omega) (by rw [k6, (s15.2.2.2.2 _ (by omega)).1]; exact q10) (by rw [k7, (s15.2.2.2.2 _ (by omega)).2]; exact q11) (by
    rw [d8, cds_congr (g := M4.1 8) (fun k hk => by rw [s15.2.2.2.1 _ (by omega)])]
    exact q12) q13 q14
  have m2' : okP M6 (3 * t + 2) (cM M6 t 2) ∧ cM M6 t 2 = E2.map dM := cM_new (base := cd + E0.length + E1.length) (E := E2) (by omega) (by omega) (by rw [k6]; exact s10) (by rw [k7]; exact s11) (by rw [d8]; exact s12) s13 s14
  have wfE : ∀ E : List Int32, gWf E → E.length ≤ 160 → wfc (E.map dM) 0 := fun E hw hl => by
    have := hw [] 0 (by omega) rfl
    rw [List.append_nil] at this
    exact this
  have low : ∀ r, r < t → okT X9 r ∧ okTM M6 r ∧ ∀ p, p < 3 → cX X9 r p = cM M6 r p := by
    intro r hr
    obtain ⟨g1, g2, g3⟩ := htx r hr
    obtain ⟨n1', n2'⟩ := cM_low (MM' := M6) t6 hcd hq (fun q hql => by rw [k6, k7]; exact G5.2.2.2 q hql) (fun k hk => by rw [d8]; exact G5.2.2.1 k hk) hr g2
    have rx1 : X9.1 (32 + 4 * r + 1) = MX.1 (32 + 4 * r + 1) := rowX _ (by omega) (by omega) (by omega) (by omega) (by omega) (by omega)
    have rx2 : X9.1 (32 + 4 * r + 2) = MX.1 (32 + 4 * r + 2) := rowX _ (by omega) (by omega) (by omega) (by omega) (by omega) (by omega)
    have hc : ∀ p, cX X9 r p = cX MX r p := fun p => by unfold cX; rw [rx1, rx2]
    refine ⟨?_, n1', fun p hp => by rw [hc, n2' p hp]; exact g3 p hp⟩
    unfold okT
    rw [rx2]
    exact ⟨g1.1, fun p hp => by rw [hc]; exact g1.2 p hp⟩
  refine ⟨by omega, by omega, by rw [eX9, zu_same], by rw [eM6, zu_same], fun r hr => ?_, cd + E0.length + E1.length + E2.length, by rw [fM 14 (by decide) (by decide)]; exact s9, by omega, fun q hql => ?_⟩
  · by_cases hrt : r < t
    · exact low r hrt
    have ert : r = t := by omega
    subst ert
    refine ⟨⟨⟨E0.length, E0.length + E1.length, E0.length + E1.length + E2.length, by omega, by omega, by omega, by rw [q2' 0 (by omega)]; exact e5.1, by rw [q2' 1 (by omega)]; exact e5.2.1, by rw [q2' 2 (by omega)]; exact e5.2.2⟩, fun p hp => ?_⟩, fun p hp => ?_, fun p hp => ?_⟩
    · rcases (show p = 0 ∨ p = 1 ∨ p = 2 by omega) with rfl | rfl | rfl
      · rw [cX0]; exact wfE E0 p13 (by omega)
      · rw [cX1]; exact wfE E1 q13 (by omega)
      · rw [cX2]; exact wfE E2 s13 (by omega)
    · rcases (show p = 0 ∨ p = 1 ∨ p = 2 by omega) with rfl | rfl | rfl
      · exact m0.1
      · exact m1'.1
      · exact m2'.1
    · rcases (show p = 0 ∨ p = 1 ∨ p = 2 by omega) with rfl | rfl | rfl
      · rw [cX0, m0.2]
      · rw [cX1, m1'.2]
      · rw [cX2, m2'.2]
  · by_cases hq3 : q < 3 * t
    · obtain ⟨b', l, e6, e7, hbl⟩ := hq q hq3
      exact ⟨b', l, by rw [k6, (G5.2.2.2 q hq3).1]; exact e6, by rw [k7, (G5.2.2.2 q hq3).2]; exact e7, by omega⟩
    · rcases (show q = 3 * t ∨ q = 3 * t + 1 ∨ q = 3 * t + 2 by omega) with rfl | rfl | rfl
      · exact ⟨cd, E0.length, by rw [k6, (s15.2.2.2.2 _ (by omega)).1, (q15.2.2.2.2 _ (by omega)).1]; exact p10, by rw [k7, (s15.2.2.2.2 _ (by omega)).2, (q15.2.2.2.2 _ (by omega)).2]; exact p11, by omega⟩
      · exact ⟨cd + E0.length, E1.length, by rw [k6, (s15.2.2.2.2 _ (by omega)).1]; exact q10, by rw [k7, (s15.2.2.2.2 _ (by omega)).2]; exact q11, by omega⟩
      · exact ⟨cd + E0.length + E1.length, E2.length, by rw [k6]; exact s10, by rw [k7]; exact s11, by omega⟩

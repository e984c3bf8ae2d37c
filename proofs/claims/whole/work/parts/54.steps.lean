/-! steps: the tape, THE RULE -/
theorem st_feed {T : zM → Prop} (hTab : tabOk T) (MX MM : zM) (hR : RelT T MX MM) (a1 : Int32) : ∃ (r : Int32) (MX' MM' : zM), fX5_feed a1 MX = some (r, MX') ∧ fX6_feed a1 MM = some (r, MM') ∧ RelT T MX' MM' := by
  obtain ⟨hT, t, hP, hTx, hA, hSh, hI⟩ := id hR
  obtain ⟨z, hz, x3, m8, hb⟩ := id hA
  unfold fX5_feed fX6_feed
  rw [zB_s (win5 _ _ _ _), zB_s (win6 _ _ _ _)]
  rcases zWin_c a1 0 255 with ⟨z1, -⟩ | ⟨z1, k1, k2⟩
  · rw [if_pos z1, if_pos z1]
    exact ⟨-2, MX, MM, rfl, rfl, hR⟩
  rw [if_neg (show ¬ zWin a1 0 255 = 0 by rw [z1]; decide), if_neg (show ¬ zWin a1 0 255 = 0 by rw [z1]; decide), m8]
  unfold fX2_add
  rw [x3]
  by_cases c : z = 160
  · rw [if_neg (by rw [c]; decide), if_pos (show nI z = 160 by rw [c]; rfl)]
    exact ⟨-4, MX, MM, rfl, rfl, hR⟩
  have hz' : z < 160 := by omega
  have hin := zin_nI hz' (show 160 < 2 ^ 31 by decide)
  obtain ⟨X1, eX1⟩ : ∃ M1, M1 = zu MX 3 z a1 := ⟨_, rfl⟩
  obtain ⟨X2, eX2⟩ : ∃ M1, M1 = zu X1 2 3 (nI (z + 1)) := ⟨_, rfl⟩
  obtain ⟨M1, eM1⟩ : ∃ M1, M1 = zu MM 0 8 (nI (z + 1)) := ⟨_, rfl⟩
  obtain ⟨M2, eM2⟩ : ∃ M2, M2 = zu M1 5 z a1 := ⟨_, rfl⟩
  have q1 : X1.1 2 3 = nI z := by rw [eX1, zu_row _ (by decide)]; exact x3
  have q2 : X2.1 2 3 = nI (z + 1) := by rw [eX2, zu_same]
  have q3 : M2.1 0 8 = nI (z + 1) := by rw [eM2, zu_row _ (by decide), eM1, zu_same]
  rw [if_pos (by rw [show (160 : Int32) = nI 160 from rfl, nI_ltI (by omega) (by omega)]; omega), zG_t hin, nIc (by omega), zL_r, ← eX1, q1, nI_1, zL_r, ← eX2, q2, zB_s rfl, if_neg (show ¬ nI z = 160 from fun q => c ((nI_eq (by omega) (by omega)).mp q)), zL_r, zG_t hin, ← eM1, zL_r, ← eM2, q3]
  have xr : ∀ i, i ≠ 2 → i ≠ 3 → X2.1 i = MX.1 i := fun i h2 h3 => by rw [eX2, zu_row _ h2, eX1, zu_row _ h3]
  have mr : ∀ i, i ≠ 0 → i ≠ 5 → M2.1 i = MM.1 i := fun i h2 h3 => by rw [eM2, zu_row _ h3, eM1, zu_row _ h2]
  have m0 : ∀ k, k ≠ 8 → M2.1 0 k = MM.1 0 k := fun k hk => by rw [eM2, zu_row _ (by decide), eM1, zu_other _ _ hk]
  refine ⟨nI (z + 1), X2, M2, rfl, rfl, hTab MX X2 (xr 6 (by decide) (by decide)) (xr 9 (by decide) (by decide)) (by rw [eX2, eX1]; rfl) hT, t, ?_, ?_, ?_, ?_, ?_⟩
  · exact rP_M (m0 0 (by decide)) (m0 1 (by decide)) (m0 2 (by decide)) (m0 7 (by decide)) (mr 1 (by decide) (by decide)) (mr 2 (by decide) (by decide)) (fun j _ => by rw [mr 3 (by decide) (by decide)]) (fun j _ => by rw [mr 4 (by decide) (by decide)]) (rP_X (fun i h1 h2 => xr i (by omega) (by omega)) hP)
  · exact rT_M (m0 10 (by decide)) (m0 14 (by decide)) (mr 6 (by decide) (by decide)) (mr 7 (by decide) (by decide)) (mr 8 (by decide) (by decide)) (rT_X (by rw [xr 0 (by decide) (by decide)]) (fun r => ⟨xr _ (by omega) (by omega), xr _ (by omega) (by omega)⟩) hTx)
  · refine ⟨z + 1, by omega, q2, q3, fun j hj => ?_⟩
    have xa : X2.1 3 j = if j = z then a1 else MX.1 3 j := by
      rw [eX2, zu_row _ (by decide), eX1, zu_at]
      by_cases h : j = z
      · rw [if_pos ⟨rfl, h⟩, if_pos h]
      · rw [if_neg (fun q => h q.2), if_neg h]
    have ma : M2.1 5 j = if j = z then a1 else MM.1 5 j := by
      rw [eM2, zu_at]
      by_cases h : j = z
      · rw [if_pos ⟨rfl, h⟩, if_pos h]
      · rw [if_neg (fun q => h q.2), if_neg h, eM1, zu_row _ (by decide)]
    rw [xa, ma]
    by_cases h : j = z
    · rw [if_pos h, if_pos h]; exact ⟨rfl, k1, k2⟩
    · rw [if_neg h, if_neg h]; exact hb j (by omega)
  · exact rS_M (mr 20 (by decide) (by decide)) (mr 21 (by decide) (by decide)) (mr 22 (by decide) (by decide)) (rS_X (fun s _ => ⟨xr _ (by omega) (by omega), xr _ (by omega) (by omega)⟩) hSh)
  · exact rI_M (fun k a b => m0 k (by omega)) (fun n e5 hn => ⟨n, Nat.le_refl _, hn, by rw [m0 2 (by decide)]; exact e5, fun i _ => by rw [mr 1 (by decide) (by decide)]⟩) (mr 17 (by decide) (by decide)) (mr 18 (by decide) (by decide)) (mr 19 (by decide) (by decide)) (rI_X (by rw [xr 0 (by decide) (by decide)]) (fun i a b => xr i (by omega) (by omega)) hI)
theorem st_force {T : zM → Prop} (hTab : tabOk T) (MX MM : zM) (hR : RelT T MX MM) (a1 : Int32) : ∃ (r : Int32) (MX' MM' : zM), fX5_force a1 MX = some (r, MX') ∧ fX6_force a1 MM = some (r, MM') ∧ RelT T MX' MM' := by
  obtain ⟨hT, t, hP, hTx, hA, hSh, hI⟩ := id hR
  obtain ⟨t1, t6, c7, c10, htx, -⟩ := id hTx
  obtain ⟨n, r, hn, hr, a7, b2, e8, e9, a10, b7, hd, hp⟩ := id hP
  unfold fX5_force fX6_force
  have hm : nI t - 1 = nI (t - 1) := nI_m1 (by omega)
  rw [c7, c10, hm, zB_s (win5 _ _ _ _), zB_s (win6 _ _ _ _)]
  rcases zWin_c a1 0 (nI (t - 1)) with ⟨z1, -⟩ | ⟨z1, k1, k2⟩
  · rw [if_pos z1, if_pos z1]
    exact ⟨-2, MX, MM, rfl, rfl, hR⟩
  rw [if_neg (show ¬ zWin a1 0 (nI (t - 1)) = 0 by rw [z1]; decide), if_neg (show ¬ zWin a1 0 (nI (t - 1)) = 0 by rw [z1]; decide), zL_r, zL_r, zL_r, zL_r, a10, b7]
  obtain ⟨q, hq0, hq, eq⟩ := i32_in (a := 0) (b := t - 1) k1 k2 (by omega) (by omega)
  refine ⟨nI r, _, _, rfl, rfl, RelT_now hTab hR (zO_zu _ _ _ _ (by decide)) (fun i hi => zu_row _ (fun q => hi (by rw [q]; decide)) _ _) (fun k hk _ => zu_other _ _ (by omega) _) (fun n' h1 h2 => ⟨n', Nat.le_refl _, h2, by rw [zu_other _ _ (by decide)]; exact h1, fun i _ => by rw [zu_row _ (by decide)]⟩) (fun t' hP' hT' => ?_)⟩
  have ht : t' = t := by
    obtain ⟨-, g2, g3, -⟩ := hT'
    exact (nI_eq (by omega) (by omega)).mp (g3.symm.trans c7)
  subst ht
  obtain ⟨n, r, hn, hr, a7, b2, e8, e9, a10, b7, hd, hp⟩ := hP'
  have x0 : ∀ k, k ≠ 10 → (zu MX 10 10 a1).1 10 k = MX.1 10 k := fun k hk => zu_other _ _ hk _
  have m0 : ∀ k, k ≠ 7 → (zu MM 0 7 a1).1 0 k = MM.1 0 k := fun k hk => zu_other _ _ hk _
  refine ⟨n, q, hn, by omega, by rw [x0 7 (by decide)]; exact a7, by rw [m0 2 (by decide)]; exact b2, by rw [x0 8 (by decide), m0 0 (by decide)]; exact e8, by rw [x0 9 (by decide), m0 1 (by decide)]; exact e9, by rw [zu_same]; exact eq, by rw [zu_same]; exact eq, by rw [m0 0 (by decide), m0 1 (by decide)]; exact hd, fun i hi => ?_⟩
  rw [zu_row MX (show (11 : Nat) ≠ 10 by decide), zu_row MX (show (12 : Nat) ≠ 10 by decide), zu_row MX (show (13 : Nat) ≠ 10 by decide), zu_row MX (show (14 : Nat) ≠ 10 by decide), zu_row MM (show (1 : Nat) ≠ 0 by decide), zu_row MM (show (2 : Nat) ≠ 0 by decide), zu_row MM (show (3 : Nat) ≠ 0 by decide), zu_row MM (show (4 : Nat) ≠ 0 by decide)]
  exact hp i hi
/-! steps: days, truly -/
theorem st_day {T : zM → Prop} (hTab : tabOk T) (MX MM : zM) (hR : RelT T MX MM) : ∃ (r : Int32) (MX' MM' : zM), fX5_day MX = some (r, MX') ∧ fX6_day MM = some (r, MM') ∧ RelT T MX' MM' := by
  obtain ⟨hT, t, hP, hTx, hA, hSh, hI⟩ := id hR
  obtain ⟨n, r, hn, hr, a7, b2, a10, b7, oX, oM, oV, hv, n2, n1⟩ := rP_view hP hTx
  obtain ⟨n', r', hn', hr', a7', b2', e8, e9, a10', b7', ⟨hd0, hd1, hw0⟩, hp⟩ := id hP
  have hnn : n' = n := (nI_eq (by omega) (by omega)).mp (b2'.symm.trans b2)
  subst hnn
  unfold fX5_day fX6_day
  rw [e8]
  by_cases c : MM.1 0 0 = 999
  · rw [if_neg (by rw [c]; decide), if_pos c]
    exact ⟨-3, MX, MM, rfl, rfl, hR⟩
  obtain ⟨d, hd, hd2, ed⟩ := i32_in (a := 0) (b := 999) hd0 hd1 (by omega) (by omega)
  have hd9 : d < 999 := by
    rcases Nat.lt_or_ge d 999 with h | h
    · exact h
    · exact absurd (show MM.1 0 0 = 999 by rw [ed, show d = 999 by omega]; rfl) c
  rw [if_pos (by rw [ed, show (999 : Int32) = nI 999 from rfl, nI_ltI (by omega) (by omega)]; omega), if_neg c]
  obtain ⟨X1, x1, x2, x3, x4, x5⟩ := fX4_passDay_e (Or.inl rfl) oX
  obtain ⟨M1, m1, m2, m3, m4, m5⟩ := fX6_goes_e oM oV
  rw [zV_s x1, zV_s m1, zB_s (fX4_rueOfAll_e x3), zB_s (fX6_allRue_e m3), x2, m2, hv]
  refine ⟨_, X1, M1, rfl, rfl, RelT_now hTab hR (zO_mono x4 (fun i hi => ?_)) (fun i hi => m4.2 i (fun q => hi ?_)) (fun k hk1 hk2 => m5 k (by omega)) (fun n'' h1 h2 => ⟨n'', Nat.le_refl _, h2, by rw [m5 2 (by decide)]; exact h1, fun i _ => by rw [m4.2 1 (by decide)]⟩) (fun t' hP' hT' => ?_)⟩
  · simp only [SC, List.mem_cons, List.not_mem_nil, or_false] at hi
    simp only [SX0, List.mem_cons, List.not_mem_nil, or_false]
    omega
  · simp only [SM, List.mem_cons, List.not_mem_nil, or_false] at q
    simp only [SR, List.mem_cons, List.not_mem_nil, or_false]
    omega
  · obtain ⟨q, rr, -, hrr, -, -, -, -, w10, w7, -, -⟩ := hP'
    have e1 : rr = r := by
      obtain ⟨-, g2, -⟩ := hT'
      obtain ⟨-, g6, -⟩ := hTx
      exact (nI_eq (by omega) (by omega)).mp (w7.symm.trans b7)
    subst e1
    refine rP_of (n := n') (r := rr) hn hrr (by rw [x5 7 (by decide)]; exact a7) (by rw [m5 2 (by decide)]; exact b2) (by rw [x5 10 (by decide)]; exact a10) (by rw [m5 7 (by decide)]; exact b7) (by rw [x2, m2, hv]) (by rw [m2]; exact sDay_ok oV) ?_ (fun i hi => ?_)
    · rw [m2]
      refine ⟨?_, ?_, hw0⟩
      · show 0 ≤ MM.1 0 0 + 1
        rw [ed, nI_1]; exact nI_pos' (by omega)
      · show MM.1 0 0 + 1 ≤ 999
        rw [ed, nI_1, show (999 : Int32) = nI 999 from rfl, nI_leI (by omega) (by omega)]; omega
    · rw [m2]
      obtain ⟨v1, v2, v3, v4⟩ := vM_at (M := MM) (i := i) (by rw [n2]; exact hi)
      show (0 ≤ vKind (vM MM) i ∧ vKind (vM MM) i ≤ 5) ∧ 0 ≤ vNum (vM MM) i
      rw [v1, v2]
      exact ⟨(hp i hi).1.2, (hp i hi).2.1.2⟩

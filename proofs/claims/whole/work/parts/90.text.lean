/-! text: class and reference side by side -/
theorem cds_add (f : Nat → Int32) (b n : Nat) : ∀ m, cds f b (n + m) = cds f b n ++ cds f (b + n) m
  | 0 => by
    show cds f b n = cds f b n ++ []
    rw [List.append_nil]
  | m + 1 => by
    show cds f b (n + m) ++ [f (b + (n + m))] = cds f b n ++ (cds f (b + n) m ++ [f (b + n + m)])
    rw [cds_add f b n m, List.append_assoc, Nat.add_assoc]
theorem bec3_a {q : Nat} (h4 : q + 2 ≠ 5) : ∀ (d i N : Nat) (M0 M : zM), zO [q + 2] M0 M → (∀ p, p < i → M.1 (q + 2) p = M0.1 5 p) → i + d = 3 → d < N → ∃ M', fX3_become_L29 q N (nI i) M = some M' ∧ zO [q + 2] M0 M' ∧ ∀ p, p < 3 → M'.1 (q + 2) p = M0.1 5 p := by
  intro d
  induction d with
  | zero =>
    intro i N M0 M hO hp hi hN
    obtain ⟨N, rfl⟩ : ∃ q, N = q + 1 := ⟨N - 1, by omega⟩
    have : i = 3 := by omega
    subst this
    refine ⟨M, ?_, hO, hp⟩
    show fX3_become_B29 _ _ _ M = _
    unfold fX3_become_B29
    rw [if_pos (by decide)]
  | succ d ih =>
    intro i N M0 M hO hp hi hN
    obtain ⟨N, rfl⟩ : ∃ q, N = q + 1 := ⟨N - 1, by omega⟩
    have h5 : M.1 5 = M0.1 5 := hO.2 5 (by simp only [List.mem_cons, List.not_mem_nil, or_false]; omega)
    obtain ⟨M', g1, g2, g3⟩ := ih (i + 1) N M0 (zu M (q + 2) i (M.1 5 i)) (zO_trans hO (zO_zu _ _ _ _ (by simp))) (fun p hpl => by
      rw [zu_at1]
      by_cases c : p = i
      · rw [if_pos c, c, h5]
      · rw [if_neg c]; exact hp p (by omega)) (by omega) (by omega)
    refine ⟨M', ?_, g2, g3⟩
    rw [← g1]
    show fX3_become_B29 _ _ _ M = _
    unfold fX3_become_B29
    rw [if_neg (by rw [show (3 : Int32) = nI 3 from rfl, nI_leI (by omega) (by omega)]; omega), zG_t (zin_nI (show i < 3 by omega) (by decide)), zG_t (zin_nI (show i < 3 by omega) (by decide)), nIc (by omega), zL_r, zL_r, nI_1]
theorem bec3_b {q : Nat} (h4 : q + 1 ≠ 4) : ∀ (d i N : Nat) (M0 M : zM), zO [q + 1] M0 M → (∀ p, p < i → M.1 (q + 1) p = M0.1 4 p) → i + d = 160 → d < N → ∃ M', fX3_become_L2 q N (nI i) M = fX3_become_L29 q zF (0 : Int32) M' ∧ zO [q + 1] M0 M' ∧ ∀ p, p < 160 → M'.1 (q + 1) p = M0.1 4 p := by
  intro d
  induction d with
  | zero =>
    intro i N M0 M hO hp hi hN
    obtain ⟨N, rfl⟩ : ∃ q, N = q + 1 := ⟨N - 1, by omega⟩
    have : i = 160 := by omega
    subst this
    refine ⟨M, ?_, hO, hp⟩
    show fX3_become_B2 _ _ _ M = _
    unfold fX3_become_B2
    rw [if_pos (by decide)]
  | succ d ih =>
    intro i N M0 M hO hp hi hN
    obtain ⟨N, rfl⟩ : ∃ q, N = q + 1 := ⟨N - 1, by omega⟩
    have h5 : M.1 4 = M0.1 4 := hO.2 4 (by simp only [List.mem_cons, List.not_mem_nil, or_false]; omega)
    obtain ⟨M', g1, g2, g3⟩ := ih (i + 1) N M0 (zu M (q + 1) i (M.1 4 i)) (zO_trans hO (zO_zu _ _ _ _ (by simp))) (fun p hpl => by
      rw [zu_at1]
      by_cases c : p = i
      · rw [if_pos c, c, h5]
      · rw [if_neg c]; exact hp p (by omega)) (by omega) (by omega)
    refine ⟨M', ?_, g2, g3⟩
    rw [← g1]
    show fX3_become_B2 _ _ _ M = _
    unfold fX3_become_B2
    rw [if_neg (by rw [show (160 : Int32) = nI 160 from rfl, nI_leI (by omega) (by omega)]; omega), zG_t (zin_nI (show i < 160 by omega) (by decide)), zG_t (zin_nI (show i < 160 by omega) (by decide)), nIc (by omega), zL_r, zL_r, nI_1]
theorem bec3_e {q : Nat} (h : 5 < q) (M : zM) : ∃ M', fX3_become q M = some M' ∧ (∀ p, p < 160 → M'.1 (q + 1) p = M.1 4 p) ∧ (∀ p, p < 3 → M'.1 (q + 2) p = M.1 5 p) ∧ zO [q + 1, q + 2] M M' := by
  obtain ⟨M1, a1, a2, a3⟩ := bec3_b (q := q) (by omega) 160 0 zF M M (zO_refl _ _) (fun p hp => absurd hp (by omega)) (by omega) (by unfold zF; omega)
  obtain ⟨M2, b1, b2, b3⟩ := bec3_a (q := q) (by omega) 3 0 zF M1 M1 (zO_refl _ _) (fun p hp => absurd hp (by omega)) (by omega) (by unfold zF; omega)
  refine ⟨M2, ?_, fun p hp => ?_, fun p hp => ?_, ?_⟩
  · have a1' : fX3_become q M = _ := a1
    rw [a1']
    exact b1
  · rw [b2.2 (q + 1) (by simp)]; exact a3 p hp
  · rw [b3 p hp, a2.2 5 (by simp only [List.mem_cons, List.not_mem_nil, or_false]; omega)]
  · exact zO_trans (zO_mono a2 (fun i hi => by simp only [List.mem_cons, List.not_mem_nil, or_false] at hi ⊢; omega)) (zO_mono b2 (fun i hi => by simp only [List.mem_cons, List.not_mem_nil, or_false] at hi ⊢; omega))
theorem rP_mono {t t' : Nat} {MX MM : zM} (h : t ≤ t') (hP : rP t MX MM) : rP t' MX MM := by
  obtain ⟨n, r, hn, hr, rest⟩ := hP
  exact ⟨n, r, hn, by omega, rest⟩
theorem rI_mono {t t' : Nat} {MX MM : zM} (h : t ≤ t') (hI : rI t MX MM) : rI t' MX MM := by
  rcases hI with h0 | ⟨a, b, n, k, r, h1, h2, h3, h4, rest⟩
  · exact Or.inl h0
  · exact Or.inr ⟨a, b, n, k, r, h1, h2, h3, by omega, rest⟩
/-- texts and tape alone have changed -/
theorem rel_tx {MX MM MX' MM' : zM} {t t' : Nat} (hT : zTab MX) (hP : rP t MX MM) (hS : rS MX MM) (hI : rI t MX MM) (htt : t ≤ t') (hX : ∀ i, (i = 6 ∨ i = 9 ∨ (10 ≤ i ∧ i < 15) ∨ (24 ≤ i ∧ i < 29) ∨ 56 ≤ i) → MX'.1 i = MX.1 i) (hX2 : MX'.2 = MX.2) (h08 : MX'.1 0 8 = MX.1 0 8) (h23 : MX'.1 2 3 = 0) (hM : ∀ i, (1 ≤ i ∧ i < 5 ∨ 17 ≤ i) → MM'.1 i = MM.1 i) (hF : ∀ k, k ∈ [0, 1, 2, 7, 40, 41, 42, 43, 44] → MM'.1 0 k = MM.1 0 k) (hM8 : MM'.1 0 8 = 0) (hTx : rT t' MX' MM') : RelT zTab MX' MM' := by
  have r1 := hM 1 (by omega)
  have r2 := hM 2 (by omega)
  have f2 := hF 2 (by decide)
  refine ⟨zTab_ok MX MX' (hX 6 (by omega)) (hX 9 (by omega)) hX2 hT, t', ?_, hTx, ?_, ?_, ?_⟩
  · exact rP_mono htt (rP_M (hF 0 (by decide)) (hF 1 (by decide)) f2 (hF 7 (by decide)) r1 r2 (fun j _ => by rw [hM 3 (by omega)]) (fun j _ => by rw [hM 4 (by omega)]) (rP_X (fun i a b => hX i (by omega)) hP))
  · exact ⟨0, by omega, h23, hM8, fun j hj => absurd hj (by omega)⟩
  · exact rS_M (hM 20 (by omega)) (hM 21 (by omega)) (hM 22 (by omega)) (rS_X (fun s _ => ⟨hX _ (by omega), hX _ (by omega)⟩) hS)
  · exact rI_mono htt (rI_M (fun k a b => hF k (by simp only [List.mem_cons, List.not_mem_nil, or_false]; omega)) (fun n e hn => ⟨n, Nat.le_refl _, hn, by rw [f2]; exact e, fun i _ => by rw [r1]⟩) (hM 17 (by omega)) (hM 18 (by omega)) (hM 19 (by omega)) (rI_X h08 (fun i a b => hX i (by omega)) hI))
/-- a text of before -/
theorem cM_low {t cd r : Nat} {MM MM' : zM} (ht : t ≤ 6) (hcd : cd ≤ 160 * t) (hq : ∀ q, q < 3 * t → ∃ b l : Nat, MM.1 6 q = nI b ∧ MM.1 7 q = nI l ∧ b + l ≤ cd) (h67 : ∀ q, q < 3 * t → MM'.1 6 q = MM.1 6 q ∧ MM'.1 7 q = MM.1 7 q) (h8 : ∀ k, k < cd → MM'.1 8 k = MM.1 8 k) (hr : r < t) (hT : okTM MM r) : okTM MM' r ∧ ∀ p, p < 3 → cM MM' r p = cM MM r p := by
  have hc : ∀ p, p < 3 → cM MM' r p = cM MM r p := fun p hp => by
    obtain ⟨b, l, e6, e7, hbl⟩ := hq (3 * r + p) (by omega)
    obtain ⟨g6, g7⟩ := h67 (3 * r + p) (by omega)
    unfold cM
    rw [g6, g7, e6, e7, nIc (by omega), nIc (by omega)]
    refine List.map_congr_left (fun k hk => ?_)
    rw [List.mem_range] at hk
    rw [h8 _ (by omega)]
  refine ⟨fun p hp => ?_, hc⟩
  rw [hc p hp]
  obtain ⟨b, n, e6, e7, h1, h2, h3, h4⟩ := hT p hp
  obtain ⟨b', l', e6', e7', hbl⟩ := hq (3 * r + p) (by omega)
  obtain ⟨g6, g7⟩ := h67 (3 * r + p) (by omega)
  rw [e6] at e6'
  rw [e7] at e7'
  have eb := (nI_eq (by omega) (by omega)).mp e6'
  have en := (nI_eq (by omega) (by omega)).mp e7'
  exact ⟨b, n, g6.trans e6, g7.trans e7, h1, h2, fun k hk => by rw [h8 _ (by omega)]; exact h3 k hk, h4⟩
/-- what was coded is a part -/
theorem cM_new {M : zM} {r p base : Nat} {E : List Int32} (hb : base + E.length ≤ 3000) (hl : E.length ≤ 160) (e6 : M.1 6 (3 * r + p) = nI base) (e7 : M.1 7 (3 * r + p) = nI E.length) (e8 : cds (M.1 8) base E.length = E) (hw : gWf E) (hc : gCd E) : okP M (3 * r + p) (cM M r p) ∧ cM M r p = E.map dM := by
  have e : cM M r p = E.map dM := by
    unfold cM
    have e' : E.map dM = (cds (M.1 8) base E.length).map dM := by rw [e8]
    rw [e6, e7, nIc (by omega), nIc (by omega), e', cds_range, List.map_map]
    rfl
  refine ⟨⟨base, E.length, e6, e7, hb, hl, fun k hk => ?_, ?_⟩, e⟩
  · have hm : M.1 8 (base + k) ∈ E := by
      rw [← e8, cds_range]
      exact List.mem_map.mpr ⟨k, List.mem_range.mpr hk, rfl⟩
    exact hc _ hm
  · rw [e]
    have := hw [] 0 (by omega) rfl
    rw [List.append_nil] at this
    exact this
theorem cX_new {M : zM} {r p s e : Nat} {F : List Int32} {f : Nat → Int32} (hs : (if p = 0 then 0 else (M.1 (32 + 4 * r + 2) (p - 1)).toNatClampNeg) = s) (he : (M.1 (32 + 4 * r + 2) p).toNatClampNeg = e) (hse : e = s + F.length) (hf : ∀ k, k < 160 → M.1 (32 + 4 * r + 1) k = f k) (h160 : e ≤ 160) (hF : cds f s F.length = F) : cX M r p = F := by
  have h1 : cX M r p = cds f s F.length := by
    rw [cds_range]
    unfold cX
    rw [hs, he, hse, Nat.add_sub_cancel_left]
    refine List.map_congr_left (fun k hk => ?_)
    rw [List.mem_range] at hk
    exact hf _ (by omega)
  rw [h1, hF]

/-! the class's worlds: what its methods answer -/
theorem isW_ne {w : Nat} (hw : isW w) : w + 5 ∈ SC ∧ w + 6 ∈ SB := by rcases hw with rfl | rfl | rfl <;> decide
theorem cX_len {M : zM} {r p s e : Nat} (hs : (if p = 0 then 0 else (M.1 (32 + 4 * r + 2) (p - 1)).toNatClampNeg) = s) (he : (M.1 (32 + 4 * r + 2) p).toNatClampNeg = e) : (cX M r p).length = e - s ∧ ∀ k, k < e - s → (cX M r p).getD k 0 = M.1 (32 + 4 * r + 1) (s + k) := by
  unfold cX
  rw [hs, he]
  refine ⟨by simp, fun k hk => ?_⟩
  simp [List.getD_eq_getElem?_getD, hk]
/-- a text's part, told -/
theorem fX3_tell_e {M : zM} {r p nm : Nat} (hr : r < 6) (hp : p < 3) (hT : okT M r) (hnm : nm = 16 ∨ nm = 23 ∨ nm = 30) : ∃ M', fX3_tell (32 + 4 * r) nm (nI p) M = some (sV (M.1 nm) (cX M r p), M') ∧ zO SB M M' := by
  obtain ⟨⟨e0, e1, e2, h01, h12, h2, k0, k1, k2⟩, hw⟩ := hT
  have hsc : ∀ M', zO [32 + 4 * r + 3] M M' → zO SB M M' := fun M' h => zO_mono h (fun i hi => by
    simp only [List.mem_singleton] at hi
    subst hi
    rcases (show r = 0 ∨ r = 1 ∨ r = 2 ∨ r = 3 ∨ r = 4 ∨ r = 5 by omega) with rfl | rfl | rfl | rfl | rfl | rfl <;> decide)
  have go : ∀ s e : Nat, s ≤ e → e ≤ 160 → M.1 (32 + 4 * r + 2) p = nI e → (if p = 0 then 0 else (M.1 (32 + 4 * r + 2) (p - 1)).toNatClampNeg) = s → ∃ M', fX3_tell_L20 (32 + 4 * r) nm zF (nI p) (0 : Int32) (nI s) M = some (sV (M.1 nm) (cX M r p), M') ∧ zO SB M M' := by
    intro s e hse he hpe hs
    have hee : (M.1 (32 + 4 * r + 2) p).toNatClampNeg = e := by rw [hpe, nIc (by omega)]
    obtain ⟨hlen, hget⟩ := cX_len hs hee
    obtain ⟨M', g1, g2⟩ := tell_loop (32 + 4 * r) nm (by omega) (by omega) p e hp he (cX M r p) s 0 M zF hpe (by omega) (fun k hk => (hget k (by omega)).symm) (hw p hp) (by omega) (by unfold zF; omega)
    exact ⟨M', g1, hsc M' g2⟩
  unfold fX3_tell
  rcases (show p = 0 ∨ p = 1 ∨ p = 2 by omega) with rfl | rfl | rfl
  · rw [if_pos (show nI 0 = 0 from rfl)]
    exact go 0 e0 (by omega) (by omega) k0 rfl
  · rw [if_neg (by decide), zG_t (by decide), zL_r]
    have : M.1 (32 + 4 * r + 2) (nI 1 - (1 : Int32)).toNatClampNeg = nI e0 := k0
    rw [this]
    exact go e0 e1 h01 (by omega) k1 (by
      show (M.1 (32 + 4 * r + 2) 0).toNatClampNeg = e0
      rw [k0, nIc (by omega)])
  · rw [if_neg (by decide), zG_t (by decide), zL_r]
    have : M.1 (32 + 4 * r + 2) (nI 2 - (1 : Int32)).toNatClampNeg = nI e1 := k1
    rw [this]
    exact go e1 e2 h12 (by omega) k2 (by
      show (M.1 (32 + 4 * r + 2) 1).toNatClampNeg = e1
      rw [k1, nIc (by omega)])
theorem mostRue_loop (w n : Nat) (hn : n ≤ 5) : ∀ (d i N : Nat) (M : zM), M.1 w 7 = nI n → i + d = n → d < N → fX4_mostRue_L4 w N (sMx (M.1 (w + 3)) i) (nI i) M = some (sMx (M.1 (w + 3)) n, M) := by
  intro d
  induction d with
  | zero =>
    intro i N M h7 hi hN
    obtain ⟨N, rfl⟩ : ∃ q, N = q + 1 := ⟨N - 1, by omega⟩
    show fX4_mostRue_B4 w _ _ _ M = _
    unfold fX4_mostRue_B4
    rw [h7, if_pos ((nI_leI (by omega) (by omega)).mpr (by omega)), show i = n by omega]
  | succ d ih =>
    intro i N M h7 hi hN
    obtain ⟨N, rfl⟩ : ∃ q, N = q + 1 := ⟨N - 1, by omega⟩
    show fX4_mostRue_B4 w _ _ _ M = _
    unfold fX4_mostRue_B4
    rw [h7, if_neg (by rw [nI_leI (by omega) (by omega)]; omega), zG_t (zin_nI (by omega) (by decide)), nIc (by omega)]
    simp only [zL_r]
    rw [nI_1]
    exact ih (i + 1) N M h7 (by omega) (by omega)
theorem fX4_mostRue_e {w n : Nat} {M : zM} (hn : n ≤ 5) (h7 : M.1 w 7 = nI n) : fX4_mostRue w M = some (sMx (M.1 (w + 3)) n, M) :=
  mostRue_loop w n hn n 0 zF M h7 (by omega) (by unfold zF; omega)
/-- what THE RULE tells of one -/
theorem fX4_ruleTells_e {w : Nat} (hw : isW w) {M : zM} (hM : okX w M) {p i : Nat} (hp : p < 3) (hi : i < vN (vX w M)) : ∃ M', fX4_ruleTells w (nI p) (nI i) M = some (sTl (vX w M) p i, M') ∧ zO SB M M' := by
  obtain ⟨⟨n, hn, h7⟩, r, hr, h10, hT⟩ := id hM
  have hvn : vN (vX w M) = n := by show (M.1 w 7).toNatClampNeg = n; rw [h7, nIc (by omega)]
  rw [hvn] at hi
  obtain ⟨s5, s6⟩ := isW_ne hw
  have a6 : ∀ k, k < 5 → w + k ≠ w + 6 := fun k hk => by omega
  unfold fX4_ruleTells
  rw [h10, if_neg (nI_pos (by omega)), if_neg (by rw [show (6 : Int32) = nI 6 from rfl, nI_leI (by omega) (by omega)]; omega), zG_t (zin_nI hr (by decide)), zL_r, zG_t (zin_nI (show i < 5 by omega) (by decide)), nIc (show i < 2 ^ 31 by omega)]
  simp only [zL_r]
  rw [zG_t (zin_nI (show i < 5 by omega) (by decide)), zG_t (zin_nI (show i < 5 by omega) (by decide))]
  simp only [n0, n1, n2, n3, n4, n5]
  -- the rows that the names are read from stay
  obtain ⟨M1, e1⟩ : ∃ M1, M1 = zu M (w + 6) 0 (M.1 (w + 3) i) := ⟨_, rfl⟩
  rw [← e1]
  have r1 : ∀ k, k < 5 → M1.1 (w + k) = M.1 (w + k) := fun k hk => by rw [e1]; exact zu_row _ (a6 k hk) _ _
  have r10 : M1.1 w = M.1 w := r1 0 (by omega)
  rw [r1 2 (by omega)]
  obtain ⟨M2, e2⟩ : ∃ M2, M2 = zu M1 (w + 6) 1 (M.1 (w + 2) i) := ⟨_, rfl⟩
  rw [← e2]
  have r2 : ∀ k, k < 5 → M2.1 (w + k) = M.1 (w + k) := fun k hk => by rw [e2, zu_row _ (a6 k hk)]; exact r1 k hk
  have r20 : M2.1 w = M.1 w := r2 0 (by omega)
  rw [r20]
  obtain ⟨M3, e3⟩ : ∃ M3, M3 = zu M2 (w + 6) 2 (M.1 w 9) := ⟨_, rfl⟩
  rw [← e3]
  have r3 : ∀ k, k < 5 → M3.1 (w + k) = M.1 (w + k) := fun k hk => by rw [e3, zu_row _ (a6 k hk)]; exact r2 k hk
  have r30 : M3.1 w = M.1 w := r3 0 (by omega)
  rw [r30]
  obtain ⟨M4, e4⟩ : ∃ M4, M4 = zu M3 (w + 6) 3 (M.1 w 8) := ⟨_, rfl⟩
  rw [← e4]
  have r4 : ∀ k, k < 5 → M4.1 (w + k) = M.1 (w + k) := fun k hk => by rw [e4, zu_row _ (a6 k hk)]; exact r3 k hk
  rw [r4 4 (by omega)]
  obtain ⟨M5, e5⟩ : ∃ M5, M5 = zu M4 (w + 6) 4 (M.1 (w + 4) i) := ⟨_, rfl⟩
  rw [← e5]
  have r5 : ∀ k, k < 5 → M5.1 (w + k) = M.1 (w + k) := fun k hk => by rw [e5, zu_row _ (a6 k hk)]; exact r4 k hk
  have r50 : M5.1 w = M.1 w := r5 0 (by omega)
  rw [zB_s (fX4_mostRue_e hn (by rw [r50]; exact h7)), r5 3 (by omega)]
  obtain ⟨M6, e6⟩ : ∃ M6, M6 = zu M5 (w + 6) 5 (sMx (M.1 (w + 3)) n) := ⟨_, rfl⟩
  rw [← e6]
  have r6 : ∀ k, k < 5 → M6.1 (w + k) = M.1 (w + k) := fun k hk => by rw [e6, zu_row _ (a6 k hk)]; exact r5 k hk
  have r60 : M6.1 w = M.1 w := r6 0 (by omega)
  have hO : zO SB M M6 := by
    rw [e6, e5, e4, e3, e2, e1]
    exact zO_trans (zO_trans (zO_trans (zO_trans (zO_trans (zO_zu _ _ _ _ s6) (zO_zu _ _ _ _ s6)) (zO_zu _ _ _ _ s6)) (zO_zu _ _ _ _ s6)) (zO_zu _ _ _ _ s6)) (zO_zu _ _ _ _ s6)
  rw [r60, h10, zG_t (zin_nI hr (by decide)), nIc (show r < 2 ^ 31 by omega)]
  obtain ⟨M7, g1, g2⟩ := fX3_tell_e hr hp (okT_congr (SBC hO) hT) (nm := w + 6) (by rcases hw with rfl | rfl | rfl <;> decide)
  rw [zB_s g1]
  refine ⟨M7, ?_, zO_trans hO g2⟩
  have hr' : (M.1 w 10).toNatClampNeg = r := by rw [h10, nIc (by omega)]
  have hval : sV (M6.1 (w + 6)) (cX M6 r p) = sTl (vX w M) p i := by
    rw [cX_congr (SBC hO)]
    show _ = (if p < 3 then sV (sNm (vX w M) i) (cX M (M.1 w 10).toNatClampNeg p) else 0)
    rw [hr', if_pos hp]
    refine sV_congr (fun k hk => ?_) (hT.2 p hp)
    have zt3 : vRue (vX w M) = zt n (M.1 (w + 3)) := by show zt (M.1 w 7).toNatClampNeg _ = _; rw [show (M.1 w 7).toNatClampNeg = n from hvn]
    have zt2 : vNum (vX w M) = zt n (M.1 (w + 2)) := by show zt (M.1 w 7).toNatClampNeg _ = _; rw [show (M.1 w 7).toNatClampNeg = n from hvn]
    have zt4 : vHad (vX w M) = zt n (M.1 (w + 4)) := by show zt (M.1 w 7).toNatClampNeg _ = _; rw [show (M.1 w 7).toNatClampNeg = n from hvn]
    unfold sNm
    rw [zt3, zt2, zt4, hvn, zt_lt hi, zt_lt hi, zt_lt hi, sMx_congr (g := M.1 (w + 3)) (fun j hj => zt_lt hj _)]
    rcases (show k = 0 ∨ k = 1 ∨ k = 2 ∨ k = 3 ∨ k = 4 ∨ k = 5 by omega) with rfl | rfl | rfl | rfl | rfl | rfl
    · rw [e6, zu_other _ _ (by omega), e5, zu_other _ _ (by omega), e4, zu_other _ _ (by omega), e3, zu_other _ _ (by omega), e2, zu_other _ _ (by omega), e1, zu_same]; rfl
    · rw [e6, zu_other _ _ (by omega), e5, zu_other _ _ (by omega), e4, zu_other _ _ (by omega), e3, zu_other _ _ (by omega), e2, zu_same]; rfl
    · rw [e6, zu_other _ _ (by omega), e5, zu_other _ _ (by omega), e4, zu_other _ _ (by omega), e3, zu_same]; rfl
    · rw [e6, zu_other _ _ (by omega), e5, zu_other _ _ (by omega), e4, zu_same]; rfl
    · rw [e6, zu_other _ _ (by omega), e5, zu_same]; rfl
    · rw [e6, zu_same]; rfl
  rw [hval]

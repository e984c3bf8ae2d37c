/-! the reference: by how few turns, in which way -/
theorem cTab_F {A B C t m s : Nat} {M M' : zM} (h : M'.1 16 = M.1 16) (hT : cTab A B C t m s M) : cTab A B C t m s M' := by
  intro m' s' h1 h2 h3
  rw [h]
  exact hT m' s' h1 h2 h3
/-- ways that begin with a set below x -/
def gLo (A B C r s x : Nat) (p : List Nat) : Prop := gOk A B C r s p ∧ ∃ y d, p = y :: d ∧ y < x
theorem gLo_8 {A B C r s : Nat} (hr : 0 < r) (p : List Nat) : gLo A B C r s 8 p ↔ gOk A B C r s p := by
  refine ⟨fun h => h.1, fun h => ⟨h, ?_⟩⟩
  cases p with
  | nil => have e : r = 0 := h; omega
  | cons y d => exact ⟨y, d, rfl, h.1⟩
theorem gLo_set {A B C r s x v v1 : Nat} (hr : r ≤ 30) (hx : x < 8) (h : gMn gTn 9999 (gLo A B C r s x) v) (hv : gBy A B C r s x v1 ∨ v1 = 9999 ∧ ∀ w, ¬ gBy A B C r s x w) : gMn gTn 9999 (gLo A B C r s (x + 1)) (min v v1) := by
  have lv := (gMn_lt h (fun p hp => gOk_tn hp.1 hr)).2
  have no : (∀ d, ¬ gOk A B C r s (x :: d)) → 9999 ≤ v1 → gMn gTn 9999 (gLo A B C r s (x + 1)) (min v v1) := by
    intro n l
    rw [Nat.min_eq_left (by omega)]
    refine gMn_congr (fun p => ⟨fun ⟨q1, y, d, q2, q3⟩ => ⟨q1, y, d, q2, by omega⟩, fun ⟨q1, y, d, q2, q3⟩ => ⟨q1, y, d, q2, ?_⟩⟩) h
    by_cases e : y = x
    · rw [q2, e] at q1
      exact absurd q1 (n d)
    · omega
  rcases hv with hb | ⟨e, n⟩
  · obtain ⟨b1, b2, v', b3, b4⟩ := id hb
    rcases b3 with ⟨a, n⟩ | ⟨p, a, e, hm⟩
    · exact no (fun d hd => n d hd.2.2.2) (by omega)
    · have h1 : gMn gTn 9999 (fun q => ∃ d, q = x :: d ∧ gOk A B C r s q) v1 := by
        refine Or.inr ⟨x :: p, ⟨p, rfl, hx, b1, b2, a⟩, ?_, ?_⟩
        · show v1 = gBc x + gTn p
          omega
        · rintro q ⟨d, rfl, hd⟩
          have := hm d hd.2.2.2
          show gBc x + gTn p ≤ gBc x + gTn d
          omega
      refine gMn_congr (fun q => ?_) (gMn_union h h1 (fun q hq => by
        rcases hq with hq | ⟨d, -, hq⟩
        · exact Nat.le_of_lt (gOk_tn hq.1 hr)
        · exact Nat.le_of_lt (gOk_tn hq hr)))
      constructor
      · rintro (⟨q1, y, d, q2, q3⟩ | ⟨d, q2, q1⟩)
        · exact ⟨q1, y, d, q2, by omega⟩
        · exact ⟨q1, x, d, q2, by omega⟩
      · rintro ⟨q1, y, d, q2, q3⟩
        by_cases e : y = x
        · rw [e] at q2
          exact Or.inr ⟨d, q2, q1⟩
        · exact Or.inl ⟨q1, y, d, q2, by omega⟩
  · exact no (fun d hd => by
      obtain ⟨v1', g1, -, -⟩ := gBy_of hr hd
      exact n _ g1) (by omega)
theorem counts60 {A B C t m s : Nat} (hA : A ≤ 9) (hB : B ≤ 9) (hC : C ≤ 9) (ht : t ≤ 30) (hm : m < t) (hW : gW A B C s) (r4 : Int32 → Int32 → zM → Option zM) (r10 : Int32 → Int32 → Int32 → zM → Option zM) : ∀ (d x N v : Nat) (M : zM), x + d = 8 → d < N → rSz A B C M → cTab A B C t m s M → M.1 16 (1000 * m + s) = nI v → gMn gTn 9999 (gLo A B C (t - m) s x) v → ∃ M', fX6_counts_L60 r4 r10 N (nI t) (nI m) (nI s) (nI x) M = r10 (nI t) (nI m) (nI (s + 1)) M' ∧ gF M M' ∧ cTab A B C t m (s + 1) M' := by
  have hs := hW.1
  intro d
  induction d with
  | zero =>
    intro x N v M hx hN hz hT hv hI
    obtain ⟨N, rfl⟩ : ∃ q, N = q + 1 := ⟨N - 1, by omega⟩
    have : x = 8 := by omega
    subst this
    refine ⟨M, ?_, gF_refl M, fun m' s' h1 h2 h3 => ?_⟩
    · show fX6_counts_B60 _ _ _ _ _ _ _ M = _
      unfold fX6_counts_B60
      rw [if_pos (by decide), zL_r, nI_1]
    · by_cases c : m' = m ∧ s' = s
      · rw [c.1, c.2]
        exact ⟨v, hv, gMn_congr (gLo_8 (by omega)) hI⟩
      · exact hT m' s' h1 h2 (by omega)
  | succ d ih =>
    intro x N v M hx hN hz hT hv hI
    obtain ⟨N, rfl⟩ : ∃ q, N = q + 1 := ⟨N - 1, by omega⟩
    have hx8 : x < 8 := by omega
    have lv := (gMn_lt hI (fun p hp => gOk_tn hp.1 (by omega))).2
    obtain ⟨v1, b1, b2, b3⟩ := byf_e hA hB hC ht hm hW hx8 hz hT
    have hst := gLo_set (by omega) hx8 hI b3
    have li : 1000 * m + s < 31000 := by omega
    have hU : fX6_counts_L60 r4 r10 (N + 1) (nI t) (nI m) (nI s) (nI x) M = fX6_counts_B60 r4 r10 (fX6_counts_L60 r4 r10 N) (nI t) (nI m) (nI s) (nI x) M := rfl
    rw [hU]
    unfold fX6_counts_B60
    rw [if_neg (by rw [show (8 : Int32) = nI 8 from rfl, nI_leI (by omega) (by omega)]; omega), zB_s b1, show (1000 : Int32) = nI 1000 from rfl, pk_mul, nI_add, zG_t (zin_nI li (by omega)), nIc (by omega), gTd_row _ _ _ (by decide), hv]
    have e16 : (gTd M (gS A B C s x) (gN A B C s x)).1 16 = M.1 16 := gTd_row _ _ _ (by decide)
    by_cases c : v ≤ v1
    · rw [if_pos ((nI_leI (by omega) (by omega)).mpr c), zL_r, nI_1]
      rw [Nat.min_eq_left c] at hst
      obtain ⟨M', g1, g2, g3⟩ := ih (x + 1) N v (gTd M (gS A B C s x) (gN A B C s x)) (by omega) (by omega) (rSz_F (gTd_F _ _ _) hz) (cTab_F e16 hT) (by rw [e16]; exact hv) hst
      exact ⟨M', g1, gF_trans (gTd_F _ _ _) g2, g3⟩
    · rw [if_neg (fun q => c ((nI_leI (by omega) (by omega)).mp q)), zG_t (zin_nI li (by omega)), zL_r, zL_r, nI_1]
      rw [Nat.min_eq_right (by omega)] at hst
      obtain ⟨M', g1, g2, g3⟩ := ih (x + 1) N v1 (zu (gTd M (gS A B C s x) (gN A B C s x)) 16 (1000 * m + s) (nI v1)) (by omega) (by omega) (rSz_F (gF_trans (gTd_F M (gS A B C s x) (gN A B C s x)) (gF_zu _ (Or.inr rfl) _ _)) hz) (fun m' s' h1 h2 h3 => by
        have hlt := h2.1
        rw [zu_at1, if_neg (by omega), e16]
        exact hT m' s' h1 h2 h3) (by rw [zu_same]) hst
      exact ⟨M', g1, gF_trans (gF_trans (gTd_F _ _ _) (gF_zu _ (Or.inr rfl) _ _)) g2, g3⟩
theorem isWay_e {A B C s : Nat} (hA : A ≤ 9) (hB : B ≤ 9) (hC : C ≤ 9) (hs : s < 1000) {M : zM} (hz : rSz A B C M) : (gW A B C s ∧ fX6_isWay (nI s / (100 : Int32)) (zrm (nI s / (10 : Int32)) (10 : Int32)) (zrm (nI s) (10 : Int32)) M = some (1, M)) ∨ (¬ gW A B C s ∧ fX6_isWay (nI s / (100 : Int32)) (zrm (nI s / (10 : Int32)) (10 : Int32)) (zrm (nI s) (10 : Int32)) M = some (0, M)) := by
  rw [dg_1 hs, dg_2 hs, dg_3 hs]
  unfold fX6_isWay
  rw [hz.1, hz.2.1, hz.2.2]
  by_cases c1 : A < s / 100
  · rw [if_pos ((nI_ltI (by omega) (by omega)).mpr c1)]
    exact Or.inr ⟨fun q => by have := q.2.1; omega, rfl⟩
  · rw [if_neg (fun q => c1 ((nI_ltI (by omega) (by omega)).mp q))]
    by_cases c2 : B < s / 10 % 10
    · rw [if_pos ((nI_ltI (by omega) (by omega)).mpr c2)]
      exact Or.inr ⟨fun q => by have := q.2.2.1; omega, rfl⟩
    · rw [if_neg (fun q => c2 ((nI_ltI (by omega) (by omega)).mp q))]
      by_cases c3 : C < s % 10
      · rw [if_pos ((nI_ltI (by omega) (by omega)).mpr c3)]
        exact Or.inr ⟨fun q => by have := q.2.2.2; omega, rfl⟩
      · rw [if_neg (fun q => c3 ((nI_ltI (by omega) (by omega)).mp q))]
        exact Or.inl ⟨⟨hs, by omega, by omega, by omega⟩, rfl⟩
theorem counts10 {A B C t m : Nat} (hA : A ≤ 9) (hB : B ≤ 9) (hC : C ≤ 9) (ht : t ≤ 30) (hm : m < t) (r4 : Int32 → Int32 → zM → Option zM) : ∀ (d s N : Nat) (M : zM), s + d = 1000 → d < N → rSz A B C M → cTab A B C t m s M → ∃ M', fX6_counts_L10 r4 N (nI t) (nI m) (nI s) M = r4 (nI t) (nI m - 1) M' ∧ gF M M' ∧ cTab A B C t m 1000 M' := by
  intro d
  induction d with
  | zero =>
    intro s N M hx hN hz hT
    obtain ⟨N, rfl⟩ : ∃ q, N = q + 1 := ⟨N - 1, by omega⟩
    have : s = 1000 := by omega
    subst this
    refine ⟨M, ?_, gF_refl M, hT⟩
    show fX6_counts_B10 _ _ _ _ _ M = _
    unfold fX6_counts_B10
    rw [if_pos (by decide), zL_r, nI_p1]
  | succ d ih =>
    intro s N M hx hN hz hT
    obtain ⟨N, rfl⟩ : ∃ q, N = q + 1 := ⟨N - 1, by omega⟩
    have hs : s < 1000 := by omega
    have li : 1000 * m + s < 31000 := by omega
    have hU : fX6_counts_L10 r4 (N + 1) (nI t) (nI m) (nI s) M = fX6_counts_B10 r4 (fX6_counts_L10 r4 N) (nI t) (nI m) (nI s) M := rfl
    rw [hU]
    unfold fX6_counts_B10
    rw [if_neg (by rw [show (1000 : Int32) = nI 1000 from rfl, nI_leI (by omega) (by omega)]; omega), show (1000 : Int32) * nI m + nI s = nI (1000 * m + s) by rw [show (1000 : Int32) = nI 1000 from rfl, pk_mul, nI_add], zG_t (zin_nI li (by omega)), nIc (by omega), zL_r]
    have hz1 : rSz A B C (zu M 16 (1000 * m + s) (9999 : Int32)) := rSz_F (gF_zu _ (Or.inr rfl) _ _) hz
    have hT1 : cTab A B C t m s (zu M 16 (1000 * m + s) (9999 : Int32)) := fun m' s' h1 h2 h3 => by
      have hlt := h2.1
      rw [zu_at1, if_neg (by omega)]
      exact hT m' s' h1 h2 h3
    rcases isWay_e hA hB hC hs hz1 with ⟨hW, e⟩ | ⟨hW, e⟩
    · rw [zB_s e, if_neg (show ¬ (1 : Int32) = 0 by decide)]
      obtain ⟨M1, t1, t2, t3⟩ := counts60 hA hB hC ht hm hW r4 (fX6_counts_L10 r4 N) 8 0 zF 9999 (zu M 16 (1000 * m + s) (9999 : Int32)) (by omega) (by unfold zF; omega) hz1 hT1 (by rw [zu_same]; rfl) (Or.inl ⟨rfl, fun p ⟨_, _, _, _, q⟩ => by omega⟩)
      have t1' : fX6_counts_L60 r4 (fX6_counts_L10 r4 N) zF (nI t) (nI m) (nI s) (0 : Int32) (zu M 16 (1000 * m + s) (9999 : Int32)) = _ := t1
      rw [t1']
      obtain ⟨M', g1, g2, g3⟩ := ih (s + 1) N M1 (by omega) (by omega) (rSz_F t2 hz1) t3
      exact ⟨M', g1, gF_trans (gF_trans (gF_zu _ (Or.inr rfl) _ _) t2) g2, g3⟩
    · rw [zB_s e, if_pos rfl, zL_r, nI_1]
      obtain ⟨M', g1, g2, g3⟩ := ih (s + 1) N (zu M 16 (1000 * m + s) (9999 : Int32)) (by omega) (by omega) hz1 (fun m' s' h1 h2 h3 => hT1 m' s' h1 h2 (by
        by_cases c : m' = m ∧ s' = s
        · rw [c.2] at h2; exact absurd h2 hW
        · omega))
      exact ⟨M', g1, gF_trans (gF_zu _ (Or.inr rfl) _ _) g2, g3⟩
def cDn (A B C t k : Nat) (M : zM) : Prop := ∀ m' s', m' < t → gW A B C s' → k ≤ m' → ∃ v, M.1 16 (1000 * m' + s') = nI v ∧ gMn gTn 9999 (gOk A B C (t - m') s') v
theorem counts4 {A B C t : Nat} (hA : A ≤ 9) (hB : B ≤ 9) (hC : C ≤ 9) (ht : t ≤ 30) : ∀ (k N : Nat) (M : zM), k ≤ t → k < N → rSz A B C M → cDn A B C t k M → ∃ M', fX6_counts_L4 N (nI t) (nI k - 1) M = some M' ∧ gF M M' ∧ cDn A B C t 0 M' := by
  intro k
  induction k with
  | zero =>
    intro N M hx hN hz hT
    obtain ⟨N, rfl⟩ : ∃ q, N = q + 1 := ⟨N - 1, by omega⟩
    refine ⟨M, ?_, gF_refl M, hT⟩
    show fX6_counts_B4 _ _ _ M = _
    unfold fX6_counts_B4
    rw [if_pos (by decide)]
  | succ k ih =>
    intro N M hx hN hz hT
    obtain ⟨N, rfl⟩ : ∃ q, N = q + 1 := ⟨N - 1, by omega⟩
    have hU : fX6_counts_L4 (N + 1) (nI t) (nI k) M = fX6_counts_B4 (fX6_counts_L4 N) (nI t) (nI k) M := rfl
    rw [nI_dn, hU]
    unfold fX6_counts_B4
    rw [if_neg (nI_pos (by omega))]
    obtain ⟨M1, t1, t2, t3⟩ := counts10 hA hB hC ht (show k < t by omega) (fX6_counts_L4 N) 1000 0 zF M (by omega) (by unfold zF; omega) hz (fun m' s' h1 h2 h3 => hT m' s' h1 h2 (by omega))
    have t1' : fX6_counts_L10 (fX6_counts_L4 N) zF (nI t) (nI k) (0 : Int32) M = _ := t1
    rw [t1']
    obtain ⟨M', g1, g2, g3⟩ := ih N M1 (by omega) (by omega) (rSz_F t2 hz) (fun m' s' h1 h2 h3 => t3 m' s' h1 h2 (by have := h2.1; omega))
    exact ⟨M', g1, gF_trans t2 g2, g3⟩
theorem counts_e {A B C t : Nat} (hA : A ≤ 9) (hB : B ≤ 9) (hC : C ≤ 9) (ht : t ≤ 30) {M : zM} (hz : rSz A B C M) : ∃ M', fX6_counts (nI t) M = some M' ∧ gF M M' ∧ cDn A B C t 0 M' := by
  obtain ⟨M', g1, g2, g3⟩ := counts4 hA hB hC ht t zF M (Nat.le_refl _) (by unfold zF; omega) hz (fun m' s' h1 h2 h3 => by omega)
  refine ⟨M', ?_, g2, g3⟩
  unfold fX6_counts
  rw [zL_r]
  exact g1
theorem cDn_F {A B C t k : Nat} {M M' : zM} (h : M'.1 16 = M.1 16) (hT : cDn A B C t k M) : cDn A B C t k M' := by
  intro m' s' h1 h2 h3
  rw [h]
  exact hT m' s' h1 h2 h3
theorem cDn_tab {A B C t m s : Nat} {M : zM} (hT : cDn A B C t 0 M) : cTab A B C t m s M := fun m' s' h1 h2 _ => hT m' s' h1 h2 (Nat.zero_le _)
/-- the first set by which it goes as fast as it can -/
theorem way18 {A B C t m s x v : Nat} (hA : A ≤ 9) (hB : B ≤ 9) (hC : C ≤ 9) (ht : t ≤ 30) (hm : m < t) (hW : gW A B C s) (hx : x < 8) (hv : gMn gTn 9999 (gOk A B C (t - m) s) v) (hv9 : v < 9999) (hbx : gBy A B C (t - m) s x v) (hno : ∀ y, y < x → ¬ gBy A B C (t - m) s y v) (r10 : Int32 → Int32 → Int32 → Int32 → Int32 → zM → Option (Int32 × zM)) (x4 x5 : Int32) : ∀ (d y N : Nat) (M : zM), y + d = x → d < N → rSz A B C M → cDn A B C t 0 M → ∃ M', fX6_wayTo_L18 r10 N (nI t) (nI m) (nI s) x4 x5 (nI y) M = (if x5 + (1 : Int32) ≤ (9 : Int32) then r10 (nI t) (nI (m + gS A B C s x)) (nI (gN A B C s x)) ((((10 : Int32) * x4) + nI x) + (1 : Int32)) (x5 + (1 : Int32)) M' else some ((-1 : Int32), M')) ∧ gF M M' ∧ cDn A B C t 0 M' := by
  have hs := hW.1
  have li : 1000 * m + s < 31000 := by omega
  have main : ∀ (y N : Nat) (M : zM), y ≤ x → rSz A B C M → cDn A B C t 0 M → ∃ v1, fX6_wayTo_L18 r10 (N + 1) (nI t) (nI m) (nI s) x4 x5 (nI y) M = (if nI v1 = nI v then (zL (nI (m + gS A B C s y)) fun x2_9 => zL (nI (gN A B C s y)) fun x3_10 => zL (x5 + (1 : Int32)) fun x5_11 => if x5_11 ≤ (9 : Int32) then zL ((((10 : Int32) * x4) + nI y) + (1 : Int32)) fun x4_13 => r10 (nI t) x2_9 x3_10 x4_13 x5_11 (gTd (gTd M (gS A B C s y) (gN A B C s y)) (gS A B C s y) (gN A B C s y)) else some ((-1 : Int32), (gTd (gTd M (gS A B C s y) (gN A B C s y)) (gS A B C s y) (gN A B C s y)))) else fX6_wayTo_L18 r10 N (nI t) (nI m) (nI s) x4 x5 (nI (y + 1)) (gTd M (gS A B C s y) (gN A B C s y))) ∧ v1 ≤ 10002 ∧ (gBy A B C (t - m) s y v1 ∨ v1 = 9999 ∧ ∀ w, ¬ gBy A B C (t - m) s y w) := by
    intro y N M hy hz hD
    obtain ⟨v1, b1, b2, b3⟩ := byf_e hA hB hC ht hm hW (show y < 8 by omega) hz (cDn_tab (m := m) (s := 0) hD)
    refine ⟨v1, ?_, b2, b3⟩
    obtain ⟨w, w1, w2⟩ := hD m s hm hW (Nat.zero_le _)
    have ew := gMn_uniq w2 hv
    rw [ew] at w1
    have hU : fX6_wayTo_L18 r10 (N + 1) (nI t) (nI m) (nI s) x4 x5 (nI y) M = fX6_wayTo_B18 r10 (fX6_wayTo_L18 r10 N) (nI t) (nI m) (nI s) x4 x5 (nI y) M := rfl
    rw [hU]
    unfold fX6_wayTo_B18
    rw [zB_s b1, show (1000 : Int32) = nI 1000 from rfl, pk_mul, nI_add, zG_t (zin_nI li (by omega)), nIc (by omega), gTd_row _ _ _ (by decide), w1]
    have hz1 : rSz A B C (gTd M (gS A B C s y) (gN A B C s y)) := rSz_F (gTd_F _ _ _) hz
    rw [zV_s (turned_e hA hB hC hW (show y < 8 by omega) hz1), gTd_39, gTd_38, nI_add, zL_r (nI y + (1 : Int32)), nI_1]
  intro d
  induction d with
  | zero =>
    intro y N M hy hN hz hD
    obtain ⟨N, rfl⟩ : ∃ q, N = q + 1 := ⟨N - 1, by omega⟩
    have : y = x := by omega
    subst this
    obtain ⟨v1, m1, m2, m3⟩ := main y N M (Nat.le_refl _) hz hD
    have e : v1 = v := by
      rcases m3 with ⟨-, -, v', g1, g2⟩ | ⟨-, n⟩
      · obtain ⟨-, -, v'', g3, g4⟩ := hbx
        have := gMn_uniq g1 g3
        omega
      · exact absurd hbx (n v)
    refine ⟨_, ?_, gF_trans (gTd_F M (gS A B C s y) (gN A B C s y)) (gTd_F _ (gS A B C s y) (gN A B C s y)), cDn_F (by rw [gTd_row _ _ _ (by decide), gTd_row _ _ _ (by decide)]) hD⟩
    rw [m1, if_pos (by rw [e]), zL_r, zL_r, zL_r, zL_r]
  | succ d ih =>
    intro y N M hy hN hz hD
    obtain ⟨N, rfl⟩ : ∃ q, N = q + 1 := ⟨N - 1, by omega⟩
    obtain ⟨v1, m1, m2, m3⟩ := main y N M (by omega) hz hD
    have e : v1 ≠ v := by
      rcases m3 with g | ⟨g, -⟩
      · intro q
        rw [q] at g
        exact hno y (by omega) g
      · omega
    rw [m1, if_neg (fun q => e ((nI_eq (by omega) (by omega)).mp q))]
    obtain ⟨M', g1, g2, g3⟩ := ih (y + 1) N (gTd M (gS A B C s y) (gN A B C s y)) (by omega) (by omega) (rSz_F (gTd_F _ _ _) hz) (cDn_F (gTd_row _ _ _ (by decide)) hD)
    exact ⟨M', g1, gF_trans (gTd_F _ _ _) g2, g3⟩
theorem way10 {A B C t : Nat} (hA : A ≤ 9) (hB : B ≤ 9) (hC : C ≤ 9) (ht : t ≤ 30) : ∀ (P : List Nat) (m s way sets N : Nat) (M : zM), gGr A B C (t - m) s P → m ≤ t → gW A B C s → sets ≤ 9 → P.length < N → rSz A B C M → cDn A B C t 0 M → ∃ M', fX6_wayTo_L10 N (nI t) (nI m) (nI s) (nI way) (nI sets) M = some ((if sets + P.length ≤ 9 then nI (gNm way P) else -1), M') ∧ gF M M' := by
  intro P
  induction P with
  | nil =>
    intro m s way sets N M hP hm hW h9 hN hz hD
    obtain ⟨N, rfl⟩ : ∃ q, N = q + 1 := ⟨N - 1, by omega⟩
    have e : t - m = 0 := hP
    refine ⟨M, ?_, gF_refl M⟩
    show fX6_wayTo_B10 _ _ _ _ _ _ M = _
    unfold fX6_wayTo_B10
    rw [if_pos ((nI_leI (by omega) (by omega)).mpr (by omega)), if_pos (show sets + ([] : List Nat).length ≤ 9 from h9)]
    rfl
  | cons x c ih =>
    intro m s way sets N M hP hm hW h9 hN hz hD
    simp only [List.length_cons] at hN
    obtain ⟨N, rfl⟩ : ∃ q, N = q + 1 := ⟨N - 1, by omega⟩
    obtain ⟨h1, h2, v, h3, h4, h5, h6⟩ := hP
    obtain ⟨k1, k2, -⟩ := id h5
    have hU : fX6_wayTo_L10 (N + 1) (nI t) (nI m) (nI s) (nI way) (nI sets) M = fX6_wayTo_B10 (fX6_wayTo_L10 N) (nI t) (nI m) (nI s) (nI way) (nI sets) M := rfl
    rw [hU]
    unfold fX6_wayTo_B10
    rw [if_neg (by rw [nI_leI (by omega) (by omega)]; omega)]
    obtain ⟨M1, t1, t2, t3⟩ := way18 hA hB hC ht (show m < t by omega) hW h1 h3 h4 h5 h6 (fX6_wayTo_L10 N) (nI way) (nI sets) x 0 zF M (by omega) (by unfold zF; omega) hz hD
    have t1' : fX6_wayTo_L18 (fX6_wayTo_L10 N) zF (nI t) (nI m) (nI s) (nI way) (nI sets) (0 : Int32) M = _ := t1
    rw [t1', nI_1, show ((10 : Int32) * nI way) + nI x + (1 : Int32) = nI (10 * way + x + 1) by rw [show (10 : Int32) = nI 10 from rfl, pk_mul, nI_add, nI_1]]
    by_cases c9 : sets + 1 ≤ 9
    · rw [if_pos (by rw [show (9 : Int32) = nI 9 from rfl, nI_leI (by omega) (by omega)]; exact c9)]
      obtain ⟨M', g1, g2⟩ := ih (m + gS A B C s x) (gN A B C s x) (10 * way + x + 1) (sets + 1) N M1 (by rw [show t - (m + gS A B C s x) = t - m - gS A B C s x by omega]; exact h2) (by omega) (gN_W hA hB hC hW x) (by omega) (by omega) (rSz_F t2 hz) t3
      refine ⟨M', ?_, gF_trans t2 g2⟩
      rw [g1, List.length_cons, show sets + 1 + c.length = sets + (c.length + 1) by omega]
      rfl
    · rw [if_neg (by rw [show (9 : Int32) = nI 9 from rfl, nI_leI (by omega) (by omega)]; exact c9), List.length_cons, if_neg (by omega)]
      exact ⟨M1, rfl, t2⟩
theorem wayTo_e {A B C t : Nat} (hA : A ≤ 9) (hB : B ≤ 9) (hC : C ≤ 9) (ht : t ≤ 30) {P : List Nat} (hP : gGr A B C t 0 P) {M : zM} (hz : rSz A B C M) (hD : cDn A B C t 0 M) : ∃ M', fX6_wayTo (nI t) M = some ((if P.length ≤ 9 then nI (gNm 0 P) else -1), M') ∧ gF M M' := by
  have hl := gOk_len (gGr_ok hP)
  obtain ⟨M', g1, g2⟩ := way10 hA hB hC ht P 0 0 0 0 zF M hP (Nat.zero_le _) ⟨by omega, by omega, by omega, by omega⟩ (by omega) (by unfold zF; omega) hz hD
  have g1' : fX6_wayTo_L10 zF (nI t) (0 : Int32) (0 : Int32) (0 : Int32) (0 : Int32) M = _ := g1
  refine ⟨M', ?_, g2⟩
  unfold fX6_wayTo
  rw [g1', Nat.zero_add]

/-! the reference: which times can be told -/
theorem zbt_1 : ¬ zbt (1 : Int32) = 0 := by decide
theorem zbt_0 : zbt (0 : Int32) = 0 := by decide
/-- reached, and told so far, after E turns -/
def rInv (A B C E b : Nat) (M : zM) : Prop := gR A B C E (fun j => ¬ M.1 15 j = 0) ∧ ∀ j, b.testBit j = true ↔ j ≤ 30 ∧ ∃ p, p ≠ [] ∧ gOk A B C j 0 p ∧ gBef A B C E p
theorem told73 {A B C m s : Nat} (hA : A ≤ 9) (hB : B ≤ 9) (hC : C ≤ 9) (hm : m < 30) (hs : s < 1000) {p0 : List Nat} (hp0 : gTo A B C m s p0) (r34 : Int64 → Int32 → zM → Option (Int64 × zM)) (r43 : Int64 → Int32 → Int32 → zM → Option (Int64 × zM)) : ∀ (d x N b : Nat) (M : zM), x + d = 8 → d < N → rSz A B C M → rInv A B C ((m * 1000 + s) * 8 + x) b M → ∃ M' b', fX6_toldTimes_L73 r34 r43 N (lN b) (nI m) (nI s) (nI x) M = r43 (lN b') (nI m) (nI (s + 1)) M' ∧ gF M M' ∧ rInv A B C ((m * 1000 + s) * 8 + 8) b' M' := by
  have hW := gTo_W hA hB hC hp0
  intro d
  induction d with
  | zero =>
    intro x N b M hx hN hz hI
    obtain ⟨N, rfl⟩ : ∃ q, N = q + 1 := ⟨N - 1, by omega⟩
    have : x = 8 := by omega
    subst this
    refine ⟨M, b, ?_, gF_refl M, hI⟩
    show fX6_toldTimes_B73 _ _ _ _ _ _ _ M = _
    unfold fX6_toldTimes_B73
    rw [if_pos (by decide), zL_r, nI_1]
  | succ d ih =>
    intro x N b M hx hN hz hI
    obtain ⟨N, rfl⟩ : ∃ q, N = q + 1 := ⟨N - 1, by omega⟩
    have hx8 : x < 8 := by omega
    have ls := gS_le hA hB hC hW x
    have hN1 := (gN_W hA hB hC hW x).1
    have hU : fX6_toldTimes_L73 r34 r43 (N + 1) (lN b) (nI m) (nI s) (nI x) M = fX6_toldTimes_B73 r34 r43 (fX6_toldTimes_L73 r34 r43 N) (lN b) (nI m) (nI s) (nI x) M := rfl
    rw [hU]
    unfold fX6_toldTimes_B73
    rw [if_neg (by rw [show (8 : Int32) = nI 8 from rfl, nI_leI (by omega) (by omega)]; omega), zV_s (turned_e hA hB hC hW hx8 hz), gTd_39, nI_add]
    have hz1 := rSz_F (gTd_F M (gS A B C s x) (gN A B C s x)) hz
    have e15 : (gTd M (gS A B C s x) (gN A B C s x)).1 15 = M.1 15 := gTd_row _ _ _ (by decide)
    by_cases c0 : gS A B C s x = 0
    · rw [if_pos ((nI_z0 (by omega)).mpr c0), zL_r, nI_1]
      obtain ⟨M', b', g1, g2, g3⟩ := ih (x + 1) N b (gTd M (gS A B C s x) (gN A B C s x)) (by omega) (by omega) hz1 ⟨fun m' s' h1 h2 => by
        rw [e15, hI.1 m' s' h1 h2, show (m * 1000 + s) * 8 + (x + 1) = (m * 1000 + s) * 8 + x + 1 by omega, gR_set hA hB hC hs hx8 hp0]
        exact ⟨Or.inl, fun q => q.elim id (fun q => by have := q.1; omega)⟩, fun j => by
        rw [hI.2, show (m * 1000 + s) * 8 + (x + 1) = (m * 1000 + s) * 8 + x + 1 by omega, gBt_set hA hB hC hs hx8 hp0]
        exact ⟨fun q => ⟨q.1, Or.inl q.2⟩, fun q => ⟨q.1, q.2.elim id (fun q => by have := q.1; omega)⟩⟩⟩
      exact ⟨M', b', g1, gF_trans (gTd_F _ _ _) g2, g3⟩
    · rw [if_neg (fun q => c0 ((nI_z0 (by omega)).mp q))]
      by_cases c1 : m + gS A B C s x ≤ 30
      · have li : 1000 * (m + gS A B C s x) + gN A B C s x < 31000 := by omega
        rw [if_pos (by rw [show (30 : Int32) = nI 30 from rfl, nI_leI (by omega) (by omega)]; exact c1), gTd_38, show (1000 : Int32) = nI 1000 from rfl, pk_mul, nI_add, zG_t (zin_nI li (by omega)), nIc (by omega), zL_r, zu_row _ (show (0 : Nat) ≠ 15 by decide), gTd_39, nI_add, zlshl_1 _ (by omega), lN_or, zL_r, zL_r, nI_1]
        obtain ⟨M', b', g1, g2, g3⟩ := ih (x + 1) N (b ||| 2 ^ (m + gS A B C s x)) (zu (gTd M (gS A B C s x) (gN A B C s x)) 15 (1000 * (m + gS A B C s x) + gN A B C s x) (zbt (1 : Int32))) (by omega) (by omega) (rSz_F (gF_zu _ (Or.inl rfl) _ _) hz1) ⟨fun m' s' h1 h2 => by
          show ¬ (zu (gTd M (gS A B C s x) (gN A B C s x)) 15 (1000 * (m + gS A B C s x) + gN A B C s x) (zbt 1)).1 15 (1000 * m' + s') = 0 ↔ _
          rw [zu_at1, e15, show (m * 1000 + s) * 8 + (x + 1) = (m * 1000 + s) * 8 + x + 1 by omega, gR_set hA hB hC hs hx8 hp0, ← hI.1 m' s' h1 h2]
          by_cases c : 1000 * m' + s' = 1000 * (m + gS A B C s x) + gN A B C s x
          · rw [if_pos c]
            exact ⟨fun _ => Or.inr ⟨by omega, by omega, by omega⟩, fun _ => zbt_1⟩
          · rw [if_neg c]
            exact ⟨Or.inl, fun q => q.elim id (fun q => absurd (by rw [q.2.1, q.2.2]) c)⟩, fun j => by
          rw [tb_or, hI.2, show (m * 1000 + s) * 8 + (x + 1) = (m * 1000 + s) * 8 + x + 1 by omega, gBt_set hA hB hC hs hx8 hp0]
          constructor
          · rintro (⟨q1, q2⟩ | q)
            · exact ⟨q1, Or.inl q2⟩
            · exact ⟨by omega, Or.inr ⟨by omega, q⟩⟩
          · rintro ⟨q1, q2 | q2⟩
            · exact Or.inl ⟨q1, q2⟩
            · exact Or.inr q2.2⟩
        exact ⟨M', b', g1, gF_trans (gF_trans (gTd_F _ _ _) (gF_zu _ (Or.inl rfl) _ _)) g2, g3⟩
      · rw [if_neg (by rw [show (30 : Int32) = nI 30 from rfl, nI_leI (by omega) (by omega)]; exact c1), zL_r, nI_1]
        obtain ⟨M', b', g1, g2, g3⟩ := ih (x + 1) N b (gTd M (gS A B C s x) (gN A B C s x)) (by omega) (by omega) hz1 ⟨fun m' s' h1 h2 => by
          rw [e15, hI.1 m' s' h1 h2, show (m * 1000 + s) * 8 + (x + 1) = (m * 1000 + s) * 8 + x + 1 by omega, gR_set hA hB hC hs hx8 hp0]
          exact ⟨Or.inl, fun q => q.elim id (fun q => by have := q.2.1; omega)⟩, fun j => by
          rw [hI.2, show (m * 1000 + s) * 8 + (x + 1) = (m * 1000 + s) * 8 + x + 1 by omega, gBt_set hA hB hC hs hx8 hp0]
          exact ⟨fun q => ⟨q.1, Or.inl q.2⟩, fun q => ⟨q.1, q.2.elim id (fun r => by have := q.1; have := r.2; omega)⟩⟩⟩
        exact ⟨M', b', g1, gF_trans (gTd_F _ _ _) g2, g3⟩
theorem told43 {A B C m : Nat} (hA : A ≤ 9) (hB : B ≤ 9) (hC : C ≤ 9) (hm : m < 30) (r34 : Int64 → Int32 → zM → Option (Int64 × zM)) : ∀ (d s N b : Nat) (M : zM), s + d = 1000 → d < N → rSz A B C M → rInv A B C ((m * 1000 + s) * 8) b M → ∃ M' b', fX6_toldTimes_L43 r34 N (lN b) (nI m) (nI s) M = r34 (lN b') (nI (m + 1)) M' ∧ gF M M' ∧ rInv A B C ((m * 1000 + 1000) * 8) b' M' := by
  intro d
  induction d with
  | zero =>
    intro s N b M hx hN hz hI
    obtain ⟨N, rfl⟩ : ∃ q, N = q + 1 := ⟨N - 1, by omega⟩
    have : s = 1000 := by omega
    subst this
    refine ⟨M, b, ?_, gF_refl M, hI⟩
    show fX6_toldTimes_B43 _ _ _ _ _ M = _
    unfold fX6_toldTimes_B43
    rw [if_pos (by decide), zL_r, nI_1]
  | succ d ih =>
    intro s N b M hx hN hz hI
    obtain ⟨N, rfl⟩ : ∃ q, N = q + 1 := ⟨N - 1, by omega⟩
    have hs : s < 1000 := by omega
    have hU : fX6_toldTimes_L43 r34 (N + 1) (lN b) (nI m) (nI s) M = fX6_toldTimes_B43 r34 (fX6_toldTimes_L43 r34 N) (lN b) (nI m) (nI s) M := rfl
    have hat := gR_at hA hB hC (show m ≤ 30 by omega) hs (show m * 8000 ≤ (m * 1000 + s) * 8 by omega) hI.1
    rw [hU]
    unfold fX6_toldTimes_B43
    rw [if_neg (by rw [show (1000 : Int32) = nI 1000 from rfl, nI_leI (by omega) (by omega)]; omega), show (1000 : Int32) = nI 1000 from rfl, pk_mul, nI_add, zG_t (zin_nI (show 1000 * m + s < 31000 by omega) (by omega)), nIc (by omega)]
    by_cases c : M.1 15 (1000 * m + s) = 0
    · rw [if_pos c, zL_r, nI_1]
      have no : ∀ q, ¬ gTo A B C m s q := fun q hq => (hat.mpr ⟨q, hq⟩) c
      refine ih (s + 1) N b M (by omega) (by omega) hz ⟨fun m' s' h1 h2 => ?_, fun j => ?_⟩
      · rw [hI.1 m' s' h1 h2]
        exact ⟨fun ⟨p, q1, q2⟩ => ⟨p, q1, (gR_skip hA hB hC hs no q1).mpr q2⟩, fun ⟨p, q1, q2⟩ => ⟨p, q1, (gR_skip hA hB hC hs no q1).mp q2⟩⟩
      · rw [hI.2]
        have sk : ∀ {p}, gOk A B C j 0 p → (gBef A B C ((m * 1000 + (s + 1)) * 8) p ↔ gBef A B C ((m * 1000 + s) * 8) p) := fun {p} hp => gR_skip hA hB hC hs no (⟨hp, rfl⟩ : gTo A B C j (gEn A B C 0 p) p)
        exact ⟨fun ⟨q0, p, q1, q2, q3⟩ => ⟨q0, p, q1, q2, (sk q2).mpr q3⟩, fun ⟨q0, p, q1, q2, q3⟩ => ⟨q0, p, q1, q2, (sk q2).mp q3⟩⟩
    · obtain ⟨p0, hp0⟩ := hat.mp c
      rw [if_neg c]
      obtain ⟨M1, b1, t1, t2, t3⟩ := told73 hA hB hC hm hs hp0 r34 (fX6_toldTimes_L43 r34 N) 8 0 zF b M (by omega) (by unfold zF; omega) hz hI
      have t1' : fX6_toldTimes_L73 r34 (fX6_toldTimes_L43 r34 N) zF (lN b) (nI m) (nI s) (0 : Int32) M = _ := t1
      rw [t1']
      obtain ⟨M', b', g1, g2, g3⟩ := ih (s + 1) N b1 M1 (by omega) (by omega) (rSz_F t2 hz) (by rw [show (m * 1000 + (s + 1)) * 8 = (m * 1000 + s) * 8 + 8 by omega]; exact t3)
      exact ⟨M', b', g1, gF_trans t2 g2, g3⟩
theorem told34 {A B C : Nat} (hA : A ≤ 9) (hB : B ≤ 9) (hC : C ≤ 9) : ∀ (d m N b : Nat) (M : zM), m + d = 30 → d < N → rSz A B C M → rInv A B C ((m * 1000 + 0) * 8) b M → ∃ M' b', fX6_toldTimes_L34 N (lN b) (nI m) M = some (lN b', M') ∧ gF M M' ∧ rInv A B C ((30 * 1000 + 0) * 8) b' M' := by
  intro d
  induction d with
  | zero =>
    intro m N b M hx hN hz hI
    obtain ⟨N, rfl⟩ : ∃ q, N = q + 1 := ⟨N - 1, by omega⟩
    have : m = 30 := by omega
    subst this
    refine ⟨M, b, ?_, gF_refl M, hI⟩
    show fX6_toldTimes_B34 _ _ _ M = _
    unfold fX6_toldTimes_B34
    rw [if_pos (by decide)]
  | succ d ih =>
    intro m N b M hx hN hz hI
    obtain ⟨N, rfl⟩ : ∃ q, N = q + 1 := ⟨N - 1, by omega⟩
    have hU : fX6_toldTimes_L34 (N + 1) (lN b) (nI m) M = fX6_toldTimes_B34 (fX6_toldTimes_L34 N) (lN b) (nI m) M := rfl
    rw [hU]
    unfold fX6_toldTimes_B34
    rw [if_neg (by rw [show (30 : Int32) = nI 30 from rfl, nI_leI (by omega) (by omega)]; omega)]
    obtain ⟨M1, b1, t1, t2, t3⟩ := told43 hA hB hC (show m < 30 by omega) (fX6_toldTimes_L34 N) 1000 0 zF b M (by omega) (by unfold zF; omega) hz hI
    have t1' : fX6_toldTimes_L43 (fX6_toldTimes_L34 N) zF (lN b) (nI m) (0 : Int32) M = _ := t1
    rw [t1']
    obtain ⟨M', b', g1, g2, g3⟩ := ih (m + 1) N b1 M1 (by omega) (by omega) (rSz_F t2 hz) (by rw [show ((m + 1) * 1000 + 0) * 8 = (m * 1000 + 1000) * 8 by omega]; exact t3)
    exact ⟨M', b', g1, gF_trans t2 g2, g3⟩
theorem told2 : ∀ (d i N : Nat) (M : zM), i + d = 31000 → d < N → (∀ j, j < i → (M.1 15 j = if j = 0 then zbt 1 else zbt 0)) → ∃ M', fX6_toldTimes_L2 N (nI i) M = fX6_toldTimes_L34 zF (0 : Int64) (0 : Int32) M' ∧ gF M M' ∧ ∀ j, j < 31000 → (M'.1 15 j = if j = 0 then zbt 1 else zbt 0) := by
  intro d
  induction d with
  | zero =>
    intro i N M hi hN hj
    obtain ⟨N, rfl⟩ : ∃ q, N = q + 1 := ⟨N - 1, by omega⟩
    have : i = 31000 := by omega
    subst this
    refine ⟨M, ?_, gF_refl M, hj⟩
    show fX6_toldTimes_B2 _ _ M = _
    unfold fX6_toldTimes_B2
    rw [if_pos (by decide)]
  | succ d ih =>
    intro i N M hi hN hj
    obtain ⟨N, rfl⟩ : ∃ q, N = q + 1 := ⟨N - 1, by omega⟩
    have hU : fX6_toldTimes_L2 (N + 1) (nI i) M = fX6_toldTimes_B2 (fX6_toldTimes_L2 N) (nI i) M := rfl
    rw [hU]
    unfold fX6_toldTimes_B2
    rw [if_neg (by rw [show (31000 : Int32) = nI 31000 from rfl, nI_leI (by omega) (by omega)]; omega)]
    by_cases c : i = 0
    · rw [if_pos ((nI_z0 (by omega)).mpr c), zG_t (zin_nI (show i < 31000 by omega) (by omega)), nIc (by omega), zL_r, zL_r, nI_1]
      obtain ⟨M', g1, g2, g3⟩ := ih (i + 1) N (zu M 15 i (zbt (1 : Int32))) (by omega) (by omega) (fun j hjl => by
        rw [zu_at1]
        by_cases e : j = i
        · rw [if_pos e, if_pos (by omega)]
        · rw [if_neg e]; exact hj j (by omega))
      exact ⟨M', g1, gF_trans (gF_zu _ (Or.inl rfl) _ _) g2, g3⟩
    · rw [if_neg (fun q => c ((nI_z0 (by omega)).mp q)), zG_t (zin_nI (show i < 31000 by omega) (by omega)), nIc (by omega), zL_r, zL_r, nI_1]
      obtain ⟨M', g1, g2, g3⟩ := ih (i + 1) N (zu M 15 i (zbt (0 : Int32))) (by omega) (by omega) (fun j hjl => by
        rw [zu_at1]
        by_cases e : j = i
        · rw [if_pos e, if_neg (by omega)]
        · rw [if_neg e]; exact hj j (by omega))
      exact ⟨M', g1, gF_trans (gF_zu _ (Or.inl rfl) _ _) g2, g3⟩
theorem told_e {A B C : Nat} (hA : A ≤ 9) (hB : B ≤ 9) (hC : C ≤ 9) {M : zM} (hz : rSz A B C M) : ∃ b M', fX6_toldTimes M = some (lN b, M') ∧ tBits A B C b ∧ gF M M' := by
  obtain ⟨M1, t1, t2, t3⟩ := told2 31000 0 zF M rfl (by decide) (fun j hj => absurd hj (by omega))
  rw [nI_0] at t1
  have hI : rInv A B C ((0 * 1000 + 0) * 8) 0 M1 := by
    refine ⟨fun m' s' h1 h2 => ?_, fun j => ?_⟩
    · show ¬ M1.1 15 (1000 * m' + s') = 0 ↔ _
      rw [t3 _ (by omega)]
      by_cases c : 1000 * m' + s' = 0
      · rw [if_pos c]
        exact ⟨fun _ => ⟨[], ⟨show m' = 0 by omega, show 0 = s' by omega⟩, gBef_nil _ _ _ _⟩, fun _ => zbt_1⟩
      · rw [if_neg c]
        refine ⟨fun q => absurd zbt_0 q, ?_⟩
        rintro ⟨p, ⟨q1, q2⟩, q3⟩
        by_cases e : p = []
        · rw [e] at q1 q2
          have a1 : m' = 0 := q1
          have a2 : 0 = s' := q2
          omega
        · have := q3 p.dropLast (p.getLast e) (List.dropLast_concat_getLast e).symm
          omega
    · rw [Nat.zero_testBit]
      refine ⟨fun q => absurd q (by decide), ?_⟩
      rintro ⟨-, p, e, -, q3⟩
      have := q3 p.dropLast (p.getLast e) (List.dropLast_concat_getLast e).symm
      omega
  obtain ⟨M', b', g1, g2, g3⟩ := told34 hA hB hC 30 0 zF 0 M1 (by omega) (by unfold zF; omega) (rSz_F t2 hz) hI
  have g1' : fX6_toldTimes_L34 zF (0 : Int64) (0 : Int32) M1 = some (lN b', M') := g1
  refine ⟨b', M', ?_, tBits_lt (fun j => ?_), gF_trans t2 g2⟩
  · unfold fX6_toldTimes
    rw [t1, g1']
  · rw [g3.2]
    constructor
    · rintro ⟨q1, p, q2, q3, -⟩
      refine ⟨?_, q1, p, q3⟩
      cases p with
      | nil => exact absurd rfl q2
      | cons x c =>
        obtain ⟨-, a2, a3, -⟩ := q3
        omega
    · rintro ⟨q1, q2, p, q3⟩
      refine ⟨q2, p, fun e => ?_, q3, ?_⟩
      · rw [e] at q3
        have : j = 0 := q3
        omega
      · exact gTo_bef hA hB hC (⟨q3, rfl⟩ : gTo A B C j (gEn A B C 0 p) p) (by omega)

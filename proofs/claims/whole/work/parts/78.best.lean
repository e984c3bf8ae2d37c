/-! best -/
def bF (gv : Nat → Nat) (u : Int32 × Nat) (s : Nat) : Int32 × Nat := if gv s < u.2 then (nI s, gv s) else u
def bI (u : Int32 × Nat) : Prop := (u.1 = -1 ∧ u.2 = 9999) ∨ (u.1 ≠ -1 ∧ u.2 < 9999)
def bT (u : Int32 × Nat) : Int32 := if u.2 < 9999 then nI u.2 else -1
theorem bI_F {gv : Nat → Nat} {u : Int32 × Nat} (h : bI u) {s : Nat} (hs : s < 1000) : bI (bF gv u s) := by
  unfold bF
  by_cases c : gv s < u.2
  · rw [if_pos c]
    refine Or.inr ⟨fun q => nI_pos (show s < 2 ^ 31 by omega) ?_, ?_⟩
    · have q' : nI s = -1 := q
      rw [q']; decide
    · show gv s < 9999
      rcases h with h | h <;> omega
  · rw [if_neg c]; exact h
def bL3 (a b : Nat) : Nat → Nat → List Nat
  | 0 => fun _ => []
  | d + 1 => fun c => (a * 100 + b * 10 + c) :: bL3 a b d (c + 1)
def bL2 (n a : Nat) : Nat → Nat → List Nat
  | 0 => fun _ => []
  | d + 1 => fun b => bL3 a b (n - (b + 1)) (b + 1) ++ bL2 n a d (b + 1)
def bL1 (n : Nat) : Nat → Nat → List Nat
  | 0 => fun _ => []
  | d + 1 => fun a => bL2 n a (n - (a + 1)) (a + 1) ++ bL1 n d (a + 1)
def bR (n : Nat) : Nat → Nat → List Nat
  | 0 => fun _ => []
  | d + 1 => fun s => if s / 100 < s / 10 % 10 ∧ s / 10 % 10 < s % 10 ∧ s % 10 < n then s :: bR n d (s + 1) else bR n d (s + 1)
set_option maxRecDepth 20000 in
theorem bL_R : ∀ n, n < 5 → bL1 n n 0 = bR n 1000 0 := by decide +kernel
/-- what stays while the class looks for the best -/
def bK (MX M : zM) : Prop := gX MX M ∧ zTab M
theorem best77 {n m : Nat} (hn : n ≤ 4) (hm : m ≤ 30) {MX : zM} (a7 : MX.1 10 7 = nI n) (oX : okX 10 MX) (hN : vN (vX 10 MX) = n) {gv : Nat → Nat} (hg : ∀ s, gMn gTn 9999 (gOk (mN (vX 10 MX) (s / 100)) (mN (vX 10 MX) (s / 10 % 10)) (mN (vX 10 MX) (s % 10)) m 0) (gv s)) {a b : Nat} (ha : a < n) (hb : b < n) (x2 : Int32) (r41 : Int32 → Int32 → Int32 → Int32 → Int32 → zM → Option (Int32 × zM)) (r59 : Int32 → Int32 → Int32 → Int32 → Int32 → Int32 → zM → Option (Int32 × zM)) : ∀ (d c N : Nat) (u : Int32 × Nat) (M : zM), c + d = n → d < N → bI u → bK MX M → ∃ M', fX5_best_L77 r41 r59 N (nI m) x2 u.1 (bT u) (nI a) (nI b) (nI c) M = r59 (nI m) x2 ((bL3 a b d c).foldl (bF gv) u).1 (bT ((bL3 a b d c).foldl (bF gv) u)) (nI a) (nI (b + 1)) M' ∧ bK MX M' ∧ bI ((bL3 a b d c).foldl (bF gv) u) := by
  intro d
  induction d with
  | zero =>
    intro c N u M hc hN1 hu hk
    obtain ⟨N, rfl⟩ : ∃ q, N = q + 1 := ⟨N - 1, by omega⟩
    have : c = n := by omega
    subst this
    have h7 : M.1 10 7 = nI c := by rw [hk.1 10 (by decide)]; exact a7
    refine ⟨M, ?_, hk, hu⟩
    show fX5_best_B77 _ _ _ _ _ _ _ _ _ _ M = _
    unfold fX5_best_B77
    rw [h7, if_pos (Int32.le_refl _), zL_r, nI_1]
    rfl
  | succ d ih =>
    intro c N u M hc hN1 hu hk
    obtain ⟨N, rfl⟩ : ∃ q, N = q + 1 := ⟨N - 1, by omega⟩
    have h7 : M.1 10 7 = nI n := by rw [hk.1 10 (by decide)]; exact a7
    obtain ⟨v1, o1⟩ := gX_view (Or.inl rfl) hk.1 oX
    obtain ⟨d1, d2, d3, d4⟩ := dgs (a := a) (b := b) (c := c) (by omega) (by omega) (by omega)
    obtain ⟨M1, l1, l2, l3, l4⟩ := xlay_e o1 hk.2 (a := a) (b := b) (c := c) (by rw [v1, hN]; exact ha) (by rw [v1, hN]; exact hb) (by rw [v1, hN]; omega)
    rw [v1] at l2
    have hgs := hg (a * 100 + b * 10 + c)
    rw [d1, d2, d3] at hgs
    have ht := turnsTill_e l2 hm hgs
    have hk1 : bK MX M1 := ⟨gX_trans hk.1 l3, l4⟩
    have ex8 : ((nI a * (100 : Int32)) + (nI b * (10 : Int32))) + nI c = nI (a * 100 + b * 10 + c) := by
      rw [show (100 : Int32) = nI 100 from rfl, show (10 : Int32) = nI 10 from rfl, pk_mul, pk_mul, nI_add, nI_add]
    have ef : (bL3 a b (d + 1) c).foldl (bF gv) u = (bL3 a b d (c + 1)).foldl (bF gv) (bF gv u (a * 100 + b * 10 + c)) := rfl
    rw [ef]
    have hU : fX5_best_L77 r41 r59 (N + 1) (nI m) x2 u.1 (bT u) (nI a) (nI b) (nI c) M = fX5_best_B77 r41 r59 (fX5_best_L77 r41 r59 N) (nI m) x2 u.1 (bT u) (nI a) (nI b) (nI c) M := rfl
    rw [hU]
    unfold fX5_best_B77
    rw [h7, if_neg (by rw [nI_leI (by omega) (by omega)]; omega), ex8, zL_r, zV_s l1, zB_s ht]
    have lg := (gMn_lt hgs (fun p hp => gOk_tn hp hm)).2
    by_cases c9 : gv (a * 100 + b * 10 + c) < 9999
    · have en : ¬ nI (gv (a * 100 + b * 10 + c)) = -1 := fun q => nI_pos (show gv (a * 100 + b * 10 + c) < 2 ^ 31 by omega) (by rw [q]; decide)
      have hT : bT (nI (a * 100 + b * 10 + c), gv (a * 100 + b * 10 + c)) = nI (gv (a * 100 + b * 10 + c)) := by
        unfold bT
        rw [if_pos c9]
      rw [if_pos c9, if_neg en]
      rcases id hu with ⟨u1, u2⟩ | ⟨u1, u2⟩
      · have e1 : bT u = -1 := by unfold bT; rw [if_neg (by omega)]
        have e2 : bF gv u (a * 100 + b * 10 + c) = (nI (a * 100 + b * 10 + c), gv (a * 100 + b * 10 + c)) := by unfold bF; rw [if_pos (by omega)]
        rw [if_pos e1, zL_r, nI_1]
        have q := ih (c + 1) N (bF gv u (a * 100 + b * 10 + c)) M1 (by omega) (by omega) (bI_F hu d4) hk1
        rw [e2, hT] at q
        rw [e2]
        exact q
      · have e1 : bT u = nI u.2 := by unfold bT; rw [if_pos u2]
        rw [e1, if_neg (fun q => nI_pos (show u.2 < 2 ^ 31 by omega) (by rw [q]; decide))]
        by_cases cl : u.2 ≤ gv (a * 100 + b * 10 + c)
        · have e2 : bF gv u (a * 100 + b * 10 + c) = u := by unfold bF; rw [if_neg (by omega)]
          rw [if_pos ((nI_leI (by omega) (by omega)).mpr cl), zL_r, nI_1, e2, ← e1]
          exact ih (c + 1) N u M1 (by omega) (by omega) hu hk1
        · have e2 : bF gv u (a * 100 + b * 10 + c) = (nI (a * 100 + b * 10 + c), gv (a * 100 + b * 10 + c)) := by unfold bF; rw [if_pos (by omega)]
          rw [if_neg (fun q => cl ((nI_leI (by omega) (by omega)).mp q)), zL_r, nI_1]
          have q := ih (c + 1) N (bF gv u (a * 100 + b * 10 + c)) M1 (by omega) (by omega) (bI_F hu d4) hk1
          rw [e2, hT] at q
          rw [e2]
          exact q
    · have e2 : bF gv u (a * 100 + b * 10 + c) = u := by
        unfold bF
        rw [if_neg]
        rcases hu with ⟨-, h⟩ | ⟨-, h⟩ <;> omega
      rw [if_neg c9, if_pos rfl, zL_r, nI_1, e2]
      exact ih (c + 1) N u M1 (by omega) (by omega) hu hk1
theorem best59 {n m : Nat} (hn : n ≤ 4) (hm : m ≤ 30) {MX : zM} (a7 : MX.1 10 7 = nI n) (oX : okX 10 MX) (hN : vN (vX 10 MX) = n) {gv : Nat → Nat} (hg : ∀ s, gMn gTn 9999 (gOk (mN (vX 10 MX) (s / 100)) (mN (vX 10 MX) (s / 10 % 10)) (mN (vX 10 MX) (s % 10)) m 0) (gv s)) {a : Nat} (ha : a < n) (x2 : Int32) (r41 : Int32 → Int32 → Int32 → Int32 → Int32 → zM → Option (Int32 × zM)) : ∀ (d b N : Nat) (u : Int32 × Nat) (M : zM), b + d = n → d < N → bI u → bK MX M → ∃ M', fX5_best_L59 r41 N (nI m) x2 u.1 (bT u) (nI a) (nI b) M = r41 (nI m) x2 ((bL2 n a d b).foldl (bF gv) u).1 (bT ((bL2 n a d b).foldl (bF gv) u)) (nI (a + 1)) M' ∧ bK MX M' ∧ bI ((bL2 n a d b).foldl (bF gv) u) := by
  intro d
  induction d with
  | zero =>
    intro b N u M hc hN1 hu hk
    obtain ⟨N, rfl⟩ : ∃ q, N = q + 1 := ⟨N - 1, by omega⟩
    have : b = n := by omega
    subst this
    have h7 : M.1 10 7 = nI b := by rw [hk.1 10 (by decide)]; exact a7
    refine ⟨M, ?_, hk, hu⟩
    show fX5_best_B59 _ _ _ _ _ _ _ _ M = _
    unfold fX5_best_B59
    rw [h7, if_pos (Int32.le_refl _), zL_r, nI_1]
    rfl
  | succ d ih =>
    intro b N u M hc hN1 hu hk
    obtain ⟨N, rfl⟩ : ∃ q, N = q + 1 := ⟨N - 1, by omega⟩
    have h7 : M.1 10 7 = nI n := by rw [hk.1 10 (by decide)]; exact a7
    obtain ⟨M1, t1, t2, t3⟩ := best77 hn hm a7 oX hN hg ha (show b < n by omega) x2 r41 (fX5_best_L59 r41 N) (n - (b + 1)) (b + 1) zF u M (by omega) (by unfold zF; omega) hu hk
    obtain ⟨M', g1, g2, g3⟩ := ih (b + 1) N ((bL3 a b (n - (b + 1)) (b + 1)).foldl (bF gv) u) M1 (by omega) (by omega) t3 t2
    have ef : (bL2 n a (d + 1) b).foldl (bF gv) u = (bL2 n a d (b + 1)).foldl (bF gv) ((bL3 a b (n - (b + 1)) (b + 1)).foldl (bF gv) u) := List.foldl_append
    rw [ef]
    refine ⟨M', ?_, g2, g3⟩
    rw [← g1, ← t1]
    show fX5_best_B59 _ _ _ _ _ _ _ _ M = _
    unfold fX5_best_B59
    rw [h7, if_neg (by rw [nI_leI (by omega) (by omega)]; omega), zL_r, nI_1]
theorem best41 {n m : Nat} (hn : n ≤ 4) (hm : m ≤ 30) {MX : zM} (a7 : MX.1 10 7 = nI n) (oX : okX 10 MX) (hN : vN (vX 10 MX) = n) {gv : Nat → Nat} (hg : ∀ s, gMn gTn 9999 (gOk (mN (vX 10 MX) (s / 100)) (mN (vX 10 MX) (s / 10 % 10)) (mN (vX 10 MX) (s % 10)) m 0) (gv s)) (x2 : Int32) : ∀ (d a N : Nat) (u : Int32 × Nat) (M : zM), a + d = n → d < N → bI u → bK MX M → ∃ M', fX5_best_L41 N (nI m) x2 u.1 (bT u) (nI a) M = some ((if x2 = (0 : Int32) then ((bL1 n d a).foldl (bF gv) u).1 else bT ((bL1 n d a).foldl (bF gv) u)), M') ∧ bK MX M' ∧ bI ((bL1 n d a).foldl (bF gv) u) := by
  intro d
  induction d with
  | zero =>
    intro a N u M hc hN1 hu hk
    obtain ⟨N, rfl⟩ : ∃ q, N = q + 1 := ⟨N - 1, by omega⟩
    have : a = n := by omega
    subst this
    have h7 : M.1 10 7 = nI a := by rw [hk.1 10 (by decide)]; exact a7
    refine ⟨M, ?_, hk, hu⟩
    show fX5_best_B41 _ _ _ _ _ _ M = _
    unfold fX5_best_B41
    rw [h7, if_pos (Int32.le_refl _)]
    by_cases c : x2 = (0 : Int32)
    · rw [if_pos c, if_pos c]; rfl
    · rw [if_neg c, if_neg c]; rfl
  | succ d ih =>
    intro a N u M hc hN1 hu hk
    obtain ⟨N, rfl⟩ : ∃ q, N = q + 1 := ⟨N - 1, by omega⟩
    have h7 : M.1 10 7 = nI n := by rw [hk.1 10 (by decide)]; exact a7
    obtain ⟨M1, t1, t2, t3⟩ := best59 hn hm a7 oX hN hg (show a < n by omega) x2 (fX5_best_L41 N) (n - (a + 1)) (a + 1) zF u M (by omega) (by unfold zF; omega) hu hk
    obtain ⟨M', g1, g2, g3⟩ := ih (a + 1) N ((bL2 n a (n - (a + 1)) (a + 1)).foldl (bF gv) u) M1 (by omega) (by omega) t3 t2
    have ef : (bL1 n (d + 1) a).foldl (bF gv) u = (bL1 n d (a + 1)).foldl (bF gv) ((bL2 n a (n - (a + 1)) (a + 1)).foldl (bF gv) u) := List.foldl_append
    rw [ef]
    refine ⟨M', ?_, g2, g3⟩
    rw [← g1, ← t1]
    show fX5_best_B41 _ _ _ _ _ _ M = _
    unfold fX5_best_B41
    rw [h7, if_neg (by rw [nI_leI (by omega) (by omega)]; omega), zL_r, nI_1]

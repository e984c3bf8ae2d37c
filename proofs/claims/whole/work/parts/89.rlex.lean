/-! texts: the reference's tokens -/
def rPre (z : Nat) (b : Nat → Int32) (M : zM) (p : Nat) : Prop := M.1 0 8 = nI z ∧ M.1 5 = b ∧ M.1 0 16 = nI p ∧ p ≤ z
def rLx (z : Nat) (b : Nat → Int32) (M : zM) (L : Nat × Nat × Nat × Nat) : Prop := M.1 0 8 = nI z ∧ M.1 5 = b ∧ M.1 0 15 = nI L.2.2.1 ∧ M.1 0 16 = nI L.2.2.2 ∧ M.1 0 17 = nI (rkTok L.1) ∧ (L.1 = 2 → M.1 0 18 = nI L.2.1) ∧ (3 ≤ L.1 → L.1 ≤ 9 → M.1 0 19 = nI (wcd L.1 L.2.1))
theorem rNx_refl (M : zM) : rNx M M := ⟨rfl, fun _ _ => rfl, fun _ _ => rfl⟩
theorem rNx_trans {M M' M'' : zM} (h1 : rNx M M') (h2 : rNx M' M'') : rNx M M'' := ⟨h2.1.trans h1.1, fun i a => (h2.2.1 i a).trans (h1.2.1 i a), fun k a => (h2.2.2 k a).trans (h1.2.2 k a)⟩
theorem rNx_zu (M : zM) {k : Nat} (hk : k ∈ [15, 16, 17, 18, 19]) (v : Int32) : rNx M (zu M 0 k v) := ⟨rfl, fun i a => zu_row _ a _ _, fun q hq => zu_other _ _ (fun e => hq (by rw [e]; exact hk)) _⟩
theorem mDg (x : Int32) (M : zM) : fX6_isDigit x M = some ((if isDg x = true then 1 else 0), M) := by
  unfold fX6_isDigit isDg
  by_cases c : x < 48
  · rw [if_pos c, if_neg (by simp only [Bool.and_eq_true, decide_eq_true_eq]; exact fun q => (Int32.not_le.mpr c) q.1)]
  · rw [if_neg c]
    by_cases d : 57 < x
    · rw [if_pos d, if_neg (by simp only [Bool.and_eq_true, decide_eq_true_eq]; exact fun q => (Int32.not_le.mpr d) q.2)]
    · rw [if_neg d, if_pos (by simp only [Bool.and_eq_true, decide_eq_true_eq]; exact ⟨Int32.not_lt.mp c, Int32.not_lt.mp d⟩)]
theorem mLt (x : Int32) (M : zM) : fX6_isLetter x M = some ((if isLt x = true then 1 else 0), M) := by
  unfold fX6_isLetter isLt
  by_cases c : x < 97
  · rw [if_pos c, if_neg (by simp only [Bool.and_eq_true, decide_eq_true_eq]; exact fun q => (Int32.not_le.mpr c) q.1)]
  · rw [if_neg c]
    by_cases d : 122 < x
    · rw [if_pos d, if_neg (by simp only [Bool.and_eq_true, decide_eq_true_eq]; exact fun q => (Int32.not_le.mpr d) q.2)]
    · rw [if_neg d, if_pos (by simp only [Bool.and_eq_true, decide_eq_true_eq]; exact ⟨Int32.not_lt.mp c, Int32.not_lt.mp d⟩)]
theorem mSg (x : Int32) (M : zM) : fX6_isSign x M = some ((if isSg x = true then 1 else 0), M) := by
  have hn : (x = 40 ∨ x = 41 ∨ x = 42 ∨ x = 43 ∨ x = 45 ∨ x = 59 ∨ x = 60 ∨ x = 61) → isSg x = true := fun h => by
    rcases h with rfl | rfl | rfl | rfl | rfl | rfl | rfl | rfl <;> decide
  unfold fX6_isSign
  by_cases a : x = 40
  · rw [if_pos a, if_pos (hn (Or.inl a))]
  rw [if_neg a]
  by_cases a1 : x = 41
  · rw [if_pos a1, if_pos (hn (by simp [a1]))]
  rw [if_neg a1]
  by_cases a2 : x = 42
  · rw [if_pos a2, if_pos (hn (by simp [a2]))]
  rw [if_neg a2]
  by_cases a3 : x = 43
  · rw [if_pos a3, if_pos (hn (by simp [a3]))]
  rw [if_neg a3]
  by_cases b0 : x = 44
  · rw [if_pos b0, if_neg (by rw [b0]; decide)]
  rw [if_neg b0]
  by_cases a4 : x = 45
  · rw [if_pos a4, if_pos (hn (by simp [a4]))]
  rw [if_neg a4]
  by_cases b1 : x = 46
  · rw [if_pos b1, if_neg (by rw [b1]; decide)]
  rw [if_neg b1]
  by_cases b2 : x = 47
  · rw [if_pos b2, if_neg (by rw [b2]; decide)]
  rw [if_neg b2]
  by_cases b3 : x = 48
  · rw [if_pos b3, if_neg (by rw [b3]; decide)]
  rw [if_neg b3]
  by_cases b4 : x = 49
  · rw [if_pos b4, if_neg (by rw [b4]; decide)]
  rw [if_neg b4]
  by_cases b5 : x = 50
  · rw [if_pos b5, if_neg (by rw [b5]; decide)]
  rw [if_neg b5]
  by_cases b6 : x = 51
  · rw [if_pos b6, if_neg (by rw [b6]; decide)]
  rw [if_neg b6]
  by_cases b7 : x = 52
  · rw [if_pos b7, if_neg (by rw [b7]; decide)]
  rw [if_neg b7]
  by_cases b8 : x = 53
  · rw [if_pos b8, if_neg (by rw [b8]; decide)]
  rw [if_neg b8]
  by_cases b9 : x = 54
  · rw [if_pos b9, if_neg (by rw [b9]; decide)]
  rw [if_neg b9]
  by_cases c1 : x = 55
  · rw [if_pos c1, if_neg (by rw [c1]; decide)]
  rw [if_neg c1]
  by_cases c2 : x = 56
  · rw [if_pos c2, if_neg (by rw [c2]; decide)]
  rw [if_neg c2]
  by_cases c3 : x = 57
  · rw [if_pos c3, if_neg (by rw [c3]; decide)]
  rw [if_neg c3]
  by_cases c4 : x = 58
  · rw [if_pos c4, if_neg (by rw [c4]; decide)]
  rw [if_neg c4]
  by_cases a5 : x = 59
  · rw [if_pos a5, if_pos (hn (by simp [a5]))]
  rw [if_neg a5]
  by_cases a6 : x = 60
  · rw [if_pos a6, if_pos (hn (by simp [a6]))]
  rw [if_neg a6]
  by_cases a7 : x = 61
  · rw [if_pos a7, if_pos (hn (by simp [a7]))]
  rw [if_neg a7, if_neg (fun q => by
    rcases isSg_n q with w | w | w | w | w | w | w | w
    · exact a w
    · exact a1 w
    · exact a2 w
    · exact a3 w
    · exact a4 w
    · exact a5 w
    · exact a6 w
    · exact a7 w)]
/-! words as numbers -/
def numR : List Int32 → Nat
  | [] => 0
  | c :: r => 27 * numR r + (c.toNatClampNeg - 96)
def ltrs (l : List Int32) : Prop := ∀ c, c ∈ l → isLt c = true
theorem numR_inj : ∀ (r s : List Int32), ltrs r → ltrs s → numR r = numR s → r = s
  | [], [], _, _, _ => rfl
  | [], c :: s, _, h2, h => by
    obtain ⟨d, d1, d2, e⟩ := isLt_n (h2 c (by simp))
    have h' : 0 = 27 * numR s + (c.toNatClampNeg - 96) := h
    rw [e, nIc (by omega)] at h'
    omega
  | c :: r, [], h1, _, h => by
    obtain ⟨d, d1, d2, e⟩ := isLt_n (h1 c (by simp))
    have h' : 27 * numR r + (c.toNatClampNeg - 96) = 0 := h
    rw [e, nIc (by omega)] at h'
    omega
  | c :: r, c' :: s, h1, h2, h => by
    obtain ⟨d, d1, d2, e⟩ := isLt_n (h1 c (by simp))
    obtain ⟨d', d1', d2', e'⟩ := isLt_n (h2 c' (by simp))
    have h' : 27 * numR r + (c.toNatClampNeg - 96) = 27 * numR s + (c'.toNatClampNeg - 96) := h
    rw [e, e', nIc (by omega), nIc (by omega)] at h'
    have ed : d = d' := by omega
    rw [e, e', ed, numR_inj r s (fun x hx => h1 x (List.mem_cons_of_mem _ hx)) (fun x hx => h2 x (List.mem_cons_of_mem _ hx)) (by omega)]
theorem numR_lt : ∀ (r : List Int32), ltrs r → numR r < 27 ^ r.length
  | [], _ => by show 0 < 1; decide
  | c :: r, h => by
    obtain ⟨d, d1, d2, e⟩ := isLt_n (h c (by simp))
    have q := numR_lt r (fun x hx => h x (List.mem_cons_of_mem _ hx))
    show 27 * numR r + (c.toNatClampNeg - 96) < 27 ^ (r.length + 1)
    rw [e, nIc (by omega), Nat.pow_succ]
    omega
theorem wdA_spec (l : List Int32) : ∀ (ws : List (List Int32)) (n : Nat), (wdA l ws n = n + ws.length ∧ ∀ w, w ∈ ws → l ≠ w) ∨ ∃ k, k < ws.length ∧ wdA l ws n = n + k ∧ ws.getD k [] = l
  | [], n => Or.inl ⟨rfl, fun w hw => absurd hw (by simp)⟩
  | w :: ws, n => by
    have e : wdA l (w :: ws) n = if l = w then n else wdA l ws (n + 1) := rfl
    rw [e]
    by_cases c : l = w
    · rw [if_pos c]
      exact Or.inr ⟨0, by simp, rfl, by rw [c]; rfl⟩
    · rw [if_neg c]
      rcases wdA_spec l ws (n + 1) with ⟨h1, h2⟩ | ⟨k, h1, h2, h3⟩
      · refine Or.inl ⟨by rw [h1]; simp only [List.length_cons]; omega, fun x hx => ?_⟩
        rcases List.mem_cons.mp hx with q | q
        · rw [q]; exact c
        · exact h2 x q
      · exact Or.inr ⟨k + 1, by simp only [List.length_cons]; omega, by omega, h3⟩
def iky (w : Int32) : Int32 := if w = 423 then 1 else if w = 1111 then 1 else if w = 10631 then 1 else if w = 369757 then 1 else if w = 370000 then 1 else if w = 1841662 then 1 else 0
theorem isKey_f (M : zM) : fX6_isKey M = some (iky (M.1 0 19), M) := by
  unfold fX6_isKey iky
  repeat' split
  all_goals rfl
theorem wW_6 : ∀ k, k < 6 → nI (numR ((wW.getD k []).reverse)) = nI (wcd 3 k) := by decide
theorem wW_12 : ∀ k, k < 12 → 6 ≤ k → nI (numR ((wW.getD k []).reverse)) = nI (wcd (k - 2) 0) := by decide
theorem wW_l : ∀ w, w ∈ wW → (∀ c, c ∈ w.reverse → isLt c = true) ∧ numR w.reverse < 2 ^ 31 ∧ w.length ≤ 6 := by decide
theorem wd_num {l : List Int32} (hl : ltrs l.reverse) (h6 : l.length ≤ 6) : (wd l = 12 → nmd (nI (numR l.reverse)) = -1 ∧ iky (nI (numR l.reverse)) = 0) ∧ (wd l < 6 → nI (numR l.reverse) = nI (wcd 3 (wd l))) ∧ (6 ≤ wd l → wd l < 12 → nI (numR l.reverse) = nI (wcd (wd l - 2) 0)) := by
  rcases wdA_spec l wW 0 with ⟨h1, h2⟩ | ⟨k, h1, h2, h3⟩
  · have h1' : wd l = 12 := h1
    have hlt : numR l.reverse < 2 ^ 31 := by
      have q := numR_lt _ hl
      rw [List.length_reverse] at q
      have := Nat.pow_le_pow_right (show 0 < 27 by decide) h6
      have e : 27 ^ 6 < 2 ^ 31 := by decide
      omega
    have ne : ∀ w, w ∈ wW → ¬ nI (numR l.reverse) = nI (numR w.reverse) := fun w hw q => by
      obtain ⟨a1, a2, -⟩ := wW_l w hw
      have := numR_inj _ _ hl a1 ((nI_eq hlt a2).mp q)
      exact h2 w hw (List.reverse_inj.mp this)
    have ne' : ∀ (w : List Int32) (v : Int32), w ∈ wW → nI (numR w.reverse) = v → ¬ nI (numR l.reverse) = v := fun w v hw hv => by rw [← hv]; exact ne w hw
    refine ⟨fun _ => ⟨?_, ?_⟩, fun q => by omega, fun _ q => by omega⟩
    · unfold nmd
      rw [if_neg (ne' [100,97,121] 2968 (by decide) (by decide)), if_neg (ne' [104,97,100] 5863 (by decide) (by decide)), if_neg (ne' [114,117,101] 13694 (by decide) (by decide)), if_neg (ne' [119,101,116] 16922 (by decide) (by decide)), if_neg (ne' [109,111,115,116] 267347 (by decide) (by decide)), if_neg (ne' [110,117,109,98,101,114] 212302449 (by decide) (by decide))]
    · unfold iky
      rw [if_neg (ne' [111,114] 423 (by decide) (by decide)), if_neg (ne' [97,110,100] 1111 (by decide) (by decide)), if_neg (ne' [110,111,116] 10631 (by decide) (by decide)), if_neg (ne' [114,117,101,115] 369757 (by decide) (by decide)), if_neg (ne' [114,117,110,115] 370000 (by decide) (by decide)), if_neg (ne' [99,108,111,103,115] 1841662 (by decide) (by decide))]
  · have h2' : wd l = k := by rw [show wd l = 0 + k from h2, Nat.zero_add]
    have h1' : k < 12 := h1
    refine ⟨fun q => by omega, fun q => ?_, fun q q' => ?_⟩
    · rw [h2', ← h3]; exact wW_6 k (by omega)
    · rw [h2', ← h3]; exact wW_12 k (by omega) (by omega)
theorem wd_long {l : List Int32} (h6 : 6 < l.length) : wd l = 12 := by
  rcases wdA_spec l wW 0 with ⟨h1, h2⟩ | ⟨k, h1, h2, h3⟩
  · exact h1
  · have h1' : k < 12 := h1
    have e : ∀ k, k < 12 → (wW.getD k []).length ≤ 6 := by decide
    have := e k h1'
    rw [h3] at this
    omega
theorem lsF_snoc (b : Nat → Int32) : ∀ (n f : Nat), lsF b (n + 1) f = lsF b n f ++ [b (f + n)]
  | 0, f => rfl
  | n + 1, f => by
    show b f :: lsF b (n + 1) (f + 1) = b f :: lsF b n (f + 1) ++ [b (f + (n + 1))]
    rw [lsF_snoc b n (f + 1), show f + 1 + n = f + (n + 1) by omega]
    rfl
theorem lsF_rev (b : Nat → Int32) (f : Nat) : ∀ n, (lsF b n f).reverse = stk (fun k => b (f + k)) n
  | 0 => rfl
  | n + 1 => by
    rw [lsF_snoc, List.reverse_append, lsF_rev b f n]
    rfl
theorem lsF_len (b : Nat → Int32) : ∀ (n f : Nat), (lsF b n f).length = n
  | 0, _ => rfl
  | n + 1, f => by
    show (lsF b n (f + 1)).length + 1 = n + 1
    rw [lsF_len b n (f + 1)]
theorem stk_ltrs {b : Nat → Int32} {f : Nat} : ∀ n, (∀ j, j < n → isLt (b (f + j)) = true) → ltrs (stk (fun k => b (f + k)) n)
  | 0, _ => fun c hc => absurd hc (by unfold stk; simp)
  | n + 1, h => fun c hc => by
    have hc' : c ∈ b (f + n) :: stk (fun k => b (f + k)) n := hc
    rcases List.mem_cons.mp hc' with q | q
    · rw [q]; exact h n (by omega)
    · exact stk_ltrs n (fun j hj => h j (by omega)) c q
theorem rPre_zu {z : Nat} {b : Nat → Int32} {M : zM} {p : Nat} (h : rPre z b M p) {k : Nat} (hk : k ∈ [15, 17, 18, 19]) (v : Int32) : rPre z b (zu M 0 k v) p := by
  simp only [List.mem_cons, List.not_mem_nil, or_false] at hk
  exact ⟨by rw [zu_other _ _ (by omega)]; exact h.1, by rw [zu_row _ (by decide)]; exact h.2.1, by rw [zu_other _ _ (by omega)]; exact h.2.2.1, h.2.2.2⟩
theorem rPre_16 {z : Nat} {b : Nat → Int32} {M : zM} {p : Nat} (h8 : M.1 0 8 = nI z) (h5 : M.1 5 = b) (hp : p ≤ z) : rPre z b (zu M 0 16 (nI p)) p := ⟨by rw [zu_other _ _ (by decide)]; exact h8, by rw [zu_row _ (by decide)]; exact h5, by rw [zu_same], hp⟩
theorem rblank {z : Nat} {b : Nat → Int32} (hz : z ≤ 160) : ∀ (n p N : Nat) (M : zM), z - p ≤ n → n < N → M.1 0 8 = nI z → M.1 5 = b → M.1 0 15 = nI p → p ≤ z → ∃ M', fX6_next_L8 N M = fX6_next_J60 M' ∧ (M'.1 0 8 = nI z ∧ M'.1 5 = b ∧ M'.1 0 15 = nI (scn isBl b z 160 p)) ∧ rNx M M' := by
  intro n
  induction n with
  | zero =>
    intro p N M hn hN h1 h2 h3 h4
    obtain ⟨N, rfl⟩ : ∃ q, N = q + 1 := ⟨N - 1, by omega⟩
    rw [scn_no (fun c => by omega)]
    refine ⟨M, ?_, ⟨h1, h2, h3⟩, rNx_refl _⟩
    show fX6_next_B8 _ M = _
    unfold fX6_next_B8
    rw [h1, h3, if_pos ((nI_leI (by omega) (by omega)).mpr (by omega))]
  | succ n ih =>
    intro p N M hn hN h1 h2 h3 h4
    obtain ⟨N, rfl⟩ : ∃ q, N = q + 1 := ⟨N - 1, by omega⟩
    have hU : fX6_next_L8 (N + 1) M = fX6_next_B8 (fX6_next_L8 N) M := rfl
    rw [hU]
    unfold fX6_next_B8
    rw [h1, h3]
    by_cases c : p < z
    rotate_left
    · rw [scn_no (fun q => c q.1), if_pos ((nI_leI (by omega) (by omega)).mpr (by omega))]
      exact ⟨M, rfl, ⟨h1, h2, h3⟩, rNx_refl _⟩
    rw [if_neg (by rw [nI_leI (by omega) (by omega)]; omega), zG_t (zin_nI (show p < 160 by omega) (by decide)), nIc (by omega), h2]
    have go : b p = 32 ∨ b p = 10 → ∃ M', fX6_next_L8 N (zu M 0 15 (nI p + (1 : Int32))) = fX6_next_J60 M' ∧ (M'.1 0 8 = nI z ∧ M'.1 5 = b ∧ M'.1 0 15 = nI (scn isBl b z 160 p)) ∧ rNx M M' := fun e => by
      rw [scn_go ⟨c, (isBl_c _).mpr e⟩ hz, nI_1]
      obtain ⟨M', g1, g2, g3⟩ := ih (p + 1) N (zu M 0 15 (nI (p + 1))) (by omega) (by omega) (by rw [zu_other _ _ (by decide)]; exact h1) (by rw [zu_row _ (by decide)]; exact h2) (by rw [zu_same]) (by omega)
      exact ⟨M', g1, g2, rNx_trans (rNx_zu _ (by decide) _) g3⟩
    by_cases e : b p = 32
    · rw [if_pos e, zL_r]; exact go (Or.inl e)
    rw [if_neg e, zG_t (zin_nI (show p < 160 by omega) (by decide))]
    by_cases e2 : b p = 10
    · rw [if_pos e2, zL_r]; exact go (Or.inr e2)
    · rw [if_neg e2, scn_no (fun q => by rcases (isBl_c _).mp q.2 with w | w; exact e w; exact e2 w)]
      exact ⟨M, rfl, ⟨h1, h2, h3⟩, rNx_refl _⟩
theorem rnum {z : Nat} {b : Nat → Int32} (hz : z ≤ 160) {f : Nat} : ∀ (n p N : Nat) (M : zM), z - p ≤ n → n < N → rPre z b M p → M.1 0 15 = nI f → f ≤ p → M.1 0 18 = nI (nval b f (min (p - f) 4)) → ∃ M', fX6_next_L245 N M = some M' ∧ rLx z b M' (if scn isDg b z 160 p - f ≤ 4 then 2 else 1, nval b f (min (scn isDg b z 160 p - f) 4), f, scn isDg b z 160 p) ∧ rNx M M' := by
  have fin : ∀ (p : Nat) (M : zM), rPre z b M p → M.1 0 15 = nI f → f ≤ p → M.1 0 18 = nI (nval b f (min (p - f) 4)) → ∃ M', fX6_next_J321 M = some M' ∧ rLx z b M' (if p - f ≤ 4 then 2 else 1, nval b f (min (p - f) 4), f, p) ∧ rNx M M' := by
    intro p M h h7 hf h8
    obtain ⟨h1, h2, h3, h4⟩ := id h
    unfold fX6_next_J321
    rw [h3, h7, pk_sub hf]
    have mk : ∀ v k : Nat, v = rkTok k → k ≤ 2 → rLx z b (zu M 0 17 (nI v)) (k, nval b f (min (p - f) 4), f, p) := fun v k hv hk => ⟨by rw [zu_other _ _ (by decide)]; exact h1, by rw [zu_row _ (by decide)]; exact h2, by rw [zu_other _ _ (by decide)]; exact h7, by rw [zu_other _ _ (by decide)]; exact h3, by rw [zu_same, hv], fun _ => by rw [zu_other _ _ (by decide)]; exact h8, fun q => by
      have q' : 3 ≤ k := q
      omega⟩
    by_cases c : p - f ≤ 4
    · rw [if_pos (show nI (p - f) ≤ (4 : Int32) from (nI_leI (by omega) (show 4 < 2 ^ 31 by decide)).mpr c), zL_r, if_pos c]
      exact ⟨_, rfl, mk 48 2 rfl (by omega), rNx_zu _ (by decide) _⟩
    · rw [if_neg (show ¬ nI (p - f) ≤ (4 : Int32) from fun q => c ((nI_leI (by omega) (show 4 < 2 ^ 31 by decide)).mp q)), zL_r, if_neg c]
      exact ⟨_, rfl, mk 120 1 rfl (by omega), rNx_zu _ (by decide) _⟩
  intro n
  induction n with
  | zero =>
    intro p N M hn hN h h7 hf h8
    obtain ⟨N, rfl⟩ : ∃ q, N = q + 1 := ⟨N - 1, by omega⟩
    obtain ⟨h1, h2, h3, h4⟩ := id h
    rw [scn_no (fun c => by omega)]
    obtain ⟨M', g1, g2⟩ := fin p M h h7 hf h8
    refine ⟨M', ?_, g2⟩
    rw [← g1]
    show fX6_next_B245 _ M = _
    unfold fX6_next_B245
    rw [h1, h3, if_pos ((nI_leI (by omega) (by omega)).mpr (by omega))]
  | succ n ih =>
    intro p N M hn hN h h7 hf h8
    obtain ⟨N, rfl⟩ : ∃ q, N = q + 1 := ⟨N - 1, by omega⟩
    obtain ⟨h1, h2, h3, h4⟩ := id h
    have hU : fX6_next_L245 (N + 1) M = fX6_next_B245 (fX6_next_L245 N) M := rfl
    rw [hU]
    unfold fX6_next_B245
    rw [h1, h3]
    by_cases c : p < z
    rotate_left
    · rw [scn_no (fun q => c q.1), if_pos ((nI_leI (by omega) (by omega)).mpr (by omega))]
      exact fin p M h h7 hf h8
    rw [if_neg (by rw [nI_leI (by omega) (by omega)]; omega), zG_t (zin_nI (show p < 160 by omega) (by decide)), nIc (by omega), h2, zB_s (mDg _ _)]
    by_cases d : isDg (b p) = true
    rotate_left
    · rw [if_neg d, if_pos rfl, scn_no (fun q => d q.2)]
      exact fin p M h h7 hf h8
    rw [if_pos d, if_neg (show ¬ (1 : Int32) = 0 by decide), h3, h7, pk_sub hf, scn_go ⟨c, d⟩ hz]
    by_cases e : 4 ≤ p - f
    · rw [if_pos (show (4 : Int32) ≤ nI (p - f) from (nI_leI (show 4 < 2 ^ 31 by decide) (by omega)).mpr e), nI_1, zL_r]
      obtain ⟨M', g1, g2, g3⟩ := ih (p + 1) N (zu M 0 16 (nI (p + 1))) (by omega) (by omega) (rPre_16 h1 h2 (by omega)) (by rw [zu_other _ _ (by decide)]; exact h7) (by omega) (by rw [zu_other _ _ (by decide), h8, Nat.min_eq_right e, Nat.min_eq_right (by omega)])
      exact ⟨M', g1, g2, rNx_trans (rNx_zu _ (by decide) _) g3⟩
    · obtain ⟨dd, d1, d2, d3⟩ := isDg_n d
      have ev : (10 : Int32) * M.1 0 18 + b p - (48 : Int32) = nI (nval b f (p + 1 - f)) := by
        rw [h8, d3, Nat.min_eq_left (by omega), show (10 : Int32) = nI 10 from rfl, show (48 : Int32) = nI 48 from rfl, pk_mul, nI_add, pk_sub (by omega), show p + 1 - f = p - f + 1 by omega, nval_s, show f + (p - f) = p by omega, d3, nIc (by omega)]
        rw [show 10 * nval b f (p - f) + dd - 48 = nval b f (p - f) * 10 + (dd - 48) by omega]
      rw [if_neg (show ¬ (4 : Int32) ≤ nI (p - f) from fun q => e ((nI_leI (show 4 < 2 ^ 31 by decide) (by omega)).mp q)), zG_t (zin_nI (show p < 160 by omega) (by decide)), nIc (by omega), h2, ev, zL_r, zu_other _ _ (show (16 : Nat) ≠ 18 by decide), h3, nI_1, zL_r]
      obtain ⟨M', g1, g2, g3⟩ := ih (p + 1) N (zu (zu M 0 18 (nI (nval b f (p + 1 - f)))) 0 16 (nI (p + 1))) (by omega) (by omega) (rPre_16 (by rw [zu_other _ _ (by decide)]; exact h1) (by rw [zu_row _ (by decide)]; exact h2) (by omega)) (by rw [zu_other _ _ (by decide), zu_other _ _ (by decide)]; exact h7) (by omega) (by rw [zu_other _ _ (by decide), zu_same, Nat.min_eq_left (by omega)])
      exact ⟨M', g1, g2, rNx_trans (rNx_trans (rNx_zu _ (by decide) _) (rNx_zu _ (by decide) _)) g3⟩
theorem rword {z : Nat} {b : Nat → Int32} (hz : z ≤ 160) {f : Nat} : ∀ (n p N : Nat) (M : zM), z - p ≤ n → n < N → rPre z b M p → M.1 0 15 = nI f → f ≤ p → (∀ j, f ≤ j → j < p → isLt (b j) = true) → (p - f ≤ 6 → M.1 0 19 = nI (numR (stk (fun k => b (f + k)) (p - f)))) → ∃ M', fX6_next_L108 N M = fX6_next_J185 M' ∧ rPre z b M' (scn isLt b z 160 p) ∧ M'.1 0 15 = nI f ∧ (scn isLt b z 160 p - f ≤ 6 → M'.1 0 19 = nI (numR (stk (fun k => b (f + k)) (scn isLt b z 160 p - f)))) ∧ rNx M M' := by
  intro n
  induction n with
  | zero =>
    intro p N M hn hN h h7 hf hl h9
    obtain ⟨N, rfl⟩ : ∃ q, N = q + 1 := ⟨N - 1, by omega⟩
    obtain ⟨h1, h2, h3, h4⟩ := id h
    rw [scn_no (fun c => by omega)]
    refine ⟨M, ?_, h, h7, h9, rNx_refl _⟩
    show fX6_next_B108 _ M = _
    unfold fX6_next_B108
    rw [h1, h3, if_pos ((nI_leI (by omega) (by omega)).mpr (by omega))]
  | succ n ih =>
    intro p N M hn hN h h7 hf hl h9
    obtain ⟨N, rfl⟩ : ∃ q, N = q + 1 := ⟨N - 1, by omega⟩
    obtain ⟨h1, h2, h3, h4⟩ := id h
    have hU : fX6_next_L108 (N + 1) M = fX6_next_B108 (fX6_next_L108 N) M := rfl
    rw [hU]
    unfold fX6_next_B108
    rw [h1, h3]
    by_cases c : p < z
    rotate_left
    · rw [scn_no (fun q => c q.1), if_pos ((nI_leI (by omega) (by omega)).mpr (by omega))]
      exact ⟨M, rfl, h, h7, h9, rNx_refl _⟩
    rw [if_neg (by rw [nI_leI (by omega) (by omega)]; omega), zG_t (zin_nI (show p < 160 by omega) (by decide)), nIc (by omega), h2, zB_s (mLt _ _)]
    by_cases d : isLt (b p) = true
    rotate_left
    · rw [if_neg d, if_pos rfl, scn_no (fun q => d q.2)]
      exact ⟨M, rfl, h, h7, h9, rNx_refl _⟩
    have hl' : ∀ j, f ≤ j → j < p + 1 → isLt (b j) = true := fun j j1 j2 => by
      by_cases e : j = p
      · rw [e]; exact d
      · exact hl j j1 (by omega)
    rw [if_pos d, if_neg (show ¬ (1 : Int32) = 0 by decide), h3, h7, pk_sub hf, scn_go ⟨c, d⟩ hz]
    by_cases e : 6 ≤ p - f
    · rw [if_pos (show (6 : Int32) ≤ nI (p - f) from (nI_leI (show 6 < 2 ^ 31 by decide) (by omega)).mpr e), nI_1, zL_r]
      obtain ⟨M', g1, g2, g3, g4, g5⟩ := ih (p + 1) N (zu M 0 16 (nI (p + 1))) (by omega) (by omega) (rPre_16 h1 h2 (by omega)) (by rw [zu_other _ _ (by decide)]; exact h7) (by omega) hl' (fun q => by omega)
      exact ⟨M', g1, g2, g3, g4, rNx_trans (rNx_zu _ (by decide) _) g5⟩
    · obtain ⟨dd, d1, d2, d3⟩ := isLt_n d
      have ev : (27 : Int32) * M.1 0 19 + b p - (96 : Int32) = nI (numR (stk (fun k => b (f + k)) (p + 1 - f))) := by
        rw [h9 (by omega), d3, show (27 : Int32) = nI 27 from rfl, show (96 : Int32) = nI 96 from rfl, pk_mul, nI_add, pk_sub (by omega), show p + 1 - f = p - f + 1 by omega]
        show _ = nI (27 * numR (stk (fun k => b (f + k)) (p - f)) + ((b (f + (p - f))).toNatClampNeg - 96))
        rw [show f + (p - f) = p by omega, d3, nIc (by omega), show 27 * numR (stk (fun k => b (f + k)) (p - f)) + dd - 96 = 27 * numR (stk (fun k => b (f + k)) (p - f)) + (dd - 96) by omega]
      rw [if_neg (show ¬ (6 : Int32) ≤ nI (p - f) from fun q => e ((nI_leI (show 6 < 2 ^ 31 by decide) (by omega)).mp q)), zG_t (zin_nI (show p < 160 by omega) (by decide)), nIc (by omega), h2, ev, zL_r, zu_other _ _ (show (16 : Nat) ≠ 19 by decide), h3, nI_1, zL_r]
      obtain ⟨M', g1, g2, g3, g4, g5⟩ := ih (p + 1) N (zu (zu M 0 19 (nI (numR (stk (fun k => b (f + k)) (p + 1 - f))))) 0 16 (nI (p + 1))) (by omega) (by omega) (rPre_16 (by rw [zu_other _ _ (by decide)]; exact h1) (by rw [zu_row _ (by decide)]; exact h2) (by omega)) (by rw [zu_other _ _ (by decide), zu_other _ _ (by decide)]; exact h7) (by omega) hl' (fun q => by rw [zu_other _ _ (by decide), zu_same])
      exact ⟨M', g1, g2, g3, g4, rNx_trans (rNx_trans (rNx_zu _ (by decide) _) (rNx_zu _ (by decide) _)) g5⟩
theorem rnext {z : Nat} {b : Nat → Int32} (hz : z ≤ 160) (hb : ∀ j, j < z → 0 ≤ b j ∧ b j ≤ 255) {p : Nat} {M : zM} (h : rPre z b M p) : ∃ M', fX6_next M = some M' ∧ rLx z b M' (lx b z p) ∧ rNx M M' := by
  obtain ⟨h1, h2, h3, h4⟩ := h
  obtain ⟨M1, q1, ⟨q2, q3, q4⟩, q5⟩   := rblank (b := b) hz z p zF (zu M 0 15 (nI p)) (by omega) (by unfold zF; omega) (by rw [zu_other _ _ (by decide)]; exact h1) (by rw [zu_row _ (by decide)]; exact h2) (by rw [zu_same]) h4
  have hN : fX6_next M = fX6_next_J60 M1 := by
    unfold fX6_next
    rw [h3, zL_r]
    exact q1
  have hle := (scn_p isBl b z 160 p).2.1 h4
  obtain ⟨f, hf⟩ : ∃ f, scn isBl b z 160 p = f := ⟨_, rfl⟩
  rw [hf] at q4 hle
  obtain ⟨M2, e2⟩ : ∃ M2, M2 = zu (zu M1 0 16 (nI f)) 0 19 0 := ⟨_, rfl⟩
  have n2 : rNx M M2 := rNx_trans (rNx_trans (rNx_zu M (by decide) _) q5) (by rw [e2]; exact rNx_trans (rNx_zu _ (by decide) _) (rNx_zu _ (by decide) _))
  have k8 : M2.1 0 8 = nI z := by rw [e2, zu_other _ _ (by decide), zu_other _ _ (by decide)]; exact q2
  have k5 : M2.1 5 = b := by rw [e2, zu_row _ (by decide), zu_row _ (by decide)]; exact q3
  have k15 : M2.1 0 15 = nI f := by rw [e2, zu_other _ _ (by decide), zu_other _ _ (by decide)]; exact q4
  have k16 : M2.1 0 16 = nI f := by rw [e2, zu_other _ _ (by decide), zu_same]
  have k19 : M2.1 0 19 = 0 := by rw [e2, zu_same]
  have p2 : rPre z b M2 f := ⟨k8, k5, k16, hle⟩
  rw [hN]
  unfold fX6_next_J60
  rw [q4, zL_r, zL_r, ← e2, k15, k8]
  by_cases c : z ≤ f
  · rw [if_pos (show nI f = nI z by rw [show f = z by omega]), zL_r, lx_0 (by rw [hf]; exact c), hf]
    exact ⟨_, rfl, ⟨by rw [zu_other _ _ (by decide)]; exact k8, by rw [zu_row _ (by decide)]; exact k5, by rw [zu_other _ _ (by decide)]; exact k15, by rw [zu_other _ _ (by decide)]; exact k16, by rw [zu_same]; rfl, fun q => by omega, fun q => by omega⟩, rNx_trans n2 (rNx_zu _ (by decide) _)⟩
  have hlt : f < z := by omega
  rw [if_neg (nI_ne (by omega) (by omega) (by omega)), zG_t (zin_nI (show f < 160 by omega) (by decide)), nIc (by omega), k5, zL_r, zB_s (mLt _ _)]
  have ld : isLt (b f) = true → ¬ isDg (b f) = true := fun q q' => by
    obtain ⟨d, d1, d2, d3⟩ := isLt_n q
    obtain ⟨d', d1', d2', d3'⟩ := isDg_n q'
    rw [d3] at d3'
    have := (nI_eq (by omega) (by omega)).mp d3'
    omega
  by_cases hl : isLt (b f) = true
  · rw [if_pos hl, if_neg (show ¬ (1 : Int32) = 0 by decide)]
    obtain ⟨t, ht⟩ : ∃ t, scn isLt b z 160 f = t := ⟨_, rfl⟩
    obtain ⟨M3, g1, g2, g3, g4, g5⟩ := rword hz (f := f) z f zF M2 (by omega) (by unfold zF; omega) p2 k15 (Nat.le_refl _) (fun j j1 j2 => by omega) (fun _ => by rw [k19, Nat.sub_self]; rfl)
    rw [ht] at g2 g4
    obtain ⟨w1, w2, w3, w4⟩ := id g2
    have sp := scn_p isLt b z 160 f
    rw [ht] at sp
    have hft : f ≤ t := sp.1
    obtain ⟨w, hw⟩ : ∃ w, wd (lsF b (t - f) f) = w := ⟨_, rfl⟩
    have hwl := wd_le (lsF b (t - f) f)
    rw [hw] at hwl
    rw [g1, lx_l hf hlt (ld hl) hl ht hw]
    -- behind the word's number
    have J : ∀ M4 : zM, rPre z b M4 t → M4.1 0 15 = nI f → rNx M2 M4 → (w = 12 → nmd (M4.1 0 19) = -1 ∧ iky (M4.1 0 19) = 0) → (w < 6 → M4.1 0 19 = nI (wcd 3 w)) → (6 ≤ w → w < 12 → M4.1 0 19 = nI (wcd (w - 2) 0)) → ∃ M', fX6_next_J204 M4 = some M' ∧ rLx z b M' (if w = 12 then 1 else if w < 6 then 3 else w - 2, if w < 6 then w else 0, f, t) ∧ rNx M M' := by
      intro M4 hp h15 hn a1 a2 a3
      obtain ⟨y1, y2, y3, y4⟩ := hp
      have mk : ∀ (v k : Nat), v = rkTok k → k ≠ 2 → (3 ≤ k → k ≤ 9 → M4.1 0 19 = nI (wcd k (if w < 6 then w else 0))) → rLx z b (zu M4 0 17 (nI v)) (k, if w < 6 then w else 0, f, t) ∧ rNx M (zu M4 0 17 (nI v)) := fun v k hv hk hq => ⟨⟨by rw [zu_other _ _ (by decide)]; exact y1, by rw [zu_row _ (by decide)]; exact y2, by rw [zu_other _ _ (by decide)]; exact h15, by rw [zu_other _ _ (by decide)]; exact y3, by rw [zu_same, hv], fun q => absurd q hk, fun u1 u2 => by rw [zu_other _ _ (by decide)]; exact hq u1 u2⟩, rNx_trans n2 (rNx_trans hn (rNx_zu _ (by decide) _))⟩
      unfold fX6_next_J204
      rw [zB_s (named_f M4)]
      by_cases c12 : w = 12
      · obtain ⟨b1, b2⟩ := a1 c12
        rw [b1, if_pos rfl, zB_s (isKey_f M4), b2, if_pos rfl, zL_r, if_pos c12]
        exact ⟨_, rfl, mk 120 1 rfl (by omega) (fun q => by omega)⟩
      rw [if_neg c12]
      by_cases c6 : w < 6
      · have q := mk 119 3 rfl (by omega) (fun _ _ => by rw [if_pos c6]; exact a2 c6)
        rw [a2 c6, nmd_3 w c6, if_neg (ne_m1 (by omega)), zL_r, if_pos c6]
        rw [if_pos c6] at q ⊢
        exact ⟨_, rfl, q⟩
      · have q := mk 119 (w - 2) (by unfold rkTok; rw [if_neg (by omega), if_neg (by omega), if_neg (by omega), if_pos (by omega)]) (by omega) (fun _ _ => by rw [if_neg c6]; exact a3 (by omega) (by omega))
        have ek : ∀ k, k < 10 → 4 ≤ k → iky (nI (wcd k 0)) = 1 := by decide
        rw [a3 (by omega) (by omega), nmd_k _ (by omega) (by omega), if_pos rfl, zB_s (isKey_f M4), a3 (by omega) (by omega), ek _ (by omega) (by omega), if_neg (show ¬ (1 : Int32) = 0 by decide), zL_r, if_neg c6]
        rw [if_neg c6] at q ⊢
        exact ⟨_, rfl, q⟩
    unfold fX6_next_J185
    rw [w3, g3, pk_sub hft]
    by_cases c6 : t - f ≤ 6
    · rw [if_pos (show nI (t - f) ≤ (6 : Int32) from (nI_leI (by omega) (show 6 < 2 ^ 31 by decide)).mpr c6)]
      have hlt' : ltrs (lsF b (t - f) f).reverse := by
        rw [lsF_rev]
        exact stk_ltrs (t - f) (fun j hj => (sp.2.2.1 (f + j) (by omega) (by omega)).2)
      obtain ⟨d1, d2, d3⟩ := wd_num hlt' (by rw [lsF_len]; exact c6)
      have e19 := g4 c6
      rw [← lsF_rev] at e19
      rw [hw] at d1 d2 d3
      exact J M3 g2 g3 g5 (fun q => by rw [e19]; exact d1 q) (fun q => by rw [e19]; exact d2 q) (fun q q' => by rw [e19]; exact d3 q q')
    · have w12 : w = 12 := by rw [← hw]; exact wd_long (by rw [lsF_len]; omega)
      rw [if_neg (show ¬ nI (t - f) ≤ (6 : Int32) from fun q => c6 ((nI_leI (by omega) (show 6 < 2 ^ 31 by decide)).mp q)), zL_r]
      exact J (zu M3 0 19 (-1)) (rPre_zu g2 (by decide) _) (by rw [zu_other _ _ (by decide)]; exact g3) (rNx_trans g5 (rNx_zu _ (by decide) _)) (fun _ => by rw [zu_same]; decide) (fun q => by omega) (fun _ q => by omega)
  rw [if_neg hl, if_pos rfl, zB_s (mDg _ _)]
  by_cases hd : isDg (b f) = true
  · rw [if_pos hd, if_neg (show ¬ (1 : Int32) = 0 by decide), zL_r]
    obtain ⟨t, ht⟩ : ∃ t, scn isDg b z 160 f = t := ⟨_, rfl⟩
    obtain ⟨M', g1, g2, g3⟩ := rnum hz (f := f) z f zF (zu M2 0 18 0) (by omega) (by unfold zF; omega) (rPre_zu p2 (by decide) _) (by rw [zu_other _ _ (by decide)]; exact k15) (Nat.le_refl _) (by rw [zu_same, Nat.sub_self]; rfl)
    rw [ht] at g2
    rw [g1, lx_d hf hlt hd ht]
    exact ⟨M', rfl, g2, rNx_trans n2 (rNx_trans (rNx_zu _ (by decide) _) g3)⟩
  rw [if_neg hd, if_pos rfl, k16, nI_1, zL_r, zB_s (mSg _ _), lx_g hf hlt hd hl]
  obtain ⟨n, -, hn, en⟩ := i32_in (a := 0) (b := 255) (hb f hlt).1 (hb f hlt).2 (by omega) (by omega)
  by_cases g : isSg (b f) = true
  · rw [if_pos g, if_neg (show ¬ (1 : Int32) = 0 by decide), zL_r, if_pos g]
    refine ⟨_, rfl, ⟨by rw [zu_other _ _ (by decide), zu_other _ _ (by decide)]; exact k8, by rw [zu_row _ (by decide), zu_row _ (by decide)]; exact k5, by rw [zu_other _ _ (by decide), zu_other _ _ (by decide)]; exact k15, by rw [zu_other _ _ (by decide), zu_same], ?_, fun q => ?_, fun q q' => ?_⟩, rNx_trans n2 (rNx_trans (rNx_zu _ (by decide) _) (rNx_zu _ (by decide) _))⟩
    · rw [zu_same]
      show b f = nI (rkTok (b f).toNatClampNeg)
      rcases isSg_n g with w | w | w | w | w | w | w | w <;> rw [w] <;> decide
    · have q' : (b f).toNatClampNeg = 2 := q
      rcases isSg_n g with w | w | w | w | w | w | w | w <;> rw [w] at q' <;> exact absurd q' (by decide)
    · have u : (b f).toNatClampNeg ≤ 9 := q'
      rcases isSg_n g with w | w | w | w | w | w | w | w <;> rw [w] at u <;> exact absurd u (by decide)
  · rw [if_neg g, if_pos rfl, zL_r, if_neg g]
    exact ⟨_, rfl, ⟨by rw [zu_other _ _ (by decide), zu_other _ _ (by decide)]; exact k8, by rw [zu_row _ (by decide), zu_row _ (by decide)]; exact k5, by rw [zu_other _ _ (by decide), zu_other _ _ (by decide)]; exact k15, by rw [zu_other _ _ (by decide), zu_same], by rw [zu_same]; rfl, fun q => by omega, fun q => by omega⟩, rNx_trans n2 (rNx_trans (rNx_zu _ (by decide) _) (rNx_zu _ (by decide) _))⟩
theorem hNM_lx {z : Nat} {b : Nat → Int32} (hz : z ≤ 160) (hb : ∀ j, j < z → 0 ≤ b j ∧ b j ≤ 255) : hNM z b (lxT b z) := by
  intro i M h hk
  obtain ⟨h1, h2, h3, h4, h5, h6, h7⟩ := h
  exact rnext hz hb (p := psT b z (i + 1)) ⟨h1, h2, h4, psT_le hz (i + 1)⟩

/-! texts: the class's tokens -/
def cPre (z : Nat) (b : Nat → Int32) (M : zM) (p : Nat) : Prop := M.1 2 3 = nI z ∧ (∀ j, j < z → M.1 3 j = b j) ∧ M.1 2 5 = nI p ∧ p ≤ z
def cLx (z : Nat) (b : Nat → Int32) (M : zM) (L : Nat × Nat × Nat × Nat) : Prop := M.1 2 3 = nI z ∧ (∀ j, j < z → M.1 3 j = b j) ∧ M.1 2 7 = nI L.2.2.1 ∧ M.1 2 5 = nI L.2.2.2 ∧ M.1 2 6 = nI L.1 ∧ (L.1 = 2 ∨ L.1 = 3 → M.1 2 8 = nI L.2.1)
theorem cNx_refl (M : zM) : cNx M M := ⟨rfl, fun _ _ => rfl, fun _ _ => rfl⟩
theorem cNx_trans {M M' M'' : zM} (h1 : cNx M M') (h2 : cNx M' M'') : cNx M M'' := ⟨h2.1.trans h1.1, fun i a => (h2.2.1 i a).trans (h1.2.1 i a), fun k a => (h2.2.2 k a).trans (h1.2.2 k a)⟩
theorem cNx_zu (M : zM) {k : Nat} (hk : k ∈ [5, 6, 7, 8]) (v : Int32) : cNx M (zu M 2 k v) := ⟨rfl, fun i a => zu_row _ a _ _, fun q hq => zu_other _ _ (fun e => hq (by rw [e]; exact hk)) _⟩
theorem isDg_i {b : Nat → Int32} {z p : Nat} (hz : z ≤ 160) {M : zM} (hb : ∀ j, j < z → M.1 3 j = b j) (hp : p < z) : fX2_isDigit (nI p) M = some ((if isDg (b p) = true then 1 else 0), M) := by
  unfold fX2_isDigit isDg
  rw [zG_t (zin_nI (show p < 160 by omega) (by decide)), nIc (by omega), hb p hp, zG_t (zin_nI (show p < 160 by omega) (by decide))]
  by_cases c : b p < 48
  · rw [if_pos c, if_neg (by simp only [Bool.and_eq_true, decide_eq_true_eq]; exact fun q => (Int32.not_le.mpr c) q.1)]
  · rw [if_neg c]
    by_cases d : 57 < b p
    · rw [if_pos d, if_neg (by simp only [Bool.and_eq_true, decide_eq_true_eq]; exact fun q => (Int32.not_le.mpr d) q.2)]
    · rw [if_neg d, if_pos (by simp only [Bool.and_eq_true, decide_eq_true_eq]; exact ⟨Int32.not_lt.mp c, Int32.not_lt.mp d⟩)]
theorem isLt_i {b : Nat → Int32} {z p : Nat} (hz : z ≤ 160) {M : zM} (hb : ∀ j, j < z → M.1 3 j = b j) (hp : p < z) : fX2_isLetter (nI p) M = some ((if isLt (b p) = true then 1 else 0), M) := by
  unfold fX2_isLetter isLt
  rw [zG_t (zin_nI (show p < 160 by omega) (by decide)), nIc (by omega), hb p hp, zG_t (zin_nI (show p < 160 by omega) (by decide))]
  by_cases c : b p < 97
  · rw [if_pos c, if_neg (by simp only [Bool.and_eq_true, decide_eq_true_eq]; exact fun q => (Int32.not_le.mpr c) q.1)]
  · rw [if_neg c]
    by_cases d : 122 < b p
    · rw [if_pos d, if_neg (by simp only [Bool.and_eq_true, decide_eq_true_eq]; exact fun q => (Int32.not_le.mpr d) q.2)]
    · rw [if_neg d, if_pos (by simp only [Bool.and_eq_true, decide_eq_true_eq]; exact ⟨Int32.not_lt.mp c, Int32.not_lt.mp d⟩)]
theorem isBl_c (c : Int32) : isBl c = true ↔ c = 32 ∨ c = 10 := by
  unfold isBl
  simp only [Bool.or_eq_true, decide_eq_true_eq]
theorem cPre_5 {z : Nat} {b : Nat → Int32} {M : zM} {p : Nat} (h : cPre z b M p) {p' : Nat} (hp : p' ≤ z) : cPre z b (zu M 2 5 (nI p')) p' := ⟨by rw [zu_other _ _ (by decide)]; exact h.1, fun j hj => by rw [zu_row _ (by decide)]; exact h.2.1 j hj, by rw [zu_same], hp⟩
theorem cblank {z : Nat} {b : Nat → Int32} (hz : z ≤ 160) : ∀ (n p N : Nat) (M : zM), z - p ≤ n → n < N → cPre z b M p → ∃ M', fX2_next_L0 N M = fX2_next_J52 M' ∧ cPre z b M' (scn isBl b z 160 p) ∧ cNx M M' := by
  intro n
  induction n with
  | zero =>
    intro p N M hn hN h
    obtain ⟨N, rfl⟩ : ∃ q, N = q + 1 := ⟨N - 1, by omega⟩
    obtain ⟨h1, h2, h3, h4⟩ := id h
    rw [scn_no (fun c => by omega)]
    refine ⟨M, ?_, h, cNx_refl _⟩
    show fX2_next_B0 _ M = _
    unfold fX2_next_B0
    rw [h1, h3, if_pos ((nI_leI (by omega) (by omega)).mpr (by omega))]
  | succ n ih =>
    intro p N M hn hN h
    obtain ⟨N, rfl⟩ : ∃ q, N = q + 1 := ⟨N - 1, by omega⟩
    obtain ⟨h1, h2, h3, h4⟩ := id h
    have hU : fX2_next_L0 (N + 1) M = fX2_next_B0 (fX2_next_L0 N) M := rfl
    rw [hU]
    unfold fX2_next_B0
    rw [h1, h3]
    by_cases c : p < z
    rotate_left
    · rw [scn_no (fun q => c q.1), if_pos ((nI_leI (by omega) (by omega)).mpr (by omega))]
      exact ⟨M, rfl, h, cNx_refl _⟩
    rw [if_neg (by rw [nI_leI (by omega) (by omega)]; omega), zG_t (zin_nI (show p < 160 by omega) (by decide)), nIc (by omega), h2 p c]
    have go : b p = 32 ∨ b p = 10 → ∃ M', fX2_next_L0 N (zu M 2 5 (nI p + (1 : Int32))) = fX2_next_J52 M' ∧ cPre z b M' (scn isBl b z 160 p) ∧ cNx M M' := fun e => by
      rw [scn_go ⟨c, (isBl_c _).mpr e⟩ hz, nI_1]
      obtain ⟨M', g1, g2, g3⟩ := ih (p + 1) N (zu M 2 5 (nI (p + 1))) (by omega) (by omega) (cPre_5 h (by omega))
      exact ⟨M', g1, g2, cNx_trans (cNx_zu _ (by decide) _) g3⟩
    by_cases e : b p = 32
    · rw [if_pos e, zL_r]; exact go (Or.inl e)
    rw [if_neg e, zG_t (zin_nI (show p < 160 by omega) (by decide))]
    by_cases e2 : b p = 10
    · rw [if_pos e2, zL_r]; exact go (Or.inr e2)
    · rw [if_neg e2, scn_no (fun q => by rcases (isBl_c _).mp q.2 with w | w; exact e w; exact e2 w)]
      exact ⟨M, rfl, h, cNx_refl _⟩
theorem nval_s (b : Nat → Int32) (f n : Nat) : nval b f (n + 1) = nval b f n * 10 + ((b (f + n)).toNatClampNeg - 48) := rfl
theorem cnum {z : Nat} {b : Nat → Int32} (hz : z ≤ 160) {f : Nat} : ∀ (n p N : Nat) (M : zM), z - p ≤ n → n < N → cPre z b M p → M.1 2 7 = nI f → f ≤ p → M.1 2 8 = nI (nval b f (min (p - f) 4)) → ∃ M', fX2_nextNumber_L5 N M = some M' ∧ cLx z b M' (if scn isDg b z 160 p - f ≤ 4 then 2 else 1, nval b f (min (scn isDg b z 160 p - f) 4), f, scn isDg b z 160 p) ∧ cNx M M' := by
  have fin : ∀ (p : Nat) (M : zM), cPre z b M p → M.1 2 7 = nI f → f ≤ p → M.1 2 8 = nI (nval b f (min (p - f) 4)) → ∃ M', fX2_nextNumber_J77 M = some M' ∧ cLx z b M' (if p - f ≤ 4 then 2 else 1, nval b f (min (p - f) 4), f, p) ∧ cNx M M' := by
    intro p M h h7 hf h8
    obtain ⟨h1, h2, h3, h4⟩ := id h
    unfold fX2_nextNumber_J77
    rw [h3, h7, pk_sub hf]
    by_cases c : p - f ≤ 4
    · rw [if_pos (show nI (p - f) ≤ (4 : Int32) from (nI_leI (by omega) (show 4 < 2 ^ 31 by decide)).mpr c), zL_r]
      refine ⟨_, rfl, ⟨by rw [zu_other _ _ (by decide)]; exact h1, fun j hj => by rw [zu_row _ (by decide)]; exact h2 j hj, by rw [zu_other _ _ (by decide)]; exact h7, by rw [zu_other _ _ (by decide)]; exact h3, ?_, fun _ => by rw [zu_other _ _ (by decide)]; exact h8⟩, cNx_zu _ (by decide) _⟩
      rw [zu_same]
      show (2 : Int32) = nI (if p - f ≤ 4 then 2 else 1)
      rw [if_pos c]; rfl
    · rw [if_neg (show ¬ nI (p - f) ≤ (4 : Int32) from fun q => c ((nI_leI (by omega) (show 4 < 2 ^ 31 by decide)).mp q)), zL_r]
      refine ⟨_, rfl, ⟨by rw [zu_other _ _ (by decide)]; exact h1, fun j hj => by rw [zu_row _ (by decide)]; exact h2 j hj, by rw [zu_other _ _ (by decide)]; exact h7, by rw [zu_other _ _ (by decide)]; exact h3, ?_, fun _ => by rw [zu_other _ _ (by decide)]; exact h8⟩, cNx_zu _ (by decide) _⟩
      rw [zu_same]
      show (1 : Int32) = nI (if p - f ≤ 4 then 2 else 1)
      rw [if_neg c]; rfl
  intro n
  induction n with
  | zero =>
    intro p N M hn hN h h7 hf h8
    obtain ⟨N, rfl⟩ : ∃ q, N = q + 1 := ⟨N - 1, by omega⟩
    obtain ⟨h1, h2, h3, h4⟩ := id h
    rw [scn_no (fun c => by omega)]
    obtain ⟨M', g1, g2⟩ := fin p M h h7 hf h8
    refine ⟨M', ?_, g2⟩
    rw [← g1]
    show fX2_nextNumber_B5 _ M = _
    unfold fX2_nextNumber_B5
    rw [h1, h3, if_pos ((nI_leI (by omega) (by omega)).mpr (by omega))]
  | succ n ih =>
    intro p N M hn hN h h7 hf h8
    obtain ⟨N, rfl⟩ : ∃ q, N = q + 1 := ⟨N - 1, by omega⟩
    obtain ⟨h1, h2, h3, h4⟩ := id h
    have hU : fX2_nextNumber_L5 (N + 1) M = fX2_nextNumber_B5 (fX2_nextNumber_L5 N) M := rfl
    rw [hU]
    unfold fX2_nextNumber_B5
    rw [h1, h3]
    by_cases c : p < z
    rotate_left
    · rw [scn_no (fun q => c q.1), if_pos ((nI_leI (by omega) (by omega)).mpr (by omega))]
      exact fin p M h h7 hf h8
    rw [if_neg (by rw [nI_leI (by omega) (by omega)]; omega), zB_s (isDg_i hz h2 c)]
    by_cases d : isDg (b p) = true
    rotate_left
    · rw [if_neg d, if_pos rfl, scn_no (fun q => d q.2)]
      exact fin p M h h7 hf h8
    rw [if_pos d, if_neg (show ¬ (1 : Int32) = 0 by decide), h3, h7, pk_sub hf, scn_go ⟨c, d⟩ hz]
    by_cases e : 4 ≤ p - f
    · rw [if_pos (show (4 : Int32) ≤ nI (p - f) from (nI_leI (show 4 < 2 ^ 31 by decide) (by omega)).mpr e), nI_1, zL_r]
      obtain ⟨M', g1, g2, g3⟩ := ih (p + 1) N (zu M 2 5 (nI (p + 1))) (by omega) (by omega) (cPre_5 h (by omega)) (by rw [zu_other _ _ (by decide)]; exact h7) (by omega) (by rw [zu_other _ _ (by decide), h8, Nat.min_eq_right e, Nat.min_eq_right (by omega)])
      exact ⟨M', g1, g2, cNx_trans (cNx_zu _ (by decide) _) g3⟩
    · obtain ⟨dd, d1, d2, d3⟩ := isDg_n d
      have ev : M.1 2 8 * (10 : Int32) + M.1 3 p - (48 : Int32) = nI (nval b f (p + 1 - f)) := by
        rw [h8, h2 p c, d3, Nat.min_eq_left (by omega), show (10 : Int32) = nI 10 from rfl, show (48 : Int32) = nI 48 from rfl, pk_mul, nI_add, pk_sub (by omega), show p + 1 - f = p - f + 1 by omega, nval_s, show f + (p - f) = p by omega, d3, nIc (by omega)]
        rw [show nval b f (p - f) * 10 + dd - 48 = nval b f (p - f) * 10 + (dd - 48) by omega]
      rw [if_neg (show ¬ (4 : Int32) ≤ nI (p - f) from fun q => e ((nI_leI (show 4 < 2 ^ 31 by decide) (by omega)).mp q)), zG_t (zin_nI (show p < 160 by omega) (by decide)), nIc (by omega), ev, zL_r, zu_other _ _ (show (5 : Nat) ≠ 8 by decide), h3, nI_1, zL_r]
      have h' : cPre z b (zu M 2 8 (nI (nval b f (p + 1 - f)))) p := ⟨by rw [zu_other _ _ (by decide)]; exact h1, fun j hj => by rw [zu_row _ (by decide)]; exact h2 j hj, by rw [zu_other _ _ (by decide)]; exact h3, h4⟩
      obtain ⟨M', g1, g2, g3⟩ := ih (p + 1) N (zu (zu M 2 8 (nI (nval b f (p + 1 - f)))) 2 5 (nI (p + 1))) (by omega) (by omega) (cPre_5 h' (by omega)) (by rw [zu_other _ _ (by decide), zu_other _ _ (by decide)]; exact h7) (by omega) (by rw [zu_other _ _ (by decide), zu_same, Nat.min_eq_left (by omega)])
      exact ⟨M', g1, g2, cNx_trans (cNx_trans (cNx_zu _ (by decide) _) (cNx_zu _ (by decide) _)) g3⟩
/-! words -/
def wsX : List Int32 := [114,117,101,32,110,117,109,98,101,114,32,119,101,116,32,100,97,121,32,104,97,100,32,109,111,115,116,32,114,117,110,115,32,99,108,111,103,115,32,114,117,101,115,32,111,114,32,97,110,100,32,110,111,116,32]
theorem wsX_e : zSb.getD 1 [] = wsX := by decide +kernel
def sgX : List Int32 := [40,41,59,43,45,42,60,61]
theorem sgX_e : zSb.getD 2 [] = sgX := by decide +kernel
theorem wsX_c : ∀ i, i < 55 → zch (zi2c (wsX.getD i 0 &&& 255)) = true ∧ zi2c (wsX.getD i 0 &&& 255) = wsX.getD i 0 := by decide +kernel
theorem len_w (M : zM) : fJ0_length_8abf5 1 M = some (nI 55, M) := by
  unfold fJ0_length_8abf5 fJ0_coder_7d493
  show some (zshr (Int32.ofNat (zSl.getD 1 0)) (0 : Int32), M) = _
  rw [show zshr (Int32.ofNat (zSl.getD 1 0)) (0 : Int32) = nI 55 by decide]
theorem chr_w {i : Nat} (hi : i < 55) (M : zM) : fJ0_charAt_5068e 1 (nI i) M = some (wsX.getD i 0, M) := by
  obtain ⟨c1, c2⟩ := wsX_c i hi
  have e1 : fJ3_checkIndex_8e157 (nI i) (Int32.ofNat (zSl.getD 1 0)) M = some (nI i, M) := by
    unfold fJ3_checkIndex_8e157
    rw [if_neg (nI_pos (by omega)), if_pos]
    show nI i < nI 55
    rw [nI_ltI (by omega) (by omega)]
    exact hi
  have e2 : fJ1_charAt_3b067 1 (nI i) M = some (wsX.getD i 0, M) := by
    unfold fJ1_charAt_3b067 fJ0_checkIndex_df160
    rw [zB_s e1]
    show zG (zin (nI i) 55) (some (zi2c ((zSb.getD 1 []).getD (nI i).toNatClampNeg 0 &&& 255), M)) = _
    rw [zG_t (zin_nI hi (by decide)), wsX_e, nIc (by omega), c2]
  unfold fJ0_charAt_5068e fJ0_isLatin1_aae02
  show (if (1 : Int32) = 0 then none else zB (fJ1_charAt_3b067 1 (nI i) M) fun r_7 M_5 => zG (zch r_7) (some (r_7, M_5))) = _
  rw [if_neg (show ¬ (1 : Int32) = 0 by decide), zB_s e2, zG_t (by rw [← c2]; exact c1)]
def wsc (b : Nat → Int32) (f t : Nat) : List Int32 → Nat → Nat → Bool → Int32
  | [] => fun _ _ _ => -1
  | c :: l => fun n a s => if c = 32 then (if s = true ∧ a = t then nI n else wsc b f t l (n + 1) f true) else wsc b f t l n (a + 1) (s && decide (a < t) && decide (b a = c))
theorem wsc_m {z : Nat} {b : Nat → Int32} (hz : z ≤ 160) {f t : Nat} (hf : f ≤ t) (ht : t ≤ z) {M : zM} (hb : ∀ j, j < z → M.1 3 j = b j) : ∀ (l : List Int32) (i n a N : Nat) (s : Bool), wsX.drop i = l → i + l.length = 55 → l.length < N → n ≤ i → a ≤ f + i → fX2_wordNumber_L11 N (nI f) (nI t) (nI n) (nI a) (if s = true then 1 else 0) (nI i) M = some (wsc b f t l n a s, M) := by
  intro l
  induction l with
  | nil =>
    intro i n a N s hl hi hN hn ha
    obtain ⟨N, rfl⟩ : ∃ q, N = q + 1 := ⟨N - 1, by simp at hN; omega⟩
    simp only [List.length_nil] at hi
    show fX2_wordNumber_B11 _ _ _ _ _ _ _ M = _
    unfold fX2_wordNumber_B11
    rw [zB_s (len_w M), if_pos ((nI_leI (by omega) (by omega)).mpr (by omega))]
    rfl
  | cons c l ih =>
    intro i n a N s hl hi hN hn ha
    simp only [List.length_cons] at hi hN
    obtain ⟨N, rfl⟩ : ∃ q, N = q + 1 := ⟨N - 1, by omega⟩
    have hc : wsX.getD i 0 = c := by
      have e : (wsX.drop i).getD 0 0 = c := by rw [hl]; rfl
      rw [List.getD_eq_getElem?_getD, List.getElem?_drop, Nat.add_zero] at e
      rw [List.getD_eq_getElem?_getD]
      exact e
    have hl' : wsX.drop (i + 1) = l := by
      rw [← List.tail_drop, hl]
      rfl
    have e : wsc b f t (c :: l) n a s = if c = 32 then (if s = true ∧ a = t then nI n else wsc b f t l (n + 1) f true) else wsc b f t l n (a + 1) (s && decide (a < t) && decide (b a = c)) := rfl
    have nx : fX2_wordNumber_L11 N (nI f) (nI t) (nI (n + 1)) (nI f) (1 : Int32) (nI (i + 1)) M = some (wsc b f t l (n + 1) f true, M) := ih (i + 1) (n + 1) f N true hl' (by omega) (by omega) (by omega) (by omega)
    have n0 : fX2_wordNumber_L11 N (nI f) (nI t) (nI n) (nI (a + 1)) (0 : Int32) (nI (i + 1)) M = some (wsc b f t l n (a + 1) false, M) := ih (i + 1) n (a + 1) N false hl' (by omega) (by omega) (by omega) (by omega)
    have n1 : fX2_wordNumber_L11 N (nI f) (nI t) (nI n) (nI (a + 1)) (1 : Int32) (nI (i + 1)) M = some (wsc b f t l n (a + 1) true, M) := ih (i + 1) n (a + 1) N true hl' (by omega) (by omega) (by omega) (by omega)
    rw [e]
    show fX2_wordNumber_B11 _ _ _ _ _ _ _ M = _
    unfold fX2_wordNumber_B11
    rw [zB_s (len_w M), if_neg (by rw [nI_leI (by omega) (by omega)]; omega), zB_s (chr_w (show i < 55 by omega) M), hc]
    by_cases c32 : c = 32
    · rw [if_pos c32, if_pos c32]
      cases s with
      | false =>
        rw [if_pos (show (if false = true then (1 : Int32) else 0) = 0 from rfl), if_neg (show ¬ (false = true ∧ a = t) from fun q => absurd q.1 (by decide)), zL_r, zL_r, nI_1, nI_1]
        exact nx
      | true =>
        rw [if_neg (show ¬ (if true = true then (1 : Int32) else 0) = 0 by decide)]
        by_cases ea : a = t
        · rw [if_pos (show nI a = nI t by rw [ea]), if_pos ⟨rfl, ea⟩]
        · rw [if_neg (fun q => ea ((nI_eq (by omega) (by omega)).mp q)), if_neg (fun q => ea q.2), zL_r, zL_r, nI_1, nI_1]
          exact nx
    · rw [if_neg c32, if_neg c32]
      cases s with
      | false =>
        rw [if_pos (show (if false = true then (1 : Int32) else 0) = 0 from rfl), zL_r, zL_r, nI_1, nI_1]
        exact n0
      | true =>
        rw [if_neg (show ¬ (if true = true then (1 : Int32) else 0) = 0 by decide)]
        by_cases la : a < t
        · rw [if_neg (by rw [nI_leI (by omega) (by omega)]; omega), zG_t (zin_nI (show a < 160 by omega) (by decide)), nIc (by omega), hb a (by omega)]
          by_cases eb : b a = c
          · rw [if_pos eb, decide_eq_true la, decide_eq_true eb, zL_r, zL_r, nI_1, nI_1]
            exact n1
          · rw [if_neg eb, decide_eq_true la, decide_eq_false eb, zL_r, zL_r, nI_1, nI_1]
            exact n0
        · rw [if_pos ((nI_leI (by omega) (by omega)).mpr (by omega)), decide_eq_false la, zL_r, zL_r, nI_1, nI_1]
          exact n0
def mW (b : Nat → Int32) (t : Nat) : List Int32 → Nat → Bool
  | [] => fun a => decide (a = t)
  | c :: w => fun a => decide (a < t) && decide (b a = c) && mW b t w (a + 1)
theorem wsc_w (b : Nat → Int32) (f t : Nat) : ∀ (w : List Int32), (∀ c, c ∈ w → c ≠ 32) → ∀ (l : List Int32) (n a : Nat) (s : Bool), wsc b f t (w ++ 32 :: l) n a s = if (s && mW b t w a) = true then nI n else wsc b f t l (n + 1) f true
  | [], _, l, n, a, s => by
    show (if (32 : Int32) = 32 then (if s = true ∧ a = t then nI n else wsc b f t l (n + 1) f true) else wsc b f t l n (a + 1) (s && decide (a < t) && decide (b a = 32))) = _
    rw [if_pos rfl]
    have e : (s && mW b t [] a) = true ↔ s = true ∧ a = t := by
      rw [Bool.and_eq_true]
      show s = true ∧ decide (a = t) = true ↔ _
      rw [decide_eq_true_eq]
    by_cases c : s = true ∧ a = t
    · rw [if_pos c, if_pos (e.mpr c)]
    · rw [if_neg c, if_neg (fun q => c (e.mp q))]
  | c :: w, hw, l, n, a, s => by
    show (if c = 32 then (if s = true ∧ a = t then nI n else wsc b f t (w ++ 32 :: l) (n + 1) f true) else wsc b f t (w ++ 32 :: l) n (a + 1) (s && decide (a < t) && decide (b a = c))) = _
    rw [if_neg (hw c (by simp)), wsc_w b f t w (fun x hx => hw x (List.mem_cons_of_mem _ hx)) l n (a + 1)]
    have e : (s && mW b t (c :: w) a) = (s && decide (a < t) && decide (b a = c) && mW b t w (a + 1)) := by
      show (s && (decide (a < t) && decide (b a = c) && mW b t w (a + 1))) = _
      rw [← Bool.and_assoc, ← Bool.and_assoc]
    rw [e]
theorem mW_ls (b : Nat → Int32) (t : Nat) : ∀ (w : List Int32) (a : Nat), a ≤ t → (mW b t w a = true ↔ lsF b (t - a) a = w)
  | [], a, ha => by
    show decide (a = t) = true ↔ _
    rw [decide_eq_true_eq]
    constructor
    · intro h
      rw [h, Nat.sub_self]; rfl
    · intro h
      cases hk : t - a with
      | zero => omega
      | succ k => rw [hk] at h; exact absurd h (by unfold lsF; simp)
  | c :: w, a, ha => by
    show (decide (a < t) && decide (b a = c) && mW b t w (a + 1)) = true ↔ _
    rw [Bool.and_eq_true, Bool.and_eq_true, decide_eq_true_eq, decide_eq_true_eq]
    by_cases h : a < t
    · obtain ⟨k, hk⟩ : ∃ k, t - a = k + 1 := ⟨t - a - 1, by omega⟩
      rw [hk, mW_ls b t w (a + 1) (by omega), show t - (a + 1) = k by omega]
      show _ ↔ b a :: lsF b k (a + 1) = c :: w
      rw [List.cons.injEq]
      exact ⟨fun q => ⟨q.1.2, q.2⟩, fun q => ⟨⟨h, q.1⟩, q.2⟩⟩
    · rw [show t - a = 0 by omega]
      exact ⟨fun q => absurd q.1.1 h, fun q => by
        have : lsF b 0 a = [] := rfl
        rw [this] at q
        cases q⟩
def flatW : List (List Int32) → List Int32
  | [] => []
  | w :: ws => w ++ 32 :: flatW ws
theorem wsX_f : wsX = flatW wW := by decide
theorem wsc_f (b : Nat → Int32) {f t : Nat} (hf : f ≤ t) : ∀ (ws : List (List Int32)) (n : Nat), (∀ w, w ∈ ws → ∀ c, c ∈ w → c ≠ 32) → wsc b f t (flatW ws) n f true = if wdA (lsF b (t - f) f) ws n = n + ws.length then -1 else nI (wdA (lsF b (t - f) f) ws n)
  | [], n, _ => by
    show (-1 : Int32) = if n = n + 0 then -1 else nI n
    rw [if_pos (by omega)]
  | w :: ws, n, h => by
    show wsc b f t (w ++ 32 :: flatW ws) n f true = _
    have e : wdA (lsF b (t - f) f) (w :: ws) n = if lsF b (t - f) f = w then n else wdA (lsF b (t - f) f) ws (n + 1) := rfl
    rw [wsc_w b f t w (h w (by simp)), e, Bool.true_and]
    simp only [List.length_cons]
    by_cases c : lsF b (t - f) f = w
    · rw [if_pos ((mW_ls b t w f hf).mpr c), if_pos c, if_neg (by omega)]
    · rw [if_neg (fun q => c ((mW_ls b t w f hf).mp q)), if_neg c, wsc_f b hf ws (n + 1) (fun x hx => h x (List.mem_cons_of_mem _ hx)), show n + 1 + ws.length = n + (ws.length + 1) by omega]
theorem wW_32 : ∀ w, w ∈ wW → ∀ c, c ∈ w → c ≠ 32 := by decide
theorem wnum_e {z : Nat} {b : Nat → Int32} (hz : z ≤ 160) {f t : Nat} (hf : f ≤ t) (ht : t ≤ z) {M : zM} (hb : ∀ j, j < z → M.1 3 j = b j) : fX2_wordNumber (nI f) (nI t) M = some ((if wd (lsF b (t - f) f) = 12 then -1 else nI (wd (lsF b (t - f) f))), M) := by
  have h := wsc_m hz hf ht hb wsX 0 0 f zF true rfl rfl (by unfold zF; decide) (by omega) (by omega)
  rw [wsX_f, wsc_f b hf wW 0 wW_32] at h
  exact h
/-! a word, a sign, the end -/
theorem cword {z : Nat} {b : Nat → Int32} (hz : z ≤ 160) {f : Nat} : ∀ (n p N : Nat) (M : zM), z - p ≤ n → n < N → cPre z b M p → M.1 2 7 = nI f → f ≤ p → ∃ M', fX2_nextWord_L0 N M = fX2_nextWord_J35 M' ∧ cPre z b M' (scn isLt b z 160 p) ∧ M'.1 2 7 = nI f ∧ cNx M M' := by
  intro n
  induction n with
  | zero =>
    intro p N M hn hN h h7 hf
    obtain ⟨N, rfl⟩ : ∃ q, N = q + 1 := ⟨N - 1, by omega⟩
    obtain ⟨h1, h2, h3, h4⟩ := id h
    rw [scn_no (fun c => by omega)]
    refine ⟨M, ?_, h, h7, cNx_refl _⟩
    show fX2_nextWord_B0 _ M = _
    unfold fX2_nextWord_B0
    rw [h1, h3, if_pos ((nI_leI (by omega) (by omega)).mpr (by omega))]
  | succ n ih =>
    intro p N M hn hN h h7 hf
    obtain ⟨N, rfl⟩ : ∃ q, N = q + 1 := ⟨N - 1, by omega⟩
    obtain ⟨h1, h2, h3, h4⟩ := id h
    have hU : fX2_nextWord_L0 (N + 1) M = fX2_nextWord_B0 (fX2_nextWord_L0 N) M := rfl
    rw [hU]
    unfold fX2_nextWord_B0
    rw [h1, h3]
    by_cases c : p < z
    rotate_left
    · rw [scn_no (fun q => c q.1), if_pos ((nI_leI (by omega) (by omega)).mpr (by omega))]
      exact ⟨M, rfl, h, h7, cNx_refl _⟩
    rw [if_neg (by rw [nI_leI (by omega) (by omega)]; omega), zB_s (isLt_i hz h2 c)]
    by_cases d : isLt (b p) = true
    rotate_left
    · rw [if_neg d, if_pos rfl, scn_no (fun q => d q.2)]
      exact ⟨M, rfl, h, h7, cNx_refl _⟩
    rw [if_pos d, if_neg (show ¬ (1 : Int32) = 0 by decide), h3, nI_1, zL_r, scn_go ⟨c, d⟩ hz]
    obtain ⟨M', g1, g2, g3, g4⟩ := ih (p + 1) N (zu M 2 5 (nI (p + 1))) (by omega) (by omega) (cPre_5 h (by omega)) (by rw [zu_other _ _ (by decide)]; exact h7) (by omega)
    exact ⟨M', g1, g2, g3, cNx_trans (cNx_zu _ (by decide) _) g4⟩
/-- where in the signs a byte stands -/
def sch (c : Int32) : List Int32 → Nat → Int32
  | [] => fun _ => -1
  | x :: l => fun i => if x = c then nI i else sch c l (i + 1)
theorem sch_m (c : Int32) (M : zM) : ∀ (l : List Int32) (i N : Nat), sgX.drop i = l → i + l.length = 8 → l.length < N → fJ1_indexOfChar_4cfef_L7 2 N (nI 8) c (nI i) M = some (sch c l i, M) := by
  intro l
  induction l with
  | nil =>
    intro i N hl hi hN
    obtain ⟨N, rfl⟩ : ∃ q, N = q + 1 := ⟨N - 1, by simp at hN; omega⟩
    simp only [List.length_nil] at hi
    show fJ1_indexOfChar_4cfef_B7 _ _ _ _ _ M = _
    unfold fJ1_indexOfChar_4cfef_B7
    rw [if_pos ((nI_leI (by omega) (by omega)).mpr (by omega))]
    rfl
  | cons x l ih =>
    intro i N hl hi hN
    simp only [List.length_cons] at hi hN
    obtain ⟨N, rfl⟩ : ∃ q, N = q + 1 := ⟨N - 1, by omega⟩
    have hc : sgX.getD i 0 = x := by
      have e : (sgX.drop i).getD 0 0 = x := by rw [hl]; rfl
      rw [List.getD_eq_getElem?_getD, List.getElem?_drop, Nat.add_zero] at e
      rw [List.getD_eq_getElem?_getD]
      exact e
    have hl' : sgX.drop (i + 1) = l := by
      rw [← List.tail_drop, hl]
      rfl
    have e : sch c (x :: l) i = if x = c then nI i else sch c l (i + 1) := rfl
    rw [e]
    show fJ1_indexOfChar_4cfef_B7 _ _ _ _ _ M = _
    unfold fJ1_indexOfChar_4cfef_B7
    rw [if_neg (by rw [nI_leI (by omega) (by omega)]; omega), sgX_e, nIc (by omega), hc]
    rw [zG_t (show zin (nI i) (zSl.getD 2 0) = true from zin_nI (show i < 8 by omega) (by decide))]
    by_cases d : x = c
    · rw [if_pos d, if_pos d]
    · rw [if_neg d, if_neg d, zL_r, nI_1]
      exact ih (i + 1) N hl' (by omega) (by omega)
theorem sch_s : ∀ n, n < 256 → (sch (zi2b (zi2c (nI n))) sgX 0 < 0 ↔ ¬ isSg (nI n) = true) := by decide +kernel
theorem enc_s : ∀ n, n < 256 → ¬ zi2c (nI n) < 0 ∧ ¬ (255 : Int32) < zi2c (nI n) := by decide +kernel
theorem len_s (M : zM) : fJ0_length_8abf5 2 M = some (nI 8, M) := by
  unfold fJ0_length_8abf5 fJ0_coder_7d493
  show some (zshr (Int32.ofNat (zSl.getD 2 0)) (0 : Int32), M) = _
  rw [show zshr (Int32.ofNat (zSl.getD 2 0)) (0 : Int32) = nI 8 by decide]
theorem idx_s {n : Nat} (hn : n < 256) (M : zM) : fJ0_indexOf_0f7a4 2 (zi2c (nI n)) M = some (sch (zi2b (zi2c (nI n))) sgX 0, M) := by
  obtain ⟨e1, e2⟩ := enc_s n hn
  have h := sch_m (zi2b (zi2c (nI n))) M sgX 0 zF rfl rfl (by unfold zF; decide)
  have h1 : fJ1_indexOfChar_4cfef 2 (zi2c (nI n)) (0 : Int32) (nI 8) M = some (sch (zi2b (zi2c (nI n))) sgX 0, M) := by
    unfold fJ1_indexOfChar_4cfef
    rw [zL_r]
    exact h
  have h2 : fJ1_canEncode_9a6ad (zi2c (nI n)) M = some (1, M) := by
    unfold fJ1_canEncode_9a6ad
    rw [if_neg e1, if_neg e2]
  have h3 : fJ1_indexOf_4cfef 2 (zi2c (nI n)) (0 : Int32) (nI 8) M = some (sch (zi2b (zi2c (nI n))) sgX 0, M) := by
    unfold fJ1_indexOf_4cfef
    rw [zB_s h2, if_neg (show ¬ (1 : Int32) = 0 by decide), show zmax (0 : Int32) 0 = 0 by decide, show zmin (nI 8) (Int32.ofNat (zSl.getD 2 0)) = nI 8 by decide, zL_r, zL_r, if_pos (show (0 : Int32) < nI 8 by decide), zB_s h1]
  have h4 : fJ0_indexOf_7cf53 2 (zi2c (nI n)) (0 : Int32) M = some (sch (zi2b (zi2c (nI n))) sgX 0, M) := by
    unfold fJ0_indexOf_7cf53 fJ0_isLatin1_aae02
    rw [zB_s rfl, if_neg (show ¬ (1 : Int32) = 0 by decide), zB_s (len_s M), zB_s h3]
  unfold fJ0_indexOf_0f7a4
  rw [zB_s h4]
theorem cnext {z : Nat} {b : Nat → Int32} (hz : z ≤ 160) (hb : ∀ j, j < z → 0 ≤ b j ∧ b j ≤ 255) {p : Nat} {M : zM} (h : cPre z b M p) : ∃ M', fX2_next M = some M' ∧ cLx z b M' (lx b z p) ∧ cNx M M' := by
  obtain ⟨M1, q1, q2, q3⟩ := cblank hz z p zF M (by omega) (by unfold zF; omega) h
  obtain ⟨f, hf⟩ : ∃ f, scn isBl b z 160 p = f := ⟨_, rfl⟩
  rw [hf] at q2
  obtain ⟨M2, e2⟩ : ∃ M2, M2 = zu M1 2 7 (nI f) := ⟨_, rfl⟩
  obtain ⟨h1, h2, h3, h4⟩ := id q2
  have p2 : cPre z b M2 f := by rw [e2]; exact ⟨by rw [zu_other _ _ (by decide)]; exact h1, fun j hj => by rw [zu_row _ (by decide)]; exact h2 j hj, by rw [zu_other _ _ (by decide)]; exact h3, h4⟩
  have n2 : cNx M M2 := cNx_trans q3 (by rw [e2]; exact cNx_zu _ (by decide) _)
  have s7 : M2.1 2 7 = nI f := by rw [e2, zu_same]
  obtain ⟨k1, k2, k3, k4⟩ := id p2
  have hN : fX2_next M = fX2_next_J52 M1 := by
    unfold fX2_next
    exact q1
  rw [hN]
  unfold fX2_next_J52
  rw [h3, ← e2, zL_r, k3, k1]
  by_cases c : z ≤ f
  · rw [if_neg (by rw [nI_ltI (by omega) (by omega)]; omega), zL_r, lx_0 (by rw [hf]; exact c), hf]
    exact ⟨_, rfl, ⟨by rw [zu_other _ _ (by decide)]; exact k1, fun j hj => by rw [zu_row _ (by decide)]; exact k2 j hj, by rw [zu_other _ _ (by decide)]; exact s7, by rw [zu_other _ _ (by decide)]; exact k3, by rw [zu_same]; rfl, fun q => by omega⟩, cNx_trans n2 (cNx_zu _ (by decide) _)⟩
  have hlt : f < z := by omega
  rw [if_pos ((nI_ltI (by omega) (by omega)).mpr hlt), zB_s (isDg_i hz k2 hlt)]
  by_cases hd : isDg (b f) = true
  · rw [if_pos hd, if_neg (show ¬ (1 : Int32) = 0 by decide)]
    obtain ⟨t, ht⟩ : ∃ t, scn isDg b z 160 f = t := ⟨_, rfl⟩
    have p3 : cPre z b (zu M2 2 8 0) f := ⟨by rw [zu_other _ _ (by decide)]; exact k1, fun j hj => by rw [zu_row _ (by decide)]; exact k2 j hj, by rw [zu_other _ _ (by decide)]; exact k3, k4⟩
    obtain ⟨M', g1, g2, g3⟩ := cnum hz (f := f) z f zF (zu M2 2 8 0) (by omega) (by unfold zF; omega) p3 (by rw [zu_other _ _ (by decide)]; exact s7) (Nat.le_refl _) (by rw [zu_same, Nat.sub_self]; rfl)
    rw [ht] at g2
    have hn : fX2_nextNumber M2 = some M' := by
      unfold fX2_nextNumber
      rw [zL_r]
      exact g1
    rw [zV_s hn, lx_d hf hlt hd ht]
    exact ⟨M', rfl, g2, cNx_trans n2 (cNx_trans (cNx_zu _ (by decide) _) g3)⟩
  rw [if_neg hd, if_pos rfl, k3, zB_s (isLt_i hz k2 hlt)]
  by_cases hl : isLt (b f) = true
  · rw [if_pos hl, if_neg (show ¬ (1 : Int32) = 0 by decide)]
    obtain ⟨t, ht⟩ : ∃ t, scn isLt b z 160 f = t := ⟨_, rfl⟩
    obtain ⟨M3, g1, g2, g3, g4⟩ := cword hz (f := f) z f zF M2 (by omega) (by unfold zF; omega) p2 s7 (Nat.le_refl _)
    rw [ht] at g2
    obtain ⟨w1, w2, w3, w4⟩ := id g2
    have hft : f ≤ t := by have := (scn_p isLt b z 160 f).1; omega
    obtain ⟨w, hw⟩ : ∃ w, wd (lsF b (t - f) f) = w := ⟨_, rfl⟩
    have hwl := wd_le (lsF b (t - f) f)
    have wn := wnum_e hz hft w4 w2
    rw [hw] at wn
    rw [lx_l hf hlt hd hl ht hw]
    have hJ : ∃ M', fX2_nextWord_J35 M3 = some M' ∧ cLx z b M' (if w = 12 then 1 else if w < 6 then 3 else w - 2, if w < 6 then w else 0, f, t) ∧ cNx M3 M' := by
      have mk : ∀ (v : Int32) (k : Nat), (k = 2 ∨ k = 3 → v = nI (if w < 6 then w else 0)) → cLx z b (zu (zu M3 2 8 v) 2 6 (nI k)) (k, if w < 6 then w else 0, f, t) ∧ cNx M3 (zu (zu M3 2 8 v) 2 6 (nI k)) := fun v k hv => ⟨⟨by rw [zu_other _ _ (by decide), zu_other _ _ (by decide)]; exact w1, fun j hj => by rw [zu_row _ (by decide), zu_row _ (by decide)]; exact w2 j hj, by rw [zu_other _ _ (by decide), zu_other _ _ (by decide)]; exact g3, by rw [zu_other _ _ (by decide), zu_other _ _ (by decide)]; exact w3, by rw [zu_same], fun q => by rw [zu_other _ _ (by decide), zu_same]; exact hv q⟩, cNx_trans (cNx_zu _ (by decide) _) (cNx_zu _ (by decide) _)⟩
      unfold fX2_nextWord_J35
      rw [g3, w3, zB_s wn, zL_r, zu_same]
      by_cases c12 : w = 12
      · rw [if_pos c12, if_pos rfl, zL_r, if_pos c12]
        exact ⟨_, rfl, mk (-1) 1 (fun q => by omega)⟩
      rw [if_neg c12, if_neg (ne_m1 (by omega)), if_neg c12]
      by_cases c6 : w < 6
      · rw [if_neg (by rw [show (6 : Int32) = nI 6 from rfl, nI_leI (by omega) (by omega)]; omega), zL_r]
        have q := mk (nI w) 3 (fun _ => by rw [if_pos c6])
        rw [if_pos c6] at q ⊢
        rw [if_pos c6]
        exact ⟨_, rfl, q⟩
      · rw [if_pos (by rw [show (6 : Int32) = nI 6 from rfl, nI_leI (by omega) (by omega)]; omega), show (4 : Int32) + nI w - (6 : Int32) = nI (w - 2) by rw [show (4 : Int32) = nI 4 from rfl, show (6 : Int32) = nI 6 from rfl, nI_add, pk_sub (by omega), show 4 + w - 6 = w - 2 by omega], zL_r]
        have q := mk (nI w) (w - 2) (fun q => by omega)
        rw [if_neg c6] at q ⊢
        rw [if_neg c6]
        exact ⟨_, rfl, q⟩
    obtain ⟨M', j1, j2, j3⟩ := hJ
    have hn : fX2_nextWord M2 = some M' := by
      unfold fX2_nextWord
      rw [g1, j1]
    rw [zV_s hn]
    exact ⟨M', rfl, j2, cNx_trans n2 (cNx_trans g4 j3)⟩
  -- a sign, or none
  rw [if_neg hl, if_pos rfl, k3, zG_t (zin_nI (show f < 160 by omega) (by decide)), nIc (by omega), k2 f hlt]
  obtain ⟨n, -, hn, en⟩ := i32_in (a := 0) (b := 255) (hb f hlt).1 (hb f hlt).2 (by omega) (by omega)
  have ss := sch_s n (by omega)
  have ix := idx_s (show n < 256 by omega) M2
  rw [← en] at ss ix
  rw [zB_s ix, lx_g hf hlt hd hl]
  by_cases g : isSg (b f) = true
  · rw [if_neg (fun q => (ss.mp q) g), if_pos g, k3, zG_t (zin_nI (show f < 160 by omega) (by decide)), nIc (by omega), k2 f hlt, zL_r, zu_other _ _ (show (5 : Nat) ≠ 6 by decide), k3, nI_1, zL_r]
    refine ⟨_, rfl, ⟨by rw [zu_other _ _ (by decide), zu_other _ _ (by decide)]; exact k1, fun j hj => by rw [zu_row _ (by decide), zu_row _ (by decide)]; exact k2 j hj, by rw [zu_other _ _ (by decide), zu_other _ _ (by decide)]; exact s7, by rw [zu_same], ?_, fun q => ?_⟩, cNx_trans n2 (cNx_trans (cNx_zu _ (by decide) _) (cNx_zu _ (by decide) _))⟩
    · rw [zu_other _ _ (by decide), zu_same, en]
      show _ = nI ((nI n).toNatClampNeg)
      rw [nIc (by omega)]
    · have q' : (b f).toNatClampNeg = 2 ∨ (b f).toNatClampNeg = 3 := q
      rcases isSg_n g with w | w | w | w | w | w | w | w <;> rw [w] at q' <;> exact absurd q' (by decide)
  · rw [if_pos (ss.mpr g), if_neg g, zL_r, zu_other _ _ (show (5 : Nat) ≠ 6 by decide), k3, nI_1, zL_r]
    exact ⟨_, rfl, ⟨by rw [zu_other _ _ (by decide), zu_other _ _ (by decide)]; exact k1, fun j hj => by rw [zu_row _ (by decide), zu_row _ (by decide)]; exact k2 j hj, by rw [zu_other _ _ (by decide), zu_other _ _ (by decide)]; exact s7, by rw [zu_same], by rw [zu_other _ _ (by decide), zu_same]; rfl, fun q => by omega⟩, cNx_trans n2 (cNx_trans (cNx_zu _ (by decide) _) (cNx_zu _ (by decide) _))⟩
theorem hNX_lx {z : Nat} {b : Nat → Int32} (hz : z ≤ 160) (hb : ∀ j, j < z → 0 ≤ b j ∧ b j ≤ 255) : hNX z b (lxT b z) := by
  intro i M h hk
  obtain ⟨h1, h2, h3, h4, h5, h6⟩ := h
  exact cnext hz hb (p := psT b z (i + 1)) ⟨h1, h2, h4, psT_le hz (i + 1)⟩

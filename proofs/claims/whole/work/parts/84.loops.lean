/-! texts: by induction on the reader's depth -/
def pOne (k _cmp st : Nat) (_W : List Int32) : Prop := st = 0 ∨ k ≠ 9
def pTerm (k _cmp st : Nat) (W : List Int32) : Prop := tpl 6 W ∧ (st = 0 ∨ k ≠ 9)
def pSum (k _cmp st : Nat) (W : List Int32) : Prop := tpl 5 W ∧ (st = 0 ∨ k ≠ 9)
def pDen (_k cmp st : Nat) (W : List Int32) : Prop := tpl 4 W ∧ st = 1 ∧ cmp = 0
def pBoth (_k cmp st : Nat) (W : List Int32) : Prop := tpl 2 W ∧ st = 1 ∧ cmp = 0
def pEi (_k cmp st : Nat) (W : List Int32) : Prop := tpl 1 W ∧ st = 1 ∧ cmp = 0
def qOne (_k c c' : Nat) : Prop := c' = c
def qTerm (k c c' : Nat) : Prop := c' = c ∧ k ≠ 42
def qSum (k c c' : Nat) : Prop := c' = c ∧ k ≠ 42 ∧ k ≠ 43 ∧ k ≠ 45
def qDen (k _c c' : Nat) : Prop := k ≠ 42 ∧ k ≠ 43 ∧ k ≠ 45 ∧ (k = 60 ∨ k = 61 → c' = 1)
def qBoth (k c c' : Nat) : Prop := qDen k c c' ∧ k ≠ 8
def qEi (k c c' : Nat) : Prop := qDen k c c' ∧ k ≠ 8 ∧ k ≠ 7
theorem zF_1 : zF = 99999 + 1 := rfl
theorem Aft_len {z : Nat} {b : Nat → Int32} {T : zTk} {q : Int32} {base k : Nat} {PO : Nat → Nat → Nat → Prop} {i j : Nat} {K C W : List Int32} {cmp : Nat} {M MM0 : zM} {E : List Int32} (h : Aft z b T q base k PO i j K C W cmp M MM0 E) (hK : K.length ≤ i) : (K ++ E.map dM).length ≤ j + 1 ∧ i < j ∧ j ≤ 160 ∧ M.1 2 6 = nI (tk T j) ∧ ∃ c, PO (tk T j) cmp c := by
  obtain ⟨MM, C', W', cmp', st', a1, a2, a3, a4, a5, a6, a7, a8, a9, a10⟩ := h
  refine ⟨?_, a7.1, a7.2.2, a1.1.2.2.2.2.1, cmp', a10⟩
  simp only [List.length_append, List.length_map]
  omega
theorem tk_c {T : zTk} (hT : okTk T) {j : Nat} {M : zM} (h : M.1 2 6 = nI (tk T j)) {n : Nat} {x : Int32} (hx : x = nI n) (hn : n < 100) : M.1 2 6 = x ↔ tk T j = n := by
  have hk : tk T j < 2 ^ 31 := by
    rcases (hT j).1 with q | q | q | q | q | q | q | q | q <;> omega
  rw [h, hx, nI_eq hk (by omega)]
theorem term_stop (g : Int32 → zM → Option (Int32 × zM)) (N : Nat) (x c : Int32) (M : zM) : fX2_readTerm_L8 g (N + 1) x 0 c M = some (0, M) := by
  show fX2_readTerm_B8 _ _ _ _ _ M = _
  unfold fX2_readTerm_B8
  by_cases h : (160 : Int32) ≤ c
  · rw [if_pos h, zG_t zbo_0]
  · rw [if_neg h, if_pos rfl, zG_t zbo_0]
theorem term_loop {z : Nat} {b : Nat → Int32} {T : zTk} (hX : hNX z b T) (hN : hNM z b T) (hT : okTk T) {q : Int32} {base o : Nat} {g : Int32 → zM → Option (Int32 × zM)} (hg : Rd z b T q base g o 7 pOne qOne) {i : Nat} {K C W : List Int32} {cmp : Nat} (hK : K.length ≤ i) (hW : tpl 6 W) (hop : opn W = o) {MM0 : zM} : ∀ (n j c N : Nat) (E : List Int32) (M : zM), 160 - j ≤ n → n < N → 2 * c + i + 1 ≤ j → Aft z b T q base 6 qOne i j K C W cmp M MM0 E → ∃ r M' j', fX2_readTerm_L8 g N (nI o) 1 (nI c) M = some (r, M') ∧ cF M M' ∧ Res z b T q base 6 qTerm i j' K C W cmp M' MM0 r := by
  intro n
  induction n with
  | zero =>
    intro j c N E M hn hN1 hc hA
    obtain ⟨N, rfl⟩ : ∃ q, N = q + 1 := ⟨N - 1, by omega⟩
    obtain ⟨b1, b2, b3, b4, cc, b5⟩ := Aft_len hA hK
    have hno : ¬ tk T j = 42 := fun e => by have := (hT j).2.2.2 (by omega); omega
    refine ⟨1, M, j, ?_, cF_refl _, Res_of hW hA (fun c hq => ?_)⟩
    · show fX2_readTerm_B8 _ _ _ _ _ M = _
      unfold fX2_readTerm_B8
      rw [if_neg (by rw [show (160 : Int32) = nI 160 from rfl, nI_leI (by omega) (by omega)]; omega), if_neg (show ¬ (1 : Int32) = 0 by decide), if_neg (fun e => hno ((tk_c hT b4 (x := 42) (n := 42) rfl (by omega)).mp e)), zG_t zbo_1]
    · exact ⟨hq, hno⟩
  | succ n ih =>
    intro j c N E M hn hN1 hc hA
    obtain ⟨N, rfl⟩ : ∃ q, N = q + 1 := ⟨N - 1, by omega⟩
    obtain ⟨b1, b2, b3, b4, cc, b5⟩ := Aft_len hA hK
    have hU : fX2_readTerm_L8 g (N + 1) (nI o) 1 (nI c) M = fX2_readTerm_B8 g (fX2_readTerm_L8 g N) (nI o) 1 (nI c) M := rfl
    rw [hU]
    unfold fX2_readTerm_B8
    rw [if_neg (by rw [show (160 : Int32) = nI 160 from rfl, nI_leI (by omega) (by omega)]; omega), if_neg (show ¬ (1 : Int32) = 0 by decide)]
    by_cases hno : tk T j = 42
    rotate_left
    · rw [if_neg (fun e => hno ((tk_c hT b4 (x := 42) (n := 42) rfl (by omega)).mp e)), zG_t zbo_1]
      exact ⟨1, M, j, rfl, cF_refl _, Res_of hW hA (fun c hq => ⟨hq, hno⟩)⟩
    rw [if_pos ((tk_c hT b4 (x := 42) (n := 42) rfl (by omega)).mpr hno)]
    obtain ⟨M1, MM1, cmp', s1, s2, s3, s4, s5, s6, s7⟩ := bin_step hX hN hT hA (s := 8) (fun c _ => by rw [hno]; rfl) (by decide) (by decide) (by omega) (by omega)
    obtain ⟨r2, M2, j2, g1, g2, g3⟩ := hg (j + 1) _ M1 MM1 _ _ _ _ s3 ⟨b1, by have := (hT j).2.2.2 (by omega); omega⟩ s4 (by decide) (by show opn W + 0 = o; omega) (Or.inl (by decide))
    rw [zV_s s1, zB_s g1]
    rcases g3 with ⟨e2, E2, hE2⟩ | ⟨e2, K', f1, f2⟩
    · obtain ⟨M3, E3, t1, t2, t3⟩ := bin_aft (PO3 := qOne) hA hK (s := 8) (by decide) (by omega) hW s5 s6 ⟨E2, hE2⟩ (fun c hq => by have e : cmp' = cmp := s7; have e2 : c = cmp' := hq; exact e2.trans e) (by decide) (by decide) (by decide)
      have t1' : fX2_emit (20042 : Int32) M2 = some M3 := t1
      obtain ⟨b1', b2', b3', -⟩ := Aft_len t3 hK
      obtain ⟨-, -, -, -, -, -, -, -, -, -, -, hj2, -⟩ := hE2
      obtain ⟨r, M', j', l1, l2, l3⟩ := ih j2 (c + 1) N E3 M3 (by omega) (by omega) (by omega) t3
      rw [zV_s t1', zL_r, nI_1, e2]
      exact ⟨r, M', j', l1, cF_trans (cF_trans (cF_trans s2 g2) t2) l2, l3⟩
    · obtain ⟨M3, K3, t1, t2, t3⟩ := emit_any f1 (20042 : Int32)
      obtain ⟨N, rfl⟩ : ∃ q, N = q + 1 := ⟨N - 1, by omega⟩
      rw [zV_s t1, zL_r, e2, term_stop]
      exact ⟨0, M3, j2, rfl, cF_trans (cF_trans s2 g2) t3, Or.inr ⟨rfl, K3, t2, runs_fails s5 s6 f2⟩⟩
theorem term_rd {z : Nat} {b : Nat → Int32} {T : zTk} (hX : hNX z b T) (hN : hNM z b T) (hT : okTk T) {q : Int32} {base o : Nat} {g : Int32 → zM → Option (Int32 × zM)} (hg : Rd z b T q base g o 7 pOne qOne) : Rd z b T q base (fX2_readTerm g) o 6 pTerm qTerm := by
  intro i K M MM C W cmp st hc hK hr hst hop hp
  obtain ⟨r, M1, j, g1, g2, g3⟩ := hg i K M MM C W cmp st hc hK hr hst hop hp.2
  unfold fX2_readTerm
  rw [zB_s g1, zF_1]
  rcases Aft_of (k := 6) (by omega) hp.1 g3 with ⟨e1, E, hA⟩ | ⟨e1, hF⟩
  · have hb := Aft_len hA hK.1
    obtain ⟨r', M', j', l1, l2, l3⟩ := term_loop hX hN hT hg hK.1 hp.1 hop 160 j 0 (99999 + 1) E M1 (by omega) (by omega) (by omega) hA
    have l1' : fX2_readTerm_L8 g (99999 + 1) (nI o) 1 (0 : Int32) M1 = some (r', M') := l1
    rw [e1]
    exact ⟨r', M', j', l1', cF_trans g2 l2, l3⟩
  · rw [e1, term_stop]
    exact ⟨0, M1, j, rfl, g2, Or.inr ⟨rfl, hF⟩⟩
theorem sum_stop (g : Int32 → zM → Option (Int32 × zM)) (N : Nat) (x c : Int32) (M : zM) : fX2_readSum_L8 g (N + 1) x 0 c M = some (0, M) := by
  show fX2_readSum_B8 _ _ _ _ _ M = _
  unfold fX2_readSum_B8
  by_cases h : (160 : Int32) ≤ c
  · rw [if_pos h, zG_t zbo_0]
  · rw [if_neg h, if_pos rfl, zG_t zbo_0]
theorem sum_loop {z : Nat} {b : Nat → Int32} {T : zTk} (hX : hNX z b T) (hN : hNM z b T) (hT : okTk T) {q : Int32} {base o : Nat} {g : Int32 → zM → Option (Int32 × zM)} (hg : Rd z b T q base g o 6 pTerm qTerm) {i : Nat} {K C W : List Int32} {cmp : Nat} (hK : K.length ≤ i) (hW : tpl 5 W) (hop : opn W = o) {MM0 : zM} : ∀ (n j c N : Nat) (E : List Int32) (M : zM), 160 - j ≤ n → n < N → 2 * c + i + 1 ≤ j → Aft z b T q base 5 qTerm i j K C W cmp M MM0 E → ∃ r M' j', fX2_readSum_L8 g N (nI o) 1 (nI c) M = some (r, M') ∧ cF M M' ∧ Res z b T q base 5 qSum i j' K C W cmp M' MM0 r := by
  intro n
  induction n with
  | zero =>
    intro j c N E M hn hN1 hc hA
    obtain ⟨N, rfl⟩ : ∃ q, N = q + 1 := ⟨N - 1, by omega⟩
    obtain ⟨b1, b2, b3, b4, cc, b5⟩ := Aft_len hA hK
    have hno : ¬ tk T j = 43 := fun e => by have := (hT j).2.2.2 (by omega); omega
    have hno2 : ¬ tk T j = 45 := fun e => by have := (hT j).2.2.2 (by omega); omega
    refine ⟨1, M, j, ?_, cF_refl _, Res_of hW hA (fun c hq => ?_)⟩
    · show fX2_readSum_B8 _ _ _ _ _ M = _
      unfold fX2_readSum_B8
      rw [if_neg (by rw [show (160 : Int32) = nI 160 from rfl, nI_leI (by omega) (by omega)]; omega), if_neg (show ¬ (1 : Int32) = 0 by decide), if_neg (fun e => hno ((tk_c hT b4 (x := 43) (n := 43) rfl (by omega)).mp e)), if_neg (fun e => hno2 ((tk_c hT b4 (x := 45) (n := 45) rfl (by omega)).mp e)), zG_t zbo_1]
    · exact ⟨hq.1, hq.2, hno, hno2⟩
  | succ n ih =>
    intro j c N E M hn hN1 hc hA
    obtain ⟨N, rfl⟩ : ∃ q, N = q + 1 := ⟨N - 1, by omega⟩
    obtain ⟨b1, b2, b3, b4, cc, b5⟩ := Aft_len hA hK
    have hU : fX2_readSum_L8 g (N + 1) (nI o) 1 (nI c) M = fX2_readSum_B8 g (fX2_readSum_L8 g N) (nI o) 1 (nI c) M := rfl
    rw [hU]
    unfold fX2_readSum_B8
    rw [if_neg (by rw [show (160 : Int32) = nI 160 from rfl, nI_leI (by omega) (by omega)]; omega), if_neg (show ¬ (1 : Int32) = 0 by decide)]
    have J : ∀ t : Nat, tk T j = t → (t = 43 ∨ t = 45) → ∃ r M' j', fX2_readSum_J37 g (fX2_readSum_L8 g N) (nI o) (nI c) M = some (r, M') ∧ cF M M' ∧ Res z b T q base 5 qSum i j' K C W cmp M' MM0 r := by
      intro t hno ht
      obtain ⟨s, hs1, hs2, hs3, hs4, hs5, hs6⟩ : ∃ s : Int32, (∀ c, sgT t c = s) ∧ s ≠ -1 ∧ rkS s = 5 ∧ dM s = 20000 + nI t ∧ (20000 ≤ dM s ∧ dM s < 30000) ∧ (0 ≤ s ∧ s < 10015) ∧ opS s = 0 := by
        rcases ht with rfl | rfl
        · exact ⟨6, fun _ => rfl, by decide, by decide, by decide, by decide, by decide, by decide⟩
        · exact ⟨7, fun _ => rfl, by decide, by decide, by decide, by decide, by decide, by decide⟩
      obtain ⟨M1, MM1, cmp', s1, s2, s3, s4, s5, s6, s7⟩ := bin_step hX hN hT hA (s := s) (fun c _ => by rw [hno]; exact hs1 c) hs2 hs3 (by omega) (by omega)
      obtain ⟨r2, M2, j2, g1, g2, g3⟩ := hg (j + 1) _ M1 MM1 _ _ _ _ s3 ⟨b1, by have := (hT j).2.2.2 (by omega); omega⟩ s4 (by decide) (by show opn W + opS s = o; rw [hs6.2]; exact hop) ⟨tpl_cons (by omega) W, Or.inl (by decide)⟩
      unfold fX2_readSum_J37
      rw [b4, hno, zL_r, zV_s s1, zB_s g1, ← hs4]
      rcases g3 with ⟨e2, E2, hE2⟩ | ⟨e2, K', f1, f2⟩
      · obtain ⟨M3, E3, t1, t2, t3⟩ := bin_aft (PO3 := qTerm) hA hK (s := s) hs3 (by omega) hW s5 s6 ⟨E2, hE2⟩ (fun c hq => by have e : cmp' = cmp := s7.1; have e2 : c = cmp' := hq.1; exact ⟨e2.trans e, hq.2⟩) hs5.1 hs5.2 hs6.1
        obtain ⟨b1', b2', b3', -⟩ := Aft_len t3 hK
        obtain ⟨-, -, -, -, -, -, -, -, -, -, -, hj2, -⟩ := hE2
        obtain ⟨r, M', j', l1, l2, l3⟩ := ih j2 (c + 1) N E3 M3 (by omega) (by omega) (by omega) t3
        rw [zV_s t1, zL_r, nI_1, e2]
        exact ⟨r, M', j', l1, cF_trans (cF_trans (cF_trans s2 g2) t2) l2, l3⟩
      · obtain ⟨M3, K3, t1, t2, t3⟩ := emit_any f1 (dM s)
        have hj0 := (hT j).2.2.2 (by omega)
        obtain ⟨N', hN'⟩ : ∃ q, N = q + 1 := ⟨N - 1, by omega⟩
        rw [zV_s t1, zL_r, e2, hN', sum_stop]
        exact ⟨0, M3, j2, rfl, cF_trans (cF_trans s2 g2) t3, Or.inr ⟨rfl, K3, t2, runs_fails s5 s6 f2⟩⟩
    by_cases hno : tk T j = 43
    · rw [if_pos ((tk_c hT b4 (x := 43) (n := 43) rfl (by omega)).mpr hno)]
      exact J 43 hno (Or.inl rfl)
    rw [if_neg (fun e => hno ((tk_c hT b4 (x := 43) (n := 43) rfl (by omega)).mp e))]
    by_cases hno2 : tk T j = 45
    · rw [if_pos ((tk_c hT b4 (x := 45) (n := 45) rfl (by omega)).mpr hno2)]
      exact J 45 hno2 (Or.inr rfl)
    rw [if_neg (fun e => hno2 ((tk_c hT b4 (x := 45) (n := 45) rfl (by omega)).mp e)), zG_t zbo_1]
    exact ⟨1, M, j, rfl, cF_refl _, Res_of hW hA (fun c hq => ⟨hq.1, hq.2, hno, hno2⟩)⟩
theorem sum_rd {z : Nat} {b : Nat → Int32} {T : zTk} (hX : hNX z b T) (hN : hNM z b T) (hT : okTk T) {q : Int32} {base o : Nat} {g : Int32 → zM → Option (Int32 × zM)} (hg : Rd z b T q base g o 6 pTerm qTerm) : Rd z b T q base (fX2_readSum g) o 5 pSum qSum := by
  intro i K M MM C W cmp st hc hK hr hst hop hp
  obtain ⟨r, M1, j, g1, g2, g3⟩ := hg i K M MM C W cmp st hc hK hr hst hop ⟨tpl_mono hp.1 (by omega), hp.2⟩
  unfold fX2_readSum
  rw [zB_s g1, zF_1]
  rcases Aft_of (k := 5) (by omega) hp.1 g3 with ⟨e1, E, hA⟩ | ⟨e1, hF⟩
  · have hb := Aft_len hA hK.1
    obtain ⟨r', M', j', l1, l2, l3⟩ := sum_loop hX hN hT hg hK.1 hp.1 hop 160 j 0 (99999 + 1) E M1 (by omega) (by omega) (by omega) hA
    have l1' : fX2_readSum_L8 g (99999 + 1) (nI o) 1 (0 : Int32) M1 = some (r', M') := l1
    rw [e1]
    exact ⟨r', M', j', l1', cF_trans g2 l2, l3⟩
  · rw [e1, sum_stop]
    exact ⟨0, M1, j, rfl, g2, Or.inr ⟨rfl, hF⟩⟩
theorem both_stop (g : Int32 → zM → Option (Int32 × zM)) (N : Nat) (x c : Int32) (M : zM) : fX2_readBoth_L8 g (N + 1) x 0 c M = some (0, M) := by
  show fX2_readBoth_B8 _ _ _ _ _ M = _
  unfold fX2_readBoth_B8
  by_cases h : (160 : Int32) ≤ c
  · rw [if_pos h, zG_t zbo_0]
  · rw [if_neg h, if_pos rfl, zG_t zbo_0]
theorem both_loop {z : Nat} {b : Nat → Int32} {T : zTk} (hX : hNX z b T) (hN : hNM z b T) (hT : okTk T) {q : Int32} {base o : Nat} {g : Int32 → zM → Option (Int32 × zM)} (hg : Rd z b T q base g o 3 pDen qDen) {i : Nat} {K C W : List Int32} {cmp : Nat} (hK : K.length ≤ i) (hW : tpl 2 W) (hop : opn W = o) {MM0 : zM} : ∀ (n j c N : Nat) (E : List Int32) (M : zM), 160 - j ≤ n → n < N → 2 * c + i + 1 ≤ j → Aft z b T q base 2 qDen i j K C W cmp M MM0 E → ∃ r M' j', fX2_readBoth_L8 g N (nI o) 1 (nI c) M = some (r, M') ∧ cF M M' ∧ Res z b T q base 2 qBoth i j' K C W cmp M' MM0 r := by
  intro n
  induction n with
  | zero =>
    intro j c N E M hn hN1 hc hA
    obtain ⟨N, rfl⟩ : ∃ q, N = q + 1 := ⟨N - 1, by omega⟩
    obtain ⟨b1, b2, b3, b4, cc, b5⟩ := Aft_len hA hK
    have hno : ¬ tk T j = 8 := fun e => by have := (hT j).2.2.2 (by omega); omega
    refine ⟨1, M, j, ?_, cF_refl _, Res_of hW hA (fun c hq => ?_)⟩
    · show fX2_readBoth_B8 _ _ _ _ _ M = _
      unfold fX2_readBoth_B8
      rw [if_neg (by rw [show (160 : Int32) = nI 160 from rfl, nI_leI (by omega) (by omega)]; omega), if_neg (show ¬ (1 : Int32) = 0 by decide), if_neg (fun e => hno ((tk_c hT b4 (x := 8) (n := 8) rfl (by omega)).mp e)), zG_t zbo_1]
    · exact ⟨hq, hno⟩
  | succ n ih =>
    intro j c N E M hn hN1 hc hA
    obtain ⟨N, rfl⟩ : ∃ q, N = q + 1 := ⟨N - 1, by omega⟩
    obtain ⟨b1, b2, b3, b4, cc, b5⟩ := Aft_len hA hK
    have hU : fX2_readBoth_L8 g (N + 1) (nI o) 1 (nI c) M = fX2_readBoth_B8 g (fX2_readBoth_L8 g N) (nI o) 1 (nI c) M := rfl
    rw [hU]
    unfold fX2_readBoth_B8
    rw [if_neg (by rw [show (160 : Int32) = nI 160 from rfl, nI_leI (by omega) (by omega)]; omega), if_neg (show ¬ (1 : Int32) = 0 by decide)]
    by_cases hno : tk T j = 8
    rotate_left
    · rw [if_neg (fun e => hno ((tk_c hT b4 (x := 8) (n := 8) rfl (by omega)).mp e)), zG_t zbo_1]
      exact ⟨1, M, j, rfl, cF_refl _, Res_of hW hA (fun c hq => ⟨hq, hno⟩)⟩
    rw [if_pos ((tk_c hT b4 (x := 8) (n := 8) rfl (by omega)).mpr hno)]
    obtain ⟨M1, MM1, cmp', s1, s2, s3, s4, s5, s6, s7⟩ := bin_step hX hN hT hA (s := 11) (fun c _ => by rw [hno]; rfl) (by decide) (by decide) (by omega) (by omega)
    obtain ⟨r2, M2, j2, g1, g2, g3⟩ := hg (j + 1) _ M1 MM1 _ _ _ _ s3 ⟨b1, by have := (hT j).2.2.2 (by omega); omega⟩ s4 (by decide) (by show opn W + 0 = o; omega) ⟨tpl_cons (by decide) W, by decide, if_pos (by decide)⟩
    rw [zV_s s1, zB_s g1]
    rcases g3 with ⟨e2, E2, hE2⟩ | ⟨e2, K', f1, f2⟩
    · obtain ⟨M3, E3, t1, t2, t3⟩ := bin_aft (PO3 := qDen) hA hK (s := 11) (by decide) (by omega) hW s5 s6 ⟨E2, hE2⟩ (fun c hq => hq) (by decide) (by decide) (by decide)
      have t1' : fX2_emit (20008 : Int32) M2 = some M3 := t1
      obtain ⟨b1', b2', b3', -⟩ := Aft_len t3 hK
      obtain ⟨-, -, -, -, -, -, -, -, -, -, -, hj2, -⟩ := hE2
      obtain ⟨r, M', j', l1, l2, l3⟩ := ih j2 (c + 1) N E3 M3 (by omega) (by omega) (by omega) t3
      rw [zV_s t1', zL_r, nI_1, e2]
      exact ⟨r, M', j', l1, cF_trans (cF_trans (cF_trans s2 g2) t2) l2, l3⟩
    · obtain ⟨M3, K3, t1, t2, t3⟩ := emit_any f1 (20008 : Int32)
      obtain ⟨N, rfl⟩ : ∃ q, N = q + 1 := ⟨N - 1, by omega⟩
      rw [zV_s t1, zL_r, e2, both_stop]
      exact ⟨0, M3, j2, rfl, cF_trans (cF_trans s2 g2) t3, Or.inr ⟨rfl, K3, t2, runs_fails s5 s6 f2⟩⟩
theorem both_rd {z : Nat} {b : Nat → Int32} {T : zTk} (hX : hNX z b T) (hN : hNM z b T) (hT : okTk T) {q : Int32} {base o : Nat} {g : Int32 → zM → Option (Int32 × zM)} (hg : Rd z b T q base g o 3 pDen qDen) : Rd z b T q base (fX2_readBoth g) o 2 pBoth qBoth := by
  intro i K M MM C W cmp st hc hK hr hst hop hp
  obtain ⟨r, M1, j, g1, g2, g3⟩ := hg i K M MM C W cmp st hc hK hr hst hop ⟨tpl_mono hp.1 (by omega), hp.2⟩
  unfold fX2_readBoth
  rw [zB_s g1, zF_1]
  rcases Aft_of (k := 2) (by omega) hp.1 g3 with ⟨e1, E, hA⟩ | ⟨e1, hF⟩
  · have hb := Aft_len hA hK.1
    obtain ⟨r', M', j', l1, l2, l3⟩ := both_loop hX hN hT hg hK.1 hp.1 hop 160 j 0 (99999 + 1) E M1 (by omega) (by omega) (by omega) hA
    have l1' : fX2_readBoth_L8 g (99999 + 1) (nI o) 1 (0 : Int32) M1 = some (r', M') := l1
    rw [e1]
    exact ⟨r', M', j', l1', cF_trans g2 l2, l3⟩
  · rw [e1, both_stop]
    exact ⟨0, M1, j, rfl, g2, Or.inr ⟨rfl, hF⟩⟩
theorem ei_stop (g : Int32 → zM → Option (Int32 × zM)) (N : Nat) (x c : Int32) (M : zM) : fX2_readEither_L8 g (N + 1) x 0 c M = some (0, M) := by
  show fX2_readEither_B8 _ _ _ _ _ M = _
  unfold fX2_readEither_B8
  by_cases h : (160 : Int32) ≤ c
  · rw [if_pos h, zG_t zbo_0]
  · rw [if_neg h, if_pos rfl, zG_t zbo_0]
theorem ei_loop {z : Nat} {b : Nat → Int32} {T : zTk} (hX : hNX z b T) (hN : hNM z b T) (hT : okTk T) {q : Int32} {base o : Nat} {g : Int32 → zM → Option (Int32 × zM)} (hg : Rd z b T q base g o 2 pBoth qBoth) {i : Nat} {K C W : List Int32} {cmp : Nat} (hK : K.length ≤ i) (hW : tpl 1 W) (hop : opn W = o) {MM0 : zM} : ∀ (n j c N : Nat) (E : List Int32) (M : zM), 160 - j ≤ n → n < N → 2 * c + i + 1 ≤ j → Aft z b T q base 1 qBoth i j K C W cmp M MM0 E → ∃ r M' j', fX2_readEither_L8 g N (nI o) 1 (nI c) M = some (r, M') ∧ cF M M' ∧ Res z b T q base 1 qEi i j' K C W cmp M' MM0 r := by
  intro n
  induction n with
  | zero =>
    intro j c N E M hn hN1 hc hA
    obtain ⟨N, rfl⟩ : ∃ q, N = q + 1 := ⟨N - 1, by omega⟩
    obtain ⟨b1, b2, b3, b4, cc, b5⟩ := Aft_len hA hK
    have hno : ¬ tk T j = 7 := fun e => by have := (hT j).2.2.2 (by omega); omega
    refine ⟨1, M, j, ?_, cF_refl _, Res_of hW hA (fun c hq => ?_)⟩
    · show fX2_readEither_B8 _ _ _ _ _ M = _
      unfold fX2_readEither_B8
      rw [if_neg (by rw [show (160 : Int32) = nI 160 from rfl, nI_leI (by omega) (by omega)]; omega), if_neg (show ¬ (1 : Int32) = 0 by decide), if_neg (fun e => hno ((tk_c hT b4 (x := 7) (n := 7) rfl (by omega)).mp e)), zG_t zbo_1]
    · exact ⟨hq.1, hq.2, hno⟩
  | succ n ih =>
    intro j c N E M hn hN1 hc hA
    obtain ⟨N, rfl⟩ : ∃ q, N = q + 1 := ⟨N - 1, by omega⟩
    obtain ⟨b1, b2, b3, b4, cc, b5⟩ := Aft_len hA hK
    have hU : fX2_readEither_L8 g (N + 1) (nI o) 1 (nI c) M = fX2_readEither_B8 g (fX2_readEither_L8 g N) (nI o) 1 (nI c) M := rfl
    rw [hU]
    unfold fX2_readEither_B8
    rw [if_neg (by rw [show (160 : Int32) = nI 160 from rfl, nI_leI (by omega) (by omega)]; omega), if_neg (show ¬ (1 : Int32) = 0 by decide)]
    by_cases hno : tk T j = 7
    rotate_left
    · rw [if_neg (fun e => hno ((tk_c hT b4 (x := 7) (n := 7) rfl (by omega)).mp e)), zG_t zbo_1]
      exact ⟨1, M, j, rfl, cF_refl _, Res_of hW hA (fun c hq => ⟨hq.1, hq.2, hno⟩)⟩
    rw [if_pos ((tk_c hT b4 (x := 7) (n := 7) rfl (by omega)).mpr hno)]
    obtain ⟨M1, MM1, cmp', s1, s2, s3, s4, s5, s6, s7⟩ := bin_step hX hN hT hA (s := 12) (fun c _ => by rw [hno]; rfl) (by decide) (by decide) (by omega) (by omega)
    obtain ⟨r2, M2, j2, g1, g2, g3⟩ := hg (j + 1) _ M1 MM1 _ _ _ _ s3 ⟨b1, by have := (hT j).2.2.2 (by omega); omega⟩ s4 (by decide) (by show opn W + 0 = o; omega) ⟨tpl_cons (by decide) W, by decide, if_pos (by decide)⟩
    rw [zV_s s1, zB_s g1]
    rcases g3 with ⟨e2, E2, hE2⟩ | ⟨e2, K', f1, f2⟩
    · obtain ⟨M3, E3, t1, t2, t3⟩ := bin_aft (PO3 := qBoth) hA hK (s := 12) (by decide) (by omega) hW s5 s6 ⟨E2, hE2⟩ (fun c hq => hq) (by decide) (by decide) (by decide)
      have t1' : fX2_emit (20007 : Int32) M2 = some M3 := t1
      obtain ⟨b1', b2', b3', -⟩ := Aft_len t3 hK
      obtain ⟨-, -, -, -, -, -, -, -, -, -, -, hj2, -⟩ := hE2
      obtain ⟨r, M', j', l1, l2, l3⟩ := ih j2 (c + 1) N E3 M3 (by omega) (by omega) (by omega) t3
      rw [zV_s t1', zL_r, nI_1, e2]
      exact ⟨r, M', j', l1, cF_trans (cF_trans (cF_trans s2 g2) t2) l2, l3⟩
    · obtain ⟨M3, K3, t1, t2, t3⟩ := emit_any f1 (20007 : Int32)
      obtain ⟨N, rfl⟩ : ∃ q, N = q + 1 := ⟨N - 1, by omega⟩
      rw [zV_s t1, zL_r, e2, ei_stop]
      exact ⟨0, M3, j2, rfl, cF_trans (cF_trans s2 g2) t3, Or.inr ⟨rfl, K3, t2, runs_fails s5 s6 f2⟩⟩
theorem ei_rd {z : Nat} {b : Nat → Int32} {T : zTk} (hX : hNX z b T) (hN : hNM z b T) (hT : okTk T) {q : Int32} {base o : Nat} {g : Int32 → zM → Option (Int32 × zM)} (hg : Rd z b T q base g o 2 pBoth qBoth) : Rd z b T q base (fX2_readEither g) o 1 pEi qEi := by
  intro i K M MM C W cmp st hc hK hr hst hop hp
  obtain ⟨r, M1, j, g1, g2, g3⟩ := hg i K M MM C W cmp st hc hK hr hst hop ⟨tpl_mono hp.1 (by omega), hp.2⟩
  unfold fX2_readEither
  rw [zB_s g1, zF_1]
  rcases Aft_of (k := 1) (by omega) hp.1 g3 with ⟨e1, E, hA⟩ | ⟨e1, hF⟩
  · have hb := Aft_len hA hK.1
    obtain ⟨r', M', j', l1, l2, l3⟩ := ei_loop hX hN hT hg hK.1 hp.1 hop 160 j 0 (99999 + 1) E M1 (by omega) (by omega) (by omega) hA
    have l1' : fX2_readEither_L8 g (99999 + 1) (nI o) 1 (0 : Int32) M1 = some (r', M') := l1
    rw [e1]
    exact ⟨r', M', j', l1', cF_trans g2 l2, l3⟩
  · rw [e1, ei_stop]
    exact ⟨0, M1, j, rfl, g2, Or.inr ⟨rfl, hF⟩⟩

/-! texts: the class's reader beside the reference -/
def cTok (z : Nat) (b : Nat → Int32) (T : zTk) (M : zM) (i : Nat) : Prop := M.1 2 3 = nI z ∧ (∀ j, j < z → M.1 3 j = b j) ∧ M.1 2 7 = nI (tf T i) ∧ M.1 2 5 = nI (tt T i) ∧ M.1 2 6 = nI (tk T i) ∧ (tk T i = 2 ∨ tk T i = 3 → M.1 2 8 = nI (tv T i))
def cNx (M M' : zM) : Prop := M'.2 = M.2 ∧ (∀ i, i ≠ 2 → M'.1 i = M.1 i) ∧ ∀ k, k ∉ [5, 6, 7, 8] → M'.1 2 k = M.1 2 k
def hNX (z : Nat) (b : Nat → Int32) (T : zTk) : Prop := ∀ i M, cTok z b T M i → tk T i ≠ 0 → ∃ M', fX2_next M = some M' ∧ cTok z b T M' (i + 1) ∧ cNx M M'
def cF (M M' : zM) : Prop := M'.2 = M.2 ∧ (∀ i, i ≠ 2 → i ≠ 4 → M'.1 i = M.1 i) ∧ ∀ k, k ∉ [4, 5, 6, 7, 8] → M'.1 2 k = M.1 2 k
theorem cF_refl (M : zM) : cF M M := ⟨rfl, fun _ _ _ => rfl, fun _ _ => rfl⟩
theorem cF_trans {M M' M'' : zM} (h1 : cF M M') (h2 : cF M' M'') : cF M M'' := ⟨h2.1.trans h1.1, fun i a b => (h2.2.1 i a b).trans (h1.2.1 i a b), fun k a => (h2.2.2 k a).trans (h1.2.2 k a)⟩
theorem cF_n {M M' : zM} (h : cNx M M') : cF M M' := ⟨h.1, fun i a _ => h.2.1 i a, fun k hk => h.2.2 k (fun q => hk (by
  simp only [List.mem_cons, List.not_mem_nil, or_false] at q ⊢
  omega))⟩
def cSt (z : Nat) (b : Nat → Int32) (T : zTk) (M : zM) (i : Nat) (K : List Int32) : Prop := cTok z b T M i ∧ M.1 2 4 = nI K.length ∧ cds (M.1 4) 0 K.length = K ∧ K.length ≤ 160
theorem cSt_next {z : Nat} {b : Nat → Int32} {T : zTk} (hX : hNX z b T) {M : zM} {i : Nat} {K : List Int32} (h : cSt z b T M i K) (hk : tk T i ≠ 0) : ∃ M', fX2_next M = some M' ∧ cSt z b T M' (i + 1) K ∧ cF M M' := by
  obtain ⟨M', n1, n2, n3⟩ := hX i M h.1 hk
  exact ⟨M', n1, ⟨n2, by rw [n3.2.2 4 (by decide)]; exact h.2.1, by rw [n3.2.1 4 (by decide)]; exact h.2.2.1, h.2.2.2⟩, cF_n n3⟩
theorem emit_e {z : Nat} {b : Nat → Int32} {T : zTk} {M : zM} {i : Nat} {K : List Int32} (h : cSt z b T M i K) (hl : K.length < 160) (c : Int32) : ∃ M', fX2_emit c M = some M' ∧ cSt z b T M' i (K ++ [c]) ∧ cF M M' := by
  obtain ⟨ht, h4, hd, hl0⟩ := h
  obtain ⟨M1, e1⟩ : ∃ M1, M1 = zu M 4 K.length c := ⟨_, rfl⟩
  obtain ⟨M2, e2⟩ : ∃ M2, M2 = zu M1 2 4 (nI (K.length + 1)) := ⟨_, rfl⟩
  have f : ∀ k, k ≠ 4 → M2.1 2 k = M.1 2 k := fun k hk => by rw [e2, zu_other _ _ hk, e1, zu_row _ (by decide)]
  have r4 : M2.1 4 = upd (M.1 4) (0 + K.length) c := by
    rw [e2, zu_row _ (by decide), e1]
    show (zr M 4 (upd (M.1 4) K.length c)).1 4 = _
    rw [zr_s, Nat.zero_add]
  have r3 : M2.1 3 = M.1 3 := by rw [e2, zu_row _ (by decide), e1, zu_row _ (by decide)]
  refine ⟨M2, ?_, ⟨?_, ?_, ?_, ?_⟩, ⟨by rw [e2, e1]; rfl, fun j a a' => by rw [e2, zu_row _ a, e1, zu_row _ a'], fun k hk => f k (fun q => hk (by rw [q]; decide))⟩⟩
  · unfold fX2_emit
    rw [h4, if_neg (by rw [show (160 : Int32) = nI 160 from rfl, nI_leI (by omega) (by omega)]; omega), zG_t (zin_nI hl (by decide)), nIc (by omega), ← e1, zL_r]
    have q4 : M1.1 2 4 = nI K.length := by rw [e1, zu_row _ (by decide)]; exact h4
    rw [q4, nI_1, ← e2, zL_r]
  · unfold cTok
    rw [f 3 (by decide), r3, f 7 (by decide), f 5 (by decide), f 6 (by decide), f 8 (by decide)]
    exact ht
  · rw [e2, zu_same, List.length_append]; rfl
  · rw [r4, List.length_append]
    show cds _ 0 (K.length + 1) = _
    rw [cds_put, hd]
  · rw [List.length_append]
    show K.length + 1 ≤ 160
    omega
theorem emit_any {z : Nat} {b : Nat → Int32} {T : zTk} {M : zM} {i : Nat} {K : List Int32} (h : cSt z b T M i K) (c : Int32) : ∃ M' K', fX2_emit c M = some M' ∧ cSt z b T M' i K' ∧ cF M M' := by
  by_cases hl : K.length < 160
  · obtain ⟨M', a, b, c⟩ := emit_e h hl c
    exact ⟨M', _, a, b, c⟩
  · refine ⟨M, K, ?_, h, cF_refl _⟩
    have := h.2.2.2
    unfold fX2_emit
    rw [h.2.1, if_pos (by rw [show (160 : Int32) = nI 160 from rfl, nI_leI (by omega) (by omega)]; omega)]
def gWf (E : List Int32) : Prop := ∀ l h, h + E.length ≤ 160 → wfc l (h + 1) → wfc (E.map dM ++ l) h
def gCd (E : List Int32) : Prop := ∀ c, c ∈ E → 0 ≤ c ∧ c < 10015
theorem gCd_app {E F : List Int32} (h1 : gCd E) (h2 : gCd F) : gCd (E ++ F) := fun c hc => by
  rcases List.mem_append.mp hc with h | h
  · exact h1 c h
  · exact h2 c h
theorem gCd_1 {s : Int32} (h : 0 ≤ s ∧ s < 10015) : gCd [s] := fun c hc => by
  rw [List.mem_singleton.mp hc]; exact h
theorem gWf_bin {E F : List Int32} (h1 : gWf E) (h2 : gWf F) {s : Int32} (ha : 20000 ≤ dM s) (hb : dM s < 30000) : gWf (E ++ F ++ [s]) := by
  intro l h hl hw
  simp only [List.length_append, List.length_cons, List.length_nil] at hl
  rw [List.map_append, List.map_append, List.append_assoc, List.append_assoc]
  refine h1 _ h (by omega) (h2 _ (h + 1) (by omega) ?_)
  show wfc (dM s :: l) (h + 1 + 1)
  exact Or.inr (Or.inl ⟨ha, hb, by omega, hw⟩)
theorem gWf_un {E : List Int32} (h1 : gWf E) {s : Int32} (ha : 30000 ≤ dM s) : gWf (E ++ [s]) := by
  intro l h hl hw
  simp only [List.length_append, List.length_cons, List.length_nil] at hl
  rw [List.map_append, List.append_assoc]
  refine h1 _ h (by omega) ?_
  show wfc (dM s :: l) (h + 1)
  exact Or.inr (Or.inr ⟨ha, by omega, hw⟩)
theorem gWf_one {s : Int32} (ha : 0 ≤ dM s) (hb : dM s < 10006) : gWf [s] := by
  intro l h hl hw
  simp only [List.length_cons, List.length_nil] at hl
  exact Or.inl ⟨ha, hb, by omega, hw⟩
/-- read, or a fault, alike -/
def Res (z : Nat) (b : Nat → Int32) (T : zTk) (q : Int32) (base kL : Nat) (post : Nat → Nat → Nat → Prop) (i j : Nat) (K C W : List Int32) (cmp : Nat) (M' MM : zM) (r : Int32) : Prop := (r = 1 ∧ ∃ E MM' C' W' cmp' st', cSt z b T M' j (K ++ E.map dM) ∧ rSt z b T MM' j base C' W' cmp' 1 st' ∧ st' ≤ 1 ∧ lay kL W' C' = lay kL W (C ++ E) ∧ runs q i j MM MM' ∧ rF base MM MM' ∧ (i < j ∧ i + E.length ≤ j ∧ j ≤ 160) ∧ gWf E ∧ gCd E ∧ post (tk T j) cmp cmp') ∨ (r = 0 ∧ ∃ K', cSt z b T M' j K' ∧ fails q z b T base i j MM)
def Rd (z : Nat) (b : Nat → Int32) (T : zTk) (q : Int32) (base : Nat) (g : Int32 → zM → Option (Int32 × zM)) (o kL : Nat) (pre : Nat → Nat → Nat → List Int32 → Prop) (post : Nat → Nat → Nat → Prop) : Prop := ∀ (i : Nat) (K : List Int32) (M MM : zM) (C W : List Int32) (cmp st : Nat), cSt z b T M i K → K.length ≤ i ∧ i ≤ 160 → rSt z b T MM i base C W cmp 0 st → st ≤ 1 → opn W = o → pre (tk T i) cmp st W → ∃ r M' j, g (nI o) M = some (r, M') ∧ cF M M' ∧ Res z b T q base kL post i j K C W cmp M' MM r
/-- behind operands: E is read, all that binds as k or more laid -/
def Aft (z : Nat) (b : Nat → Int32) (T : zTk) (q : Int32) (base k : Nat) (PO : Nat → Nat → Nat → Prop) (i j : Nat) (K C W : List Int32) (cmp : Nat) (M MM0 : zM) (E : List Int32) : Prop := ∃ MM C' W' cmp' st', cSt z b T M j (K ++ E.map dM) ∧ rSt z b T MM j base C' W' cmp' 1 st' ∧ st' ≤ 1 ∧ lay k W' C' = (C ++ E, W) ∧ runs q i j MM0 MM ∧ rF base MM0 MM ∧ (i < j ∧ i + E.length ≤ j ∧ j ≤ 160) ∧ gWf E ∧ gCd E ∧ PO (tk T j) cmp cmp'
theorem Aft_of {z : Nat} {b : Nat → Int32} {T : zTk} {q : Int32} {base k kL : Nat} {PO : Nat → Nat → Nat → Prop} {i j : Nat} {K C W : List Int32} {cmp : Nat} {M MM0 : zM} {r : Int32} (hk : k ≤ kL) (hW : tpl k W) (h : Res z b T q base kL PO i j K C W cmp M MM0 r) : (r = 1 ∧ ∃ E, Aft z b T q base k PO i j K C W cmp M MM0 E) ∨ (r = 0 ∧ ∃ K', cSt z b T M j K' ∧ fails q z b T base i j MM0) := by
  rcases h with ⟨h1, E, MM', C', W', cmp', st', a1, a2, a3, a4, a5⟩ | h
  · refine Or.inl ⟨h1, E, MM', C', W', cmp', st', a1, a2, a3, ?_, a5⟩
    rw [lay_eq hk a4, lay_tpl hW]
  · exact Or.inr h
theorem Res_of {z : Nat} {b : Nat → Int32} {T : zTk} {q : Int32} {base k : Nat} {PO post : Nat → Nat → Nat → Prop} {i j : Nat} {K C W : List Int32} {cmp : Nat} {M MM0 : zM} {E : List Int32} (hW : tpl k W) (h : Aft z b T q base k PO i j K C W cmp M MM0 E) (hp : ∀ c, PO (tk T j) cmp c → post (tk T j) cmp c) : Res z b T q base k post i j K C W cmp M MM0 1 := by
  obtain ⟨MM', C', W', cmp', st', a1, a2, a3, a4, a5, a6, a7, a8, a9, a10⟩ := h
  exact Or.inl ⟨rfl, E, MM', C', W', cmp', st', a1, a2, a3, by rw [a4, lay_tpl hW], a5, a6, a7, a8, a9, hp _ a10⟩
theorem bin_step {z : Nat} {b : Nat → Int32} {T : zTk} (hX : hNX z b T) (hN : hNM z b T) (hT : okTk T) {q : Int32} {base k : Nat} {PO : Nat → Nat → Nat → Prop} {i j : Nat} {K C W : List Int32} {cmp : Nat} {M MM0 : zM} {E : List Int32} (h : Aft z b T q base k PO i j K C W cmp M MM0 E) {s : Int32} (hs : ∀ c, PO (tk T j) cmp c → sgT (tk T j) c = s) (hs1 : s ≠ -1) (hr : rkS s = k) (h1 : 1 ≤ k) (h6 : k ≤ 6) : ∃ M1 MM1 cmp', fX2_next M = some M1 ∧ cF M M1 ∧ cSt z b T M1 (j + 1) (K ++ E.map dM) ∧ rSt z b T MM1 (j + 1) base (C ++ E) (s :: W) (if k < 3 then 0 else if k = 4 then 1 else cmp') 0 (if k < 3 then 1 else 0) ∧ runs q i (j + 1) MM0 MM1 ∧ rF base MM0 MM1 ∧ PO (tk T j) cmp cmp' := by
  obtain ⟨MM, C', W', cmp', st', a1, a2, a3, a4, a5, a6, a7, a8, a9, a10⟩ := h
  have hsg := hs cmp' a10
  have hk0 : tk T j ≠ 0 := fun e => by rw [e] at hsg; exact hs1 hsg.symm
  obtain ⟨M1, n1, n2, n3⟩ := cSt_next hX a1 hk0
  obtain ⟨MM1, r1, r2, r3⟩ := sOp hN hT q a2 hsg hs1 hr h1 h6
  rw [a4] at r2
  exact ⟨M1, MM1, cmp', n1, n3, n2, r2, runs_trans a5 r1, rF_trans a6 r3, a10⟩
/-- the second operand has come: the sign is coded -/
theorem bin_aft {z : Nat} {b : Nat → Int32} {T : zTk} {q : Int32} {base k kL : Nat} {PO PO2 PO3 : Nat → Nat → Nat → Prop} {i j j2 : Nat} {K C W : List Int32} {cmp cmp1 : Nat} {M M2 MM0 MM1 : zM} {E : List Int32} (h : Aft z b T q base k PO i j K C W cmp M MM0 E) (hK : K.length ≤ i) {s : Int32} (hr : rkS s = k) (hkL : k < kL) (hW : tpl k W) (hrun : runs q i (j + 1) MM0 MM1) (hF : rF base MM0 MM1) (h2 : ∃ E2 MM' C' W' cmp' st', cSt z b T M2 j2 ((K ++ E.map dM) ++ E2.map dM) ∧ rSt z b T MM' j2 base C' W' cmp' 1 st' ∧ st' ≤ 1 ∧ lay kL W' C' = lay kL (s :: W) ((C ++ E) ++ E2) ∧ runs q (j + 1) j2 MM1 MM' ∧ rF base MM1 MM' ∧ (j + 1 < j2 ∧ j + 1 + E2.length ≤ j2 ∧ j2 ≤ 160) ∧ gWf E2 ∧ gCd E2 ∧ PO2 (tk T j2) cmp1 cmp') (hp : ∀ c, PO2 (tk T j2) cmp1 c → PO3 (tk T j2) cmp c) (ha : 20000 ≤ dM s) (hb : dM s < 30000) (hc : 0 ≤ s ∧ s < 10015) : ∃ M3 E3, fX2_emit (dM s) M2 = some M3 ∧ cF M2 M3 ∧ Aft z b T q base k PO3 i j2 K C W cmp M3 MM0 E3 := by
  obtain ⟨-, -, -, -, -, -, -, -, -, -, -, b7, b8, b9, -⟩ := h
  obtain ⟨E2, MM', C', W', cmp', st', a1, a2, a3, a4, a5, a6, a7, a8, a9, a10⟩ := h2
  have hlen : ((K ++ E.map dM) ++ E2.map dM).length < 160 := by
    simp only [List.length_append, List.length_map]
    omega
  obtain ⟨M3, e1, e2, e3⟩ := emit_e a1 hlen (dM s)
  refine ⟨M3, E ++ E2 ++ [s], e1, e3, MM', C', W', cmp', st', ?_, a2, a3, ?_, runs_trans hrun a5, rF_trans hF a6, ⟨by omega, ?_, a7.2.2⟩, gWf_bin b8 a8 ha hb, gCd_app (gCd_app b9 a9) (gCd_1 hc), hp _ a10⟩
  · rw [List.map_append, List.map_append, ← List.append_assoc, ← List.append_assoc]
    exact e2
  · rw [lay_eq (Nat.le_of_lt hkL) a4, lay_cons, if_pos (by omega), lay_tpl hW, List.append_assoc, List.append_assoc]
    simp only [List.append_assoc]
  · simp only [List.length_append, List.length_cons, List.length_nil]
    omega

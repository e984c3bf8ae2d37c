/-! what class and reference have in common between two calls -/
/-- who is there, place by place -/
def rP (t : Nat) (MX MM : zM) : Prop := ∃ n r : Nat, n ≤ 5 ∧ r < t ∧ MX.1 10 7 = nI n ∧ MM.1 0 2 = nI n ∧ MX.1 10 8 = MM.1 0 0 ∧ MX.1 10 9 = MM.1 0 1 ∧ MX.1 10 10 = nI r ∧ MM.1 0 7 = nI r ∧ (0 ≤ MM.1 0 0 ∧ MM.1 0 0 ≤ 999 ∧ 0 ≤ MM.1 0 1) ∧
  ∀ i, i < n → (MX.1 11 i = MM.1 1 i ∧ 0 ≤ MM.1 1 i ∧ MM.1 1 i ≤ 5) ∧ (MX.1 12 i = MM.1 2 i ∧ 0 ≤ MM.1 2 i) ∧ (MX.1 13 i = MM.1 3 i ∧ 0 ≤ MM.1 3 i ∧ MM.1 3 i ≤ 999) ∧ (MX.1 14 i = MM.1 4 i ∧ 0 ≤ MM.1 4 i ∧ MM.1 4 i ≤ 999)
/-- texts -/
def rT (t : Nat) (MX MM : zM) : Prop := 1 ≤ t ∧ t ≤ 6 ∧ MX.1 0 7 = nI t ∧ MM.1 0 10 = nI t ∧ (∀ r, r < t → okT MX r ∧ okTM MM r ∧ ∀ p, p < 3 → cX MX r p = cM MM r p) ∧
  ∃ cd : Nat, MM.1 0 14 = nI cd ∧ cd ≤ 160 * t ∧ ∀ q, q < 3 * t → ∃ b l : Nat, MM.1 6 q = nI b ∧ MM.1 7 q = nI l ∧ b + l ≤ cd
/-- the tape -/
def rA (MX MM : zM) : Prop := ∃ z : Nat, z ≤ 160 ∧ MX.1 2 3 = nI z ∧ MM.1 0 8 = nI z ∧ ∀ j, j < z → MX.1 3 j = MM.1 5 j ∧ 0 ≤ MM.1 5 j ∧ MM.1 5 j ≤ 255
/-- sheets -/
def rS (MX MM : zM) : Prop := ∀ s, s < 4 → (MX.1 (56 + 2 * s) 1 = MM.1 20 s ∧ -1 ≤ MM.1 20 s ∧ MM.1 20 s ≤ 2) ∧ (∃ z : Nat, z ≤ 40 ∧ MX.1 (56 + 2 * s) 2 = nI z ∧ MM.1 21 s = nI z) ∧ ∀ j, j < 40 → MX.1 (57 + 2 * s) j = MM.1 22 (40 * s + j)
/-- the image -/
def rI (t : Nat) (MX MM : zM) : Prop := (MX.1 0 8 = 0 ∧ MM.1 0 40 = 0) ∨ (MX.1 0 8 = 1 ∧ MM.1 0 40 = 1 ∧ ∃ n k r : Nat, k ≤ n ∧ n ≤ 5 ∧ MM.1 0 2 = nI n ∧ r < t ∧ MX.1 24 7 = nI k ∧ MM.1 0 41 = nI k ∧ MX.1 24 8 = MM.1 0 42 ∧ MX.1 24 9 = MM.1 0 43 ∧ MX.1 24 10 = nI r ∧ MM.1 0 44 = nI r ∧ (0 ≤ MM.1 0 42 ∧ MM.1 0 42 ≤ 999 ∧ 0 ≤ MM.1 0 43) ∧
  ∀ i, i < k → MX.1 25 i = MM.1 1 i ∧ (MX.1 26 i = MM.1 17 i ∧ 0 ≤ MM.1 17 i) ∧ (MX.1 27 i = MM.1 18 i ∧ 0 ≤ MM.1 18 i ∧ MM.1 18 i ≤ 999) ∧ (MX.1 28 i = MM.1 19 i ∧ 0 ≤ MM.1 19 i ∧ MM.1 19 i ≤ 999))
def RelT (T : zM → Prop) (MX MM : zM) : Prop := T MX ∧ ∃ t : Nat, rP t MX MM ∧ rT t MX MM ∧ rA MX MM ∧ rS MX MM ∧ rI t MX MM
/-- T speaks of the table alone -/
def tabOk (T : zM → Prop) : Prop := ∀ M M' : zM, M'.1 6 = M.1 6 → M'.1 9 = M.1 9 → M'.2 = M.2 → T M → T M'
/-! what a thought may touch -/
def SX : List Nat := [6, 7, 8, 9, 15, 16, 17, 18, 19, 20, 21, 22, 23, 29, 30, 35, 39, 43, 47, 51, 55]
def SX0 : List Nat := [15, 16, 17, 18, 19, 20, 21, 22, 23, 29, 30, 35, 39, 43, 47, 51, 55]
def eX (M M' : zM) : Prop := ∀ i, i ∉ SX → M'.1 i = M.1 i
def SR : List Nat := [0, 3, 4, 9, 10, 11, 12, 13, 14, 15, 16]
def KF : List Nat := [0, 1, 2, 7, 8, 10, 14, 40, 41, 42, 43, 44]
def eM (M M' : zM) : Prop := (∀ i, i ∉ SR → M'.1 i = M.1 i) ∧ (∀ k, k ∈ KF → M'.1 0 k = M.1 0 k) ∧ (∀ j, j < 5 → M'.1 3 j = M.1 3 j) ∧ (∀ j, j < 5 → M'.1 4 j = M.1 4 j)
theorem eX_refl (M : zM) : eX M M := fun _ _ => rfl
theorem eX_trans {M M' M'' : zM} (h1 : eX M M') (h2 : eX M' M'') : eX M M'' := fun i hi => (h2 i hi).trans (h1 i hi)
theorem eX_of {S : List Nat} {M M' : zM} (h : zO S M M') (hS : ∀ i, i ∈ S → i ∈ SX) : eX M M' := fun i hi => h.2 i (fun q => hi (hS i q))
theorem eM_refl (M : zM) : eM M M := ⟨fun _ _ => rfl, fun _ _ => rfl, fun _ _ => rfl, fun _ _ => rfl⟩
theorem eM_trans {M M' M'' : zM} (h1 : eM M M') (h2 : eM M' M'') : eM M M'' := ⟨fun i hi => (h2.1 i hi).trans (h1.1 i hi), fun i hi => (h2.2.1 i hi).trans (h1.2.1 i hi), fun i hi => (h2.2.2.1 i hi).trans (h1.2.2.1 i hi), fun i hi => (h2.2.2.2 i hi).trans (h1.2.2.2 i hi)⟩
theorem eM_bk {M M' : zM} (h : zBk M M') : eM M M' := by
  obtain ⟨⟨t1, t2, t3⟩, b0, b1, b3, b4⟩ := h
  refine ⟨fun i hi => t2 i (fun q => hi ?_), fun k hk => ?_, b3, b4⟩
  · simp only [ST, List.mem_cons, List.not_mem_nil, or_false] at q
    simp only [SR, List.mem_cons, List.not_mem_nil, or_false]
    omega
  · simp only [KF, List.mem_cons, List.not_mem_nil, or_false] at hk
    by_cases c0 : k = 0
    · rw [c0]; exact b0
    · by_cases c1 : k = 1
      · rw [c1]; exact b1
      · exact t3 k c0 c1 (by omega) (by omega)
theorem eM_SM {M M' : zM} (h : zO SM M M') : eM M M' := eM_bk (zBk_SM h)
/-! the parts stay where their cells do -/
theorem rT_X {t : Nat} {MX MX' MM : zM} (h0 : MX'.1 0 7 = MX.1 0 7) (ht : ∀ r, MX'.1 (32 + 4 * r + 1) = MX.1 (32 + 4 * r + 1) ∧ MX'.1 (32 + 4 * r + 2) = MX.1 (32 + 4 * r + 2)) (h : rT t MX MM) : rT t MX' MM := by
  obtain ⟨a, b, c, d, e, f⟩ := h
  have hc : ∀ r p, cX MX' r p = cX MX r p := fun r p => by unfold cX; rw [(ht r).1, (ht r).2]
  refine ⟨a, b, by rw [h0]; exact c, d, fun r hr => ?_, f⟩
  obtain ⟨g1, g2, g3⟩ := e r hr
  refine ⟨?_, g2, fun p hp => by rw [hc]; exact g3 p hp⟩
  unfold okT
  rw [(ht r).2]
  exact ⟨g1.1, fun p hp => by rw [hc]; exact g1.2 p hp⟩
theorem rT_M {t : Nat} {MX MM MM' : zM} (h0 : MM'.1 0 10 = MM.1 0 10) (h1 : MM'.1 0 14 = MM.1 0 14) (h6 : MM'.1 6 = MM.1 6) (h7 : MM'.1 7 = MM.1 7) (h8 : MM'.1 8 = MM.1 8) (h : rT t MX MM) : rT t MX MM' := by
  obtain ⟨a, b, c, d, e, f⟩ := h
  refine ⟨a, b, c, by rw [h0]; exact d, fun r hr => ?_, by rw [h1, h6, h7]; exact f⟩
  obtain ⟨g1, g2, g3⟩ := e r hr
  exact ⟨g1, okTM_rows h6 h7 h8 g2, fun p hp => by rw [cM_rows h6 h7 h8]; exact g3 p hp⟩
theorem rA_X {MX MX' MM : zM} (h2 : MX'.1 2 3 = MX.1 2 3) (h3 : MX'.1 3 = MX.1 3) (h : rA MX MM) : rA MX' MM := by
  unfold rA; rw [h2, h3]; exact h
theorem rA_M {MX MM MM' : zM} (h0 : MM'.1 0 8 = MM.1 0 8) (h5 : MM'.1 5 = MM.1 5) (h : rA MX MM) : rA MX MM' := by
  unfold rA; rw [h0, h5]; exact h
theorem rS_X {MX MX' MM : zM} (h2 : ∀ s, s < 4 → MX'.1 (56 + 2 * s) = MX.1 (56 + 2 * s) ∧ MX'.1 (57 + 2 * s) = MX.1 (57 + 2 * s)) (h : rS MX MM) : rS MX' MM := by
  intro s hs
  rw [(h2 s hs).1, (h2 s hs).2]; exact h s hs
theorem rS_M {MX MM MM' : zM} (h0 : MM'.1 20 = MM.1 20) (h1 : MM'.1 21 = MM.1 21) (h2 : MM'.1 22 = MM.1 22) (h : rS MX MM) : rS MX MM' := by
  intro s hs
  rw [h0, h1, h2]; exact h s hs
theorem rP_X {t : Nat} {MX MX' MM : zM} (h : ∀ i, 10 ≤ i → i < 15 → MX'.1 i = MX.1 i) (hP : rP t MX MM) : rP t MX' MM := by
  unfold rP
  rw [h 10 (by omega) (by omega), h 11 (by omega) (by omega), h 12 (by omega) (by omega), h 13 (by omega) (by omega), h 14 (by omega) (by omega)]
  exact hP
theorem rP_M {t : Nat} {MX MM MM' : zM} (h0 : MM'.1 0 0 = MM.1 0 0) (h1 : MM'.1 0 1 = MM.1 0 1) (h2 : MM'.1 0 2 = MM.1 0 2) (h7 : MM'.1 0 7 = MM.1 0 7) (k1 : MM'.1 1 = MM.1 1) (k2 : MM'.1 2 = MM.1 2) (k3 : ∀ j, j < 5 → MM'.1 3 j = MM.1 3 j) (k4 : ∀ j, j < 5 → MM'.1 4 j = MM.1 4 j) (hP : rP t MX MM) : rP t MX MM' := by
  obtain ⟨n, r, hn, hr, a7, b2, e8, e9, a10, b7, hd, hp⟩ := hP
  refine ⟨n, r, hn, hr, a7, by rw [h2]; exact b2, by rw [h0]; exact e8, by rw [h1]; exact e9, a10, by rw [h7]; exact b7, by rw [h0, h1]; exact hd, fun i hi => ?_⟩
  rw [k1, k2, k3 i (by omega), k4 i (by omega)]
  exact hp i hi
theorem rI_X {t : Nat} {MX MX' MM : zM} (h8 : MX'.1 0 8 = MX.1 0 8) (h : ∀ i, 24 ≤ i → i < 29 → MX'.1 i = MX.1 i) (hI : rI t MX MM) : rI t MX' MM := by
  unfold rI
  rw [h8, h 24 (by omega) (by omega), h 25 (by omega) (by omega), h 26 (by omega) (by omega), h 27 (by omega) (by omega), h 28 (by omega) (by omega)]
  exact hI
/-- more may have come; those of the image stay -/
theorem rI_M {t : Nat} {MX MM MM' : zM} (h : ∀ k, 40 ≤ k → k < 45 → MM'.1 0 k = MM.1 0 k) (hn : ∀ n, MM.1 0 2 = nI n → n ≤ 5 → ∃ n', n ≤ n' ∧ n' ≤ 5 ∧ MM'.1 0 2 = nI n' ∧ ∀ i, i < n → MM'.1 1 i = MM.1 1 i) (k17 : MM'.1 17 = MM.1 17) (k18 : MM'.1 18 = MM.1 18) (k19 : MM'.1 19 = MM.1 19) (hI : rI t MX MM) : rI t MX MM' := by
  unfold rI
  rw [h 40 (by omega) (by omega), h 41 (by omega) (by omega), h 42 (by omega) (by omega), h 43 (by omega) (by omega), h 44 (by omega) (by omega), k17, k18, k19]
  rcases hI with hI | ⟨a, b, n, k, r, hkn, hn5, e2, rest⟩
  · exact Or.inl hI
  · obtain ⟨n', q1, q2, q3, q4⟩ := hn n e2 hn5
    obtain ⟨g1, g2, g3, g4, g5, g6, g7, g8, g9⟩ := rest
    exact Or.inr ⟨a, b, n', k, r, by omega, q2, q3, g1, g2, g3, g4, g5, g6, g7, g8, fun i hi => by rw [q4 i (by omega)]; exact g9 i hi⟩
theorem SX_t (r : Nat) : 32 + 4 * r + 1 ∉ SX ∧ 32 + 4 * r + 2 ∉ SX := by
  refine ⟨fun q => ?_, fun q => ?_⟩ <;> simp only [SX, List.mem_cons, List.not_mem_nil, or_false] at q <;> omega
theorem SX_s (s : Nat) : 56 + 2 * s ∉ SX ∧ 57 + 2 * s ∉ SX := by
  refine ⟨fun q => ?_, fun q => ?_⟩ <;> simp only [SX, List.mem_cons, List.not_mem_nil, or_false] at q <;> omega
theorem SX_w (i : Nat) (h : 10 ≤ i ∧ i < 15 ∨ 24 ≤ i ∧ i < 29) : i ∉ SX := by
  intro q
  simp only [SX, List.mem_cons, List.not_mem_nil, or_false] at q
  omega
theorem RelT_X {T : zM → Prop} {MX MX' MM : zM} (hR : RelT T MX MM) (h : eX MX MX') (hT : T MX') : RelT T MX' MM := by
  obtain ⟨-, t, hP, hTx, hA, hSh, hI⟩ := hR
  exact ⟨hT, t, rP_X (fun i a b => h i (SX_w i (Or.inl ⟨a, b⟩))) hP, rT_X (by rw [h 0 (by decide)]) (fun r => ⟨h _ (SX_t r).1, h _ (SX_t r).2⟩) hTx, rA_X (by rw [h 2 (by decide)]) (h 3 (by decide)) hA, rS_X (fun s _ => ⟨h _ (SX_s s).1, h _ (SX_s s).2⟩) hSh, rI_X (by rw [h 0 (by decide)]) (fun i a b => h i (SX_w i (Or.inr ⟨a, b⟩))) hI⟩
theorem RelT_X0 {T : zM → Prop} (hTab : tabOk T) {MX MX' MM : zM} (hR : RelT T MX MM) (h : zO SX0 MX MX') : RelT T MX' MM :=
  RelT_X hR (eX_of h (fun i hi => by simp only [SX0, List.mem_cons, List.not_mem_nil, or_false] at hi; simp only [SX, List.mem_cons, List.not_mem_nil, or_false]; omega)) (hTab MX MX' (h.2 6 (by decide)) (h.2 9 (by decide)) h.1 hR.1)
theorem RelT_M {T : zM → Prop} {MX MM MM' : zM} (hR : RelT T MX MM) (h : eM MM MM') : RelT T MX MM' := by
  obtain ⟨h1, h2, h3, h4⟩ := h
  obtain ⟨hT, t, hP, hTx, hA, hSh, hI⟩ := hR
  have e2 := h2 2 (by decide)
  have k1 := h1 1 (by decide)
  exact ⟨hT, t, rP_M (h2 0 (by decide)) (h2 1 (by decide)) e2 (h2 7 (by decide)) k1 (h1 2 (by decide)) h3 h4 hP, rT_M (h2 10 (by decide)) (h2 14 (by decide)) (h1 6 (by decide)) (h1 7 (by decide)) (h1 8 (by decide)) hTx, rA_M (h2 8 (by decide)) (h1 5 (by decide)) hA, rS_M (h1 20 (by decide)) (h1 21 (by decide)) (h1 22 (by decide)) hSh,
    rI_M (fun k a b => h2 k (by simp only [KF, List.mem_cons, List.not_mem_nil, or_false]; omega)) (fun n e5 hn => ⟨n, Nat.le_refl _, hn, by rw [e2]; exact e5, fun i _ => by rw [k1]⟩) (h1 17 (by decide)) (h1 18 (by decide)) (h1 19 (by decide)) hI⟩
/-- who is there has changed -/
theorem RelT_now {T : zM → Prop} (hTab : tabOk T) {MX MX' MM MM' : zM} (hR : RelT T MX MM) (hX : zO (10 :: 11 :: 12 :: 13 :: 14 :: SX0) MX MX') (hM : ∀ i, i ∉ 1 :: 2 :: SR → MM'.1 i = MM.1 i) (hF : ∀ k, 8 ≤ k → k ∈ KF → MM'.1 0 k = MM.1 0 k) (hn : ∀ n, MM.1 0 2 = nI n → n ≤ 5 → ∃ n', n ≤ n' ∧ n' ≤ 5 ∧ MM'.1 0 2 = nI n' ∧ ∀ i, i < n → MM'.1 1 i = MM.1 1 i) (hP : ∀ t, rP t MX MM → rT t MX MM → rP t MX' MM') : RelT T MX' MM' := by
  obtain ⟨hT, t, hP0, hTx, hA, hSh, hI⟩ := hR
  have hx : ∀ i, i ∉ SX → (i < 10 ∨ 15 ≤ i) → MX'.1 i = MX.1 i := fun i a b => hX.2 i (fun q => by
    simp only [SX0, List.mem_cons, List.not_mem_nil, or_false] at q
    apply a
    simp only [SX, List.mem_cons, List.not_mem_nil, or_false]
    omega)
  refine ⟨hTab MX MX' (hX.2 6 (by decide)) (hX.2 9 (by decide)) hX.1 hT, t, hP t hP0 hTx, ?_, ?_, ?_, ?_⟩
  · exact rT_M (hF 10 (by omega) (by decide)) (hF 14 (by omega) (by decide)) (hM 6 (by decide)) (hM 7 (by decide)) (hM 8 (by decide)) (rT_X (by rw [hx 0 (by decide) (by omega)]) (fun r => ⟨hx _ (SX_t r).1 (by omega), hx _ (SX_t r).2 (by omega)⟩) hTx)
  · exact rA_M (hF 8 (by omega) (by decide)) (hM 5 (by decide)) (rA_X (by rw [hx 2 (by decide) (by omega)]) (hx 3 (by decide) (by omega)) hA)
  · exact rS_M (hM 20 (by decide)) (hM 21 (by decide)) (hM 22 (by decide)) (rS_X (fun s _ => ⟨hx _ (SX_s s).1 (by omega), hx _ (SX_s s).2 (by omega)⟩) hSh)
  · exact rI_M (fun k a b => hF k (by omega) (by simp only [KF, List.mem_cons, List.not_mem_nil, or_false]; omega)) hn (hM 17 (by decide)) (hM 18 (by decide)) (hM 19 (by decide)) (rI_X (by rw [hx 0 (by decide) (by omega)]) (fun i a b => hx i (SX_w i (Or.inr ⟨a, b⟩)) (by omega)) hI)
/-! from places to views and back -/
theorem rP_view {t : Nat} {MX MM : zM} (hP : rP t MX MM) (hT : rT t MX MM) : ∃ n r : Nat, n ≤ 5 ∧ r < t ∧ MX.1 10 7 = nI n ∧ MM.1 0 2 = nI n ∧ MX.1 10 10 = nI r ∧ MM.1 0 7 = nI r ∧ okX 10 MX ∧ okM MM ∧ okV (vM MM) ∧ vX 10 MX = vM MM ∧ vN (vM MM) = n ∧ vN (vX 10 MX) = n := by
  obtain ⟨n, r, hn, hr, a7, b2, e8, e9, a10, b7, hd, hp⟩ := hP
  obtain ⟨t1, t6, c7, c10, htx, -⟩ := hT
  obtain ⟨g1, g2, g3⟩ := htx r hr
  have n1 : (MX.1 10 7).toNatClampNeg = n := by rw [a7, nIc (by omega)]
  have n2 : (MM.1 0 2).toNatClampNeg = n := by rw [b2, nIc (by omega)]
  have q1 : (MX.1 10 10).toNatClampNeg = r := by rw [a10, nIc (by omega)]
  have q2 : (MM.1 0 7).toNatClampNeg = r := by rw [b7, nIc (by omega)]
  refine ⟨n, r, hn, hr, a7, b2, a10, b7, ⟨⟨n, hn, a7⟩, r, by omega, a10, g1⟩, ⟨⟨n, hn, b2⟩, r, by omega, b7, g2⟩, fun i hi => ?_, ?_, n2, n1⟩
  · have hi' : i < n := by rw [← n2]; exact hi
    obtain ⟨p1, p2, p3, p4⟩ := hp i hi'
    obtain ⟨-, -, v3, v4⟩ := vM_at hi
    rw [v3, v4]
    exact ⟨p3.2, p4.2⟩
  · refine zV_ext (n1.trans n2.symm) e8 e9 ?_ ?_ ?_ ?_ ?_
    · show zt (MX.1 10 7).toNatClampNeg (MX.1 11) = zt (MM.1 0 2).toNatClampNeg (MM.1 1)
      rw [n1, n2]; exact zt_congr (fun i hi => (hp i hi).1.1)
    · show zt (MX.1 10 7).toNatClampNeg (MX.1 12) = zt (MM.1 0 2).toNatClampNeg (MM.1 2)
      rw [n1, n2]; exact zt_congr (fun i hi => (hp i hi).2.1.1)
    · show zt (MX.1 10 7).toNatClampNeg (MX.1 13) = zt (MM.1 0 2).toNatClampNeg (MM.1 3)
      rw [n1, n2]; exact zt_congr (fun i hi => (hp i hi).2.2.1.1)
    · show zt (MX.1 10 7).toNatClampNeg (MX.1 14) = zt (MM.1 0 2).toNatClampNeg (MM.1 4)
      rw [n1, n2]; exact zt_congr (fun i hi => (hp i hi).2.2.2.1)
    · show tX MX (MX.1 10 10).toNatClampNeg = tM MM (MM.1 0 7).toNatClampNeg
      rw [q1, q2]
      funext p nm
      show (if p < 3 then sV nm (cX MX r p) else 0) = (if p < 3 then sV nm (cM MM r p) else 0)
      by_cases c : p < 3
      · rw [if_pos c, if_pos c, g3 p c]
      · rw [if_neg c, if_neg c]
theorem rP_of {t n r : Nat} {MX MM : zM} (hn : n ≤ 5) (hr : r < t) (a7 : MX.1 10 7 = nI n) (b2 : MM.1 0 2 = nI n) (a10 : MX.1 10 10 = nI r) (b7 : MM.1 0 7 = nI r) (hv : vX 10 MX = vM MM) (hV : okV (vM MM)) (hd : 0 ≤ vDay (vM MM) ∧ vDay (vM MM) ≤ 999 ∧ 0 ≤ vWet (vM MM)) (hk : ∀ i, i < n → (0 ≤ vKind (vM MM) i ∧ vKind (vM MM) i ≤ 5) ∧ 0 ≤ vNum (vM MM) i) : rP t MX MM := by
  have n1 : vN (vX 10 MX) = n := by show (MX.1 10 7).toNatClampNeg = n; rw [a7, nIc (by omega)]
  have n2 : vN (vM MM) = n := by show (MM.1 0 2).toNatClampNeg = n; rw [b2, nIc (by omega)]
  refine ⟨n, r, hn, hr, a7, b2, ?_, ?_, a10, b7, hd, fun i hi => ?_⟩
  · show vDay (vX 10 MX) = vDay (vM MM); rw [hv]
  · show vWet (vX 10 MX) = vWet (vM MM); rw [hv]
  · obtain ⟨x1, x2, x3, x4⟩ := vX_at (w := 10) (M := MX) (i := i) (by rw [n1]; exact hi)
    obtain ⟨m1, m2, m3, m4⟩ := vM_at (M := MM) (i := i) (by rw [n2]; exact hi)
    obtain ⟨w3, w4⟩ := hV i (by rw [n2]; exact hi)
    have hk' := hk i hi
    rw [m1, m2] at hk'
    rw [m3] at w3
    rw [m4] at w4
    rw [hv] at x1 x2 x3 x4
    exact ⟨⟨x1.symm.trans m1, hk'.1⟩, ⟨x2.symm.trans m2, hk'.2⟩, ⟨x3.symm.trans m3, w3⟩, x4.symm.trans m4, w4⟩

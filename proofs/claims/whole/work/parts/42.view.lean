/-! a world as it is told: how many, DAY, WET, KIND, NUMBER, RUE, HAD of each, THE RULE's parts -/
abbrev zVw : Type := Nat × Int32 × Int32 × (Nat → Int32) × (Nat → Int32) × (Nat → Int32) × (Nat → Int32) × (Nat → (Nat → Int32) → Int32)
abbrev vN (V : zVw) : Nat := V.1
abbrev vDay (V : zVw) : Int32 := V.2.1
abbrev vWet (V : zVw) : Int32 := V.2.2.1
abbrev vKind (V : zVw) : Nat → Int32 := V.2.2.2.1
abbrev vNum (V : zVw) : Nat → Int32 := V.2.2.2.2.1
abbrev vRue (V : zVw) : Nat → Int32 := V.2.2.2.2.2.1
abbrev vHad (V : zVw) : Nat → Int32 := V.2.2.2.2.2.2.1
abbrev vT (V : zVw) : Nat → (Nat → Int32) → Int32 := V.2.2.2.2.2.2.2
/-- cut at n -/
def zt (n : Nat) (f : Nat → Int32) : Nat → Int32 := fun i => if i < n then f i else 0
theorem zt_lt {n i : Nat} (h : i < n) (f : Nat → Int32) : zt n f i = f i := if_pos h
theorem zt_ge {n i : Nat} (h : n ≤ i) (f : Nat → Int32) : zt n f i = 0 := if_neg (by omega)
theorem zt_congr {n : Nat} {f g : Nat → Int32} (h : ∀ i, i < n → f i = g i) : zt n f = zt n g := by
  funext i
  unfold zt
  by_cases hi : i < n
  · rw [if_pos hi, if_pos hi, h i hi]
  · rw [if_neg hi, if_neg hi]
theorem zt_zt (n : Nat) (f : Nat → Int32) : zt n (zt n f) = zt n f := zt_congr fun i hi => zt_lt hi f
def sMx (f : Nat → Int32) : Nat → Int32
  | 0 => 0
  | n + 1 => zmax (sMx f n) (f n)
theorem sMx_congr {f g : Nat → Int32} : ∀ {n : Nat}, (∀ i, i < n → f i = g i) → sMx f n = sMx g n
  | 0, _ => rfl
  | n + 1, h => by
    unfold sMx
    rw [sMx_congr (fun i hi => h i (Nat.lt_succ_of_lt hi)), h n (Nat.lt_succ_self n)]
def sNm (V : zVw) (i : Nat) : Nat → Int32 := fun k => if k = 0 then vRue V i else if k = 1 then vNum V i else if k = 2 then vWet V else if k = 3 then vDay V else if k = 4 then vHad V i else if k = 5 then sMx (vRue V) (vN V) else 0
def sTl (V : zVw) (p i : Nat) : Int32 := vT V p (sNm V i)
def sBd (lo hi v : Int32) : Int32 := zmax lo (zmin hi v)
def sRuns (V : zVw) (i : Nat) : Int32 :=
  sBd 0 9 (if vKind V i = 1 then sBd 0 99 (sTl V 0 i) + 1
    else if vKind V i = 2 then sBd 0 99 (sTl V 0 i) / 2
    else if vKind V i = 3 then (sBd 0 99 (sTl V 0 i) + 1) - vHad V i / 10
    else if vKind V i = 4 then (if zrm (vDay V) 7 = vNum V i then 9 else sBd 0 99 (sTl V 0 i) / 2)
    else if vKind V i = 5 then vNum V i else sBd 0 99 (sTl V 0 i))
def sClg (V : zVw) (i : Nat) : Int32 :=
  if vKind V i = 1 then (if sTl V 1 i = 0 then 0 else if vWet V ≤ 3 then 0 else 1)
  else if vKind V i = 2 then 0
  else if vKind V i = 3 then (if sTl V 1 i = 0 then (if vHad V i ≤ 50 then 0 else 1) else if vWet V ≤ 3 then (if vHad V i ≤ 50 then 0 else 1) else 1)
  else if vKind V i = 4 then 0
  else if sTl V 1 i = 0 then 0 else 1
def sRues (V : zVw) (i : Nat) : Int32 :=
  sBd 0 99 (if vKind V i = 1 then 2 * sBd 0 99 (sTl V 2 i)
    else if vKind V i = 2 then 0
    else if vKind V i = 3 then 2 * sBd 0 99 (sTl V 2 i) + vNum V i
    else if vKind V i = 4 then 1
    else if vKind V i = 5 then zmin (sBd 0 99 (sTl V 2 i)) 5 else sBd 0 99 (sTl V 2 i))
def sMin (V : zVw) (i : Nat) : Int32 := if sClg V i = 0 then sRuns V i else 0
def sDay (V : zVw) : zVw := (vN V, vDay V + 1, vWet V, vKind V, vNum V, (fun i => if i < vN V then zmin 999 (vRue V i + sRues V i) else vRue V i), vHad V, vT V)
def sDays (V : zVw) : Nat → zVw
  | 0 => V
  | n + 1 => sDay (sDays V n)
def sSum (f : Nat → Int32) : Nat → Int32
  | 0 => 0
  | n + 1 => sSum f n + f n
def sAll (V : zVw) : Int32 := sSum (vRue V) (vN V)
/-- who runs longest, and how long, of the first k -/
def sLon (V : zVw) : Nat → Int32 × Int32
  | 0 => (-1, -1)
  | k + 1 => if sMin V k ≤ (sLon V k).2 then sLon V k else (nI k, sMin V k)
def sClB (V : zVw) : Nat → Int32
  | 0 => 0
  | k + 1 => if sClg V k = 0 then sClB V k else sClB V k ||| zshl 1 (nI k)
def sSet (V : zVw) (day wet : Int32) (kind num rue had : Nat → Int32) : zVw := (vN V, day, wet, kind, num, rue, had, vT V)
/-! what a text is told depends on six names -/
theorem sS_congr {nm nm' : Nat → Int32} (h : ∀ k, k < 6 → nm k = nm' k) {c : Int32} (hc : c < 10006 ∨ 20000 ≤ c) (st : List Int32) : sS nm c st = sS nm' c st := by
  unfold sS
  by_cases c2 : c < 20000
  · rw [if_pos c2, if_pos c2]
    by_cases c1 : c < 10000
    · rw [if_pos c1, if_pos c1]
    · rw [if_neg c1, if_neg c1]
      have hc' : c < 10006 := hc.resolve_right (fun q => absurd c2 (Int32.not_lt.mpr q))
      have hlt : (c - 10000).toNatClampNeg < 6 := by
        rw [Int32.not_lt, Int32.le_iff_toInt_le] at c1
        rw [Int32.lt_iff_toInt_lt] at hc'
        have a2 : (10006 : Int32).toInt = 10006 := by decide
        have a3 : (10000 : Int32).toInt = 10000 := by decide
        rw [a3] at c1
        rw [a2] at hc'
        have e : (c - 10000).toInt = c.toInt - 10000 := by
          rw [Int32.toInt_sub, a3]
          exact Int.bmod_eq_of_le (by omega) (by omega)
        simp only [Int32.toNatClampNeg]
        omega
      rw [h _ hlt]
  · rw [if_neg c2, if_neg c2]
theorem sE_congr {nm nm' : Nat → Int32} (h : ∀ k, k < 6 → nm k = nm' k) : ∀ (l : List Int32) (n : Nat) (st : List Int32), wfc l n → sE nm l st = sE nm' l st
  | [], _, _, _ => rfl
  | c :: l, n, st, hw => by
    unfold sE
    rcases hw with ⟨w1, w2, w3, w4⟩ | ⟨w1, w2, w3, w4⟩ | ⟨w1, w2, w3⟩
    · rw [sS_congr h (Or.inl w2), sE_congr h l _ _ w4]
    · rw [sS_congr h (Or.inr w1), sE_congr h l _ _ w4]
    · rw [sS_congr h (Or.inr (Int32.le_trans (by decide) w1)), sE_congr h l _ _ w3]
theorem sV_congr {nm nm' : Nat → Int32} (h : ∀ k, k < 6 → nm k = nm' k) {l : List Int32} (hw : wfc l 0) : sV nm l = sV nm' l := by
  unfold sV
  rw [sE_congr h l 0 [] hw]
/-! the class's worlds -/
def SB : List Nat := [16, 23, 30, 35, 39, 43, 47, 51, 55]
def SC : List Nat := [15, 16, 22, 23, 29, 30, 35, 39, 43, 47, 51, 55]
theorem SBC {M M' : zM} (h : zO SB M M') : zO SC M M' := zO_mono h (fun i hi => by simp [SB] at hi; simp [SC]; omega)
/-- the codes of part p of text r -/
def cX (M : zM) (r p : Nat) : List Int32 :=
  (List.range ((M.1 (32 + 4 * r + 2) p).toNatClampNeg - (if p = 0 then 0 else (M.1 (32 + 4 * r + 2) (p - 1)).toNatClampNeg))).map (fun k => M.1 (32 + 4 * r + 1) ((if p = 0 then 0 else (M.1 (32 + 4 * r + 2) (p - 1)).toNatClampNeg) + k))
def tX (M : zM) (r : Nat) : Nat → (Nat → Int32) → Int32 := fun p nm => if p < 3 then sV nm (cX M r p) else 0
def vX (w : Nat) (M : zM) : zVw := ((M.1 w 7).toNatClampNeg, M.1 w 8, M.1 w 9, zt (M.1 w 7).toNatClampNeg (M.1 (w + 1)), zt (M.1 w 7).toNatClampNeg (M.1 (w + 2)), zt (M.1 w 7).toNatClampNeg (M.1 (w + 3)), zt (M.1 w 7).toNatClampNeg (M.1 (w + 4)), tX M (M.1 w 10).toNatClampNeg)
/-- text r is one -/
def okT (M : zM) (r : Nat) : Prop := (∃ e0 e1 e2 : Nat, e0 ≤ e1 ∧ e1 ≤ e2 ∧ e2 ≤ 160 ∧ M.1 (32 + 4 * r + 2) 0 = nI e0 ∧ M.1 (32 + 4 * r + 2) 1 = nI e1 ∧ M.1 (32 + 4 * r + 2) 2 = nI e2) ∧ ∀ p, p < 3 → wfc (cX M r p) 0
def okX (w : Nat) (M : zM) : Prop := (∃ n : Nat, n ≤ 5 ∧ M.1 w 7 = nI n) ∧ ∃ r : Nat, r < 6 ∧ M.1 w 10 = nI r ∧ okT M r
theorem cX_congr {M M' : zM} (h : zO SC M M') (r p : Nat) : cX M' r p = cX M r p := by
  have e1 : M'.1 (32 + 4 * r + 1) = M.1 (32 + 4 * r + 1) := h.2 _ (by simp [SC]; omega)
  have e2 : M'.1 (32 + 4 * r + 2) = M.1 (32 + 4 * r + 2) := h.2 _ (by simp [SC]; omega)
  unfold cX
  rw [e1, e2]
theorem tX_congr {M M' : zM} (h : zO SC M M') (r : Nat) : tX M' r = tX M r := by
  unfold tX
  funext p nm
  rw [cX_congr h]
theorem SC_w {w : Nat} (hw : isW w) (k : Nat) (hk : k < 5) : w + k ∉ SC := by
  rcases hw with rfl | rfl | rfl <;> rcases (show k = 0 ∨ k = 1 ∨ k = 2 ∨ k = 3 ∨ k = 4 by omega) with rfl | rfl | rfl | rfl | rfl <;> decide
theorem vX_congr {w : Nat} (hw : isW w) {M M' : zM} (h : zO SC M M') : vX w M' = vX w M := by
  have e0 : M'.1 w = M.1 w := h.2 _ (SC_w hw 0 (by omega))
  have e1 : M'.1 (w + 1) = M.1 (w + 1) := h.2 _ (SC_w hw 1 (by omega))
  have e2 : M'.1 (w + 2) = M.1 (w + 2) := h.2 _ (SC_w hw 2 (by omega))
  have e3 : M'.1 (w + 3) = M.1 (w + 3) := h.2 _ (SC_w hw 3 (by omega))
  have e4 : M'.1 (w + 4) = M.1 (w + 4) := h.2 _ (SC_w hw 4 (by omega))
  unfold vX
  rw [e0, e1, e2, e3, e4, tX_congr h]
theorem okT_congr {M M' : zM} (h : zO SC M M') {r : Nat} (hr : okT M r) : okT M' r := by
  have e2 : M'.1 (32 + 4 * r + 2) = M.1 (32 + 4 * r + 2) := h.2 _ (by simp [SC]; omega)
  unfold okT
  rw [e2]
  exact ⟨hr.1, fun p hp => by rw [cX_congr h]; exact hr.2 p hp⟩
theorem okX_congr {w : Nat} (hw : isW w) {M M' : zM} (h : zO SC M M') (hr : okX w M) : okX w M' := by
  have e0 : M'.1 w = M.1 w := h.2 _ (SC_w hw 0 (by omega))
  unfold okX
  rw [e0]
  obtain ⟨h1, r, h2, h3, h4⟩ := hr
  exact ⟨h1, r, h2, h3, okT_congr h h4⟩

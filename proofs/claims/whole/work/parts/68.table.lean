/-! what a table that goes on from all that can stand keeps -/
def gDu (A B C : Nat) : Nat → List Nat → Nat
  | _, [] => 0
  | s, x :: c => gS A B C s x + gDu A B C (gN A B C s x) c
theorem gOk_du {A B C : Nat} : ∀ {p : List Nat} {r s : Nat}, gOk A B C r s p → gDu A B C s p = r
  | [], r, _, h => by
    have e : r = 0 := h
    rw [e]; rfl
  | x :: c, r, s, ⟨_, _, h3, h4⟩ => by
    have := gOk_du h4
    show gS A B C s x + gDu A B C (gN A B C s x) c = r
    omega
def gTo (A B C m s : Nat) (p : List Nat) : Prop := gOk A B C m 0 p ∧ gEn A B C 0 p = s
/-- its last turn was among the first E -/
def gBef (A B C E : Nat) (p : List Nat) : Prop := ∀ q x, p = q ++ [x] → (gDu A B C 0 q * 1000 + gEn A B C 0 q) * 8 + x < E
theorem gBef_nil (A B C E : Nat) : gBef A B C E [] := fun q x h => by
  have := congrArg List.length h
  simp at this
theorem gBef_mono {A B C E E' : Nat} {p : List Nat} (h : gBef A B C E p) (hE : E ≤ E') : gBef A B C E' p := fun q x e => by
  have := h q x e
  omega
theorem snoc_inj {p q : List Nat} {x y : Nat} (h : p ++ [x] = q ++ [y]) : p = q ∧ x = y := by
  have := List.append_inj' h rfl
  exact ⟨this.1, by simpa using this.2⟩
theorem gTo_snoc {A B C m s x : Nat} {q : List Nat} (h : gTo A B C m s q) (hx : x < 8) (h0 : 0 < gS A B C s x) : gTo A B C (m + gS A B C s x) (gN A B C s x) (q ++ [x]) := by
  obtain ⟨h1, h2⟩ := h
  have := gOk_snoc h1 hx (by rw [h2]; exact h0)
  rw [h2] at this
  exact this
theorem gTo_last {A B C m s : Nat} {p : List Nat} (h : gTo A B C m s p) (hn : p ≠ []) : ∃ q x m0 s0, p = q ++ [x] ∧ x < 8 ∧ gTo A B C m0 s0 q ∧ 0 < gS A B C s0 x ∧ m = m0 + gS A B C s0 x ∧ s = gN A B C s0 x := by
  obtain ⟨h1, h2⟩ := h
  obtain ⟨q, x, e, a1, a2, a3, a4, a5⟩ := gOk_last h1 hn
  exact ⟨q, x, m - gS A B C (gEn A B C 0 q) x, gEn A B C 0 q, e, a1, ⟨a4, rfl⟩, a2, by omega, by rw [← h2, a5]⟩
theorem gBef_snoc {A B C m s x E : Nat} {q : List Nat} (h : gTo A B C m s q) : gBef A B C E (q ++ [x]) ↔ (m * 1000 + s) * 8 + x < E := by
  constructor
  · intro hb
    have := hb q x rfl
    rw [gOk_du h.1, h.2] at this
    exact this
  · intro hl q' x' e
    obtain ⟨e1, e2⟩ := snoc_inj e
    rw [← e1, ← e2, gOk_du h.1, h.2]
    exact hl
theorem gTo_W {A B C : Nat} (hA : A ≤ 9) (hB : B ≤ 9) (hC : C ≤ 9) {m s : Nat} {p : List Nat} (h : gTo A B C m s p) : gW A B C s := by
  rw [← h.2]
  exact gEn_W hA hB hC p 0 ⟨by omega, by omega, by omega, by omega⟩
/-- all to minute m have their last turn before -/
theorem gTo_bef {A B C : Nat} (hA : A ≤ 9) (hB : B ≤ 9) (hC : C ≤ 9) {m s E : Nat} {p : List Nat} (h : gTo A B C m s p) (hE : m * 8000 ≤ E) : gBef A B C E p := by
  by_cases hn : p = []
  · rw [hn]; exact gBef_nil _ _ _ _
  · obtain ⟨q, x, m0, s0, e, a1, a2, a3, a4, a5⟩ := gTo_last h hn
    have := (gTo_W hA hB hC a2).1
    rw [e, gBef_snoc a2]
    omega
/-- one turn more is looked at -/
theorem gBef_succ {A B C m s x m' s' : Nat} {p : List Nat} (hx : x < 8) (hs : s < 1000) (hA : A ≤ 9) (hB : B ≤ 9) (hC : C ≤ 9) (hp : gTo A B C m' s' p) : gBef A B C ((m * 1000 + s) * 8 + x + 1) p ↔ gBef A B C ((m * 1000 + s) * 8 + x) p ∨ ∃ q, p = q ++ [x] ∧ gTo A B C m s q ∧ 0 < gS A B C s x ∧ m' = m + gS A B C s x ∧ s' = gN A B C s x := by
  constructor
  · intro h
    by_cases hn : p = []
    · exact Or.inl (by rw [hn]; exact gBef_nil _ _ _ _)
    · obtain ⟨q, y, m0, s0, e, a1, a2, a3, a4, a5⟩ := gTo_last hp hn
      have w := (gTo_W hA hB hC a2).1
      rw [e, gBef_snoc a2] at h
      by_cases c : (m0 * 1000 + s0) * 8 + y < (m * 1000 + s) * 8 + x
      · exact Or.inl (by rw [e, gBef_snoc a2]; exact c)
      · have e1 : m0 = m := by omega
        have e2 : s0 = s := by omega
        have e3 : y = x := by omega
        subst e1 e2 e3
        exact Or.inr ⟨q, e, a2, a3, a4, a5⟩
  · rintro (h | ⟨q, e, a2, -, -, -⟩)
    · exact gBef_mono h (by omega)
    · rw [e, gBef_snoc a2]; omega
def gUp (W : Nat → Nat) (i v : Nat) : Nat → Nat := fun j => if j = i then v else W j
def gI (A B C m E t : Nat) (W : Nat → Nat) : Prop := ∀ m' s', m ≤ m' → m' ≤ m + 9 → m' ≤ 30 → s' < 1000 → (m' = m ∧ s' < t → W (m' % 10 * 1000 + s') = 9223372036854775807) ∧ (¬ (m' = m ∧ s' < t) → gMn gKey 9223372036854775807 (fun p => gTo A B C m' s' p ∧ gBef A B C E p) (W (m' % 10 * 1000 + s')))
theorem gIx {m m' a s s' : Nat} (h1 : m ≤ m') (h2 : m' ≤ m + 9) (h3 : m ≤ a) (h4 : a ≤ m + 9) (hs : s < 1000) (hs' : s' < 1000) : m' % 10 * 1000 + s' = a % 10 * 1000 + s ↔ m' = a ∧ s' = s := by
  constructor
  · intro h
    omega
  · rintro ⟨rfl, rfl⟩; rfl
theorem gI_0 {A B C : Nat} {W : Nat → Nat} (h : ∀ j, j < 10000 → W j = if j = 0 then 0 else 9223372036854775807) : gI A B C 0 0 0 W := by
  intro m' s' h1 h2 h3 h4
  refine ⟨fun q => absurd q.2 (by omega), fun _ => ?_⟩
  have bef : ∀ p, gBef A B C 0 p → p = [] := fun p hp => by
    by_cases hn : p = []
    · exact hn
    · have := hp p.dropLast (p.getLast hn) (List.dropLast_concat_getLast hn).symm
      omega
  rw [h _ (by omega)]
  by_cases c : m' % 10 * 1000 + s' = 0
  · rw [if_pos c]
    have e1 : m' = 0 := by omega
    have e2 : s' = 0 := by omega
    subst e1 e2
    exact Or.inr ⟨[], ⟨⟨rfl, rfl⟩, gBef_nil _ _ _ _⟩, rfl, fun q hq => by rw [bef q hq.2]; exact Nat.le_refl _⟩
  · rw [if_neg c]
    refine Or.inl ⟨rfl, fun p hp => c ?_⟩
    obtain ⟨⟨a, b⟩, d⟩ := hp
    rw [bef p d] at a b
    have e1 : m' = 0 := a
    have e2 : 0 = s' := b
    omega
theorem gI_at {A B C : Nat} (hA : A ≤ 9) (hB : B ≤ 9) (hC : C ≤ 9) {m s : Nat} {W : Nat → Nat} (hm : m ≤ 30) (hs : s < 1000) (h : gI A B C m ((m * 1000 + s) * 8) s W) : gMn gKey 9223372036854775807 (gTo A B C m s) (W (m % 10 * 1000 + s)) := by
  have := (h m s (Nat.le_refl _) (by omega) hm hs).2 (fun q => by omega)
  exact gMn_congr (fun p => ⟨fun q => q.1, fun q => ⟨q, gTo_bef hA hB hC q (by omega)⟩⟩) this
theorem gI_skip {A B C : Nat} (hA : A ≤ 9) (hB : B ≤ 9) (hC : C ≤ 9) {m s : Nat} {W : Nat → Nat} (hm : m ≤ 30) (hs : s < 1000) (h : gI A B C m ((m * 1000 + s) * 8) s W) (hN : W (m % 10 * 1000 + s) = 9223372036854775807) : gI A B C m ((m * 1000 + (s + 1)) * 8) (s + 1) W := by
  have no : ∀ p, ¬ gTo A B C m s p := by
    intro p hp
    have e := gI_at hA hB hC hm hs h
    rw [hN] at e
    rcases e with ⟨-, n⟩ | ⟨k, a, b, -⟩
    · exact n p hp
    · have := gKey_lt a.1 hm
      omega
  intro m' s' h1 h2 h3 h4
  obtain ⟨g1, g2⟩ := h m' s' h1 h2 h3 h4
  refine ⟨fun q => ?_, fun q => ?_⟩
  · by_cases c : s' = s
    · rw [q.1, c]; exact hN
    · exact g1 ⟨q.1, by omega⟩
  · refine gMn_congr (fun p => ⟨fun r => ⟨r.1, gBef_mono r.2 (by omega)⟩, fun r => ⟨r.1, ?_⟩⟩) (g2 (fun r => q ⟨r.1, by omega⟩))
    obtain ⟨r1, r2⟩ := r
    by_cases hn : p = []
    · rw [hn]; exact gBef_nil _ _ _ _
    · obtain ⟨u, y, m0, s0, e, a1, a2, a3, a4, a5⟩ := gTo_last r1 hn
      have w := (gTo_W hA hB hC a2).1
      rw [e, gBef_snoc a2] at r2 ⊢
      by_cases c : (m0 * 1000 + s0) * 8 + y < (m * 1000 + s) * 8
      · exact c
      · have e1 : m0 = m := by omega
        have e2 : s0 = s := by omega
        subst e1 e2
        exact absurd a2 (no u)
theorem gI_take {A B C m E s : Nat} {W : Nat → Nat} (hs : s < 1000) (h : gI A B C m E s W) : gI A B C m E (s + 1) (gUp W (m % 10 * 1000 + s) 9223372036854775807) := by
  intro m' s' h1 h2 h3 h4
  obtain ⟨g1, g2⟩ := h m' s' h1 h2 h3 h4
  have ix := gIx h1 h2 (Nat.le_refl m) (by omega) hs h4
  unfold gUp
  refine ⟨fun q => ?_, fun q => ?_⟩
  · by_cases c : s' = s
    · rw [if_pos (ix.mpr ⟨q.1, c⟩)]
    · rw [if_neg (fun r => c (ix.mp r).2)]; exact g1 ⟨q.1, by omega⟩
  · rw [if_neg (fun r => q ⟨(ix.mp r).1, by have := (ix.mp r).2; omega⟩)]
    exact g2 (fun r => q ⟨r.1, by omega⟩)
theorem gI_set {A B C : Nat} (hA : A ≤ 9) (hB : B ≤ 9) (hC : C ≤ 9) {m s x w : Nat} {W : Nat → Nat} (hm : m ≤ 30) (hs : s < 1000) (hx : x < 8) (hw : gMn gKey 9223372036854775807 (gTo A B C m s) w) (hw1 : w < 9223372036854775807) (h : gI A B C m ((m * 1000 + s) * 8 + x) (s + 1) W) : gI A B C m ((m * 1000 + s) * 8 + x + 1) (s + 1) (if 0 < gS A B C s x ∧ m + gS A B C s x ≤ 30 then gUp W ((m + gS A B C s x) % 10 * 1000 + gN A B C s x) (min (W ((m + gS A B C s x) % 10 * 1000 + gN A B C s x)) (gExt w x)) else W) := by
  obtain ⟨p0, hp0, ew, hmin⟩ : ∃ p, gTo A B C m s p ∧ w = gKey p ∧ ∀ q, gTo A B C m s q → gKey p ≤ gKey q := by
    rcases hw with ⟨a, -⟩ | h
    · omega
    · exact h
  have hW := gTo_W hA hB hC hp0
  have hS9 := gS_le hA hB hC hW x
  have hN := (gN_W hA hB hC hW x).1
  by_cases c : 0 < gS A B C s x ∧ m + gS A B C s x ≤ 30
  · rw [if_pos c]
    intro m' s' h1 h2 h3 h4
    obtain ⟨g1, g2⟩ := h m' s' h1 h2 h3 h4
    have ix := gIx h1 h2 (show m ≤ m + gS A B C s x by omega) (by omega) hN h4
    unfold gUp
    by_cases d : m' = m + gS A B C s x ∧ s' = gN A B C s x
    · rw [if_pos (ix.mpr d)]
      refine ⟨fun q => absurd q.1 (by omega), fun q => ?_⟩
      have g3 := g2 (fun r => by omega)
      rw [d.1, d.2] at g3
      have l0 := gOk_len hp0.1
      have hext : gMn gKey 9223372036854775807 (fun p => ∃ q, p = q ++ [x] ∧ gTo A B C m s q) (gExt w x) := by
        refine Or.inr ⟨p0 ++ [x], ⟨p0, rfl, hp0⟩, by rw [gKey_snoc (by omega), ew], ?_⟩
        rintro q ⟨u, rfl, hu⟩
        exact gKey_mono hp0.1 hu.1 hm (hmin u hu) hx
      have hun := gMn_union g3 hext (fun p hp => by
        rcases hp with hp | ⟨u, rfl, hu⟩
        · exact Nat.le_of_lt (gKey_lt hp.1.1 c.2)
        · exact Nat.le_of_lt (gKey_lt (gTo_snoc hu hx c.1).1 c.2))
      refine gMn_congr (fun p => ?_) hun
      rw [d.1, d.2]
      constructor
      · rintro (⟨r1, r2⟩ | ⟨u, rfl, hu⟩)
        · exact ⟨r1, gBef_mono r2 (by omega)⟩
        · exact ⟨gTo_snoc hu hx c.1, by rw [gBef_snoc hu]; omega⟩
      · rintro ⟨r1, r2⟩
        rcases (gBef_succ hx hs hA hB hC r1).mp r2 with r | ⟨u, r, hu, -, -, -⟩
        · exact Or.inl ⟨r1, r⟩
        · exact Or.inr ⟨u, r, hu⟩
    · rw [if_neg (fun r => d (ix.mp r))]
      refine ⟨g1, fun q => gMn_congr (fun p => ⟨fun r => ⟨r.1, gBef_mono r.2 (by omega)⟩, fun r => ⟨r.1, ?_⟩⟩) (g2 q)⟩
      rcases (gBef_succ hx hs hA hB hC r.1).mp r.2 with r' | ⟨u, -, -, -, e1, e2⟩
      · exact r'
      · exact absurd ⟨e1, e2⟩ d
  · rw [if_neg c]
    intro m' s' h1 h2 h3 h4
    obtain ⟨g1, g2⟩ := h m' s' h1 h2 h3 h4
    refine ⟨g1, fun q => gMn_congr (fun p => ⟨fun r => ⟨r.1, gBef_mono r.2 (by omega)⟩, fun r => ⟨r.1, ?_⟩⟩) (g2 q)⟩
    rcases (gBef_succ hx hs hA hB hC r.1).mp r.2 with r' | ⟨u, -, -, e0, e1, -⟩
    · exact r'
    · exact absurd ⟨e0, by omega⟩ c
theorem gI_next {A B C : Nat} (hA : A ≤ 9) (hB : B ≤ 9) (hC : C ≤ 9) {m : Nat} {W : Nat → Nat} (h : gI A B C m ((m * 1000 + 1000) * 8) 1000 W) : gI A B C (m + 1) (((m + 1) * 1000 + 0) * 8) 0 W := by
  intro m' s' h1 h2 h3 h4
  refine ⟨fun q => absurd q.2 (by omega), fun _ => ?_⟩
  by_cases c : m' = m + 10
  · have g := (h m s' (Nat.le_refl _) (by omega) (by omega) h4).1 ⟨rfl, h4⟩
    rw [show m' % 10 = m % 10 by omega, g]
    refine Or.inl ⟨rfl, fun p hp => ?_⟩
    obtain ⟨r1, r2⟩ := hp
    have hn : p ≠ [] := fun e => by
      rw [e] at r1
      have e0 : m' = 0 := r1.1
      omega
    obtain ⟨u, y, m0, s0, e, a1, a2, a3, a4, a5⟩ := gTo_last r1 hn
    have w := gS_le hA hB hC (gTo_W hA hB hC a2) y
    rw [e, gBef_snoc a2] at r2
    omega
  · have g := (h m' s' (by omega) (by omega) h3 h4).2 (fun q => by omega)
    rw [show ((m + 1) * 1000 + 0) * 8 = (m * 1000 + 1000) * 8 by omega]
    exact g
/-! what can be told at all -/
def gR (A B C E : Nat) (R : Nat → Prop) : Prop := ∀ m s, m ≤ 30 → s < 1000 → (R (1000 * m + s) ↔ ∃ p, gTo A B C m s p ∧ gBef A B C E p)
def gBt (A B C E : Nat) (b : Nat → Prop) : Prop := ∀ j, j ≤ 30 → (b j ↔ ∃ p, p ≠ [] ∧ gOk A B C j 0 p ∧ gBef A B C E p)
theorem gR_at {A B C : Nat} (hA : A ≤ 9) (hB : B ≤ 9) (hC : C ≤ 9) {m s E : Nat} {R : Nat → Prop} (hm : m ≤ 30) (hs : s < 1000) (hE : m * 8000 ≤ E) (h : gR A B C E R) : R (1000 * m + s) ↔ ∃ p, gTo A B C m s p := by
  rw [h m s hm hs]
  exact ⟨fun ⟨p, q, _⟩ => ⟨p, q⟩, fun ⟨p, q⟩ => ⟨p, q, gTo_bef hA hB hC q hE⟩⟩
/-- no way there: its turns add nothing -/
theorem gR_skip {A B C : Nat} (hA : A ≤ 9) (hB : B ≤ 9) (hC : C ≤ 9) {m s m' s' : Nat} {p : List Nat} (hs : s < 1000) (no : ∀ q, ¬ gTo A B C m s q) (hp : gTo A B C m' s' p) : gBef A B C ((m * 1000 + (s + 1)) * 8) p ↔ gBef A B C ((m * 1000 + s) * 8) p := by
  refine ⟨fun r2 => ?_, fun r => gBef_mono r (by omega)⟩
  by_cases hn : p = []
  · rw [hn]; exact gBef_nil _ _ _ _
  · obtain ⟨u, y, m0, s0, e, a1, a2, a3, a4, a5⟩ := gTo_last hp hn
    have w := (gTo_W hA hB hC a2).1
    rw [e, gBef_snoc a2] at r2 ⊢
    by_cases c : (m0 * 1000 + s0) * 8 + y < (m * 1000 + s) * 8
    · exact c
    · have e1 : m0 = m := by omega
      have e2 : s0 = s := by omega
      subst e1 e2
      exact absurd a2 (no u)
/-- a way there: one of its turns -/
theorem gR_set {A B C : Nat} (hA : A ≤ 9) (hB : B ≤ 9) (hC : C ≤ 9) {m s x : Nat} (hs : s < 1000) (hx : x < 8) {p0 : List Nat} (hp0 : gTo A B C m s p0) {m' s' : Nat} : (∃ p, gTo A B C m' s' p ∧ gBef A B C ((m * 1000 + s) * 8 + x + 1) p) ↔ (∃ p, gTo A B C m' s' p ∧ gBef A B C ((m * 1000 + s) * 8 + x) p) ∨ (0 < gS A B C s x ∧ m' = m + gS A B C s x ∧ s' = gN A B C s x) := by
  constructor
  · rintro ⟨p, h1, h2⟩
    rcases (gBef_succ hx hs hA hB hC h1).mp h2 with r | ⟨q, -, -, a, b, c⟩
    · exact Or.inl ⟨p, h1, r⟩
    · exact Or.inr ⟨a, b, c⟩
  · rintro (⟨p, h1, h2⟩ | ⟨a, b, c⟩)
    · exact ⟨p, h1, gBef_mono h2 (by omega)⟩
    · subst b c
      exact ⟨p0 ++ [x], gTo_snoc hp0 hx a, by rw [gBef_snoc hp0]; omega⟩
theorem gBt_set {A B C : Nat} (hA : A ≤ 9) (hB : B ≤ 9) (hC : C ≤ 9) {m s x : Nat} (hs : s < 1000) (hx : x < 8) {p0 : List Nat} (hp0 : gTo A B C m s p0) {j : Nat} : (∃ p, p ≠ [] ∧ gOk A B C j 0 p ∧ gBef A B C ((m * 1000 + s) * 8 + x + 1) p) ↔ (∃ p, p ≠ [] ∧ gOk A B C j 0 p ∧ gBef A B C ((m * 1000 + s) * 8 + x) p) ∨ (0 < gS A B C s x ∧ j = m + gS A B C s x) := by
  constructor
  · rintro ⟨p, h0, h1, h2⟩
    rcases (gBef_succ hx hs hA hB hC (⟨h1, rfl⟩ : gTo A B C j (gEn A B C 0 p) p)).mp h2 with r | ⟨q, -, -, a, b, c⟩
    · exact Or.inl ⟨p, h0, h1, r⟩
    · exact Or.inr ⟨a, b⟩
  · rintro (⟨p, h0, h1, h2⟩ | ⟨a, b⟩)
    · exact ⟨p, h0, h1, gBef_mono h2 (by omega)⟩
    · subst b
      exact ⟨p0 ++ [x], by simp, (gTo_snoc hp0 hx a).1, by rw [gBef_snoc hp0]; omega⟩

/-! texts: tokens; the reference goes on by one -/
abbrev zTk : Type := (Nat → Nat) × (Nat → Nat) × (Nat → Nat) × (Nat → Nat)
def tk (T : zTk) (i : Nat) : Nat := T.1 i
def tv (T : zTk) (i : Nat) : Nat := T.2.1 i
def tf (T : zTk) (i : Nat) : Nat := T.2.2.1 i
def tt (T : zTk) (i : Nat) : Nat := T.2.2.2 i
def rkTok (k : Nat) : Nat := if k = 0 then 101 else if k = 1 then 120 else if k = 2 then 48 else if k ≤ 9 then 119 else k
def wcd (k v : Nat) : Nat := if k = 3 then (if v = 0 then 13694 else if v = 1 then 212302449 else if v = 2 then 16922 else if v = 3 then 2968 else if v = 4 then 5863 else 267347) else if k = 4 then 370000 else if k = 5 then 1841662 else if k = 6 then 369757 else if k = 7 then 423 else if k = 8 then 1111 else 10631
def okK (k : Nat) : Prop := k ≤ 9 ∨ k = 40 ∨ k = 41 ∨ k = 42 ∨ k = 43 ∨ k = 45 ∨ k = 59 ∨ k = 60 ∨ k = 61
def okTk (T : zTk) : Prop := ∀ i, okK (tk T i) ∧ (tk T i = 2 → tv T i ≤ 9999) ∧ (tk T i = 3 → tv T i ≤ 5) ∧ (tk T i ≠ 0 → i < 160)
def rTok (z : Nat) (b : Nat → Int32) (T : zTk) (M : zM) (i : Nat) : Prop := M.1 0 8 = nI z ∧ M.1 5 = b ∧ M.1 0 15 = nI (tf T i) ∧ M.1 0 16 = nI (tt T i) ∧ M.1 0 17 = nI (rkTok (tk T i)) ∧ (tk T i = 2 → M.1 0 18 = nI (tv T i)) ∧ (3 ≤ tk T i → tk T i ≤ 9 → M.1 0 19 = nI (wcd (tk T i) (tv T i)))
theorem rTok_F {z : Nat} {b : Nat → Int32} {T : zTk} {M M' : zM} {i : Nat} (h : rTok z b T M i) (h5 : M'.1 5 = M.1 5) (hf : ∀ k, k ∈ [8, 15, 16, 17, 18, 19] → M'.1 0 k = M.1 0 k) : rTok z b T M' i := by
  unfold rTok
  rw [h5, hf 8 (by decide), hf 15 (by decide), hf 16 (by decide), hf 17 (by decide), hf 18 (by decide), hf 19 (by decide)]
  exact h
def rNx (M M' : zM) : Prop := M'.2 = M.2 ∧ (∀ i, i ≠ 0 → M'.1 i = M.1 i) ∧ ∀ k, k ∉ [15, 16, 17, 18, 19] → M'.1 0 k = M.1 0 k
def hNM (z : Nat) (b : Nat → Int32) (T : zTk) : Prop := ∀ i M, rTok z b T M i → tk T i ≠ 0 → ∃ M', fX6_next M = some M' ∧ rTok z b T M' (i + 1) ∧ rNx M M'
def rF (base : Nat) (M M' : zM) : Prop := M'.2 = M.2 ∧ (∀ i, i ≠ 0 → i ≠ 8 → i ≠ 9 → M'.1 i = M.1 i) ∧ (∀ k, k ∉ [14, 15, 16, 17, 18, 19, 21, 22, 23, 24, 25] → M'.1 0 k = M.1 0 k) ∧ ∀ k, k < base → M'.1 8 k = M.1 8 k
theorem rF_refl (base : Nat) (M : zM) : rF base M M := ⟨rfl, fun _ _ _ _ => rfl, fun _ _ => rfl, fun _ _ => rfl⟩
theorem rF_trans {base : Nat} {M M' M'' : zM} (h1 : rF base M M') (h2 : rF base M' M'') : rF base M M'' := ⟨h2.1.trans h1.1, fun i a b c => (h2.2.1 i a b c).trans (h1.2.1 i a b c), fun k a => (h2.2.2.1 k a).trans (h1.2.2.1 k a), fun k a => (h2.2.2.2 k a).trans (h1.2.2.2 k a)⟩
theorem rF_0 {base : Nat} {M M' : zM} (h : rF0 base M M') : rF base M M' := ⟨h.1, h.2.1, fun k hk => h.2.2.1 k (fun q => hk (by rw [q]; decide)) (fun q => hk (by rw [q]; decide)) (fun q => hk (by rw [q]; decide)), h.2.2.2⟩
theorem rF_n {base : Nat} {M M' : zM} (h : rNx M M') : rF base M M' := ⟨h.1, fun i a _ _ => h.2.1 i a, fun k hk => h.2.2 k (fun q => hk (by
  simp only [List.mem_cons, List.not_mem_nil, or_false] at q ⊢
  omega)), fun k _ => by rw [h.2.1 8 (by decide)]⟩
theorem rF_zu (base : Nat) (M : zM) {k : Nat} (hk : k ∈ [14, 15, 16, 17, 18, 19, 21, 22, 23, 24, 25]) (v : Int32) : rF base M (zu M 0 k v) := ⟨rfl, fun i a _ _ => zu_row _ a _ _, fun q hq => zu_other _ _ (fun e => hq (by rw [e]; exact hk)) _, fun q _ => by rw [zu_row _ (by decide)]⟩
theorem rStk_zu {base : Nat} {C W : List Int32} {M : zM} (h : rStk base C W M) {k : Nat} (h14 : k ≠ 14) (h21 : k ≠ 21) (h22 : k ≠ 22) (v : Int32) : rStk base C W (zu M 0 k v) := by
  obtain ⟨a, b, c, d, e⟩ := h
  exact ⟨by rw [zu_other _ _ (Ne.symm h14)]; exact a, by rw [zu_row _ (by decide)]; exact b, by rw [zu_other _ _ (Ne.symm h21)]; exact c, by rw [zu_row _ (by decide)]; exact d, by rw [zu_other _ _ (Ne.symm h22)]; exact e⟩
theorem rStk_n {base : Nat} {C W : List Int32} {M M' : zM} (h : rStk base C W M) (hn : rNx M M') : rStk base C W M' := by
  unfold rStk
  rw [hn.2.2 14 (by decide), hn.2.2 21 (by decide), hn.2.2 22 (by decide), hn.2.1 8 (by decide), hn.2.1 9 (by decide)]
  exact h
theorem rTok_0 {z : Nat} {b : Nat → Int32} {T : zTk} {M M' : zM} {i base : Nat} (h : rTok z b T M i) (hf : rF0 base M M') : rTok z b T M' i := rTok_F h (hf.2.1 5 (by decide) (by decide) (by decide)) (fun k hk => by
  simp only [List.mem_cons, List.not_mem_nil, or_false] at hk
  exact hf.2.2.1 k (by omega) (by omega) (by omega))
theorem rTok_zu {z : Nat} {b : Nat → Int32} {T : zTk} {M : zM} {i : Nat} (h : rTok z b T M i) {k : Nat} (hk : k ∈ [14, 21, 22, 23, 24, 25]) (v : Int32) : rTok z b T (zu M 0 k v) i := rTok_F h (zu_row _ (by decide) _ _) (fun q hq => zu_other _ _ (fun e => by
  rw [e] at hq
  simp only [List.mem_cons, List.not_mem_nil, or_false] at hk hq
  omega) _)
/-- where the reference stands: at token i; coded C, waiting W -/
def rSt (z : Nat) (b : Nat → Int32) (T : zTk) (M : zM) (i base : Nat) (C W : List Int32) (cmp beh st : Nat) : Prop := rTok z b T M i ∧ rStk base C W M ∧ M.1 0 23 = nI cmp ∧ M.1 0 24 = nI beh ∧ M.1 0 25 = nI st ∧ C.length + W.length ≤ i ∧ base + 170 ≤ 3000 ∧ cmp ≤ 1
/-- next, from there -/
theorem rSt_next {z : Nat} {b : Nat → Int32} {T : zTk} (hN : hNM z b T) {M : zM} {i base : Nat} {C W : List Int32} {cmp beh st : Nat} (ht : rTok z b T M i) (hk : tk T i ≠ 0) (hs : rStk base C W M) (h23 : M.1 0 23 = nI cmp) (h24 : M.1 0 24 = nI beh) (h25 : M.1 0 25 = nI st) (hl : C.length + W.length ≤ i + 1) (hb : base + 170 ≤ 3000) (hc : cmp ≤ 1) : ∃ M', fX6_next M = some M' ∧ rSt z b T M' (i + 1) base C W cmp beh st ∧ rF base M M' := by
  obtain ⟨M', n1, n2, n3⟩ := hN i M ht hk
  exact ⟨M', n1, ⟨n2, rStk_n hs n3, by rw [n3.2.2 23 (by decide)]; exact h23, by rw [n3.2.2 24 (by decide)]; exact h24, by rw [n3.2.2 25 (by decide)]; exact h25, hl, hb, hc⟩, rF_n n3⟩
def nmd (w : Int32) : Int32 := if w = 2968 then 3 else if w = 5863 then 4 else if w = 13694 then 0 else if w = 16922 then 2 else if w = 267347 then 5 else if w = 212302449 then 1 else -1
theorem named_f (M : zM) : fX6_named M = some (nmd (M.1 0 19), M) := by
  unfold fX6_named nmd
  repeat' split
  all_goals rfl
theorem nmd_3 : ∀ v, v < 6 → nmd (nI (wcd 3 v)) = nI v := by decide
theorem nmd_k : ∀ k, k < 10 → 4 ≤ k → ∀ v, nmd (nI (wcd k v)) = -1 := by
  intro k hk h4 v
  rcases (show k = 4 ∨ k = 5 ∨ k = 6 ∨ k = 7 ∨ k = 8 ∨ k = 9 by omega) with rfl | rfl | rfl | rfl | rfl | rfl <;> rfl
theorem rkTok_9 {k : Nat} (h : okK k) : (nI (rkTok k) = 119 ↔ 3 ≤ k ∧ k ≤ 9) ∧ (nI (rkTok k) = 48 ↔ k = 2) ∧ (nI (rkTok k) = 45 ↔ k = 45) ∧ (nI (rkTok k) = 40 ↔ k = 40) ∧ (nI (rkTok k) = 41 ↔ k = 41) ∧ (nI (rkTok k) = 59 ↔ k = 59) ∧ (nI (rkTok k) = 42 ↔ k = 42) ∧ (nI (rkTok k) = 43 ↔ k = 43) ∧ (nI (rkTok k) = 60 ↔ k = 60) ∧ (nI (rkTok k) = 61 ↔ k = 61) ∧ (nI (rkTok k) = 101 ↔ k = 0) := by
  rcases h with h | rfl | rfl | rfl | rfl | rfl | rfl | rfl | rfl
  · rcases (show k = 0 ∨ k = 1 ∨ k = 2 ∨ k = 3 ∨ k = 4 ∨ k = 5 ∨ k = 6 ∨ k = 7 ∨ k = 8 ∨ k = 9 by omega) with rfl | rfl | rfl | rfl | rfl | rfl | rfl | rfl | rfl | rfl <;> decide
  all_goals decide
/-- the sign a token is, behind a one -/
def sgT (k cmp : Nat) : Int32 := if k = 42 then 8 else if k = 43 then 6 else if k = 45 then 7 else if k = 60 then (if cmp = 0 then 9 else -1) else if k = 61 then (if cmp = 0 then 10 else -1) else if k = 8 then 11 else if k = 7 then 12 else -1
theorem zbo_1 : zbo (1 : Int32) = true := by decide
theorem zbo_0 : zbo (0 : Int32) = true := by decide
/-- the code of a ONE -/
def cOne (T : zTk) (i : Nat) : Int32 := if tk T i = 2 then nI (15 + tv T i) else nI (tv T i)
theorem one49 {base i z : Nat} {b : Nat → Int32} {T : zTk} {C W : List Int32} {M : zM} {cmp beh st : Nat} (h : rSt z b T M i base C W cmp beh st) (hi : i < 160) (c : Int32) : ∃ M', fX6_one_J49 c M = some (1, M') ∧ rTok z b T M' i ∧ rStk base (lay 7 W (C ++ [c])).1 (lay 7 W (C ++ [c])).2 M' ∧ M'.1 0 23 = nI cmp ∧ M'.1 0 24 = nI 1 ∧ M'.1 0 25 = nI st ∧ rF base M M' := by
  obtain ⟨ht, hs, h23, h24, h25, hl, hb, -⟩ := h
  obtain ⟨M1, c1, c2, c3, -, -, -⟩ := codes_e hs (by omega) c
  have lenC : (C ++ [c]).length = C.length + 1 := by rw [List.length_append]; rfl
  obtain ⟨M2, l1, l2, l3⟩ := lays_e (k := 7) (by omega) (by omega) c2 (by rw [lenC]; omega) (by omega)
  have hf := rF0_trans c3 l3
  refine ⟨zu M2 0 24 1, ?_, rTok_zu (rTok_0 ht hf) (by decide) _, rStk_zu l2 (by decide) (by decide) (by decide) _, ?_, ?_, ?_, rF_trans (rF_0 hf) (rF_zu _ _ (by decide) _)⟩
  · unfold fX6_one_J49
    have l1' : fX6_lays (7 : Int32) M1 = some M2 := l1
    rw [zV_s c1, zV_s l1', zL_r]
  · rw [zu_other _ _ (by decide), hf.2.2.1 23 (by decide) (by decide) (by decide)]; exact h23
  · rw [zu_same]; rfl
  · rw [zu_other _ _ (by decide), hf.2.2.1 25 (by decide) (by decide) (by decide)]; exact h25
theorem ne_m1 {v : Nat} (h : v < 2 ^ 31) : ¬ nI v = -1 := fun q => nI_pos h (by rw [q]; decide)
/-- a ONE -/
theorem one_v {base i z : Nat} {b : Nat → Int32} {T : zTk} (hT : okTk T) {C W : List Int32} {M : zM} {cmp beh st : Nat} (h : rSt z b T M i base C W cmp beh st) (hk : tk T i = 2 ∨ tk T i = 3) (x : Int32) : ∃ M', fX6_one x M = some (1, M') ∧ rTok z b T M' i ∧ rStk base (lay 7 W (C ++ [cOne T i])).1 (lay 7 W (C ++ [cOne T i])).2 M' ∧ M'.1 0 23 = nI cmp ∧ M'.1 0 24 = nI 1 ∧ M'.1 0 25 = nI st ∧ rF base M M' := by
  obtain ⟨k1, k2, k3, k4⟩ := hT i
  have hi := k4 (by omega)
  obtain ⟨g1, g2, g3, g4, g5, g6, g7⟩ := id h.1
  obtain ⟨t119, t48, -⟩ := rkTok_9 k1
  obtain ⟨M', q1, q2⟩ := one49 h hi (cOne T i)
  refine ⟨M', ?_, q2⟩
  rw [← q1]
  unfold fX6_one
  rw [g5]
  rcases hk with hk | hk
  · rw [if_neg (fun q => by have := t119.mp q; omega)]
    unfold fX6_one_J17
    rw [g5, if_pos (t48.mpr hk), if_pos rfl, g6 hk, show (15 : Int32) = nI 15 from rfl, nI_add]
    unfold cOne
    rw [if_pos hk]
  · rw [if_pos (t119.mpr (by omega)), zB_s (named_f M), g7 (by omega) (by omega), hk, nmd_3 _ (by have := k3 hk; omega)]
    unfold fX6_one_J17
    have hv := k3 hk
    rw [g5, if_neg (fun q => by have := t48.mp q; omega), if_neg (ne_m1 (by omega)), if_neg (ne_m1 (by omega))]
    unfold cOne
    rw [if_neg (by omega)]
/-- what opens one -/
theorem one_o {base i z : Nat} {b : Nat → Int32} {T : zTk} (hT : okTk T) {C W : List Int32} {M : zM} {cmp beh st : Nat} (h : rSt z b T M i base C W cmp beh st) (hs1 : st ≤ 1) (hk : (tk T i = 9 ∧ st = 1) ∨ tk T i = 45 ∨ tk T i = 40) (ho : opn W < 5) : ∃ M', fX6_one (nI st) M = some (1, M') ∧ rTok z b T M' i ∧ rStk base C ((if tk T i = 9 then 13 else if tk T i = 45 then 14 else if cmp = 0 then -1 else -2) :: W) M' ∧ M'.1 0 23 = nI (if tk T i = 40 then 0 else cmp) ∧ M'.1 0 24 = nI beh ∧ M'.1 0 25 = nI (if tk T i = 45 then 0 else 1) ∧ rF base M M' := by
  obtain ⟨k1, k2, k3, k4⟩ := hT i
  have hi := k4 (by omega)
  obtain ⟨ht, hs, h23, h24, h25, hl, hb, hc⟩ := id h
  obtain ⟨g1, g2, g3, g4, g5, g6, g7⟩ := id ht
  obtain ⟨t119, t48, t45, t40, -⟩ := rkTok_9 k1
  have h22 := hs.2.2.2.2
  have no5 : ¬ M.1 0 22 = 5 := by
    rw [h22, show (5 : Int32) = nI 5 from rfl, nI_eq (by omega) (by omega)]
    omega
  rcases hk with ⟨hk, e1⟩ | hk | hk
  · -- not
    subst e1
    obtain ⟨M1, p1, p2, p3⟩ := push_e hs (by omega) (13 : Int32)
    have g5' : M1.1 0 17 = nI (rkTok (tk T i)) := by rw [p3.2.2.1 17 (by decide) (by decide) (by decide)]; exact g5
    refine ⟨zu M1 0 25 1, ?_, rTok_zu (rTok_0 ht p3) (by decide) _, ?_, ?_, ?_, ?_, rF_trans (rF_0 p3) (rF_zu _ _ (by decide) _)⟩
    · unfold fX6_one
      rw [g5, if_pos (t119.mpr (by omega)), zB_s (named_f M), g7 (by omega) (by omega), nmd_k _ (by omega) (by omega)]
      unfold fX6_one_J17
      rw [g5, if_neg (fun q => by have := t48.mp q; omega), if_pos rfl, if_neg (show ¬ nI 1 = 0 by decide), if_pos (t119.mpr (by omega)), g7 (by omega) (by omega), hk, if_pos (show nI (wcd 9 (tv T i)) = 10631 from rfl)]
      unfold fX6_one_J93
      rw [if_neg (show ¬ (1 : Int32) = 0 by decide)]
      unfold fX6_one_J116
      rw [if_neg no5, g5, if_neg (fun q => by have := t40.mp q; omega), if_neg (show ¬ (1 : Int32) = 0 by decide), zV_s p1]
      unfold fX6_one_J175
      rw [g5', if_neg (fun q => by have := t45.mp q; omega), zL_r]
    · rw [if_pos hk]; exact rStk_zu p2 (by decide) (by decide) (by decide) _
    · rw [zu_other _ _ (by decide), p3.2.2.1 23 (by decide) (by decide) (by decide), if_neg (by omega)]; exact h23
    · rw [zu_other _ _ (by decide), p3.2.2.1 24 (by decide) (by decide) (by decide)]; exact h24
    · rw [zu_same, if_neg (by omega)]; rfl
  · -- minus
    obtain ⟨M1, p1, p2, p3⟩ := push_e hs (by omega) (14 : Int32)
    have g5' : M1.1 0 17 = nI (rkTok (tk T i)) := by rw [p3.2.2.1 17 (by decide) (by decide) (by decide)]; exact g5
    have hJ : fX6_one_J93 (0 : Int32) M = some (1, zu M1 0 25 0) := by
      unfold fX6_one_J93
      rw [if_pos rfl, g5, if_pos (t45.mpr hk)]
      unfold fX6_one_J116
      rw [if_neg no5, g5, if_neg (fun q => by have := t40.mp q; omega), if_pos rfl, zV_s p1]
      unfold fX6_one_J175
      rw [g5', if_pos (t45.mpr hk), zL_r]
    refine ⟨zu M1 0 25 0, ?_, rTok_zu (rTok_0 ht p3) (by decide) _, ?_, ?_, ?_, ?_, rF_trans (rF_0 p3) (rF_zu _ _ (by decide) _)⟩
    · unfold fX6_one
      rw [g5, if_neg (fun q => by have := t119.mp q; omega)]
      unfold fX6_one_J17
      rw [g5, if_neg (fun q => by have := t48.mp q; omega), if_pos rfl]
      by_cases c : nI st = 0
      · rw [if_pos c, hJ]
      · rw [if_neg c, if_neg (show ¬ nI (rkTok (tk T i)) = 119 from fun q => by have := t119.mp q; omega), hJ]
    · rw [if_neg (by omega), if_pos hk]; exact rStk_zu p2 (by decide) (by decide) (by decide) _
    · rw [zu_other _ _ (by decide), p3.2.2.1 23 (by decide) (by decide) (by decide), if_neg (by omega)]; exact h23
    · rw [zu_other _ _ (by decide), p3.2.2.1 24 (by decide) (by decide) (by decide)]; exact h24
    · rw [zu_same, if_pos hk]; rfl
  · -- bracket
    obtain ⟨M1, p1, p2, p3⟩ := push_e hs (by omega) (if cmp = 0 then (-1 : Int32) else -2)
    have g5' : (zu M1 0 23 0).1 0 17 = nI (rkTok (tk T i)) := by rw [zu_other _ _ (by decide), p3.2.2.1 17 (by decide) (by decide) (by decide)]; exact g5
    have hJ : fX6_one_J93 (0 : Int32) M = some (1, zu (zu M1 0 23 0) 0 25 1) := by
      have h149 : ∀ v, fX6_push v M = some M1 → fX6_one_J149 v M = some (1, zu (zu M1 0 23 0) 0 25 1) := fun v hv => by
        unfold fX6_one_J149
        rw [zV_s hv, zL_r]
        unfold fX6_one_J175
        rw [g5', if_neg (fun q => by have := t45.mp q; omega), zL_r]
      unfold fX6_one_J93
      rw [if_pos rfl, g5, if_neg (fun q => by have := t45.mp q; omega), if_pos (t40.mpr hk)]
      unfold fX6_one_J116
      rw [if_neg no5, g5, if_pos (t40.mpr hk), h23]
      by_cases c : cmp = 0
      · rw [if_pos c] at p1
        rw [if_pos ((nI_z0 (by omega)).mpr c)]
        exact h149 _ p1
      · rw [if_neg c] at p1
        rw [if_neg (fun q => c ((nI_z0 (by omega)).mp q))]
        exact h149 _ p1
    refine ⟨zu (zu M1 0 23 0) 0 25 1, ?_, rTok_zu (rTok_zu (rTok_0 ht p3) (by decide) _) (by decide) _, ?_, ?_, ?_, ?_, rF_trans (rF_trans (rF_0 p3) (rF_zu _ _ (by decide) _)) (rF_zu _ _ (by decide) _)⟩
    · unfold fX6_one
      rw [g5, if_neg (fun q => by have := t119.mp q; omega)]
      unfold fX6_one_J17
      rw [g5, if_neg (fun q => by have := t48.mp q; omega), if_pos rfl]
      by_cases c : nI st = 0
      · rw [if_pos c, hJ]
      · rw [if_neg c, if_neg (show ¬ nI (rkTok (tk T i)) = 119 from fun q => by have := t119.mp q; omega), hJ]
    · rw [if_neg (by omega), if_neg (by omega)]; exact rStk_zu (rStk_zu p2 (by decide) (by decide) (by decide) _) (by decide) (by decide) (by decide) _
    · rw [zu_other _ _ (by decide), zu_same, if_pos hk]; rfl
    · rw [zu_other _ _ (by decide), zu_other _ _ (by decide), p3.2.2.1 24 (by decide) (by decide) (by decide)]; exact h24
    · rw [zu_same, if_neg (by omega)]; rfl
/-- none -/
theorem one_n {base i z : Nat} {b : Nat → Int32} {T : zTk} (hT : okTk T) {C W : List Int32} {M : zM} {cmp beh st : Nat} (h : rSt z b T M i base C W cmp beh st) (hs1 : st ≤ 1) (h2 : tk T i ≠ 2) (h3 : tk T i ≠ 3) (hk : (¬ (tk T i = 9 ∧ st = 1) ∧ tk T i ≠ 45 ∧ tk T i ≠ 40) ∨ opn W = 5) : fX6_one (nI st) M = some (0, M) := by
  obtain ⟨k1, k2, k3, k4⟩ := hT i
  obtain ⟨ht, hs, h23, h24, h25, hl, hb, hc⟩ := id h
  obtain ⟨g1, g2, g3, g4, g5, g6, g7⟩ := id ht
  obtain ⟨t119, t48, t45, t40, -⟩ := rkTok_9 k1
  have h22 := hs.2.2.2.2
  have h116 : ∀ x, opn W = 5 → fX6_one_J116 x M = some (0, M) := fun x e => by
    unfold fX6_one_J116
    rw [h22, e, if_pos (show nI 5 = 5 from rfl)]
  have h93 : (tk T i ≠ 45 ∧ tk T i ≠ 40) ∨ opn W = 5 → fX6_one_J93 (0 : Int32) M = some (0, M) := fun q => by
    unfold fX6_one_J93
    rw [if_pos rfl, g5]
    by_cases c : tk T i = 45
    · rw [if_pos (t45.mpr c)]
      exact h116 _ (by omega)
    · rw [if_neg (fun q => c (t45.mp q))]
      by_cases d : tk T i = 40
      · rw [if_pos (t40.mpr d)]
        exact h116 _ (by omega)
      · rw [if_neg (fun q => d (t40.mp q))]
  have h17 : fX6_one_J17 (nI st) (-1 : Int32) M = some (0, M) := by
    unfold fX6_one_J17
    rw [g5, if_neg (fun q => h2 (t48.mp q)), if_pos rfl]
    by_cases c : st = 0
    · rw [if_pos ((nI_z0 (by omega)).mpr c)]
      exact h93 (by omega)
    · rw [if_neg (fun q => c ((nI_z0 (by omega)).mp q))]
      by_cases d : 3 ≤ tk T i ∧ tk T i ≤ 9
      · rw [if_pos (t119.mpr d), g7 d.1 d.2]
        by_cases e : tk T i = 9
        · rw [e, if_pos (show nI (wcd 9 (tv T i)) = 10631 from rfl)]
          unfold fX6_one_J93
          rw [if_neg (show ¬ (1 : Int32) = 0 by decide)]
          exact h116 _ (by omega)
        · rw [if_neg]
          · exact h93 (by omega)
          · rcases (show tk T i = 4 ∨ tk T i = 5 ∨ tk T i = 6 ∨ tk T i = 7 ∨ tk T i = 8 by omega) with w | w | w | w | w <;> rw [w]
            · exact (by decide : ¬ nI 370000 = (10631 : Int32))
            · exact (by decide : ¬ nI 1841662 = (10631 : Int32))
            · exact (by decide : ¬ nI 369757 = (10631 : Int32))
            · exact (by decide : ¬ nI 423 = (10631 : Int32))
            · exact (by decide : ¬ nI 1111 = (10631 : Int32))
      · rw [if_neg (fun q => d (t119.mp q))]
        exact h93 (by omega)
  unfold fX6_one
  rw [g5]
  by_cases c : 3 ≤ tk T i ∧ tk T i ≤ 9
  · rw [if_pos (t119.mpr c), zB_s (named_f M), g7 c.1 c.2, nmd_k _ (by omega) (by omega)]
    exact h17
  · rw [if_neg (fun q => c (t119.mp q))]
    exact h17
theorem signed_e {base i z : Nat} {b : Nat → Int32} {T : zTk} (hT : okTk T) {C W : List Int32} {M : zM} {cmp beh st : Nat} (h : rSt z b T M i base C W cmp beh st) : fX6_signed M = some (sgT (tk T i) cmp, M) := by
  obtain ⟨k1, k2, k3, k4⟩ := hT i
  obtain ⟨ht, hs, h23, h24, h25, hl, hb, hc⟩ := id h
  obtain ⟨g1, g2, g3, g4, g5, g6, g7⟩ := id ht
  obtain ⟨t119, t48, t45, t40, t41, t59, t42, t43, t60, t61, -⟩ := rkTok_9 k1
  have c0 : nI cmp = 0 ↔ cmp = 0 := nI_z0 (by omega)
  unfold fX6_signed sgT
  rw [g5, h23]
  by_cases a : tk T i = 42
  · rw [if_pos (t42.mpr a), if_pos a]
  rw [if_neg (fun q => a (t42.mp q)), if_neg a]
  by_cases a : tk T i = 43
  · rw [if_pos (t43.mpr a), if_pos a]
  rw [if_neg (fun q => a (t43.mp q)), if_neg a]
  by_cases a : tk T i = 45
  · rw [if_pos (t45.mpr a), if_pos a]
  rw [if_neg (fun q => a (t45.mp q)), if_neg a]
  by_cases a : tk T i = 60
  · rw [if_pos (t60.mpr a), if_pos a]
    by_cases d : cmp = 0
    · rw [if_pos (c0.mpr d), if_pos d]
    · rw [if_neg (fun q => d (c0.mp q)), if_neg d]
  rw [if_neg (fun q => a (t60.mp q)), if_neg a]
  by_cases a : tk T i = 61
  · rw [if_pos (t61.mpr a), if_pos a]
    by_cases d : cmp = 0
    · rw [if_pos (c0.mpr d), if_pos d]
    · rw [if_neg (fun q => d (c0.mp q)), if_neg d]
  rw [if_neg (fun q => a (t61.mp q)), if_neg a]
  by_cases c : 3 ≤ tk T i ∧ tk T i ≤ 9
  · rw [if_pos (t119.mpr c), g7 c.1 c.2]
    by_cases a8 : tk T i = 8
    · rw [if_pos a8, a8, if_pos (show nI (wcd 8 (tv T i)) = 1111 from rfl)]
    rw [if_neg a8]
    by_cases a7 : tk T i = 7
    · rw [if_pos a7, a7, if_neg (show ¬ nI (wcd 7 (tv T i)) = 1111 from (by decide : ¬ nI 423 = (1111 : Int32))), if_pos (show nI (wcd 7 (tv T i)) = 423 from rfl)]
    rw [if_neg a7]
    have h3 : tk T i = 3 → ¬ nI (wcd 3 (tv T i)) = 1111 ∧ ¬ nI (wcd 3 (tv T i)) = 423 := fun q => by
      have := k3 q
      have e : ∀ v, v < 6 → ¬ nI (wcd 3 v) = 1111 ∧ ¬ nI (wcd 3 v) = 423 := by decide
      exact e _ (by omega)
    have hne : ¬ nI (wcd (tk T i) (tv T i)) = 1111 ∧ ¬ nI (wcd (tk T i) (tv T i)) = 423 := by
      rcases (show tk T i = 3 ∨ tk T i = 4 ∨ tk T i = 5 ∨ tk T i = 6 ∨ tk T i = 9 by omega) with w | w | w | w | w
      · rw [w]; exact h3 w
      · rw [w]; exact (by decide : ¬ nI 370000 = (1111 : Int32) ∧ ¬ nI 370000 = (423 : Int32))
      · rw [w]; exact (by decide : ¬ nI 1841662 = (1111 : Int32) ∧ ¬ nI 1841662 = (423 : Int32))
      · rw [w]; exact (by decide : ¬ nI 369757 = (1111 : Int32) ∧ ¬ nI 369757 = (423 : Int32))
      · rw [w]; exact (by decide : ¬ nI 10631 = (1111 : Int32) ∧ ¬ nI 10631 = (423 : Int32))
    rw [if_neg hne.1, if_neg hne.2]
  · rw [if_neg (fun q => c (t119.mp q)), if_neg (by omega), if_neg (by omega)]
/-- ) -/
theorem closes_e {base i z : Nat} {b : Nat → Int32} {T : zTk} {C W : List Int32} {M : zM} {cmp beh st : Nat} (h : rSt z b T M i base C W cmp beh st) (hi : i < 160) : ((lay 1 W C).2 = [] → ∃ M', fX6_closes M = some (0, M') ∧ rTok z b T M' i ∧ rF base M M') ∧ ∀ s V, (lay 1 W C).2 = s :: V → ∃ M', fX6_closes M = some (1, M') ∧ rTok z b T M' i ∧ rStk base (lay 7 V (lay 1 W C).1).1 (lay 7 V (lay 1 W C).1).2 M' ∧ M'.1 0 23 = nI (if s = -2 then 1 else 0) ∧ M'.1 0 24 = nI beh ∧ M'.1 0 25 = nI st ∧ rF base M M' := by
  obtain ⟨ht, hs, h23, h24, h25, hl, hb, hc⟩ := id h
  obtain ⟨M1, l1, l2, l3⟩ := lays_e (k := 1) (by omega) (by omega) hs (by omega) (by omega)
  have l1' : fX6_lays (1 : Int32) M = some M1 := l1
  have ll := lay_len 1 W C
  have lt := lay_top 1 W C
  unfold fX6_closes
  rw [zV_s l1']
  refine ⟨fun e => ?_, fun s V e => ?_⟩
  · have h21 := l2.2.2.1
    rw [e] at h21
    rw [h21, if_pos (show nI ([] : List Int32).length = 0 from rfl)]
    exact ⟨M1, rfl, rTok_0 ht l3, rF_0 l3⟩
  · rw [e] at l2 ll lt
    simp only [List.length_cons] at ll
    obtain ⟨a1, a2, a3, a4, a5⟩ := l2
    simp only [List.length_cons] at a3 a4
    have a4' : M1.1 9 V.length :: stk (M1.1 9) V.length = s :: V := a4
    obtain ⟨hsv, hV⟩ := List.cons.inj a4'
    have rk0 : rkS s = 0 := by have := lt s V rfl; omega
    have s13 : s ≠ 13 := fun q => by rw [q] at rk0; exact absurd rk0 (by decide)
    have s14 : s ≠ 14 := fun q => by rw [q] at rk0; exact absurd rk0 (by decide)
    have os : opn (s :: V) = opn V + 1 := by
      show opn V + opS s = _
      unfold opS
      rw [if_neg s13, if_neg s14, if_pos rk0]
    rw [os] at a5
    rw [a3, if_neg (show ¬ nI (V.length + 1) = 0 by rw [nI_z0 (by omega)]; omega), nI_dn, zL_r, zu_same, zG_t (zin_nI (show V.length < 200 by omega) (by decide)), nIc (by omega), zu_row _ (show (9 : Nat) ≠ 0 by decide), hsv]
    have J : ∀ v : Nat, v ≤ 1 → ∃ M', fX6_closes_J44 (nI v) (zu M1 0 21 (nI V.length)) = some (1, M') ∧ rTok z b T M' i ∧ rStk base (lay 7 V (lay 1 W C).1).1 (lay 7 V (lay 1 W C).1).2 M' ∧ M'.1 0 23 = nI v ∧ M'.1 0 24 = nI beh ∧ M'.1 0 25 = nI st ∧ rF base M M' := by
      intro v hv
      have hzb : zbo (nI v) = true := by rcases (show v = 0 ∨ v = 1 by omega) with rfl | rfl <;> decide
      obtain ⟨M2, e2⟩ : ∃ M2, M2 = zu (zu (zu M1 0 21 (nI V.length)) 0 23 (nI v)) 0 22 (nI (opn V)) := ⟨_, rfl⟩
      have f2 : ∀ q, q ≠ 21 → q ≠ 22 → q ≠ 23 → M2.1 0 q = M1.1 0 q := fun q x y w => by rw [e2, zu_other _ _ y, zu_other _ _ w, zu_other _ _ x]
      have r2 : ∀ q, q ≠ 0 → M2.1 q = M1.1 q := fun q x => by rw [e2, zu_row _ x, zu_row _ x, zu_row _ x]
      have s2 : rStk base (lay 1 W C).1 V M2 := ⟨by rw [f2 14 (by decide) (by decide) (by decide)]; exact a1, by rw [r2 8 (by decide)]; exact a2, by rw [e2, zu_other _ _ (by decide), zu_other _ _ (by decide), zu_same], by rw [r2 9 (by decide)]; exact hV, by rw [e2, zu_same]⟩
      have f23 : M2.1 0 23 = nI v := by rw [e2, zu_other _ _ (by decide), zu_same]
      obtain ⟨M3, p1, p2, p3⟩ := lays_e (k := 7) (by omega) (by omega) s2 (by omega) (by omega)
      have p1' : fX6_lays (7 : Int32) M2 = some M3 := p1
      have t2 : rTok z b T M2 i := by rw [e2]; exact rTok_zu (rTok_zu (rTok_zu (rTok_0 ht l3) (by decide) _) (by decide) _) (by decide) _
      have F2 : rF base M M2 := by rw [e2]; exact rF_trans (rF_trans (rF_trans (rF_0 l3) (rF_zu _ _ (by decide) _)) (rF_zu _ _ (by decide) _)) (rF_zu _ _ (by decide) _)
      refine ⟨M3, ?_, rTok_0 t2 p3, p2, ?_, ?_, ?_, rF_trans F2 (rF_0 p3)⟩
      · unfold fX6_closes_J44
        rw [zG_t hzb, zL_r, zu_other _ _ (show (22 : Nat) ≠ 23 by decide), zu_other _ _ (show (22 : Nat) ≠ 21 by decide), a5, nI_dn, zL_r, ← e2, zV_s p1']
      · rw [p3.2.2.1 23 (by decide) (by decide) (by decide)]; exact f23
      · rw [p3.2.2.1 24 (by decide) (by decide) (by decide), f2 24 (by decide) (by decide) (by decide), l3.2.2.1 24 (by decide) (by decide) (by decide)]; exact h24
      · rw [p3.2.2.1 25 (by decide) (by decide) (by decide), f2 25 (by decide) (by decide) (by decide), l3.2.2.1 25 (by decide) (by decide) (by decide)]; exact h25
    by_cases c : s = -2
    · rw [if_pos c, if_pos c]; exact J 1 (by omega)
    · rw [if_neg c, if_neg c]; exact J 0 (by omega)

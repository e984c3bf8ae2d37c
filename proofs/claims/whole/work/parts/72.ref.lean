/-! the reference's table: one turn -/
def gF (M M' : zM) : Prop := M'.2 = M.2 ∧ (∀ i, i ≠ 0 → i ≠ 15 → i ≠ 16 → M'.1 i = M.1 i) ∧ ∀ k, k ≠ 38 → k ≠ 39 → M'.1 0 k = M.1 0 k
theorem gF_refl (M : zM) : gF M M := ⟨rfl, fun _ _ _ _ => rfl, fun _ _ _ => rfl⟩
theorem gF_trans {M M' M'' : zM} (h1 : gF M M') (h2 : gF M' M'') : gF M M'' := ⟨h2.1.trans h1.1, fun i a b c => (h2.2.1 i a b c).trans (h1.2.1 i a b c), fun k a b => (h2.2.2 k a b).trans (h1.2.2 k a b)⟩
theorem gF_zu (M : zM) {i : Nat} (h : i = 15 ∨ i = 16) (k : Nat) (v : Int32) : gF M (zu M i k v) := ⟨rfl, fun j a b c => zu_row _ (by omega) _ _, fun j _ _ => by rw [zu_row _ (by omega)]⟩
theorem gF_eM {M M' : zM} (h : gF M M') : eM M M' := by
  refine ⟨fun i hi => h.2.1 i (fun q => hi (by rw [q]; decide)) (fun q => hi (by rw [q]; decide)) (fun q => hi (by rw [q]; decide)), fun k hk => h.2.2 k (fun q => ?_) (fun q => ?_), fun j _ => by rw [h.2.1 3 (by decide) (by decide) (by decide)], fun j _ => by rw [h.2.1 4 (by decide) (by decide) (by decide)]⟩
  · rw [q] at hk; exact absurd hk (by decide)
  · rw [q] at hk; exact absurd hk (by decide)
def rSz (A B C : Nat) (M : zM) : Prop := M.1 0 33 = nI A ∧ M.1 0 34 = nI B ∧ M.1 0 35 = nI C
theorem rSz_F {A B C : Nat} {M M' : zM} (h : gF M M') (hz : rSz A B C M) : rSz A B C M' := by
  unfold rSz
  rw [h.2.2 33 (by decide) (by decide), h.2.2 34 (by decide) (by decide), h.2.2 35 (by decide) (by decide)]
  exact hz
theorem sBd_sub : ∀ a, a < 10 → ∀ k, k < 10 → sBd 0 9 (nI a - nI k) = nI (a - k) := by decide
theorem gSo_as (a b c : Nat) : gSo (gSo a b) c = gSo a (gSo b c) := by
  unfold gSo
  repeat' split
  all_goals omega
/-- what a turn leaves -/
def gTd (M : zM) (l n : Nat) : zM := zu (zu M 0 39 (nI l)) 0 38 (nI n)
theorem gTd_F (M : zM) (l n : Nat) : gF M (gTd M l n) := ⟨rfl, fun i a _ _ => by unfold gTd; rw [zu_row _ a, zu_row _ a], fun k a b => by unfold gTd; rw [zu_other _ _ a, zu_other _ _ b]⟩
theorem gTd_39 (M : zM) (l n : Nat) : (gTd M l n).1 0 39 = nI l := by unfold gTd; rw [zu_other _ _ (by decide), zu_same]
theorem gTd_38 (M : zM) (l n : Nat) : (gTd M l n).1 0 38 = nI n := by unfold gTd; rw [zu_same]
theorem gTd_row (M : zM) (l n : Nat) {i : Nat} (h : i ≠ 0) : (gTd M l n).1 i = M.1 i := by unfold gTd; rw [zu_row _ h, zu_row _ h]
theorem t108 {a b c l : Nat} (ha : a < 10) (hb : b < 10) (hc : c < 10) (hl : l < 10) (M : zM) : fX6_turned_J108 (nI a) (nI b) (nI c) (nI l) M = some (gTd M l (100 * (a - l) + 10 * (b - l) + (c - l))) := by
  unfold fX6_turned_J108
  rw [zL_r, zB_s (sBd_m (by decide) _), zB_s (sBd_m (by decide) _), zB_s (sBd_m (by decide) _), sBd_sub a ha l hl, sBd_sub b hb l hl, sBd_sub c hc l hl, show (100 : Int32) = nI 100 from rfl, show (10 : Int32) = nI 10 from rfl, pk_mul, pk_mul, nI_add, nI_add, zL_r]
  rfl
theorem t87 {a b c l : Nat} (hc : c < 10) (hl : l < 10) (M : zM) : fX6_turned_J87 (nI a) (nI b) (nI c) (nI l) M = fX6_turned_J108 (nI a) (nI b) (nI c) (nI (gSo l c)) M := by
  unfold fX6_turned_J87 gSo
  by_cases c0 : c = 0
  · rw [if_pos (by rw [c0]; decide)]
    by_cases l0 : l = 0
    · rw [if_pos l0, l0, c0]
    · rw [if_neg l0, if_pos c0]
  · rw [if_neg (by rw [show (0 : Int32) = nI 0 from rfl, nI_leI (by omega) (by omega)]; omega)]
    by_cases l0 : l = 0
    · rw [if_pos ((nI_z0 (by omega)).mpr l0), if_pos l0]
    · rw [if_neg (fun q => l0 ((nI_z0 (by omega)).mp q)), if_neg l0, if_neg c0]
      by_cases h : l ≤ c
      · rw [if_pos ((nI_leI (by omega) (by omega)).mpr h), Nat.min_eq_left h]
      · rw [if_neg (fun q => h ((nI_leI (by omega) (by omega)).mp q)), Nat.min_eq_right (by omega)]
theorem t63 {a b c : Nat} (ha : a < 10) (hb : b < 10) (M : zM) : fX6_turned_J63 (nI a) (nI b) (nI c) M = fX6_turned_J87 (nI a) (nI b) (nI c) (nI (gSo a b)) M := by
  unfold fX6_turned_J63 gSo
  by_cases c0 : b = 0
  · rw [if_pos (by rw [c0]; decide)]
    by_cases l0 : a = 0
    · rw [if_pos l0, l0, c0]
    · rw [if_neg l0, if_pos c0]
  · rw [if_neg (by rw [show (0 : Int32) = nI 0 from rfl, nI_leI (by omega) (by omega)]; omega)]
    by_cases l0 : a = 0
    · rw [if_pos ((nI_z0 (by omega)).mpr l0), if_pos l0]
    · rw [if_neg (fun q => l0 ((nI_z0 (by omega)).mp q)), if_neg l0, if_neg c0]
      by_cases h : a ≤ b
      · rw [if_pos ((nI_leI (by omega) (by omega)).mpr h), Nat.min_eq_left h]
      · rw [if_neg (fun q => h ((nI_leI (by omega) (by omega)).mp q)), Nat.min_eq_right (by omega)]
theorem turned_e {A B C s x : Nat} (hA : A ≤ 9) (hB : B ≤ 9) (hC : C ≤ 9) (hW : gW A B C s) (hx : x < 8) {M : zM} (hz : rSz A B C M) : fX6_turned (nI s) (nI x) M = some (gTd M (gS A B C s x) (gN A B C s x)) := by
  obtain ⟨hs, w1, w2, w3⟩ := id hW
  have la := gA_le (x := x) w1
  have lb := gB_le (x := x) w2
  have lc := gC_le (x := x) w3
  obtain ⟨b1, b2, b3⟩ := gbit x hx
  have fin : fX6_turned_J63 (nI (gA A s x)) (nI (gB B s x)) (nI (gC C s x)) M = some (gTd M (gS A B C s x) (gN A B C s x)) := by
    have l1 := gSo_le (gA A s x) (gB B s x) 9 (by omega) (by omega)
    have l2 := gSo_le _ (gC C s x) 9 l1 (by omega)
    rw [t63 (by omega) (by omega), t87 (by omega) (by omega), t108 (by omega) (by omega) (by omega) (by omega), gSo_as]
    rfl
  have h33 : ∀ x5, fX6_turned_J33 (nI x) (nI (gA A s x)) (nI (s / 10 % 10)) x5 M = fX6_turned_J33 (nI x) (nI (gA A s x)) (nI (s / 10 % 10)) x5 M := fun _ => rfl
  have hJ : fX6_turned_J33 (nI x) (nI (gA A s x)) (nI (s / 10 % 10)) (nI (s % 10)) M = some (gTd M (gS A B C s x) (gN A B C s x)) := by
    rw [← fin]
    unfold fX6_turned_J33
    by_cases c2 : x / 2 % 2 = 1
    · have e2 : nI B - nI (s / 10 % 10) = nI (gB B s x) := by
        unfold gB
        rw [if_pos c2, pk_sub w2]
      rw [if_neg (fun q => (b2.mp q) c2), hz.2.1, e2, zL_r]
      by_cases c3 : x / 4 % 2 = 1
      · have e3 : nI C - nI (s % 10) = nI (gC C s x) := by
          unfold gC
          rw [if_pos c3, pk_sub w3]
        rw [if_neg (fun q => (b3.mp q) c3), hz.2.2, e3, zL_r]
      · have e3 : s % 10 = gC C s x := by unfold gC; rw [if_neg c3]
        rw [if_pos (b3.mpr c3), e3]
    · have e2 : s / 10 % 10 = gB B s x := by unfold gB; rw [if_neg c2]
      rw [if_pos (b2.mpr c2), e2]
      by_cases c3 : x / 4 % 2 = 1
      · have e3 : nI C - nI (s % 10) = nI (gC C s x) := by
          unfold gC
          rw [if_pos c3, pk_sub w3]
        rw [if_neg (fun q => (b3.mp q) c3), hz.2.2, e3, zL_r]
      · have e3 : s % 10 = gC C s x := by unfold gC; rw [if_neg c3]
        rw [if_pos (b3.mpr c3), e3]
  unfold fX6_turned
  rw [dg_1 hs, zL_r, dg_2 hs, zL_r, dg_3 hs, zL_r]
  by_cases c1 : x % 2 = 1
  · have e1 : nI A - nI (s / 100) = nI (gA A s x) := by
      unfold gA
      rw [if_pos c1, pk_sub w1]
    rw [if_neg (fun q => (b1.mp q) c1), hz.1, e1, zL_r]
    exact hJ
  · have e1 : s / 100 = gA A s x := by unfold gA; rw [if_neg c1]
    rw [if_pos (b1.mpr c1), e1]
    exact hJ
theorem sizeOf_c : ∀ x, x < 8 → ((nI x &&& (1 : Int32)) + (zshr (nI x) (1 : Int32) &&& (1 : Int32))) + (zshr (nI x) (2 : Int32) &&& (1 : Int32)) = nI (gBc x) := by decide
theorem sizeOf_e {x : Nat} (hx : x < 8) (M : zM) : fX6_sizeOf (nI x) M = some (nI (gBc x), M) := by
  unfold fX6_sizeOf
  rw [sizeOf_c x hx]
/-- what is counted already, back from minute t -/
def cTab (A B C t m s : Nat) (M : zM) : Prop := ∀ m' s', m' < t → gW A B C s' → (m < m' ∨ m' = m ∧ s' < s) → ∃ v, M.1 16 (1000 * m' + s') = nI v ∧ gMn gTn 9999 (gOk A B C (t - m') s') v
theorem byf_e {A B C t m s s0 x : Nat} (hA : A ≤ 9) (hB : B ≤ 9) (hC : C ≤ 9) (ht : t ≤ 30) (hm : m < t) (hW : gW A B C s) (hx : x < 8) {M : zM} (hz : rSz A B C M) (hT : cTab A B C t m s0 M) : ∃ v, fX6_byFirst (nI t) (nI m) (nI s) (nI x) M = some (nI v, gTd M (gS A B C s x) (gN A B C s x)) ∧ v ≤ 10002 ∧ (gBy A B C (t - m) s x v ∨ v = 9999 ∧ ∀ w, ¬ gBy A B C (t - m) s x w) := by
  have ls := gS_le hA hB hC hW x
  have hN := gN_W hA hB hC hW x
  have lb := gBc_le x
  unfold fX6_byFirst
  rw [zV_s (turned_e hA hB hC hW hx hz), gTd_39, nI_add, zL_r]
  by_cases c0 : gS A B C s x = 0
  · rw [if_pos ((nI_z0 (by omega)).mpr c0)]
    exact ⟨9999, rfl, by omega, Or.inr ⟨rfl, fun w h => by have := h.1; omega⟩⟩
  · rw [if_neg (fun q => c0 ((nI_z0 (by omega)).mp q))]
    by_cases c1 : m + gS A B C s x ≤ t
    · rw [if_pos ((nI_leI (by omega) (by omega)).mpr c1)]
      by_cases c2 : m + gS A B C s x = t
      · rw [if_pos ((nI_eq (by omega) (by omega)).mpr c2), zB_s (sizeOf_e hx _)]
        refine ⟨gBc x, rfl, by omega, Or.inl ⟨by omega, by omega, 0, Or.inr ⟨[], ?_, rfl, fun q _ => Nat.zero_le _⟩, rfl⟩⟩
        show t - m - gS A B C s x = 0
        omega
      · rw [if_neg (fun q => c2 ((nI_eq (by omega) (by omega)).mp q)), zB_s (sizeOf_e hx _), gTd_38, show (1000 : Int32) = nI 1000 from rfl, pk_mul, nI_add, zG_t (zin_nI (show 1000 * (m + gS A B C s x) + gN A B C s x < 31000 by have := hN.1; omega) (by omega)), nIc (by have := hN.1; omega), gTd_row _ _ _ (by decide)]
        obtain ⟨v, v1, v2⟩ := hT (m + gS A B C s x) (gN A B C s x) (by omega) hN (Or.inl (by omega))
        have v3 := (gMn_lt v2 (fun p hp => gOk_tn hp (by omega))).2
        rw [v1, nI_add]
        refine ⟨gBc x + v, rfl, by omega, Or.inl ⟨by omega, by omega, v, ?_, rfl⟩⟩
        rw [show t - m - gS A B C s x = t - (m + gS A B C s x) by omega]
        exact v2
    · rw [if_neg (fun q => c1 ((nI_leI (by omega) (by omega)).mp q))]
      exact ⟨9999, rfl, by omega, Or.inr ⟨rfl, fun w h => by have := h.2.1; omega⟩⟩

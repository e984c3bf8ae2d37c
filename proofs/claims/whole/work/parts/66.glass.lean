/-! three glasses on a table -/
def gA (A s x : Nat) : Nat := if x % 2 = 1 then A - s / 100 else s / 100
def gB (B s x : Nat) : Nat := if x / 2 % 2 = 1 then B - s / 10 % 10 else s / 10 % 10
def gC (C s x : Nat) : Nat := if x / 4 % 2 = 1 then C - s % 10 else s % 10
def gSo (a b : Nat) : Nat := if a = 0 then b else if b = 0 then a else min a b
/-- how long till one runs out -/
def gS (A B C s x : Nat) : Nat := gSo (gA A s x) (gSo (gB B s x) (gC C s x))
/-- how they stand then -/
def gN (A B C s x : Nat) : Nat := 100 * (gA A s x - gS A B C s x) + 10 * (gB B s x - gS A B C s x) + (gC C s x - gS A B C s x)
def gW (A B C s : Nat) : Prop := s < 1000 ∧ s / 100 ≤ A ∧ s / 10 % 10 ≤ B ∧ s % 10 ≤ C
theorem gA_le {A s x : Nat} (h : s / 100 ≤ A) : gA A s x ≤ A := by
  unfold gA; split <;> omega
theorem gB_le {A s x : Nat} (h : s / 10 % 10 ≤ A) : gB A s x ≤ A := by
  unfold gB; split <;> omega
theorem gC_le {A s x : Nat} (h : s % 10 ≤ A) : gC A s x ≤ A := by
  unfold gC; split <;> omega
theorem gSo_le (a b : Nat) (n : Nat) (ha : a ≤ n) (hb : b ≤ n) : gSo a b ≤ n := by
  unfold gSo; split
  · exact hb
  · split
    · exact ha
    · omega
theorem gS_le {A B C s : Nat} (hA : A ≤ 9) (hB : B ≤ 9) (hC : C ≤ 9) (h : gW A B C s) (x : Nat) : gS A B C s x ≤ 9 := by
  obtain ⟨-, h1, h2, h3⟩ := h
  have a := gA_le (x := x) h1
  have b := gB_le (x := x) h2
  have c := gC_le (x := x) h3
  exact gSo_le _ _ _ (by omega) (gSo_le _ _ _ (by omega) (by omega))
theorem gN_W {A B C s : Nat} (hA : A ≤ 9) (hB : B ≤ 9) (hC : C ≤ 9) (h : gW A B C s) (x : Nat) : gW A B C (gN A B C s x) := by
  obtain ⟨-, h1, h2, h3⟩ := h
  have a := gA_le (x := x) h1
  have b := gB_le (x := x) h2
  have c := gC_le (x := x) h3
  unfold gW gN
  omega
/-- complete: from s, r minutes -/
def gOk (A B C : Nat) : Nat → Nat → List Nat → Prop
  | r, _, [] => r = 0
  | r, s, x :: c => x < 8 ∧ 0 < gS A B C s x ∧ gS A B C s x ≤ r ∧ gOk A B C (r - gS A B C s x) (gN A B C s x) c
def gEn (A B C : Nat) : Nat → List Nat → Nat
  | s, [] => s
  | s, x :: c => gEn A B C (gN A B C s x) c
def gBc (x : Nat) : Nat := x % 2 + x / 2 % 2 + x / 4 % 2
def gTn : List Nat → Nat
  | [] => 0
  | x :: c => gBc x + gTn c
def gPL (k : Nat) : Nat := if k < 9 then 10 ^ (10 - k) else 0
def gDg : Nat → List Nat → Nat
  | _, [] => 0
  | k, x :: c => (x + 1) * gPL k + gDg (k + 1) c
def gKey (p : List Nat) : Nat := gTn p * 100000000000 + gDg 0 p + p.length
def gExt (w x : Nat) : Nat := if w % 100 < 9 then w + gBc x * 100000000000 + 1 + (x + 1) * gPL (w % 100) else w + gBc x * 100000000000 + 1
def g8 (p : List Nat) : Prop := ∀ x, x ∈ p → x < 8
theorem gOk_8 {A B C : Nat} : ∀ {p : List Nat} {r s : Nat}, gOk A B C r s p → g8 p
  | [], _, _, _ => fun x hx => absurd hx (by simp)
  | y :: c, r, s, h => fun x hx => by
    obtain ⟨h1, -, -, h4⟩ := h
    rcases List.mem_cons.mp hx with q | q
    · rw [q]; exact h1
    · exact gOk_8 h4 x q
theorem gOk_len {A B C : Nat} : ∀ {p : List Nat} {r s : Nat}, gOk A B C r s p → p.length ≤ r
  | [], _, _, _ => Nat.zero_le _
  | y :: c, r, s, h => by
    obtain ⟨h1, h2, h3, h4⟩ := h
    have q := gOk_len h4
    simp only [List.length_cons]
    omega
theorem gDg_hi : ∀ (p : List Nat) (k : Nat), 9 ≤ k → gDg k p = 0
  | [], _, _ => rfl
  | x :: c, k, h => by
    show (x + 1) * gPL k + gDg (k + 1) c = 0
    rw [gDg_hi c (k + 1) (by omega), show gPL k = 0 from if_neg (by omega)]
    rfl
theorem gDg_le : ∀ (p : List Nat) (k : Nat), g8 p → k ≤ 9 → gDg k p + 100 ≤ 10 ^ (11 - k)
  | [], k, _, hk => by
    show 0 + 100 ≤ 10 ^ (11 - k)
    have := Nat.pow_le_pow_right (show 0 < 10 by decide) (show 2 ≤ 11 - k by omega)
    omega
  | x :: c, k, h8, hk => by
    by_cases c9 : k = 9
    · rw [gDg_hi _ k (by omega), c9]; decide
    · have hx : x < 8 := h8 x (by simp)
      have q := gDg_le c (k + 1) (fun y hy => h8 y (List.mem_cons_of_mem _ hy)) (by omega)
      show (x + 1) * gPL k + gDg (k + 1) c + 100 ≤ _
      rw [show gPL k = 10 ^ (10 - k) from if_pos (by omega), show 11 - k = 10 - k + 1 by omega, Nat.pow_succ]
      rw [show 11 - (k + 1) = 10 - k by omega] at q
      have := Nat.mul_le_mul_right (10 ^ (10 - k)) (show x + 1 ≤ 8 by omega)
      omega
theorem gDg_100 : ∀ (p : List Nat) (k : Nat), gDg k p % 100 = 0
  | [], _ => rfl
  | x :: c, k => by
    show ((x + 1) * gPL k + gDg (k + 1) c) % 100 = 0
    have q := gDg_100 c (k + 1)
    have e : gPL k % 100 = 0 := by
      unfold gPL
      split
      · rename_i h
        obtain ⟨j, rfl, hj⟩ : ∃ j, k = 8 - j ∧ j ≤ 8 := ⟨8 - k, by omega, by omega⟩
        rw [show 10 - (8 - j) = j + 2 by omega, Nat.pow_add]
        omega
      · rfl
    have e2 : ((x + 1) * gPL k) % 100 = 0 := by rw [Nat.mul_mod, e]; simp
    omega
theorem gTn_app : ∀ (p q : List Nat), gTn (p ++ q) = gTn p + gTn q
  | [], q => by show gTn q = 0 + gTn q; omega
  | x :: c, q => by
    show gBc x + gTn (c ++ q) = gBc x + gTn c + gTn q
    rw [gTn_app c q]; omega
theorem gDg_app : ∀ (p q : List Nat) (k : Nat), gDg k (p ++ q) = gDg k p + gDg (k + p.length) q
  | [], q, k => by show gDg k q = 0 + gDg (k + 0) q; rw [Nat.add_zero]; omega
  | x :: c, q, k => by
    show (x + 1) * gPL k + gDg (k + 1) (c ++ q) = (x + 1) * gPL k + gDg (k + 1) c + gDg (k + (c.length + 1)) q
    rw [gDg_app c q, show k + 1 + c.length = k + (c.length + 1) by omega]; omega
theorem gKey_mod {p : List Nat} (h : p.length < 100) : gKey p % 100 = p.length := by
  have q := gDg_100 p 0
  unfold gKey
  omega
theorem gKey_snoc {p : List Nat} (h : p.length < 100) (x : Nat) : gKey (p ++ [x]) = gExt (gKey p) x := by
  unfold gExt
  rw [gKey_mod h]
  unfold gKey
  rw [gTn_app, gDg_app, List.length_append]
  show (gTn p + (gBc x + 0)) * 100000000000 + (gDg 0 p + ((x + 1) * gPL (0 + p.length) + 0)) + (p.length + 1) = _
  rw [Nat.zero_add p.length]
  by_cases c : p.length < 9
  · rw [if_pos c]; omega
  · rw [if_neg c, show gPL p.length = 0 from if_neg c]; omega
theorem gKey_low {p : List Nat} (h8 : g8 p) (h : p.length < 100) : gDg 0 p + p.length < 100000000000 := by
  have q := gDg_le p 0 h8 (by omega)
  have e : 10 ^ (11 - 0) = 100000000000 := by decide
  omega
/-- one before the other, for good -/
def gT1 (k : Nat) (p q : List Nat) : Prop := ∀ c d, g8 c → g8 d → gDg k (p ++ c) + 100 ≤ gDg k (q ++ d)
def gT3 (k : Nat) (p q : List Nat) : Prop := (p = q ∨ 9 < k + p.length ∧ 9 < k + q.length) ∧ ∀ c, gDg k (p ++ c) = gDg k (q ++ c)
theorem gT1_cons {k x y : Nat} {p q : List Nat} (hp : g8 p) (hq : g8 q) (hxy : x < y) (hk : k < 9) : gT1 k (x :: p) (y :: q) := by
  intro c d hc hd
  show (x + 1) * gPL k + gDg (k + 1) (p ++ c) + 100 ≤ (y + 1) * gPL k + gDg (k + 1) (q ++ d)
  have l := gDg_le (p ++ c) (k + 1) (fun z hz => by
    rcases List.mem_append.mp hz with h | h
    · exact hp z h
    · exact hc z h) (by omega)
  rw [show 11 - (k + 1) = 10 - k by omega] at l
  rw [show gPL k = 10 ^ (10 - k) from if_pos hk]
  have := Nat.mul_le_mul_right (10 ^ (10 - k)) (show x + 2 ≤ y + 1 by omega)
  have e : (x + 2) * 10 ^ (10 - k) = (x + 1) * 10 ^ (10 - k) + 10 ^ (10 - k) := by rw [show x + 2 = x + 1 + 1 by omega, Nat.succ_mul]
  omega
theorem gT_long {k : Nat} {p q : List Nat} (hk : 9 ≤ k) (hp : 0 < p.length) (hq : 0 < q.length) : gT3 k p q :=
  ⟨Or.inr ⟨by omega, by omega⟩, fun c => by rw [gDg_hi _ _ hk, gDg_hi _ _ hk]⟩
theorem gT1_s {k x : Nat} {p q : List Nat} (h : gT1 (k + 1) p q) : gT1 k (x :: p) (x :: q) := fun c d hc hd => by
  have := h c d hc hd
  show (x + 1) * gPL k + gDg (k + 1) (p ++ c) + 100 ≤ (x + 1) * gPL k + gDg (k + 1) (q ++ d)
  omega
theorem gT3_s {k x : Nat} {p q : List Nat} (h : gT3 (k + 1) p q) : gT3 k (x :: p) (x :: q) := by
  refine ⟨?_, fun c => ?_⟩
  · rcases h.1 with h | h
    · exact Or.inl (by rw [h])
    · simp only [List.length_cons]
      exact Or.inr ⟨by omega, by omega⟩
  · show (x + 1) * gPL k + gDg (k + 1) (p ++ c) = (x + 1) * gPL k + gDg (k + 1) (q ++ c)
    rw [h.2 c]
theorem gTri {A B C : Nat} : ∀ (p q : List Nat) (r s k : Nat), gOk A B C r s p → gOk A B C r s q → gT1 k p q ∨ gT1 k q p ∨ gT3 k p q
  | [], [], _, _, _, _, _ => Or.inr (Or.inr ⟨Or.inl rfl, fun _ => rfl⟩)
  | [], y :: d, r, s, k, h1, h2 => by
    obtain ⟨-, g2, g3, -⟩ := h2
    have e : r = 0 := h1
    omega
  | x :: c, [], r, s, k, h1, h2 => by
    obtain ⟨-, g2, g3, -⟩ := h1
    have e : r = 0 := h2
    omega
  | x :: c, y :: d, r, s, k, h1, h2 => by
    obtain ⟨a1, a2, a3, a4⟩ := h1
    obtain ⟨b1, b2, b3, b4⟩ := h2
    by_cases hk : 9 ≤ k
    · exact Or.inr (Or.inr (gT_long hk (by simp) (by simp)))
    · rcases Nat.lt_trichotomy x y with h | h | h
      · exact Or.inl (gT1_cons (gOk_8 a4) (gOk_8 b4) h (by omega))
      · subst h
        rcases gTri c d _ _ (k + 1) a4 b4 with q | q | q
        · exact Or.inl (gT1_s q)
        · exact Or.inr (Or.inl (gT1_s q))
        · exact Or.inr (Or.inr (gT3_s q))
      · exact Or.inr (Or.inl (gT1_cons (gOk_8 b4) (gOk_8 a4) h (by omega)))
theorem gAr1 {a b g d e l m : Nat} (h : d + l < 100000000000) (c : a < b) : (a + g) * 100000000000 + d + l ≤ (b + g) * 100000000000 + e + m := by omega
theorem gAr2 {a b d e l m : Nat} (h : e + m < 100000000000) (c : b < a) : ¬ a * 100000000000 + d + l ≤ b * 100000000000 + e + m := by
  obtain ⟨z, rfl⟩ : ∃ z, a = b + 1 + z := ⟨a - b - 1, by omega⟩
  rw [Nat.add_mul, Nat.add_mul]
  omega
theorem gAr3 {a g d e l m : Nat} (h : d + 100 ≤ e) (c : l < 100) : (a + g) * 100000000000 + d + l ≤ (a + g) * 100000000000 + e + m := by omega
theorem gAr4 {a d e l m : Nat} (h : e + 100 ≤ d) (c : m < 100) : ¬ a * 100000000000 + d + l ≤ a * 100000000000 + e + m := by omega
theorem gAr5 {a g d e l m d' e' : Nat} (h : a * 100000000000 + d + l ≤ a * 100000000000 + e + m) (c : d = e) (c' : d' = e') : (a + g) * 100000000000 + d' + (l + 1) ≤ (a + g) * 100000000000 + e' + (m + 1) := by
  rw [c] at h
  rw [c']
  exact Nat.add_le_add_left (Nat.succ_le_succ (Nat.le_of_add_le_add_left h)) _
theorem gKey_mono {A B C : Nat} {p q : List Nat} {r s : Nat} (hp : gOk A B C r s p) (hq : gOk A B C r s q) (hr : r ≤ 30) (h : gKey p ≤ gKey q) {x : Nat} (hx : x < 8) : gKey (p ++ [x]) ≤ gKey (q ++ [x]) := by
  have lp := gOk_len hp
  have lq := gOk_len hq
  have p8 := gOk_8 hp
  have q8 := gOk_8 hq
  have x8 : g8 [x] := fun y hy => by simp at hy; omega
  have bp := gKey_low p8 (by omega)
  have bq := gKey_low q8 (by omega)
  have px8 : g8 (p ++ [x]) := fun z hz => by
    rcases List.mem_append.mp hz with h | h
    · exact p8 z h
    · exact x8 z h
  have bpx := gKey_low px8 (by simp; omega)
  have e1 : gKey (p ++ [x]) = (gTn p + gBc x) * 100000000000 + gDg 0 (p ++ [x]) + (p.length + 1) := by
    unfold gKey; rw [gTn_app, List.length_append]; rfl
  have e2 : gKey (q ++ [x]) = (gTn q + gBc x) * 100000000000 + gDg 0 (q ++ [x]) + (q.length + 1) := by
    unfold gKey; rw [gTn_app, List.length_append]; rfl
  rw [List.length_append] at bpx
  rw [e1, e2]
  unfold gKey at h
  rcases Nat.lt_trichotomy (gTn p) (gTn q) with c | c | c
  · exact gAr1 bpx c
  · rw [c] at h ⊢
    rcases gTri p q r s 0 hp hq with t | t | t
    · exact gAr3 (t [x] [x] x8 x8) (by omega)
    · have := t [] [] (fun _ hy => absurd hy (by simp)) (fun _ hy => absurd hy (by simp))
      rw [List.append_nil, List.append_nil] at this
      exact absurd h (gAr4 this (by omega))
    · have h2 := t.2 []
      rw [List.append_nil, List.append_nil] at h2
      exact gAr5 h h2 (t.2 [x])
  · exact absurd h (gAr2 bq c)
theorem gOk_snoc {A B C : Nat} : ∀ {p : List Nat} {r s x : Nat}, gOk A B C r s p → x < 8 → 0 < gS A B C (gEn A B C s p) x → gOk A B C (r + gS A B C (gEn A B C s p) x) s (p ++ [x]) ∧ gEn A B C s (p ++ [x]) = gN A B C (gEn A B C s p) x
  | [], r, s, x, h, hx, h0 => by
    have e : r = 0 := h
    subst e
    refine ⟨⟨hx, h0, ?_, ?_⟩, rfl⟩
    · show gS A B C s x ≤ 0 + gS A B C s x; omega
    · show 0 + gS A B C s x - gS A B C s x = 0; omega
  | y :: c, r, s, x, h, hx, h0 => by
    obtain ⟨h1, h2, h3, h4⟩ := h
    have h0' : 0 < gS A B C (gEn A B C (gN A B C s y) c) x := h0
    obtain ⟨g1, g2⟩ := gOk_snoc h4 hx h0'
    refine ⟨⟨h1, h2, ?_, ?_⟩, g2⟩
    · omega
    · show gOk A B C (r + gS A B C (gEn A B C (gN A B C s y) c) x - gS A B C s y) (gN A B C s y) (c ++ [x])
      rw [show r + gS A B C (gEn A B C (gN A B C s y) c) x - gS A B C s y = r - gS A B C s y + gS A B C (gEn A B C (gN A B C s y) c) x by omega]
      exact g1
theorem gOk_last {A B C : Nat} : ∀ {p : List Nat} {r s : Nat}, gOk A B C r s p → p ≠ [] → ∃ q x, p = q ++ [x] ∧ x < 8 ∧ 0 < gS A B C (gEn A B C s q) x ∧ gS A B C (gEn A B C s q) x ≤ r ∧ gOk A B C (r - gS A B C (gEn A B C s q) x) s q ∧ gEn A B C s p = gN A B C (gEn A B C s q) x
  | [], _, _, _, hn => absurd rfl hn
  | y :: c, r, s, h, _ => by
    obtain ⟨h1, h2, h3, h4⟩ := h
    by_cases hc : c = []
    · subst hc
      have e : r - gS A B C s y = 0 := h4
      exact ⟨[], y, rfl, h1, h2, h3, e, rfl⟩
    · obtain ⟨q, x, e, g1, g2, g3, g4, g5⟩ := gOk_last h4 hc
      refine ⟨y :: q, x, by rw [e]; rfl, g1, g2, ?_, ⟨h1, h2, ?_, ?_⟩, ?_⟩
      · show gS A B C (gEn A B C (gN A B C s y) q) x ≤ r; omega
      · show gS A B C s y ≤ r - gS A B C (gEn A B C (gN A B C s y) q) x; omega
      · show gOk A B C (r - gS A B C (gEn A B C (gN A B C s y) q) x - gS A B C s y) (gN A B C s y) q
        rw [show r - gS A B C (gEn A B C (gN A B C s y) q) x - gS A B C s y = r - gS A B C s y - gS A B C (gEn A B C (gN A B C s y) q) x by omega]
        exact g4
      · exact g5
theorem gEn_W {A B C : Nat} (hA : A ≤ 9) (hB : B ≤ 9) (hC : C ≤ 9) : ∀ (p : List Nat) (s : Nat), gW A B C s → gW A B C (gEn A B C s p)
  | [], _, h => h
  | x :: c, s, h => gEn_W hA hB hC c _ (gN_W hA hB hC h x)

/-! the least of a lot of ways -/
def gMn (f : List Nat → Nat) (N : Nat) (S : List Nat → Prop) (v : Nat) : Prop := (v = N ∧ ∀ p, ¬ S p) ∨ ∃ p, S p ∧ v = f p ∧ ∀ q, S q → f p ≤ f q
theorem gMn_congr {f : List Nat → Nat} {N : Nat} {S S' : List Nat → Prop} {v : Nat} (h : ∀ p, S p ↔ S' p) (hm : gMn f N S v) : gMn f N S' v := by
  rcases hm with ⟨a, b⟩ | ⟨p, a, b, c⟩
  · exact Or.inl ⟨a, fun p hp => b p ((h p).mpr hp)⟩
  · exact Or.inr ⟨p, (h p).mp a, b, fun q hq => c q ((h q).mpr hq)⟩
theorem gMn_uniq {f : List Nat → Nat} {N : Nat} {S : List Nat → Prop} {v w : Nat} (h1 : gMn f N S v) (h2 : gMn f N S w) : v = w := by
  rcases h1 with ⟨a, b⟩ | ⟨p, a, b, c⟩
  · rcases h2 with ⟨a', b'⟩ | ⟨p', a', b', c'⟩
    · rw [a, a']
    · exact absurd a' (b p')
  · rcases h2 with ⟨a', b'⟩ | ⟨p', a', b', c'⟩
    · exact absurd a (b' p)
    · have := c p' a'
      have := c' p a
      omega
theorem gMn_lt {f : List Nat → Nat} {N : Nat} {S : List Nat → Prop} {v : Nat} (h : gMn f N S v) (hN : ∀ p, S p → f p < N) : (v < N ↔ ∃ p, S p) ∧ v ≤ N := by
  rcases h with ⟨a, b⟩ | ⟨p, a, b, c⟩
  · exact ⟨⟨fun q => by omega, fun ⟨p, hp⟩ => absurd hp (b p)⟩, by omega⟩
  · have := hN p a
    exact ⟨⟨fun _ => ⟨p, a⟩, fun _ => by omega⟩, by omega⟩
theorem gMn_union {f : List Nat → Nat} {N : Nat} {S S' : List Nat → Prop} {v w : Nat} (h1 : gMn f N S v) (h2 : gMn f N S' w) (hN : ∀ p, S p ∨ S' p → f p ≤ N) : gMn f N (fun p => S p ∨ S' p) (min v w) := by
  rcases h1 with ⟨a, b⟩ | ⟨p, a, b, c⟩
  · rcases h2 with ⟨a', b'⟩ | ⟨p', a', b', c'⟩
    · exact Or.inl ⟨by omega, fun p hp => hp.elim (b p) (b' p)⟩
    · have := hN p' (Or.inr a')
      exact Or.inr ⟨p', Or.inr a', by omega, fun q hq => hq.elim (fun h => absurd h (b q)) (c' q)⟩
  · rcases h2 with ⟨a', b'⟩ | ⟨p', a', b', c'⟩
    · have := hN p (Or.inl a)
      exact Or.inr ⟨p, Or.inl a, by omega, fun q hq => hq.elim (c q) (fun h => absurd h (b' q))⟩
    · by_cases h : f p ≤ f p'
      · exact Or.inr ⟨p, Or.inl a, by omega, fun q hq => hq.elim (c q) (fun h' => by have := c' q h'; omega)⟩
      · exact Or.inr ⟨p', Or.inr a', by omega, fun q hq => hq.elim (fun h' => by have := c q h'; omega) (c' q)⟩
theorem gMn_ex (f : List Nat → Nat) (N : Nat) (S : List Nat → Prop) : ∃ v, gMn f N S v := by
  by_cases h : ∃ p, S p
  · obtain ⟨p, hp⟩ := h
    have key : ∀ n p, S p → f p ≤ n → ∃ p, S p ∧ ∀ q, S q → f p ≤ f q := by
      intro n
      induction n with
      | zero => intro p hp h0; exact ⟨p, hp, fun q _ => by omega⟩
      | succ n ih =>
        intro p hp hn
        by_cases c : ∃ q, S q ∧ f q ≤ n
        · obtain ⟨q, a, b⟩ := c
          exact ih q a b
        · exact ⟨p, hp, fun q hq => by
            by_cases d : f q ≤ n
            · exact absurd ⟨q, hq, d⟩ c
            · omega⟩
    obtain ⟨q, a, b⟩ := key (f p) p hp (Nat.le_refl _)
    exact ⟨f q, Or.inr ⟨q, a, rfl, b⟩⟩
  · exact ⟨N, Or.inl ⟨rfl, fun p hp => h ⟨p, hp⟩⟩⟩
theorem gBc_le (x : Nat) : gBc x ≤ 3 := by unfold gBc; omega
theorem gTn_le : ∀ p : List Nat, gTn p ≤ 3 * p.length
  | [] => Nat.le_refl _
  | x :: c => by
    have := gTn_le c
    have := gBc_le x
    show gBc x + gTn c ≤ 3 * (c.length + 1)
    omega
theorem gOk_tn {A B C : Nat} {p : List Nat} {r s : Nat} (h : gOk A B C r s p) (hr : r ≤ 30) : gTn p < 9999 := by
  have := gTn_le p
  have := gOk_len h
  omega
/-- the value by the first set -/
def gBy (A B C r s x : Nat) (v : Nat) : Prop := 0 < gS A B C s x ∧ gS A B C s x ≤ r ∧ ∃ v', gMn gTn 9999 (gOk A B C (r - gS A B C s x) (gN A B C s x)) v' ∧ v = gBc x + v'
theorem gBy_lt {A B C r s x v v1 : Nat} (hr : r ≤ 30) (hx : x < 8) (h : gBy A B C r s x v1) (hv : gMn gTn 9999 (gOk A B C r s) v) (h9 : v1 < 9999) : v ≤ v1 := by
  obtain ⟨h1, h2, v', h3, h4⟩ := h
  obtain ⟨⟨q1, -⟩, -⟩ := gMn_lt h3 (fun p hp => gOk_tn hp (by omega))
  obtain ⟨c0, hc0⟩ := q1 (by omega)
  rcases h3 with ⟨a, b⟩ | ⟨c, a, b, -⟩
  · exact absurd hc0 (b c0)
  · have hok : gOk A B C r s (x :: c) := ⟨hx, h1, h2, a⟩
    rcases hv with ⟨-, n⟩ | ⟨p, -, e, m⟩
    · exact absurd hok (n _)
    · have := m _ hok
      have e2 : gTn (x :: c) = gBc x + gTn c := rfl
      omega
theorem gBy_of {A B C r s : Nat} (hr : r ≤ 30) {x : Nat} {c : List Nat} (h : gOk A B C r s (x :: c)) : ∃ v1, gBy A B C r s x v1 ∧ v1 ≤ gTn (x :: c) ∧ v1 < 9999 := by
  obtain ⟨h1, h2, h3, h4⟩ := id h
  obtain ⟨v', hv'⟩ := gMn_ex gTn 9999 (gOk A B C (r - gS A B C s x) (gN A B C s x))
  have := gOk_tn h hr
  have e2 : gTn (x :: c) = gBc x + gTn c := rfl
  have l : v' ≤ gTn c := by
    rcases hv' with ⟨-, n⟩ | ⟨p, -, e, m⟩
    · exact absurd h4 (n _)
    · have := m _ h4
      omega
  exact ⟨gBc x + v', ⟨h2, h3, v', hv', rfl⟩, by omega, by omega⟩
/-- as the reference goes -/
def gGr (A B C : Nat) : Nat → Nat → List Nat → Prop
  | r, _, [] => r = 0
  | r, s, x :: c => x < 8 ∧ gGr A B C (r - gS A B C s x) (gN A B C s x) c ∧ ∃ v, gMn gTn 9999 (gOk A B C r s) v ∧ v < 9999 ∧ gBy A B C r s x v ∧ ∀ y, y < x → ¬ gBy A B C r s y v
theorem gGr_ok {A B C : Nat} : ∀ {p : List Nat} {r s : Nat}, gGr A B C r s p → gOk A B C r s p
  | [], _, _, h => h
  | _ :: _, _, _, ⟨h1, h2, _, _, _, h3, _⟩ => ⟨h1, h3.1, h3.2.1, gGr_ok h2⟩
theorem gGr_tn {A B C : Nat} : ∀ {p : List Nat} {r s v : Nat}, r ≤ 30 → gGr A B C r s p → gMn gTn 9999 (gOk A B C r s) v → gTn p = v
  | [], r, s, v, _, h, hv => by
    have e : r = 0 := h
    have hok : gOk A B C r s [] := e
    rcases hv with ⟨-, n⟩ | ⟨p, -, e, m⟩
    · exact absurd hok (n _)
    · have := m _ hok
      show 0 = v
      have z : gTn [] = 0 := rfl
      omega
  | x :: c, r, s, v, hr, h, hv => by
    obtain ⟨h1, h2, w, h3, h4, ⟨h5, h6, v', h7, h8⟩, -⟩ := h
    have e := gMn_uniq hv h3
    have := gGr_tn (by omega) h2 h7
    show gBc x + gTn c = v
    omega
theorem gGr_ex {A B C : Nat} : ∀ (n r s : Nat), r ≤ n → r ≤ 30 → (∃ p, gOk A B C r s p) → ∃ p, gGr A B C r s p := by
  intro n
  induction n with
  | zero =>
    intro r s hn hr _
    exact ⟨[], show r = 0 by omega⟩
  | succ n ih =>
    intro r s hn hr hp
    by_cases r0 : r = 0
    · exact ⟨[], r0⟩
    obtain ⟨v, hv⟩ := gMn_ex gTn 9999 (gOk A B C r s)
    have hv9 : v < 9999 := (gMn_lt hv (fun p hp => gOk_tn hp hr)).1.mpr hp
    have hsome : ∃ x, x < 8 ∧ gBy A B C r s x v := by
      rcases id hv with ⟨-, n⟩ | ⟨p, a, e, m⟩
      · obtain ⟨p, h⟩ := hp
        exact absurd h (n p)
      · cases p with
        | nil => exact absurd a r0
        | cons x c =>
          obtain ⟨v1, b1, b2, b3⟩ := gBy_of hr a
          have := gBy_lt hr a.1 b1 hv b3
          exact ⟨x, a.1, by rw [show v = v1 by omega]; exact b1⟩
    have hleast : ∀ k x, x < k → x < 8 → gBy A B C r s x v → ∃ x, x < 8 ∧ gBy A B C r s x v ∧ ∀ y, y < x → ¬ gBy A B C r s y v := by
      intro k
      induction k with
      | zero => intro x h; omega
      | succ k ihk =>
        intro x hx h8 hb
        by_cases c : ∃ y, y < x ∧ gBy A B C r s y v
        · obtain ⟨y, d1, d2⟩ := c
          exact ihk y (by omega) (by omega) d2
        · exact ⟨x, h8, hb, fun y hy hb' => c ⟨y, hy, hb'⟩⟩
    obtain ⟨x0, k1, k2⟩ := hsome
    obtain ⟨x, x1, x2, x3⟩ := hleast 8 x0 k1 k1 k2
    obtain ⟨y1, y2, v', y3, y4⟩ := id x2
    have hp' : ∃ p, gOk A B C (r - gS A B C s x) (gN A B C s x) p := (gMn_lt y3 (fun p hp => gOk_tn hp (by omega))).1.mp (by omega)
    obtain ⟨c, hc⟩ := ih (r - gS A B C s x) (gN A B C s x) (by omega) (by omega) hp'
    exact ⟨x :: c, x1, hc, v, hv, hv9, x2, x3⟩
theorem gGr_lex {A B C : Nat} : ∀ (p q : List Nat) (r s k : Nat), r ≤ 30 → gGr A B C r s p → gOk A B C r s q → gTn q = gTn p → gT1 k p q ∨ gT3 k p q
  | [], [], _, _, _, _, _, _, _ => Or.inr ⟨Or.inl rfl, fun _ => rfl⟩
  | [], y :: d, r, s, k, _, h1, h2, _ => by
    obtain ⟨-, g2, g3, -⟩ := h2
    have e : r = 0 := h1
    omega
  | x :: c, [], r, s, k, _, h1, h2, _ => by
    obtain ⟨-, -, v, -, -, ⟨g2, g3, -⟩, -⟩ := h1
    have e : r = 0 := h2
    omega
  | x :: c, y :: d, r, s, k, hr, h1, h2, ht => by
    by_cases hk : 9 ≤ k
    · exact Or.inr (gT_long hk (by simp) (by simp))
    have tv : ∀ {v}, gMn gTn 9999 (gOk A B C r s) v → gTn (x :: c) = v := fun hv => gGr_tn hr h1 hv
    have okx := gGr_ok h1
    obtain ⟨a1, a2, v, a3, a4, a5, a6⟩ := h1
    obtain ⟨v1, b1, b2, b3⟩ := gBy_of hr h2
    have l := gBy_lt hr h2.1 b1 a3 b3
    have e := tv a3
    have ev : v1 = v := by omega
    rw [ev] at b1
    rcases Nat.lt_trichotomy x y with h | h | h
    · exact Or.inl (gT1_cons (gOk_8 (gGr_ok a2)) (gOk_8 h2.2.2.2) h (by omega))
    · subst h
      have : gTn d = gTn c := by
        have e1 : gTn (x :: c) = gBc x + gTn c := rfl
        have e2 : gTn (x :: d) = gBc x + gTn d := rfl
        omega
      rcases gGr_lex c d _ _ (k + 1) (by omega) a2 h2.2.2.2 this with q | q
      · exact Or.inl (gT1_s q)
      · exact Or.inr (gT3_s q)
    · exact absurd b1 (a6 y h)
def gNm : Nat → List Nat → Nat
  | a, [] => a
  | a, x :: c => gNm (10 * a + x + 1) c
theorem gNm_dg : ∀ (p : List Nat) (a k : Nat), k + p.length ≤ 9 → gNm a p * 10 ^ (11 - (k + p.length)) = a * 10 ^ (11 - k) + gDg k p
  | [], a, k, _ => rfl
  | x :: c, a, k, h => by
    simp only [List.length_cons] at h
    have q := gNm_dg c (10 * a + x + 1) (k + 1) (by omega)
    show gNm (10 * a + x + 1) c * 10 ^ (11 - (k + (c.length + 1))) = a * 10 ^ (11 - k) + ((x + 1) * gPL k + gDg (k + 1) c)
    rw [show k + (c.length + 1) = k + 1 + c.length by omega, q, show gPL k = 10 ^ (10 - k) from if_pos (by omega), show 11 - k = 10 - k + 1 by omega, show 11 - (k + 1) = 10 - k by omega, Nat.pow_succ]
    rw [show 10 * a + x + 1 = 10 * a + (x + 1) by omega, Nat.add_mul, Nat.mul_assoc, Nat.mul_comm 10 (a * _), Nat.mul_assoc]
    omega
/-- the way of least key, read back -/
theorem gWay_eq {A B C m w : Nat} {P : List Nat} (hm : m ≤ 30) (hw : gMn gKey 9223372036854775807 (gOk A B C m 0) w) (hP : gGr A B C m 0 P) : ∃ K, gOk A B C m 0 K ∧ w = gKey K ∧ gTn K = gTn P ∧ (K = P ∨ 9 < P.length ∧ 9 < K.length) := by
  have okP := gGr_ok hP
  rcases hw with ⟨-, n⟩ | ⟨K, a, b, c⟩
  · exact absurd okP (n P)
  have hl := c P okP
  have lP := gOk_len okP
  have lK := gOk_len a
  have wP := gKey_low (gOk_8 okP) (by omega)
  have wK := gKey_low (gOk_8 a) (by omega)
  obtain ⟨v, hv⟩ := gMn_ex gTn 9999 (gOk A B C m 0)
  have ev := gGr_tn hm hP hv
  have e1 : gTn P ≤ gTn K := by
    rcases hv with ⟨-, n⟩ | ⟨p, -, e, m⟩
    · exact absurd okP (n P)
    · have := m _ a
      omega
  have e2 : gTn K = gTn P := by
    by_cases q : gTn P < gTn K
    · unfold gKey at hl
      exact absurd hl (gAr2 wP q)
    · omega
  refine ⟨K, a, b, e2, ?_⟩
  rcases gGr_lex P K m 0 0 hm hP a e2 with t | t
  · have := t [] [] (fun _ hy => absurd hy (by simp)) (fun _ hy => absurd hy (by simp))
    rw [List.append_nil, List.append_nil] at this
    unfold gKey at hl
    rw [e2] at hl
    exact absurd hl (gAr4 this (by omega))
  · rcases t.1 with h | h
    · exact Or.inl h.symm
    · exact Or.inr ⟨by omega, by omega⟩
theorem gKey_parts {p : List Nat} (h8 : g8 p) (h : p.length < 100) : gKey p / 100000000000 = gTn p ∧ gKey p % 100000000000 = gDg 0 p + p.length := by
  have q := gKey_low h8 h
  unfold gKey
  rw [Nat.add_assoc]
  constructor
  · rw [Nat.add_comm, Nat.add_mul_div_right _ _ (by decide), Nat.div_eq_of_lt q, Nat.zero_add]
  · rw [Nat.add_comm, Nat.add_mul_mod_self_right, Nat.mod_eq_of_lt q]
theorem gKey_way {p : List Nat} (h8 : g8 p) (h9 : p.length ≤ 9) : gKey p % 100000000000 / 10 ^ (11 - p.length) = gNm 0 p := by
  rw [(gKey_parts h8 (by omega)).2]
  have q := gNm_dg p 0 0 (by omega)
  rw [Nat.zero_mul, Nat.zero_add, Nat.zero_add] at q
  rw [← q]
  have hp : 100 ≤ 10 ^ (11 - p.length) := Nat.le_trans (show 100 ≤ 10 ^ 2 by decide) (Nat.pow_le_pow_right (by decide) (by omega))
  rw [Nat.mul_comm, Nat.mul_add_div (by omega), Nat.div_eq_of_lt (by omega)]
  rfl
theorem gKey_lt {A B C : Nat} {p : List Nat} {r s : Nat} (h : gOk A B C r s p) (hr : r ≤ 30) : gKey p < 9223372036854775807 := by
  have l := gOk_len h
  have t := gTn_le p
  have q := gKey_low (gOk_8 h) (by omega)
  have t90 : gTn p ≤ 90 := by omega
  have := Nat.mul_le_mul_right 100000000000 t90
  unfold gKey
  omega

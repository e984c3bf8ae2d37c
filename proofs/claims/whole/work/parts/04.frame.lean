/-! a fixed graph of cells: what they hold, as numbers; the rows of the kit over it -/
abbrev zM : Type := (Nat → Nat → Int32) × (Nat → Nat → Int64)
def zr (M : zM) (i : Nat) (f : Nat → Int32) : zM := (fun a => if a = i then f else M.1 a, M.2)
def zu (M : zM) (i k : Nat) (v : Int32) : zM := zr M i (upd (M.1 i) k v)
def zrl (M : zM) (i : Nat) (f : Nat → Int64) : zM := (M.1, fun a => if a = i then f else M.2 a)
def zul (M : zM) (i k : Nat) (v : Int64) : zM := zrl M i (vp_updL (M.2 i) k v)
theorem zr_s (M : zM) (i : Nat) (f : Nat → Int32) : (zr M i f).1 i = f := if_pos rfl
theorem zr_n (M : zM) {i a : Nat} (h : a ≠ i) (f : Nat → Int32) : (zr M i f).1 a = M.1 a := if_neg h
theorem zr_l (M : zM) (i : Nat) (f : Nat → Int32) : (zr M i f).2 = M.2 := rfl
theorem zrl_s (M : zM) (i : Nat) (f : Nat → Int64) : (zrl M i f).2 i = f := if_pos rfl
theorem zrl_n (M : zM) {i a : Nat} (h : a ≠ i) (f : Nat → Int64) : (zrl M i f).2 a = M.2 a := if_neg h
theorem zrl_i (M : zM) (i : Nat) (f : Nat → Int64) : (zrl M i f).1 = M.1 := rfl
/-- the words of a program: a value gets a name, a guard, a call -/
def zL {α β : Type} (e : α) (k : α → β) : β := k e
def zG {β : Type} (b : Bool) (k : Option β) : Option β := if b = true then k else none
def zB {α β γ : Type} (x : Option (α × β)) (k : α → β → Option γ) : Option γ := match x with
  | none => none
  | some u => k u.1 u.2
def zV {β γ : Type} (x : Option β) (k : β → Option γ) : Option γ := match x with
  | none => none
  | some u => k u
theorem zL_o {α β : Type} {e : α} {k : α → β} {o : β} (h : zL e k = o) : ∃ x, x = e ∧ k x = o := ⟨e, rfl, h⟩
theorem zG_o {β : Type} {b : Bool} {k : Option β} {o : β} (h : zG b k = some o) : b = true ∧ k = some o := by
  unfold zG at h
  by_cases c : b = true
  · rw [if_pos c] at h; exact ⟨c, h⟩
  · rw [if_neg c] at h; cases h
theorem zB_o {α β γ : Type} {x : Option (α × β)} {k : α → β → Option γ} {o : γ} (h : zB x k = some o) : ∃ r M', x = some (r, M') ∧ k r M' = some o := by
  cases x with
  | none => cases h
  | some u => exact ⟨u.1, u.2, rfl, h⟩
theorem zV_o {β γ : Type} {x : Option β} {k : β → Option γ} {o : γ} (h : zV x k = some o) : ∃ M', x = some M' ∧ k M' = some o := by
  cases x with
  | none => cases h
  | some u => exact ⟨u, rfl, h⟩
theorem zI_t {β : Type} {c : Prop} {d : Decidable c} {A B : β} {o : β} (hc : c) (h : (@ite β c d A B) = o) : A = o := by rw [if_pos hc] at h; exact h
theorem zI_f {β : Type} {c : Prop} {d : Decidable c} {A B : β} {o : β} (hc : ¬ c) (h : (@ite β c d A B) = o) : B = o := by rw [if_neg hc] at h; exact h
def zin (i : Int32) (n : Nat) : Bool := decide (0 ≤ i.toInt) && decide (i.toInt < n)
theorem zin_i {i : Int32} {n : Nat} (h : zin i n = true) : vp_in i n := by
  simp only [zin, Bool.and_eq_true, decide_eq_true_eq] at h
  exact vp_in_iff.mpr h
def zbo (v : Int32) : Bool := decide (v = 0) || decide (v = 1)
theorem zbo_i {v : Int32} (h : zbo v = true) : narrow .boolean (.int v) = .int v ∧ fits .boolean (.int v) = true := by
  simp only [zbo, Bool.or_eq_true, decide_eq_true_eq] at h
  rcases h with rfl | rfl
  · exact ⟨rfl, by decide⟩
  · exact ⟨rfl, by decide⟩
def znz (v : Int32) : Bool := !decide (v = 0)
theorem znz_i {v : Int32} (h : znz v = true) : ¬ v = 0 := by simpa [znz] using h
def znzl (v : Int64) : Bool := !decide (v = 0)
theorem znzl_i {v : Int64} (h : znzl v = true) : ¬ v = 0 := by simpa [znzl] using h
/-- how many turns a loop is given -/
def zF : Nat := 100000
theorem zF_s : ∃ n, zF = n + 1 ∧ 99999 ≤ n := ⟨99999, rfl, Nat.le_refl _⟩
/-- a cell's shape: an object (its class; its fields: a number, or a reference to the cell of that number), or an array (kind, length; of references: to which cells) -/
abbrev zSh : Type := (Nat × List (Option Nat)) ⊕ (Nat × Nat × Nat × Nat)
abbrev zGr : Type := va_G × (Nat → ClassId) × (Nat → Nat) × (Nat → Nat)
def zfl (ad : Nat → Nat) (g : Nat → Int32) : Nat → List (Option Nat) → List Value
  | _, [] => []
  | k, none :: r => .int (g k) :: zfl ad g (k + 1) r
  | k, some j :: r => .ref (ad j) :: zfl ad g (k + 1) r
def zcell (G : zGr) (M : zM) (i : Nat) : zSh → va_E
  | .inl o => .inr (o.1, zfl G.2.2.1 (M.1 i) 0 o.2)
  | .inr (0, n, _, _) => .inl (G.2.1 0, n, .inl (M.1 i))
  | .inr (1, n, _, _) => .inl (G.2.1 1, n, .inr (.inl (M.2 i)))
  | .inr (2, n, _, _) => .inl (G.2.1 2, n, .inl (M.1 i))
  | .inr (k + 3, n, b, d) => .inl (G.2.1 (k + 3), n, .inr (.inr (.inr (.inr (fun j => some (G.2.2.1 (b + d * j)))))))
def ztys (G : zGr) : List (ClassId × FieldType) := [(G.2.1 0, .int), (G.2.1 1, .long), (G.2.1 2, .boolean), (G.2.1 3, .object "GlassesOfRue$Text"), (G.2.1 4, .object "GlassesOfRue$Sheet")]
def zw (G : zGr) (sh : Nat → zSh) (N : Nat) (M : zM) : va_W := (List.range N).map fun i => (G.2.2.1 i, zcell G M i (sh i))
theorem zw_get (G : zGr) (sh : Nat → zSh) {N : Nat} (M : zM) {i : Nat} (h : i < N) : (zw G sh N M)[i]? = some (G.2.2.1 i, zcell G M i (sh i)) := by
  simp [zw, h]
theorem zcell_c {G : zGr} {M M' : zM} {i : Nat} (h1 : M'.1 i = M.1 i) (h2 : M'.2 i = M.2 i) (s : zSh) : zcell G M' i s = zcell G M i s := by
  match s with
  | .inl o => simp only [zcell, h1]
  | .inr (0, n, b, d) => simp only [zcell, h1]
  | .inr (1, n, b, d) => simp only [zcell, h2]
  | .inr (2, n, b, d) => simp only [zcell, h1]
  | .inr (k + 3, n, b, d) => simp only [zcell]
theorem zw_set {G : zGr} {sh : Nat → zSh} {N : Nat} {M M' : zM} {i : Nat} {e : va_E} (h : i < N) (he : zcell G M' i (sh i) = e) (ho : ∀ a, a ≠ i → M'.1 a = M.1 a ∧ M'.2 a = M.2 a) : (zw G sh N M).set i (G.2.2.1 i, e) = zw G sh N M' := by
  apply List.ext_getElem?
  intro k
  by_cases hk : k = i
  · subst hk
    rw [List.getElem?_set_self (by simpa [zw] using h), zw_get G sh M' h, he]
  · rw [List.getElem?_set_ne (Ne.symm hk)]
    by_cases hl : k < N
    · rw [zw_get G sh M hl, zw_get G sh M' hl, zcell_c (ho k hk).1 (ho k hk).2]
    · rw [List.getElem?_eq_none (by simp [zw]; omega), List.getElem?_eq_none (by simp [zw]; omega)]
theorem zfl_set (ad : Nat → Nat) (g : Nat → Int32) (v : Int32) : ∀ (fl : List (Option Nat)) (k0 k : Nat), fl[k]? = some none → (zfl ad g k0 fl).set k (.int v) = zfl ad (upd g (k0 + k) v) k0 fl := by
  have late : ∀ (fl : List (Option Nat)) (k0 j : Nat), j < k0 → zfl ad (upd g j v) k0 fl = zfl ad g k0 fl := by
    intro fl
    induction fl with
    | nil => intro k0 j _; rfl
    | cons a r ih =>
      intro k0 j hj
      cases a with
      | none =>
        simp only [zfl, ih (k0 + 1) j (by omega)]
        rw [show upd g j v k0 = g k0 from if_neg (by omega)]
      | some b => simp only [zfl, ih (k0 + 1) j (by omega)]
  intro fl
  induction fl with
  | nil => intro k0 k h; simp at h
  | cons a r ih =>
    intro k0 k h
    cases k with
    | zero =>
      simp at h
      subst h
      simp only [zfl, List.set_cons_zero, Nat.add_zero, late r (k0 + 1) k0 (by omega)]
      rw [show upd g k0 v k0 = v from if_pos rfl]
    | succ k =>
      simp at h
      have e := ih (k0 + 1) k h
      rw [show k0 + 1 + k = k0 + (k + 1) by omega] at e
      cases a with
      | none =>
        simp only [zfl, List.set_cons_succ, e]
        rw [show upd g (k0 + (k + 1)) v k0 = g k0 from if_neg (by omega)]
      | some b => simp only [zfl, List.set_cons_succ, e]
theorem zfl_len (ad : Nat → Nat) (g : Nat → Int32) : ∀ (fl : List (Option Nat)) (k0 : Nat), (zfl ad g k0 fl).length = fl.length := by
  intro fl
  induction fl with
  | nil => intro k0; rfl
  | cons a r ih => intro k0; cases a <;> simp [zfl, ih]
theorem zfl_i (ad : Nat → Nat) (g : Nat → Int32) : ∀ (fl : List (Option Nat)) (k0 k : Nat), fl[k]? = some none → (zfl ad g k0 fl)[k]? = some (.int (g (k0 + k))) := by
  intro fl
  induction fl with
  | nil => intro k0 k h; simp at h
  | cons a r ih =>
    intro k0 k h
    cases k with
    | zero => simp at h; subst h; simp [zfl]
    | succ k =>
      simp at h
      have e := ih (k0 + 1) k h
      rw [show k0 + 1 + k = k0 + (k + 1) by omega] at e
      cases a <;> simpa [zfl] using e
theorem zfl_q (ad : Nat → Nat) (g : Nat → Int32) : ∀ (fl : List (Option Nat)) (k0 k j : Nat), fl[k]? = some (some j) → (zfl ad g k0 fl)[k]? = some (.ref (ad j)) := by
  intro fl
  induction fl with
  | nil => intro k0 k j h; simp at h
  | cons a r ih =>
    intro k0 k j h
    cases k with
    | zero => simp at h; subst h; simp [zfl]
    | succ k =>
      simp at h
      have e := ih (k0 + 1) k j h
      cases a <;> simpa [zfl] using e
/-- which cells a method may change: its world's, and those that come -/
def zA (G : zGr) (N sz : Nat) : Nat → Prop := fun q => (∃ i, i < N ∧ q = G.2.2.1 i) ∨ sz ≤ q
def zJ (G : zGr) (N : Nat) : Prop := ∀ i j, i < N → j < N → G.2.2.1 i = G.2.2.1 j → i = j
theorem zw_D {G : zGr} {sh : Nat → zSh} {N : Nat} (hJ : zJ G N) (M : zM) (sz : Nat) : va_D (zA G N sz) (zw G sh N M) := by
  have key : ∀ (k : Nat) (q : Nat × va_E), (zw G sh N M)[k]? = some q → k < N ∧ q.1 = G.2.2.1 k := by
    intro k q hq
    have hl : k < N := by simpa [zw] using (List.getElem?_eq_some_iff.mp hq).1
    rw [zw_get G sh M hl] at hq
    cases hq
    exact ⟨hl, rfl⟩
  refine ⟨fun i j x y hi hj hxy => ?_, fun k q hk => ?_⟩
  · obtain ⟨a1, a2⟩ := key i x hi
    obtain ⟨b1, b2⟩ := key j y hj
    exact hJ i j a1 b1 (by rw [← a2, ← b2, hxy])
  · obtain ⟨a1, a2⟩ := key k q hk
    exact Or.inl ⟨k, a1, a2⟩

/-! PURE: numbers, guards, what stays -/
theorem zin_nI {i n : Nat} (h : i < n) (hn : n < 2 ^ 31) : zin (nI i) n = true := by
  simp only [zin, Bool.and_eq_true, decide_eq_true_eq]
  rw [nI_toInt (by omega)]
  omega
theorem zin_of {x : Int32} {n : Nat} (h : zin x n = true) (hn : n < 2 ^ 31) : ∃ i : Nat, i < n ∧ x = nI i := by
  obtain ⟨j, hj, e⟩ := vp_in_of (zin_i h) hn
  exact ⟨j, hj, e⟩
theorem zG_t {β : Type} {b : Bool} (h : b = true) (k : Option β) : zG b k = k := by unfold zG; rw [if_pos h]
theorem zL_r {α β : Type} (e : α) (k : α → β) : zL e k = k e := rfl
theorem zB_s {α β γ : Type} {x : Option (α × β)} {r : α} {M' : β} (h : x = some (r, M')) (k : α → β → Option γ) : zB x k = k r M' := by rw [h]; rfl
theorem zV_s {β γ : Type} {x : Option β} {M' : β} (h : x = some M') (k : β → Option γ) : zV x k = k M' := by rw [h]; rfl
/-- only the rows of S differ -/
def zO (S : List Nat) (M M' : zM) : Prop := M'.2 = M.2 ∧ ∀ i, i ∉ S → M'.1 i = M.1 i
theorem zO_refl (S : List Nat) (M : zM) : zO S M M := ⟨rfl, fun _ _ => rfl⟩
theorem zO_trans {S : List Nat} {M M' M'' : zM} (h1 : zO S M M') (h2 : zO S M' M'') : zO S M M'' := ⟨h2.1.trans h1.1, fun i hi => (h2.2 i hi).trans (h1.2 i hi)⟩
theorem zO_mono {S T : List Nat} {M M' : zM} (h : zO S M M') (hST : ∀ i, i ∈ S → i ∈ T) : zO T M M' := ⟨h.1, fun i hi => h.2 i (fun q => hi (hST i q))⟩
theorem zO_zr (M : zM) (i : Nat) (f : Nat → Int32) {S : List Nat} (h : i ∈ S) : zO S M (zr M i f) := ⟨rfl, fun a ha => zr_n M (show a ≠ i from fun e => ha (by rw [e]; exact h)) f⟩
theorem zO_zu (M : zM) (i k : Nat) (v : Int32) {S : List Nat} (h : i ∈ S) : zO S M (zu M i k v) := zO_zr M i _ h
theorem zu_same (M : zM) (i k : Nat) (v : Int32) : (zu M i k v).1 i k = v := by
  unfold zu; rw [zr_s]; exact if_pos rfl
theorem zu_other (M : zM) (i : Nat) {k j : Nat} (h : j ≠ k) (v : Int32) : (zu M i k v).1 i j = M.1 i j := by
  unfold zu; rw [zr_s]; exact if_neg h
theorem zu_row (M : zM) {i a : Nat} (h : a ≠ i) (k : Nat) (v : Int32) : (zu M i k v).1 a = M.1 a := zr_n M h _
theorem zu_at (M : zM) (i k : Nat) (v : Int32) (a j : Nat) : (zu M i k v).1 a j = if a = i ∧ j = k then v else M.1 a j := by
  by_cases h : a = i
  · subst h
    by_cases h2 : j = k
    · subst h2; rw [zu_same, if_pos ⟨rfl, rfl⟩]
    · rw [zu_other _ _ h2, if_neg (fun q => h2 q.2)]
  · rw [zu_row _ h, if_neg (fun q => h q.1)]
theorem zu_2 (M : zM) (i k : Nat) (v : Int32) : (zu M i k v).2 = M.2 := rfl
theorem n0 : (0 : Int32).toNatClampNeg = 0 := rfl
theorem n1 : (1 : Int32).toNatClampNeg = 1 := rfl
theorem n2 : (2 : Int32).toNatClampNeg = 2 := rfl
theorem n3 : (3 : Int32).toNatClampNeg = 3 := rfl
theorem n4 : (4 : Int32).toNatClampNeg = 4 := rfl
theorem n5 : (5 : Int32).toNatClampNeg = 5 := rfl
theorem nIc {i : Nat} (h : i < 2 ^ 31) : (nI i).toNatClampNeg = i := nI_clamp h
theorem nI_m1 {i : Nat} (h : 0 < i) : nI i - 1 = nI (i - 1) := by
  obtain ⟨j, rfl⟩ : ∃ j, i = j + 1 := ⟨i - 1, by omega⟩
  rw [nI_pred]; rfl
theorem nI_p1 (i : Nat) : nI i + (-1 : Int32) = nI i - 1 := by
  rw [Int32.sub_eq_add_neg]
theorem nI_le' {a b : Nat} (ha : a < 2 ^ 31) (hb : b < 2 ^ 31) : nI a ≤ nI b ↔ a ≤ b := nI_leI ha hb
theorem nI_lt' {a b : Nat} (ha : a < 2 ^ 31) (hb : b < 2 ^ 31) : nI a < nI b ↔ a < b := nI_ltI ha hb
theorem nI_le_c {a : Nat} {c : Int32} {b : Nat} (hc : c = nI b) (ha : a < 2 ^ 31) (hb : b < 2 ^ 31) : c ≤ nI a ↔ b ≤ a := by rw [hc]; exact nI_leI hb ha
theorem nlt_iff {a b : Int32} : ¬ a < b ↔ b ≤ a := Int32.not_lt
theorem nle_iff {a b : Int32} : ¬ a ≤ b ↔ b < a := Int32.not_le
/-! codes of a text: what they tell -/
def sJ (t a b : Int32) : Int32 :=
  if t = 7 then (if a = 0 then (if b = 0 then 0 else 1) else 1)
  else if t = 8 then (if a = 0 then 0 else if b = 0 then 0 else 1)
  else if t = 43 then a + b else if t = 45 then a - b
  else if t = 60 then (if b ≤ a then 0 else 1) else if t = 61 then (if a = b then 1 else 0) else a * b
def sC (c a : Int32) : Int32 := if c = 30000 then -a else if a = 0 then 1 else 0
theorem fX3_joined_e (t a b : Int32) (M : zM) : fX3_joined t a b M = some (sJ t a b, M) := by
  unfold fX3_joined sJ
  repeat' split
  all_goals rfl
theorem fX3_changed_e (c a : Int32) (M : zM) : fX3_changed c a M = some (sC c a, M) := by
  unfold fX3_changed sC
  repeat' split
  all_goals rfl
def sS (nm : Nat → Int32) (c : Int32) (st : List Int32) : List Int32 :=
  if c < 20000 then (if c < 10000 then c :: st else nm (c - 10000).toNatClampNeg :: st)
  else if c < 30000 then (match st with
    | b :: a :: r => sJ (c - 20000) a b :: r
    | s => s)
  else (match st with
    | a :: r => sC c a :: r
    | s => s)
def sE (nm : Nat → Int32) : List Int32 → List Int32 → List Int32
  | [], st => st
  | c :: l, st => sE nm l (sS nm c st)
def sV (nm : Nat → Int32) (l : List Int32) : Int32 := (sE nm l []).headD 0
/-- codes that never ask for more than lies there, nor for more than 160, and leave one -/
def wfc : List Int32 → Nat → Prop
  | [], h => h = 1
  | c :: l, h => (0 ≤ c ∧ c < 10006 ∧ h < 160 ∧ wfc l (h + 1)) ∨ (20000 ≤ c ∧ c < 30000 ∧ 2 ≤ h ∧ wfc l (h - 1)) ∨ (30000 ≤ c ∧ 1 ≤ h ∧ wfc l h)
/-- the stack of an array: the first h of it, the last on top -/
def stk (f : Nat → Int32) : Nat → List Int32
  | 0 => []
  | h + 1 => f h :: stk f h
theorem stk_congr {f g : Nat → Int32} : ∀ {h : Nat}, (∀ k, k < h → f k = g k) → stk f h = stk g h
  | 0, _ => rfl
  | h + 1, e => by
    unfold stk
    rw [e h (Nat.lt_succ_self h), stk_congr (fun k hk => e k (Nat.lt_succ_of_lt hk))]
theorem stk_put (f : Nat → Int32) (h : Nat) (v : Int32) : stk (upd f h v) (h + 1) = v :: stk f h := by
  show upd f h v h :: stk (upd f h v) h = _
  rw [show upd f h v h = v from if_pos rfl, stk_congr (f := upd f h v) (g := f) (h := h) (fun k hk => if_neg (by omega))]
theorem stk_put' (f : Nat → Int32) {h j : Nat} (hj : h ≤ j) (v : Int32) : stk (upd f j v) h = stk f h := stk_congr (fun k hk => if_neg (by omega))

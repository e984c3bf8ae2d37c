/-! texts: tokens of a tape -/
def isBl (c : Int32) : Bool := decide (c = 32) || decide (c = 10)
def isDg (c : Int32) : Bool := decide (48 ≤ c) && decide (c ≤ 57)
def isLt (c : Int32) : Bool := decide (97 ≤ c) && decide (c ≤ 122)
def isSg (c : Int32) : Bool := decide (c = 40) || decide (c = 41) || decide (c = 42) || decide (c = 43) || decide (c = 45) || decide (c = 59) || decide (c = 60) || decide (c = 61)
def scn (P : Int32 → Bool) (b : Nat → Int32) (z : Nat) : Nat → Nat → Nat
  | 0 => fun p => p
  | d + 1 => fun p => if p < z ∧ P (b p) = true then scn P b z d (p + 1) else p
theorem scn_s (P : Int32 → Bool) (b : Nat → Int32) (z d p : Nat) : scn P b z (d + 1) p = if p < z ∧ P (b p) = true then scn P b z d (p + 1) else p := rfl
theorem scn_p (P : Int32 → Bool) (b : Nat → Int32) (z : Nat) : ∀ (d p : Nat), p ≤ scn P b z d p ∧ (p ≤ z → scn P b z d p ≤ z) ∧ (∀ j, p ≤ j → j < scn P b z d p → j < z ∧ P (b j) = true) ∧ (z ≤ p + d → ¬ (scn P b z d p < z ∧ P (b (scn P b z d p)) = true))
  | 0, p => ⟨Nat.le_refl _, fun h => h, fun j h1 h2 => by
      have : scn P b z 0 p = p := rfl
      omega, fun h q => by
      have e : scn P b z 0 p = p := rfl
      rw [e] at q
      omega⟩
  | d + 1, p => by
    rw [scn_s]
    by_cases c : p < z ∧ P (b p) = true
    · rw [if_pos c]
      obtain ⟨h1, h2, h3, h4⟩ := scn_p P b z d (p + 1)
      refine ⟨by omega, fun h => h2 (by omega), fun j j1 j2 => ?_, fun h => h4 (by omega)⟩
      by_cases e : j = p
      · rw [e]; exact c
      · exact h3 j (by omega) j2
    · rw [if_neg c]
      exact ⟨Nat.le_refl _, fun h => h, fun j j1 j2 => by omega, fun _ => c⟩
/-- one more: a scan that goes on -/
theorem scn_go {P : Int32 → Bool} {b : Nat → Int32} {z p : Nat} (h : p < z ∧ P (b p) = true) (hz : z ≤ 160) : scn P b z 160 p = scn P b z 160 (p + 1) := by
  have e : ∀ d q, z ≤ q + d → scn P b z (d + 1) q = scn P b z d q := by
    intro d
    induction d with
    | zero =>
      intro q hq
      rw [scn_s, if_neg (fun c => by omega)]
      rfl
    | succ d ih =>
      intro q hq
      rw [scn_s, scn_s P b z d q]
      by_cases c : q < z ∧ P (b q) = true
      · rw [if_pos c, if_pos c, ih (q + 1) (by omega)]
      · rw [if_neg c, if_neg c]
  rw [show (160 : Nat) = 159 + 1 from rfl, scn_s, if_pos h, e 159 (p + 1) (by omega)]
theorem scn_no {P : Int32 → Bool} {b : Nat → Int32} {z p : Nat} (h : ¬ (p < z ∧ P (b p) = true)) : scn P b z 160 p = p := by
  rw [show (160 : Nat) = 159 + 1 from rfl, scn_s, if_neg h]
def nval (b : Nat → Int32) (f : Nat) : Nat → Nat
  | 0 => 0
  | n + 1 => nval b f n * 10 + ((b (f + n)).toNatClampNeg - 48)
def lsF (b : Nat → Int32) : Nat → Nat → List Int32
  | 0 => fun _ => []
  | n + 1 => fun f => b f :: lsF b n (f + 1)
def wW : List (List Int32) := [[114,117,101], [110,117,109,98,101,114], [119,101,116], [100,97,121], [104,97,100], [109,111,115,116], [114,117,110,115], [99,108,111,103,115], [114,117,101,115], [111,114], [97,110,100], [110,111,116]]
def wdA (l : List Int32) : List (List Int32) → Nat → Nat
  | [] => fun n => n
  | w :: ws => fun n => if l = w then n else wdA l ws (n + 1)
/-- which word it is; 12: none -/
def wd (l : List Int32) : Nat := wdA l wW 0
def lxF (b : Nat → Int32) (z f : Nat) : Nat × Nat × Nat × Nat :=
  if z ≤ f then (0, 0, f, f)
  else if isDg (b f) = true then (if scn isDg b z 160 f - f ≤ 4 then 2 else 1, nval b f (min (scn isDg b z 160 f - f) 4), f, scn isDg b z 160 f)
  else if isLt (b f) = true then (if wd (lsF b (scn isLt b z 160 f - f) f) = 12 then 1 else if wd (lsF b (scn isLt b z 160 f - f) f) < 6 then 3 else wd (lsF b (scn isLt b z 160 f - f) f) - 2, if wd (lsF b (scn isLt b z 160 f - f) f) < 6 then wd (lsF b (scn isLt b z 160 f - f) f) else 0, f, scn isLt b z 160 f)
  else (if isSg (b f) = true then (b f).toNatClampNeg else 1, 0, f, f + 1)
def lx (b : Nat → Int32) (z p : Nat) : Nat × Nat × Nat × Nat := lxF b z (scn isBl b z 160 p)
def psT (b : Nat → Int32) (z : Nat) : Nat → Nat
  | 0 => 0
  | i + 1 => (lx b z (psT b z i)).2.2.2
def lxT (b : Nat → Int32) (z : Nat) : zTk := (fun i => (lx b z (psT b z i)).1, fun i => (lx b z (psT b z i)).2.1, fun i => (lx b z (psT b z i)).2.2.1, fun i => (lx b z (psT b z i)).2.2.2)
theorem isDg_n {c : Int32} (h : isDg c = true) : ∃ d : Nat, 48 ≤ d ∧ d ≤ 57 ∧ c = nI d := by
  unfold isDg at h
  rw [Bool.and_eq_true, decide_eq_true_eq, decide_eq_true_eq] at h
  exact i32_in (a := 48) (b := 57) h.1 h.2 (by omega) (by omega)
theorem isLt_n {c : Int32} (h : isLt c = true) : ∃ d : Nat, 97 ≤ d ∧ d ≤ 122 ∧ c = nI d := by
  unfold isLt at h
  rw [Bool.and_eq_true, decide_eq_true_eq, decide_eq_true_eq] at h
  exact i32_in (a := 97) (b := 122) h.1 h.2 (by omega) (by omega)
theorem nval_lt {b : Nat → Int32} {f : Nat} : ∀ n, (∀ j, j < n → isDg (b (f + j)) = true) → nval b f n < 10 ^ n
  | 0, _ => by show 0 < 1; decide
  | n + 1, h => by
    have q := nval_lt n (fun j hj => h j (by omega))
    obtain ⟨d, d1, d2, e⟩ := isDg_n (h n (by omega))
    show nval b f n * 10 + ((b (f + n)).toNatClampNeg - 48) < 10 ^ (n + 1)
    rw [e, nIc (by omega), Nat.pow_succ]
    omega
theorem wdA_le (l : List Int32) : ∀ (ws : List (List Int32)) (n : Nat), n ≤ wdA l ws n ∧ wdA l ws n ≤ n + ws.length
  | [], n => ⟨Nat.le_refl _, Nat.le_refl _⟩
  | w :: ws, n => by
    have e : wdA l (w :: ws) n = if l = w then n else wdA l ws (n + 1) := rfl
    rw [e]
    have := wdA_le l ws (n + 1)
    simp only [List.length_cons]
    by_cases c : l = w
    · rw [if_pos c]; omega
    · rw [if_neg c]; omega
theorem wd_le (l : List Int32) : wd l ≤ 12 := (wdA_le l wW 0).2
theorem isSg_n {c : Int32} (h : isSg c = true) : c = 40 ∨ c = 41 ∨ c = 42 ∨ c = 43 ∨ c = 45 ∨ c = 59 ∨ c = 60 ∨ c = 61 := by
  unfold isSg at h
  simp only [Bool.or_eq_true, decide_eq_true_eq, or_assoc] at h
  exact h
theorem lx_0 {b : Nat → Int32} {z p : Nat} (h : z ≤ scn isBl b z 160 p) : lx b z p = (0, 0, scn isBl b z 160 p, scn isBl b z 160 p) := by
  unfold lx lxF
  exact if_pos h
theorem lx_d {b : Nat → Int32} {z p f t : Nat} (hf : scn isBl b z 160 p = f) (h : f < z) (hd : isDg (b f) = true) (ht : scn isDg b z 160 f = t) : lx b z p = (if t - f ≤ 4 then 2 else 1, nval b f (min (t - f) 4), f, t) := by
  unfold lx lxF
  rw [hf, ht]
  rw [if_neg (by omega), if_pos hd]
theorem lx_l {b : Nat → Int32} {z p f t w : Nat} (hf : scn isBl b z 160 p = f) (h : f < z) (hd : ¬ isDg (b f) = true) (hl : isLt (b f) = true) (ht : scn isLt b z 160 f = t) (hw : wd (lsF b (t - f) f) = w) : lx b z p = (if w = 12 then 1 else if w < 6 then 3 else w - 2, if w < 6 then w else 0, f, t) := by
  unfold lx lxF
  rw [hf, ht, hw]
  rw [if_neg (by omega), if_neg hd, if_pos hl]
theorem lx_g {b : Nat → Int32} {z p f : Nat} (hf : scn isBl b z 160 p = f) (h : f < z) (hd : ¬ isDg (b f) = true) (hl : ¬ isLt (b f) = true) : lx b z p = (if isSg (b f) = true then (b f).toNatClampNeg else 1, 0, f, f + 1) := by
  unfold lx lxF
  rw [hf]
  rw [if_neg (by omega), if_neg hd, if_neg hl]
/-- from, to -/
theorem lx_p {b : Nat → Int32} {z p : Nat} (hz : z ≤ 160) : p ≤ (lx b z p).2.2.1 ∧ (lx b z p).2.2.1 ≤ (lx b z p).2.2.2 ∧ (p ≤ z → (lx b z p).2.2.2 ≤ z) ∧ ((lx b z p).1 ≠ 0 → (lx b z p).2.2.1 < z ∧ p + 1 ≤ (lx b z p).2.2.2) ∧ ((lx b z p).1 = 0 → z ≤ (lx b z p).2.2.2) := by
  obtain ⟨s1, s2, s3, s4⟩ := scn_p isBl b z 160 p
  obtain ⟨f, hf⟩ : ∃ f, scn isBl b z 160 p = f := ⟨_, rfl⟩
  rw [hf] at s1 s2
  by_cases c : z ≤ f
  · rw [lx_0 (by rw [hf]; exact c), hf]
    exact ⟨s1, Nat.le_refl _, fun h => s2 h, fun h => absurd rfl h, fun _ => c⟩
  have hlt : f < z := by omega
  by_cases hd : isDg (b f) = true
  · obtain ⟨t, ht⟩ : ∃ t, scn isDg b z 160 f = t := ⟨_, rfl⟩
    have e := scn_go (P := isDg) (b := b) (z := z) (p := f) ⟨hlt, hd⟩ hz
    obtain ⟨u1, u2, -, -⟩ := scn_p isDg b z 160 (f + 1)
    rw [← e, ht] at u1 u2
    rw [lx_d hf hlt hd ht]
    refine ⟨s1, by show f ≤ t; omega, fun h => u2 (by omega), fun _ => ⟨hlt, by show p + 1 ≤ t; omega⟩, fun h => ?_⟩
    have h' : (if t - f ≤ 4 then 2 else 1) = 0 := h
    split at h' <;> omega
  by_cases hl : isLt (b f) = true
  · obtain ⟨t, ht⟩ : ∃ t, scn isLt b z 160 f = t := ⟨_, rfl⟩
    have e := scn_go (P := isLt) (b := b) (z := z) (p := f) ⟨hlt, hl⟩ hz
    obtain ⟨u1, u2, -, -⟩ := scn_p isLt b z 160 (f + 1)
    rw [← e, ht] at u1 u2
    obtain ⟨w, hw⟩ : ∃ w, wd (lsF b (t - f) f) = w := ⟨_, rfl⟩
    rw [lx_l hf hlt hd hl ht hw]
    refine ⟨s1, by show f ≤ t; omega, fun h => u2 (by omega), fun _ => ⟨hlt, by show p + 1 ≤ t; omega⟩, fun h => ?_⟩
    have h' : (if w = 12 then 1 else if w < 6 then 3 else w - 2) = 0 := h
    split at h'
    · omega
    · split at h' <;> omega
  · rw [lx_g hf hlt hd hl]
    refine ⟨s1, by show f ≤ f + 1; omega, fun h => by show f + 1 ≤ z; omega, fun _ => ⟨hlt, by show p + 1 ≤ f + 1; omega⟩, fun h => ?_⟩
    have h' : (if isSg (b f) = true then (b f).toNatClampNeg else 1) = 0 := h
    by_cases g : isSg (b f) = true
    · rw [if_pos g] at h'
      rcases isSg_n g with q | q | q | q | q | q | q | q <;> rw [q] at h' <;> exact absurd h' (by decide)
    · rw [if_neg g] at h'; omega
theorem psT_le {b : Nat → Int32} {z : Nat} (hz : z ≤ 160) : ∀ i, psT b z i ≤ z
  | 0 => Nat.zero_le _
  | i + 1 => (lx_p hz).2.2.1 (psT_le hz i)
theorem psT_ge {b : Nat → Int32} {z : Nat} (hz : z ≤ 160) : ∀ i, i ≤ psT b z i ∨ z ≤ psT b z i
  | 0 => Or.inl (Nat.zero_le _)
  | i + 1 => by
    have h := psT_ge (b := b) hz i
    obtain ⟨h1, h2, h3, h4, h5⟩ := lx_p (b := b) (p := psT b z i) hz
    show i + 1 ≤ (lx b z (psT b z i)).2.2.2 ∨ z ≤ (lx b z (psT b z i)).2.2.2
    by_cases c : (lx b z (psT b z i)).1 = 0
    · exact Or.inr (h5 c)
    · have := (h4 c).2
      omega
theorem lxT_ok {b : Nat → Int32} {z : Nat} (hz : z ≤ 160) : okTk (lxT b z) := by
  intro i
  obtain ⟨p, hp⟩ : ∃ p, psT b z i = p := ⟨_, rfl⟩
  have hpz := psT_le (b := b) hz i
  have hge := psT_ge (b := b) hz i
  obtain ⟨h1, h2, h3, h4, h5⟩ := lx_p (b := b) (p := psT b z i) hz
  have i160 : (lx b z (psT b z i)).1 ≠ 0 → i < 160 := fun c => by
    have := h4 c
    omega
  show okK (lx b z (psT b z i)).1 ∧ ((lx b z (psT b z i)).1 = 2 → (lx b z (psT b z i)).2.1 ≤ 9999) ∧ ((lx b z (psT b z i)).1 = 3 → (lx b z (psT b z i)).2.1 ≤ 5) ∧ ((lx b z (psT b z i)).1 ≠ 0 → i < 160)
  rw [hp] at i160 ⊢
  obtain ⟨f, hf⟩ : ∃ f, scn isBl b z 160 p = f := ⟨_, rfl⟩
  by_cases c : z ≤ f
  · have e := lx_0 (b := b) (z := z) (p := p) (by rw [hf]; exact c)
    refine ⟨?_, fun h => ?_, fun h => ?_, i160⟩
    · rw [e]; exact Or.inl (by omega)
    · rw [e] at h
      have h' : (0 : Nat) = 2 := h
      omega
    · rw [e] at h
      have h' : (0 : Nat) = 3 := h
      omega
  have hlt : f < z := by omega
  by_cases hd : isDg (b f) = true
  · obtain ⟨t, ht⟩ : ∃ t, scn isDg b z 160 f = t := ⟨_, rfl⟩
    have e := lx_d hf hlt hd ht
    refine ⟨?_, fun _ => ?_, fun h => ?_, i160⟩
    · rw [e]
      refine Or.inl ?_
      show (if t - f ≤ 4 then 2 else 1) ≤ 9
      split <;> omega
    · rw [e]
      show nval b f (min (t - f) 4) ≤ 9999
      have q := nval_lt (b := b) (f := f) (min (t - f) 4) (fun j hj => ((scn_p isDg b z 160 f).2.2.1 (f + j) (by omega) (by rw [ht]; omega)).2)
      have := Nat.pow_le_pow_right (show 0 < 10 by decide) (show min (t - f) 4 ≤ 4 by omega)
      omega
    · rw [e] at h
      have h' : (if t - f ≤ 4 then 2 else 1) = 3 := h
      split at h' <;> omega
  by_cases hl : isLt (b f) = true
  · obtain ⟨t, ht⟩ : ∃ t, scn isLt b z 160 f = t := ⟨_, rfl⟩
    obtain ⟨w, hw⟩ : ∃ w, wd (lsF b (t - f) f) = w := ⟨_, rfl⟩
    have wl := wd_le (lsF b (t - f) f)
    have e := lx_l hf hlt hd hl ht hw
    refine ⟨?_, fun h => ?_, fun h => ?_, i160⟩
    · rw [e]
      refine Or.inl ?_
      show (if w = 12 then 1 else if w < 6 then 3 else w - 2) ≤ 9
      split
      · omega
      · split <;> omega
    · rw [e] at h
      have h' : (if w = 12 then 1 else if w < 6 then 3 else w - 2) = 2 := h
      split at h'
      · omega
      · split at h' <;> omega
    · rw [e] at h ⊢
      show (if w < 6 then w else 0) ≤ 5
      split <;> omega
  · have e := lx_g hf hlt hd hl
    refine ⟨?_, fun h => ?_, fun h => ?_, i160⟩
    · rw [e]
      show okK (if isSg (b f) = true then (b f).toNatClampNeg else 1)
      by_cases g : isSg (b f) = true
      · rw [if_pos g]
        rcases isSg_n g with q | q | q | q | q | q | q | q <;> rw [q] <;> unfold okK <;> decide
      · rw [if_neg g]; exact Or.inl (by omega)
    · rw [e] at h
      have h' : (if isSg (b f) = true then (b f).toNatClampNeg else 1) = 2 := h
      by_cases g : isSg (b f) = true
      · rw [if_pos g] at h'
        rcases isSg_n g with q | q | q | q | q | q | q | q <;> rw [q] at h' <;> exact absurd h' (by decide)
      · rw [if_neg g] at h'; omega
    · rw [e] at h
      have h' : (if isSg (b f) = true then (b f).toNatClampNeg else 1) = 3 := h
      by_cases g : isSg (b f) = true
      · rw [if_pos g] at h'
        rcases isSg_n g with q | q | q | q | q | q | q | q <;> rw [q] at h' <;> exact absurd h' (by decide)
      · rw [if_neg g] at h'; omega

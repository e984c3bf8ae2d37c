/-! texts: what the reference lets wait -/
def rkS (s : Int32) : Nat := if s = 6 then 5 else if s = 7 then 5 else if s = 8 then 6 else if s = 9 then 4 else if s = 10 then 4 else if s = 11 then 2 else if s = 12 then 1 else if s = 13 then 3 else if s = 14 then 7 else 0
theorem rank_e (s : Int32) (M : zM) : fX6_rank s M = some (nI (rkS s), M) := by
  unfold fX6_rank rkS
  repeat' split
  all_goals rfl
theorem rkS_le (s : Int32) : rkS s ≤ 7 := by
  unfold rkS
  repeat' split
  all_goals omega
def opS (s : Int32) : Nat := if s = 13 then 1 else if s = 14 then 1 else if rkS s = 0 then 1 else 0
def opn : List Int32 → Nat
  | [] => 0
  | s :: W => opn W + opS s
def lay (k : Nat) : List Int32 → List Int32 → List Int32 × List Int32
  | [] => fun C => (C, [])
  | s :: W => fun C => if k ≤ rkS s then lay k W (C ++ [s]) else (C, s :: W)
theorem lay_nil (k : Nat) (C : List Int32) : lay k [] C = (C, []) := rfl
theorem lay_cons (k : Nat) (s : Int32) (W C : List Int32) : lay k (s :: W) C = if k ≤ rkS s then lay k W (C ++ [s]) else (C, s :: W) := rfl
/-- the top binds less than k -/
def tpl (k : Nat) (W : List Int32) : Prop := ∀ s V, W = s :: V → rkS s < k
theorem tpl_nil (k : Nat) : tpl k [] := fun s V h => by cases h
theorem tpl_cons {k : Nat} {s : Int32} (h : rkS s < k) (W : List Int32) : tpl k (s :: W) := fun s' V e => by
  cases e; exact h
theorem tpl_mono {k j : Nat} {W : List Int32} (h : tpl k W) (hkj : k ≤ j) : tpl j W := fun s V e => Nat.lt_of_lt_of_le (h s V e) hkj
theorem lay_tpl {k : Nat} {W : List Int32} (h : tpl k W) (C : List Int32) : lay k W C = (C, W) := by
  cases W with
  | nil => rfl
  | cons s V =>
    have := h s V rfl
    rw [lay_cons, if_neg (by omega)]
theorem lay_top (k : Nat) : ∀ (W C : List Int32), tpl k (lay k W C).2
  | [], _ => tpl_nil k
  | s :: W, C => by
    rw [lay_cons]
    by_cases c : k ≤ rkS s
    · rw [if_pos c]; exact lay_top k W _
    · rw [if_neg c]; exact tpl_cons (by omega) W
theorem lay_lay {j k : Nat} (h : j ≤ k) : ∀ (W C : List Int32), lay j (lay k W C).2 (lay k W C).1 = lay j W C
  | [], _ => rfl
  | s :: W, C => by
    rw [lay_cons k]
    by_cases c : k ≤ rkS s
    · rw [if_pos c, lay_lay h W, lay_cons j, if_pos (by omega)]
    · rw [if_neg c]
theorem lay_len (k : Nat) : ∀ (W C : List Int32), (lay k W C).1.length + (lay k W C).2.length = C.length + W.length
  | [], _ => rfl
  | s :: W, C => by
    rw [lay_cons]
    by_cases c : k ≤ rkS s
    · rw [if_pos c, lay_len k W]
      simp only [List.length_append, List.length_cons, List.length_nil]
      omega
    · rw [if_neg c]
theorem lay_le (k : Nat) : ∀ (W C : List Int32), (lay k W C).2.length ≤ W.length
  | [], _ => Nat.le_refl _
  | s :: W, C => by
    rw [lay_cons]
    by_cases c : k ≤ rkS s
    · rw [if_pos c]
      have := lay_le k W (C ++ [s])
      simp only [List.length_cons]
      omega
    · rw [if_neg c]
      exact Nat.le_refl _
/-- from the same end, the same further -/
theorem lay_eq {j k : Nat} (h : j ≤ k) {W C W' C' : List Int32} (e : lay k W' C' = lay k W C) : lay j W' C' = lay j W C := by
  rw [← lay_lay h W' C', ← lay_lay h W C, e]
def cds (f : Nat → Int32) (b : Nat) : Nat → List Int32
  | 0 => []
  | n + 1 => cds f b n ++ [f (b + n)]
theorem cds_congr {f g : Nat → Int32} {b : Nat} : ∀ {n : Nat}, (∀ k, k < n → f (b + k) = g (b + k)) → cds f b n = cds g b n
  | 0, _ => rfl
  | n + 1, h => by
    unfold cds
    rw [cds_congr (fun k hk => h k (by omega)), h n (by omega)]
theorem cds_put (f : Nat → Int32) (b n : Nat) (v : Int32) : cds (upd f (b + n) v) b (n + 1) = cds f b n ++ [v] := by
  show cds (upd f (b + n) v) b n ++ [upd f (b + n) v (b + n)] = _
  rw [pk_us, cds_congr (g := f) (fun k hk => pk_un (by omega))]
theorem cds_len (f : Nat → Int32) (b : Nat) : ∀ n, (cds f b n).length = n
  | 0 => rfl
  | n + 1 => by
    unfold cds
    rw [List.length_append, cds_len f b n]
    rfl
theorem cds_range (f : Nat → Int32) (b : Nat) : ∀ n, cds f b n = (List.range n).map (fun k => f (b + k))
  | 0 => rfl
  | n + 1 => by
    unfold cds
    rw [List.range_succ, List.map_append, cds_range f b n]
    rfl
def rStk (base : Nat) (C W : List Int32) (M : zM) : Prop := M.1 0 14 = nI (base + C.length) ∧ cds (M.1 8) base C.length = C ∧ M.1 0 21 = nI W.length ∧ stk (M.1 9) W.length = W ∧ M.1 0 22 = nI (opn W)
def rF0 (base : Nat) (M M' : zM) : Prop := M'.2 = M.2 ∧ (∀ i, i ≠ 0 → i ≠ 8 → i ≠ 9 → M'.1 i = M.1 i) ∧ (∀ k, k ≠ 14 → k ≠ 21 → k ≠ 22 → M'.1 0 k = M.1 0 k) ∧ ∀ k, k < base → M'.1 8 k = M.1 8 k
theorem rF0_refl (base : Nat) (M : zM) : rF0 base M M := ⟨rfl, fun _ _ _ _ => rfl, fun _ _ _ _ => rfl, fun _ _ => rfl⟩
theorem rF0_trans {base : Nat} {M M' M'' : zM} (h1 : rF0 base M M') (h2 : rF0 base M' M'') : rF0 base M M'' := ⟨h2.1.trans h1.1, fun i a b c => (h2.2.1 i a b c).trans (h1.2.1 i a b c), fun k a b c => (h2.2.2.1 k a b c).trans (h1.2.2.1 k a b c), fun k a => (h2.2.2.2 k a).trans (h1.2.2.2 k a)⟩
theorem rF0_22 (base : Nat) (M : zM) (v : Int32) : rF0 base M (zu M 0 22 v) := ⟨rfl, fun i a _ _ => zu_row _ a _ _, fun q _ _ b => zu_other _ _ b _, fun q _ => by rw [zu_row _ (by decide)]⟩
theorem codes_e {base : Nat} {C W : List Int32} {M : zM} (h : rStk base C W M) (hb : base + C.length < 3000) (s : Int32) : ∃ M', fX6_codes s M = some M' ∧ rStk base (C ++ [s]) W M' ∧ rF0 base M M' ∧ M'.1 9 = M.1 9 ∧ M'.1 0 21 = M.1 0 21 ∧ M'.1 0 22 = M.1 0 22 := by
  obtain ⟨h1, h2, h3, h4, h5⟩ := h
  obtain ⟨M1, e1⟩ : ∃ M1, M1 = zu M 0 14 (nI (base + C.length + 1)) := ⟨_, rfl⟩
  obtain ⟨M2, e2⟩ : ∃ M2, M2 = zu M1 8 (base + C.length) s := ⟨_, rfl⟩
  have r9 : M2.1 9 = M.1 9 := by rw [e2, zu_row _ (by decide), e1, zu_row _ (by decide)]
  have f0 : ∀ k, k ≠ 14 → M2.1 0 k = M.1 0 k := fun k hk => by rw [e2, zu_row _ (by decide), e1, zu_other _ _ hk]
  have r8 : M2.1 8 = upd (M.1 8) (base + C.length) s := by
    rw [e2]
    show (zr M1 8 (upd (M1.1 8) (base + C.length) s)).1 8 = _
    rw [zr_s, e1, zu_row _ (by decide)]
  refine ⟨M2, ?_, ⟨?_, ?_, ?_, ?_, ?_⟩, ⟨by rw [e2, e1]; rfl, fun i a b c => by rw [e2, zu_row _ b, e1, zu_row _ a], fun k a b c => f0 k a, fun k hk => by rw [r8, pk_un (by omega)]⟩, r9, f0 21 (by decide), f0 22 (by decide)⟩
  · unfold fX6_codes
    rw [h1, nI_1, zL_r, zG_t (zin_nI hb (by decide)), nIc (by omega), ← e1, zL_r, ← e2]
  · rw [e2, zu_row _ (by decide), e1, zu_same, List.length_append]
    rfl
  · rw [r8, List.length_append]
    show cds _ base (C.length + 1) = _
    rw [cds_put, h2]
  · rw [f0 21 (by decide)]; exact h3
  · rw [r9]; exact h4
  · rw [f0 22 (by decide)]; exact h5
theorem opS_lay {s : Int32} {k : Nat} (hk : 1 ≤ k) (h : k ≤ rkS s) : opS s = (if s = 13 then 1 else if s = 14 then 1 else 0) := by
  unfold opS
  by_cases c : s = 13
  · rw [if_pos c, if_pos c]
  · rw [if_neg c, if_neg c]
    by_cases d : s = 14
    · rw [if_pos d, if_pos d]
    · rw [if_neg d, if_neg d, if_neg (by omega)]
theorem opn_le (W : List Int32) : opn W ≤ W.length := by
  induction W with
  | nil => exact Nat.le_refl _
  | cons s V ih =>
    have : opS s ≤ 1 := by
      unfold opS
      repeat' split
      all_goals omega
    show opn V + opS s ≤ V.length + 1
    omega
theorem lays_loop {base k : Nat} (hk : 1 ≤ k) (hk7 : k ≤ 7) : ∀ (W C : List Int32) (N : Nat) (M : zM), rStk base C W M → base + C.length + W.length < 3000 → W.length < 200 → W.length < N → ∃ M', fX6_lays_L0 N (nI k) M = some M' ∧ rStk base (lay k W C).1 (lay k W C).2 M' ∧ rF0 base M M' := by
  intro W
  induction W with
  | nil =>
    intro C N M h hb hw hN
    obtain ⟨N, rfl⟩ : ∃ q, N = q + 1 := ⟨N - 1, by simp at hN; omega⟩
    refine ⟨M, ?_, h, rF0_refl _ _⟩
    show fX6_lays_B0 _ _ M = _
    unfold fX6_lays_B0
    rw [h.2.2.1, if_pos (by decide)]
  | cons s W ih =>
    intro C N M h hb hw hN
    simp only [List.length_cons] at hb hw hN
    obtain ⟨N, rfl⟩ : ∃ q, N = q + 1 := ⟨N - 1, by omega⟩
    obtain ⟨h1, h2, h3, h4, h5⟩ := id h
    simp only [List.length_cons] at h3 h4
    have h4' : M.1 9 W.length :: stk (M.1 9) W.length = s :: W := h4
    obtain ⟨hs, hW⟩ := List.cons.inj h4'
    have hU : fX6_lays_L0 (N + 1) (nI k) M = fX6_lays_B0 (fX6_lays_L0 N) (nI k) M := rfl
    have rk7 := rkS_le s
    rw [hU, lay_cons]
    unfold fX6_lays_B0
    rw [h3, if_neg (by rw [show (0 : Int32) = nI 0 from rfl, nI_leI (by omega) (by omega)]; omega), nI_dn, zG_t (zin_nI (show W.length < 200 by omega) (by decide)), nIc (by omega), hs, zB_s (rank_e _ _)]
    by_cases c : k ≤ rkS s
    · obtain ⟨M1, e1⟩ : ∃ M1, M1 = zu M 0 21 (nI W.length) := ⟨_, rfl⟩
      rw [if_pos c, if_neg (by rw [nI_ltI (by omega) (by omega)]; omega), zL_r, h3, nI_dn, ← e1]
      have f21 : M1.1 0 21 = nI W.length := by rw [e1, zu_same]
      have f0 : ∀ q, q ≠ 21 → M1.1 0 q = M.1 0 q := fun q hq => by rw [e1, zu_other _ _ hq]
      have r1 : ∀ i, i ≠ 0 → M1.1 i = M.1 i := fun i hi => by rw [e1, zu_row _ hi]
      have c9 : M1.1 9 W.length = s := by rw [r1 9 (by decide)]; exact hs
      have op : opn (s :: W) = opn W + opS s := rfl
      -- with the sign still counted open
      obtain ⟨M2, q1, q2, q3, q4, q5, q6⟩ : ∃ M', fX6_codes s M1 = some M' ∧ (M'.1 0 14 = nI (base + (C ++ [s]).length) ∧ cds (M'.1 8) base (C ++ [s]).length = C ++ [s]) ∧ rF0 base M1 M' ∧ M'.1 9 = M1.1 9 ∧ M'.1 0 21 = M1.1 0 21 ∧ M'.1 0 22 = M1.1 0 22 := by
        -- counted open is not looked at
        obtain ⟨M1', e1'⟩ : ∃ M1', M1' = zu M1 0 22 (nI (opn W)) := ⟨_, rfl⟩
        obtain ⟨n1, n2⟩ : base + C.length < 3000 ∧ True := ⟨by omega, trivial⟩
        have g14 : M1.1 0 14 = nI (base + C.length) := by rw [f0 14 (by decide)]; exact h1
        have g8 : cds (M1.1 8) base C.length = C := by rw [r1 8 (by decide)]; exact h2
        obtain ⟨Ma, ea⟩ : ∃ Ma, Ma = zu M1 0 14 (nI (base + C.length + 1)) := ⟨_, rfl⟩
        obtain ⟨Mb, eb⟩ : ∃ Mb, Mb = zu Ma 8 (base + C.length) s := ⟨_, rfl⟩
        have r8 : Mb.1 8 = upd (M1.1 8) (base + C.length) s := by
          rw [eb]
          show (zr Ma 8 (upd (Ma.1 8) (base + C.length) s)).1 8 = _
          rw [zr_s, ea, zu_row _ (by decide)]
        have ff : ∀ q, q ≠ 14 → Mb.1 0 q = M1.1 0 q := fun q hq => by rw [eb, zu_row _ (by decide), ea, zu_other _ _ hq]
        refine ⟨Mb, ?_, ⟨?_, ?_⟩, ⟨by rw [eb, ea]; rfl, fun i a b c => by rw [eb, zu_row _ b, ea, zu_row _ a], fun q a b c => ff q a, fun q hq => by rw [r8, pk_un (by omega)]⟩, by rw [eb, zu_row _ (by decide), ea, zu_row _ (by decide)], ff 21 (by decide), ff 22 (by decide)⟩
        · unfold fX6_codes
          rw [g14, nI_1, zL_r, zG_t (zin_nI n1 (by decide)), nIc (by omega), ← ea, zL_r, ← eb]
        · rw [eb, zu_row _ (by decide), ea, zu_same, List.length_append]
          rfl
        · rw [r8, List.length_append]
          show cds _ base (C.length + 1) = _
          rw [cds_put, g8]
      rw [f21, zG_t (zin_nI (show W.length < 200 by omega) (by decide)), nIc (by omega), c9, zV_s q1, q5, f21, zG_t (zin_nI (show W.length < 200 by omega) (by decide)), nIc (by omega), q4, c9]
      have fr01 : rF0 base M M1 := ⟨by rw [e1]; rfl, fun i a _ _ => r1 i a, fun q _ b _ => f0 q b, fun q _ => by rw [r1 8 (by decide)]⟩
      have q21 : M2.1 0 21 = nI W.length := q5.trans f21
      have q9 : stk (M2.1 9) W.length = W := by rw [q4, r1 9 (by decide)]; exact hW
      have q22 : M2.1 0 22 = nI (opn W + opS s) := by rw [q6, f0 22 (by decide), h5, op]
      have ols := opS_lay hk c
      have onl := opn_le W
      have lenC : (C ++ [s]).length = C.length + 1 := by rw [List.length_append]; rfl
      have fin0 : opS s = 0 → ∃ M', fX6_lays_L0 N (nI k) M2 = some M' ∧ rStk base (lay k W (C ++ [s])).1 (lay k W (C ++ [s])).2 M' ∧ rF0 base M M' := by
        intro z
        obtain ⟨M', g1, g2, g3⟩ := ih (C ++ [s]) N M2 ⟨q2.1, q2.2, q21, q9, by rw [q22, z]; rfl⟩ (by rw [lenC]; omega) (by omega) (by omega)
        exact ⟨M', g1, g2, rF0_trans (rF0_trans fr01 q3) g3⟩
      have fin1 : opS s = 1 → ∃ M', fX6_lays_L0 N (nI k) (zu M2 0 22 (M2.1 0 22 - (1 : Int32))) = some M' ∧ rStk base (lay k W (C ++ [s])).1 (lay k W (C ++ [s])).2 M' ∧ rF0 base M M' := by
        intro z
        rw [q22, z, nI_dn]
        obtain ⟨M', g1, g2, g3⟩ := ih (C ++ [s]) N (zu M2 0 22 (nI (opn W))) ⟨by rw [zu_other _ _ (by decide)]; exact q2.1, by rw [zu_row _ (by decide)]; exact q2.2, by rw [zu_other _ _ (by decide)]; exact q21, by rw [zu_row _ (by decide)]; exact q9, by rw [zu_same]⟩ (by rw [lenC]; omega) (by omega) (by omega)
        exact ⟨M', g1, g2, rF0_trans (rF0_trans (rF0_trans fr01 q3) (rF0_22 _ _ _)) g3⟩
      by_cases c13 : s = 13
      · rw [if_pos c13, zL_r]
        exact fin1 (by rw [ols, if_pos c13])
      · rw [if_neg c13, zG_t (zin_nI (show W.length < 200 by omega) (by decide))]
        by_cases c14 : s = 14
        · rw [if_pos c14, zL_r]
          exact fin1 (by rw [ols, if_neg c13, if_pos c14])
        · rw [if_neg c14]
          exact fin0 (by rw [ols, if_neg c13, if_neg c14])
    · rw [if_neg c, if_pos (by rw [nI_ltI (by omega) (by omega)]; omega)]
      exact ⟨M, rfl, h, rF0_refl _ _⟩
theorem lays_e {base k : Nat} (hk : 1 ≤ k) (hk7 : k ≤ 7) {W C : List Int32} {M : zM} (h : rStk base C W M) (hb : base + C.length + W.length < 3000) (hw : W.length < 200) : ∃ M', fX6_lays (nI k) M = some M' ∧ rStk base (lay k W C).1 (lay k W C).2 M' ∧ rF0 base M M' := lays_loop hk hk7 W C zF M h hb hw (by unfold zF; omega)
theorem push_e {base : Nat} {W C : List Int32} {M : zM} (h : rStk base C W M) (hw : W.length < 199) (s : Int32) : ∃ M', fX6_push s M = some M' ∧ rStk base C (s :: W) M' ∧ rF0 base M M' := by
  obtain ⟨h1, h2, h3, h4, h5⟩ := h
  obtain ⟨M1, e1⟩ : ∃ M1, M1 = zu M 0 21 (nI (W.length + 1)) := ⟨_, rfl⟩
  obtain ⟨M2, e2⟩ : ∃ M2, M2 = zu M1 9 W.length s := ⟨_, rfl⟩
  have f0 : ∀ q, q ≠ 21 → M2.1 0 q = M.1 0 q := fun q hq => by rw [e2, zu_row _ (by decide), e1, zu_other _ _ hq]
  have r9 : M2.1 9 = upd (M.1 9) W.length s := by
    rw [e2]
    show (zr M1 9 (upd (M1.1 9) W.length s)).1 9 = _
    rw [zr_s, e1, zu_row _ (by decide)]
  have r8 : M2.1 8 = M.1 8 := by rw [e2, zu_row _ (by decide), e1, zu_row _ (by decide)]
  have f21 : M2.1 0 21 = nI (W.length + 1) := by rw [e2, zu_row _ (by decide), e1, zu_same]
  have fr : rF0 base M M2 := ⟨by rw [e2, e1]; rfl, fun i a b c => by rw [e2, zu_row _ c, e1, zu_row _ a], fun q _ b _ => f0 q b, fun q _ => by rw [r8]⟩
  have hstk : stk (M2.1 9) (W.length + 1) = s :: W := by rw [r9, stk_put, h4]
  have b0 : opS s = 0 → rStk base C (s :: W) M2 := fun z => ⟨by rw [f0 14 (by decide)]; exact h1, by rw [r8]; exact h2, f21, hstk, by
    rw [f0 22 (by decide), h5]
    show nI (opn W) = nI (opn W + opS s)
    rw [z]; rfl⟩
  have b1 : opS s = 1 → ∃ M', fX6_push_J36 M2 = some M' ∧ rStk base C (s :: W) M' ∧ rF0 base M M' := fun z => by
    refine ⟨zu M2 0 22 (nI (opn W + 1)), ?_, ⟨?_, ?_, ?_, ?_, ?_⟩, rF0_trans fr (rF0_22 _ _ _)⟩
    · unfold fX6_push_J36
      rw [f0 22 (by decide), h5, nI_1, zL_r]
    · rw [zu_other _ _ (by decide), f0 14 (by decide)]; exact h1
    · rw [zu_row _ (by decide), r8]; exact h2
    · rw [zu_other _ _ (by decide)]; exact f21
    · rw [zu_row _ (by decide)]; exact hstk
    · rw [zu_same]
      show _ = nI (opn W + opS s)
      rw [z]
  unfold fX6_push
  rw [h3, nI_1, zL_r, zG_t (zin_nI (show W.length < 200 by omega) (by decide)), nIc (by omega), ← e1, zL_r, ← e2]
  by_cases c13 : s = 13
  · rw [if_pos c13]
    exact b1 (by unfold opS; rw [if_pos c13])
  · rw [if_neg c13]
    by_cases c14 : s = 14
    · rw [if_pos c14]
      exact b1 (by unfold opS; rw [if_neg c13, if_pos c14])
    · rw [if_neg c14, zB_s (rank_e _ _)]
      have rk7 := rkS_le s
      by_cases c0 : rkS s = 0
      · rw [if_pos (by rw [c0]; rfl)]
        exact b1 (by unfold opS; rw [if_neg c13, if_neg c14, if_pos c0])
      · rw [if_neg (fun q => c0 ((nI_z0 (by omega)).mp q))]
        exact ⟨M2, rfl, b0 (by unfold opS; rw [if_neg c13, if_neg c14, if_neg c0]), fr⟩

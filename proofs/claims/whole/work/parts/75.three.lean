/-! three glasses: class and reference side by side -/
theorem three_e {n : Nat} (hn : n ≤ 5) {MX MM : zM} (a7 : MX.1 10 7 = nI n) (b2 : MM.1 0 2 = nI n) (x : Int32) : (∃ a b c : Nat, a < n ∧ b < n ∧ c < n ∧ a ≠ b ∧ a ≠ c ∧ b ≠ c ∧ x = nI (a * 100 + b * 10 + c) ∧ fX5_isThree x MX = some (1, MX) ∧ fX6_areThree x MM = some (1, MM)) ∨ (fX5_isThree x MX = some (0, MX) ∧ fX6_areThree x MM = some (0, MM)) := by
  unfold fX5_isThree fX6_areThree
  rw [zB_s (win5 _ _ _ _)]
  rcases zWin_c x 0 999 with ⟨z1, k⟩ | ⟨z1, k1, k2⟩
  · rw [if_pos z1]
    by_cases c : x < 0
    · rw [if_pos c]; exact Or.inr ⟨rfl, rfl⟩
    · rw [if_neg c, if_neg (fun q => k ⟨Int32.not_lt.mp c, q⟩)]; exact Or.inr ⟨rfl, rfl⟩
  · obtain ⟨s, -, hs9, rfl⟩ := i32_in (a := 0) (b := 999) k1 k2 (by omega) (by omega)
    have hs : s < 1000 := by omega
    rw [if_neg (show ¬ zWin (nI s) 0 999 = 0 by rw [z1]; decide), if_neg (nI_pos (by omega)), if_pos k2, dg_1 hs, dg_2 hs, dg_3 hs]
    simp only [zL_r]
    rcases one_e hn a7 b2 (nI (s / 100)) with ⟨a, ha, ea, h1, h2⟩ | ⟨h1, h2⟩
    rotate_left
    · rw [zB_s h1, zB_s h2, if_pos rfl, if_pos rfl]; exact Or.inr ⟨rfl, rfl⟩
    rw [zB_s h1, zB_s h2, if_neg (show ¬ (1 : Int32) = 0 by decide), if_neg (show ¬ (1 : Int32) = 0 by decide)]
    rcases one_e hn a7 b2 (nI (s / 10 % 10)) with ⟨b, hb, eb, h1, h2⟩ | ⟨h1, h2⟩
    rotate_left
    · rw [zB_s h1, zB_s h2, if_pos rfl, if_pos rfl]; exact Or.inr ⟨rfl, rfl⟩
    rw [zB_s h1, zB_s h2, if_neg (show ¬ (1 : Int32) = 0 by decide), if_neg (show ¬ (1 : Int32) = 0 by decide)]
    rcases one_e hn a7 b2 (nI (s % 10)) with ⟨c, hc, ec, h1, h2⟩ | ⟨h1, h2⟩
    rotate_left
    · rw [zB_s h1, zB_s h2, if_pos rfl, if_pos rfl]; exact Or.inr ⟨rfl, rfl⟩
    rw [zB_s h1, zB_s h2, if_neg (show ¬ (1 : Int32) = 0 by decide), if_neg (show ¬ (1 : Int32) = 0 by decide)]
    have ea' := (nI_eq (by omega) (by omega)).mp ea
    have eb' := (nI_eq (by omega) (by omega)).mp eb
    have ec' := (nI_eq (by omega) (by omega)).mp ec
    by_cases d1 : nI (s / 100) = nI (s / 10 % 10)
    · rw [if_pos d1, if_pos d1]; exact Or.inr ⟨rfl, rfl⟩
    rw [if_neg d1, if_neg d1]
    by_cases d2 : nI (s / 100) = nI (s % 10)
    · rw [if_pos d2, if_pos d2]; exact Or.inr ⟨rfl, rfl⟩
    rw [if_neg d2, if_neg d2]
    by_cases d3 : nI (s / 10 % 10) = nI (s % 10)
    · rw [if_pos d3, if_pos d3]; exact Or.inr ⟨rfl, rfl⟩
    rw [if_neg d3, if_neg d3]
    rw [nI_eq (by omega) (by omega)] at d1 d2 d3
    exact Or.inl ⟨a, b, c, ha, hb, hc, by omega, by omega, by omega, by rw [show a * 100 + b * 10 + c = s by omega], rfl, rfl⟩
theorem minute_e (x : Int32) (MX MM : zM) : (∃ m : Nat, 1 ≤ m ∧ m ≤ 30 ∧ x = nI m ∧ fX5_isMinute x MX = some (1, MX) ∧ fX6_isMinute x MM = some (1, MM)) ∨ (fX5_isMinute x MX = some (0, MX) ∧ fX6_isMinute x MM = some (0, MM)) := by
  unfold fX5_isMinute fX6_isMinute
  rw [zB_s (win5 _ _ _ _), zB_s (win6 _ _ _ _)]
  rcases zWin_c x 1 30 with ⟨z1, k⟩ | ⟨z1, k1, k2⟩
  · rw [z1, zG_t (by decide), zG_t (by decide)]; exact Or.inr ⟨rfl, rfl⟩
  · obtain ⟨m, h1, h2, e⟩ := i32_in (a := 1) (b := 30) k1 k2 (by omega) (by omega)
    rw [z1, zG_t (by decide), zG_t (by decide)]
    exact Or.inl ⟨m, h1, h2, e, rfl, rfl⟩
/-- the minutes as a number -/
def mN (V : zVw) (i : Nat) : Nat := (sMin V i).toNatClampNeg
theorem mN_e (V : zVw) (i : Nat) : sMin V i = nI (mN V i) ∧ mN V i ≤ 9 := by
  obtain ⟨v, h, e⟩ := sMin_nat V i
  unfold mN
  rw [e, nIc (by omega)]
  exact ⟨rfl, by omega⟩
theorem dgs {a b c : Nat} (ha : a < 5) (hb : b < 5) (hc : c < 5) : (a * 100 + b * 10 + c) / 100 = a ∧ (a * 100 + b * 10 + c) / 10 % 10 = b ∧ (a * 100 + b * 10 + c) % 10 = c ∧ a * 100 + b * 10 + c < 1000 := by omega
/-- what the table and the text's stacks may touch -/
def SG : List Nat := [6, 9, 16, 23, 30, 35, 39, 43, 47, 51, 55]
def gX (M M' : zM) : Prop := ∀ i, i ∉ SG → M'.1 i = M.1 i
theorem gX_refl (M : zM) : gX M M := fun _ _ => rfl
theorem gX_trans {M M' M'' : zM} (h1 : gX M M') (h2 : gX M' M'') : gX M M'' := fun i hi => (h2 i hi).trans (h1 i hi)
theorem gX_SB {M M' : zM} (h : zO SB M M') : gX M M' := fun i hi => h.2 i (fun q => hi (by
  simp only [SB, List.mem_cons, List.not_mem_nil, or_false] at q
  simp only [SG, List.mem_cons, List.not_mem_nil, or_false]
  omega))
theorem gX_69 {M M' : zM} (h : ∀ i, i ≠ 6 → i ≠ 9 → M'.1 i = M.1 i) : gX M M' := fun i hi => h i (fun q => hi (by rw [q]; decide)) (fun q => hi (by rw [q]; decide))
theorem gX_eX {M M' : zM} (h : gX M M') : eX M M' := fun i hi => h i (fun q => hi (by
  simp only [SG, List.mem_cons, List.not_mem_nil, or_false] at q
  simp only [SX, List.mem_cons, List.not_mem_nil, or_false]
  omega))
theorem gX_view {w : Nat} (hw : isW w) {M M' : zM} (h : gX M M') (hM : okX w M) : vX w M' = vX w M ∧ okX w M' := by
  refine vX_rows6 hM (fun k hk => h _ ?_) (fun r hr => ⟨h _ ?_, h _ ?_⟩)
  · intro q
    simp only [SG, List.mem_cons, List.not_mem_nil, or_false] at q
    rcases hw with rfl | rfl | rfl <;> omega
  · intro q
    simp only [SG, List.mem_cons, List.not_mem_nil, or_false] at q
    omega
  · intro q
    simp only [SG, List.mem_cons, List.not_mem_nil, or_false] at q
    omega
theorem zTab_SB {M M' : zM} (h : zO SB M M') (hT : zTab M) : zTab M' := zTab_ok M M' (h.2 6 (by decide)) (h.2 9 (by decide)) h.1 hT
/-- the three's minutes on the class's side -/
theorem xthree {w : Nat} (hw : isW w) {M : zM} (hM : okX w M) (hT : zTab M) {a b c : Nat} (ha : a < vN (vX w M)) (hb : b < vN (vX w M)) (hc : c < vN (vX w M)) : ∃ M', (∀ {β : Type} (k : Int32 → Int32 → Int32 → zM → Option β), (zB (fX4_minutesOf w (nI (a * 100 + b * 10 + c) / (100 : Int32)) M) fun r_3 M_1 => zB (fX4_minutesOf w (zrm (nI (a * 100 + b * 10 + c) / (10 : Int32)) (10 : Int32)) M_1) fun r_6 M_4 => zB (fX4_minutesOf w (zrm (nI (a * 100 + b * 10 + c)) (10 : Int32)) M_4) fun r_9 M_7 => k r_3 r_6 r_9 M_7) = k (nI (mN (vX w M) a)) (nI (mN (vX w M) b)) (nI (mN (vX w M) c)) M') ∧ gX M M' ∧ zTab M' := by
  obtain ⟨h5, -⟩ := okX_n hM
  obtain ⟨d1, d2, d3, d4⟩ := dgs (a := a) (b := b) (c := c) (by omega) (by omega) (by omega)
  obtain ⟨M1, p1, p2⟩ := fX4_minutesOf_e hw hM ha
  have v1 := vX_congr hw (SBC p2)
  have o1 := okX_congr hw (SBC p2) hM
  obtain ⟨M2, q1, q2⟩ := fX4_minutesOf_e hw o1 (i := b) (by rw [v1]; exact hb)
  have v2 := vX_congr hw (SBC q2)
  have o2 := okX_congr hw (SBC q2) o1
  obtain ⟨M3, r1, r2⟩ := fX4_minutesOf_e hw o2 (i := c) (by rw [v2, v1]; exact hc)
  rw [v1] at q1
  rw [v2, v1] at r1
  refine ⟨M3, fun k => ?_, gX_trans (gX_trans (gX_SB p2) (gX_SB q2)) (gX_SB r2), zTab_SB r2 (zTab_SB q2 (zTab_SB p2 hT))⟩
  rw [dg_1 d4, d1, zB_s p1, dg_2 d4, d2, zB_s q1, dg_3 d4, d3, zB_s r1, (mN_e _ a).1, (mN_e _ b).1, (mN_e _ c).1]
theorem xtimes_e {w : Nat} (hw : isW w) {M : zM} (hM : okX w M) (hT : zTab M) {a b c : Nat} (ha : a < vN (vX w M)) (hb : b < vN (vX w M)) (hc : c < vN (vX w M)) : ∃ bt M', fX5_timesOf w (nI (a * 100 + b * 10 + c)) M = some (nI bt, M') ∧ tBits (mN (vX w M) a) (mN (vX w M) b) (mN (vX w M) c) bt ∧ gX M M' ∧ zTab M' := by
  obtain ⟨M1, p1, p2, p3⟩ := xthree hw hM hT ha hb hc
  obtain ⟨bt, M', t1, t2, t3, t4⟩ := timesOf_e p3 (mN_e (vX w M) a).2 (mN_e (vX w M) b).2 (mN_e (vX w M) c).2
  refine ⟨bt, M', ?_, t2, gX_trans p2 (gX_69 t4), t3⟩
  unfold fX5_timesOf
  rw [p1, zB_s t1]
theorem xlay_e {M : zM} (hM : okX 10 M) (hT : zTab M) {a b c : Nat} (ha : a < vN (vX 10 M)) (hb : b < vN (vX 10 M)) (hc : c < vN (vX 10 M)) : ∃ M', fX5_layGlasses (nI (a * 100 + b * 10 + c)) M = some M' ∧ tBest (mN (vX 10 M) a) (mN (vX 10 M) b) (mN (vX 10 M) c) M' ∧ gX M M' ∧ zTab M' := by
  obtain ⟨M1, p1, p2, p3⟩ := xthree (Or.inl rfl) hM hT ha hb hc
  obtain ⟨M', t1, t2, t3, t4⟩ := lay_e p3 (mN_e (vX 10 M) a).2 (mN_e (vX 10 M) b).2 (mN_e (vX 10 M) c).2
  refine ⟨M', ?_, t3, gX_trans p2 (gX_69 (fun i h6 _ => t4 i h6)), t2⟩
  unfold fX5_layGlasses
  rw [p1, zV_s t1]
/-- and on the reference's -/
def gG (M M' : zM) : Prop := M'.2 = M.2 ∧ (∀ i, i ∉ [0, 10, 11, 15, 16] → M'.1 i = M.1 i) ∧ ∀ k, k ∉ [33, 34, 35, 38, 39] → M'.1 0 k = M.1 0 k
theorem gG_refl (M : zM) : gG M M := ⟨rfl, fun _ _ => rfl, fun _ _ => rfl⟩
theorem gG_trans {M M' M'' : zM} (h1 : gG M M') (h2 : gG M' M'') : gG M M'' := ⟨h2.1.trans h1.1, fun i a => (h2.2.1 i a).trans (h1.2.1 i a), fun k a => (h2.2.2 k a).trans (h1.2.2 k a)⟩
theorem gG_F {M M' : zM} (h : gF M M') : gG M M' := ⟨h.1, fun i hi => h.2.1 i (fun q => hi (by rw [q]; decide)) (fun q => hi (by rw [q]; decide)) (fun q => hi (by rw [q]; decide)), fun k hk => h.2.2 k (fun q => hk (by rw [q]; decide)) (fun q => hk (by rw [q]; decide))⟩
theorem gG_SN {M M' : zM} (h : zO SN M M') : gG M M' := ⟨h.1, fun i hi => h.2 i (fun q => hi (by
  simp only [SN, List.mem_cons, List.not_mem_nil, or_false] at q
  simp only [List.mem_cons, List.not_mem_nil, or_false]
  omega)), fun k _ => by rw [h.2 0 (by decide)]⟩
theorem gG_zu (M : zM) {k : Nat} (hk : k ∈ [33, 34, 35, 38, 39]) (v : Int32) : gG M (zu M 0 k v) := ⟨rfl, fun i hi => zu_row _ (fun q => hi (by rw [q]; decide)) _ _, fun j hj => zu_other _ _ (fun q => hj (by rw [q]; exact hk)) _⟩
theorem gG_view {M M' : zM} (h : gG M M') (hM : okM M) : vM M' = vM M ∧ okM M' := by
  obtain ⟨h1, h2, h3⟩ := h
  obtain ⟨u1, u2⟩ := vM_rows (M := M) (M' := M') ⟨h3 2 (by decide), h3 0 (by decide), h3 1 (by decide), h3 7 (by decide)⟩ (h2 1 (by decide)) (h2 2 (by decide)) (h2 3 (by decide)) (h2 4 (by decide)) (h2 6 (by decide)) (h2 7 (by decide)) (h2 8 (by decide))
  exact ⟨u1, u2 hM⟩
theorem gG_eM {M M' : zM} (h : gG M M') : eM M M' := by
  refine ⟨fun i hi => h.2.1 i (fun q => hi ?_), fun k hk => h.2.2 k (fun q => ?_), fun j _ => by rw [h.2.1 3 (by decide)], fun j _ => by rw [h.2.1 4 (by decide)]⟩
  · simp only [List.mem_cons, List.not_mem_nil, or_false] at q
    simp only [SR, List.mem_cons, List.not_mem_nil, or_false]
    omega
  · simp only [KF, List.mem_cons, List.not_mem_nil, or_false] at hk
    simp only [List.mem_cons, List.not_mem_nil, or_false] at q
    omega
theorem pours_e {M : zM} (hM : okM M) {a b c : Nat} (ha : a < vN (vM M)) (hb : b < vN (vM M)) (hc : c < vN (vM M)) : ∃ M', fX6_pours (nI (a * 100 + b * 10 + c)) M = some M' ∧ rSz (mN (vM M) a) (mN (vM M) b) (mN (vM M) c) M' ∧ gG M M' := by
  obtain ⟨h5, -⟩ := okM_n hM
  obtain ⟨d1, d2, d3, d4⟩ := dgs (a := a) (b := b) (c := c) (by omega) (by omega) (by omega)
  obtain ⟨M1, p1, p2⟩ := fX6_minutes_e hM ha
  have g1 := gG_trans (gG_SN p2) (gG_zu M1 (k := 33) (by decide) (nI (mN (vM M) a)))
  obtain ⟨v1, o1⟩ := gG_view g1 hM
  obtain ⟨M2, q1, q2⟩ := fX6_minutes_e o1 (i := b) (by rw [v1]; exact hb)
  have g2 := gG_trans (gG_trans g1 (gG_SN q2)) (gG_zu M2 (k := 34) (by decide) (nI (mN (vM M) b)))
  obtain ⟨v2, o2⟩ := gG_view g2 hM
  obtain ⟨M3, r1, r2⟩ := fX6_minutes_e o2 (i := c) (by rw [v2]; exact hc)
  have g3 := gG_trans (gG_trans g2 (gG_SN r2)) (gG_zu M3 (k := 35) (by decide) (nI (mN (vM M) c)))
  rw [v1, (mN_e _ b).1] at q1
  rw [v2, (mN_e _ c).1] at r1
  rw [(mN_e _ a).1] at p1
  refine ⟨_, ?_, ⟨?_, ?_, ?_⟩, g3⟩
  · unfold fX6_pours
    rw [dg_1 d4, d1, zB_s p1, zL_r, dg_2 d4, d2, zB_s q1, zL_r, dg_3 d4, d3, zB_s r1, zL_r]
  · rw [zu_other _ _ (by decide), r2.2 0 (by decide), zu_other _ _ (by decide), q2.2 0 (by decide), zu_same]
  · rw [zu_other _ _ (by decide), r2.2 0 (by decide), zu_same]
  · rw [zu_same]
/-! bits -/
theorem nI_a1 (n : Nat) : nI n &&& (1 : Int32) = nI (n % 2) := by
  rw [show (1 : Int32) = nI 1 from rfl, nI_and, Nat.and_one_is_mod]
theorem lN_a1 (n : Nat) : lN n &&& (1 : Int64) = lN (n % 2) := by
  rw [show (1 : Int64) = lN 1 from rfl]
  apply Int64.toBitVec_inj.mp
  show BitVec.ofNat 64 n &&& BitVec.ofNat 64 1 = BitVec.ofNat 64 (n % 2)
  rw [← BitVec.ofNat_and, Nat.and_one_is_mod]
theorem tb_div (n k : Nat) : n.testBit k = true ↔ n / 2 ^ k % 2 = 1 := by
  rw [Nat.testBit_eq_decide_div_mod_eq, decide_eq_true_eq]
theorem bitX {b m : Nat} (hb : b < 2 ^ 31) (hm : m < 31) : zshr (nI b) (nI m) &&& (1 : Int32) = (1 : Int32) ↔ b.testBit m = true := by
  have e : ∀ k, k < 31 → ((nI k &&& 31).toBitVec.smod 32).toNat = k := by decide
  have e2 : zshr (nI b) (nI m) = nI (b / 2 ^ m) := pk_shrN hb _ m (e m hm)
  rw [e2, nI_a1, tb_div, show (1 : Int32) = nI 1 from rfl, nI_eq (by omega) (by omega)]
theorem bitM {b m : Nat} (hb : b < 2 ^ 31) (hm : m < 31) : zcmp (zlshr (lN b) (nI m) &&& (1 : Int64)) (1 : Int64) = 0 ↔ b.testBit m = true := by
  unfold zcmp
  rw [lN_shr hb hm, lN_a1, lg_cmp_eq, tb_div, show (1 : Int64) = lN 1 from rfl, lN_eq (by omega) (by omega)]
def sNx (b : Nat) : Nat → Nat → Int32
  | 0 => fun _ => -1
  | d + 1 => fun m => if b.testBit m = true then nI m else sNx b d (m + 1)
theorem nextX {b : Nat} (hb : b < 2 ^ 31) (M : zM) : ∀ (d m N : Nat), m + d = 31 → d < N → fX5_nextTold_L2 N (nI b) (nI m) M = some (sNx b d m, M) := by
  intro d
  induction d with
  | zero =>
    intro m N hm hN
    obtain ⟨N, rfl⟩ : ∃ q, N = q + 1 := ⟨N - 1, by omega⟩
    have : m = 31 := by omega
    subst this
    show fX5_nextTold_B2 _ _ _ M = _
    unfold fX5_nextTold_B2
    rw [if_pos (by decide)]
    rfl
  | succ d ih =>
    intro m N hm hN
    obtain ⟨N, rfl⟩ : ∃ q, N = q + 1 := ⟨N - 1, by omega⟩
    have e : sNx b (d + 1) m = if b.testBit m = true then nI m else sNx b d (m + 1) := rfl
    rw [e]
    show fX5_nextTold_B2 _ _ _ M = _
    unfold fX5_nextTold_B2
    rw [if_neg (by rw [show (30 : Int32) = nI 30 from rfl, nI_ltI (by omega) (by omega)]; omega)]
    by_cases c : b.testBit m = true
    · rw [if_pos ((bitX hb (by omega)).mpr c), if_pos c]
    · rw [if_neg (fun q => c ((bitX hb (by omega)).mp q)), if_neg c, zL_r, nI_1]
      exact ih (m + 1) N (by omega) (by omega)
theorem nextM {b : Nat} (hb : b < 2 ^ 31) (M : zM) : ∀ (d m N : Nat), m + d = 31 → d < N → fX6_nextTold_L8 N (lN b) (nI m) M = some (sNx b d m, M) := by
  intro d
  induction d with
  | zero =>
    intro m N hm hN
    obtain ⟨N, rfl⟩ : ∃ q, N = q + 1 := ⟨N - 1, by omega⟩
    have : m = 31 := by omega
    subst this
    show fX6_nextTold_B8 _ _ _ M = _
    unfold fX6_nextTold_B8
    rw [if_pos (by decide)]
    rfl
  | succ d ih =>
    intro m N hm hN
    obtain ⟨N, rfl⟩ : ∃ q, N = q + 1 := ⟨N - 1, by omega⟩
    have e : sNx b (d + 1) m = if b.testBit m = true then nI m else sNx b d (m + 1) := rfl
    rw [e]
    show fX6_nextTold_B8 _ _ _ M = _
    unfold fX6_nextTold_B8
    rw [if_neg (by rw [show (30 : Int32) = nI 30 from rfl, nI_ltI (by omega) (by omega)]; omega)]
    by_cases c : b.testBit m = true
    · rw [if_pos ((bitM hb (by omega)).mpr c), if_pos c]
    · rw [if_neg (fun q => c ((bitM hb (by omega)).mp q)), if_neg c, zL_r, nI_1]
      exact ih (m + 1) N (by omega) (by omega)

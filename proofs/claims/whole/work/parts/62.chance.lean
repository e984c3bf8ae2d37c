/-! IN m seeds; in lowest terms -/
/-- the greatest d of 2 .. that divides both, else 1 -/
def gsN (a b : Nat) : Nat → Nat → Nat → Nat
  | 0 => fun _ s => s
  | f + 1 => fun d s => if b < d then s else gsN a b f (d + 1) (if a % d = 0 then (if b % d = 0 then d else s) else s)
theorem gsN_e : ∀ b, b < 21 → ∀ a, a < 21 → gsN a b 25 2 1 = (if b = 0 then 1 else Nat.gcd a b) := by decide +kernel
theorem nI_rm {a d : Nat} (ha : a < 2 ^ 31) (h0 : 0 < d) (hd : d < 2 ^ 31) : zrm (nI a) (nI d) = nI (a % d) := pk_rem ha h0 hd
theorem nI_z0 {a : Nat} (h : a < 2 ^ 31) : nI a = 0 ↔ a = 0 := by
  rw [show (0 : Int32) = nI 0 from rfl]
  exact nI_eq h (by omega)
theorem shared_loop {a b : Nat} (ha : a < 21) (hb : b < 21) (M : zM) : ∀ (f d s N : Nat), 0 < d → b < d + f → d < 60 → f < N → fX5_greatestShared_L4 N (nI a) (nI b) (nI s) (nI d) M = some (nI (gsN a b f d s), M) := by
  intro f
  induction f with
  | zero =>
    intro d s N h0 hd h6 hN
    obtain ⟨N, rfl⟩ : ∃ q, N = q + 1 := ⟨N - 1, by omega⟩
    show fX5_greatestShared_B4 _ _ _ _ _ M = _
    unfold fX5_greatestShared_B4
    rw [if_pos ((nI_ltI (by omega) (by omega)).mpr (by omega))]
    rfl
  | succ f ih =>
    intro d s N h0 hd h6 hN
    obtain ⟨N, rfl⟩ : ∃ q, N = q + 1 := ⟨N - 1, by omega⟩
    have e : gsN a b (f + 1) d s = if b < d then s else gsN a b f (d + 1) (if a % d = 0 then (if b % d = 0 then d else s) else s) := rfl
    rw [e]
    show fX5_greatestShared_B4 _ _ _ _ _ M = _
    unfold fX5_greatestShared_B4
    by_cases c : b < d
    · rw [if_pos c, if_pos ((nI_ltI (by omega) (by omega)).mpr c)]
    · have hz : znz (nI d) = true := by
        simp only [znz, Bool.not_eq_true', decide_eq_false_iff_not]
        rw [nI_z0 (by omega)]
        omega
      rw [if_neg c, if_neg (by rw [nI_ltI (by omega) (by omega)]; exact c), zG_t hz, nI_rm (by omega) h0 (by omega), nI_rm (by omega) h0 (by omega)]
      have ma : a % d < 2 ^ 31 := Nat.lt_of_lt_of_le (Nat.mod_lt _ h0) (by omega)
      have mb : b % d < 2 ^ 31 := Nat.lt_of_lt_of_le (Nat.mod_lt _ h0) (by omega)
      by_cases c1 : a % d = 0
      · rw [if_pos c1, if_pos ((nI_z0 ma).mpr c1), zG_t hz]
        by_cases c2 : b % d = 0
        · rw [if_pos c2, if_pos ((nI_z0 mb).mpr c2), zL_r, nI_1]
          exact ih (d + 1) d N (by omega) (by omega) (by omega) (by omega)
        · rw [if_neg c2, if_neg (fun q => c2 ((nI_z0 mb).mp q)), zL_r, nI_1]
          exact ih (d + 1) s N (by omega) (by omega) (by omega) (by omega)
      · rw [if_neg c1, if_neg (fun q => c1 ((nI_z0 ma).mp q)), zL_r, nI_1]
        exact ih (d + 1) s N (by omega) (by omega) (by omega) (by omega)
theorem shared_e {a b : Nat} (ha : a < 21) (hb : b < 21) (h0 : 0 < b) (M : zM) : fX5_greatestShared (nI a) (nI b) M = some (nI (Nat.gcd a b), M) := by
  have h := shared_loop ha hb M 25 2 1 zF (by omega) (by omega) (by omega) (by unfold zF; omega)
  rw [gsN_e b hb a ha, if_neg (by omega)] at h
  exact h
/-- the reference's Euclid -/
theorem euclid_loop (m p a : Nat) (M : zM) : ∀ (f x y N : Nat), y < f → x < 2 ^ 31 → y < 2 ^ 31 → f < N → 0 < Nat.gcd x y → Nat.gcd x y < 2 ^ 31 → fX6_chance_L76 N (nI m) (nI p) (nI a) (nI x) (nI y) M = (if nI p = (0 : Int32) then zG (znz (nI (Nat.gcd x y))) <| some ((nI a / nI (Nat.gcd x y)).toInt64, M) else zG (znz (nI (Nat.gcd x y))) <| some ((nI m / nI (Nat.gcd x y)).toInt64, M)) := by
  intro f
  induction f with
  | zero => intro x y N h; omega
  | succ f ih =>
    intro x y N hy hx2 hy2 hN hg hg2
    obtain ⟨N, rfl⟩ : ∃ q, N = q + 1 := ⟨N - 1, by omega⟩
    show fX6_chance_B76 _ _ _ _ _ _ M = _
    unfold fX6_chance_B76
    by_cases c : y = 0
    · subst c
      rw [if_pos (show nI 0 = 0 from rfl), Nat.gcd_zero_right]
    · have hz : znz (nI y) = true := by
        simp only [znz, Bool.not_eq_true', decide_eq_false_iff_not]
        rw [nI_z0 hy2]
        omega
      have hgr : Nat.gcd x y = Nat.gcd y (x % y) := by rw [Nat.gcd_comm x y, Nat.gcd_rec y x, Nat.gcd_comm]
      rw [if_neg (fun q => c ((nI_z0 hy2).mp q)), zG_t hz, nI_rm hx2 (by omega) hy2, zL_r, hgr]
      have hlt : x % y < y := Nat.mod_lt _ (by omega)
      exact ih y (x % y) N (by omega) hy2 (by omega) (by omega) (by rw [← hgr]; exact hg) (by rw [← hgr]; exact hg2)
theorem chance_loop {T : zM → Prop} (hTab : tabOk T) (seed k : Int32) {m p : Nat} (hm1 : 1 ≤ m) (hm : m ≤ 20) (hp : p ≤ 1) : ∀ (d i a N : Nat) (MX MM : zM), RelT T MX MM → i + d = m → a ≤ i → d < N → ∃ (r : Int64) (MX' MM' : zM), fX5_chance_L40 N seed (nI m) k (nI p) (nI a) (nI i) MX = some (r, MX') ∧ fX6_chance_L40 N seed (nI m) k (nI p) (nI a) (nI i) MM = some (r, MM') ∧ RelT T MX' MM' := by
  intro d
  induction d with
  | zero =>
    intro i a N MX MM hR hi ha hN
    obtain ⟨N, rfl⟩ : ∃ q, N = q + 1 := ⟨N - 1, by omega⟩
    have : i = m := by omega
    subst this
    have hX : fX5_chance_L40 (N + 1) seed (nI i) k (nI p) (nI a) (nI i) MX = fX5_chance_B40 (fX5_chance_L40 N) seed (nI i) k (nI p) (nI a) (nI i) MX := rfl
    have hM : fX6_chance_L40 (N + 1) seed (nI i) k (nI p) (nI a) (nI i) MM = fX6_chance_B40 (fX6_chance_L40 N) seed (nI i) k (nI p) (nI a) (nI i) MM := rfl
    rw [hX, hM]
    unfold fX5_chance_B40 fX6_chance_B40
    have hg : 0 < Nat.gcd a i := Nat.gcd_pos_of_pos_right _ (by omega)
    have hg2 : Nat.gcd a i ≤ i := Nat.gcd_le_right _ (by omega)
    have hz : znz (nI (Nat.gcd a i)) = true := by
      simp only [znz, Bool.not_eq_true', decide_eq_false_iff_not]
      rw [nI_z0 (by omega)]
      omega
    have hpos : (0 : Int32) < nI (Nat.gcd a i) := by
      rw [show (0 : Int32) = nI 0 from rfl, nI_ltI (by omega) (by omega)]
      exact hg
    rw [if_pos (Int32.le_refl _), if_pos (Int32.le_refl _), zB_s (shared_e (by omega) (by omega) (by omega) _), if_pos hpos, euclid_loop i p a MM (i + 1) a i zF (by omega) (by omega) (by omega) (by unfold zF; omega) hg (by omega)]
    simp only [zG_t hz]
    by_cases c : nI p = 0
    · rw [if_pos c, if_pos c]; exact ⟨_, MX, MM, rfl, rfl, hR⟩
    · rw [if_neg c, if_neg c]; exact ⟨_, MX, MM, rfl, rfl, hR⟩
  | succ d ih =>
    intro i a N MX MM hR hi ha hN
    obtain ⟨N, rfl⟩ : ∃ q, N = q + 1 := ⟨N - 1, by omega⟩
    have hX : fX5_chance_L40 (N + 1) seed (nI m) k (nI p) (nI a) (nI i) MX = fX5_chance_B40 (fX5_chance_L40 N) seed (nI m) k (nI p) (nI a) (nI i) MX := rfl
    have hM : fX6_chance_L40 (N + 1) seed (nI m) k (nI p) (nI a) (nI i) MM = fX6_chance_B40 (fX6_chance_L40 N) seed (nI m) k (nI p) (nI a) (nI i) MM := rfl
    rw [hX, hM]
    unfold fX5_chance_B40 fX6_chance_B40
    obtain ⟨v, X1, M1, x1, m1, hR1⟩ := lot_e hTab hR (seed + nI i) (n := 10) (by omega)
    have x1' : fX5_clogsBySeed (seed + nI i) (10 : Int32) MX = some (v, X1) := x1
    have m1' : fX6_byLot (seed + nI i) (10 : Int32) MM = some (v, M1) := m1
    rw [if_neg (by rw [nI_leI (by omega) (by omega)]; omega), if_neg (by rw [nI_leI (by omega) (by omega)]; omega), zB_s x1', zB_s m1']
    by_cases c : v < k
    · rw [if_pos c, if_pos c, zL_r, zL_r, nI_1]
      exact ih (i + 1) a N X1 M1 hR1 (by omega) (by omega) (by omega)
    · rw [if_neg c, if_neg c, zL_r, zL_r, zL_r, zL_r, nI_1, nI_1]
      exact ih (i + 1) (a + 1) N X1 M1 hR1 (by omega) (by omega) (by omega)
theorem st_chance {T : zM → Prop} (hTab : tabOk T) (MX MM : zM) (hR : RelT T MX MM) (a1 a2 a3 a4 : Int32) : ∃ (r : Int64) (MX' MM' : zM), fX5_chance a1 a2 a3 a4 MX = some (r, MX') ∧ fX6_chance a1 a2 a3 a4 MM = some (r, MM') ∧ RelT T MX' MM' := by
  unfold fX5_chance fX6_chance
  rw [zB_s (win5 _ _ _ _), zB_s (win6 _ _ _ _)]
  rcases zWin_c a2 1 20 with ⟨z1, -⟩ | ⟨z1, k1, k2⟩
  · rw [if_pos z1, if_pos z1]; exact ⟨_, MX, MM, rfl, rfl, hR⟩
  rw [if_neg (show ¬ zWin a2 1 20 = 0 by rw [z1]; decide), if_neg (show ¬ zWin a2 1 20 = 0 by rw [z1]; decide), zB_s (win5 _ _ _ _), zB_s (win6 _ _ _ _)]
  rcases zWin_c a3 0 99 with ⟨z2, -⟩ | ⟨z2, k3, k4⟩
  · rw [if_pos z2, if_pos z2]; exact ⟨_, MX, MM, rfl, rfl, hR⟩
  rw [if_neg (show ¬ zWin a3 0 99 = 0 by rw [z2]; decide), if_neg (show ¬ zWin a3 0 99 = 0 by rw [z2]; decide), zB_s (win5 _ _ _ _), zB_s (win6 _ _ _ _)]
  rcases zWin_c a4 0 1 with ⟨z3, -⟩ | ⟨z3, k5, k6⟩
  · rw [if_pos z3, if_pos z3]; exact ⟨_, MX, MM, rfl, rfl, hR⟩
  rw [if_neg (show ¬ zWin a4 0 1 = 0 by rw [z3]; decide), if_neg (show ¬ zWin a4 0 1 = 0 by rw [z3]; decide)]
  obtain ⟨m, hm1, hm, rfl⟩ := i32_in (a := 1) (b := 20) k1 k2 (by omega) (by omega)
  obtain ⟨p, -, hp, rfl⟩ := i32_in (a := 0) (b := 1) k5 k6 (by omega) (by omega)
  exact chance_loop hTab a1 a3 hm1 hm hp m 0 0 zF MX MM hR (by omega) (by omega) (by unfold zF; omega)

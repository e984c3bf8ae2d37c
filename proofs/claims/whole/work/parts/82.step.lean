/-! texts: the reference, token by token -/
def runs (q : Int32) (i j : Nat) (M M' : zM) : Prop := i ≤ j ∧ ∀ N, fX6_part_L45 (N + (j - i)) q M = fX6_part_L45 N q M'
def fails (q : Int32) (z : Nat) (b : Nat → Int32) (T : zTk) (base i j : Nat) (M : zM) : Prop := i ≤ j ∧ j ≤ 160 ∧ ∃ M', (∀ N, fX6_part_L45 (N + (j - i) + 1) q M = some (0, M')) ∧ rTok z b T M' j ∧ rF base M M'
theorem runs_refl (q : Int32) (i : Nat) (M : zM) : runs q i i M M := ⟨Nat.le_refl _, fun N => by rw [Nat.sub_self, Nat.add_zero]⟩
theorem runs_trans {q : Int32} {i j k : Nat} {M M' M'' : zM} (h1 : runs q i j M M') (h2 : runs q j k M' M'') : runs q i k M M'' := ⟨Nat.le_trans h1.1 h2.1, fun N => by
  have a := h1.1
  have c := h2.1
  rw [show N + (k - i) = N + (k - j) + (j - i) by omega, h1.2, h2.2]⟩
theorem runs_fails {q : Int32} {z : Nat} {b : Nat → Int32} {T : zTk} {base i j k : Nat} {M M' : zM} (h1 : runs q i j M M') (hF : rF base M M') (h2 : fails q z b T base j k M') : fails q z b T base i k M := by
  obtain ⟨a, a', M'', f1, f2, f3⟩ := h2
  have c := h1.1
  refine ⟨Nat.le_trans c a, a', M'', fun N => ?_, f2, rF_trans hF f3⟩
  rw [show N + (k - i) + 1 = N + (k - j) + 1 + (j - i) by omega, h1.2, f1]
/-- one turn of the loop -/
theorem turn_go {z : Nat} {b : Nat → Int32} {T : zTk} (hN : hNM z b T) {q : Int32} {M M1 : zM} {i base : Nat} {C W : List Int32} {cmp beh st beh0 : Nat} (hb0 : M.1 0 24 = nI beh0) (hb2 : beh0 ≤ 1) (h59 : beh0 = 1 → ¬ M.1 0 17 = 59) (hg : fX6_goesOn M = some (1, M1)) (ht : rTok z b T M1 i) (hk : tk T i ≠ 0) (hs : rStk base C W M1) (h23 : M1.1 0 23 = nI cmp) (h24 : M1.1 0 24 = nI beh) (h25 : M1.1 0 25 = nI st) (hl : C.length + W.length ≤ i + 1) (hb : base + 170 ≤ 3000) (hc : cmp ≤ 1) (hF : rF base M M1) : ∃ M', runs q i (i + 1) M M' ∧ rSt z b T M' (i + 1) base C W cmp beh st ∧ rF base M M' := by
  obtain ⟨M', n1, n2, n3⟩ := rSt_next hN ht hk hs h23 h24 h25 hl hb hc
  refine ⟨M', ⟨by omega, fun N => ?_⟩, n2, rF_trans hF n3⟩
  rw [show N + (i + 1 - i) = N + 1 by omega]
  have hJ : fX6_part_J61 (fX6_part_L45 N) q M = fX6_part_L45 N q M' := by
    unfold fX6_part_J61
    rw [zB_s hg, if_neg (show ¬ (1 : Int32) = 0 by decide), zV_s n1]
  rw [← hJ]
  show fX6_part_B45 _ _ M = _
  unfold fX6_part_B45
  rw [hb0]
  by_cases c : beh0 = 0
  · rw [if_pos ((nI_z0 (by omega)).mpr c)]
  · rw [if_neg (fun q => c ((nI_z0 (by omega)).mp q)), if_neg (h59 (by omega))]
theorem turn_no {z : Nat} {b : Nat → Int32} {T : zTk} {q : Int32} {M M1 : zM} {i base beh0 : Nat} (hb0 : M.1 0 24 = nI beh0) (hb2 : beh0 ≤ 1) (h59 : beh0 = 1 → ¬ M.1 0 17 = 59) (hg : fX6_goesOn M = some (0, M1)) (ht : rTok z b T M1 i) (hF : rF base M M1) (hi : i ≤ 160) : fails q z b T base i i M := by
  refine ⟨Nat.le_refl _, hi, M1, fun N => ?_, ht, hF⟩
  rw [show N + (i - i) + 1 = N + 1 by omega]
  have hJ : fX6_part_J61 (fX6_part_L45 N) q M = some (0, M1) := by
    unfold fX6_part_J61
    rw [zB_s hg, if_pos rfl]
  rw [← hJ]
  show fX6_part_B45 _ _ M = _
  unfold fX6_part_B45
  rw [hb0]
  by_cases c : beh0 = 0
  · rw [if_pos ((nI_z0 (by omega)).mpr c)]
  · rw [if_neg (fun q => c ((nI_z0 (by omega)).mp q)), if_neg (h59 (by omega))]
theorem sOne {z : Nat} {b : Nat → Int32} {T : zTk} (hN : hNM z b T) (hT : okTk T) (q : Int32) {M : zM} {i base : Nat} {C W : List Int32} {cmp st : Nat} (h : rSt z b T M i base C W cmp 0 st) (hk : tk T i = 2 ∨ tk T i = 3) : ∃ M', runs q i (i + 1) M M' ∧ rSt z b T M' (i + 1) base (lay 7 W (C ++ [cOne T i])).1 (lay 7 W (C ++ [cOne T i])).2 cmp 1 st ∧ rF base M M' := by
  obtain ⟨M1, o1, o2, o3, o4, o5, o6, o7⟩ := one_v hT h hk (nI st)
  obtain ⟨ht, hs, h23, h24, h25, hl, hb, hc⟩ := id h
  have ll := lay_len 7 W (C ++ [cOne T i])
  have lenC : (C ++ [cOne T i]).length = C.length + 1 := by rw [List.length_append]; rfl
  refine turn_go hN (beh0 := 0) h24 (by omega) (fun e => by omega) ?_ o2 (by omega) o3 o4 o5 o6 (by omega) hb hc o7
  unfold fX6_goesOn
  rw [h24, if_pos (show nI 0 = 0 from rfl), h25, zB_s o1, zG_t zbo_1]
theorem sOpen {z : Nat} {b : Nat → Int32} {T : zTk} (hN : hNM z b T) (hT : okTk T) (q : Int32) {M : zM} {i base : Nat} {C W : List Int32} {cmp st : Nat} (h : rSt z b T M i base C W cmp 0 st) (hs1 : st ≤ 1) (hk : (tk T i = 9 ∧ st = 1) ∨ tk T i = 45 ∨ tk T i = 40) (ho : opn W < 5) : ∃ M', runs q i (i + 1) M M' ∧ rSt z b T M' (i + 1) base C ((if tk T i = 9 then 13 else if tk T i = 45 then 14 else if cmp = 0 then -1 else -2) :: W) (if tk T i = 40 then 0 else cmp) 0 (if tk T i = 45 then 0 else 1) ∧ rF base M M' := by
  obtain ⟨M1, o1, o2, o3, o4, o5, o6, o7⟩ := one_o hT h hs1 hk ho
  obtain ⟨ht, hs, h23, h24, h25, hl, hb, hc⟩ := id h
  refine turn_go hN (beh0 := 0) h24 (by omega) (fun e => by omega) ?_ o2 (by omega) o3 o4 o5 o6 (by simp only [List.length_cons]; omega) hb (by split <;> omega) o7
  unfold fX6_goesOn
  rw [h24, if_pos (show nI 0 = 0 from rfl), h25, zB_s o1, zG_t zbo_1]
theorem fOne {z : Nat} {b : Nat → Int32} {T : zTk} (hT : okTk T) (q : Int32) {M : zM} {i base : Nat} {C W : List Int32} {cmp st : Nat} (h : rSt z b T M i base C W cmp 0 st) (hs1 : st ≤ 1) (h2 : tk T i ≠ 2) (h3 : tk T i ≠ 3) (hk : (¬ (tk T i = 9 ∧ st = 1) ∧ tk T i ≠ 45 ∧ tk T i ≠ 40) ∨ opn W = 5) (hi : i ≤ 160) : fails q z b T base i i M := by
  have o1 := one_n hT h hs1 h2 h3 hk
  obtain ⟨ht, hs, h23, h24, h25, hl, hb, hc⟩ := id h
  refine turn_no (beh0 := 0) h24 (by omega) (fun e => by omega) ?_ ht (rF_refl _ _) hi
  unfold fX6_goesOn
  rw [h24, if_pos (show nI 0 = 0 from rfl), h25, zB_s o1, zG_t zbo_0]
theorem sOp {z : Nat} {b : Nat → Int32} {T : zTk} (hN : hNM z b T) (hT : okTk T) (q : Int32) {M : zM} {i base : Nat} {C W : List Int32} {cmp st r : Nat} (h : rSt z b T M i base C W cmp 1 st) {s : Int32} (hsg : sgT (tk T i) cmp = s) (hs1 : s ≠ -1) (hr : rkS s = r) (h1 : 1 ≤ r) (h7 : r ≤ 6) : ∃ M', runs q i (i + 1) M M' ∧ rSt z b T M' (i + 1) base (lay r W C).1 (s :: (lay r W C).2) (if r < 3 then 0 else if r = 4 then 1 else cmp) 0 (if r < 3 then 1 else 0) ∧ rF base M M' := by
  obtain ⟨k1, k2, k3, k4⟩ := hT i
  obtain ⟨ht, hs, h23, h24, h25, hl, hb, hc⟩ := id h
  obtain ⟨g1, g2, g3, g4, g5, g6, g7⟩ := id ht
  obtain ⟨t119, t48, t45, t40, t41, t59, -⟩ := rkTok_9 k1
  have hk0 : tk T i ≠ 0 := fun e => by rw [e] at hsg; exact hs1 hsg.symm
  have hk41 : tk T i ≠ 41 := fun e => by rw [e] at hsg; exact hs1 hsg.symm
  have hk59 : tk T i ≠ 59 := fun e => by rw [e] at hsg; exact hs1 hsg.symm
  have hi := k4 hk0
  obtain ⟨M1, l1, l2, l3⟩ := lays_e (k := r) h1 (by omega) hs (by omega) (by omega)
  have ll := lay_len r W C
  obtain ⟨M2, p1, p2, p3⟩ := push_e l2 (by omega) s
  have F3 := rF0_trans l3 p3
  obtain ⟨M3, e3⟩ : ∃ M3, M3 = zu (zu M2 0 24 0) 0 25 (if r < 3 then 1 else 0) := ⟨_, rfl⟩
  have s3 : rStk base (lay r W C).1 (s :: (lay r W C).2) M3 := by rw [e3]; exact rStk_zu (rStk_zu p2 (by decide) (by decide) (by decide) _) (by decide) (by decide) (by decide) _
  have t3 : rTok z b T M3 i := by rw [e3]; exact rTok_zu (rTok_zu (rTok_0 ht F3) (by decide) _) (by decide) _
  have f23 : M3.1 0 23 = nI cmp := by rw [e3, zu_other _ _ (by decide), zu_other _ _ (by decide), F3.2.2.1 23 (by decide) (by decide) (by decide)]; exact h23
  have f24 : M3.1 0 24 = nI 0 := by rw [e3, zu_other _ _ (by decide), zu_same]; rfl
  have f25 : M3.1 0 25 = nI (if r < 3 then 1 else 0) := by
    rw [e3, zu_same]
    by_cases c : r < 3
    · rw [if_pos c, if_pos c]; rfl
    · rw [if_neg c, if_neg c]; rfl
  have F : rF base M M3 := by rw [e3]; exact rF_trans (rF_trans (rF_0 F3) (rF_zu _ _ (by decide) _)) (rF_zu _ _ (by decide) _)
  have hlen : (lay r W C).1.length + (s :: (lay r W C).2).length ≤ i + 1 := by
    simp only [List.length_cons]
    omega
  -- compared
  have main : ∃ M4, (if r < 3 then fX6_goesOn_J74 s (1 : Int32) (zu M2 0 24 0) = some (1, M4) else fX6_goesOn_J74 s (0 : Int32) (zu M2 0 24 0) = some (1, M4)) ∧ rTok z b T M4 i ∧ rStk base (lay r W C).1 (s :: (lay r W C).2) M4 ∧ M4.1 0 23 = nI (if r < 3 then 0 else if r = 4 then 1 else cmp) ∧ M4.1 0 24 = nI 0 ∧ M4.1 0 25 = nI (if r < 3 then 1 else 0) ∧ rF base M M4 := by
    by_cases c : r < 3
    · refine ⟨zu M3 0 23 0, ?_, rTok_zu t3 (by decide) _, rStk_zu s3 (by decide) (by decide) (by decide) _, by rw [zu_same, if_pos c]; rfl, by rw [zu_other _ _ (by decide)]; exact f24, by rw [zu_other _ _ (by decide)]; exact f25, rF_trans F (rF_zu _ _ (by decide) _)⟩
      rw [if_pos c]
      unfold fX6_goesOn_J74
      rw [zG_t zbo_1, zL_r, zu_same, if_neg (show ¬ (1 : Int32) = 0 by decide), zL_r, e3, if_pos c]
    · have e3' : zu (zu M2 0 24 0) 0 25 0 = M3 := by rw [e3, if_neg c]
      by_cases d : r = 4
      · refine ⟨zu M3 0 23 1, ?_, rTok_zu t3 (by decide) _, rStk_zu s3 (by decide) (by decide) (by decide) _, by rw [zu_same, if_neg c, if_pos d]; rfl, by rw [zu_other _ _ (by decide)]; exact f24, by rw [zu_other _ _ (by decide)]; exact f25, rF_trans F (rF_zu _ _ (by decide) _)⟩
        rw [if_neg c]
        unfold fX6_goesOn_J74
        rw [zG_t zbo_0, zL_r, zu_same, if_pos rfl, zB_s (rank_e _ _), hr, if_pos (by rw [d]; rfl), zL_r, e3']
      · refine ⟨M3, ?_, t3, s3, by rw [if_neg c, if_neg d]; exact f23, f24, f25, F⟩
        rw [if_neg c]
        unfold fX6_goesOn_J74
        rw [zG_t zbo_0, zL_r, zu_same, if_pos rfl, zB_s (rank_e _ _), hr, if_neg (fun q => d ((nI_eq (by omega) (by omega)).mp (q.trans (show (4 : Int32) = nI 4 from rfl)))), e3']
  obtain ⟨M4, m1, m2, m3, m4, m5, m6, m7⟩ := main
  refine turn_go hN (beh0 := 1) h24 (by omega) (fun _ => ?_) ?_ m2 hk0 m3 m4 m5 m6 hlen hb (by split <;> first | omega | (split <;> omega)) m7
  · rw [g5]; exact fun e => hk59 (t59.mp e)
  unfold fX6_goesOn
  rw [h24, if_neg (show ¬ nI 1 = 0 by decide), g5, if_neg (fun e => hk41 (t41.mp e)), zB_s (signed_e hT h), hsg, if_neg hs1, zB_s (rank_e _ _), hr, zV_s l1, zV_s p1, zL_r, zB_s (rank_e _ _), hr]
  by_cases c : r < 3
  · rw [if_pos c] at m1
    rw [if_neg (by rw [show (3 : Int32) = nI 3 from rfl, nI_leI (by omega) (by omega)]; omega), m1]
  · rw [if_neg c] at m1
    rw [if_pos (by rw [show (3 : Int32) = nI 3 from rfl, nI_leI (by omega) (by omega)]; omega), m1]
theorem sClose {z : Nat} {b : Nat → Int32} {T : zTk} (hN : hNM z b T) (hT : okTk T) (q : Int32) {M : zM} {i base : Nat} {C W : List Int32} {cmp st : Nat} (h : rSt z b T M i base C W cmp 1 st) (hk : tk T i = 41) {s : Int32} {V : List Int32} (hV : (lay 1 W C).2 = s :: V) : ∃ M', runs q i (i + 1) M M' ∧ rSt z b T M' (i + 1) base (lay 7 V (lay 1 W C).1).1 (lay 7 V (lay 1 W C).1).2 (if s = -2 then 1 else 0) 1 st ∧ rF base M M' := by
  obtain ⟨k1, k2, k3, k4⟩ := hT i
  obtain ⟨ht, hs, h23, h24, h25, hl, hb, hc⟩ := id h
  obtain ⟨g1, g2, g3, g4, g5, g6, g7⟩ := id ht
  obtain ⟨t119, t48, t45, t40, t41, t59, -⟩ := rkTok_9 k1
  have hi := k4 (by omega)
  obtain ⟨M1, c1, c2, c3, c4, c5, c6, c7⟩ := (closes_e h hi).2 s V hV
  have ll := lay_len 1 W C
  have ll2 := lay_len 7 V (lay 1 W C).1
  rw [hV, List.length_cons] at ll
  refine turn_go hN (beh0 := 1) h24 (by omega) (fun _ => ?_) ?_ c2 (by omega) c3 c4 c5 c6 (by omega) hb (by split <;> omega) c7
  · rw [g5]; exact fun e => by have := t59.mp e; omega
  unfold fX6_goesOn
  rw [h24, if_neg (show ¬ nI 1 = 0 by decide), g5, if_pos (t41.mpr hk), zB_s c1, zG_t zbo_1]
/-- behind a one nothing such can stand -/
theorem fBeh {z : Nat} {b : Nat → Int32} {T : zTk} (hT : okTk T) (q : Int32) {M : zM} {i base : Nat} {C W : List Int32} {cmp st : Nat} (h : rSt z b T M i base C W cmp 1 st) (hw : (tk T i = 41 ∨ tk T i = 59) → i < 160) (hk : (tk T i = 41 ∧ (lay 1 W C).2 = []) ∨ (tk T i = 59 ∧ (lay 1 W C).2 ≠ []) ∨ (tk T i ≠ 41 ∧ tk T i ≠ 59 ∧ sgT (tk T i) cmp = -1)) (hi : i ≤ 160) : fails q z b T base i i M := by
  obtain ⟨k1, k2, k3, k4⟩ := hT i
  obtain ⟨ht, hs, h23, h24, h25, hl, hb, hc⟩ := id h
  obtain ⟨g1, g2, g3, g4, g5, g6, g7⟩ := id ht
  obtain ⟨t119, t48, t45, t40, t41, t59, -⟩ := rkTok_9 k1
  rcases hk with ⟨a, e⟩ | ⟨a, e⟩ | ⟨a, a', e⟩
  · obtain ⟨M1, c1, c2, c3⟩ := (closes_e h (hw (Or.inl a))).1 e
    refine turn_no (beh0 := 1) h24 (by omega) (fun _ => ?_) ?_ c2 c3 hi
    · rw [g5]; exact fun e => by have := t59.mp e; omega
    unfold fX6_goesOn
    rw [h24, if_neg (show ¬ nI 1 = 0 by decide), g5, if_pos (t41.mpr a), zB_s c1, zG_t zbo_0]
  · have hi' := hw (Or.inr a)
    obtain ⟨M1, l1, l2, l3⟩ := lays_e (k := 1) (by omega) (by omega) hs (by omega) (by omega)
    have l1' : fX6_lays (1 : Int32) M = some M1 := l1
    have lle := lay_le 1 W C
    refine ⟨Nat.le_refl _, hi, M1, fun N => ?_, rTok_0 ht l3, rF_0 l3⟩
    rw [show N + (i - i) + 1 = N + 1 by omega]
    show fX6_part_B45 _ _ M = _
    unfold fX6_part_B45
    have hpos : 0 < (lay 1 W C).2.length := by
      cases hc : (lay 1 W C).2 with
      | nil => exact absurd hc e
      | cons _ _ => simp
    rw [h24, if_neg (show ¬ nI 1 = 0 by decide), g5, if_pos (t59.mpr a), zV_s l1', l2.2.2.1, if_neg (by rw [show (0 : Int32) = nI 0 from rfl, nI_leI (by omega) (by omega)]; omega)]
  · refine turn_no (beh0 := 1) h24 (by omega) (fun _ => ?_) ?_ ht (rF_refl _ _) hi
    · rw [g5]; exact fun e => a' (t59.mp e)
    unfold fX6_goesOn
    rw [h24, if_neg (show ¬ nI 1 = 0 by decide), g5, if_neg (fun e => a (t41.mp e)), zB_s (signed_e hT h), e, if_pos rfl]

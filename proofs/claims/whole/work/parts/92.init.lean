/-! as both are made -/
def chk (o : Option zM) (f : zM → Bool) : Bool := match o with
  | some M => f M
  | none => false
theorem chk_ex {o : Option zM} {f : zM → Bool} (h : chk o f = true) : ∃ M, o = some M ∧ f M = true := by
  cases o with
  | none =>
    have h' : false = true := h
    cases h'
  | some M => exact ⟨M, rfl, h⟩
def fa5 (M : zM) : Bool := [M.1 10 7, M.1 10 8, M.1 10 9, M.1 10 10, M.1 0 7, M.1 0 8, M.1 2 3, M.1 6 6, M.1 34 0, M.1 34 1, M.1 34 2, M.1 33 0, M.1 33 1, M.1 33 2, M.1 33 3, M.1 33 4] == [0, 0, 0, 0, 1, 0, 0, -1, 3, 4, 5, 1, 10000, 20043, 0, 1] && (List.range 4).all (fun s => (M.1 (56 + 2 * s) 1 == -1 && M.1 (56 + 2 * s) 2 == 0) && (List.range 40).all (fun j => M.1 (57 + 2 * s) j == 0)) && (List.range 1000).all (fun k => M.1 9 k == 0)
def fa6 (M : zM) : Bool := [M.1 0 0, M.1 0 1, M.1 0 2, M.1 0 7, M.1 0 8, M.1 0 10, M.1 0 14, M.1 0 40, M.1 6 0, M.1 6 1, M.1 6 2, M.1 7 0, M.1 7 1, M.1 7 2, M.1 8 0, M.1 8 1, M.1 8 2, M.1 8 3, M.1 8 4] == [0, 0, 0, 0, 0, 1, 5, 0, 0, 3, 4, 3, 1, 1, 16, 0, 6, 15, 16] && (List.range 4).all (fun s => (M.1 20 s == -1 && M.1 21 s == 0) && (List.range 40).all (fun j => M.1 22 (40 * s + j) == 0))
set_option maxRecDepth 100000 in
theorem init5_c : chk (fX5_init_J141 zM0X) fa5 = true := by decide +kernel
set_option maxRecDepth 100000 in
theorem init6_c : chk (fX6_init_J175 zM0M) fa6 = true := by decide +kernel
theorem rel_0 {M1 M2 : zM} (h1 : fa5 M1 = true) (h2 : fa6 M2 = true) : RelT zTab M1 M2 := by
  unfold fa5 at h1
  unfold fa6 at h2
  rw [Bool.and_eq_true, Bool.and_eq_true, beq_iff_eq] at h1
  rw [Bool.and_eq_true, beq_iff_eq] at h2
  obtain ⟨⟨a, b⟩, c⟩ := h1
  obtain ⟨a', b'⟩ := h2
  simp only [List.cons.injEq, and_true] at a a'
  rw [List.all_eq_true] at b c b'
  obtain ⟨a1, a2, a3, a4, a5, a6, a7, a8, a9, a10, a11, a12, a13, a14, a15, a16⟩ := a
  obtain ⟨c1, c2, c3, c4, c5, c6, c7, c8, c9, c10, c11, c12, c13, c14, c15, c16, c17, c18, c19⟩ := a'
  have bs : ∀ s, s < 4 → M1.1 (56 + 2 * s) 1 = -1 ∧ M1.1 (56 + 2 * s) 2 = 0 ∧ ∀ j, j < 40 → M1.1 (57 + 2 * s) j = 0 := fun s hs => by
    have q := b s (List.mem_range.mpr hs)
    rw [Bool.and_eq_true, Bool.and_eq_true, beq_iff_eq, beq_iff_eq, List.all_eq_true] at q
    exact ⟨q.1.1, q.1.2, fun j hj => by
      have := q.2 j (List.mem_range.mpr hj)
      rw [beq_iff_eq] at this
      exact this⟩
  have bs' : ∀ s, s < 4 → M2.1 20 s = -1 ∧ M2.1 21 s = 0 ∧ ∀ j, j < 40 → M2.1 22 (40 * s + j) = 0 := fun s hs => by
    have q := b' s (List.mem_range.mpr hs)
    rw [Bool.and_eq_true, Bool.and_eq_true, beq_iff_eq, beq_iff_eq, List.all_eq_true] at q
    exact ⟨q.1.1, q.1.2, fun j hj => by
      have := q.2 j (List.mem_range.mpr hj)
      rw [beq_iff_eq] at this
      exact this⟩
  have k9 : ∀ k, k < 1000 → M1.1 9 k = 0 := fun k hk => by
    have := c k (List.mem_range.mpr hk)
    rw [beq_iff_eq] at this
    exact this
  have cx0 : cX M1 0 0 = [1, 10000, 20043] := by
    unfold cX
    rw [show 32 + 4 * 0 + 2 = 34 from rfl, show 32 + 4 * 0 + 1 = 33 from rfl, a9]
    show [M1.1 33 (0 + 0), M1.1 33 (0 + 1), M1.1 33 (0 + 2)] = _
    rw [show 0 + 0 = 0 from rfl, show 0 + 1 = 1 from rfl, show 0 + 2 = 2 from rfl, a12, a13, a14]
  have cx1 : cX M1 0 1 = [0] := by
    unfold cX
    rw [show 32 + 4 * 0 + 2 = 34 from rfl, show 32 + 4 * 0 + 1 = 33 from rfl, if_neg (by decide), show 1 - 1 = 0 from rfl, a9, a10]
    show [M1.1 33 (3 + 0)] = _
    rw [show 3 + 0 = 3 from rfl, a15]
  have cx2 : cX M1 0 2 = [1] := by
    unfold cX
    rw [show 32 + 4 * 0 + 2 = 34 from rfl, show 32 + 4 * 0 + 1 = 33 from rfl, if_neg (by decide), show 2 - 1 = 1 from rfl, a10, a11]
    show [M1.1 33 (4 + 0)] = _
    rw [show 4 + 0 = 4 from rfl, a16]
  have cm0 : cM M2 0 0 = [1, 10000, 20043] := by
    unfold cM
    rw [show 3 * 0 + 0 = 0 from rfl, c12, c9]
    show [dM (M2.1 8 (0 + 0)), dM (M2.1 8 (0 + 1)), dM (M2.1 8 (0 + 2))] = _
    rw [show 0 + 0 = 0 from rfl, show 0 + 1 = 1 from rfl, show 0 + 2 = 2 from rfl, c15, c16, c17]
    decide
  have cm1 : cM M2 0 1 = [0] := by
    unfold cM
    rw [show 3 * 0 + 1 = 1 from rfl, c13, c10]
    show [dM (M2.1 8 (3 + 0))] = _
    rw [show 3 + 0 = 3 from rfl, c18]
    decide
  have cm2 : cM M2 0 2 = [1] := by
    unfold cM
    rw [show 3 * 0 + 2 = 2 from rfl, c14, c11]
    show [dM (M2.1 8 (4 + 0))] = _
    rw [show 4 + 0 = 4 from rfl, c19]
    decide
  have wf1 : ∀ v : Int32, 0 ≤ v → v < 10006 → wfc [v] 0 := fun v x y => Or.inl ⟨x, y, by omega, rfl⟩
  have wf3 : wfc [1, 10000, 20043] 0 := Or.inl ⟨by decide, by decide, by omega, Or.inl ⟨by decide, by decide, by omega, Or.inr (Or.inl ⟨by decide, by decide, by omega, rfl⟩)⟩⟩
  refine ⟨⟨Or.inl a8, fun A B C hA hB hC => Or.inl (k9 _ (by omega))⟩, 1, ?_, ?_, ?_, ?_, ?_⟩
  · refine ⟨0, 0, by omega, by omega, a1, c3, by rw [a2, c1], by rw [a3, c2], a4, c4, ?_, fun i hi => absurd hi (by omega)⟩
    rw [c1, c2]
    decide
  · refine ⟨by omega, by omega, a5, c6, fun r hr => ?_, 5, c7, by omega, fun q hq => ?_⟩
    · have e : r = 0 := by omega
      subst e
      refine ⟨⟨⟨3, 4, 5, by omega, by omega, by omega, a9, a10, a11⟩, fun p hp => ?_⟩, fun p hp => ?_, fun p hp => ?_⟩
      · rcases (show p = 0 ∨ p = 1 ∨ p = 2 by omega) with rfl | rfl | rfl
        · rw [cx0]; exact wf3
        · rw [cx1]; exact wf1 _ (by decide) (by decide)
        · rw [cx2]; exact wf1 _ (by decide) (by decide)
      · rcases (show p = 0 ∨ p = 1 ∨ p = 2 by omega) with rfl | rfl | rfl
        · rw [cm0]
          refine ⟨0, 3, c9, c12, by omega, by omega, fun k hk => ?_, wf3⟩
          rw [Nat.zero_add]
          rcases (show k = 0 ∨ k = 1 ∨ k = 2 by omega) with rfl | rfl | rfl
          · rw [c15]; decide
          · rw [c16]; decide
          · rw [c17]; decide
        · rw [cm1]
          refine ⟨3, 1, c10, c13, by omega, by omega, fun k hk => ?_, wf1 _ (by decide) (by decide)⟩
          have e : k = 0 := by omega
          subst e
          rw [show 3 + 0 = 3 from rfl, c18]; decide
        · rw [cm2]
          refine ⟨4, 1, c11, c14, by omega, by omega, fun k hk => ?_, wf1 _ (by decide) (by decide)⟩
          have e : k = 0 := by omega
          subst e
          rw [show 4 + 0 = 4 from rfl, c19]; decide
      · rcases (show p = 0 ∨ p = 1 ∨ p = 2 by omega) with rfl | rfl | rfl
        · rw [cx0, cm0]
        · rw [cx1, cm1]
        · rw [cx2, cm2]
    · rcases (show q = 0 ∨ q = 1 ∨ q = 2 by omega) with rfl | rfl | rfl
      · exact ⟨0, 3, c9, c12, by omega⟩
      · exact ⟨3, 1, c10, c13, by omega⟩
      · exact ⟨4, 1, c11, c14, by omega⟩
  · exact ⟨0, by omega, a7, c5, fun j hj => absurd hj (by omega)⟩
  · intro s hs
    obtain ⟨x1, x2, x3⟩ := bs s hs
    obtain ⟨y1, y2, y3⟩ := bs' s hs
    refine ⟨⟨by rw [x1, y1], by rw [y1]; decide, by rw [y1]; decide⟩, ⟨0, by omega, x2, y2⟩, fun j hj => by rw [x3 j hj, y3 j hj]⟩
  · exact Or.inl ⟨a6, c8⟩
theorem law_steps : lawSteps (RelT zTab) :=
  ⟨fun MX MM h a1 a2 a3 => st_set zTab_ok MX MM h a1 a2 a3,
   fun MX MM h a1 a2 a3 => st_person zTab_ok MX MM h a1 a2 a3,
   fun MX MM h a1 a2 => st_told zTab_ok MX MM h a1 a2,
   fun MX MM h a1 => st_feed zTab_ok MX MM h a1,
   fun MX MM h => st_text MX MM h,
   fun MX MM h a1 => st_force zTab_ok MX MM h a1,
   fun MX MM h => st_day zTab_ok MX MM h,
   fun MX MM h a1 a2 a3 => st_draw zTab_ok MX MM h a1 a2 a3,
   fun MX MM h a1 a2 a3 => st_run zTab_ok MX MM h a1 a2 a3,
   fun MX MM h a1 => st_all zTab_ok MX MM h a1,
   fun MX MM h a1 => st_times MX MM h a1,
   fun MX MM h a1 a2 a3 => st_fewest MX MM h a1 a2 a3,
   fun MX MM h a1 a2 => st_best MX MM h a1 a2,
   fun MX MM h a1 a2 a3 => st_makes MX MM h a1 a2 a3,
   fun MX MM h a1 a2 a3 => st_tells zTab_ok MX MM h a1 a2 a3,
   fun MX MM h a1 a2 a3 => st_film zTab_ok MX MM h a1 a2 a3,
   fun MX MM h a1 a2 => st_drawn zTab_ok MX MM h a1 a2,
   fun MX MM h a1 a2 a3 a4 => st_chance zTab_ok MX MM h a1 a2 a3 a4,
   fun MX MM h => st_image zTab_ok MX MM h,
   fun MX MM h => st_back zTab_ok MX MM h,
   fun MX MM h a1 => st_count MX MM h a1,
   fun MX MM h a1 a2 a3 => st_sheet zTab_ok MX MM h a1 a2 a3,
   fun MX MM h a1 a2 a3 => st_cell zTab_ok MX MM h a1 a2 a3,
   fun MX MM h a1 a2 a3 a4 a5 => st_copy zTab_ok MX MM h a1 a2 a3 a4 a5,
   fun MX MM h a1 a2 a3 a4 => st_people zTab_ok MX MM h a1 a2 a3 a4,
   fun MX MM h a1 a2 => st_taken MX MM h a1 a2⟩

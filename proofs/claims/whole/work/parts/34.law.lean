/-! the law's start: what stays, out of the tables and the given -/
theorem gv_at {s : State} {b : Nat} (hgv : (Jvm.Cond.and given_1 narrow_1).before #[Value.ref b] s = true) (k : Nat) {w : Cond} (h : (flatC (Jvm.Cond.and given_1 narrow_1))[k]? = some w) : w.before #[Value.ref b] s = true := flat_of_before _ hgv w (List.mem_of_getElem? h)
def ztm : Nat → Term := fun i => match i with
  | 0 => .string "GlassesOfRue" 52
  | 1 => .string "GlassesOfRue$Tape" 92
  | _ => .string "GlassesOfRue$Tape" 80
abbrev zfc : List Cond := flatC (Jvm.Cond.and given_1 narrow_1)
set_option maxRecDepth 100000 in
theorem zgv_P : ∀ j, j < 9 → zfc[12 + j]? = some (Cond.eq (.elem (.static "GlassesOfRue$Table" "PLACES" "[J") (.int (Int32.ofNat j))) (.long (zPL j))) := by decide +kernel
set_option maxRecDepth 100000 in
theorem zgv_0 : ∀ j, j < 33 → zfc[39 + j]? = some (Cond.eq (.elem (.field (ztm 0) "java/lang/String" "value" "[B") (.int (Int32.ofNat j))) (.int ((zSb.getD 0 []).getD j 0))) := by decide +kernel
set_option maxRecDepth 100000 in
theorem zgv_1 : ∀ j, j < 55 → zfc[76 + j]? = some (Cond.eq (.elem (.field (ztm 1) "java/lang/String" "value" "[B") (.int (Int32.ofNat j))) (.int ((zSb.getD 1 []).getD j 0))) := by decide +kernel
set_option maxRecDepth 100000 in
theorem zgv_2 : ∀ j, j < 8 → zfc[136 + j]? = some (Cond.eq (.elem (.field (ztm 2) "java/lang/String" "value" "[B") (.int (Int32.ofNat j))) (.int ((zSb.getD 2 []).getD j 0))) := by decide +kernel
theorem z3 {P : Nat → Prop} (h0 : P 0) (h1 : P 1) (h2 : P 2) : ∀ i : Nat, i < 3 → P i := by
  intro i hi
  rcases (show i = 0 ∨ i = 1 ∨ i = 2 by omega) with rfl | rfl | rfl <;> assumption
set_option maxRecDepth 100000 in
set_option maxHeartbeats 4000000 in
theorem law_static {s : State} {b : Nat} (hts : ∀ w ∈ lw_tbl, w.before #[Value.ref b] s = true) (hgv : (Jvm.Cond.and given_1 narrow_1).before #[Value.ref b] s = true) : ∃ sa : Nat → Nat, ∀ (D : va_G) (ca : Nat → ClassId), zSt (D, ca, fun _ => 0, sa) (fun q => s.heap.size ≤ q) s s.heap := by
  have hA : ∀ a : Nat, a < s.heap.size → ¬ (fun q : Nat => s.heap.size ≤ q) a := fun a h => Nat.not_le.mpr h
  obtain ⟨t, ht, hT⟩ := va_Tof (args := #[Value.ref b]) (s := s) (tm := .static "GlassesOfRue$Table" "PLACES" "[J") (ty := .long) (N := 9) (f := fun j => .long (zPL j)) (A := fun q => s.heap.size ≤ q) (by decide) (gv_at hgv 10 (by decide +kernel)) (va_eqt (gv_at hgv 11 (by decide +kernel))) (fun j hj => va_eqtl (gv_at hgv (12 + j) (zgv_P j hj))) hA
  have hZ := va_Zref (hts (.laysStatic "GlassesOfRue$Table" "PLACES" "[J") (List.mem_append_right _ (List.mem_of_getElem? (i := 576) (by decide +kernel)))) (hts (.initialized "GlassesOfRue$Table") (List.mem_append_right _ (List.mem_of_getElem? (i := 3) (by decide +kernel)))) ht hA
  have hC := va_Zof (hts (.laysStatic "java/lang/String" "COMPACT_STRINGS" "Z") (List.mem_append_right _ (List.mem_of_getElem? (i := 187) (by decide +kernel)))) (hts (.initialized "java/lang/String") (List.mem_append_right _ (List.mem_of_getElem? (i := 7) (by decide +kernel)))) (va_eqi (gv_at hgv 4 (w := Cond.eq (Term.static "java/lang/String" "COMPACT_STRINGS" "Z") (.int 1)) (by decide +kernel))) hA
  have hQ := va_Zqof (hts (.laysStatic "jdk/internal/util/Preconditions" "SIOOBE_FORMATTER" "Ljava/util/function/BiFunction;") (List.mem_append_right _ (List.mem_of_getElem? (i := 203) (by decide +kernel)))) (hts (.initialized "jdk/internal/util/Preconditions") (List.mem_append_right _ (List.mem_of_getElem? (i := 9) (by decide +kernel)))) (gv_at hgv 5 (by decide +kernel)) hA
  have hO1 : va_AO "GlassesOfRue$Text" s := va_AO.of (hts (.arrayOver (.object "GlassesOfRue$Text")) (List.mem_append_right _ (List.mem_of_getElem? (i := 26) (by decide +kernel))))
  have hO2 : va_AO "GlassesOfRue$Sheet" s := va_AO.of (hts (.arrayOver (.object "GlassesOfRue$Sheet")) (List.mem_append_right _ (List.mem_of_getElem? (i := 143) (by decide +kernel))))
  obtain ⟨adK, adV, hS, hK⟩ := vk_Sof (args := #[Value.ref b]) (s := s) (N := 3) (tm := ztm) (len := zSl) (byt := zSb) (A := fun q => s.heap.size ≤ q) (by decide)
    (z3 (gv_at hgv 35 (by decide +kernel)) (gv_at hgv 72 (by decide +kernel)) (gv_at hgv 132 (by decide +kernel)))
    (z3 (gv_at hgv 36 (by decide +kernel)) (gv_at hgv 73 (by decide +kernel)) (gv_at hgv 133 (by decide +kernel)))
    (z3 (gv_at hgv 37 (by decide +kernel)) (gv_at hgv 74 (by decide +kernel)) (gv_at hgv 134 (by decide +kernel)))
    (z3 (gv_at hgv 38 (by decide +kernel)) (gv_at hgv 75 (by decide +kernel)) (gv_at hgv 135 (by decide +kernel)))
    (z3 (fun j hj => gv_at hgv (39 + j) (zgv_0 j hj)) (fun j hj => gv_at hgv (76 + j) (zgv_1 j hj)) (fun j hj => gv_at hgv (136 + j) (zgv_2 j hj)))
    (fun i j hi hj hij => by
      have a01 := gv_at hgv 131 (w := Cond.not (Cond.eq (ztm 0) (ztm 1))) (by decide +kernel)
      have a02 := gv_at hgv 144 (w := Cond.not (Cond.eq (ztm 0) (ztm 2))) (by decide +kernel)
      have a12 := gv_at hgv 145 (w := Cond.not (Cond.eq (ztm 1) (ztm 2))) (by decide +kernel)
      rcases (show i = 0 ∨ i = 1 ∨ i = 2 by omega) with rfl | rfl | rfl <;> rcases (show j = 0 ∨ j = 1 ∨ j = 2 by omega) with rfl | rfl | rfl
      · exact absurd rfl hij
      · exact Or.inl a01
      · exact Or.inl a02
      · exact Or.inr a01
      · exact absurd rfl hij
      · exact Or.inl a12
      · exact Or.inr a02
      · exact Or.inr a12
      · exact absurd rfl hij) hA
  refine ⟨fun j => if j = 0 then t else if j < 4 then adK (j - 1) else adV (j - 4), fun D ca => ⟨⟨fun q hq => va_Nw.of rfl (hts _ (zNf_t q hq)), fun q hq => va_Nw.of rfl (hts _ (zNm_t q hq))⟩, ⟨hZ, hT⟩, ⟨hC, hQ, hO1, hO2⟩, ?_, ?_⟩⟩
  · intro i q hq
    have hi : i < 3 := (List.getElem?_eq_some_iff.mp hq).1
    rcases (show i = 0 ∨ i = 1 ∨ i = 2 by omega) with rfl | rfl | rfl <;> cases hq
    · exact vk_R.of (hts (.stringRef "GlassesOfRue" 52 "runs 1 + rue ; clogs 0 ; rues 1 ;") (List.mem_append_right _ (List.mem_of_getElem? (i := 177) (by decide +kernel)))) (hK 0 (by decide))
    · exact vk_R.of (hts (.stringRef "GlassesOfRue$Tape" 92 "rue number wet day had most runs clogs rues or and not ") (List.mem_append_right _ (List.mem_of_getElem? (i := 262) (by decide +kernel)))) (hK 1 (by decide))
    · exact vk_R.of (hts (.stringRef "GlassesOfRue$Tape" 80 "();+-*<=") (List.mem_append_right _ (List.mem_of_getElem? (i := 265) (by decide +kernel)))) (hK 2 (by decide))
  · refine ⟨fun i hi => ?_, fun i j hi hj h => ?_⟩
    · have e1 : (fun i : Nat => if 1 + i = 0 then t else if 1 + i < 4 then adK (1 + i - 1) else adV (1 + i - 4)) i = adK i := by
        show (if 1 + i = 0 then t else if 1 + i < 4 then adK (1 + i - 1) else adV (1 + i - 4)) = adK i
        rw [if_neg (by omega), if_pos (by omega), show 1 + i - 1 = i by omega]
      have e2 : (fun i : Nat => if 4 + i = 0 then t else if 4 + i < 4 then adK (4 + i - 1) else adV (4 + i - 4)) i = adV i := by
        show (if 4 + i = 0 then t else if 4 + i < 4 then adK (4 + i - 1) else adV (4 + i - 4)) = adV i
        rw [if_neg (by omega), if_neg (by omega), show 4 + i - 4 = i by omega]
      have h := hS.1 i hi
      rw [← e1, ← e2] at h
      exact h
    · have f : ∀ k, k < 3 → (if 1 + k = 0 then t else if 1 + k < 4 then adK (1 + k - 1) else adV (1 + k - 4)) = adK k := fun k hk => by
        rw [if_neg (by omega), if_pos (by omega), show 1 + k - 1 = k by omega]
      exact hS.2 i j hi hj (by rw [← f i hi, ← f j hj]; exact h)
/-- the classes of arrays -/
theorem law_arr {s : State} {b : Nat} (hts : ∀ w ∈ lw_tbl, w.before #[Value.ref b] s = true) (D : va_G) (hc : ∀ (k : Nat) (q : vw_C), zcl[k]? = some q → u_Kn s q.1 q.2.1 q.2.2 (D.1 k) (D.2 k)) : ∃ ca : Nat → ClassId, va_K D zcl (ztys2 ca) s := by
  have prim : ∀ ty : FieldType, (Cond.arrayClass ty).before #[Value.ref b] s = true → (∀ C, ty ≠ .object C) → (∀ t, ty ≠ .array t) → ∃ c, ArrOfT s c ty ∧ va_RA s c ty := by
    intro ty h hn1 hn2
    obtain ⟨c, k, comp, h1, h2, h3⟩ := Cond.arrayClass_spec h
    refine ⟨c, fun n z => ⟨?_, k, h2, comp, h3⟩, ?_⟩
    · first | (intro q hq; cases hq) | simp [arrV]
    · cases ty <;> first | exact h1 | exact absurd rfl (hn1 _)
  have obj : ∀ C : String, va_AO C s → ∃ c, ArrOfT s c (.object C) ∧ va_RA s c (.object C) := by
    intro C h
    obtain ⟨comp, c, k, h1, h2, h3, h4, h5⟩ := Cond.arrayOver_spec (args := #[Value.ref b]) (first := s) (o := none) (idx := []) (va_AO.use h)
    refine ⟨c, fun n z => ⟨?_, k, h3, comp, h4⟩, k, comp, h3, h4, h1, h5⟩
    first | (intro q hq; cases hq) | simp [arrV]
  obtain ⟨c0, a0, b0⟩ := prim .int (hts (.arrayClass .int) (List.mem_append_right _ (List.mem_of_getElem? (i := 64) (by decide +kernel)))) (by intro C h; cases h) (by intro C h; cases h)
  obtain ⟨c1, a1, b1⟩ := prim .long (hts (.arrayClass .long) (List.mem_append_right _ (List.mem_of_getElem? (i := 93) (by decide +kernel)))) (by intro C h; cases h) (by intro C h; cases h)
  obtain ⟨c2, a2, b2⟩ := prim .boolean (hts (.arrayClass .boolean) (List.mem_append_right _ (List.mem_of_getElem? (i := 870) (by decide +kernel)))) (by intro C h; cases h) (by intro C h; cases h)
  obtain ⟨c3, a3, b3⟩ := obj "GlassesOfRue$Text" (va_AO.of (hts (.arrayOver (.object "GlassesOfRue$Text")) (List.mem_append_right _ (List.mem_of_getElem? (i := 26) (by decide +kernel)))))
  obtain ⟨c4, a4, b4⟩ := obj "GlassesOfRue$Sheet" (va_AO.of (hts (.arrayOver (.object "GlassesOfRue$Sheet")) (List.mem_append_right _ (List.mem_of_getElem? (i := 143) (by decide +kernel)))))
  refine ⟨fun k => if k = 0 then c0 else if k = 1 then c1 else if k = 2 then c2 else if k = 3 then c3 else c4, hc, fun k q hq => ?_⟩
  have hk : k < 5 := (List.getElem?_eq_some_iff.mp hq).1
  rcases (show k = 0 ∨ k = 1 ∨ k = 2 ∨ k = 3 ∨ k = 4 by omega) with rfl | rfl | rfl | rfl | rfl <;> cases hq
  · exact ⟨a0, b0⟩
  · exact ⟨a1, b1⟩
  · exact ⟨a2, b2⟩
  · exact ⟨a3, b3⟩
  · exact ⟨a4, b4⟩
theorem law_classes {s : State} {b : Nat} (hts : ∀ w ∈ lw_tbl, w.before #[Value.ref b] s = true) : ∃ D : va_G, ∀ (k : Nat) (q : vw_C), zcl[k]? = some q → u_Kn s q.1 q.2.1 q.2.2 (D.1 k) (D.2 k) := by
  have hz : ∀ w ∈ zT, w.before #[Value.ref b] s = true := fun w hw => hts w (zT_sub hw)
  obtain ⟨c0, i0, k0⟩ := u_known (C := RX0) (T := TX0) (N := 3) (n := 3) hz uw_X0 (hts (.instantiable RX0 3) (List.mem_append_right _ (List.mem_of_getElem? (i := 159) (by decide +kernel))))
  obtain ⟨c1, i1, k1⟩ := u_known (C := RX1) (T := TX1) (N := 7) (n := 7) hz uw_X1 (hts (.instantiable RX1 7) (List.mem_append_right _ (List.mem_of_getElem? (i := 66) (by decide +kernel))))
  obtain ⟨c2, i2, k2⟩ := u_known (C := RX2) (T := TX2) (N := 9) (n := 9) hz uw_X2 (hts (.instantiable RX2 9) (List.mem_append_right _ (List.mem_of_getElem? (i := 28) (by decide +kernel))))
  obtain ⟨c3, i3, k3⟩ := u_known (C := RX3) (T := TX3) (N := 3) (n := 3) hz uw_X3 (hts (.instantiable RX3 3) (List.mem_append_right _ (List.mem_of_getElem? (i := 144) (by decide +kernel))))
  obtain ⟨c4, i4, k4⟩ := u_known (C := RX4) (T := TX4) (N := 11) (n := 11) hz uw_X4 (hts (.instantiable RX4 11) (List.mem_append_right _ (List.mem_of_getElem? (i := 95) (by decide +kernel))))
  obtain ⟨c5, i5, k5⟩ := u_known (C := RX5) (T := TX5) (N := 9) (n := 9) hz uw_X5 (hts (.instantiable RX5 9) (List.mem_append_right _ (List.mem_of_getElem? (i := 18) (by decide +kernel))))
  obtain ⟨c6, i6, k6⟩ := u_known (C := RX6) (T := TX6) (N := 51) (n := 51) hz uw_X6 (hts (.instantiable RX6 51) (List.mem_append_right _ (List.mem_of_getElem? (i := 707) (by decide +kernel))))
  refine ⟨(fun k => if k = 0 then c0 else if k = 1 then c1 else if k = 2 then c2 else if k = 3 then c3 else if k = 4 then c4 else if k = 5 then c5 else c6, fun k => if k = 0 then i0 else if k = 1 then i1 else if k = 2 then i2 else if k = 3 then i3 else if k = 4 then i4 else if k = 5 then i5 else i6), fun k q hq => ?_⟩
  have hk : k < 7 := (List.getElem?_eq_some_iff.mp hq).1
  rcases (show k = 0 ∨ k = 1 ∨ k = 2 ∨ k = 3 ∨ k = 4 ∨ k = 5 ∨ k = 6 by omega) with rfl | rfl | rfl | rfl | rfl | rfl | rfl <;> cases hq
  · exact k0
  · exact k1
  · exact k2
  · exact k3
  · exact k4
  · exact k5
  · exact k6

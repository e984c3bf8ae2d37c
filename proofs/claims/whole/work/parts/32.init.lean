theorem mw_697 : Cond.methodLink RX5 1 objectInit ∈ zT := zT_in (List.mem_append_right _ (List.mem_of_getElem? (i := 22) (by decide +kernel))) (by decide +kernel)
theorem mw_698 : Cond.classLink RX5 9 "GlassesOfRue$Text" ∈ zT := zT_in (List.mem_append_right _ (List.mem_of_getElem? (i := 25) (by decide +kernel))) (by decide +kernel)
theorem mw_699 : Cond.classLink RX5 15 RX2 ∈ zT := zT_in (List.mem_append_right _ (List.mem_of_getElem? (i := 27) (by decide +kernel))) (by decide +kernel)
theorem mw_700 : Cond.instantiable RX2 9 ∈ zT := zT_in (List.mem_append_right _ (List.mem_of_getElem? (i := 28) (by decide +kernel))) (by decide +kernel)
theorem mw_701 : Cond.code yX2_init cX2_init 1 none ∈ zT := zT_in (List.mem_append_right _ (List.mem_of_getElem? (i := 31) (by decide +kernel))) (by decide +kernel)
theorem mw_702 : Cond.instanceMethod yX2_init ∈ zT := zT_in (List.mem_append_right _ (List.mem_of_getElem? (i := 30) (by decide +kernel))) (by decide +kernel)
theorem mw_703 : Cond.classLink RX5 22 RX1 ∈ zT := zT_in (List.mem_append_right _ (List.mem_of_getElem? (i := 65) (by decide +kernel))) (by decide +kernel)
theorem mw_704 : Cond.instantiable RX1 7 ∈ zT := zT_in (List.mem_append_right _ (List.mem_of_getElem? (i := 66) (by decide +kernel))) (by decide +kernel)
theorem mw_705 : Cond.code yX1_init cX1_init 1 none ∈ zT := zT_in (List.mem_append_right _ (List.mem_of_getElem? (i := 69) (by decide +kernel))) (by decide +kernel)
theorem mw_706 : Cond.instanceMethod yX1_init ∈ zT := zT_in (List.mem_append_right _ (List.mem_of_getElem? (i := 68) (by decide +kernel))) (by decide +kernel)
theorem mw_707 : Cond.classLink RX5 29 RX4 ∈ zT := zT_in (List.mem_append_right _ (List.mem_of_getElem? (i := 94) (by decide +kernel))) (by decide +kernel)
theorem mw_708 : Cond.instantiable RX4 11 ∈ zT := zT_in (List.mem_append_right _ (List.mem_of_getElem? (i := 95) (by decide +kernel))) (by decide +kernel)
theorem mw_709 : Cond.code yX4_init cX4_init 2 none ∈ zT := zT_in (List.mem_append_right _ (List.mem_of_getElem? (i := 98) (by decide +kernel))) (by decide +kernel)
theorem mw_710 : Cond.methodLink RX5 31 yX4_init ∈ zT := zT_in (List.mem_append_right _ (List.mem_of_getElem? (i := 96) (by decide +kernel))) (by decide +kernel)
theorem mw_711 : Cond.instanceMethod yX4_init ∈ zT := zT_in (List.mem_append_right _ (List.mem_of_getElem? (i := 97) (by decide +kernel))) (by decide +kernel)
theorem mw_712 : Cond.classLink RX5 44 "GlassesOfRue$Sheet" ∈ zT := zT_in (List.mem_append_right _ (List.mem_of_getElem? (i := 142) (by decide +kernel))) (by decide +kernel)
theorem mw_713 : Cond.classLink RX5 9 RX3 ∈ zT := zT_in (List.mem_append_right _ (List.mem_of_getElem? (i := 25) (by decide +kernel))) (by decide +kernel)
theorem mw_714 : Cond.instantiable RX3 3 ∈ zT := zT_in (List.mem_append_right _ (List.mem_of_getElem? (i := 144) (by decide +kernel))) (by decide +kernel)
theorem mw_715 : Cond.code yX3_init cX3_init 1 none ∈ zT := zT_in (List.mem_append_right _ (List.mem_of_getElem? (i := 147) (by decide +kernel))) (by decide +kernel)
theorem mw_716 : Cond.instanceMethod yX3_init ∈ zT := zT_in (List.mem_append_right _ (List.mem_of_getElem? (i := 146) (by decide +kernel))) (by decide +kernel)
theorem mw_717 : Cond.classLink RX5 44 RX0 ∈ zT := zT_in (List.mem_append_right _ (List.mem_of_getElem? (i := 142) (by decide +kernel))) (by decide +kernel)
theorem mw_718 : Cond.instantiable RX0 3 ∈ zT := zT_in (List.mem_append_right _ (List.mem_of_getElem? (i := 159) (by decide +kernel))) (by decide +kernel)
theorem mw_719 : Cond.code yX0_init cX0_init 1 none ∈ zT := zT_in (List.mem_append_right _ (List.mem_of_getElem? (i := 162) (by decide +kernel))) (by decide +kernel)
theorem mw_720 : Cond.instanceMethod yX0_init ∈ zT := zT_in (List.mem_append_right _ (List.mem_of_getElem? (i := 161) (by decide +kernel))) (by decide +kernel)
theorem mw_721 : Cond.methodLink RX5 54 yJ0_length_8abf5 ∈ zT := zT_in (List.mem_append_right _ (List.mem_of_getElem? (i := 178) (by decide +kernel))) (by decide +kernel)
theorem mw_722 : Cond.methodLink RX5 68 yX5_text ∈ zT := zT_in (List.mem_append_right _ (List.mem_of_getElem? (i := 230) (by decide +kernel))) (by decide +kernel)
theorem mw_723 : Cond.code yX5_text cX5_text 2 (some .int) ∈ zT := zT_in (List.mem_append_right _ (List.mem_of_getElem? (i := 233) (by decide +kernel))) (by decide +kernel)
theorem mw_724 : Cond.instanceMethod yX5_text ∈ zT := zT_in (List.mem_append_right _ (List.mem_of_getElem? (i := 231) (by decide +kernel))) (by decide +kernel)
theorem mw_725 : Cond.selects RX5 yX5_text yX5_text ∈ zT := zT_in (List.mem_append_right _ (List.mem_of_getElem? (i := 232) (by decide +kernel))) (by decide +kernel)
theorem mw_726 : Cond.methodLink RX5 60 yJ0_charAt_5068e ∈ zT := zT_in (List.mem_append_right _ (List.mem_of_getElem? (i := 188) (by decide +kernel))) (by decide +kernel)
theorem mw_727 : Cond.methodLink RX6 1 objectInit ∈ zT := zT_in (List.mem_append_right _ (List.mem_of_getElem? (i := 711) (by decide +kernel))) (by decide +kernel)
theorem mw_728 : Cond.arrayClass .boolean ∈ zT := zT_in (List.mem_append_right _ (List.mem_of_getElem? (i := 870) (by decide +kernel))) (by decide +kernel)
theorem lk_X5_54 : zLk RX5 54 yJ0_length_8abf5 cJ0_length_8abf5 1 (some .int) := ⟨mw_721, mw_39, mw_40, mw_4, mw_38⟩
theorem lk_X5_68 : zLk RX5 68 yX5_text cX5_text 2 (some .int) := ⟨mw_722, mw_724, mw_725, mw_51, mw_723⟩
theorem lk_X5_60 : zLk RX5 60 yJ0_charAt_5068e cJ0_charAt_5068e 2 (some .char) := ⟨mw_726, mw_190, mw_191, mw_4, mw_189⟩
theorem ds_X5_text : zDs yX5_text 0 := ⟨by decide +kernel, by decide +kernel, by decide +kernel⟩
/-! from a made world to the numbers -/
theorem zP_fix {D : va_G} {cl : List vw_C} {ws : va_W} {H : Heap} (h : va_P D cl ws H) (p : Nat) {a : Nat} {e : va_E} (he : va_at D cl (a, e) H) : va_P D cl (ws.set p (a, e)) H := by
  intro k q hk
  by_cases hkp : k = p
  · subst hkp
    have hl : k < ws.length := by
      have := (List.getElem?_eq_some_iff.mp hk).1
      simpa using this
    rw [List.getElem?_set_self hl] at hk
    cases hk
    exact he
  · rw [List.getElem?_set_ne (Ne.symm hkp)] at hk
    exact h k q hk
theorem zat_q {D : va_G} {cl : List vw_C} {a cA n : Nat} {f g : Nat → Option Nat} {H : Heap} (h : va_at D cl (a, .inl (cA, n, .inr (.inr (.inr (.inr f))))) H) (hfg : ∀ j, j < n → f j = g j) : va_at D cl (a, .inl (cA, n, .inr (.inr (.inr (.inr g))))) H := by
  have e : arrV cA n (fun j => va_rf (f j)) = arrV cA n (fun j => va_rf (g j)) := by
    unfold arrV
    congr 1
    apply Array.ext
    · simp
    · intro i h1 h2
      simp only [Array.getElem_ofFn]
      rw [hfg i (by simpa using h1)]
  show H[a]? = some (arrV cA n (fun j => va_rf (g j)))
  rw [← e]
  exact h
theorem zJ_of {G : zGr} {sh : Nat → zSh} {N : Nat} {M : zM} {A : Nat → Prop} (h : va_D A (zw G sh N M)) : zJ G N := fun i j hi hj e => h.1 i j _ _ (zw_get G sh M hi) (zw_get G sh M hj) e
theorem zAd_of {G : zGr} {sh : Nat → zSh} {N : Nat} {M : zM} {A : Nat → Prop} (h : va_D A (zw G sh N M)) : ∀ i, i < N → A (G.2.2.1 i) := fun i hi => h.2 i _ (zw_get G sh M hi)
theorem zAA {D : va_G} {ca : Nat → ClassId} {ad sa : Nat → Nat} {A : Nat → Prop} {a sz N : Nat} {e : va_E} (hA : A = va_A [(a, e)] sz) (h0 : ad 0 = a) (hN : 0 < N) (h : ∀ i, i < N → A (ad i)) : A = zA (D, ca, ad, sa) N sz := by
  funext q
  apply propext
  constructor
  · intro hq
    rw [hA] at hq
    rcases hq with ⟨k, e', hk⟩ | hq
    · cases k with
      | zero => simp at hk; exact Or.inl ⟨0, hN, by rw [← hk.1]; exact h0.symm⟩
      | succ k => simp at hk
    · exact Or.inr hq
  · intro hq
    rcases hq with ⟨i, hi, rfl⟩ | hq
    · exact h i hi
    · rw [hA]; exact Or.inr hq
theorem zAs {D : va_G} {ca : Nat → ClassId} {ad sa : Nat → Nat} {A : Nat → Prop} {a sz N : Nat} {e : va_E} (hA : A = va_A [(a, e)] sz) (h0 : ad 0 = a) (hJ : zJ (D, ca, ad, sa) N) (h : ∀ i, i < N → A (ad i)) : ∀ i, i < N → 0 < i → sz ≤ ad i := by
  intro i hi h1
  have hq := h i hi
  rw [hA] at hq
  rcases hq with ⟨k, e', hk⟩ | hq
  · cases k with
    | zero =>
      simp at hk
      have : i = 0 := hJ i 0 hi (by omega) (by show ad i = ad 0; rw [h0, ← hk.1])
      omega
    | succ k => simp at hk
  · exact hq
/-! growing worlds whose finished part is a name -/
theorem zP_mem {D : va_G} {cl : List vw_C} {ws : va_W} {H : Heap} : va_P D cl ws H ↔ ∀ q, q ∈ ws → va_at D cl q H :=
  ⟨fun h q hq => by obtain ⟨k, hk⟩ := List.getElem?_of_mem hq; exact h k q hk, fun h k q hk => h q (List.mem_of_getElem? hk)⟩
theorem zP_perm {D : va_G} {cl : List vw_C} {ws ws' : va_W} {H : Heap} (hp : ws.Perm ws') (h : va_P D cl ws H) : va_P D cl ws' H := zP_mem.mpr fun q hq => zP_mem.mp h q (hp.mem_iff.mpr hq)
theorem zD_cons {A : Nat → Prop} {c : Nat × va_E} {ws : va_W} : va_D A (c :: ws) ↔ A c.1 ∧ (∀ q, q ∈ ws → q.1 ≠ c.1) ∧ va_D A ws := by
  constructor
  · intro h
    refine ⟨h.2 0 c rfl, fun q hq e => ?_, fun i j p q hi hj e => ?_, fun k q hk => h.2 (k + 1) q (by simpa using hk)⟩
    · obtain ⟨k, hk⟩ := List.getElem?_of_mem hq
      have := h.1 (k + 1) 0 q c (by simpa using hk) rfl e
      omega
    · have := h.1 (i + 1) (j + 1) p q (by simpa using hi) (by simpa using hj) e
      omega
  · rintro ⟨h1, h2, h3⟩
    refine ⟨fun i j p q hi hj e => ?_, fun k q hk => ?_⟩
    · cases i with
      | zero =>
        cases j with
        | zero => rfl
        | succ j =>
          simp at hi hj
          subst hi
          exact absurd e.symm (h2 q (List.mem_of_getElem? hj))
      | succ i =>
        cases j with
        | zero =>
          simp at hi hj
          subst hj
          exact absurd e (h2 p (List.mem_of_getElem? hi))
        | succ j =>
          simp at hi hj
          rw [h3.1 i j p q hi hj e]
    · cases k with
      | zero => simp at hk; subst hk; exact h1
      | succ k => simp at hk; exact h3.2 k q hk
theorem zD_perm {A : Nat → Prop} {ws ws' : va_W} (hp : ws.Perm ws') : va_D A ws → va_D A ws' := by
  induction hp with
  | nil => exact id
  | cons x hp ih =>
    intro h
    obtain ⟨h1, h2, h3⟩ := zD_cons.mp h
    exact zD_cons.mpr ⟨h1, fun q hq => h2 q (hp.mem_iff.mpr hq), ih h3⟩
  | swap x y l =>
    intro h
    obtain ⟨h1, h2, h3⟩ := zD_cons.mp h
    obtain ⟨g1, g2, g3⟩ := zD_cons.mp h3
    refine zD_cons.mpr ⟨g1, fun q hq => ?_, zD_cons.mpr ⟨h1, fun q hq => h2 q (List.mem_cons_of_mem _ hq), g3⟩⟩
    rcases List.mem_cons.mp hq with rfl | hq
    · exact fun e => h2 _ List.mem_cons_self e.symm
    · exact g2 q hq
  | trans _ _ ih1 ih2 => exact fun h => ih2 (ih1 h)
theorem zsw (P A B C : va_W) : (P ++ (A ++ (B ++ C))).Perm (P ++ (B ++ (A ++ C))) := List.Perm.append_left P (by rw [← List.append_assoc, ← List.append_assoc]; exact List.Perm.append_right C List.perm_append_comm)
theorem zfr (ws : va_W) (c : Nat × va_E) : (ws ++ [c]).Perm (c :: ws) := List.perm_append_comm (l₁ := ws) (l₂ := [c])
/-- behind a constructor of the first cell -/
theorem zP_call {D : va_G} {cl : List vw_C} {A0 : Nat → Prop} {q : Nat} {e : va_E} {ws w1 : va_W} {H H1 : Heap} (hP : va_P D cl ((q, e) :: ws) H) (hD : va_D A0 ((q, e) :: ws)) (hk : ∀ r : Nat, r < H.size → ¬ va_A [(q, e)] H.size r → H1[r]? = H[r]?) (hF : ∀ r, va_A [(q, e)] H.size r → A0 r) (hP1 : va_P D cl w1 H1) (hD1 : va_D (va_A [(q, e)] H.size) w1) : va_P D cl (w1 ++ ws) H1 ∧ va_D A0 (w1 ++ ws) := by
  obtain ⟨d1, d2, d3⟩ := zD_cons.mp hD
  have hlt : ∀ x, x ∈ ws → x.1 < H.size := fun x hx => (zP_mem.mp hP x (List.mem_cons_of_mem _ hx)).lt
  have hne : ∀ x, x ∈ ws → ¬ va_A [(q, e)] H.size x.1 := by
    intro x hx h
    rcases h with ⟨k, e', h⟩ | h
    · cases k with
      | zero => simp at h; exact d2 x hx h.1.symm
      | succ k => simp at h
    · have := hlt x hx; omega
  refine ⟨hP1.app (zP_mem.mpr fun x hx => (zP_mem.mp hP x (List.mem_cons_of_mem _ hx)).kept (hk _ (hlt x hx) (hne x hx))), (hD1.weaken (fun _ _ _ h => hF _ h)).app d3 (fun i j x y hx hy exy => ?_)⟩
  exact hne y (List.mem_of_getElem? hy) (by rw [← exy]; exact hD1.2 i x hx)
theorem zPz {D : va_G} {ca : Nat → ClassId} {ad sa : Nat → Nat} {sh : Nat → zSh} {N : Nat} {M : zM} {H : Heap} (h : ∀ i, i < N → va_at D zcl (ad i, zcell (D, ca, ad, sa) M i (sh i)) H) : va_P D zcl (zw (D, ca, ad, sa) sh N M) H := by
  intro k q hq
  have hl : k < N := by simpa [zw] using (List.getElem?_eq_some_iff.mp hq).1
  rw [zw_get (D, ca, ad, sa) sh M hl] at hq
  cases hq
  exact h k hl
def oX6 (rs : List Nat) : List Value := [.int 0, .int 0, .int 0, va_rf rs[0]?, va_rf rs[1]?, va_rf rs[2]?, va_rf rs[3]?, .int 0, .int 0, va_rf rs[4]?, .int 0, va_rf rs[5]?, va_rf rs[6]?, va_rf rs[7]?, .int 0, .int 0, .int 0, .int 0, .int 0, .int 0, va_rf rs[8]?, .int 0, .int 0, .int 0, .int 0, .int 0, va_rf rs[9]?, va_rf rs[10]?, .int 0, .int 0, va_rf rs[11]?, va_rf rs[12]?, va_rf rs[13]?, .int 0, .int 0, .int 0, va_rf rs[14]?, va_rf rs[15]?, .int 0, .int 0, .int 0, .int 0, .int 0, .int 0, .int 0, va_rf rs[16]?, va_rf rs[17]?, va_rf rs[18]?, va_rf rs[19]?, va_rf rs[20]?, va_rf rs[21]?]

/-! texts: not, -, brackets; all depths -/
theorem Res_to {z : Nat} {b : Nat → Int32} {T : zTk} {q : Int32} {base k kL : Nat} {PO post : Nat → Nat → Nat → Prop} {i j : Nat} {K C W : List Int32} {cmp : Nat} {M MM0 : zM} {E : List Int32} (hk : kL ≤ k) (hW : tpl k W) (h : Aft z b T q base k PO i j K C W cmp M MM0 E) (hp : ∀ c, PO (tk T j) cmp c → post (tk T j) cmp c) : Res z b T q base kL post i j K C W cmp M MM0 1 := by
  obtain ⟨MM', C', W', cmp', st', a1, a2, a3, a4, a5, a6, a7, a8, a9, a10⟩ := h
  exact Or.inl ⟨rfl, E, MM', C', W', cmp', st', a1, a2, a3, lay_eq hk (a4.trans (lay_tpl hW _).symm), a5, a6, a7, a8, a9, hp _ a10⟩
/-- a sign ahead of what has been read -/
theorem un_res {z : Nat} {b : Nat → Int32} {T : zTk} {q : Int32} {base kL : Nat} {PO post : Nat → Nat → Nat → Prop} {i j : Nat} {K C W : List Int32} {cmp : Nat} {M2 MM MM1 : zM} {s : Int32} (hK : K.length ≤ i) (hs : kL ≤ rkS s) (hd : 30000 ≤ dM s) (hc : 0 ≤ s ∧ s < 10015) (hrun : runs q i (i + 1) MM MM1) (hF : rF base MM MM1) (h : ∃ E MM' C' W' cmp' st', cSt z b T M2 j (K ++ E.map dM) ∧ rSt z b T MM' j base C' W' cmp' 1 st' ∧ st' ≤ 1 ∧ lay kL W' C' = lay kL (s :: W) (C ++ E) ∧ runs q (i + 1) j MM1 MM' ∧ rF base MM1 MM' ∧ (i + 1 < j ∧ i + 1 + E.length ≤ j ∧ j ≤ 160) ∧ gWf E ∧ gCd E ∧ PO (tk T j) cmp cmp') (hp : ∀ c, PO (tk T j) cmp c → post (tk T j) cmp c) : ∃ M3, fX2_emit (dM s) M2 = some M3 ∧ cF M2 M3 ∧ Res z b T q base kL post i j K C W cmp M3 MM 1 := by
  obtain ⟨E, MM', C', W', cmp', st', a1, a2, a3, a4, a5, a6, a7, a8, a9, a10⟩ := h
  have hlen : (K ++ E.map dM).length < 160 := by
    simp only [List.length_append, List.length_map]
    omega
  obtain ⟨M3, e1, e2, e3⟩ := emit_e a1 hlen (dM s)
  refine ⟨M3, e1, e3, Or.inl ⟨rfl, E ++ [s], MM', C', W', cmp', st', ?_, a2, a3, ?_, runs_trans hrun a5, rF_trans hF a6, ⟨by omega, ?_, a7.2.2⟩, gWf_un a8 hd, gCd_app a9 (gCd_1 hc), hp _ a10⟩⟩
  · rw [List.map_append, ← List.append_assoc]
    exact e2
  · rw [a4, lay_cons, if_pos hs, List.append_assoc]
  · simp only [List.length_append, List.length_cons, List.length_nil]
    omega
theorem den_rd {z : Nat} {b : Nat → Int32} {T : zTk} (hX : hNX z b T) (hN : hNM z b T) (hT : okTk T) {q : Int32} {base o : Nat} (ho : o ≤ 5) {gD gS : Int32 → zM → Option (Int32 × zM)} (hgD : o < 5 → Rd z b T q base gD (o + 1) 3 pDen qDen) (hgS : Rd z b T q base gS o 5 pSum qSum) : Rd z b T q base (fX2_readDenied gD gS) o 3 pDen qDen := by
  intro i K M MM C W cmp st hc hK hr hst hop hp
  obtain ⟨p1, p2, p3⟩ := hp
  subst p2 p3
  have h6 : M.1 2 6 = nI (tk T i) := hc.1.2.2.2.2.1
  unfold fX2_readDenied
  by_cases h9 : tk T i = 9
  · rw [if_pos ((tk_c hT h6 (x := 9) (n := 9) rfl (by omega)).mpr h9)]
    by_cases h5 : o < 5
    · rw [if_pos (by rw [show (5 : Int32) = nI 5 from rfl, nI_ltI (by omega) (by omega)]; exact h5)]
      obtain ⟨M1, n1, n2, n3⟩ := cSt_next hX hc (by omega)
      obtain ⟨MM1, r1, r2, r3⟩ := sOpen hN hT q hr (by omega) (Or.inl ⟨h9, rfl⟩) (by omega)
      rw [if_pos h9, if_neg (show ¬ tk T i = 40 by omega), if_neg (show ¬ tk T i = 45 by omega)] at r2
      obtain ⟨r', M2, j, g1, g2, g3⟩ := hgD h5 (i + 1) K M1 MM1 C (13 :: W) 0 1 n2 (by have := (hT i).2.2.2 (by omega); omega) r2 (by omega) (by show opn W + 1 = o + 1; omega) ⟨tpl_cons (by decide) W, rfl, rfl⟩
      rw [zV_s n1, nI_1, zB_s g1]
      rcases g3 with ⟨e1, E, hE⟩ | ⟨e1, K', f1, f2⟩
      · obtain ⟨M3, t1, t2, t3⟩ := un_res (post := qDen) hK.1 (s := 13) (by decide) (by decide) (by decide) r1 r3 ⟨E, hE⟩ (fun c h => h)
        have t1' : fX2_emit (30001 : Int32) M2 = some M3 := t1
        rw [zV_s t1', e1, zG_t zbo_1]
        exact ⟨1, M3, j, rfl, cF_trans (cF_trans n3 g2) t2, t3⟩
      · obtain ⟨M3, K3, t1, t2, t3⟩ := emit_any f1 (30001 : Int32)
        rw [zV_s t1, e1, zG_t zbo_0]
        exact ⟨0, M3, j, rfl, cF_trans (cF_trans n3 g2) t3, Or.inr ⟨rfl, K3, t2, runs_fails r1 r3 f2⟩⟩
    · rw [if_neg (by rw [show (5 : Int32) = nI 5 from rfl, nI_ltI (by omega) (by omega)]; exact h5)]
      exact ⟨0, M, i, rfl, cF_refl _, Or.inr ⟨rfl, K, hc, fOne hT q hr (by omega) (by omega) (by omega) (Or.inr (by omega)) hK.2⟩⟩
  · rw [if_neg (fun e => h9 ((tk_c hT h6 (x := 9) (n := 9) rfl (by omega)).mp e))]
    obtain ⟨r', M1, j, g1, g2, g3⟩ := hgS i K M MM C W 0 1 hc hK hr (by omega) hop ⟨tpl_mono p1 (by omega), Or.inr h9⟩
    rw [zB_s g1]
    rcases Aft_of (k := 4) (by omega) p1 g3 with ⟨e1, E, hA⟩ | ⟨e1, hF⟩
    rotate_left
    · rw [e1, if_pos rfl, zG_t zbo_0]
      exact ⟨0, M1, j, rfl, g2, Or.inr ⟨rfl, hF⟩⟩
    rw [e1, if_neg (show ¬ (1 : Int32) = 0 by decide)]
    obtain ⟨b1, b2, b3, b4, cc, b5⟩ := Aft_len hA hK.1
    have J : ∀ t : Nat, tk T j = t → (t = 60 ∨ t = 61) → ∃ r M' j', fX2_readDenied_J65 gD gS (nI o) M1 = some (r, M') ∧ cF M1 M' ∧ Res z b T q base 3 qDen i j' K C W 0 M' MM r := by
      intro t hno ht
      obtain ⟨s, hs1, hs2, hs3, hs4, hs5, hs6⟩ : ∃ s : Int32, sgT t 0 = s ∧ s ≠ -1 ∧ rkS s = 4 ∧ dM s = 20000 + nI t ∧ (20000 ≤ dM s ∧ dM s < 30000) ∧ (0 ≤ s ∧ s < 10015) ∧ opS s = 0 := by
        rcases ht with rfl | rfl
        · exact ⟨9, rfl, by decide, by decide, by decide, by decide, by decide, by decide⟩
        · exact ⟨10, rfl, by decide, by decide, by decide, by decide, by decide, by decide⟩
      obtain ⟨M2, MM1, cmp', s1, s2, s3, s4, s5, s6, s7⟩ := bin_step hX hN hT hA (s := s) (fun c h => by
        have hc0 : c = 0 := h.1
        rw [hno, hc0]; exact hs1) hs2 hs3 (by omega) (by omega)
      obtain ⟨r2, M3, j2, g1', g2', g3'⟩ := hgS (j + 1) _ M2 MM1 _ _ _ _ s3 ⟨b1, by have := (hT j).2.2.2 (by omega); omega⟩ s4 (by decide) (by show opn W + opS s = o; rw [hs6.2]; exact hop) ⟨tpl_cons (by omega) W, Or.inl (by decide)⟩
      unfold fX2_readDenied_J65
      rw [b4, hno, zL_r, zV_s s1, zB_s g1', ← hs4]
      rcases g3' with ⟨e2, E2, hE2⟩ | ⟨e2, K', f1, f2⟩
      · obtain ⟨M4, E3, t1, t2, t3⟩ := bin_aft (PO3 := qDen) hA hK.1 (s := s) hs3 (by omega) p1 s5 s6 ⟨E2, hE2⟩ (fun c hq => ⟨hq.2.1, hq.2.2.1, hq.2.2.2, fun _ => hq.1⟩) hs5.1 hs5.2 hs6.1
        rw [zV_s t1, e2, zG_t zbo_1]
        exact ⟨1, M4, j2, rfl, cF_trans (cF_trans s2 g2') t2, Res_to (by omega) p1 t3 (fun c h => h)⟩
      · obtain ⟨M4, K3, t1, t2, t3⟩ := emit_any f1 (dM s)
        rw [zV_s t1, e2, zG_t zbo_0]
        exact ⟨0, M4, j2, rfl, cF_trans (cF_trans s2 g2') t3, Or.inr ⟨rfl, K3, t2, runs_fails s5 s6 f2⟩⟩
    by_cases hno : tk T j = 60
    · rw [if_pos ((tk_c hT b4 (x := 60) (n := 60) rfl (by omega)).mpr hno)]
      obtain ⟨r, M', j', l1, l2, l3⟩ := J 60 hno (Or.inl rfl)
      exact ⟨r, M', j', l1, cF_trans g2 l2, l3⟩
    rw [if_neg (fun e => hno ((tk_c hT b4 (x := 60) (n := 60) rfl (by omega)).mp e))]
    by_cases hno2 : tk T j = 61
    · rw [if_pos ((tk_c hT b4 (x := 61) (n := 61) rfl (by omega)).mpr hno2)]
      obtain ⟨r, M', j', l1, l2, l3⟩ := J 61 hno2 (Or.inr rfl)
      exact ⟨r, M', j', l1, cF_trans g2 l2, l3⟩
    rw [if_neg (fun e => hno2 ((tk_c hT b4 (x := 61) (n := 61) rfl (by omega)).mp e)), zG_t zbo_1]
    exact ⟨1, M1, j, rfl, g2, Res_to (by omega) p1 hA (fun c hq => ⟨hq.2.1, hq.2.2.1, hq.2.2.2, fun e => by omega⟩)⟩
theorem cOne_d {T : zTk} (hT : okTk T) {i : Nat} (hk : tk T i = 2 ∨ tk T i = 3) : dM (cOne T i) = (if tk T i = 2 then nI (tv T i) else nI (10000 + tv T i)) ∧ (0 ≤ dM (cOne T i) ∧ dM (cOne T i) < 10006) ∧ (0 ≤ cOne T i ∧ cOne T i < 10015) := by
  obtain ⟨-, k2, k3, -⟩ := hT i
  unfold cOne
  rcases hk with hk | hk
  · have hv := k2 hk
    have e : dM (nI (15 + tv T i)) = nI (tv T i) := by rw [dM_num (by omega) (by omega), Nat.add_sub_cancel_left]
    rw [if_pos hk, if_pos hk, e, show (10006 : Int32) = nI 10006 from rfl, show (10015 : Int32) = nI 10015 from rfl, nI_ltI (by omega) (by omega), nI_ltI (by omega) (by omega)]
    exact ⟨rfl, ⟨nI_pos' (by omega), by omega⟩, nI_pos' (by omega), by omega⟩
  · have hv := k3 hk
    have h2 : ¬ tk T i = 2 := by omega
    rw [if_neg h2, if_neg h2, dM_name hv, show (10006 : Int32) = nI 10006 from rfl, show (10015 : Int32) = nI 10015 from rfl, nI_ltI (by omega) (by omega), nI_ltI (by omega) (by omega)]
    exact ⟨rfl, ⟨nI_pos' (by omega), by omega⟩, nI_pos' (by omega), by omega⟩
theorem one_rd {z : Nat} {b : Nat → Int32} {T : zTk} (hX : hNX z b T) (hN : hNM z b T) (hT : okTk T) {q : Int32} {base o : Nat} (ho : o ≤ 5) {gE gO : Int32 → zM → Option (Int32 × zM)} (hgE : o < 5 → Rd z b T q base gE (o + 1) 1 pEi qEi) (hgO : o < 5 → Rd z b T q base gO (o + 1) 7 pOne qOne) : Rd z b T q base (fX2_readOne gE gO) o 7 pOne qOne := by
  intro i K M MM C W cmp st hc hK hr hst hop hp
  have h6 : M.1 2 6 = nI (tk T i) := hc.1.2.2.2.2.1
  have hcmp : cmp ≤ 1 := hr.2.2.2.2.2.2.2
  -- a ONE
  have hv : tk T i = 2 ∨ tk T i = 3 → ∀ v, v = dM (cOne T i) → ∃ r M' j, fX2_readOne_J40 gE gO v M = some (r, M') ∧ cF M M' ∧ Res z b T q base 7 qOne i j K C W cmp M' MM r := by
    intro hk v ev
    have hi := (hT i).2.2.2 (by omega)
    obtain ⟨d1, d2, d3⟩ := cOne_d hT hk
    obtain ⟨M1, e1, e2, e3⟩ := emit_e hc (by omega) v
    obtain ⟨M2, n1, n2, n3⟩ := cSt_next hX e2 (by omega)
    obtain ⟨MM1, r1, r2, r3⟩ := sOne hN hT q hr hk
    refine ⟨1, M2, i + 1, ?_, cF_trans e3 n3, Or.inl ⟨rfl, [cOne T i], MM1, _, _, cmp, st, ?_, r2, hst, ?_, r1, r3, ⟨by omega, by simp only [List.length_cons, List.length_nil]; omega, by omega⟩, gWf_one d2.1 d2.2, gCd_1 d3, rfl⟩⟩
    · unfold fX2_readOne_J40
      rw [zV_s e1, zV_s n1]
    · show cSt z b T M2 (i + 1) (K ++ [dM (cOne T i)])
      rw [← ev]; exact n2
    · exact lay_lay (Nat.le_refl 7) W (C ++ [cOne T i])
  -- - or (
  have hJ : tk T i = 45 ∨ tk T i = 40 → ∃ r M' j, fX2_readOne_J67 gE gO (nI o) M = some (r, M') ∧ cF M M' ∧ Res z b T q base 7 qOne i j K C W cmp M' MM r := by
    intro hk
    unfold fX2_readOne_J67
    by_cases h5 : o < 5
    rotate_left
    · rw [if_neg (by rw [show (5 : Int32) = nI 5 from rfl, nI_ltI (by omega) (by omega)]; exact h5)]
      exact ⟨0, M, i, rfl, cF_refl _, Or.inr ⟨rfl, K, hc, fOne hT q hr hst (by omega) (by omega) (Or.inr (by omega)) hK.2⟩⟩
    rw [if_pos (by rw [show (5 : Int32) = nI 5 from rfl, nI_ltI (by omega) (by omega)]; exact h5)]
    obtain ⟨M1, n1, n2, n3⟩ := cSt_next hX hc (by omega)
    obtain ⟨MM1, r1, r2, r3⟩ := sOpen hN hT q hr hst (Or.inr hk) (by omega)
    rcases hk with h45 | h40
    · rw [if_neg (show ¬ tk T i = 9 by omega), if_pos h45, if_neg (show ¬ tk T i = 40 by omega), if_pos h45] at r2
      rw [if_pos ((tk_c hT h6 (x := 45) (n := 45) rfl (by omega)).mpr h45)]
      obtain ⟨r', M2, j, g1, g2, g3⟩ := hgO h5 (i + 1) K M1 MM1 C (14 :: W) cmp 0 n2 (by have := (hT i).2.2.2 (by omega); omega) r2 (by omega) (by show opn W + 1 = o + 1; omega) (Or.inl rfl)
      rw [zV_s n1, nI_1, zB_s g1]
      rcases g3 with ⟨e1, E, hE⟩ | ⟨e1, K', f1, f2⟩
      · obtain ⟨M3, t1, t2, t3⟩ := un_res (post := qOne) hK.1 (s := 14) (by decide) (by decide) (by decide) r1 r3 ⟨E, hE⟩ (fun c h => h)
        have t1' : fX2_emit (30000 : Int32) M2 = some M3 := t1
        rw [zV_s t1', e1, zG_t zbo_1]
        exact ⟨1, M3, j, rfl, cF_trans (cF_trans n3 g2) t2, t3⟩
      · obtain ⟨M3, K3, t1, t2, t3⟩ := emit_any f1 (30000 : Int32)
        rw [zV_s t1, e1, zG_t zbo_0]
        exact ⟨0, M3, j, rfl, cF_trans (cF_trans n3 g2) t3, Or.inr ⟨rfl, K3, t2, runs_fails r1 r3 f2⟩⟩
    · rw [if_neg (show ¬ tk T i = 9 by omega), if_neg (show ¬ tk T i = 45 by omega), if_pos h40, if_neg (show ¬ tk T i = 45 by omega)] at r2
      rw [if_neg (fun e => by have := (tk_c hT h6 (x := 45) (n := 45) rfl (by omega)).mp e; omega)]
      obtain ⟨br, ebr⟩ : ∃ br : Int32, br = if cmp = 0 then -1 else -2 := ⟨_, rfl⟩
      rw [← ebr] at r2
      have rbr : rkS br = 0 ∧ opS br = 1 ∧ (if br = -2 then 1 else 0) = cmp := by
        rcases (show cmp = 0 ∨ cmp = 1 by omega) with c | c
        · rw [ebr, c]; decide
        · rw [ebr, c]; decide
      obtain ⟨r', M2, j, g1, g2, g3⟩ := hgE h5 (i + 1) K M1 MM1 C (br :: W) 0 1 n2 (by have := (hT i).2.2.2 (by omega); omega) r2 (by omega) (by show opn W + opS br = o + 1; rw [rbr.2.1]; omega) ⟨tpl_cons (by omega) W, rfl, rfl⟩
      rw [zV_s n1, nI_1, zB_s g1]
      rcases g3 with ⟨e1, E, MM', C', W', cmp', st', a1, a2, a3, a4, a5, a6, a7, a8, a9, a10⟩ | ⟨e1, K', f1, f2⟩
      rotate_left
      · rw [e1, if_pos rfl]
        exact ⟨0, M2, j, rfl, cF_trans n3 g2, Or.inr ⟨rfl, K', f1, runs_fails r1 r3 f2⟩⟩
      have a4' : lay 1 W' C' = (C ++ E, br :: W) := by rw [a4, lay_tpl (tpl_cons (by omega) W)]
      have j6 : M2.1 2 6 = nI (tk T j) := a1.1.2.2.2.2.1
      rw [e1, if_neg (show ¬ (1 : Int32) = 0 by decide)]
      by_cases h41 : tk T j = 41
      · have hj0 := (hT j).2.2.2 (by omega)
        obtain ⟨M3, m1, m2, m3⟩ := cSt_next hX a1 (by omega)
        obtain ⟨MM2, u1, u2, u3⟩ := sClose hN hT q a2 h41 (s := br) (V := W) (by rw [a4'])
        rw [a4', rbr.2.2] at u2
        rw [if_pos ((tk_c hT j6 (x := 41) (n := 41) rfl (by omega)).mpr h41), zV_s m1]
        exact ⟨1, M3, j + 1, rfl, cF_trans (cF_trans n3 g2) m3, Or.inl ⟨rfl, E, MM2, _, _, cmp, st', m2, u2, a3, lay_lay (Nat.le_refl 7) W (C ++ E), runs_trans (runs_trans r1 a5) u1, rF_trans (rF_trans r3 a6) u3, ⟨by omega, by omega, by omega⟩, a8, a9, rfl⟩⟩
      · rw [if_neg (fun e => h41 ((tk_c hT j6 (x := 41) (n := 41) rfl (by omega)).mp e))]
        refine ⟨0, M2, j, rfl, cF_trans n3 g2, Or.inr ⟨rfl, _, a1, runs_fails (runs_trans r1 a5) (rF_trans r3 a6) (fBeh hT q a2 (fun h => (hT j).2.2.2 (by omega)) ?_ a7.2.2)⟩⟩
        by_cases h59 : tk T j = 59
        · exact Or.inr (Or.inl ⟨h59, by rw [a4']; simp⟩)
        · refine Or.inr (Or.inr ⟨h41, h59, ?_⟩)
          obtain ⟨⟨q1, q2, q3, q4⟩, q5, q6⟩ := a10
          unfold sgT
          rw [if_neg q1, if_neg q2, if_neg q3]
          by_cases c60 : tk T j = 60
          · rw [if_pos c60, q4 (Or.inl c60)]; rfl
          · rw [if_neg c60]
            by_cases c61 : tk T j = 61
            · rw [if_pos c61, q4 (Or.inr c61)]; rfl
            · rw [if_neg c61, if_neg q5, if_neg q6]
  unfold fX2_readOne
  by_cases h2 : tk T i = 2
  · have e := (tk_c hT h6 (x := 2) (n := 2) rfl (by omega)).mpr h2
    rw [if_pos e, if_pos e]
    exact hv (Or.inl h2) _ (by rw [(cOne_d hT (Or.inl h2)).1, if_pos h2]; exact hc.1.2.2.2.2.2 (Or.inl h2))
  have e2 : ¬ M.1 2 6 = 2 := fun e => h2 ((tk_c hT h6 (x := 2) (n := 2) rfl (by omega)).mp e)
  rw [if_neg e2]
  by_cases h3 : tk T i = 3
  · rw [if_pos ((tk_c hT h6 (x := 3) (n := 3) rfl (by omega)).mpr h3), if_neg e2]
    exact hv (Or.inr h3) _ (by rw [(cOne_d hT (Or.inr h3)).1, if_neg h2, hc.1.2.2.2.2.2 (Or.inr h3), show (10000 : Int32) = nI 10000 from rfl, nI_add])
  rw [if_neg (fun e => h3 ((tk_c hT h6 (x := 3) (n := 3) rfl (by omega)).mp e))]
  by_cases h45 : tk T i = 45
  · rw [if_pos ((tk_c hT h6 (x := 45) (n := 45) rfl (by omega)).mpr h45)]
    exact hJ (Or.inl h45)
  rw [if_neg (fun e => h45 ((tk_c hT h6 (x := 45) (n := 45) rfl (by omega)).mp e))]
  by_cases h40 : tk T i = 40
  · rw [if_pos ((tk_c hT h6 (x := 40) (n := 40) rfl (by omega)).mpr h40)]
    exact hJ (Or.inr h40)
  rw [if_neg (fun e => h40 ((tk_c hT h6 (x := 40) (n := 40) rfl (by omega)).mp e))]
  exact ⟨0, M, i, rfl, cF_refl _, Or.inr ⟨rfl, K, hc, fOne hT q hr hst h2 h3 (Or.inl ⟨fun e => by
    have hp' : st = 0 ∨ tk T i ≠ 9 := hp
    omega, h45, h40⟩) hK.2⟩⟩
theorem frd_rd {z : Nat} {b : Nat → Int32} {T : zTk} (hX : hNX z b T) (hN : hNM z b T) (hT : okTk T) (q : Int32) (base : Nat) : ∀ (d o : Nat), o ≤ 5 → (6 * (6 - o) + 6 ≤ d → Rd z b T q base (frd d).1 o 1 pEi qEi) ∧ (6 * (6 - o) + 5 ≤ d → Rd z b T q base (frd d).2.1 o 2 pBoth qBoth) ∧ (6 * (6 - o) + 4 ≤ d → Rd z b T q base (frd d).2.2.1 o 3 pDen qDen) ∧ (6 * (6 - o) + 3 ≤ d → Rd z b T q base (frd d).2.2.2.1 o 5 pSum qSum) ∧ (6 * (6 - o) + 2 ≤ d → Rd z b T q base (frd d).2.2.2.2.1 o 6 pTerm qTerm) ∧ (6 * (6 - o) + 1 ≤ d → Rd z b T q base (frd d).2.2.2.2.2 o 7 pOne qOne)
  | 0, o, ho => ⟨fun h => by omega, fun h => by omega, fun h => by omega, fun h => by omega, fun h => by omega, fun h => by omega⟩
  | d + 1, o, ho => by
    have A := frd_rd hX hN hT q base d o ho
    refine ⟨fun h => ei_rd hX hN hT (A.2.1 (by omega)), fun h => both_rd hX hN hT (A.2.2.1 (by omega)), fun h => den_rd hX hN hT ho (fun h5 => ?_) (A.2.2.2.1 (by omega)), fun h => sum_rd hX hN hT (A.2.2.2.2.1 (by omega)), fun h => term_rd hX hN hT (A.2.2.2.2.2 (by omega)), fun h => one_rd hX hN hT ho (fun h5 => ?_) (fun h5 => ?_)⟩
    · exact (frd_rd hX hN hT q base d (o + 1) (by omega)).2.2.1 (by omega)
    · exact (frd_rd hX hN hT q base d (o + 1) (by omega)).1 (by omega)
    · exact (frd_rd hX hN hT q base d (o + 1) (by omega)).2.2.2.2.2 (by omega)
theorem top_rd {z : Nat} {b : Nat → Int32} {T : zTk} (hX : hNX z b T) (hN : hNM z b T) (hT : okTk T) (q : Int32) (base : Nat) : Rd z b T q base fX2_readTop 0 1 pEi qEi := (frd_rd hX hN hT q base 60 0 (by omega)).1 (by omega)

set_option maxHeartbeats 8000000 in
set_option maxRecDepth 100000 in
theorem law_loop (Rel : zM → zM → Prop) (HS : lawSteps Rel) {p : Program} {e : Env} {s : State} {m : MethodId} {below : List Frame} {meth : Method} {c : Code} (l : Launch) {b L : Nat} {xs : Nat → Int32} (hL : L ≤ 3072) (G1 G2 : zGr) (hJ1 : zJ G1 64) (hJ2 : zJ G2 23) (he1 : zA G1 64 s.heap.size = fun q => s.heap.size ≤ q) (he2 : zA G2 23 s.heap.size = fun q => s.heap.size ≤ q) (hdis : ∀ i j, i < 64 → j < 23 → G1.2.2.1 i ≠ G2.2.2.1 j) (C1 : zCx p s m #[Value.ref b] meth c code 4 RL ret G1 64) (C2 : zCx p s m #[Value.ref b] meth c code 4 RL ret G2 23) (hX : va_X b L xs s s.heap) (hbl : b < s.heap.size) :
    ∀ (n i : Nat) (MX MM : zM) (x3 : Int32) (H : Heap) (locs : List Loc) (ls : Array Slot), L + 6 ≤ i + n → i ≤ L + 5 → x3 = nI i → Rel MX MM → lv_has ls 4 [(0, .ref b), (1, .ref (G1.2.2.1 0)), (2, .ref (G2.2.2.1 0)), (3, .int x3)] → va_P G1.1 zcl (zw G1 shX 64 MX) H → va_P G2.1 zcl (zw G2 shM 23 MM) H → va_S (fun q => s.heap.size ≤ q) s.heap H locs → W p l e room_1 s m #[Value.ref b] below meth c H locs 87 79514 (lw_Z below #[Value.ref b] s) (F0 m 18 ls []) := by
  have hx := C1.1
  have hb := C1.2.1
  have hr := C1.2.2.2.2.2.1
  have hlocks := C1.2.2.2.2.2.2.1
  have hbA : ¬ (fun q : Nat => s.heap.size ≤ q) b := Nat.not_le.mpr hbl
  intro n
  induction n with
  | zero => intro i MX MM x3 H locs ls h1 h2; exact absurd h1 (by omega)
  | succ n ih =>
    intro i MX MM x3 H locs ls h1 h2 ex hR hl hP1 hP2 hS
    refine lv_iload_n hx hb dL_law_18 rfl (lv_at hl 3 rfl) ?_
    refine lv_aload_n hx hb dL_law_19 rfl (lv_at hl 0 rfl) ?_
    refine va_slen hx hb hX hbl hbA hS dL_law_20 ?_
    refine lv_bipush (v := nI 6) hx hb dL_law_21 (by decide) ?_
    refine lv_isub hx hb dL_law_23 ?_
    refine lv_icmp_gt (tgt := 1058) hx hb dL_law_24 (by decide) (fun c1 => ?_) (fun c1 => ?_)
    · refine lv_iconst (v := 1) hx hb dL_law_1058 (by decide) ?_
      refine va_forget (fun q hq => hS.2.2 q hq) ?_
      refine W.widen (k := 600000) (n := 7302250) (Nat.le_of_ble_eq_true rfl) (Nat.le_of_ble_eq_true rfl) ?_
      exact lw_ret hx hb hr hlocks dL_law_1059
    · have hlt : i + 6 ≤ L := law_lt hL h2 (by rw [ex] at c1; exact c1)
      have hin : ∀ k : Nat, k < 6 → vp_in (x3 + nI k) L := fun k hk => by rw [ex, nI_add]; exact vp_in_nI (by omega) (by omega)
      have hin0 : vp_in x3 L := by rw [ex]; exact vp_in_nI (by omega) (by omega)
      have kk : ∀ (MX MM : zM) (H : Heap) (locs : List Loc), Rel MX MM → va_P G1.1 zcl (zw G1 shX 64 MX) H → va_P G2.1 zcl (zw G2 shM 23 MM) H → va_S (fun q => s.heap.size ≤ q) s.heap H locs → W p l e room_1 s m #[Value.ref b] below meth c H locs 87 79514 (lw_Z below #[Value.ref b] s) (F0 m 1052 ls []) := by
        intro MX MM H locs hR hP1 hP2 hS
        obtain ⟨x3', ex3'⟩ : ∃ y : Int32, y = x3 + 6 := ⟨_, rfl⟩
        refine lv_iinc (v := x3') (lv' := [(3, .int x3'), (0, .ref b), (1, .ref (G1.2.2.1 0)), (2, .ref (G2.2.2.1 0))]) hx hb dL_law_1052 hl (k := 3) rfl (by rw [ex3']; rfl) (by decide) rfl (fun ls hl => ?_)
        refine lv_goto (tgt := 18) hx hb dL_law_1055 (by decide) ?_
        exact ih (i + 6) MX MM x3' H locs ls (by omega) (by omega) (by rw [ex3', ex]; exact nI_add i 6) hR (lv_sub hl [1, 2, 3, 0] rfl) hP1 hP2 hS
      obtain ⟨s0, s1, s2, s3, s4, s5, s6, s7, s8, s9, s10, s11, s12, s13, s14, s15, s16, s17, s18, s19, s20, s21, s22, s23, s24, s25⟩ := HS
      refine lv_aload_n hx hb dL_law_27 rfl (lv_at hl 0 rfl) ?_
      refine lv_iload_n hx hb dL_law_28 rfl (lv_at hl 3 rfl) ?_
      refine va_sld hx hb hX hbl hbA hS hin0 dL_law_29 ?_
      refine lv_bipush (v := 31) hx hb dL_law_30 (by decide) ?_
      refine lv_iand hx hb dL_law_32 ?_
      refine lv_topi (fun y ey => ?_)
      refine if c2 : y = (0 : Int32) then ?_ else ?_
      · refine lv_tableIn (tgt := 152) hx hb dL_law_33 (by rw [c2]; decide) (by rw [c2]; decide) (off := 119) (by rw [c2]; decide) (by decide) ?_
        exact lawc_0 Rel l G1 G2 hJ1 hJ2 he1 he2 hdis C1 C2 hX hbl hR s0 x3 hin H locs ls hl hP1 hP2 hS kk
      have t0 := lv_neT (a := 0) c2 (by decide)
      clear c2
      refine if c2 : y = (1 : Int32) then ?_ else ?_
      · refine lv_tableIn (tgt := 195) hx hb dL_law_33 (by rw [c2]; decide) (by rw [c2]; decide) (off := 162) (by rw [c2]; decide) (by decide) ?_
        exact lawc_1 Rel l G1 G2 hJ1 hJ2 he1 he2 hdis C1 C2 hX hbl hR s1 x3 hin H locs ls hl hP1 hP2 hS kk
      have t1 := lv_neT (a := 1) c2 (by decide)
      clear c2
      refine if c2 : y = (2 : Int32) then ?_ else ?_
      · refine lv_tableIn (tgt := 238) hx hb dL_law_33 (by rw [c2]; decide) (by rw [c2]; decide) (off := 205) (by rw [c2]; decide) (by decide) ?_
        exact lawc_2 Rel l G1 G2 hJ1 hJ2 he1 he2 hdis C1 C2 hX hbl hR s2 x3 hin H locs ls hl hP1 hP2 hS kk
      have t2 := lv_neT (a := 2) c2 (by decide)
      clear c2
      refine if c2 : y = (3 : Int32) then ?_ else ?_
      · refine lv_tableIn (tgt := 271) hx hb dL_law_33 (by rw [c2]; decide) (by rw [c2]; decide) (off := 238) (by rw [c2]; decide) (by decide) ?_
        exact lawc_3 Rel l G1 G2 hJ1 hJ2 he1 he2 hdis C1 C2 hX hbl hR s3 x3 hin H locs ls hl hP1 hP2 hS kk
      have t3 := lv_neT (a := 3) c2 (by decide)
      clear c2
      refine if c2 : y = (4 : Int32) then ?_ else ?_
      · refine lv_tableIn (tgt := 294) hx hb dL_law_33 (by rw [c2]; decide) (by rw [c2]; decide) (off := 261) (by rw [c2]; decide) (by decide) ?_
        exact lawc_4 Rel l G1 G2 hJ1 hJ2 he1 he2 hdis C1 C2 hX hbl hR s4 x3 hin H locs ls hl hP1 hP2 hS kk
      have t4 := lv_neT (a := 4) c2 (by decide)
      clear c2
      refine if c2 : y = (5 : Int32) then ?_ else ?_
      · refine lv_tableIn (tgt := 307) hx hb dL_law_33 (by rw [c2]; decide) (by rw [c2]; decide) (off := 274) (by rw [c2]; decide) (by decide) ?_
        exact lawc_5 Rel l G1 G2 hJ1 hJ2 he1 he2 hdis C1 C2 hX hbl hR s5 x3 hin H locs ls hl hP1 hP2 hS kk
      have t5 := lv_neT (a := 5) c2 (by decide)
      clear c2
      refine if c2 : y = (6 : Int32) then ?_ else ?_
      · refine lv_tableIn (tgt := 330) hx hb dL_law_33 (by rw [c2]; decide) (by rw [c2]; decide) (off := 297) (by rw [c2]; decide) (by decide) ?_
        exact lawc_6 Rel l G1 G2 hJ1 hJ2 he1 he2 hdis C1 C2 hX hbl hR s6 x3 hin H locs ls hl hP1 hP2 hS kk
      have t6 := lv_neT (a := 6) c2 (by decide)
      clear c2
      refine if c2 : y = (7 : Int32) then ?_ else ?_
      · refine lv_tableIn (tgt := 343) hx hb dL_law_33 (by rw [c2]; decide) (by rw [c2]; decide) (off := 310) (by rw [c2]; decide) (by decide) ?_
        exact lawc_7 Rel l G1 G2 hJ1 hJ2 he1 he2 hdis C1 C2 hX hbl hR s7 x3 hin H locs ls hl hP1 hP2 hS kk
      have t7 := lv_neT (a := 7) c2 (by decide)
      clear c2
      refine if c2 : y = (8 : Int32) then ?_ else ?_
      · refine lv_tableIn (tgt := 386) hx hb dL_law_33 (by rw [c2]; decide) (by rw [c2]; decide) (off := 353) (by rw [c2]; decide) (by decide) ?_
        exact lawc_8 Rel l G1 G2 hJ1 hJ2 he1 he2 hdis C1 C2 hX hbl hR s8 x3 hin H locs ls hl hP1 hP2 hS kk
      have t8 := lv_neT (a := 8) c2 (by decide)
      clear c2
      refine if c2 : y = (9 : Int32) then ?_ else ?_
      · refine lv_tableIn (tgt := 429) hx hb dL_law_33 (by rw [c2]; decide) (by rw [c2]; decide) (off := 396) (by rw [c2]; decide) (by decide) ?_
        exact lawc_9 Rel l G1 G2 hJ1 hJ2 he1 he2 hdis C1 C2 hX hbl hR s9 x3 hin H locs ls hl hP1 hP2 hS kk
      have t9 := lv_neT (a := 9) c2 (by decide)
      clear c2
      refine if c2 : y = (10 : Int32) then ?_ else ?_
      · refine lv_tableIn (tgt := 452) hx hb dL_law_33 (by rw [c2]; decide) (by rw [c2]; decide) (off := 419) (by rw [c2]; decide) (by decide) ?_
        exact lawc_10 Rel l G1 G2 hJ1 hJ2 he1 he2 hdis C1 C2 hX hbl hR s10 x3 hin H locs ls hl hP1 hP2 hS kk
      have t10 := lv_neT (a := 10) c2 (by decide)
      clear c2
      refine if c2 : y = (11 : Int32) then ?_ else ?_
      · refine lv_tableIn (tgt := 476) hx hb dL_law_33 (by rw [c2]; decide) (by rw [c2]; decide) (off := 443) (by rw [c2]; decide) (by decide) ?_
        exact lawc_11 Rel l G1 G2 hJ1 hJ2 he1 he2 hdis C1 C2 hX hbl hR s11 x3 hin H locs ls hl hP1 hP2 hS kk
      have t11 := lv_neT (a := 11) c2 (by decide)
      clear c2
      refine if c2 : y = (12 : Int32) then ?_ else ?_
      · refine lv_tableIn (tgt := 519) hx hb dL_law_33 (by rw [c2]; decide) (by rw [c2]; decide) (off := 486) (by rw [c2]; decide) (by decide) ?_
        exact lawc_12 Rel l G1 G2 hJ1 hJ2 he1 he2 hdis C1 C2 hX hbl hR s12 x3 hin H locs ls hl hP1 hP2 hS kk
      have t12 := lv_neT (a := 12) c2 (by decide)
      clear c2
      refine if c2 : y = (13 : Int32) then ?_ else ?_
      · refine lv_tableIn (tgt := 552) hx hb dL_law_33 (by rw [c2]; decide) (by rw [c2]; decide) (off := 519) (by rw [c2]; decide) (by decide) ?_
        exact lawc_13 Rel l G1 G2 hJ1 hJ2 he1 he2 hdis C1 C2 hX hbl hR s13 x3 hin H locs ls hl hP1 hP2 hS kk
      have t13 := lv_neT (a := 13) c2 (by decide)
      clear c2
      refine if c2 : y = (14 : Int32) then ?_ else ?_
      · refine lv_tableIn (tgt := 595) hx hb dL_law_33 (by rw [c2]; decide) (by rw [c2]; decide) (off := 562) (by rw [c2]; decide) (by decide) ?_
        exact lawc_14 Rel l G1 G2 hJ1 hJ2 he1 he2 hdis C1 C2 hX hbl hR s14 x3 hin H locs ls hl hP1 hP2 hS kk
      have t14 := lv_neT (a := 14) c2 (by decide)
      clear c2
      refine if c2 : y = (15 : Int32) then ?_ else ?_
      · refine lv_tableIn (tgt := 638) hx hb dL_law_33 (by rw [c2]; decide) (by rw [c2]; decide) (off := 605) (by rw [c2]; decide) (by decide) ?_
        exact lawc_15 Rel l G1 G2 hJ1 hJ2 he1 he2 hdis C1 C2 hX hbl hR s15 x3 hin H locs ls hl hP1 hP2 hS kk
      have t15 := lv_neT (a := 15) c2 (by decide)
      clear c2
      refine if c2 : y = (16 : Int32) then ?_ else ?_
      · refine lv_tableIn (tgt := 681) hx hb dL_law_33 (by rw [c2]; decide) (by rw [c2]; decide) (off := 648) (by rw [c2]; decide) (by decide) ?_
        exact lawc_16 Rel l G1 G2 hJ1 hJ2 he1 he2 hdis C1 C2 hX hbl hR s16 x3 hin H locs ls hl hP1 hP2 hS kk
      have t16 := lv_neT (a := 16) c2 (by decide)
      clear c2
      refine if c2 : y = (17 : Int32) then ?_ else ?_
      · refine lv_tableIn (tgt := 714) hx hb dL_law_33 (by rw [c2]; decide) (by rw [c2]; decide) (off := 681) (by rw [c2]; decide) (by decide) ?_
        exact lawc_17 Rel l G1 G2 hJ1 hJ2 he1 he2 hdis C1 C2 hX hbl hR s17 x3 hin H locs ls hl hP1 hP2 hS kk
      have t17 := lv_neT (a := 17) c2 (by decide)
      clear c2
      refine if c2 : y = (18 : Int32) then ?_ else ?_
      · refine lv_tableIn (tgt := 768) hx hb dL_law_33 (by rw [c2]; decide) (by rw [c2]; decide) (off := 735) (by rw [c2]; decide) (by decide) ?_
        exact lawc_18 Rel l G1 G2 hJ1 hJ2 he1 he2 hdis C1 C2 hX hbl hR s18 x3 hin H locs ls hl hP1 hP2 hS kk
      have t18 := lv_neT (a := 18) c2 (by decide)
      clear c2
      refine if c2 : y = (19 : Int32) then ?_ else ?_
      · refine lv_tableIn (tgt := 781) hx hb dL_law_33 (by rw [c2]; decide) (by rw [c2]; decide) (off := 748) (by rw [c2]; decide) (by decide) ?_
        exact lawc_19 Rel l G1 G2 hJ1 hJ2 he1 he2 hdis C1 C2 hX hbl hR s19 x3 hin H locs ls hl hP1 hP2 hS kk
      have t19 := lv_neT (a := 19) c2 (by decide)
      clear c2
      refine if c2 : y = (20 : Int32) then ?_ else ?_
      · refine lv_tableIn (tgt := 794) hx hb dL_law_33 (by rw [c2]; decide) (by rw [c2]; decide) (off := 761) (by rw [c2]; decide) (by decide) ?_
        exact lawc_20 Rel l G1 G2 hJ1 hJ2 he1 he2 hdis C1 C2 hX hbl hR s20 x3 hin H locs ls hl hP1 hP2 hS kk
      have t20 := lv_neT (a := 20) c2 (by decide)
      clear c2
      refine if c2 : y = (21 : Int32) then ?_ else ?_
      · refine lv_tableIn (tgt := 817) hx hb dL_law_33 (by rw [c2]; decide) (by rw [c2]; decide) (off := 784) (by rw [c2]; decide) (by decide) ?_
        exact lawc_21 Rel l G1 G2 hJ1 hJ2 he1 he2 hdis C1 C2 hX hbl hR s21 x3 hin H locs ls hl hP1 hP2 hS kk
      have t21 := lv_neT (a := 21) c2 (by decide)
      clear c2
      refine if c2 : y = (22 : Int32) then ?_ else ?_
      · refine lv_tableIn (tgt := 860) hx hb dL_law_33 (by rw [c2]; decide) (by rw [c2]; decide) (off := 827) (by rw [c2]; decide) (by decide) ?_
        exact lawc_22 Rel l G1 G2 hJ1 hJ2 he1 he2 hdis C1 C2 hX hbl hR s22 x3 hin H locs ls hl hP1 hP2 hS kk
      have t22 := lv_neT (a := 22) c2 (by decide)
      clear c2
      refine if c2 : y = (23 : Int32) then ?_ else ?_
      · refine lv_tableIn (tgt := 903) hx hb dL_law_33 (by rw [c2]; decide) (by rw [c2]; decide) (off := 870) (by rw [c2]; decide) (by decide) ?_
        exact lawc_23 Rel l G1 G2 hJ1 hJ2 he1 he2 hdis C1 C2 hX hbl hR s23 x3 hin H locs ls hl hP1 hP2 hS kk
      have t23 := lv_neT (a := 23) c2 (by decide)
      clear c2
      refine if c2 : y = (24 : Int32) then ?_ else ?_
      · refine lv_tableIn (tgt := 966) hx hb dL_law_33 (by rw [c2]; decide) (by rw [c2]; decide) (off := 933) (by rw [c2]; decide) (by decide) ?_
        exact lawc_24 Rel l G1 G2 hJ1 hJ2 he1 he2 hdis C1 C2 hX hbl hR s24 x3 hin H locs ls hl hP1 hP2 hS kk
      have t24 := lv_neT (a := 24) c2 (by decide)
      clear c2
      refine if c2 : y = (25 : Int32) then ?_ else ?_
      · refine lv_tableIn (tgt := 1019) hx hb dL_law_33 (by rw [c2]; decide) (by rw [c2]; decide) (off := 986) (by rw [c2]; decide) (by decide) ?_
        exact lawc_25 Rel l G1 G2 hJ1 hJ2 he1 he2 hdis C1 C2 hX hbl hR s25 x3 hin H locs ls hl hP1 hP2 hS kk
      have t25 := lv_neT (a := 25) c2 (by decide)
      clear c2
      refine lv_tableOut (tgt := 1052) hx hb dL_law_33 (by omega) (by decide) ?_
      exact kk MX MM H locs hR hP1 hP2 hS
set_option maxHeartbeats 8000000 in
set_option maxRecDepth 100000 in
/-- the law from its entry, the two sides related -/
theorem law_start (Rel : zM → zM → Prop) (HS : lawSteps Rel) {M1 M2 : zM} (ho1 : fX5_init_J141 zM0X = some M1) (ho2 : fX6_init_J175 zM0M = some M2) (h0 : Rel M1 M2) {p : Program} {e : Env} {s : State} {m : MethodId} {below : List Frame} {meth : Method} {c : Code} (l : Launch) {b L : Nat} {xs : Nat → Int32} (hL : L ≤ 3072) (C0 : lw_At p s m meth c b L xs) : W p l e room_1 s m #[Value.ref b] below meth c s.heap [] 0 0 (lw_Z below #[Value.ref b] s) (entryFrame m ([Value.ref b] : List Value).toArray 4) := by
  obtain ⟨hx, hb, hr, hml, hown, hts, hX, hbl, hlocks, hgv⟩ := C0
  have hz : ∀ w ∈ zT, w.before #[Value.ref b] s = true := fun w hw => hts w (zT_sub hw)
  have hA : ∀ q : Nat, s.heap.size ≤ q → (fun q : Nat => s.heap.size ≤ q) q := fun _ h => h
  obtain ⟨D, hDc⟩ := law_classes hts
  obtain ⟨ca, hK⟩ := law_arr hts D hDc
  obtain ⟨sa, hSt⟩ := law_static hts hgv
  have hSt := hSt D ca
  have hS : va_S (fun q : Nat => s.heap.size ≤ q) s.heap s.heap [] := va_S.rf
  have hP0 : va_P D zcl [] s.heap := fun k q h => by simp at h
  have hD0 : va_D (fun q : Nat => s.heap.size ≤ q) [] := ⟨fun i j p q h => by simp at h, fun k q h => by simp at h⟩
  have hl := lv_entry ([.ref b]) (n := 4) (Nat.le_of_ble_eq_true rfl)
  rw [lg_entry_eq]
  generalize (lg_sl ([.ref b]) ++ List.replicate (4 - (lg_sl ([.ref b])).length) Slot.unset).toArray = ls at hl ⊢
  have hl : lv_has ls 4 [(0, .ref b)] := hl
  obtain ⟨H, eH⟩ : ∃ H, H = s.heap := ⟨_, rfl⟩
  obtain ⟨locs, el⟩ : ∃ locs : List Loc, locs = [] := ⟨_, rfl⟩
  have hS : va_S (fun q : Nat => s.heap.size ≤ q) s.heap H locs := by rw [eH, el]; exact hS
  have hP0 : va_P D zcl [] H := by rw [eH]; exact hP0
  have goal : W p l e room_1 s m #[Value.ref b] below meth c H locs 0 0 (lw_Z below #[Value.ref b] s) (F0 m 0 ls []) := by
    clear eH el
    refine va_new (ci := 5) (fs := [.null, .null, .null, .null, .null, .null, .null, .int 0, .int 0]) (C := RX5) (T := TX5) (N := 9) hx hb hz uw_X5 tyX5 tyX5_ok hown (hz _ mw_925) (hz _ mw_926) (hz _ mw_51) hK hP0 hD0 hS hA rfl (fun j hj => by rcases (show j = 0 ∨ j = 1 ∨ j = 2 ∨ j = 3 ∨ j = 4 ∨ j = 5 ∨ j = 6 ∨ j = 7 ∨ j = 8 by omega) with rfl | rfl | rfl | rfl | rfl | rfl | rfl | rfl | rfl <;> rfl) (Nat.le_of_ble_eq_true rfl) (Nat.le_of_ble_eq_true rfl) dL_law_0 (fun a H hP hD hS => ?_)
    have hP : va_P D zcl [(a, .inr (5, [.null, .null, .null, .null, .null, .null, .null, .int 0, .int 0]))] H := hP
    have hD : va_D (fun q : Nat => s.heap.size ≤ q) [(a, .inr (5, [.null, .null, .null, .null, .null, .null, .null, .int 0, .int 0]))] := hD
    refine W.widen (k := 1) (n := 9) (by omega) (by omega) ?_
    refine lv_dup hx hb dL_law_3 rfl ?_
    have hFc := va_free (wc := [(a, .inr (5, [.null, .null, .null, .null, .null, .null, .null, .int 0, .int 0]))]) hD hS hA [0] rfl
    have ha : s.heap.size ≤ a := hD.2 0 _ rfl
    refine va_callv (va_runI (As := []) (rest := [.ref a]) ⟨hx, hb, hml, hown, hz⟩ (ci_X5_init l D ca sa a M1 ho1 H.size) (cwI 0 hz (zT_good (zT_code mw_927)) rfl rfl rfl (hz _ mw_51) (hz _ mw_928) (hz _ mw_929) rfl (by decide +kernel) ⟨Nat.le_of_ble_eq_true rfl, Nat.le_of_ble_eq_true rfl⟩) ⟨zIp_b _ _ _ _ _ _, zi_pre hK hSt hS (fun q h => hFc q h) hP hD⟩ rfl rfl hl.1 rfl (lv_room (Nat.le_of_ble_eq_true rfl)) dL_law_4 ⟨Nat.le_of_ble_eq_true rfl, Nat.le_of_ble_eq_true rfl⟩) hS (fun q _ h => hFc q h) hFc (fun u t H1 locs ht hvm hw hB hz1 hk1 hS1 => ?_)
    obtain ⟨ad1, M1b⟩ := u
    obtain ⟨rfl, had1, hJ1, hAs1⟩ := hw
    have hP1 : va_P D zcl (zw (D, ca, ad1, sa) shX 64 M1b) H1 := by rw [← ht]; exact hB
    have hsz1 : s.heap.size ≤ H.size := hS.1
    have hge1 : ∀ i, i < 64 → s.heap.size ≤ ad1 i := fun i hi => by
      rcases Nat.eq_zero_or_pos i with rfl | h
      · rw [show ad1 0 = a from had1]; exact ha
      · exact Nat.le_trans hsz1 (hAs1 i hi h)
    clear hB hFc hP hD hS hk1 hz1 hvm ht hAs1
    refine W.widen (k := 64) (n := 13643) (by omega) (by omega) ?_
    refine lv_astore_n (lv' := [(1, .ref a), (0, .ref b)]) hx hb dL_law_7 rfl hl (by decide) rfl (fun ls hl => ?_)
    have hge0 : ∀ q, zA (D, ca, ad1, sa) 64 s.heap.size q → s.heap.size ≤ q := fun q hq => by
      rcases hq with ⟨i, hi, e⟩ | h
      · rw [e]; exact hge1 i hi
      · exact h
    have he1 : zA (D, ca, ad1, sa) 64 s.heap.size = fun q => s.heap.size ≤ q := by
      funext q; apply propext; exact ⟨hge0 q, fun h => Or.inr h⟩
    have hD1 : va_D (fun q : Nat => s.heap.size ≤ q) (zw (D, ca, ad1, sa) shX 64 M1b) := by have h9 := zw_D (sh := shX) hJ1 M1b s.heap.size; rw [he1] at h9; exact h9
    have hS := hS1
    refine va_new (ci := 6) (fs := [.int 0, .int 0, .int 0, .null, .null, .null, .null, .int 0, .int 0, .null, .int 0, .null, .null, .null, .int 0, .int 0, .int 0, .int 0, .int 0, .int 0, .null, .int 0, .int 0, .int 0, .int 0, .int 0, .null, .null, .int 0, .int 0, .null, .null, .null, .int 0, .int 0, .int 0, .null, .null, .int 0, .int 0, .int 0, .int 0, .int 0, .int 0, .int 0, .null, .null, .null, .null, .null, .null]) (C := RX6) (T := TX6) (N := 51) hx hb hz uw_X6 tyX6 tyX6_ok hown (hz _ mw_930) (hz _ mw_931) (hz _ mw_393) hK hP1 hD1 hS hA rfl (fun j hj => by rcases (show j = 0 ∨ j = 1 ∨ j = 2 ∨ j = 3 ∨ j = 4 ∨ j = 5 ∨ j = 6 ∨ j = 7 ∨ j = 8 ∨ j = 9 ∨ j = 10 ∨ j = 11 ∨ j = 12 ∨ j = 13 ∨ j = 14 ∨ j = 15 ∨ j = 16 ∨ j = 17 ∨ j = 18 ∨ j = 19 ∨ j = 20 ∨ j = 21 ∨ j = 22 ∨ j = 23 ∨ j = 24 ∨ j = 25 ∨ j = 26 ∨ j = 27 ∨ j = 28 ∨ j = 29 ∨ j = 30 ∨ j = 31 ∨ j = 32 ∨ j = 33 ∨ j = 34 ∨ j = 35 ∨ j = 36 ∨ j = 37 ∨ j = 38 ∨ j = 39 ∨ j = 40 ∨ j = 41 ∨ j = 42 ∨ j = 43 ∨ j = 44 ∨ j = 45 ∨ j = 46 ∨ j = 47 ∨ j = 48 ∨ j = 49 ∨ j = 50 by omega) with rfl | rfl | rfl | rfl | rfl | rfl | rfl | rfl | rfl | rfl | rfl | rfl | rfl | rfl | rfl | rfl | rfl | rfl | rfl | rfl | rfl | rfl | rfl | rfl | rfl | rfl | rfl | rfl | rfl | rfl | rfl | rfl | rfl | rfl | rfl | rfl | rfl | rfl | rfl | rfl | rfl | rfl | rfl | rfl | rfl | rfl | rfl | rfl | rfl | rfl | rfl <;> rfl) (Nat.le_of_ble_eq_true rfl) (Nat.le_of_ble_eq_true rfl) dL_law_8 (fun a2 H2 hP hD hS => ?_)
    replace hP := zP_perm (zfr _ _) hP
    replace hD := zD_perm (zfr _ _) hD
    have hP : va_P D zcl ((a2, (.inr (6, oX6 []) : va_E)) :: zw (D, ca, ad1, sa) shX 64 M1b) H2 := hP
    have hD : va_D (fun q : Nat => s.heap.size ≤ q) ((a2, (.inr (6, oX6 []) : va_E)) :: zw (D, ca, ad1, sa) shX 64 M1b) := hD
    clear hS1 hP1
    refine W.widen (k := 65) (n := 13694) (by omega) (by omega) ?_
    refine lv_dup hx hb dL_law_11 rfl ?_
    have ha2 : s.heap.size ≤ a2 := hD.2 0 _ rfl
    have hPc : va_P D zcl [(a2, (.inr (6, oX6 []) : va_E))] H2 := fun k q hk => by cases k with | zero => exact hP 0 q hk | succ k => simp at hk
    have hDc : va_D (fun q : Nat => s.heap.size ≤ q) [(a2, (.inr (6, oX6 []) : va_E))] := zD_cons.mpr ⟨hD.2 0 _ rfl, fun q hq => absurd hq List.not_mem_nil, ⟨fun i j p q h => by simp at h, fun k q h => by simp at h⟩⟩
    have hFc : ∀ q, va_A [(a2, (.inr (6, oX6 []) : va_E))] H2.size q → (fun q : Nat => s.heap.size ≤ q) q := fun q h => h.elim (fun ⟨k, e, h⟩ => by cases k with | zero => (simp at h; rw [← h.1]; exact ha2) | succ k => simp at h) (fun h => hA q (Nat.le_trans hS.1 h))
    have hlt1 : ∀ i, i < 64 → ad1 i < H2.size ∧ ad1 i ≠ a2 := fun i hi => by
      have hm : (ad1 i, zcell (D, ca, ad1, sa) M1b i (shX i)) ∈ zw (D, ca, ad1, sa) shX 64 M1b := List.mem_of_getElem? (zw_get (D, ca, ad1, sa) shX M1b hi)
      obtain ⟨-, d2, -⟩ := zD_cons.mp hD
      exact ⟨(zP_mem.mp hP _ (List.mem_cons_of_mem _ hm)).lt, d2 _ hm⟩
    refine va_callv (va_runI (As := []) (rest := [.ref a2]) ⟨hx, hb, hml, hown, hz⟩ (ci_X6_init l D ca sa a2 M2 ho2 H2.size) (cwI 0 hz (zT_good (zT_code mw_932)) rfl rfl rfl (hz _ mw_393) (hz _ mw_933) (hz _ mw_934) rfl (by decide +kernel) ⟨Nat.le_of_ble_eq_true rfl, Nat.le_of_ble_eq_true rfl⟩) ⟨zIp_b _ _ _ _ _ _, zi_pre hK hSt hS (fun q h => hFc q h) hPc hDc⟩ rfl rfl hl.1 rfl (lv_room (Nat.le_of_ble_eq_true rfl)) dL_law_12 ⟨Nat.le_of_ble_eq_true rfl, Nat.le_of_ble_eq_true rfl⟩) hS (fun q _ h => hFc q h) hFc (fun u t H3 locs ht hvm hw hB hz1 hk1 hS3 => ?_)
    obtain ⟨ad2, M2b⟩ := u
    obtain ⟨rfl, had2, hJ2, hAs2⟩ := hw
    have hP2 : va_P D zcl (zw (D, ca, ad2, sa) shM 23 M2b) H3 := by rw [← ht]; exact hB
    have hge2 : ∀ q, zA (D, ca, ad2, sa) 23 H2.size q → va_A [(a2, (.inr (6, oX6 []) : va_E))] H2.size q := fun q hq => by
      rcases hq with ⟨i, hi, e⟩ | h
      · rcases Nat.eq_zero_or_pos i with rfl | h
        · exact Or.inl ⟨0, _, by rw [e, show ((D, ca, ad2, sa) : zGr).2.2.1 0 = a2 from had2]; rfl⟩
        · rw [e]; exact Or.inr (hAs2 i hi h)
      · exact Or.inr h
    have hD2 : va_D (va_A [(a2, (.inr (6, oX6 []) : va_E))] H2.size) (zw (D, ca, ad2, sa) shM 23 M2b) := ⟨(zw_D (sh := shM) hJ2 M2b H2.size).1, fun k q hk => hge2 _ ((zw_D (sh := shM) hJ2 M2b H2.size).2 k q hk)⟩
    have hPX : va_P D zcl (zw (D, ca, ad1, sa) shX 64 M1b) H3 := zP_mem.mpr fun x hx => zP_mem.mp (zP_call hP hD hk1 hFc hP2 hD2).1 x (List.mem_append_right _ hx)
    have hge3 : ∀ i, i < 23 → s.heap.size ≤ ad2 i := fun i hi => hFc _ (hge2 _ (Or.inl ⟨i, hi, rfl⟩))
    have he2 : zA (D, ca, ad2, sa) 23 s.heap.size = fun q => s.heap.size ≤ q := by
      funext q; apply propext
      refine ⟨fun hq => ?_, fun h => Or.inr h⟩
      rcases hq with ⟨i, hi, e⟩ | h
      · rw [e]; exact hge3 i hi
      · exact h
    have hdis : ∀ i j, i < 64 → j < 23 → ad1 i ≠ ad2 j := fun i j hi hj e => by
      rcases Nat.eq_zero_or_pos j with rfl | h
      · exact (hlt1 i hi).2 (e.trans had2)
      · exact absurd (hlt1 i hi).1 (by rw [e]; exact Nat.not_lt.mpr (hAs2 j hj h))
    have C1 : zCx p s m #[Value.ref b] meth c code 4 RL ret (D, ca, ad1, sa) 64 := ⟨hx, hb, hml, hown, hz, hr, hlocks, hK, by rw [he1]; exact hSt⟩
    have C2 : zCx p s m #[Value.ref b] meth c code 4 RL ret (D, ca, ad2, sa) 23 := ⟨hx, hb, hml, hown, hz, hr, hlocks, hK, by rw [he2]; exact hSt⟩
    clear hB hFc hP hD hPc hDc hS hk1 hz1 hvm ht
    refine W.widen (k := 87) (n := 79514) (by omega) (by omega) ?_
    refine lv_astore_n (lv' := [(2, .ref a2), (1, .ref a), (0, .ref b)]) hx hb dL_law_15 rfl hl (by decide) rfl (fun ls hl => ?_)
    refine lv_iconst (v := 0) hx hb dL_law_16 (by decide) ?_
    refine lv_istore_n (lv' := [(3, .int (0 : Int32)), (2, .ref a2), (1, .ref a), (0, .ref b)]) hx hb dL_law_17 rfl hl (by decide) rfl (fun ls hl => ?_)
    refine law_loop Rel HS l hL (D, ca, ad1, sa) (D, ca, ad2, sa) hJ1 hJ2 he1 he2 hdis C1 C2 hX hbl (L + 6) 0 M1b M2b 0 H3 locs ls (by omega) (by omega) rfl h0 ?_ hPX hP2 hS3
    show lv_has ls 4 [(0, .ref b), (1, .ref (ad1 0)), (2, .ref (ad2 0)), (3, .int (0 : Int32))]
    rw [show ad1 0 = a from had1, show ad2 0 = a2 from had2]
    exact lv_sub hl [3, 2, 1, 0] rfl
  rw [eH, el] at goal
  exact goal

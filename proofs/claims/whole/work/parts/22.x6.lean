def fX6_wayTo_B18 (r10 : Int32 → Int32 → Int32 → Int32 → Int32 → zM → Option (Int32 × zM)) (r18 : Int32 → Int32 → Int32 → Int32 → Int32 → Int32 → zM → Option (Int32 × zM)) (x1 : Int32) (x2 : Int32) (x3 : Int32) (x4 : Int32) (x5 : Int32) (x6 : Int32) (M : zM) : Option (Int32 × zM) :=
  zB (fX6_byFirst x1 x2 x3 x6 M) fun r_4 M_2 =>
  zG (zin (((1000 : Int32) * x2) + x3) 31000) <|
  if r_4 = (M_2.1 16 (((1000 : Int32) * x2) + x3).toNatClampNeg) then
    zV (fX6_turned x3 x6 M_2) fun M_7 =>
    zL (x2 + (M_7.1 0 39)) fun x2_9 =>
    zL (M_7.1 0 38) fun x3_10 =>
    zL (x5 + (1 : Int32)) fun x5_11 =>
    if x5_11 ≤ (9 : Int32) then
      zL ((((10 : Int32) * x4) + x6) + (1 : Int32)) fun x4_13 =>
      r10 x1 x2_9 x3_10 x4_13 x5_11 M_7
    else
      some ((-1 : Int32), M_7)
  else
    zL (x6 + (1 : Int32)) fun x6_14 =>
    r18 x1 x2 x3 x4 x5 x6_14 M_2
def fX6_wayTo_L18 (r10 : Int32 → Int32 → Int32 → Int32 → Int32 → zM → Option (Int32 × zM)) : Nat → Int32 → Int32 → Int32 → Int32 → Int32 → Int32 → zM → Option (Int32 × zM)
  | 0 => fun _ _ _ _ _ _ _ => none
  | j9 + 1 => fX6_wayTo_B18 r10 (fX6_wayTo_L18 r10 j9)
def fX6_wayTo_B10 (r10 : Int32 → Int32 → Int32 → Int32 → Int32 → zM → Option (Int32 × zM)) (x1 : Int32) (x2 : Int32) (x3 : Int32) (x4 : Int32) (x5 : Int32) (M : zM) : Option (Int32 × zM) :=
  if x1 ≤ x2 then
    some (x4, M)
  else
    fX6_wayTo_L18 r10 zF x1 x2 x3 x4 x5 (0 : Int32) M
def fX6_wayTo_L10 : Nat → Int32 → Int32 → Int32 → Int32 → Int32 → zM → Option (Int32 × zM)
  | 0 => fun _ _ _ _ _ _ => none
  | j9 + 1 => fX6_wayTo_B10 (fX6_wayTo_L10 j9)
def fX6_wayTo (x1 : Int32) (M : zM) : Option (Int32 × zM) :=
  fX6_wayTo_L10 zF x1 (0 : Int32) (0 : Int32) (0 : Int32) (0 : Int32) M
set_option maxHeartbeats 4000000 in
set_option maxRecDepth 100000 in
theorem mtX6_wayTo (l : Launch) (G : zGr) (hJ : zJ G 23) (x1 : Int32) (M : zM) (o : Int32 × zM) (hf : fX6_wayTo x1 M = some o) : zMi l G shM 23 yX6_wayTo cX6_wayTo 7 (some .int) 3 73 [.ref (G.2.2.1 0), .int x1] M o := by
  intro sz
  refine zOf (by decide) (Nat.le_of_ble_eq_true rfl) ?_
  intro p e R Q s m args below meth c hRm hsz hQ C0 hP hS ls hl
  subst hsz
  replace hRm : R = { frames := 3, cells := 0, slots := 0, locals := 73 } := hRm
  have hl : lv_has ls 7 [(0, .ref (G.2.2.1 0)), (1, .int x1)] := hl
  have hx := C0.1
  have hb := C0.2.1
  have hown := C0.2.2.2.1
  have hts := C0.2.2.2.2.1
  have L10 : ∀ (n10 : Nat), ∀ (x1 : Int32) (x2 : Int32) (x3 : Int32) (x4 : Int32) (x5 : Int32) (M : zM) (H : Heap) (locs : List Loc) (ls : Array Slot), lv_has ls 7 [(0, .ref (G.2.2.1 0)), (1, .int x1), (2, .int x2), (3, .int x3), (4, .int x4), (5, .int x5)] → va_P G.1 zcl (zw G shM 23 M) H → va_S (zA G 23 s.heap.size) s.heap H locs → fX6_wayTo_L10 n10 x1 x2 x3 x4 x5 M = some o → W p l e R s m args below meth c H locs 0 0 Q (F0 m 10 ls []) := by
    intro n10
    induction n10 with
    | zero => intro x1 x2 x3 x4 x5 M H locs ls hl hP hS hf; exact zn_s (show none = some o from hf)
    | succ n10 ih10 =>
      have L18 : ∀ (n18 : Nat), ∀ (x1 : Int32) (x2 : Int32) (x3 : Int32) (x4 : Int32) (x5 : Int32) (x6 : Int32) (M : zM) (H : Heap) (locs : List Loc) (ls : Array Slot), lv_has ls 7 [(0, .ref (G.2.2.1 0)), (1, .int x1), (2, .int x2), (3, .int x3), (4, .int x4), (5, .int x5), (6, .int x6)] → va_P G.1 zcl (zw G shM 23 M) H → va_S (zA G 23 s.heap.size) s.heap H locs → fX6_wayTo_L18 (fX6_wayTo_L10 n10) n18 x1 x2 x3 x4 x5 x6 M = some o → W p l e R s m args below meth c H locs 0 0 Q (F0 m 18 ls []) := by
        intro n18
        induction n18 with
        | zero => intro x1 x2 x3 x4 x5 x6 M H locs ls hl hP hS hf; exact zn_s (show none = some o from hf)
        | succ n18 ih18 =>
          intro x1 x2 x3 x4 x5 x6 M H locs ls hl hP hS hf
          replace hf : fX6_wayTo_B18 (fX6_wayTo_L10 n10) (fX6_wayTo_L18 (fX6_wayTo_L10 n10) n18) x1 x2 x3 x4 x5 x6 M = some o := hf
          unfold fX6_wayTo_B18 at hf
          refine lv_aload_n hx hb dX6_wayTo_18 rfl (lv_at hl 0 rfl) ?_
          refine lv_iload_n hx hb dX6_wayTo_19 rfl (lv_at hl 1 rfl) ?_
          refine lv_iload_n hx hb dX6_wayTo_20 rfl (lv_at hl 2 rfl) ?_
          refine lv_iload_n hx hb dX6_wayTo_21 rfl (lv_at hl 3 rfl) ?_
          refine lv_iload hx hb dX6_wayTo_22 (lv_at hl 6 rfl) ?_
          obtain ⟨r_4, M_2, hc_3, hf⟩ := zB_o hf
          refine zc_vi (As := [.int x1, .int x2, .int x3, .int x6]) (rest := []) C0 hP hS hl.1 0 (mtX6_byFirst l G hJ x1 x2 x3 x6 M _ hc_3) lk_X6_291 (by decide) shM_0 (T := TX6) (n' := 51) rfl ds_X6_byFirst (by rw [hRm]; exact ⟨Nat.le_of_ble_eq_true rfl, Nat.le_of_ble_eq_true rfl⟩) rfl rfl (Nat.le_of_ble_eq_true rfl) dX6_wayTo_24 ⟨Nat.zero_le _, Nat.zero_le _⟩ (fun H locs hP hS => ?_)
          refine lv_aload_n hx hb dX6_wayTo_27 rfl (lv_at hl 0 rfl) ?_
          refine zr_getq (C := RX6) (T := TX6) (n := 51) C0 hP 0 (by decide) shM_0 37 16 rfl (by decide) uw_X6 mw_591 rfl dX6_wayTo_28 ?_
          refine lv_sipush (v := (1000 : Int32)) hx hb dX6_wayTo_31 (by decide) ?_
          refine lv_iload_n hx hb dX6_wayTo_34 rfl (lv_at hl 2 rfl) ?_
          refine lv_imul hx hb dX6_wayTo_35 ?_
          refine lv_iload_n hx hb dX6_wayTo_36 rfl (lv_at hl 3 rfl) ?_
          refine lv_iadd hx hb dX6_wayTo_37 ?_
          obtain ⟨hg_5, hf⟩ := zG_o hf
          refine zr_iald C0 hP 16 (by decide) shM_16 hg_5 dX6_wayTo_38 ?_
          refine lv_icmp_eq (tgt := 48) hx hb dX6_wayTo_39 (by decide) (fun c_6 => ?_) (fun c_6 => ?_)
          · replace hf := zI_t c_6 hf
            refine lv_aload_n hx hb dX6_wayTo_48 rfl (lv_at hl 0 rfl) ?_
            refine lv_iload_n hx hb dX6_wayTo_49 rfl (lv_at hl 3 rfl) ?_
            refine lv_iload hx hb dX6_wayTo_50 (lv_at hl 6 rfl) ?_
            obtain ⟨M_7, hc_8, hf⟩ := zV_o hf
            refine zc_vv (As := [.int x3, .int x6]) (rest := []) C0 hP hS hl.1 0 (mtX6_turned l G hJ x3 x6 M_2 _ hc_8) lk_X6_272 (by decide) shM_0 (T := TX6) (n' := 51) rfl ds_X6_turned (by rw [hRm]; exact ⟨Nat.le_of_ble_eq_true rfl, Nat.le_of_ble_eq_true rfl⟩) rfl rfl (Nat.le_of_ble_eq_true rfl) dX6_wayTo_52 ⟨Nat.zero_le _, Nat.zero_le _⟩ (fun H locs hP hS => ?_)
            refine lv_iload_n hx hb dX6_wayTo_55 rfl (lv_at hl 2 rfl) ?_
            refine lv_aload_n hx hb dX6_wayTo_56 rfl (lv_at hl 0 rfl) ?_
            refine zr_get (C := RX6) (T := TX6) (n := 51) C0 hP 0 (by decide) shM_0 39 rfl (by decide) uw_X6 mw_568 rfl dX6_wayTo_57 ?_
            refine lv_iadd hx hb dX6_wayTo_60 ?_
            refine lv_topi (fun x2_9 ex2_9 => ?_)
            replace hf := zL_e ex2_9 hf
            refine lv_istore_n (lv' := [(2, .int x2_9), (0, .ref (G.2.2.1 0)), (1, .int x1), (3, .int x3), (4, .int x4), (5, .int x5), (6, .int x6)]) hx hb dX6_wayTo_61 rfl hl (by decide) rfl (fun ls hl => ?_)
            refine lv_aload_n hx hb dX6_wayTo_62 rfl (lv_at hl 1 rfl) ?_
            refine zr_get (C := RX6) (T := TX6) (n := 51) C0 hP 0 (by decide) shM_0 38 rfl (by decide) uw_X6 mw_569 rfl dX6_wayTo_63 ?_
            refine lv_topi (fun x3_10 ex3_10 => ?_)
            replace hf := zL_e ex3_10 hf
            refine lv_istore_n (lv' := [(3, .int x3_10), (2, .int x2_9), (0, .ref (G.2.2.1 0)), (1, .int x1), (4, .int x4), (5, .int x5), (6, .int x6)]) hx hb dX6_wayTo_66 rfl hl (by decide) rfl (fun ls hl => ?_)
            obtain ⟨x5_11, ex5_11, hf⟩ := zL_o hf
            refine lv_iinc (v := x5_11) (lv' := [(5, .int x5_11), (3, .int x3_10), (2, .int x2_9), (0, .ref (G.2.2.1 0)), (1, .int x1), (4, .int x4), (6, .int x6)]) hx hb dX6_wayTo_67 hl (k := 5) rfl (by rw [ex5_11]; rfl) (by decide) rfl (fun ls hl => ?_)
            refine lv_iload hx hb dX6_wayTo_70 (lv_at hl 0 rfl) ?_
            refine lv_bipush (v := (9 : Int32)) hx hb dX6_wayTo_72 (by decide) ?_
            refine lv_icmp_le (tgt := 79) hx hb dX6_wayTo_74 (by decide) (fun c_12 => ?_) (fun c_12 => ?_)
            · replace hf := zI_t c_12 hf
              refine lv_bipush (v := (10 : Int32)) hx hb dX6_wayTo_79 (by decide) ?_
              refine lv_iload hx hb dX6_wayTo_81 (lv_at hl 5 rfl) ?_
              refine lv_imul hx hb dX6_wayTo_83 ?_
              refine lv_iload hx hb dX6_wayTo_84 (lv_at hl 6 rfl) ?_
              refine lv_iadd hx hb dX6_wayTo_86 ?_
              refine lv_iconst (v := (1 : Int32)) hx hb dX6_wayTo_87 (by decide) ?_
              refine lv_iadd hx hb dX6_wayTo_88 ?_
              refine lv_topi (fun x4_13 ex4_13 => ?_)
              replace hf := zL_e ex4_13 hf
              refine lv_istore (lv' := [(4, .int x4_13), (5, .int x5_11), (3, .int x3_10), (2, .int x2_9), (0, .ref (G.2.2.1 0)), (1, .int x1), (6, .int x6)]) hx hb dX6_wayTo_89 hl (by decide) rfl (fun ls hl => ?_)
              refine lv_goto (tgt := 10) hx hb dX6_wayTo_91 (by decide) ?_
              exact ih10 x1 x2_9 x3_10 x4_13 x5_11 M_7 H locs ls (lv_sub hl [4, 5, 3, 2, 0, 1] rfl) hP hS hf
            · replace hf := zI_f c_12 hf
              refine lv_iconst (v := (-1 : Int32)) hx hb dX6_wayTo_77 (by decide) ?_
              exact ze_i C0 hP hS hf dX6_wayTo_78 hQ
          · replace hf := zI_f c_6 hf
            obtain ⟨x6_14, ex6_14, hf⟩ := zL_o hf
            refine lv_iinc (v := x6_14) (lv' := [(6, .int x6_14), (0, .ref (G.2.2.1 0)), (1, .int x1), (2, .int x2), (3, .int x3), (4, .int x4), (5, .int x5)]) hx hb dX6_wayTo_42 hl (k := 6) rfl (by rw [ex6_14]; rfl) (by decide) rfl (fun ls hl => ?_)
            refine lv_goto (tgt := 18) hx hb dX6_wayTo_45 (by decide) ?_
            exact ih18 x1 x2 x3 x4 x5 x6_14 M_2 H locs ls (lv_sub hl [1, 2, 3, 4, 5, 6, 0] rfl) hP hS hf
      intro x1 x2 x3 x4 x5 M H locs ls hl hP hS hf
      replace hf : fX6_wayTo_B10 (fX6_wayTo_L10 n10) x1 x2 x3 x4 x5 M = some o := hf
      unfold fX6_wayTo_B10 at hf
      refine lv_iload_n hx hb dX6_wayTo_10 rfl (lv_at hl 2 rfl) ?_
      refine lv_iload_n hx hb dX6_wayTo_11 rfl (lv_at hl 1 rfl) ?_
      refine lv_icmp_ge (tgt := 94) hx hb dX6_wayTo_12 (by decide) (fun c_1 => ?_) (fun c_1 => ?_)
      · replace hf := zI_t c_1 hf
        refine lv_iload hx hb dX6_wayTo_94 (lv_at hl 4 rfl) ?_
        exact ze_i C0 hP hS hf dX6_wayTo_96 hQ
      · replace hf := zI_f c_1 hf
        refine lv_iconst (v := (0 : Int32)) hx hb dX6_wayTo_15 (by decide) ?_
        refine lv_istore (lv' := [(6, .int (0 : Int32)), (0, .ref (G.2.2.1 0)), (1, .int x1), (2, .int x2), (3, .int x3), (4, .int x4), (5, .int x5)]) hx hb dX6_wayTo_16 hl (by decide) rfl (fun ls hl => ?_)
        exact L18 zF x1 x2 x3 x4 x5 (0 : Int32) M H locs ls (lv_sub hl [1, 2, 3, 4, 5, 6, 0] rfl) hP hS hf
  unfold fX6_wayTo at hf
  obtain ⟨H, eH⟩ : ∃ H, H = s.heap := ⟨_, rfl⟩
  obtain ⟨locs, el⟩ : ∃ locs : List Loc, locs = [] := ⟨_, rfl⟩
  rw [← eH] at hP ⊢
  have hS : va_S (zA G 23 s.heap.size) s.heap H locs := by rw [eH, el]; exact hS
  rw [← el]
  refine lv_iconst (v := (0 : Int32)) hx hb dX6_wayTo_0 (by decide) ?_
  refine lv_istore_n (lv' := [(2, .int (0 : Int32)), (0, .ref (G.2.2.1 0)), (1, .int x1)]) hx hb dX6_wayTo_1 rfl hl (by decide) rfl (fun ls hl => ?_)
  refine lv_iconst (v := (0 : Int32)) hx hb dX6_wayTo_2 (by decide) ?_
  refine lv_istore_n (lv' := [(3, .int (0 : Int32)), (2, .int (0 : Int32)), (0, .ref (G.2.2.1 0)), (1, .int x1)]) hx hb dX6_wayTo_3 rfl hl (by decide) rfl (fun ls hl => ?_)
  refine lv_iconst (v := (0 : Int32)) hx hb dX6_wayTo_4 (by decide) ?_
  refine lv_istore (lv' := [(4, .int (0 : Int32)), (3, .int (0 : Int32)), (2, .int (0 : Int32)), (0, .ref (G.2.2.1 0)), (1, .int x1)]) hx hb dX6_wayTo_5 hl (by decide) rfl (fun ls hl => ?_)
  refine lv_iconst (v := (0 : Int32)) hx hb dX6_wayTo_7 (by decide) ?_
  refine lv_istore (lv' := [(5, .int (0 : Int32)), (4, .int (0 : Int32)), (3, .int (0 : Int32)), (2, .int (0 : Int32)), (0, .ref (G.2.2.1 0)), (1, .int x1)]) hx hb dX6_wayTo_8 hl (by decide) rfl (fun ls hl => ?_)
  exact L10 zF x1 (0 : Int32) (0 : Int32) (0 : Int32) (0 : Int32) M H locs ls (lv_sub hl [4, 5, 3, 2, 1, 0] rfl) hP hS hf
def fX6_isMinute (x0 : Int32) (M : zM) : Option (Int32 × zM) :=
  zB (fX6_within x0 (1 : Int32) (30 : Int32) M) fun r_3 M_1 =>
  zG (zbo r_3) <|
  some (r_3, M_1)
set_option maxHeartbeats 4000000 in
set_option maxRecDepth 100000 in
theorem mtX6_isMinute (l : Launch) (G : zGr) (hJ : zJ G 23) (x0 : Int32) (M : zM) (o : Int32 × zM) (hf : fX6_isMinute x0 M = some o) : zMi l G shM 23 yX6_isMinute cX6_isMinute 1 (some .boolean) 1 22 [.int x0] M o := by
  intro sz
  refine zOf (by decide) (Nat.le_of_ble_eq_true rfl) ?_
  intro p e R Q s m args below meth c hRm hsz hQ C0 hP hS ls hl
  subst hsz
  replace hRm : R = { frames := 1, cells := 0, slots := 0, locals := 22 } := hRm
  have hl : lv_has ls 1 [(0, .int x0)] := hl
  have hx := C0.1
  have hb := C0.2.1
  have hown := C0.2.2.2.1
  have hts := C0.2.2.2.2.1
  unfold fX6_isMinute at hf
  obtain ⟨H, eH⟩ : ∃ H, H = s.heap := ⟨_, rfl⟩
  obtain ⟨locs, el⟩ : ∃ locs : List Loc, locs = [] := ⟨_, rfl⟩
  rw [← eH] at hP ⊢
  have hS : va_S (zA G 23 s.heap.size) s.heap H locs := by rw [eH, el]; exact hS
  rw [← el]
  refine lv_iload_n hx hb dX6_isMinute_0 rfl (lv_at hl 0 rfl) ?_
  refine lv_iconst (v := (1 : Int32)) hx hb dX6_isMinute_1 (by decide) ?_
  refine lv_bipush (v := (30 : Int32)) hx hb dX6_isMinute_2 (by decide) ?_
  obtain ⟨r_3, M_1, hc_2, hf⟩ := zB_o hf
  refine zc_si (As := [.int x0, .int (1 : Int32), .int (30 : Int32)]) (rest := []) C0 hP hS hl.1 (mtX6_within l G hJ x0 (1 : Int32) (30 : Int32) M _ hc_2) ls_X6_88 ds_X6_within (by rw [hRm]; exact ⟨Nat.le_of_ble_eq_true rfl, Nat.le_of_ble_eq_true rfl⟩) rfl rfl (Nat.le_of_ble_eq_true rfl) dX6_isMinute_4 ⟨Nat.zero_le _, Nat.zero_le _⟩ (fun H locs hP hS => ?_)
  obtain ⟨hg_4, hf⟩ := zG_o hf
  exact ze_z C0 hP hS hg_4 hf dX6_isMinute_7 hQ
def fX6_nextTold_B8 (r8 : Int64 → Int32 → zM → Option (Int32 × zM)) (x2 : Int64) (x4 : Int32) (M : zM) : Option (Int32 × zM) :=
  if (30 : Int32) < x4 then
    some ((-1 : Int32), M)
  else
    if (zcmp ((zlshr x2 x4) &&& (1 : Int64)) (1 : Int64)) = (0 : Int32) then
      some (x4, M)
    else
      zL (x4 + (1 : Int32)) fun x4_6 =>
      r8 x2 x4_6 M
def fX6_nextTold_L8 : Nat → Int64 → Int32 → zM → Option (Int32 × zM)
  | 0 => fun _ _ _ => none
  | j9 + 1 => fX6_nextTold_B8 (fX6_nextTold_L8 j9)
def fX6_nextTold (x1 : Int32) (M : zM) : Option (Int32 × zM) :=
  zB (fX6_toldTimes M) fun r_3 M_1 =>
  fX6_nextTold_L8 zF r_3 x1 M_1
set_option maxHeartbeats 4000000 in
set_option maxRecDepth 100000 in
theorem mtX6_nextTold (l : Launch) (G : zGr) (hJ : zJ G 23) (x1 : Int32) (M : zM) (o : Int32 × zM) (hf : fX6_nextTold x1 M = some o) : zMi l G shM 23 yX6_nextTold cX6_nextTold 5 (some .int) 3 73 [.ref (G.2.2.1 0), .int x1] M o := by
  intro sz
  refine zOf (by decide) (Nat.le_of_ble_eq_true rfl) ?_
  intro p e R Q s m args below meth c hRm hsz hQ C0 hP hS ls hl
  subst hsz
  replace hRm : R = { frames := 3, cells := 0, slots := 0, locals := 73 } := hRm
  have hl : lv_has ls 5 [(0, .ref (G.2.2.1 0)), (1, .int x1)] := hl
  have hx := C0.1
  have hb := C0.2.1
  have hown := C0.2.2.2.1
  have hts := C0.2.2.2.2.1
  have L8 : ∀ (n8 : Nat), ∀ (x2 : Int64) (x4 : Int32) (M : zM) (H : Heap) (locs : List Loc) (ls : Array Slot), lv_has ls 5 [(2, .long x2), (4, .int x4)] → va_P G.1 zcl (zw G shM 23 M) H → va_S (zA G 23 s.heap.size) s.heap H locs → fX6_nextTold_L8 n8 x2 x4 M = some o → W p l e R s m args below meth c H locs 0 0 Q (F0 m 8 ls []) := by
    intro n8
    induction n8 with
    | zero => intro x2 x4 M H locs ls hl hP hS hf; exact zn_s (show none = some o from hf)
    | succ n8 ih8 =>
      intro x2 x4 M H locs ls hl hP hS hf
      replace hf : fX6_nextTold_B8 (fX6_nextTold_L8 n8) x2 x4 M = some o := hf
      unfold fX6_nextTold_B8 at hf
      refine lv_iload hx hb dX6_nextTold_8 (lv_at hl 1 rfl) ?_
      refine lv_bipush (v := (30 : Int32)) hx hb dX6_nextTold_10 (by decide) ?_
      refine lv_icmp_gt (tgt := 35) hx hb dX6_nextTold_12 (by decide) (fun c_4 => ?_) (fun c_4 => ?_)
      · replace hf := zI_t c_4 hf
        refine lv_iconst (v := (-1 : Int32)) hx hb dX6_nextTold_35 (by decide) ?_
        exact ze_i C0 hP hS hf dX6_nextTold_36 hQ
      · replace hf := zI_f c_4 hf
        refine lv_lload_n hx hb dX6_nextTold_15 rfl (lv_at hl 0 rfl) ?_
        refine lv_iload hx hb dX6_nextTold_16 (lv_at hl 1 rfl) ?_
        refine zo_lshr hx hb dX6_nextTold_18 ?_
        refine lv_lconst (v := (1 : Int64)) hx hb dX6_nextTold_19 (by decide) ?_
        refine lv_land hx hb dX6_nextTold_20 ?_
        refine lv_lconst (v := (1 : Int64)) hx hb dX6_nextTold_21 (by decide) ?_
        refine zo_lcmp hx hb dX6_nextTold_22 ?_
        refine lv_if_ne (tgt := 29) hx hb dX6_nextTold_23 (by decide) (fun c_5 => ?_) (fun c_5 => ?_)
        · replace hf := zI_f c_5 hf
          obtain ⟨x4_6, ex4_6, hf⟩ := zL_o hf
          refine lv_iinc (v := x4_6) (lv' := [(4, .int x4_6), (2, .long x2)]) hx hb dX6_nextTold_29 hl (k := 1) rfl (by rw [ex4_6]; rfl) (by decide) rfl (fun ls hl => ?_)
          refine lv_goto (tgt := 8) hx hb dX6_nextTold_32 (by decide) ?_
          exact ih8 x2 x4_6 M H locs ls (lv_sub hl [1, 0] rfl) hP hS hf
        · replace hf := zI_t c_5 hf
          refine lv_iload hx hb dX6_nextTold_26 (lv_at hl 1 rfl) ?_
          exact ze_i C0 hP hS hf dX6_nextTold_28 hQ
  unfold fX6_nextTold at hf
  obtain ⟨H, eH⟩ : ∃ H, H = s.heap := ⟨_, rfl⟩
  obtain ⟨locs, el⟩ : ∃ locs : List Loc, locs = [] := ⟨_, rfl⟩
  rw [← eH] at hP ⊢
  have hS : va_S (zA G 23 s.heap.size) s.heap H locs := by rw [eH, el]; exact hS
  rw [← el]
  refine lv_aload_n hx hb dX6_nextTold_0 rfl (lv_at hl 0 rfl) ?_
  obtain ⟨r_3, M_1, hc_2, hf⟩ := zB_o hf
  refine zc_vl (As := []) (rest := []) C0 hP hS hl.1 0 (mtX6_toldTimes l G hJ M _ hc_2) lk_X6_284 (by decide) shM_0 (T := TX6) (n' := 51) rfl ds_X6_toldTimes (by rw [hRm]; exact ⟨Nat.le_of_ble_eq_true rfl, Nat.le_of_ble_eq_true rfl⟩) rfl rfl (Nat.le_of_ble_eq_true rfl) dX6_nextTold_1 ⟨Nat.zero_le _, Nat.zero_le _⟩ (fun H locs hP hS => ?_)
  refine lv_lstore_n (lv' := [(2, .long r_3), (0, .ref (G.2.2.1 0)), (1, .int x1)]) hx hb dX6_nextTold_4 rfl hl (by decide) rfl (fun ls hl => ?_)
  refine lv_iload_n hx hb dX6_nextTold_5 rfl (lv_at hl 2 rfl) ?_
  refine lv_istore (lv' := [(4, .int x1), (2, .long r_3), (0, .ref (G.2.2.1 0)), (1, .int x1)]) hx hb dX6_nextTold_6 hl (by decide) rfl (fun ls hl => ?_)
  exact L8 zF r_3 x1 M_1 H locs ls (lv_sub hl [1, 0] rfl) hP hS hf
def fX6_fewest (x1 : Int32) (x2 : Int32) (x3 : Int32) (M : zM) : Option (Int32 × zM) :=
  zB (fX6_areThree x1 M) fun r_3 M_1 =>
  if r_3 = (0 : Int32) then
    some ((-2 : Int32), M_1)
  else
    zB (fX6_isMinute x2 M_1) fun r_7 M_5 =>
    if r_7 = (0 : Int32) then
      some ((-2 : Int32), M_5)
    else
      zB (fX6_within x3 (0 : Int32) (2 : Int32) M_5) fun r_11 M_9 =>
      if r_11 = (0 : Int32) then
        some ((-2 : Int32), M_9)
      else
        zV (fX6_pours x1 M_9) fun M_13 =>
        if x3 = (2 : Int32) then
          zB (fX6_nextTold x2 M_13) fun r_25 M_23 =>
          some (r_25, M_23)
        else
          zV (fX6_counts x2 M_13) fun M_16 =>
          if (M_16.1 16 (0 : Int32).toNatClampNeg) < (9999 : Int32) then
            if x3 = (0 : Int32) then
              some ((M_16.1 16 (0 : Int32).toNatClampNeg), M_16)
            else
              zB (fX6_wayTo x2 M_16) fun r_22 M_20 =>
              some (r_22, M_20)
          else
            some ((-1 : Int32), M_16)
set_option maxHeartbeats 4000000 in
set_option maxRecDepth 100000 in
theorem mtX6_fewest (l : Launch) (G : zGr) (hJ : zJ G 23) (x1 : Int32) (x2 : Int32) (x3 : Int32) (M : zM) (o : Int32 × zM) (hf : fX6_fewest x1 x2 x3 M = some o) : zMi l G shM 23 yX6_fewest cX6_fewest 4 (some .int) 6 134 [.ref (G.2.2.1 0), .int x1, .int x2, .int x3] M o := by
  intro sz
  refine zOf (by decide) (Nat.le_of_ble_eq_true rfl) ?_
  intro p e R Q s m args below meth c hRm hsz hQ C0 hP hS ls hl
  subst hsz
  replace hRm : R = { frames := 6, cells := 0, slots := 0, locals := 134 } := hRm
  have hl : lv_has ls 4 [(0, .ref (G.2.2.1 0)), (1, .int x1), (2, .int x2), (3, .int x3)] := hl
  have hx := C0.1
  have hb := C0.2.1
  have hown := C0.2.2.2.1
  have hts := C0.2.2.2.2.1
  unfold fX6_fewest at hf
  obtain ⟨H, eH⟩ : ∃ H, H = s.heap := ⟨_, rfl⟩
  obtain ⟨locs, el⟩ : ∃ locs : List Loc, locs = [] := ⟨_, rfl⟩
  rw [← eH] at hP ⊢
  have hS : va_S (zA G 23 s.heap.size) s.heap H locs := by rw [eH, el]; exact hS
  rw [← el]
  refine lv_aload_n hx hb dX6_fewest_0 rfl (lv_at hl 0 rfl) ?_
  refine lv_iload_n hx hb dX6_fewest_1 rfl (lv_at hl 1 rfl) ?_
  obtain ⟨r_3, M_1, hc_2, hf⟩ := zB_o hf
  refine zc_vi (As := [.int x1]) (rest := []) C0 hP hS hl.1 0 (mtX6_areThree l G hJ x1 M _ hc_2) lk_X6_276 (by decide) shM_0 (T := TX6) (n' := 51) rfl ds_X6_areThree (by rw [hRm]; exact ⟨Nat.le_of_ble_eq_true rfl, Nat.le_of_ble_eq_true rfl⟩) rfl rfl (Nat.le_of_ble_eq_true rfl) dX6_fewest_2 ⟨Nat.zero_le _, Nat.zero_le _⟩ (fun H locs hP hS => ?_)
  refine lv_if_eq (tgt := 24) hx hb dX6_fewest_5 (by decide) (fun c_4 => ?_) (fun c_4 => ?_)
  · replace hf := zI_t c_4 hf
    refine lv_bipush (v := (-2 : Int32)) hx hb dX6_fewest_24 (by decide) ?_
    exact ze_i C0 hP hS hf dX6_fewest_26 hQ
  · replace hf := zI_f c_4 hf
    refine lv_iload_n hx hb dX6_fewest_8 rfl (lv_at hl 2 rfl) ?_
    obtain ⟨r_7, M_5, hc_6, hf⟩ := zB_o hf
    refine zc_si (As := [.int x2]) (rest := []) C0 hP hS hl.1 (mtX6_isMinute l G hJ x2 M_1 _ hc_6) ls_X6_298 ds_X6_isMinute (by rw [hRm]; exact ⟨Nat.le_of_ble_eq_true rfl, Nat.le_of_ble_eq_true rfl⟩) rfl rfl (Nat.le_of_ble_eq_true rfl) dX6_fewest_9 ⟨Nat.zero_le _, Nat.zero_le _⟩ (fun H locs hP hS => ?_)
    refine lv_if_eq (tgt := 24) hx hb dX6_fewest_12 (by decide) (fun c_8 => ?_) (fun c_8 => ?_)
    · replace hf := zI_t c_8 hf
      refine lv_bipush (v := (-2 : Int32)) hx hb dX6_fewest_24 (by decide) ?_
      exact ze_i C0 hP hS hf dX6_fewest_26 hQ
    · replace hf := zI_f c_8 hf
      refine lv_iload_n hx hb dX6_fewest_15 rfl (lv_at hl 3 rfl) ?_
      refine lv_iconst (v := (0 : Int32)) hx hb dX6_fewest_16 (by decide) ?_
      refine lv_iconst (v := (2 : Int32)) hx hb dX6_fewest_17 (by decide) ?_
      obtain ⟨r_11, M_9, hc_10, hf⟩ := zB_o hf
      refine zc_si (As := [.int x3, .int (0 : Int32), .int (2 : Int32)]) (rest := []) C0 hP hS hl.1 (mtX6_within l G hJ x3 (0 : Int32) (2 : Int32) M_5 _ hc_10) ls_X6_88 ds_X6_within (by rw [hRm]; exact ⟨Nat.le_of_ble_eq_true rfl, Nat.le_of_ble_eq_true rfl⟩) rfl rfl (Nat.le_of_ble_eq_true rfl) dX6_fewest_18 ⟨Nat.zero_le _, Nat.zero_le _⟩ (fun H locs hP hS => ?_)
      refine lv_if_ne (tgt := 27) hx hb dX6_fewest_21 (by decide) (fun c_12 => ?_) (fun c_12 => ?_)
      · replace hf := zI_f c_12 hf
        refine lv_aload_n hx hb dX6_fewest_27 rfl (lv_at hl 0 rfl) ?_
        refine lv_iload_n hx hb dX6_fewest_28 rfl (lv_at hl 1 rfl) ?_
        obtain ⟨M_13, hc_14, hf⟩ := zV_o hf
        refine zc_vv (As := [.int x1]) (rest := []) C0 hP hS hl.1 0 (mtX6_pours l G hJ x1 M_9 _ hc_14) lk_X6_281 (by decide) shM_0 (T := TX6) (n' := 51) rfl ds_X6_pours (by rw [hRm]; exact ⟨Nat.le_of_ble_eq_true rfl, Nat.le_of_ble_eq_true rfl⟩) rfl rfl (Nat.le_of_ble_eq_true rfl) dX6_fewest_29 ⟨Nat.zero_le _, Nat.zero_le _⟩ (fun H locs hP hS => ?_)
        refine lv_iload_n hx hb dX6_fewest_32 rfl (lv_at hl 3 rfl) ?_
        refine lv_iconst (v := (2 : Int32)) hx hb dX6_fewest_33 (by decide) ?_
        refine lv_icmp_ne (tgt := 43) hx hb dX6_fewest_34 (by decide) (fun c_15 => ?_) (fun c_15 => ?_)
        · replace hf := zI_f c_15 hf
          refine lv_aload_n hx hb dX6_fewest_43 rfl (lv_at hl 0 rfl) ?_
          refine lv_iload_n hx hb dX6_fewest_44 rfl (lv_at hl 2 rfl) ?_
          obtain ⟨M_16, hc_17, hf⟩ := zV_o hf
          refine zc_vv (As := [.int x2]) (rest := []) C0 hP hS hl.1 0 (mtX6_counts l G hJ x2 M_13 _ hc_17) lk_X6_304 (by decide) shM_0 (T := TX6) (n' := 51) rfl ds_X6_counts (by rw [hRm]; exact ⟨Nat.le_of_ble_eq_true rfl, Nat.le_of_ble_eq_true rfl⟩) rfl rfl (Nat.le_of_ble_eq_true rfl) dX6_fewest_45 ⟨Nat.zero_le _, Nat.zero_le _⟩ (fun H locs hP hS => ?_)
          refine lv_aload_n hx hb dX6_fewest_48 rfl (lv_at hl 0 rfl) ?_
          refine zr_getq (C := RX6) (T := TX6) (n := 51) C0 hP 0 (by decide) shM_0 37 16 rfl (by decide) uw_X6 mw_591 rfl dX6_fewest_49 ?_
          refine lv_iconst (v := (0 : Int32)) hx hb dX6_fewest_52 (by decide) ?_
          refine zr_iald C0 hP 16 (by decide) shM_16 (by decide) dX6_fewest_53 ?_
          refine lv_sipush (v := (9999 : Int32)) hx hb dX6_fewest_54 (by decide) ?_
          refine lv_icmp_lt (tgt := 62) hx hb dX6_fewest_57 (by decide) (fun c_18 => ?_) (fun c_18 => ?_)
          · replace hf := zI_t c_18 hf
            refine lv_iload_n hx hb dX6_fewest_62 rfl (lv_at hl 3 rfl) ?_
            refine lv_if_ne (tgt := 75) hx hb dX6_fewest_63 (by decide) (fun c_19 => ?_) (fun c_19 => ?_)
            · replace hf := zI_f c_19 hf
              refine lv_aload_n hx hb dX6_fewest_75 rfl (lv_at hl 0 rfl) ?_
              refine lv_iload_n hx hb dX6_fewest_76 rfl (lv_at hl 2 rfl) ?_
              obtain ⟨r_22, M_20, hc_21, hf⟩ := zB_o hf
              refine zc_vi (As := [.int x2]) (rest := []) C0 hP hS hl.1 0 (mtX6_wayTo l G hJ x2 M_16 _ hc_21) lk_X6_307 (by decide) shM_0 (T := TX6) (n' := 51) rfl ds_X6_wayTo (by rw [hRm]; exact ⟨Nat.le_of_ble_eq_true rfl, Nat.le_of_ble_eq_true rfl⟩) rfl rfl (Nat.le_of_ble_eq_true rfl) dX6_fewest_77 ⟨Nat.zero_le _, Nat.zero_le _⟩ (fun H locs hP hS => ?_)
              exact ze_i C0 hP hS hf dX6_fewest_80 hQ
            · replace hf := zI_t c_19 hf
              refine lv_aload_n hx hb dX6_fewest_66 rfl (lv_at hl 0 rfl) ?_
              refine zr_getq (C := RX6) (T := TX6) (n := 51) C0 hP 0 (by decide) shM_0 37 16 rfl (by decide) uw_X6 mw_591 rfl dX6_fewest_67 ?_
              refine lv_iconst (v := (0 : Int32)) hx hb dX6_fewest_70 (by decide) ?_
              refine zr_iald C0 hP 16 (by decide) shM_16 (by decide) dX6_fewest_71 ?_
              refine lv_goto (tgt := 80) hx hb dX6_fewest_72 (by decide) ?_
              exact ze_i C0 hP hS hf dX6_fewest_80 hQ
          · replace hf := zI_f c_18 hf
            refine lv_iconst (v := (-1 : Int32)) hx hb dX6_fewest_60 (by decide) ?_
            exact ze_i C0 hP hS hf dX6_fewest_61 hQ
        · replace hf := zI_t c_15 hf
          refine lv_aload_n hx hb dX6_fewest_37 rfl (lv_at hl 0 rfl) ?_
          refine lv_iload_n hx hb dX6_fewest_38 rfl (lv_at hl 2 rfl) ?_
          obtain ⟨r_25, M_23, hc_24, hf⟩ := zB_o hf
          refine zc_vi (As := [.int x2]) (rest := []) C0 hP hS hl.1 0 (mtX6_nextTold l G hJ x2 M_13 _ hc_24) lk_X6_301 (by decide) shM_0 (T := TX6) (n' := 51) rfl ds_X6_nextTold (by rw [hRm]; exact ⟨Nat.le_of_ble_eq_true rfl, Nat.le_of_ble_eq_true rfl⟩) rfl rfl (Nat.le_of_ble_eq_true rfl) dX6_fewest_39 ⟨Nat.zero_le _, Nat.zero_le _⟩ (fun H locs hP hS => ?_)
          exact ze_i C0 hP hS hf dX6_fewest_42 hQ
      · replace hf := zI_t c_12 hf
        refine lv_bipush (v := (-2 : Int32)) hx hb dX6_fewest_24 (by decide) ?_
        exact ze_i C0 hP hS hf dX6_fewest_26 hQ
def fX6_best_B40 (r40 : Int32 → Int32 → Int32 → Int32 → Int32 → zM → Option (Int32 × zM)) (x1 : Int32) (x2 : Int32) (x3 : Int32) (x4 : Int32) (x5 : Int32) (M : zM) : Option (Int32 × zM) :=
  if (1000 : Int32) ≤ x5 then
    if x2 = (0 : Int32) then
      some (x3, M)
    else
      if x3 = (-1 : Int32) then
        some ((-1 : Int32), M)
      else
        some (x4, M)
  else
    if (zrm (x5 / (10 : Int32)) (10 : Int32)) ≤ (x5 / (100 : Int32)) then
      zL (x5 + (1 : Int32)) fun x5_14 =>
      r40 x1 x2 x3 x4 x5_14 M
    else
      if (zrm x5 (10 : Int32)) ≤ (zrm (x5 / (10 : Int32)) (10 : Int32)) then
        zL (x5 + (1 : Int32)) fun x5_16 =>
        r40 x1 x2 x3 x4 x5_16 M
      else
        zB (fX6_areThree x5 M) fun r_19 M_17 =>
        if r_19 = (0 : Int32) then
          zL (x5 + (1 : Int32)) fun x5_29 =>
          r40 x1 x2 x3 x4 x5_29 M_17
        else
          zV (fX6_pours x5 M_17) fun M_21 =>
          zV (fX6_counts x1 M_21) fun M_23 =>
          if (M_23.1 16 (0 : Int32).toNatClampNeg) < x4 then
            zL (M_23.1 16 (0 : Int32).toNatClampNeg) fun x4_26 =>
            zL (x5 + (1 : Int32)) fun x5_27 =>
            r40 x1 x2 x5 x4_26 x5_27 M_23
          else
            zL (x5 + (1 : Int32)) fun x5_28 =>
            r40 x1 x2 x3 x4 x5_28 M_23
def fX6_best_L40 : Nat → Int32 → Int32 → Int32 → Int32 → Int32 → zM → Option (Int32 × zM)
  | 0 => fun _ _ _ _ _ _ => none
  | j9 + 1 => fX6_best_B40 (fX6_best_L40 j9)
def fX6_best (x1 : Int32) (x2 : Int32) (M : zM) : Option (Int32 × zM) :=
  zB (fX6_isMinute x1 M) fun r_3 M_1 =>
  if r_3 = (0 : Int32) then
    some ((-2 : Int32), M_1)
  else
    zB (fX6_within x2 (0 : Int32) (1 : Int32) M_1) fun r_7 M_5 =>
    if r_7 = (0 : Int32) then
      some ((-2 : Int32), M_5)
    else
      if (M_5.1 0 2) ≤ (4 : Int32) then
        fX6_best_L40 zF x1 x2 (-1 : Int32) (9999 : Int32) (0 : Int32) M_5
      else
        some ((-3 : Int32), M_5)
set_option maxHeartbeats 4000000 in
set_option maxRecDepth 100000 in
theorem mtX6_best (l : Launch) (G : zGr) (hJ : zJ G 23) (x1 : Int32) (x2 : Int32) (M : zM) (o : Int32 × zM) (hf : fX6_best x1 x2 M = some o) : zMi l G shM 23 yX6_best cX6_best 6 (some .int) 6 134 [.ref (G.2.2.1 0), .int x1, .int x2] M o := by
  intro sz
  refine zOf (by decide) (Nat.le_of_ble_eq_true rfl) ?_
  intro p e R Q s m args below meth c hRm hsz hQ C0 hP hS ls hl
  subst hsz
  replace hRm : R = { frames := 6, cells := 0, slots := 0, locals := 134 } := hRm
  have hl : lv_has ls 6 [(0, .ref (G.2.2.1 0)), (1, .int x1), (2, .int x2)] := hl
  have hx := C0.1
  have hb := C0.2.1
  have hown := C0.2.2.2.1
  have hts := C0.2.2.2.2.1
  have L40 : ∀ (n40 : Nat), ∀ (x1 : Int32) (x2 : Int32) (x3 : Int32) (x4 : Int32) (x5 : Int32) (M : zM) (H : Heap) (locs : List Loc) (ls : Array Slot), lv_has ls 6 [(0, .ref (G.2.2.1 0)), (1, .int x1), (2, .int x2), (3, .int x3), (4, .int x4), (5, .int x5)] → va_P G.1 zcl (zw G shM 23 M) H → va_S (zA G 23 s.heap.size) s.heap H locs → fX6_best_L40 n40 x1 x2 x3 x4 x5 M = some o → W p l e R s m args below meth c H locs 0 0 Q (F0 m 40 ls []) := by
    intro n40
    induction n40 with
    | zero => intro x1 x2 x3 x4 x5 M H locs ls hl hP hS hf; exact zn_s (show none = some o from hf)
    | succ n40 ih40 =>
      intro x1 x2 x3 x4 x5 M H locs ls hl hP hS hf
      replace hf : fX6_best_B40 (fX6_best_L40 n40) x1 x2 x3 x4 x5 M = some o := hf
      unfold fX6_best_B40 at hf
      refine lv_iload hx hb dX6_best_40 (lv_at hl 5 rfl) ?_
      refine lv_sipush (v := (1000 : Int32)) hx hb dX6_best_42 (by decide) ?_
      refine lv_icmp_ge (tgt := 134) hx hb dX6_best_45 (by decide) (fun c_10 => ?_) (fun c_10 => ?_)
      · replace hf := zI_t c_10 hf
        refine lv_iload_n hx hb dX6_best_134 rfl (lv_at hl 2 rfl) ?_
        refine lv_if_ne (tgt := 142) hx hb dX6_best_135 (by decide) (fun c_11 => ?_) (fun c_11 => ?_)
        · replace hf := zI_f c_11 hf
          refine lv_iload_n hx hb dX6_best_142 rfl (lv_at hl 3 rfl) ?_
          refine lv_iconst (v := (-1 : Int32)) hx hb dX6_best_143 (by decide) ?_
          refine lv_icmp_ne (tgt := 151) hx hb dX6_best_144 (by decide) (fun c_12 => ?_) (fun c_12 => ?_)
          · replace hf := zI_f c_12 hf
            refine lv_iload hx hb dX6_best_151 (lv_at hl 4 rfl) ?_
            exact ze_i C0 hP hS hf dX6_best_153 hQ
          · replace hf := zI_t c_12 hf
            refine lv_iconst (v := (-1 : Int32)) hx hb dX6_best_147 (by decide) ?_
            refine lv_goto (tgt := 153) hx hb dX6_best_148 (by decide) ?_
            exact ze_i C0 hP hS hf dX6_best_153 hQ
        · replace hf := zI_t c_11 hf
          refine lv_iload_n hx hb dX6_best_138 rfl (lv_at hl 3 rfl) ?_
          refine lv_goto (tgt := 153) hx hb dX6_best_139 (by decide) ?_
          exact ze_i C0 hP hS hf dX6_best_153 hQ
      · replace hf := zI_f c_10 hf
        refine lv_iload hx hb dX6_best_48 (lv_at hl 5 rfl) ?_
        refine lv_bipush (v := (100 : Int32)) hx hb dX6_best_50 (by decide) ?_
        refine lv_idiv hx hb dX6_best_52 (by decide) ?_
        refine lv_iload hx hb dX6_best_53 (lv_at hl 5 rfl) ?_
        refine lv_bipush (v := (10 : Int32)) hx hb dX6_best_55 (by decide) ?_
        refine lv_idiv hx hb dX6_best_57 (by decide) ?_
        refine lv_bipush (v := (10 : Int32)) hx hb dX6_best_58 (by decide) ?_
        refine zo_irem hx hb dX6_best_60 (by decide) ?_
        refine lv_icmp_ge (tgt := 128) hx hb dX6_best_61 (by decide) (fun c_13 => ?_) (fun c_13 => ?_)
        · replace hf := zI_t c_13 hf
          obtain ⟨x5_14, ex5_14, hf⟩ := zL_o hf
          refine lv_iinc (v := x5_14) (lv' := [(5, .int x5_14), (0, .ref (G.2.2.1 0)), (1, .int x1), (2, .int x2), (3, .int x3), (4, .int x4)]) hx hb dX6_best_128 hl (k := 5) rfl (by rw [ex5_14]; rfl) (by decide) rfl (fun ls hl => ?_)
          refine lv_goto (tgt := 40) hx hb dX6_best_131 (by decide) ?_
          exact ih40 x1 x2 x3 x4 x5_14 M H locs ls (lv_sub hl [1, 2, 3, 4, 5, 0] rfl) hP hS hf
        · replace hf := zI_f c_13 hf
          refine lv_iload hx hb dX6_best_64 (lv_at hl 5 rfl) ?_
          refine lv_bipush (v := (10 : Int32)) hx hb dX6_best_66 (by decide) ?_
          refine lv_idiv hx hb dX6_best_68 (by decide) ?_
          refine lv_bipush (v := (10 : Int32)) hx hb dX6_best_69 (by decide) ?_
          refine zo_irem hx hb dX6_best_71 (by decide) ?_
          refine lv_iload hx hb dX6_best_72 (lv_at hl 5 rfl) ?_
          refine lv_bipush (v := (10 : Int32)) hx hb dX6_best_74 (by decide) ?_
          refine zo_irem hx hb dX6_best_76 (by decide) ?_
          refine lv_icmp_ge (tgt := 128) hx hb dX6_best_77 (by decide) (fun c_15 => ?_) (fun c_15 => ?_)
          · replace hf := zI_t c_15 hf
            obtain ⟨x5_16, ex5_16, hf⟩ := zL_o hf
            refine lv_iinc (v := x5_16) (lv' := [(5, .int x5_16), (0, .ref (G.2.2.1 0)), (1, .int x1), (2, .int x2), (3, .int x3), (4, .int x4)]) hx hb dX6_best_128 hl (k := 5) rfl (by rw [ex5_16]; rfl) (by decide) rfl (fun ls hl => ?_)
            refine lv_goto (tgt := 40) hx hb dX6_best_131 (by decide) ?_
            exact ih40 x1 x2 x3 x4 x5_16 M H locs ls (lv_sub hl [1, 2, 3, 4, 5, 0] rfl) hP hS hf
          · replace hf := zI_f c_15 hf
            refine lv_aload_n hx hb dX6_best_80 rfl (lv_at hl 0 rfl) ?_
            refine lv_iload hx hb dX6_best_81 (lv_at hl 5 rfl) ?_
            obtain ⟨r_19, M_17, hc_18, hf⟩ := zB_o hf
            refine zc_vi (As := [.int x5]) (rest := []) C0 hP hS hl.1 0 (mtX6_areThree l G hJ x5 M _ hc_18) lk_X6_276 (by decide) shM_0 (T := TX6) (n' := 51) rfl ds_X6_areThree (by rw [hRm]; exact ⟨Nat.le_of_ble_eq_true rfl, Nat.le_of_ble_eq_true rfl⟩) rfl rfl (Nat.le_of_ble_eq_true rfl) dX6_best_83 ⟨Nat.zero_le _, Nat.zero_le _⟩ (fun H locs hP hS => ?_)
            refine lv_if_ne (tgt := 92) hx hb dX6_best_86 (by decide) (fun c_20 => ?_) (fun c_20 => ?_)
            · replace hf := zI_f c_20 hf
              refine lv_aload_n hx hb dX6_best_92 rfl (lv_at hl 0 rfl) ?_
              refine lv_iload hx hb dX6_best_93 (lv_at hl 5 rfl) ?_
              obtain ⟨M_21, hc_22, hf⟩ := zV_o hf
              refine zc_vv (As := [.int x5]) (rest := []) C0 hP hS hl.1 0 (mtX6_pours l G hJ x5 M_17 _ hc_22) lk_X6_281 (by decide) shM_0 (T := TX6) (n' := 51) rfl ds_X6_pours (by rw [hRm]; exact ⟨Nat.le_of_ble_eq_true rfl, Nat.le_of_ble_eq_true rfl⟩) rfl rfl (Nat.le_of_ble_eq_true rfl) dX6_best_95 ⟨Nat.zero_le _, Nat.zero_le _⟩ (fun H locs hP hS => ?_)
              refine lv_aload_n hx hb dX6_best_98 rfl (lv_at hl 0 rfl) ?_
              refine lv_iload_n hx hb dX6_best_99 rfl (lv_at hl 1 rfl) ?_
              obtain ⟨M_23, hc_24, hf⟩ := zV_o hf
              refine zc_vv (As := [.int x1]) (rest := []) C0 hP hS hl.1 0 (mtX6_counts l G hJ x1 M_21 _ hc_24) lk_X6_304 (by decide) shM_0 (T := TX6) (n' := 51) rfl ds_X6_counts (by rw [hRm]; exact ⟨Nat.le_of_ble_eq_true rfl, Nat.le_of_ble_eq_true rfl⟩) rfl rfl (Nat.le_of_ble_eq_true rfl) dX6_best_100 ⟨Nat.zero_le _, Nat.zero_le _⟩ (fun H locs hP hS => ?_)
              refine lv_aload_n hx hb dX6_best_103 rfl (lv_at hl 0 rfl) ?_
              refine zr_getq (C := RX6) (T := TX6) (n := 51) C0 hP 0 (by decide) shM_0 37 16 rfl (by decide) uw_X6 mw_591 rfl dX6_best_104 ?_
              refine lv_iconst (v := (0 : Int32)) hx hb dX6_best_107 (by decide) ?_
              refine zr_iald C0 hP 16 (by decide) shM_16 (by decide) dX6_best_108 ?_
              refine lv_iload hx hb dX6_best_109 (lv_at hl 4 rfl) ?_
              refine lv_icmp_lt (tgt := 117) hx hb dX6_best_111 (by decide) (fun c_25 => ?_) (fun c_25 => ?_)
              · replace hf := zI_t c_25 hf
                refine lv_aload_n hx hb dX6_best_117 rfl (lv_at hl 0 rfl) ?_
                refine zr_getq (C := RX6) (T := TX6) (n := 51) C0 hP 0 (by decide) shM_0 37 16 rfl (by decide) uw_X6 mw_591 rfl dX6_best_118 ?_
                refine lv_iconst (v := (0 : Int32)) hx hb dX6_best_121 (by decide) ?_
                refine zr_iald C0 hP 16 (by decide) shM_16 (by decide) dX6_best_122 ?_
                refine lv_topi (fun x4_26 ex4_26 => ?_)
                replace hf := zL_e ex4_26 hf
                refine lv_istore (lv' := [(4, .int x4_26), (0, .ref (G.2.2.1 0)), (1, .int x1), (2, .int x2), (3, .int x3), (5, .int x5)]) hx hb dX6_best_123 hl (by decide) rfl (fun ls hl => ?_)
                refine lv_iload hx hb dX6_best_125 (lv_at hl 5 rfl) ?_
                refine lv_istore_n (lv' := [(3, .int x5), (4, .int x4_26), (0, .ref (G.2.2.1 0)), (1, .int x1), (2, .int x2), (5, .int x5)]) hx hb dX6_best_127 rfl hl (by decide) rfl (fun ls hl => ?_)
                obtain ⟨x5_27, ex5_27, hf⟩ := zL_o hf
                refine lv_iinc (v := x5_27) (lv' := [(5, .int x5_27), (3, .int x5), (4, .int x4_26), (0, .ref (G.2.2.1 0)), (1, .int x1), (2, .int x2)]) hx hb dX6_best_128 hl (k := 5) rfl (by rw [ex5_27]; rfl) (by decide) rfl (fun ls hl => ?_)
                refine lv_goto (tgt := 40) hx hb dX6_best_131 (by decide) ?_
                exact ih40 x1 x2 x5 x4_26 x5_27 M_23 H locs ls (lv_sub hl [3, 4, 5, 1, 2, 0] rfl) hP hS hf
              · replace hf := zI_f c_25 hf
                refine lv_goto (tgt := 128) hx hb dX6_best_114 (by decide) ?_
                obtain ⟨x5_28, ex5_28, hf⟩ := zL_o hf
                refine lv_iinc (v := x5_28) (lv' := [(5, .int x5_28), (0, .ref (G.2.2.1 0)), (1, .int x1), (2, .int x2), (3, .int x3), (4, .int x4)]) hx hb dX6_best_128 hl (k := 5) rfl (by rw [ex5_28]; rfl) (by decide) rfl (fun ls hl => ?_)
                refine lv_goto (tgt := 40) hx hb dX6_best_131 (by decide) ?_
                exact ih40 x1 x2 x3 x4 x5_28 M_23 H locs ls (lv_sub hl [1, 2, 3, 4, 5, 0] rfl) hP hS hf
            · replace hf := zI_t c_20 hf
              refine lv_goto (tgt := 128) hx hb dX6_best_89 (by decide) ?_
              obtain ⟨x5_29, ex5_29, hf⟩ := zL_o hf
              refine lv_iinc (v := x5_29) (lv' := [(5, .int x5_29), (0, .ref (G.2.2.1 0)), (1, .int x1), (2, .int x2), (3, .int x3), (4, .int x4)]) hx hb dX6_best_128 hl (k := 5) rfl (by rw [ex5_29]; rfl) (by decide) rfl (fun ls hl => ?_)
              refine lv_goto (tgt := 40) hx hb dX6_best_131 (by decide) ?_
              exact ih40 x1 x2 x3 x4 x5_29 M_17 H locs ls (lv_sub hl [1, 2, 3, 4, 5, 0] rfl) hP hS hf
  unfold fX6_best at hf
  obtain ⟨H, eH⟩ : ∃ H, H = s.heap := ⟨_, rfl⟩
  obtain ⟨locs, el⟩ : ∃ locs : List Loc, locs = [] := ⟨_, rfl⟩
  rw [← eH] at hP ⊢
  have hS : va_S (zA G 23 s.heap.size) s.heap H locs := by rw [eH, el]; exact hS
  rw [← el]
  refine lv_iload_n hx hb dX6_best_0 rfl (lv_at hl 1 rfl) ?_
  obtain ⟨r_3, M_1, hc_2, hf⟩ := zB_o hf
  refine zc_si (As := [.int x1]) (rest := []) C0 hP hS hl.1 (mtX6_isMinute l G hJ x1 M _ hc_2) ls_X6_298 ds_X6_isMinute (by rw [hRm]; exact ⟨Nat.le_of_ble_eq_true rfl, Nat.le_of_ble_eq_true rfl⟩) rfl rfl (Nat.le_of_ble_eq_true rfl) dX6_best_1 ⟨Nat.zero_le _, Nat.zero_le _⟩ (fun H locs hP hS => ?_)
  refine lv_if_eq (tgt := 16) hx hb dX6_best_4 (by decide) (fun c_4 => ?_) (fun c_4 => ?_)
  · replace hf := zI_t c_4 hf
    refine lv_bipush (v := (-2 : Int32)) hx hb dX6_best_16 (by decide) ?_
    exact ze_i C0 hP hS hf dX6_best_18 hQ
  · replace hf := zI_f c_4 hf
    refine lv_iload_n hx hb dX6_best_7 rfl (lv_at hl 2 rfl) ?_
    refine lv_iconst (v := (0 : Int32)) hx hb dX6_best_8 (by decide) ?_
    refine lv_iconst (v := (1 : Int32)) hx hb dX6_best_9 (by decide) ?_
    obtain ⟨r_7, M_5, hc_6, hf⟩ := zB_o hf
    refine zc_si (As := [.int x2, .int (0 : Int32), .int (1 : Int32)]) (rest := []) C0 hP hS hl.1 (mtX6_within l G hJ x2 (0 : Int32) (1 : Int32) M_1 _ hc_6) ls_X6_88 ds_X6_within (by rw [hRm]; exact ⟨Nat.le_of_ble_eq_true rfl, Nat.le_of_ble_eq_true rfl⟩) rfl rfl (Nat.le_of_ble_eq_true rfl) dX6_best_10 ⟨Nat.zero_le _, Nat.zero_le _⟩ (fun H locs hP hS => ?_)
    refine lv_if_ne (tgt := 19) hx hb dX6_best_13 (by decide) (fun c_8 => ?_) (fun c_8 => ?_)
    · replace hf := zI_f c_8 hf
      refine lv_aload_n hx hb dX6_best_19 rfl (lv_at hl 0 rfl) ?_
      refine zr_get (C := RX6) (T := TX6) (n := 51) C0 hP 0 (by decide) shM_0 2 rfl (by decide) uw_X6 mw_391 rfl dX6_best_20 ?_
      refine lv_iconst (v := (4 : Int32)) hx hb dX6_best_23 (by decide) ?_
      refine lv_icmp_le (tgt := 30) hx hb dX6_best_24 (by decide) (fun c_9 => ?_) (fun c_9 => ?_)
      · replace hf := zI_t c_9 hf
        refine lv_iconst (v := (-1 : Int32)) hx hb dX6_best_30 (by decide) ?_
        refine lv_istore_n (lv' := [(3, .int (-1 : Int32)), (0, .ref (G.2.2.1 0)), (1, .int x1), (2, .int x2)]) hx hb dX6_best_31 rfl hl (by decide) rfl (fun ls hl => ?_)
        refine lv_sipush (v := (9999 : Int32)) hx hb dX6_best_32 (by decide) ?_
        refine lv_istore (lv' := [(4, .int (9999 : Int32)), (3, .int (-1 : Int32)), (0, .ref (G.2.2.1 0)), (1, .int x1), (2, .int x2)]) hx hb dX6_best_35 hl (by decide) rfl (fun ls hl => ?_)
        refine lv_iconst (v := (0 : Int32)) hx hb dX6_best_37 (by decide) ?_
        refine lv_istore (lv' := [(5, .int (0 : Int32)), (4, .int (9999 : Int32)), (3, .int (-1 : Int32)), (0, .ref (G.2.2.1 0)), (1, .int x1), (2, .int x2)]) hx hb dX6_best_38 hl (by decide) rfl (fun ls hl => ?_)
        exact L40 zF x1 x2 (-1 : Int32) (9999 : Int32) (0 : Int32) M_5 H locs ls (lv_sub hl [3, 4, 5, 2, 1, 0] rfl) hP hS hf
      · replace hf := zI_f c_9 hf
        refine lv_bipush (v := (-3 : Int32)) hx hb dX6_best_27 (by decide) ?_
        exact ze_i C0 hP hS hf dX6_best_29 hQ
    · replace hf := zI_t c_8 hf
      refine lv_bipush (v := (-2 : Int32)) hx hb dX6_best_16 (by decide) ?_
      exact ze_i C0 hP hS hf dX6_best_18 hQ
def fX6_isTold (x1 : Int32) (x2 : Int32) (M : zM) : Option (Int32 × zM) :=
  zV (fX6_pours x1 M) fun M_1 =>
  zB (fX6_toldTimes M_1) fun r_5 M_3 =>
  if (zcmp ((zlshr r_5 x2) &&& (1 : Int64)) (1 : Int64)) = (0 : Int32) then
    some ((1 : Int32), M_3)
  else
    some ((0 : Int32), M_3)
set_option maxHeartbeats 4000000 in
set_option maxRecDepth 100000 in
theorem mtX6_isTold (l : Launch) (G : zGr) (hJ : zJ G 23) (x1 : Int32) (x2 : Int32) (M : zM) (o : Int32 × zM) (hf : fX6_isTold x1 x2 M = some o) : zMi l G shM 23 yX6_isTold cX6_isTold 3 (some .boolean) 6 134 [.ref (G.2.2.1 0), .int x1, .int x2] M o := by
  intro sz
  refine zOf (by decide) (Nat.le_of_ble_eq_true rfl) ?_
  intro p e R Q s m args below meth c hRm hsz hQ C0 hP hS ls hl
  subst hsz
  replace hRm : R = { frames := 6, cells := 0, slots := 0, locals := 134 } := hRm
  have hl : lv_has ls 3 [(0, .ref (G.2.2.1 0)), (1, .int x1), (2, .int x2)] := hl
  have hx := C0.1
  have hb := C0.2.1
  have hown := C0.2.2.2.1
  have hts := C0.2.2.2.2.1
  unfold fX6_isTold at hf
  obtain ⟨H, eH⟩ : ∃ H, H = s.heap := ⟨_, rfl⟩
  obtain ⟨locs, el⟩ : ∃ locs : List Loc, locs = [] := ⟨_, rfl⟩
  rw [← eH] at hP ⊢
  have hS : va_S (zA G 23 s.heap.size) s.heap H locs := by rw [eH, el]; exact hS
  rw [← el]
  refine lv_aload_n hx hb dX6_isTold_0 rfl (lv_at hl 0 rfl) ?_
  refine lv_iload_n hx hb dX6_isTold_1 rfl (lv_at hl 1 rfl) ?_
  obtain ⟨M_1, hc_2, hf⟩ := zV_o hf
  refine zc_vv (As := [.int x1]) (rest := []) C0 hP hS hl.1 0 (mtX6_pours l G hJ x1 M _ hc_2) lk_X6_281 (by decide) shM_0 (T := TX6) (n' := 51) rfl ds_X6_pours (by rw [hRm]; exact ⟨Nat.le_of_ble_eq_true rfl, Nat.le_of_ble_eq_true rfl⟩) rfl rfl (Nat.le_of_ble_eq_true rfl) dX6_isTold_2 ⟨Nat.zero_le _, Nat.zero_le _⟩ (fun H locs hP hS => ?_)
  refine lv_aload_n hx hb dX6_isTold_5 rfl (lv_at hl 0 rfl) ?_
  obtain ⟨r_5, M_3, hc_4, hf⟩ := zB_o hf
  refine zc_vl (As := []) (rest := []) C0 hP hS hl.1 0 (mtX6_toldTimes l G hJ M_1 _ hc_4) lk_X6_284 (by decide) shM_0 (T := TX6) (n' := 51) rfl ds_X6_toldTimes (by rw [hRm]; exact ⟨Nat.le_of_ble_eq_true rfl, Nat.le_of_ble_eq_true rfl⟩) rfl rfl (Nat.le_of_ble_eq_true rfl) dX6_isTold_6 ⟨Nat.zero_le _, Nat.zero_le _⟩ (fun H locs hP hS => ?_)
  refine lv_iload_n hx hb dX6_isTold_9 rfl (lv_at hl 2 rfl) ?_
  refine zo_lshr hx hb dX6_isTold_10 ?_
  refine lv_lconst (v := (1 : Int64)) hx hb dX6_isTold_11 (by decide) ?_
  refine lv_land hx hb dX6_isTold_12 ?_
  refine lv_lconst (v := (1 : Int64)) hx hb dX6_isTold_13 (by decide) ?_
  refine zo_lcmp hx hb dX6_isTold_14 ?_
  refine lv_if_ne (tgt := 22) hx hb dX6_isTold_15 (by decide) (fun c_6 => ?_) (fun c_6 => ?_)
  · replace hf := zI_f c_6 hf
    refine lv_iconst (v := (0 : Int32)) hx hb dX6_isTold_22 (by decide) ?_
    exact ze_z C0 hP hS (by decide) hf dX6_isTold_23 hQ
  · replace hf := zI_t c_6 hf
    refine lv_iconst (v := (1 : Int32)) hx hb dX6_isTold_18 (by decide) ?_
    refine lv_goto (tgt := 23) hx hb dX6_isTold_19 (by decide) ?_
    exact ze_z C0 hP hS (by decide) hf dX6_isTold_23 hQ
def fX6_drawFor_B48 (r48 : Int32 → Int32 → Int32 → Int32 → Int32 → Int32 → Int32 → zM → Option (Int32 × zM)) (x1 : Int32) (x2 : Int32) (x3 : Int32) (x4 : Int32) (x5 : Int32) (x6 : Int32) (x7 : Int32) (M : zM) : Option (Int32 × zM) :=
  if x5 < x7 then
    some (x6, M)
  else
    if x6 = (-1 : Int32) then
      zV (fX6_drawsOff x3 x4 x7 M) fun M_9 =>
      zB (fX6_isTold x1 x2 M_9) fun r_13 M_11 =>
      if r_13 = (0 : Int32) then
        zV (fX6_restores M_11) fun M_15 =>
        zL (x7 + (1 : Int32)) fun x7_17 =>
        r48 x1 x2 x3 x4 x5 x6 x7_17 M_15
      else
        zV (fX6_restores M_11) fun M_18 =>
        zL (x7 + (1 : Int32)) fun x7_20 =>
        r48 x1 x2 x3 x4 x5 x7 x7_20 M_18
    else
      some (x6, M)
def fX6_drawFor_L48 : Nat → Int32 → Int32 → Int32 → Int32 → Int32 → Int32 → Int32 → zM → Option (Int32 × zM)
  | 0 => fun _ _ _ _ _ _ _ _ => none
  | j9 + 1 => fX6_drawFor_B48 (fX6_drawFor_L48 j9)
def fX6_drawFor (x1 : Int32) (x2 : Int32) (M : zM) : Option (Int32 × zM) :=
  zL (x1 / (100 : Int32)) fun x3_1 =>
  zL (zrm (x1 / (10 : Int32)) (10 : Int32)) fun x4_2 =>
  zG (zin x3_1 5) <|
  if (40 : Int32) ≤ (M.1 3 x3_1.toNatClampNeg) then
    zV (fX6_keeps M) fun M_5 =>
    fX6_drawFor_L48 zF x1 x2 x3_1 x4_2 (40 : Int32) (-1 : Int32) (0 : Int32) M_5
  else
    zG (zin x3_1 5) <|
    zL (M.1 3 x3_1.toNatClampNeg) fun x5_22 =>
    zV (fX6_keeps M) fun M_23 =>
    fX6_drawFor_L48 zF x1 x2 x3_1 x4_2 x5_22 (-1 : Int32) (0 : Int32) M_23
set_option maxHeartbeats 4000000 in
set_option maxRecDepth 100000 in
theorem mtX6_drawFor (l : Launch) (G : zGr) (hJ : zJ G 23) (x1 : Int32) (x2 : Int32) (M : zM) (o : Int32 × zM) (hf : fX6_drawFor x1 x2 M = some o) : zMi l G shM 23 yX6_drawFor cX6_drawFor 8 (some .int) 7 156 [.ref (G.2.2.1 0), .int x1, .int x2] M o := by
  intro sz
  refine zOf (by decide) (Nat.le_of_ble_eq_true rfl) ?_
  intro p e R Q s m args below meth c hRm hsz hQ C0 hP hS ls hl
  subst hsz
  replace hRm : R = { frames := 7, cells := 0, slots := 0, locals := 156 } := hRm
  have hl : lv_has ls 8 [(0, .ref (G.2.2.1 0)), (1, .int x1), (2, .int x2)] := hl
  have hx := C0.1
  have hb := C0.2.1
  have hown := C0.2.2.2.1
  have hts := C0.2.2.2.2.1
  have L48 : ∀ (n48 : Nat), ∀ (x1 : Int32) (x2 : Int32) (x3 : Int32) (x4 : Int32) (x5 : Int32) (x6 : Int32) (x7 : Int32) (M : zM) (H : Heap) (locs : List Loc) (ls : Array Slot), lv_has ls 8 [(0, .ref (G.2.2.1 0)), (1, .int x1), (2, .int x2), (3, .int x3), (4, .int x4), (5, .int x5), (6, .int x6), (7, .int x7)] → va_P G.1 zcl (zw G shM 23 M) H → va_S (zA G 23 s.heap.size) s.heap H locs → fX6_drawFor_L48 n48 x1 x2 x3 x4 x5 x6 x7 M = some o → W p l e R s m args below meth c H locs 0 0 Q (F0 m 48 ls []) := by
    intro n48
    induction n48 with
    | zero => intro x1 x2 x3 x4 x5 x6 x7 M H locs ls hl hP hS hf; exact zn_s (show none = some o from hf)
    | succ n48 ih48 =>
      intro x1 x2 x3 x4 x5 x6 x7 M H locs ls hl hP hS hf
      replace hf : fX6_drawFor_B48 (fX6_drawFor_L48 n48) x1 x2 x3 x4 x5 x6 x7 M = some o := hf
      unfold fX6_drawFor_B48 at hf
      refine lv_iload hx hb dX6_drawFor_48 (lv_at hl 7 rfl) ?_
      refine lv_iload hx hb dX6_drawFor_50 (lv_at hl 5 rfl) ?_
      refine lv_icmp_gt (tgt := 93) hx hb dX6_drawFor_52 (by decide) (fun c_7 => ?_) (fun c_7 => ?_)
      · replace hf := zI_t c_7 hf
        refine lv_iload hx hb dX6_drawFor_93 (lv_at hl 6 rfl) ?_
        exact ze_i C0 hP hS hf dX6_drawFor_95 hQ
      · replace hf := zI_f c_7 hf
        refine lv_iload hx hb dX6_drawFor_55 (lv_at hl 6 rfl) ?_
        refine lv_iconst (v := (-1 : Int32)) hx hb dX6_drawFor_57 (by decide) ?_
        refine lv_icmp_ne (tgt := 93) hx hb dX6_drawFor_58 (by decide) (fun c_8 => ?_) (fun c_8 => ?_)
        · replace hf := zI_f c_8 hf
          refine lv_iload hx hb dX6_drawFor_93 (lv_at hl 6 rfl) ?_
          exact ze_i C0 hP hS hf dX6_drawFor_95 hQ
        · replace hf := zI_t c_8 hf
          refine lv_aload_n hx hb dX6_drawFor_61 rfl (lv_at hl 0 rfl) ?_
          refine lv_iload_n hx hb dX6_drawFor_62 rfl (lv_at hl 3 rfl) ?_
          refine lv_iload hx hb dX6_drawFor_63 (lv_at hl 4 rfl) ?_
          refine lv_iload hx hb dX6_drawFor_65 (lv_at hl 7 rfl) ?_
          obtain ⟨M_9, hc_10, hf⟩ := zV_o hf
          refine zc_vv (As := [.int x3, .int x4, .int x7]) (rest := []) C0 hP hS hl.1 0 (mtX6_drawsOff l G hJ x3 x4 x7 M _ hc_10) lk_X6_236 (by decide) shM_0 (T := TX6) (n' := 51) rfl ds_X6_drawsOff (by rw [hRm]; exact ⟨Nat.le_of_ble_eq_true rfl, Nat.le_of_ble_eq_true rfl⟩) rfl rfl (Nat.le_of_ble_eq_true rfl) dX6_drawFor_67 ⟨Nat.zero_le _, Nat.zero_le _⟩ (fun H locs hP hS => ?_)
          refine lv_aload_n hx hb dX6_drawFor_70 rfl (lv_at hl 0 rfl) ?_
          refine lv_iload_n hx hb dX6_drawFor_71 rfl (lv_at hl 1 rfl) ?_
          refine lv_iload_n hx hb dX6_drawFor_72 rfl (lv_at hl 2 rfl) ?_
          obtain ⟨r_13, M_11, hc_12, hf⟩ := zB_o hf
          refine zc_vi (As := [.int x1, .int x2]) (rest := []) C0 hP hS hl.1 0 (mtX6_isTold l G hJ x1 x2 M_9 _ hc_12) lk_X6_310 (by decide) shM_0 (T := TX6) (n' := 51) rfl ds_X6_isTold (by rw [hRm]; exact ⟨Nat.le_of_ble_eq_true rfl, Nat.le_of_ble_eq_true rfl⟩) rfl rfl (Nat.le_of_ble_eq_true rfl) dX6_drawFor_73 ⟨Nat.zero_le _, Nat.zero_le _⟩ (fun H locs hP hS => ?_)
          refine lv_if_eq (tgt := 83) hx hb dX6_drawFor_76 (by decide) (fun c_14 => ?_) (fun c_14 => ?_)
          · replace hf := zI_t c_14 hf
            refine lv_aload_n hx hb dX6_drawFor_83 rfl (lv_at hl 0 rfl) ?_
            obtain ⟨M_15, hc_16, hf⟩ := zV_o hf
            refine zc_vv (As := []) (rest := []) C0 hP hS hl.1 0 (mtX6_restores l G hJ M_11 _ hc_16) lk_X6_249 (by decide) shM_0 (T := TX6) (n' := 51) rfl ds_X6_restores (by rw [hRm]; exact ⟨Nat.le_of_ble_eq_true rfl, Nat.le_of_ble_eq_true rfl⟩) rfl rfl (Nat.le_of_ble_eq_true rfl) dX6_drawFor_84 ⟨Nat.zero_le _, Nat.zero_le _⟩ (fun H locs hP hS => ?_)
            obtain ⟨x7_17, ex7_17, hf⟩ := zL_o hf
            refine lv_iinc (v := x7_17) (lv' := [(7, .int x7_17), (0, .ref (G.2.2.1 0)), (1, .int x1), (2, .int x2), (3, .int x3), (4, .int x4), (5, .int x5), (6, .int x6)]) hx hb dX6_drawFor_87 hl (k := 7) rfl (by rw [ex7_17]; rfl) (by decide) rfl (fun ls hl => ?_)
            refine lv_goto (tgt := 48) hx hb dX6_drawFor_90 (by decide) ?_
            exact ih48 x1 x2 x3 x4 x5 x6 x7_17 M_15 H locs ls (lv_sub hl [1, 2, 3, 4, 5, 6, 7, 0] rfl) hP hS hf
          · replace hf := zI_f c_14 hf
            refine lv_iload hx hb dX6_drawFor_79 (lv_at hl 7 rfl) ?_
            refine lv_istore (lv' := [(6, .int x7), (0, .ref (G.2.2.1 0)), (1, .int x1), (2, .int x2), (3, .int x3), (4, .int x4), (5, .int x5), (7, .int x7)]) hx hb dX6_drawFor_81 hl (by decide) rfl (fun ls hl => ?_)
            refine lv_aload_n hx hb dX6_drawFor_83 rfl (lv_at hl 1 rfl) ?_
            obtain ⟨M_18, hc_19, hf⟩ := zV_o hf
            refine zc_vv (As := []) (rest := []) C0 hP hS hl.1 0 (mtX6_restores l G hJ M_11 _ hc_19) lk_X6_249 (by decide) shM_0 (T := TX6) (n' := 51) rfl ds_X6_restores (by rw [hRm]; exact ⟨Nat.le_of_ble_eq_true rfl, Nat.le_of_ble_eq_true rfl⟩) rfl rfl (Nat.le_of_ble_eq_true rfl) dX6_drawFor_84 ⟨Nat.zero_le _, Nat.zero_le _⟩ (fun H locs hP hS => ?_)
            obtain ⟨x7_20, ex7_20, hf⟩ := zL_o hf
            refine lv_iinc (v := x7_20) (lv' := [(7, .int x7_20), (6, .int x7), (0, .ref (G.2.2.1 0)), (1, .int x1), (2, .int x2), (3, .int x3), (4, .int x4), (5, .int x5)]) hx hb dX6_drawFor_87 hl (k := 7) rfl (by rw [ex7_20]; rfl) (by decide) rfl (fun ls hl => ?_)
            refine lv_goto (tgt := 48) hx hb dX6_drawFor_90 (by decide) ?_
            exact ih48 x1 x2 x3 x4 x5 x7 x7_20 M_18 H locs ls (lv_sub hl [2, 3, 4, 5, 6, 7, 1, 0] rfl) hP hS hf
  unfold fX6_drawFor at hf
  obtain ⟨H, eH⟩ : ∃ H, H = s.heap := ⟨_, rfl⟩
  obtain ⟨locs, el⟩ : ∃ locs : List Loc, locs = [] := ⟨_, rfl⟩
  rw [← eH] at hP ⊢
  have hS : va_S (zA G 23 s.heap.size) s.heap H locs := by rw [eH, el]; exact hS
  rw [← el]
  refine lv_iload_n hx hb dX6_drawFor_0 rfl (lv_at hl 1 rfl) ?_
  refine lv_bipush (v := (100 : Int32)) hx hb dX6_drawFor_1 (by decide) ?_
  refine lv_idiv hx hb dX6_drawFor_3 (by decide) ?_
  refine lv_topi (fun x3_1 ex3_1 => ?_)
  replace hf := zL_e ex3_1 hf
  refine lv_istore_n (lv' := [(3, .int x3_1), (0, .ref (G.2.2.1 0)), (1, .int x1), (2, .int x2)]) hx hb dX6_drawFor_4 rfl hl (by decide) rfl (fun ls hl => ?_)
  refine lv_iload_n hx hb dX6_drawFor_5 rfl (lv_at hl 2 rfl) ?_
  refine lv_bipush (v := (10 : Int32)) hx hb dX6_drawFor_6 (by decide) ?_
  refine lv_idiv hx hb dX6_drawFor_8 (by decide) ?_
  refine lv_bipush (v := (10 : Int32)) hx hb dX6_drawFor_9 (by decide) ?_
  refine zo_irem hx hb dX6_drawFor_11 (by decide) ?_
  refine lv_topi (fun x4_2 ex4_2 => ?_)
  replace hf := zL_e ex4_2 hf
  refine lv_istore (lv' := [(4, .int x4_2), (3, .int x3_1), (0, .ref (G.2.2.1 0)), (1, .int x1), (2, .int x2)]) hx hb dX6_drawFor_12 hl (by decide) rfl (fun ls hl => ?_)
  refine lv_aload_n hx hb dX6_drawFor_14 rfl (lv_at hl 2 rfl) ?_
  refine zr_getq (C := RX6) (T := TX6) (n := 51) C0 hP 0 (by decide) shM_0 5 3 rfl (by decide) uw_X6 mw_403 rfl dX6_drawFor_15 ?_
  refine lv_iload_n hx hb dX6_drawFor_18 rfl (lv_at hl 1 rfl) ?_
  obtain ⟨hg_3, hf⟩ := zG_o hf
  refine zr_iald C0 hP 3 (by decide) shM_3 hg_3 dX6_drawFor_19 ?_
  refine lv_bipush (v := (40 : Int32)) hx hb dX6_drawFor_20 (by decide) ?_
  refine lv_icmp_ge (tgt := 34) hx hb dX6_drawFor_22 (by decide) (fun c_4 => ?_) (fun c_4 => ?_)
  · replace hf := zI_t c_4 hf
    refine lv_bipush (v := (40 : Int32)) hx hb dX6_drawFor_34 (by decide) ?_
    refine lv_istore (lv' := [(5, .int (40 : Int32)), (4, .int x4_2), (3, .int x3_1), (0, .ref (G.2.2.1 0)), (1, .int x1), (2, .int x2)]) hx hb dX6_drawFor_36 hl (by decide) rfl (fun ls hl => ?_)
    refine lv_iconst (v := (-1 : Int32)) hx hb dX6_drawFor_38 (by decide) ?_
    refine lv_istore (lv' := [(6, .int (-1 : Int32)), (5, .int (40 : Int32)), (4, .int x4_2), (3, .int x3_1), (0, .ref (G.2.2.1 0)), (1, .int x1), (2, .int x2)]) hx hb dX6_drawFor_39 hl (by decide) rfl (fun ls hl => ?_)
    refine lv_aload_n hx hb dX6_drawFor_41 rfl (lv_at hl 4 rfl) ?_
    obtain ⟨M_5, hc_6, hf⟩ := zV_o hf
    refine zc_vv (As := []) (rest := []) C0 hP hS hl.1 0 (mtX6_keeps l G hJ M _ hc_6) lk_X6_246 (by decide) shM_0 (T := TX6) (n' := 51) rfl ds_X6_keeps (by rw [hRm]; exact ⟨Nat.le_of_ble_eq_true rfl, Nat.le_of_ble_eq_true rfl⟩) rfl rfl (Nat.le_of_ble_eq_true rfl) dX6_drawFor_42 ⟨Nat.zero_le _, Nat.zero_le _⟩ (fun H locs hP hS => ?_)
    refine lv_iconst (v := (0 : Int32)) hx hb dX6_drawFor_45 (by decide) ?_
    refine lv_istore (lv' := [(7, .int (0 : Int32)), (6, .int (-1 : Int32)), (5, .int (40 : Int32)), (4, .int x4_2), (3, .int x3_1), (0, .ref (G.2.2.1 0)), (1, .int x1), (2, .int x2)]) hx hb dX6_drawFor_46 hl (by decide) rfl (fun ls hl => ?_)
    exact L48 zF x1 x2 x3_1 x4_2 (40 : Int32) (-1 : Int32) (0 : Int32) M_5 H locs ls (lv_sub hl [5, 6, 7, 4, 3, 2, 1, 0] rfl) hP hS hf
  · replace hf := zI_f c_4 hf
    refine lv_aload_n hx hb dX6_drawFor_25 rfl (lv_at hl 2 rfl) ?_
    refine zr_getq (C := RX6) (T := TX6) (n := 51) C0 hP 0 (by decide) shM_0 5 3 rfl (by decide) uw_X6 mw_403 rfl dX6_drawFor_26 ?_
    refine lv_iload_n hx hb dX6_drawFor_29 rfl (lv_at hl 1 rfl) ?_
    obtain ⟨hg_21, hf⟩ := zG_o hf
    refine zr_iald C0 hP 3 (by decide) shM_3 hg_21 dX6_drawFor_30 ?_
    refine lv_goto (tgt := 36) hx hb dX6_drawFor_31 (by decide) ?_
    refine lv_topi (fun x5_22 ex5_22 => ?_)
    replace hf := zL_e ex5_22 hf
    refine lv_istore (lv' := [(5, .int x5_22), (4, .int x4_2), (3, .int x3_1), (0, .ref (G.2.2.1 0)), (1, .int x1), (2, .int x2)]) hx hb dX6_drawFor_36 hl (by decide) rfl (fun ls hl => ?_)
    refine lv_iconst (v := (-1 : Int32)) hx hb dX6_drawFor_38 (by decide) ?_
    refine lv_istore (lv' := [(6, .int (-1 : Int32)), (5, .int x5_22), (4, .int x4_2), (3, .int x3_1), (0, .ref (G.2.2.1 0)), (1, .int x1), (2, .int x2)]) hx hb dX6_drawFor_39 hl (by decide) rfl (fun ls hl => ?_)
    refine lv_aload_n hx hb dX6_drawFor_41 rfl (lv_at hl 4 rfl) ?_
    obtain ⟨M_23, hc_24, hf⟩ := zV_o hf
    refine zc_vv (As := []) (rest := []) C0 hP hS hl.1 0 (mtX6_keeps l G hJ M _ hc_24) lk_X6_246 (by decide) shM_0 (T := TX6) (n' := 51) rfl ds_X6_keeps (by rw [hRm]; exact ⟨Nat.le_of_ble_eq_true rfl, Nat.le_of_ble_eq_true rfl⟩) rfl rfl (Nat.le_of_ble_eq_true rfl) dX6_drawFor_42 ⟨Nat.zero_le _, Nat.zero_le _⟩ (fun H locs hP hS => ?_)
    refine lv_iconst (v := (0 : Int32)) hx hb dX6_drawFor_45 (by decide) ?_
    refine lv_istore (lv' := [(7, .int (0 : Int32)), (6, .int (-1 : Int32)), (5, .int x5_22), (4, .int x4_2), (3, .int x3_1), (0, .ref (G.2.2.1 0)), (1, .int x1), (2, .int x2)]) hx hb dX6_drawFor_46 hl (by decide) rfl (fun ls hl => ?_)
    exact L48 zF x1 x2 x3_1 x4_2 x5_22 (-1 : Int32) (0 : Int32) M_23 H locs ls (lv_sub hl [5, 6, 7, 4, 3, 2, 1, 0] rfl) hP hS hf
def fX6_daysFor_J30 (r9 : Int32 → Int32 → Int32 → Int32 → zM → Option (Int32 × zM)) (x1 : Int32) (x2 : Int32) (x3 : Int32) (x4 : Int32) (M : zM) : Option (Int32 × zM) :=
  zB (fX6_isTold x1 x2 M) fun r_12 M_10 =>
  if r_12 = (0 : Int32) then
    zL (x4 + (1 : Int32)) fun x4_14 =>
    r9 x1 x2 x3 x4_14 M_10
  else
    zL (x4 + (1 : Int32)) fun x4_15 =>
    r9 x1 x2 x4 x4_15 M_10
def fX6_daysFor_B9 (r9 : Int32 → Int32 → Int32 → Int32 → zM → Option (Int32 × zM)) (x1 : Int32) (x2 : Int32) (x3 : Int32) (x4 : Int32) (M : zM) : Option (Int32 × zM) :=
  if (10 : Int32) < x4 then
    zV (fX6_restores M) fun M_4 =>
    some (x3, M_4)
  else
    if x3 = (-1 : Int32) then
      if x4 ≤ (0 : Int32) then
        fX6_daysFor_J30 r9 x1 x2 x3 x4 M
      else
        zV (fX6_goes M) fun M_16 =>
        fX6_daysFor_J30 r9 x1 x2 x3 x4 M_16
    else
      zV (fX6_restores M) fun M_7 =>
      some (x3, M_7)
def fX6_daysFor_L9 : Nat → Int32 → Int32 → Int32 → Int32 → zM → Option (Int32 × zM)
  | 0 => fun _ _ _ _ _ => none
  | j9 + 1 => fX6_daysFor_B9 (fX6_daysFor_L9 j9)
def fX6_daysFor (x1 : Int32) (x2 : Int32) (M : zM) : Option (Int32 × zM) :=
  zV (fX6_keeps M) fun M_1 =>
  fX6_daysFor_L9 zF x1 x2 (-1 : Int32) (0 : Int32) M_1
set_option maxHeartbeats 4000000 in
set_option maxRecDepth 100000 in
theorem mtX6_daysFor (l : Launch) (G : zGr) (hJ : zJ G 23) (x1 : Int32) (x2 : Int32) (M : zM) (o : Int32 × zM) (hf : fX6_daysFor x1 x2 M = some o) : zMi l G shM 23 yX6_daysFor cX6_daysFor 5 (some .int) 7 156 [.ref (G.2.2.1 0), .int x1, .int x2] M o := by
  intro sz
  refine zOf (by decide) (Nat.le_of_ble_eq_true rfl) ?_
  intro p e R Q s m args below meth c hRm hsz hQ C0 hP hS ls hl
  subst hsz
  replace hRm : R = { frames := 7, cells := 0, slots := 0, locals := 156 } := hRm
  have hl : lv_has ls 5 [(0, .ref (G.2.2.1 0)), (1, .int x1), (2, .int x2)] := hl
  have hx := C0.1
  have hb := C0.2.1
  have hown := C0.2.2.2.1
  have hts := C0.2.2.2.2.1
  have L9 : ∀ (n9 : Nat), ∀ (x1 : Int32) (x2 : Int32) (x3 : Int32) (x4 : Int32) (M : zM) (H : Heap) (locs : List Loc) (ls : Array Slot), lv_has ls 5 [(0, .ref (G.2.2.1 0)), (1, .int x1), (2, .int x2), (3, .int x3), (4, .int x4)] → va_P G.1 zcl (zw G shM 23 M) H → va_S (zA G 23 s.heap.size) s.heap H locs → fX6_daysFor_L9 n9 x1 x2 x3 x4 M = some o → W p l e R s m args below meth c H locs 0 0 Q (F0 m 9 ls []) := by
    intro n9
    induction n9 with
    | zero => intro x1 x2 x3 x4 M H locs ls hl hP hS hf; exact zn_s (show none = some o from hf)
    | succ n9 ih9 =>
      have J30 : ∀ (x1 : Int32) (x2 : Int32) (x3 : Int32) (x4 : Int32) (M : zM) (H : Heap) (locs : List Loc) (ls : Array Slot), lv_has ls 5 [(0, .ref (G.2.2.1 0)), (1, .int x1), (2, .int x2), (3, .int x3), (4, .int x4)] → va_P G.1 zcl (zw G shM 23 M) H → va_S (zA G 23 s.heap.size) s.heap H locs → fX6_daysFor_J30 (fX6_daysFor_L9 n9) x1 x2 x3 x4 M = some o → W p l e R s m args below meth c H locs 0 0 Q (F0 m 30 ls []) := by
        intro x1 x2 x3 x4 M H locs ls hl hP hS hf
        unfold fX6_daysFor_J30 at hf
        refine lv_aload_n hx hb dX6_daysFor_30 rfl (lv_at hl 0 rfl) ?_
        refine lv_iload_n hx hb dX6_daysFor_31 rfl (lv_at hl 1 rfl) ?_
        refine lv_iload_n hx hb dX6_daysFor_32 rfl (lv_at hl 2 rfl) ?_
        obtain ⟨r_12, M_10, hc_11, hf⟩ := zB_o hf
        refine zc_vi (As := [.int x1, .int x2]) (rest := []) C0 hP hS hl.1 0 (mtX6_isTold l G hJ x1 x2 M _ hc_11) lk_X6_310 (by decide) shM_0 (T := TX6) (n' := 51) rfl ds_X6_isTold (by rw [hRm]; exact ⟨Nat.le_of_ble_eq_true rfl, Nat.le_of_ble_eq_true rfl⟩) rfl rfl (Nat.le_of_ble_eq_true rfl) dX6_daysFor_33 ⟨Nat.zero_le _, Nat.zero_le _⟩ (fun H locs hP hS => ?_)
        refine lv_if_eq (tgt := 42) hx hb dX6_daysFor_36 (by decide) (fun c_13 => ?_) (fun c_13 => ?_)
        · replace hf := zI_t c_13 hf
          obtain ⟨x4_14, ex4_14, hf⟩ := zL_o hf
          refine lv_iinc (v := x4_14) (lv' := [(4, .int x4_14), (0, .ref (G.2.2.1 0)), (1, .int x1), (2, .int x2), (3, .int x3)]) hx hb dX6_daysFor_42 hl (k := 4) rfl (by rw [ex4_14]; rfl) (by decide) rfl (fun ls hl => ?_)
          refine lv_goto (tgt := 9) hx hb dX6_daysFor_45 (by decide) ?_
          exact ih9 x1 x2 x3 x4_14 M_10 H locs ls (lv_sub hl [1, 2, 3, 4, 0] rfl) hP hS hf
        · replace hf := zI_f c_13 hf
          refine lv_iload hx hb dX6_daysFor_39 (lv_at hl 4 rfl) ?_
          refine lv_istore_n (lv' := [(3, .int x4), (0, .ref (G.2.2.1 0)), (1, .int x1), (2, .int x2), (4, .int x4)]) hx hb dX6_daysFor_41 rfl hl (by decide) rfl (fun ls hl => ?_)
          obtain ⟨x4_15, ex4_15, hf⟩ := zL_o hf
          refine lv_iinc (v := x4_15) (lv' := [(4, .int x4_15), (3, .int x4), (0, .ref (G.2.2.1 0)), (1, .int x1), (2, .int x2)]) hx hb dX6_daysFor_42 hl (k := 4) rfl (by rw [ex4_15]; rfl) (by decide) rfl (fun ls hl => ?_)
          refine lv_goto (tgt := 9) hx hb dX6_daysFor_45 (by decide) ?_
          exact ih9 x1 x2 x4 x4_15 M_10 H locs ls (lv_sub hl [2, 3, 4, 1, 0] rfl) hP hS hf
      intro x1 x2 x3 x4 M H locs ls hl hP hS hf
      replace hf : fX6_daysFor_B9 (fX6_daysFor_L9 n9) x1 x2 x3 x4 M = some o := hf
      unfold fX6_daysFor_B9 at hf
      refine lv_iload hx hb dX6_daysFor_9 (lv_at hl 4 rfl) ?_
      refine lv_bipush (v := (10 : Int32)) hx hb dX6_daysFor_11 (by decide) ?_
      refine lv_icmp_gt (tgt := 48) hx hb dX6_daysFor_13 (by decide) (fun c_3 => ?_) (fun c_3 => ?_)
      · replace hf := zI_t c_3 hf
        refine lv_aload_n hx hb dX6_daysFor_48 rfl (lv_at hl 0 rfl) ?_
        obtain ⟨M_4, hc_5, hf⟩ := zV_o hf
        refine zc_vv (As := []) (rest := []) C0 hP hS hl.1 0 (mtX6_restores l G hJ M _ hc_5) lk_X6_249 (by decide) shM_0 (T := TX6) (n' := 51) rfl ds_X6_restores (by rw [hRm]; exact ⟨Nat.le_of_ble_eq_true rfl, Nat.le_of_ble_eq_true rfl⟩) rfl rfl (Nat.le_of_ble_eq_true rfl) dX6_daysFor_49 ⟨Nat.zero_le _, Nat.zero_le _⟩ (fun H locs hP hS => ?_)
        refine lv_iload_n hx hb dX6_daysFor_52 rfl (lv_at hl 3 rfl) ?_
        exact ze_i C0 hP hS hf dX6_daysFor_53 hQ
      · replace hf := zI_f c_3 hf
        refine lv_iload_n hx hb dX6_daysFor_16 rfl (lv_at hl 3 rfl) ?_
        refine lv_iconst (v := (-1 : Int32)) hx hb dX6_daysFor_17 (by decide) ?_
        refine lv_icmp_ne (tgt := 48) hx hb dX6_daysFor_18 (by decide) (fun c_6 => ?_) (fun c_6 => ?_)
        · replace hf := zI_f c_6 hf
          refine lv_aload_n hx hb dX6_daysFor_48 rfl (lv_at hl 0 rfl) ?_
          obtain ⟨M_7, hc_8, hf⟩ := zV_o hf
          refine zc_vv (As := []) (rest := []) C0 hP hS hl.1 0 (mtX6_restores l G hJ M _ hc_8) lk_X6_249 (by decide) shM_0 (T := TX6) (n' := 51) rfl ds_X6_restores (by rw [hRm]; exact ⟨Nat.le_of_ble_eq_true rfl, Nat.le_of_ble_eq_true rfl⟩) rfl rfl (Nat.le_of_ble_eq_true rfl) dX6_daysFor_49 ⟨Nat.zero_le _, Nat.zero_le _⟩ (fun H locs hP hS => ?_)
          refine lv_iload_n hx hb dX6_daysFor_52 rfl (lv_at hl 3 rfl) ?_
          exact ze_i C0 hP hS hf dX6_daysFor_53 hQ
        · replace hf := zI_t c_6 hf
          refine lv_iload hx hb dX6_daysFor_21 (lv_at hl 4 rfl) ?_
          refine lv_if_le (tgt := 30) hx hb dX6_daysFor_23 (by decide) (fun c_9 => ?_) (fun c_9 => ?_)
          · replace hf := zI_t c_9 hf
            exact J30 x1 x2 x3 x4 M H locs ls (lv_sub hl [0, 1, 2, 3, 4] rfl) hP hS hf
          · replace hf := zI_f c_9 hf
            refine lv_aload_n hx hb dX6_daysFor_26 rfl (lv_at hl 0 rfl) ?_
            obtain ⟨M_16, hc_17, hf⟩ := zV_o hf
            refine zc_vv (As := []) (rest := []) C0 hP hS hl.1 0 (mtX6_goes l G hJ M _ hc_17) lk_X6_230 (by decide) shM_0 (T := TX6) (n' := 51) rfl ds_X6_goes (by rw [hRm]; exact ⟨Nat.le_of_ble_eq_true rfl, Nat.le_of_ble_eq_true rfl⟩) rfl rfl (Nat.le_of_ble_eq_true rfl) dX6_daysFor_27 ⟨Nat.zero_le _, Nat.zero_le _⟩ (fun H locs hP hS => ?_)
            exact J30 x1 x2 x3 x4 M_16 H locs ls (lv_sub hl [0, 1, 2, 3, 4] rfl) hP hS hf
  unfold fX6_daysFor at hf
  obtain ⟨H, eH⟩ : ∃ H, H = s.heap := ⟨_, rfl⟩
  obtain ⟨locs, el⟩ : ∃ locs : List Loc, locs = [] := ⟨_, rfl⟩
  rw [← eH] at hP ⊢
  have hS : va_S (zA G 23 s.heap.size) s.heap H locs := by rw [eH, el]; exact hS
  rw [← el]
  refine lv_iconst (v := (-1 : Int32)) hx hb dX6_daysFor_0 (by decide) ?_
  refine lv_istore_n (lv' := [(3, .int (-1 : Int32)), (0, .ref (G.2.2.1 0)), (1, .int x1), (2, .int x2)]) hx hb dX6_daysFor_1 rfl hl (by decide) rfl (fun ls hl => ?_)
  refine lv_aload_n hx hb dX6_daysFor_2 rfl (lv_at hl 1 rfl) ?_
  obtain ⟨M_1, hc_2, hf⟩ := zV_o hf
  refine zc_vv (As := []) (rest := []) C0 hP hS hl.1 0 (mtX6_keeps l G hJ M _ hc_2) lk_X6_246 (by decide) shM_0 (T := TX6) (n' := 51) rfl ds_X6_keeps (by rw [hRm]; exact ⟨Nat.le_of_ble_eq_true rfl, Nat.le_of_ble_eq_true rfl⟩) rfl rfl (Nat.le_of_ble_eq_true rfl) dX6_daysFor_3 ⟨Nat.zero_le _, Nat.zero_le _⟩ (fun H locs hP hS => ?_)
  refine lv_iconst (v := (0 : Int32)) hx hb dX6_daysFor_6 (by decide) ?_
  refine lv_istore (lv' := [(4, .int (0 : Int32)), (3, .int (-1 : Int32)), (0, .ref (G.2.2.1 0)), (1, .int x1), (2, .int x2)]) hx hb dX6_daysFor_7 hl (by decide) rfl (fun ls hl => ?_)
  exact L9 zF x1 x2 (-1 : Int32) (0 : Int32) M_1 H locs ls (lv_sub hl [2, 3, 4, 1, 0] rfl) hP hS hf
def fX6_makes (x1 : Int32) (x2 : Int32) (x3 : Int32) (M : zM) : Option (Int32 × zM) :=
  zB (fX6_areThree x1 M) fun r_3 M_1 =>
  if r_3 = (0 : Int32) then
    some ((-2 : Int32), M_1)
  else
    zB (fX6_isMinute x2 M_1) fun r_7 M_5 =>
    if r_7 = (0 : Int32) then
      some ((-2 : Int32), M_5)
    else
      zB (fX6_within x3 (0 : Int32) (1 : Int32) M_5) fun r_11 M_9 =>
      if r_11 = (0 : Int32) then
        some ((-2 : Int32), M_9)
      else
        if x3 = (0 : Int32) then
          zB (fX6_drawFor x1 x2 M_9) fun r_19 M_17 =>
          some (r_19, M_17)
        else
          zB (fX6_daysFor x1 x2 M_9) fun r_16 M_14 =>
          some (r_16, M_14)
set_option maxHeartbeats 4000000 in
set_option maxRecDepth 100000 in
theorem mtX6_makes (l : Launch) (G : zGr) (hJ : zJ G 23) (x1 : Int32) (x2 : Int32) (x3 : Int32) (M : zM) (o : Int32 × zM) (hf : fX6_makes x1 x2 x3 M = some o) : zMi l G shM 23 yX6_makes cX6_makes 4 (some .int) 8 183 [.ref (G.2.2.1 0), .int x1, .int x2, .int x3] M o := by
  intro sz
  refine zOf (by decide) (Nat.le_of_ble_eq_true rfl) ?_
  intro p e R Q s m args below meth c hRm hsz hQ C0 hP hS ls hl
  subst hsz
  replace hRm : R = { frames := 8, cells := 0, slots := 0, locals := 183 } := hRm
  have hl : lv_has ls 4 [(0, .ref (G.2.2.1 0)), (1, .int x1), (2, .int x2), (3, .int x3)] := hl
  have hx := C0.1
  have hb := C0.2.1
  have hown := C0.2.2.2.1
  have hts := C0.2.2.2.2.1
  unfold fX6_makes at hf
  obtain ⟨H, eH⟩ : ∃ H, H = s.heap := ⟨_, rfl⟩
  obtain ⟨locs, el⟩ : ∃ locs : List Loc, locs = [] := ⟨_, rfl⟩
  rw [← eH] at hP ⊢
  have hS : va_S (zA G 23 s.heap.size) s.heap H locs := by rw [eH, el]; exact hS
  rw [← el]
  refine lv_aload_n hx hb dX6_makes_0 rfl (lv_at hl 0 rfl) ?_
  refine lv_iload_n hx hb dX6_makes_1 rfl (lv_at hl 1 rfl) ?_
  obtain ⟨r_3, M_1, hc_2, hf⟩ := zB_o hf
  refine zc_vi (As := [.int x1]) (rest := []) C0 hP hS hl.1 0 (mtX6_areThree l G hJ x1 M _ hc_2) lk_X6_276 (by decide) shM_0 (T := TX6) (n' := 51) rfl ds_X6_areThree (by rw [hRm]; exact ⟨Nat.le_of_ble_eq_true rfl, Nat.le_of_ble_eq_true rfl⟩) rfl rfl (Nat.le_of_ble_eq_true rfl) dX6_makes_2 ⟨Nat.zero_le _, Nat.zero_le _⟩ (fun H locs hP hS => ?_)
  refine lv_if_eq (tgt := 24) hx hb dX6_makes_5 (by decide) (fun c_4 => ?_) (fun c_4 => ?_)
  · replace hf := zI_t c_4 hf
    refine lv_bipush (v := (-2 : Int32)) hx hb dX6_makes_24 (by decide) ?_
    exact ze_i C0 hP hS hf dX6_makes_26 hQ
  · replace hf := zI_f c_4 hf
    refine lv_iload_n hx hb dX6_makes_8 rfl (lv_at hl 2 rfl) ?_
    obtain ⟨r_7, M_5, hc_6, hf⟩ := zB_o hf
    refine zc_si (As := [.int x2]) (rest := []) C0 hP hS hl.1 (mtX6_isMinute l G hJ x2 M_1 _ hc_6) ls_X6_298 ds_X6_isMinute (by rw [hRm]; exact ⟨Nat.le_of_ble_eq_true rfl, Nat.le_of_ble_eq_true rfl⟩) rfl rfl (Nat.le_of_ble_eq_true rfl) dX6_makes_9 ⟨Nat.zero_le _, Nat.zero_le _⟩ (fun H locs hP hS => ?_)
    refine lv_if_eq (tgt := 24) hx hb dX6_makes_12 (by decide) (fun c_8 => ?_) (fun c_8 => ?_)
    · replace hf := zI_t c_8 hf
      refine lv_bipush (v := (-2 : Int32)) hx hb dX6_makes_24 (by decide) ?_
      exact ze_i C0 hP hS hf dX6_makes_26 hQ
    · replace hf := zI_f c_8 hf
      refine lv_iload_n hx hb dX6_makes_15 rfl (lv_at hl 3 rfl) ?_
      refine lv_iconst (v := (0 : Int32)) hx hb dX6_makes_16 (by decide) ?_
      refine lv_iconst (v := (1 : Int32)) hx hb dX6_makes_17 (by decide) ?_
      obtain ⟨r_11, M_9, hc_10, hf⟩ := zB_o hf
      refine zc_si (As := [.int x3, .int (0 : Int32), .int (1 : Int32)]) (rest := []) C0 hP hS hl.1 (mtX6_within l G hJ x3 (0 : Int32) (1 : Int32) M_5 _ hc_10) ls_X6_88 ds_X6_within (by rw [hRm]; exact ⟨Nat.le_of_ble_eq_true rfl, Nat.le_of_ble_eq_true rfl⟩) rfl rfl (Nat.le_of_ble_eq_true rfl) dX6_makes_18 ⟨Nat.zero_le _, Nat.zero_le _⟩ (fun H locs hP hS => ?_)
      refine lv_if_ne (tgt := 27) hx hb dX6_makes_21 (by decide) (fun c_12 => ?_) (fun c_12 => ?_)
      · replace hf := zI_f c_12 hf
        refine lv_iload_n hx hb dX6_makes_27 rfl (lv_at hl 3 rfl) ?_
        refine lv_if_ne (tgt := 40) hx hb dX6_makes_28 (by decide) (fun c_13 => ?_) (fun c_13 => ?_)
        · replace hf := zI_f c_13 hf
          refine lv_aload_n hx hb dX6_makes_40 rfl (lv_at hl 0 rfl) ?_
          refine lv_iload_n hx hb dX6_makes_41 rfl (lv_at hl 1 rfl) ?_
          refine lv_iload_n hx hb dX6_makes_42 rfl (lv_at hl 2 rfl) ?_
          obtain ⟨r_16, M_14, hc_15, hf⟩ := zB_o hf
          refine zc_vi (As := [.int x1, .int x2]) (rest := []) C0 hP hS hl.1 0 (mtX6_daysFor l G hJ x1 x2 M_9 _ hc_15) lk_X6_316 (by decide) shM_0 (T := TX6) (n' := 51) rfl ds_X6_daysFor (by rw [hRm]; exact ⟨Nat.le_of_ble_eq_true rfl, Nat.le_of_ble_eq_true rfl⟩) rfl rfl (Nat.le_of_ble_eq_true rfl) dX6_makes_43 ⟨Nat.zero_le _, Nat.zero_le _⟩ (fun H locs hP hS => ?_)
          exact ze_i C0 hP hS hf dX6_makes_46 hQ
        · replace hf := zI_t c_13 hf
          refine lv_aload_n hx hb dX6_makes_31 rfl (lv_at hl 0 rfl) ?_
          refine lv_iload_n hx hb dX6_makes_32 rfl (lv_at hl 1 rfl) ?_
          refine lv_iload_n hx hb dX6_makes_33 rfl (lv_at hl 2 rfl) ?_
          obtain ⟨r_19, M_17, hc_18, hf⟩ := zB_o hf
          refine zc_vi (As := [.int x1, .int x2]) (rest := []) C0 hP hS hl.1 0 (mtX6_drawFor l G hJ x1 x2 M_9 _ hc_18) lk_X6_313 (by decide) shM_0 (T := TX6) (n' := 51) rfl ds_X6_drawFor (by rw [hRm]; exact ⟨Nat.le_of_ble_eq_true rfl, Nat.le_of_ble_eq_true rfl⟩) rfl rfl (Nat.le_of_ble_eq_true rfl) dX6_makes_34 ⟨Nat.zero_le _, Nat.zero_le _⟩ (fun H locs hP hS => ?_)
          refine lv_goto (tgt := 46) hx hb dX6_makes_37 (by decide) ?_
          exact ze_i C0 hP hS hf dX6_makes_46 hQ
      · replace hf := zI_t c_12 hf
        refine lv_bipush (v := (-2 : Int32)) hx hb dX6_makes_24 (by decide) ?_
        exact ze_i C0 hP hS hf dX6_makes_26 hQ
def fX6_wrong_J34 (r9 : Int32 → Int32 → Int32 → Int32 → zM → Option (Int32 × zM)) (x1 : Int32) (x2 : Int32) (x3 : Int32) (x4 : Int32) (M : zM) : Option (Int32 × zM) :=
  zB (fX6_minutes x2 M) fun r_13 M_11 =>
  zG (zin (((40 : Int32) * x1) + x4) 160) <|
  if r_13 = (M_11.1 22 (((40 : Int32) * x1) + x4).toNatClampNeg) then
    zL (x4 + (1 : Int32)) fun x4_16 =>
    r9 x1 x2 x3 x4_16 M_11
  else
    zL (x4 + (1 : Int32)) fun x4_17 =>
    r9 x1 x2 x4 x4_17 M_11
def fX6_wrong_B9 (r9 : Int32 → Int32 → Int32 → Int32 → zM → Option (Int32 × zM)) (x1 : Int32) (x2 : Int32) (x3 : Int32) (x4 : Int32) (M : zM) : Option (Int32 × zM) :=
  zG (zin x1 4) <|
  if (M.1 21 x1.toNatClampNeg) ≤ x4 then
    zV (fX6_restores M) fun M_5 =>
    some (x3, M_5)
  else
    if x3 = (-1 : Int32) then
      if x4 ≤ (0 : Int32) then
        fX6_wrong_J34 r9 x1 x2 x3 x4 M
      else
        zV (fX6_goes M) fun M_18 =>
        fX6_wrong_J34 r9 x1 x2 x3 x4 M_18
    else
      zV (fX6_restores M) fun M_8 =>
      some (x3, M_8)
def fX6_wrong_L9 : Nat → Int32 → Int32 → Int32 → Int32 → zM → Option (Int32 × zM)
  | 0 => fun _ _ _ _ _ => none
  | j9 + 1 => fX6_wrong_B9 (fX6_wrong_L9 j9)
def fX6_wrong (x1 : Int32) (x2 : Int32) (M : zM) : Option (Int32 × zM) :=
  zV (fX6_keeps M) fun M_1 =>
  fX6_wrong_L9 zF x1 x2 (-1 : Int32) (0 : Int32) M_1
set_option maxHeartbeats 4000000 in
set_option maxRecDepth 100000 in
theorem mtX6_wrong (l : Launch) (G : zGr) (hJ : zJ G 23) (x1 : Int32) (x2 : Int32) (M : zM) (o : Int32 × zM) (hf : fX6_wrong x1 x2 M = some o) : zMi l G shM 23 yX6_wrong cX6_wrong 5 (some .int) 5 113 [.ref (G.2.2.1 0), .int x1, .int x2] M o := by
  intro sz
  refine zOf (by decide) (Nat.le_of_ble_eq_true rfl) ?_
  intro p e R Q s m args below meth c hRm hsz hQ C0 hP hS ls hl
  subst hsz
  replace hRm : R = { frames := 5, cells := 0, slots := 0, locals := 113 } := hRm
  have hl : lv_has ls 5 [(0, .ref (G.2.2.1 0)), (1, .int x1), (2, .int x2)] := hl
  have hx := C0.1
  have hb := C0.2.1
  have hown := C0.2.2.2.1
  have hts := C0.2.2.2.2.1
  have L9 : ∀ (n9 : Nat), ∀ (x1 : Int32) (x2 : Int32) (x3 : Int32) (x4 : Int32) (M : zM) (H : Heap) (locs : List Loc) (ls : Array Slot), lv_has ls 5 [(0, .ref (G.2.2.1 0)), (1, .int x1), (2, .int x2), (3, .int x3), (4, .int x4)] → va_P G.1 zcl (zw G shM 23 M) H → va_S (zA G 23 s.heap.size) s.heap H locs → fX6_wrong_L9 n9 x1 x2 x3 x4 M = some o → W p l e R s m args below meth c H locs 0 0 Q (F0 m 9 ls []) := by
    intro n9
    induction n9 with
    | zero => intro x1 x2 x3 x4 M H locs ls hl hP hS hf; exact zn_s (show none = some o from hf)
    | succ n9 ih9 =>
      have J34 : ∀ (x1 : Int32) (x2 : Int32) (x3 : Int32) (x4 : Int32) (M : zM) (H : Heap) (locs : List Loc) (ls : Array Slot), lv_has ls 5 [(0, .ref (G.2.2.1 0)), (1, .int x1), (2, .int x2), (3, .int x3), (4, .int x4)] → va_P G.1 zcl (zw G shM 23 M) H → va_S (zA G 23 s.heap.size) s.heap H locs → fX6_wrong_J34 (fX6_wrong_L9 n9) x1 x2 x3 x4 M = some o → W p l e R s m args below meth c H locs 0 0 Q (F0 m 34 ls []) := by
        intro x1 x2 x3 x4 M H locs ls hl hP hS hf
        unfold fX6_wrong_J34 at hf
        refine lv_aload_n hx hb dX6_wrong_34 rfl (lv_at hl 0 rfl) ?_
        refine lv_iload_n hx hb dX6_wrong_35 rfl (lv_at hl 2 rfl) ?_
        obtain ⟨r_13, M_11, hc_12, hf⟩ := zB_o hf
        refine zc_vi (As := [.int x2]) (rest := []) C0 hP hS hl.1 0 (mtX6_minutes l G hJ x2 M _ hc_12) lk_X6_120 (by decide) shM_0 (T := TX6) (n' := 51) rfl ds_X6_minutes (by rw [hRm]; exact ⟨Nat.le_of_ble_eq_true rfl, Nat.le_of_ble_eq_true rfl⟩) rfl rfl (Nat.le_of_ble_eq_true rfl) dX6_wrong_36 ⟨Nat.zero_le _, Nat.zero_le _⟩ (fun H locs hP hS => ?_)
        refine lv_aload_n hx hb dX6_wrong_39 rfl (lv_at hl 0 rfl) ?_
        refine zr_getq (C := RX6) (T := TX6) (n := 51) C0 hP 0 (by decide) shM_0 50 22 rfl (by decide) uw_X6 mw_628 rfl dX6_wrong_40 ?_
        refine lv_bipush (v := (40 : Int32)) hx hb dX6_wrong_43 (by decide) ?_
        refine lv_iload_n hx hb dX6_wrong_45 rfl (lv_at hl 1 rfl) ?_
        refine lv_imul hx hb dX6_wrong_46 ?_
        refine lv_iload hx hb dX6_wrong_47 (lv_at hl 4 rfl) ?_
        refine lv_iadd hx hb dX6_wrong_49 ?_
        obtain ⟨hg_14, hf⟩ := zG_o hf
        refine zr_iald C0 hP 22 (by decide) shM_22 hg_14 dX6_wrong_50 ?_
        refine lv_icmp_eq (tgt := 57) hx hb dX6_wrong_51 (by decide) (fun c_15 => ?_) (fun c_15 => ?_)
        · replace hf := zI_t c_15 hf
          obtain ⟨x4_16, ex4_16, hf⟩ := zL_o hf
          refine lv_iinc (v := x4_16) (lv' := [(4, .int x4_16), (0, .ref (G.2.2.1 0)), (1, .int x1), (2, .int x2), (3, .int x3)]) hx hb dX6_wrong_57 hl (k := 4) rfl (by rw [ex4_16]; rfl) (by decide) rfl (fun ls hl => ?_)
          refine lv_goto (tgt := 9) hx hb dX6_wrong_60 (by decide) ?_
          exact ih9 x1 x2 x3 x4_16 M_11 H locs ls (lv_sub hl [1, 2, 3, 4, 0] rfl) hP hS hf
        · replace hf := zI_f c_15 hf
          refine lv_iload hx hb dX6_wrong_54 (lv_at hl 4 rfl) ?_
          refine lv_istore_n (lv' := [(3, .int x4), (0, .ref (G.2.2.1 0)), (1, .int x1), (2, .int x2), (4, .int x4)]) hx hb dX6_wrong_56 rfl hl (by decide) rfl (fun ls hl => ?_)
          obtain ⟨x4_17, ex4_17, hf⟩ := zL_o hf
          refine lv_iinc (v := x4_17) (lv' := [(4, .int x4_17), (3, .int x4), (0, .ref (G.2.2.1 0)), (1, .int x1), (2, .int x2)]) hx hb dX6_wrong_57 hl (k := 4) rfl (by rw [ex4_17]; rfl) (by decide) rfl (fun ls hl => ?_)
          refine lv_goto (tgt := 9) hx hb dX6_wrong_60 (by decide) ?_
          exact ih9 x1 x2 x4 x4_17 M_11 H locs ls (lv_sub hl [2, 3, 4, 1, 0] rfl) hP hS hf
      intro x1 x2 x3 x4 M H locs ls hl hP hS hf
      replace hf : fX6_wrong_B9 (fX6_wrong_L9 n9) x1 x2 x3 x4 M = some o := hf
      unfold fX6_wrong_B9 at hf
      refine lv_iload hx hb dX6_wrong_9 (lv_at hl 4 rfl) ?_
      refine lv_aload_n hx hb dX6_wrong_11 rfl (lv_at hl 0 rfl) ?_
      refine zr_getq (C := RX6) (T := TX6) (n := 51) C0 hP 0 (by decide) shM_0 49 21 rfl (by decide) uw_X6 mw_627 rfl dX6_wrong_12 ?_
      refine lv_iload_n hx hb dX6_wrong_15 rfl (lv_at hl 1 rfl) ?_
      obtain ⟨hg_3, hf⟩ := zG_o hf
      refine zr_iald C0 hP 21 (by decide) shM_21 hg_3 dX6_wrong_16 ?_
      refine lv_icmp_ge (tgt := 63) hx hb dX6_wrong_17 (by decide) (fun c_4 => ?_) (fun c_4 => ?_)
      · replace hf := zI_t c_4 hf
        refine lv_aload_n hx hb dX6_wrong_63 rfl (lv_at hl 0 rfl) ?_
        obtain ⟨M_5, hc_6, hf⟩ := zV_o hf
        refine zc_vv (As := []) (rest := []) C0 hP hS hl.1 0 (mtX6_restores l G hJ M _ hc_6) lk_X6_249 (by decide) shM_0 (T := TX6) (n' := 51) rfl ds_X6_restores (by rw [hRm]; exact ⟨Nat.le_of_ble_eq_true rfl, Nat.le_of_ble_eq_true rfl⟩) rfl rfl (Nat.le_of_ble_eq_true rfl) dX6_wrong_64 ⟨Nat.zero_le _, Nat.zero_le _⟩ (fun H locs hP hS => ?_)
        refine lv_iload_n hx hb dX6_wrong_67 rfl (lv_at hl 3 rfl) ?_
        exact ze_i C0 hP hS hf dX6_wrong_68 hQ
      · replace hf := zI_f c_4 hf
        refine lv_iload_n hx hb dX6_wrong_20 rfl (lv_at hl 3 rfl) ?_
        refine lv_iconst (v := (-1 : Int32)) hx hb dX6_wrong_21 (by decide) ?_
        refine lv_icmp_ne (tgt := 63) hx hb dX6_wrong_22 (by decide) (fun c_7 => ?_) (fun c_7 => ?_)
        · replace hf := zI_f c_7 hf
          refine lv_aload_n hx hb dX6_wrong_63 rfl (lv_at hl 0 rfl) ?_
          obtain ⟨M_8, hc_9, hf⟩ := zV_o hf
          refine zc_vv (As := []) (rest := []) C0 hP hS hl.1 0 (mtX6_restores l G hJ M _ hc_9) lk_X6_249 (by decide) shM_0 (T := TX6) (n' := 51) rfl ds_X6_restores (by rw [hRm]; exact ⟨Nat.le_of_ble_eq_true rfl, Nat.le_of_ble_eq_true rfl⟩) rfl rfl (Nat.le_of_ble_eq_true rfl) dX6_wrong_64 ⟨Nat.zero_le _, Nat.zero_le _⟩ (fun H locs hP hS => ?_)
          refine lv_iload_n hx hb dX6_wrong_67 rfl (lv_at hl 3 rfl) ?_
          exact ze_i C0 hP hS hf dX6_wrong_68 hQ
        · replace hf := zI_t c_7 hf
          refine lv_iload hx hb dX6_wrong_25 (lv_at hl 4 rfl) ?_
          refine lv_if_le (tgt := 34) hx hb dX6_wrong_27 (by decide) (fun c_10 => ?_) (fun c_10 => ?_)
          · replace hf := zI_t c_10 hf
            exact J34 x1 x2 x3 x4 M H locs ls (lv_sub hl [0, 1, 2, 3, 4] rfl) hP hS hf
          · replace hf := zI_f c_10 hf
            refine lv_aload_n hx hb dX6_wrong_30 rfl (lv_at hl 0 rfl) ?_
            obtain ⟨M_18, hc_19, hf⟩ := zV_o hf
            refine zc_vv (As := []) (rest := []) C0 hP hS hl.1 0 (mtX6_goes l G hJ M _ hc_19) lk_X6_230 (by decide) shM_0 (T := TX6) (n' := 51) rfl ds_X6_goes (by rw [hRm]; exact ⟨Nat.le_of_ble_eq_true rfl, Nat.le_of_ble_eq_true rfl⟩) rfl rfl (Nat.le_of_ble_eq_true rfl) dX6_wrong_31 ⟨Nat.zero_le _, Nat.zero_le _⟩ (fun H locs hP hS => ?_)
            exact J34 x1 x2 x3 x4 M_18 H locs ls (lv_sub hl [0, 1, 2, 3, 4] rfl) hP hS hf
  unfold fX6_wrong at hf
  obtain ⟨H, eH⟩ : ∃ H, H = s.heap := ⟨_, rfl⟩
  obtain ⟨locs, el⟩ : ∃ locs : List Loc, locs = [] := ⟨_, rfl⟩
  rw [← eH] at hP ⊢
  have hS : va_S (zA G 23 s.heap.size) s.heap H locs := by rw [eH, el]; exact hS
  rw [← el]
  refine lv_aload_n hx hb dX6_wrong_0 rfl (lv_at hl 0 rfl) ?_
  obtain ⟨M_1, hc_2, hf⟩ := zV_o hf
  refine zc_vv (As := []) (rest := []) C0 hP hS hl.1 0 (mtX6_keeps l G hJ M _ hc_2) lk_X6_246 (by decide) shM_0 (T := TX6) (n' := 51) rfl ds_X6_keeps (by rw [hRm]; exact ⟨Nat.le_of_ble_eq_true rfl, Nat.le_of_ble_eq_true rfl⟩) rfl rfl (Nat.le_of_ble_eq_true rfl) dX6_wrong_1 ⟨Nat.zero_le _, Nat.zero_le _⟩ (fun H locs hP hS => ?_)
  refine lv_iconst (v := (-1 : Int32)) hx hb dX6_wrong_4 (by decide) ?_
  refine lv_istore_n (lv' := [(3, .int (-1 : Int32)), (0, .ref (G.2.2.1 0)), (1, .int x1), (2, .int x2)]) hx hb dX6_wrong_5 rfl hl (by decide) rfl (fun ls hl => ?_)
  refine lv_iconst (v := (0 : Int32)) hx hb dX6_wrong_6 (by decide) ?_
  refine lv_istore (lv' := [(4, .int (0 : Int32)), (3, .int (-1 : Int32)), (0, .ref (G.2.2.1 0)), (1, .int x1), (2, .int x2)]) hx hb dX6_wrong_7 hl (by decide) rfl (fun ls hl => ?_)
  exact L9 zF x1 x2 (-1 : Int32) (0 : Int32) M_1 H locs ls (lv_sub hl [2, 3, 4, 1, 0] rfl) hP hS hf
def fX6_isSo (x1 : Int32) (x2 : Int32) (M : zM) : Option (Int32 × zM) :=
  zB (fX6_wrong x1 x2 M) fun r_3 M_1 =>
  if r_3 = (-1 : Int32) then
    some ((1 : Int32), M_1)
  else
    some ((0 : Int32), M_1)
set_option maxHeartbeats 4000000 in
set_option maxRecDepth 100000 in
theorem mtX6_isSo (l : Launch) (G : zGr) (hJ : zJ G 23) (x1 : Int32) (x2 : Int32) (M : zM) (o : Int32 × zM) (hf : fX6_isSo x1 x2 M = some o) : zMi l G shM 23 yX6_isSo cX6_isSo 3 (some .boolean) 6 137 [.ref (G.2.2.1 0), .int x1, .int x2] M o := by
  intro sz
  refine zOf (by decide) (Nat.le_of_ble_eq_true rfl) ?_
  intro p e R Q s m args below meth c hRm hsz hQ C0 hP hS ls hl
  subst hsz
  replace hRm : R = { frames := 6, cells := 0, slots := 0, locals := 137 } := hRm
  have hl : lv_has ls 3 [(0, .ref (G.2.2.1 0)), (1, .int x1), (2, .int x2)] := hl
  have hx := C0.1
  have hb := C0.2.1
  have hown := C0.2.2.2.1
  have hts := C0.2.2.2.2.1
  unfold fX6_isSo at hf
  obtain ⟨H, eH⟩ : ∃ H, H = s.heap := ⟨_, rfl⟩
  obtain ⟨locs, el⟩ : ∃ locs : List Loc, locs = [] := ⟨_, rfl⟩
  rw [← eH] at hP ⊢
  have hS : va_S (zA G 23 s.heap.size) s.heap H locs := by rw [eH, el]; exact hS
  rw [← el]
  refine lv_aload_n hx hb dX6_isSo_0 rfl (lv_at hl 0 rfl) ?_
  refine lv_iload_n hx hb dX6_isSo_1 rfl (lv_at hl 1 rfl) ?_
  refine lv_iload_n hx hb dX6_isSo_2 rfl (lv_at hl 2 rfl) ?_
  obtain ⟨r_3, M_1, hc_2, hf⟩ := zB_o hf
  refine zc_vi (As := [.int x1, .int x2]) (rest := []) C0 hP hS hl.1 0 (mtX6_wrong l G hJ x1 x2 M _ hc_2) lk_X6_319 (by decide) shM_0 (T := TX6) (n' := 51) rfl ds_X6_wrong (by rw [hRm]; exact ⟨Nat.le_of_ble_eq_true rfl, Nat.le_of_ble_eq_true rfl⟩) rfl rfl (Nat.le_of_ble_eq_true rfl) dX6_isSo_3 ⟨Nat.zero_le _, Nat.zero_le _⟩ (fun H locs hP hS => ?_)
  refine lv_iconst (v := (-1 : Int32)) hx hb dX6_isSo_6 (by decide) ?_
  refine lv_icmp_ne (tgt := 14) hx hb dX6_isSo_7 (by decide) (fun c_4 => ?_) (fun c_4 => ?_)
  · replace hf := zI_f c_4 hf
    refine lv_iconst (v := (0 : Int32)) hx hb dX6_isSo_14 (by decide) ?_
    exact ze_z C0 hP hS (by decide) hf dX6_isSo_15 hQ
  · replace hf := zI_t c_4 hf
    refine lv_iconst (v := (1 : Int32)) hx hb dX6_isSo_10 (by decide) ?_
    refine lv_goto (tgt := 15) hx hb dX6_isSo_11 (by decide) ?_
    exact ze_z C0 hP hS (by decide) hf dX6_isSo_15 hQ
def fX6_kindsSo_B13 (r13 : Int32 → Int32 → Int32 → Int32 → Int32 → zM → Option (Int32 × zM)) (x1 : Int32) (x2 : Int32) (x3 : Int32) (x4 : Int32) (x5 : Int32) (M : zM) : Option (Int32 × zM) :=
  if (6 : Int32) ≤ x5 then
    zG (zin x2 5) <|
    zL (zu M 1 x2.toNatClampNeg x3) fun M_5 =>
    some (x4, M_5)
  else
    zG (zin x2 5) <|
    zL (zu M 1 x2.toNatClampNeg x5) fun M_7 =>
    zB (fX6_isSo x1 x2 M_7) fun r_10 M_8 =>
    if r_10 = (0 : Int32) then
      zL (x5 + (1 : Int32)) fun x5_12 =>
      r13 x1 x2 x3 x4 x5_12 M_8
    else
      zL (x4 ||| (zshl (1 : Int32) x5)) fun x4_13 =>
      zL (x5 + (1 : Int32)) fun x5_14 =>
      r13 x1 x2 x3 x4_13 x5_14 M_8
def fX6_kindsSo_L13 : Nat → Int32 → Int32 → Int32 → Int32 → Int32 → zM → Option (Int32 × zM)
  | 0 => fun _ _ _ _ _ _ => none
  | j9 + 1 => fX6_kindsSo_B13 (fX6_kindsSo_L13 j9)
def fX6_kindsSo (x1 : Int32) (x2 : Int32) (M : zM) : Option (Int32 × zM) :=
  zG (zin x2 5) <|
  zL (M.1 1 x2.toNatClampNeg) fun x3_2 =>
  fX6_kindsSo_L13 zF x1 x2 x3_2 (0 : Int32) (0 : Int32) M
set_option maxHeartbeats 4000000 in
set_option maxRecDepth 100000 in
theorem mtX6_kindsSo (l : Launch) (G : zGr) (hJ : zJ G 23) (x1 : Int32) (x2 : Int32) (M : zM) (o : Int32 × zM) (hf : fX6_kindsSo x1 x2 M = some o) : zMi l G shM 23 yX6_kindsSo cX6_kindsSo 6 (some .int) 7 159 [.ref (G.2.2.1 0), .int x1, .int x2] M o := by
  intro sz
  refine zOf (by decide) (Nat.le_of_ble_eq_true rfl) ?_
  intro p e R Q s m args below meth c hRm hsz hQ C0 hP hS ls hl
  subst hsz
  replace hRm : R = { frames := 7, cells := 0, slots := 0, locals := 159 } := hRm
  have hl : lv_has ls 6 [(0, .ref (G.2.2.1 0)), (1, .int x1), (2, .int x2)] := hl
  have hx := C0.1
  have hb := C0.2.1
  have hown := C0.2.2.2.1
  have hts := C0.2.2.2.2.1
  have L13 : ∀ (n13 : Nat), ∀ (x1 : Int32) (x2 : Int32) (x3 : Int32) (x4 : Int32) (x5 : Int32) (M : zM) (H : Heap) (locs : List Loc) (ls : Array Slot), lv_has ls 6 [(0, .ref (G.2.2.1 0)), (1, .int x1), (2, .int x2), (3, .int x3), (4, .int x4), (5, .int x5)] → va_P G.1 zcl (zw G shM 23 M) H → va_S (zA G 23 s.heap.size) s.heap H locs → fX6_kindsSo_L13 n13 x1 x2 x3 x4 x5 M = some o → W p l e R s m args below meth c H locs 0 0 Q (F0 m 13 ls []) := by
    intro n13
    induction n13 with
    | zero => intro x1 x2 x3 x4 x5 M H locs ls hl hP hS hf; exact zn_s (show none = some o from hf)
    | succ n13 ih13 =>
      intro x1 x2 x3 x4 x5 M H locs ls hl hP hS hf
      replace hf : fX6_kindsSo_B13 (fX6_kindsSo_L13 n13) x1 x2 x3 x4 x5 M = some o := hf
      unfold fX6_kindsSo_B13 at hf
      refine lv_iload hx hb dX6_kindsSo_13 (lv_at hl 5 rfl) ?_
      refine lv_bipush (v := (6 : Int32)) hx hb dX6_kindsSo_15 (by decide) ?_
      refine lv_icmp_ge (tgt := 52) hx hb dX6_kindsSo_17 (by decide) (fun c_3 => ?_) (fun c_3 => ?_)
      · replace hf := zI_t c_3 hf
        refine lv_aload_n hx hb dX6_kindsSo_52 rfl (lv_at hl 0 rfl) ?_
        refine zr_getq (C := RX6) (T := TX6) (n := 51) C0 hP 0 (by decide) shM_0 3 1 rfl (by decide) uw_X6 mw_413 rfl dX6_kindsSo_53 ?_
        refine lv_iload_n hx hb dX6_kindsSo_56 rfl (lv_at hl 2 rfl) ?_
        refine lv_iload_n hx hb dX6_kindsSo_57 rfl (lv_at hl 3 rfl) ?_
        obtain ⟨hg_4, hf⟩ := zG_o hf
        refine zr_iast C0 hJ hP hS 1 (by decide) shM_1 hg_4 dX6_kindsSo_58 (fun H locs hP hS => ?_)
        obtain ⟨M_5, eM_5, hf⟩ := zL_o hf
        have hP : va_P G.1 zcl (zw G shM 23 M_5) H := by rw [eM_5]; exact hP
        refine lv_iload hx hb dX6_kindsSo_59 (lv_at hl 4 rfl) ?_
        exact ze_i C0 hP hS hf dX6_kindsSo_61 hQ
      · replace hf := zI_f c_3 hf
        refine lv_aload_n hx hb dX6_kindsSo_20 rfl (lv_at hl 0 rfl) ?_
        refine zr_getq (C := RX6) (T := TX6) (n := 51) C0 hP 0 (by decide) shM_0 3 1 rfl (by decide) uw_X6 mw_413 rfl dX6_kindsSo_21 ?_
        refine lv_iload_n hx hb dX6_kindsSo_24 rfl (lv_at hl 2 rfl) ?_
        refine lv_iload hx hb dX6_kindsSo_25 (lv_at hl 5 rfl) ?_
        obtain ⟨hg_6, hf⟩ := zG_o hf
        refine zr_iast C0 hJ hP hS 1 (by decide) shM_1 hg_6 dX6_kindsSo_27 (fun H locs hP hS => ?_)
        obtain ⟨M_7, eM_7, hf⟩ := zL_o hf
        have hP : va_P G.1 zcl (zw G shM 23 M_7) H := by rw [eM_7]; exact hP
        refine lv_aload_n hx hb dX6_kindsSo_28 rfl (lv_at hl 0 rfl) ?_
        refine lv_iload_n hx hb dX6_kindsSo_29 rfl (lv_at hl 1 rfl) ?_
        refine lv_iload_n hx hb dX6_kindsSo_30 rfl (lv_at hl 2 rfl) ?_
        obtain ⟨r_10, M_8, hc_9, hf⟩ := zB_o hf
        refine zc_vi (As := [.int x1, .int x2]) (rest := []) C0 hP hS hl.1 0 (mtX6_isSo l G hJ x1 x2 M_7 _ hc_9) lk_X6_322 (by decide) shM_0 (T := TX6) (n' := 51) rfl ds_X6_isSo (by rw [hRm]; exact ⟨Nat.le_of_ble_eq_true rfl, Nat.le_of_ble_eq_true rfl⟩) rfl rfl (Nat.le_of_ble_eq_true rfl) dX6_kindsSo_31 ⟨Nat.zero_le _, Nat.zero_le _⟩ (fun H locs hP hS => ?_)
        refine lv_if_eq (tgt := 46) hx hb dX6_kindsSo_34 (by decide) (fun c_11 => ?_) (fun c_11 => ?_)
        · replace hf := zI_t c_11 hf
          obtain ⟨x5_12, ex5_12, hf⟩ := zL_o hf
          refine lv_iinc (v := x5_12) (lv' := [(5, .int x5_12), (0, .ref (G.2.2.1 0)), (1, .int x1), (2, .int x2), (3, .int x3), (4, .int x4)]) hx hb dX6_kindsSo_46 hl (k := 5) rfl (by rw [ex5_12]; rfl) (by decide) rfl (fun ls hl => ?_)
          refine lv_goto (tgt := 13) hx hb dX6_kindsSo_49 (by decide) ?_
          exact ih13 x1 x2 x3 x4 x5_12 M_8 H locs ls (lv_sub hl [1, 2, 3, 4, 5, 0] rfl) hP hS hf
        · replace hf := zI_f c_11 hf
          refine lv_iload hx hb dX6_kindsSo_37 (lv_at hl 4 rfl) ?_
          refine lv_iconst (v := (1 : Int32)) hx hb dX6_kindsSo_39 (by decide) ?_
          refine lv_iload hx hb dX6_kindsSo_40 (lv_at hl 5 rfl) ?_
          refine zo_ishl hx hb dX6_kindsSo_42 ?_
          refine lv_ior hx hb dX6_kindsSo_43 ?_
          refine lv_topi (fun x4_13 ex4_13 => ?_)
          replace hf := zL_e ex4_13 hf
          refine lv_istore (lv' := [(4, .int x4_13), (0, .ref (G.2.2.1 0)), (1, .int x1), (2, .int x2), (3, .int x3), (5, .int x5)]) hx hb dX6_kindsSo_44 hl (by decide) rfl (fun ls hl => ?_)
          obtain ⟨x5_14, ex5_14, hf⟩ := zL_o hf
          refine lv_iinc (v := x5_14) (lv' := [(5, .int x5_14), (4, .int x4_13), (0, .ref (G.2.2.1 0)), (1, .int x1), (2, .int x2), (3, .int x3)]) hx hb dX6_kindsSo_46 hl (k := 5) rfl (by rw [ex5_14]; rfl) (by decide) rfl (fun ls hl => ?_)
          refine lv_goto (tgt := 13) hx hb dX6_kindsSo_49 (by decide) ?_
          exact ih13 x1 x2 x3 x4_13 x5_14 M_8 H locs ls (lv_sub hl [2, 3, 4, 5, 1, 0] rfl) hP hS hf
  unfold fX6_kindsSo at hf
  obtain ⟨H, eH⟩ : ∃ H, H = s.heap := ⟨_, rfl⟩
  obtain ⟨locs, el⟩ : ∃ locs : List Loc, locs = [] := ⟨_, rfl⟩
  rw [← eH] at hP ⊢
  have hS : va_S (zA G 23 s.heap.size) s.heap H locs := by rw [eH, el]; exact hS
  rw [← el]
  refine lv_aload_n hx hb dX6_kindsSo_0 rfl (lv_at hl 0 rfl) ?_
  refine zr_getq (C := RX6) (T := TX6) (n := 51) C0 hP 0 (by decide) shM_0 3 1 rfl (by decide) uw_X6 mw_413 rfl dX6_kindsSo_1 ?_
  refine lv_iload_n hx hb dX6_kindsSo_4 rfl (lv_at hl 2 rfl) ?_
  obtain ⟨hg_1, hf⟩ := zG_o hf
  refine zr_iald C0 hP 1 (by decide) shM_1 hg_1 dX6_kindsSo_5 ?_
  refine lv_topi (fun x3_2 ex3_2 => ?_)
  replace hf := zL_e ex3_2 hf
  refine lv_istore_n (lv' := [(3, .int x3_2), (0, .ref (G.2.2.1 0)), (1, .int x1), (2, .int x2)]) hx hb dX6_kindsSo_6 rfl hl (by decide) rfl (fun ls hl => ?_)
  refine lv_iconst (v := (0 : Int32)) hx hb dX6_kindsSo_7 (by decide) ?_
  refine lv_istore (lv' := [(4, .int (0 : Int32)), (3, .int x3_2), (0, .ref (G.2.2.1 0)), (1, .int x1), (2, .int x2)]) hx hb dX6_kindsSo_8 hl (by decide) rfl (fun ls hl => ?_)
  refine lv_iconst (v := (0 : Int32)) hx hb dX6_kindsSo_10 (by decide) ?_
  refine lv_istore (lv' := [(5, .int (0 : Int32)), (4, .int (0 : Int32)), (3, .int x3_2), (0, .ref (G.2.2.1 0)), (1, .int x1), (2, .int x2)]) hx hb dX6_kindsSo_11 hl (by decide) rfl (fun ls hl => ?_)
  exact L13 zF x1 x2 x3_2 (0 : Int32) (0 : Int32) M H locs ls (lv_sub hl [3, 4, 5, 2, 1, 0] rfl) hP hS hf
def fX6_numbersSo_B13 (r13 : Int32 → Int32 → Int32 → Int32 → Int32 → zM → Option (Int32 × zM)) (x1 : Int32) (x2 : Int32) (x3 : Int32) (x4 : Int32) (x5 : Int32) (M : zM) : Option (Int32 × zM) :=
  if (10 : Int32) ≤ x5 then
    zG (zin x2 5) <|
    zL (zu M 2 x2.toNatClampNeg x3) fun M_5 =>
    some (x4, M_5)
  else
    zG (zin x2 5) <|
    zL (zu M 2 x2.toNatClampNeg x5) fun M_7 =>
    zB (fX6_isSo x1 x2 M_7) fun r_10 M_8 =>
    if r_10 = (0 : Int32) then
      zL (x5 + (1 : Int32)) fun x5_12 =>
      r13 x1 x2 x3 x4 x5_12 M_8
    else
      zL (x4 ||| (zshl (1 : Int32) x5)) fun x4_13 =>
      zL (x5 + (1 : Int32)) fun x5_14 =>
      r13 x1 x2 x3 x4_13 x5_14 M_8
def fX6_numbersSo_L13 : Nat → Int32 → Int32 → Int32 → Int32 → Int32 → zM → Option (Int32 × zM)
  | 0 => fun _ _ _ _ _ _ => none
  | j9 + 1 => fX6_numbersSo_B13 (fX6_numbersSo_L13 j9)
def fX6_numbersSo (x1 : Int32) (x2 : Int32) (M : zM) : Option (Int32 × zM) :=
  zG (zin x2 5) <|
  zL (M.1 2 x2.toNatClampNeg) fun x3_2 =>
  fX6_numbersSo_L13 zF x1 x2 x3_2 (0 : Int32) (0 : Int32) M
set_option maxHeartbeats 4000000 in
set_option maxRecDepth 100000 in
theorem mtX6_numbersSo (l : Launch) (G : zGr) (hJ : zJ G 23) (x1 : Int32) (x2 : Int32) (M : zM) (o : Int32 × zM) (hf : fX6_numbersSo x1 x2 M = some o) : zMi l G shM 23 yX6_numbersSo cX6_numbersSo 6 (some .int) 7 159 [.ref (G.2.2.1 0), .int x1, .int x2] M o := by
  intro sz
  refine zOf (by decide) (Nat.le_of_ble_eq_true rfl) ?_
  intro p e R Q s m args below meth c hRm hsz hQ C0 hP hS ls hl
  subst hsz
  replace hRm : R = { frames := 7, cells := 0, slots := 0, locals := 159 } := hRm
  have hl : lv_has ls 6 [(0, .ref (G.2.2.1 0)), (1, .int x1), (2, .int x2)] := hl
  have hx := C0.1
  have hb := C0.2.1
  have hown := C0.2.2.2.1
  have hts := C0.2.2.2.2.1
  have L13 : ∀ (n13 : Nat), ∀ (x1 : Int32) (x2 : Int32) (x3 : Int32) (x4 : Int32) (x5 : Int32) (M : zM) (H : Heap) (locs : List Loc) (ls : Array Slot), lv_has ls 6 [(0, .ref (G.2.2.1 0)), (1, .int x1), (2, .int x2), (3, .int x3), (4, .int x4), (5, .int x5)] → va_P G.1 zcl (zw G shM 23 M) H → va_S (zA G 23 s.heap.size) s.heap H locs → fX6_numbersSo_L13 n13 x1 x2 x3 x4 x5 M = some o → W p l e R s m args below meth c H locs 0 0 Q (F0 m 13 ls []) := by
    intro n13
    induction n13 with
    | zero => intro x1 x2 x3 x4 x5 M H locs ls hl hP hS hf; exact zn_s (show none = some o from hf)
    | succ n13 ih13 =>
      intro x1 x2 x3 x4 x5 M H locs ls hl hP hS hf
      replace hf : fX6_numbersSo_B13 (fX6_numbersSo_L13 n13) x1 x2 x3 x4 x5 M = some o := hf
      unfold fX6_numbersSo_B13 at hf
      refine lv_iload hx hb dX6_numbersSo_13 (lv_at hl 5 rfl) ?_
      refine lv_bipush (v := (10 : Int32)) hx hb dX6_numbersSo_15 (by decide) ?_
      refine lv_icmp_ge (tgt := 52) hx hb dX6_numbersSo_17 (by decide) (fun c_3 => ?_) (fun c_3 => ?_)
      · replace hf := zI_t c_3 hf
        refine lv_aload_n hx hb dX6_numbersSo_52 rfl (lv_at hl 0 rfl) ?_
        refine zr_getq (C := RX6) (T := TX6) (n := 51) C0 hP 0 (by decide) shM_0 4 2 rfl (by decide) uw_X6 mw_402 rfl dX6_numbersSo_53 ?_
        refine lv_iload_n hx hb dX6_numbersSo_56 rfl (lv_at hl 2 rfl) ?_
        refine lv_iload_n hx hb dX6_numbersSo_57 rfl (lv_at hl 3 rfl) ?_
        obtain ⟨hg_4, hf⟩ := zG_o hf
        refine zr_iast C0 hJ hP hS 2 (by decide) shM_2 hg_4 dX6_numbersSo_58 (fun H locs hP hS => ?_)
        obtain ⟨M_5, eM_5, hf⟩ := zL_o hf
        have hP : va_P G.1 zcl (zw G shM 23 M_5) H := by rw [eM_5]; exact hP
        refine lv_iload hx hb dX6_numbersSo_59 (lv_at hl 4 rfl) ?_
        exact ze_i C0 hP hS hf dX6_numbersSo_61 hQ
      · replace hf := zI_f c_3 hf
        refine lv_aload_n hx hb dX6_numbersSo_20 rfl (lv_at hl 0 rfl) ?_
        refine zr_getq (C := RX6) (T := TX6) (n := 51) C0 hP 0 (by decide) shM_0 4 2 rfl (by decide) uw_X6 mw_402 rfl dX6_numbersSo_21 ?_
        refine lv_iload_n hx hb dX6_numbersSo_24 rfl (lv_at hl 2 rfl) ?_
        refine lv_iload hx hb dX6_numbersSo_25 (lv_at hl 5 rfl) ?_
        obtain ⟨hg_6, hf⟩ := zG_o hf
        refine zr_iast C0 hJ hP hS 2 (by decide) shM_2 hg_6 dX6_numbersSo_27 (fun H locs hP hS => ?_)
        obtain ⟨M_7, eM_7, hf⟩ := zL_o hf
        have hP : va_P G.1 zcl (zw G shM 23 M_7) H := by rw [eM_7]; exact hP
        refine lv_aload_n hx hb dX6_numbersSo_28 rfl (lv_at hl 0 rfl) ?_
        refine lv_iload_n hx hb dX6_numbersSo_29 rfl (lv_at hl 1 rfl) ?_
        refine lv_iload_n hx hb dX6_numbersSo_30 rfl (lv_at hl 2 rfl) ?_
        obtain ⟨r_10, M_8, hc_9, hf⟩ := zB_o hf
        refine zc_vi (As := [.int x1, .int x2]) (rest := []) C0 hP hS hl.1 0 (mtX6_isSo l G hJ x1 x2 M_7 _ hc_9) lk_X6_322 (by decide) shM_0 (T := TX6) (n' := 51) rfl ds_X6_isSo (by rw [hRm]; exact ⟨Nat.le_of_ble_eq_true rfl, Nat.le_of_ble_eq_true rfl⟩) rfl rfl (Nat.le_of_ble_eq_true rfl) dX6_numbersSo_31 ⟨Nat.zero_le _, Nat.zero_le _⟩ (fun H locs hP hS => ?_)
        refine lv_if_eq (tgt := 46) hx hb dX6_numbersSo_34 (by decide) (fun c_11 => ?_) (fun c_11 => ?_)
        · replace hf := zI_t c_11 hf
          obtain ⟨x5_12, ex5_12, hf⟩ := zL_o hf
          refine lv_iinc (v := x5_12) (lv' := [(5, .int x5_12), (0, .ref (G.2.2.1 0)), (1, .int x1), (2, .int x2), (3, .int x3), (4, .int x4)]) hx hb dX6_numbersSo_46 hl (k := 5) rfl (by rw [ex5_12]; rfl) (by decide) rfl (fun ls hl => ?_)
          refine lv_goto (tgt := 13) hx hb dX6_numbersSo_49 (by decide) ?_
          exact ih13 x1 x2 x3 x4 x5_12 M_8 H locs ls (lv_sub hl [1, 2, 3, 4, 5, 0] rfl) hP hS hf
        · replace hf := zI_f c_11 hf
          refine lv_iload hx hb dX6_numbersSo_37 (lv_at hl 4 rfl) ?_
          refine lv_iconst (v := (1 : Int32)) hx hb dX6_numbersSo_39 (by decide) ?_
          refine lv_iload hx hb dX6_numbersSo_40 (lv_at hl 5 rfl) ?_
          refine zo_ishl hx hb dX6_numbersSo_42 ?_
          refine lv_ior hx hb dX6_numbersSo_43 ?_
          refine lv_topi (fun x4_13 ex4_13 => ?_)
          replace hf := zL_e ex4_13 hf
          refine lv_istore (lv' := [(4, .int x4_13), (0, .ref (G.2.2.1 0)), (1, .int x1), (2, .int x2), (3, .int x3), (5, .int x5)]) hx hb dX6_numbersSo_44 hl (by decide) rfl (fun ls hl => ?_)
          obtain ⟨x5_14, ex5_14, hf⟩ := zL_o hf
          refine lv_iinc (v := x5_14) (lv' := [(5, .int x5_14), (4, .int x4_13), (0, .ref (G.2.2.1 0)), (1, .int x1), (2, .int x2), (3, .int x3)]) hx hb dX6_numbersSo_46 hl (k := 5) rfl (by rw [ex5_14]; rfl) (by decide) rfl (fun ls hl => ?_)
          refine lv_goto (tgt := 13) hx hb dX6_numbersSo_49 (by decide) ?_
          exact ih13 x1 x2 x3 x4_13 x5_14 M_8 H locs ls (lv_sub hl [2, 3, 4, 5, 1, 0] rfl) hP hS hf
  unfold fX6_numbersSo at hf
  obtain ⟨H, eH⟩ : ∃ H, H = s.heap := ⟨_, rfl⟩
  obtain ⟨locs, el⟩ : ∃ locs : List Loc, locs = [] := ⟨_, rfl⟩
  rw [← eH] at hP ⊢
  have hS : va_S (zA G 23 s.heap.size) s.heap H locs := by rw [eH, el]; exact hS
  rw [← el]
  refine lv_aload_n hx hb dX6_numbersSo_0 rfl (lv_at hl 0 rfl) ?_
  refine zr_getq (C := RX6) (T := TX6) (n := 51) C0 hP 0 (by decide) shM_0 4 2 rfl (by decide) uw_X6 mw_402 rfl dX6_numbersSo_1 ?_
  refine lv_iload_n hx hb dX6_numbersSo_4 rfl (lv_at hl 2 rfl) ?_
  obtain ⟨hg_1, hf⟩ := zG_o hf
  refine zr_iald C0 hP 2 (by decide) shM_2 hg_1 dX6_numbersSo_5 ?_
  refine lv_topi (fun x3_2 ex3_2 => ?_)
  replace hf := zL_e ex3_2 hf
  refine lv_istore_n (lv' := [(3, .int x3_2), (0, .ref (G.2.2.1 0)), (1, .int x1), (2, .int x2)]) hx hb dX6_numbersSo_6 rfl hl (by decide) rfl (fun ls hl => ?_)
  refine lv_iconst (v := (0 : Int32)) hx hb dX6_numbersSo_7 (by decide) ?_
  refine lv_istore (lv' := [(4, .int (0 : Int32)), (3, .int x3_2), (0, .ref (G.2.2.1 0)), (1, .int x1), (2, .int x2)]) hx hb dX6_numbersSo_8 hl (by decide) rfl (fun ls hl => ?_)
  refine lv_iconst (v := (0 : Int32)) hx hb dX6_numbersSo_10 (by decide) ?_
  refine lv_istore (lv' := [(5, .int (0 : Int32)), (4, .int (0 : Int32)), (3, .int x3_2), (0, .ref (G.2.2.1 0)), (1, .int x1), (2, .int x2)]) hx hb dX6_numbersSo_11 hl (by decide) rfl (fun ls hl => ?_)
  exact L13 zF x1 x2 x3_2 (0 : Int32) (0 : Int32) M H locs ls (lv_sub hl [3, 4, 5, 2, 1, 0] rfl) hP hS hf
def fX6_wetsSo_B11 (r11 : Int32 → Int32 → Int32 → Int32 → Int32 → zM → Option (Int32 × zM)) (x1 : Int32) (x2 : Int32) (x3 : Int32) (x4 : Int32) (x5 : Int32) (M : zM) : Option (Int32 × zM) :=
  if (10 : Int32) ≤ x5 then
    zL (zu M 0 1 x3) fun M_3 =>
    some (x4, M_3)
  else
    zL (zu M 0 1 x5) fun M_4 =>
    zB (fX6_isSo x1 x2 M_4) fun r_7 M_5 =>
    if r_7 = (0 : Int32) then
      zL (x5 + (1 : Int32)) fun x5_9 =>
      r11 x1 x2 x3 x4 x5_9 M_5
    else
      zL (x4 ||| (zshl (1 : Int32) x5)) fun x4_10 =>
      zL (x5 + (1 : Int32)) fun x5_11 =>
      r11 x1 x2 x3 x4_10 x5_11 M_5
def fX6_wetsSo_L11 : Nat → Int32 → Int32 → Int32 → Int32 → Int32 → zM → Option (Int32 × zM)
  | 0 => fun _ _ _ _ _ _ => none
  | j9 + 1 => fX6_wetsSo_B11 (fX6_wetsSo_L11 j9)
def fX6_wetsSo (x1 : Int32) (x2 : Int32) (M : zM) : Option (Int32 × zM) :=
  zL (M.1 0 1) fun x3_1 =>
  fX6_wetsSo_L11 zF x1 x2 x3_1 (0 : Int32) (0 : Int32) M
set_option maxHeartbeats 4000000 in
set_option maxRecDepth 100000 in
theorem mtX6_wetsSo (l : Launch) (G : zGr) (hJ : zJ G 23) (x1 : Int32) (x2 : Int32) (M : zM) (o : Int32 × zM) (hf : fX6_wetsSo x1 x2 M = some o) : zMi l G shM 23 yX6_wetsSo cX6_wetsSo 6 (some .int) 7 159 [.ref (G.2.2.1 0), .int x1, .int x2] M o := by
  intro sz
  refine zOf (by decide) (Nat.le_of_ble_eq_true rfl) ?_
  intro p e R Q s m args below meth c hRm hsz hQ C0 hP hS ls hl
  subst hsz
  replace hRm : R = { frames := 7, cells := 0, slots := 0, locals := 159 } := hRm
  have hl : lv_has ls 6 [(0, .ref (G.2.2.1 0)), (1, .int x1), (2, .int x2)] := hl
  have hx := C0.1
  have hb := C0.2.1
  have hown := C0.2.2.2.1
  have hts := C0.2.2.2.2.1
  have L11 : ∀ (n11 : Nat), ∀ (x1 : Int32) (x2 : Int32) (x3 : Int32) (x4 : Int32) (x5 : Int32) (M : zM) (H : Heap) (locs : List Loc) (ls : Array Slot), lv_has ls 6 [(0, .ref (G.2.2.1 0)), (1, .int x1), (2, .int x2), (3, .int x3), (4, .int x4), (5, .int x5)] → va_P G.1 zcl (zw G shM 23 M) H → va_S (zA G 23 s.heap.size) s.heap H locs → fX6_wetsSo_L11 n11 x1 x2 x3 x4 x5 M = some o → W p l e R s m args below meth c H locs 0 0 Q (F0 m 11 ls []) := by
    intro n11
    induction n11 with
    | zero => intro x1 x2 x3 x4 x5 M H locs ls hl hP hS hf; exact zn_s (show none = some o from hf)
    | succ n11 ih11 =>
      intro x1 x2 x3 x4 x5 M H locs ls hl hP hS hf
      replace hf : fX6_wetsSo_B11 (fX6_wetsSo_L11 n11) x1 x2 x3 x4 x5 M = some o := hf
      unfold fX6_wetsSo_B11 at hf
      refine lv_iload hx hb dX6_wetsSo_11 (lv_at hl 5 rfl) ?_
      refine lv_bipush (v := (10 : Int32)) hx hb dX6_wetsSo_13 (by decide) ?_
      refine lv_icmp_ge (tgt := 48) hx hb dX6_wetsSo_15 (by decide) (fun c_2 => ?_) (fun c_2 => ?_)
      · replace hf := zI_t c_2 hf
        refine lv_aload_n hx hb dX6_wetsSo_48 rfl (lv_at hl 0 rfl) ?_
        refine lv_iload_n hx hb dX6_wetsSo_49 rfl (lv_at hl 3 rfl) ?_
        refine zr_put (C := RX6) (T := TX6) (n := 51) C0 hJ hP hS 0 (by decide) shM_0 1 rfl (by decide) uw_X6 tyX6 tyX6_ok nmX6 mw_401 rfl rfl ⟨rfl, rfl⟩ dX6_wetsSo_50 (fun H locs hP hS => ?_)
        obtain ⟨M_3, eM_3, hf⟩ := zL_o hf
        have hP : va_P G.1 zcl (zw G shM 23 M_3) H := by rw [eM_3]; exact hP
        refine lv_iload hx hb dX6_wetsSo_53 (lv_at hl 4 rfl) ?_
        exact ze_i C0 hP hS hf dX6_wetsSo_55 hQ
      · replace hf := zI_f c_2 hf
        refine lv_aload_n hx hb dX6_wetsSo_18 rfl (lv_at hl 0 rfl) ?_
        refine lv_iload hx hb dX6_wetsSo_19 (lv_at hl 5 rfl) ?_
        refine zr_put (C := RX6) (T := TX6) (n := 51) C0 hJ hP hS 0 (by decide) shM_0 1 rfl (by decide) uw_X6 tyX6 tyX6_ok nmX6 mw_401 rfl rfl ⟨rfl, rfl⟩ dX6_wetsSo_21 (fun H locs hP hS => ?_)
        obtain ⟨M_4, eM_4, hf⟩ := zL_o hf
        have hP : va_P G.1 zcl (zw G shM 23 M_4) H := by rw [eM_4]; exact hP
        refine lv_aload_n hx hb dX6_wetsSo_24 rfl (lv_at hl 0 rfl) ?_
        refine lv_iload_n hx hb dX6_wetsSo_25 rfl (lv_at hl 1 rfl) ?_
        refine lv_iload_n hx hb dX6_wetsSo_26 rfl (lv_at hl 2 rfl) ?_
        obtain ⟨r_7, M_5, hc_6, hf⟩ := zB_o hf
        refine zc_vi (As := [.int x1, .int x2]) (rest := []) C0 hP hS hl.1 0 (mtX6_isSo l G hJ x1 x2 M_4 _ hc_6) lk_X6_322 (by decide) shM_0 (T := TX6) (n' := 51) rfl ds_X6_isSo (by rw [hRm]; exact ⟨Nat.le_of_ble_eq_true rfl, Nat.le_of_ble_eq_true rfl⟩) rfl rfl (Nat.le_of_ble_eq_true rfl) dX6_wetsSo_27 ⟨Nat.zero_le _, Nat.zero_le _⟩ (fun H locs hP hS => ?_)
        refine lv_if_eq (tgt := 42) hx hb dX6_wetsSo_30 (by decide) (fun c_8 => ?_) (fun c_8 => ?_)
        · replace hf := zI_t c_8 hf
          obtain ⟨x5_9, ex5_9, hf⟩ := zL_o hf
          refine lv_iinc (v := x5_9) (lv' := [(5, .int x5_9), (0, .ref (G.2.2.1 0)), (1, .int x1), (2, .int x2), (3, .int x3), (4, .int x4)]) hx hb dX6_wetsSo_42 hl (k := 5) rfl (by rw [ex5_9]; rfl) (by decide) rfl (fun ls hl => ?_)
          refine lv_goto (tgt := 11) hx hb dX6_wetsSo_45 (by decide) ?_
          exact ih11 x1 x2 x3 x4 x5_9 M_5 H locs ls (lv_sub hl [1, 2, 3, 4, 5, 0] rfl) hP hS hf
        · replace hf := zI_f c_8 hf
          refine lv_iload hx hb dX6_wetsSo_33 (lv_at hl 4 rfl) ?_
          refine lv_iconst (v := (1 : Int32)) hx hb dX6_wetsSo_35 (by decide) ?_
          refine lv_iload hx hb dX6_wetsSo_36 (lv_at hl 5 rfl) ?_
          refine zo_ishl hx hb dX6_wetsSo_38 ?_
          refine lv_ior hx hb dX6_wetsSo_39 ?_
          refine lv_topi (fun x4_10 ex4_10 => ?_)
          replace hf := zL_e ex4_10 hf
          refine lv_istore (lv' := [(4, .int x4_10), (0, .ref (G.2.2.1 0)), (1, .int x1), (2, .int x2), (3, .int x3), (5, .int x5)]) hx hb dX6_wetsSo_40 hl (by decide) rfl (fun ls hl => ?_)
          obtain ⟨x5_11, ex5_11, hf⟩ := zL_o hf
          refine lv_iinc (v := x5_11) (lv' := [(5, .int x5_11), (4, .int x4_10), (0, .ref (G.2.2.1 0)), (1, .int x1), (2, .int x2), (3, .int x3)]) hx hb dX6_wetsSo_42 hl (k := 5) rfl (by rw [ex5_11]; rfl) (by decide) rfl (fun ls hl => ?_)
          refine lv_goto (tgt := 11) hx hb dX6_wetsSo_45 (by decide) ?_
          exact ih11 x1 x2 x3 x4_10 x5_11 M_5 H locs ls (lv_sub hl [2, 3, 4, 5, 1, 0] rfl) hP hS hf
  unfold fX6_wetsSo at hf
  obtain ⟨H, eH⟩ : ∃ H, H = s.heap := ⟨_, rfl⟩
  obtain ⟨locs, el⟩ : ∃ locs : List Loc, locs = [] := ⟨_, rfl⟩
  rw [← eH] at hP ⊢
  have hS : va_S (zA G 23 s.heap.size) s.heap H locs := by rw [eH, el]; exact hS
  rw [← el]
  refine lv_aload_n hx hb dX6_wetsSo_0 rfl (lv_at hl 0 rfl) ?_
  refine zr_get (C := RX6) (T := TX6) (n := 51) C0 hP 0 (by decide) shM_0 1 rfl (by decide) uw_X6 mw_401 rfl dX6_wetsSo_1 ?_
  refine lv_topi (fun x3_1 ex3_1 => ?_)
  replace hf := zL_e ex3_1 hf
  refine lv_istore_n (lv' := [(3, .int x3_1), (0, .ref (G.2.2.1 0)), (1, .int x1), (2, .int x2)]) hx hb dX6_wetsSo_4 rfl hl (by decide) rfl (fun ls hl => ?_)
  refine lv_iconst (v := (0 : Int32)) hx hb dX6_wetsSo_5 (by decide) ?_
  refine lv_istore (lv' := [(4, .int (0 : Int32)), (3, .int x3_1), (0, .ref (G.2.2.1 0)), (1, .int x1), (2, .int x2)]) hx hb dX6_wetsSo_6 hl (by decide) rfl (fun ls hl => ?_)
  refine lv_iconst (v := (0 : Int32)) hx hb dX6_wetsSo_8 (by decide) ?_
  refine lv_istore (lv' := [(5, .int (0 : Int32)), (4, .int (0 : Int32)), (3, .int x3_1), (0, .ref (G.2.2.1 0)), (1, .int x1), (2, .int x2)]) hx hb dX6_wetsSo_9 hl (by decide) rfl (fun ls hl => ?_)
  exact L11 zF x1 x2 x3_1 (0 : Int32) (0 : Int32) M H locs ls (lv_sub hl [3, 4, 5, 2, 1, 0] rfl) hP hS hf
def fX6_ruesSo_B18 (r18 : Int32 → Int32 → Int32 → Int32 → Int32 → Int32 → Int32 → zM → Option (Int32 × zM)) (x1 : Int32) (x2 : Int32) (x3 : Int32) (x4 : Int32) (x5 : Int32) (x6 : Int32) (x7 : Int32) (M : zM) : Option (Int32 × zM) :=
  if x7 < (0 : Int32) then
    zG (zin x2 5) <|
    zL (zu M 3 x2.toNatClampNeg x4) fun M_5 =>
    if x3 = (0 : Int32) then
      some (x5, M_5)
    else
      some (x6, M_5)
  else
    zG (zin x2 5) <|
    zL (zu M 3 x2.toNatClampNeg x7) fun M_8 =>
    zB (fX6_isSo x1 x2 M_8) fun r_11 M_9 =>
    if r_11 = (0 : Int32) then
      zL (x7 + (-1 : Int32)) fun x7_15 =>
      r18 x1 x2 x3 x4 x5 x6 x7_15 M_9
    else
      zL (x5 + (1 : Int32)) fun x5_13 =>
      zL (x7 + (-1 : Int32)) fun x7_14 =>
      r18 x1 x2 x3 x4 x5_13 x7 x7_14 M_9
def fX6_ruesSo_L18 : Nat → Int32 → Int32 → Int32 → Int32 → Int32 → Int32 → Int32 → zM → Option (Int32 × zM)
  | 0 => fun _ _ _ _ _ _ _ _ => none
  | j9 + 1 => fX6_ruesSo_B18 (fX6_ruesSo_L18 j9)
def fX6_ruesSo (x1 : Int32) (x2 : Int32) (x3 : Int32) (M : zM) : Option (Int32 × zM) :=
  zG (zin x2 5) <|
  zL (M.1 3 x2.toNatClampNeg) fun x4_2 =>
  fX6_ruesSo_L18 zF x1 x2 x3 x4_2 (0 : Int32) (-1 : Int32) (99 : Int32) M
set_option maxHeartbeats 4000000 in
set_option maxRecDepth 100000 in
theorem mtX6_ruesSo (l : Launch) (G : zGr) (hJ : zJ G 23) (x1 : Int32) (x2 : Int32) (x3 : Int32) (M : zM) (o : Int32 × zM) (hf : fX6_ruesSo x1 x2 x3 M = some o) : zMi l G shM 23 yX6_ruesSo cX6_ruesSo 8 (some .int) 7 159 [.ref (G.2.2.1 0), .int x1, .int x2, .int x3] M o := by
  intro sz
  refine zOf (by decide) (Nat.le_of_ble_eq_true rfl) ?_
  intro p e R Q s m args below meth c hRm hsz hQ C0 hP hS ls hl
  subst hsz
  replace hRm : R = { frames := 7, cells := 0, slots := 0, locals := 159 } := hRm
  have hl : lv_has ls 8 [(0, .ref (G.2.2.1 0)), (1, .int x1), (2, .int x2), (3, .int x3)] := hl
  have hx := C0.1
  have hb := C0.2.1
  have hown := C0.2.2.2.1
  have hts := C0.2.2.2.2.1
  have L18 : ∀ (n18 : Nat), ∀ (x1 : Int32) (x2 : Int32) (x3 : Int32) (x4 : Int32) (x5 : Int32) (x6 : Int32) (x7 : Int32) (M : zM) (H : Heap) (locs : List Loc) (ls : Array Slot), lv_has ls 8 [(0, .ref (G.2.2.1 0)), (1, .int x1), (2, .int x2), (3, .int x3), (4, .int x4), (5, .int x5), (6, .int x6), (7, .int x7)] → va_P G.1 zcl (zw G shM 23 M) H → va_S (zA G 23 s.heap.size) s.heap H locs → fX6_ruesSo_L18 n18 x1 x2 x3 x4 x5 x6 x7 M = some o → W p l e R s m args below meth c H locs 0 0 Q (F0 m 18 ls []) := by
    intro n18
    induction n18 with
    | zero => intro x1 x2 x3 x4 x5 x6 x7 M H locs ls hl hP hS hf; exact zn_s (show none = some o from hf)
    | succ n18 ih18 =>
      intro x1 x2 x3 x4 x5 x6 x7 M H locs ls hl hP hS hf
      replace hf : fX6_ruesSo_B18 (fX6_ruesSo_L18 n18) x1 x2 x3 x4 x5 x6 x7 M = some o := hf
      unfold fX6_ruesSo_B18 at hf
      refine lv_iload hx hb dX6_ruesSo_18 (lv_at hl 7 rfl) ?_
      refine lv_if_lt (tgt := 56) hx hb dX6_ruesSo_20 (by decide) (fun c_3 => ?_) (fun c_3 => ?_)
      · replace hf := zI_t c_3 hf
        refine lv_aload_n hx hb dX6_ruesSo_56 rfl (lv_at hl 0 rfl) ?_
        refine zr_getq (C := RX6) (T := TX6) (n := 51) C0 hP 0 (by decide) shM_0 5 3 rfl (by decide) uw_X6 mw_403 rfl dX6_ruesSo_57 ?_
        refine lv_iload_n hx hb dX6_ruesSo_60 rfl (lv_at hl 2 rfl) ?_
        refine lv_iload hx hb dX6_ruesSo_61 (lv_at hl 4 rfl) ?_
        obtain ⟨hg_4, hf⟩ := zG_o hf
        refine zr_iast C0 hJ hP hS 3 (by decide) shM_3 hg_4 dX6_ruesSo_63 (fun H locs hP hS => ?_)
        obtain ⟨M_5, eM_5, hf⟩ := zL_o hf
        have hP : va_P G.1 zcl (zw G shM 23 M_5) H := by rw [eM_5]; exact hP
        refine lv_iload_n hx hb dX6_ruesSo_64 rfl (lv_at hl 3 rfl) ?_
        refine lv_if_ne (tgt := 73) hx hb dX6_ruesSo_65 (by decide) (fun c_6 => ?_) (fun c_6 => ?_)
        · replace hf := zI_f c_6 hf
          refine lv_iload hx hb dX6_ruesSo_73 (lv_at hl 6 rfl) ?_
          exact ze_i C0 hP hS hf dX6_ruesSo_75 hQ
        · replace hf := zI_t c_6 hf
          refine lv_iload hx hb dX6_ruesSo_68 (lv_at hl 5 rfl) ?_
          refine lv_goto (tgt := 75) hx hb dX6_ruesSo_70 (by decide) ?_
          exact ze_i C0 hP hS hf dX6_ruesSo_75 hQ
      · replace hf := zI_f c_3 hf
        refine lv_aload_n hx hb dX6_ruesSo_23 rfl (lv_at hl 0 rfl) ?_
        refine zr_getq (C := RX6) (T := TX6) (n := 51) C0 hP 0 (by decide) shM_0 5 3 rfl (by decide) uw_X6 mw_403 rfl dX6_ruesSo_24 ?_
        refine lv_iload_n hx hb dX6_ruesSo_27 rfl (lv_at hl 2 rfl) ?_
        refine lv_iload hx hb dX6_ruesSo_28 (lv_at hl 7 rfl) ?_
        obtain ⟨hg_7, hf⟩ := zG_o hf
        refine zr_iast C0 hJ hP hS 3 (by decide) shM_3 hg_7 dX6_ruesSo_30 (fun H locs hP hS => ?_)
        obtain ⟨M_8, eM_8, hf⟩ := zL_o hf
        have hP : va_P G.1 zcl (zw G shM 23 M_8) H := by rw [eM_8]; exact hP
        refine lv_aload_n hx hb dX6_ruesSo_31 rfl (lv_at hl 0 rfl) ?_
        refine lv_iload_n hx hb dX6_ruesSo_32 rfl (lv_at hl 1 rfl) ?_
        refine lv_iload_n hx hb dX6_ruesSo_33 rfl (lv_at hl 2 rfl) ?_
        obtain ⟨r_11, M_9, hc_10, hf⟩ := zB_o hf
        refine zc_vi (As := [.int x1, .int x2]) (rest := []) C0 hP hS hl.1 0 (mtX6_isSo l G hJ x1 x2 M_8 _ hc_10) lk_X6_322 (by decide) shM_0 (T := TX6) (n' := 51) rfl ds_X6_isSo (by rw [hRm]; exact ⟨Nat.le_of_ble_eq_true rfl, Nat.le_of_ble_eq_true rfl⟩) rfl rfl (Nat.le_of_ble_eq_true rfl) dX6_ruesSo_34 ⟨Nat.zero_le _, Nat.zero_le _⟩ (fun H locs hP hS => ?_)
        refine lv_if_ne (tgt := 43) hx hb dX6_ruesSo_37 (by decide) (fun c_12 => ?_) (fun c_12 => ?_)
        · replace hf := zI_f c_12 hf
          obtain ⟨x5_13, ex5_13, hf⟩ := zL_o hf
          refine lv_iinc (v := x5_13) (lv' := [(5, .int x5_13), (0, .ref (G.2.2.1 0)), (1, .int x1), (2, .int x2), (3, .int x3), (4, .int x4), (6, .int x6), (7, .int x7)]) hx hb dX6_ruesSo_43 hl (k := 5) rfl (by rw [ex5_13]; rfl) (by decide) rfl (fun ls hl => ?_)
          refine lv_iload hx hb dX6_ruesSo_46 (lv_at hl 7 rfl) ?_
          refine lv_istore (lv' := [(6, .int x7), (5, .int x5_13), (0, .ref (G.2.2.1 0)), (1, .int x1), (2, .int x2), (3, .int x3), (4, .int x4), (7, .int x7)]) hx hb dX6_ruesSo_48 hl (by decide) rfl (fun ls hl => ?_)
          obtain ⟨x7_14, ex7_14, hf⟩ := zL_o hf
          refine lv_iinc (v := x7_14) (lv' := [(7, .int x7_14), (6, .int x7), (5, .int x5_13), (0, .ref (G.2.2.1 0)), (1, .int x1), (2, .int x2), (3, .int x3), (4, .int x4)]) hx hb dX6_ruesSo_50 hl (k := 7) rfl (by rw [ex7_14]; rfl) (by decide) rfl (fun ls hl => ?_)
          refine lv_goto (tgt := 18) hx hb dX6_ruesSo_53 (by decide) ?_
          exact ih18 x1 x2 x3 x4 x5_13 x7 x7_14 M_9 H locs ls (lv_sub hl [3, 4, 5, 6, 7, 2, 1, 0] rfl) hP hS hf
        · replace hf := zI_t c_12 hf
          refine lv_goto (tgt := 50) hx hb dX6_ruesSo_40 (by decide) ?_
          obtain ⟨x7_15, ex7_15, hf⟩ := zL_o hf
          refine lv_iinc (v := x7_15) (lv' := [(7, .int x7_15), (0, .ref (G.2.2.1 0)), (1, .int x1), (2, .int x2), (3, .int x3), (4, .int x4), (5, .int x5), (6, .int x6)]) hx hb dX6_ruesSo_50 hl (k := 7) rfl (by rw [ex7_15]; rfl) (by decide) rfl (fun ls hl => ?_)
          refine lv_goto (tgt := 18) hx hb dX6_ruesSo_53 (by decide) ?_
          exact ih18 x1 x2 x3 x4 x5 x6 x7_15 M_9 H locs ls (lv_sub hl [1, 2, 3, 4, 5, 6, 7, 0] rfl) hP hS hf
  unfold fX6_ruesSo at hf
  obtain ⟨H, eH⟩ : ∃ H, H = s.heap := ⟨_, rfl⟩
  obtain ⟨locs, el⟩ : ∃ locs : List Loc, locs = [] := ⟨_, rfl⟩
  rw [← eH] at hP ⊢
  have hS : va_S (zA G 23 s.heap.size) s.heap H locs := by rw [eH, el]; exact hS
  rw [← el]
  refine lv_aload_n hx hb dX6_ruesSo_0 rfl (lv_at hl 0 rfl) ?_
  refine zr_getq (C := RX6) (T := TX6) (n := 51) C0 hP 0 (by decide) shM_0 5 3 rfl (by decide) uw_X6 mw_403 rfl dX6_ruesSo_1 ?_
  refine lv_iload_n hx hb dX6_ruesSo_4 rfl (lv_at hl 2 rfl) ?_
  obtain ⟨hg_1, hf⟩ := zG_o hf
  refine zr_iald C0 hP 3 (by decide) shM_3 hg_1 dX6_ruesSo_5 ?_
  refine lv_topi (fun x4_2 ex4_2 => ?_)
  replace hf := zL_e ex4_2 hf
  refine lv_istore (lv' := [(4, .int x4_2), (0, .ref (G.2.2.1 0)), (1, .int x1), (2, .int x2), (3, .int x3)]) hx hb dX6_ruesSo_6 hl (by decide) rfl (fun ls hl => ?_)
  refine lv_iconst (v := (0 : Int32)) hx hb dX6_ruesSo_8 (by decide) ?_
  refine lv_istore (lv' := [(5, .int (0 : Int32)), (4, .int x4_2), (0, .ref (G.2.2.1 0)), (1, .int x1), (2, .int x2), (3, .int x3)]) hx hb dX6_ruesSo_9 hl (by decide) rfl (fun ls hl => ?_)
  refine lv_iconst (v := (-1 : Int32)) hx hb dX6_ruesSo_11 (by decide) ?_
  refine lv_istore (lv' := [(6, .int (-1 : Int32)), (5, .int (0 : Int32)), (4, .int x4_2), (0, .ref (G.2.2.1 0)), (1, .int x1), (2, .int x2), (3, .int x3)]) hx hb dX6_ruesSo_12 hl (by decide) rfl (fun ls hl => ?_)
  refine lv_bipush (v := (99 : Int32)) hx hb dX6_ruesSo_14 (by decide) ?_
  refine lv_istore (lv' := [(7, .int (99 : Int32)), (6, .int (-1 : Int32)), (5, .int (0 : Int32)), (4, .int x4_2), (0, .ref (G.2.2.1 0)), (1, .int x1), (2, .int x2), (3, .int x3)]) hx hb dX6_ruesSo_16 hl (by decide) rfl (fun ls hl => ?_)
  exact L18 zF x1 x2 x3 x4_2 (0 : Int32) (-1 : Int32) (99 : Int32) M H locs ls (lv_sub hl [4, 5, 6, 7, 3, 2, 1, 0] rfl) hP hS hf
def fX6_textsSo_B11 (r11 : Int32 → Int32 → Int32 → Int32 → Int32 → zM → Option (Int32 × zM)) (x1 : Int32) (x2 : Int32) (x3 : Int32) (x4 : Int32) (x5 : Int32) (M : zM) : Option (Int32 × zM) :=
  if (M.1 0 10) ≤ x5 then
    zL (zu M 0 7 x3) fun M_3 =>
    some (x4, M_3)
  else
    zL (zu M 0 7 x5) fun M_4 =>
    zB (fX6_isSo x1 x2 M_4) fun r_7 M_5 =>
    if r_7 = (0 : Int32) then
      zL (x5 + (1 : Int32)) fun x5_9 =>
      r11 x1 x2 x3 x4 x5_9 M_5
    else
      zL (x4 ||| (zshl (1 : Int32) x5)) fun x4_10 =>
      zL (x5 + (1 : Int32)) fun x5_11 =>
      r11 x1 x2 x3 x4_10 x5_11 M_5
def fX6_textsSo_L11 : Nat → Int32 → Int32 → Int32 → Int32 → Int32 → zM → Option (Int32 × zM)
  | 0 => fun _ _ _ _ _ _ => none
  | j9 + 1 => fX6_textsSo_B11 (fX6_textsSo_L11 j9)
def fX6_textsSo (x1 : Int32) (x2 : Int32) (M : zM) : Option (Int32 × zM) :=
  zL (M.1 0 7) fun x3_1 =>
  fX6_textsSo_L11 zF x1 x2 x3_1 (0 : Int32) (0 : Int32) M
set_option maxHeartbeats 4000000 in
set_option maxRecDepth 100000 in
theorem mtX6_textsSo (l : Launch) (G : zGr) (hJ : zJ G 23) (x1 : Int32) (x2 : Int32) (M : zM) (o : Int32 × zM) (hf : fX6_textsSo x1 x2 M = some o) : zMi l G shM 23 yX6_textsSo cX6_textsSo 6 (some .int) 7 159 [.ref (G.2.2.1 0), .int x1, .int x2] M o := by
  intro sz
  refine zOf (by decide) (Nat.le_of_ble_eq_true rfl) ?_
  intro p e R Q s m args below meth c hRm hsz hQ C0 hP hS ls hl
  subst hsz
  replace hRm : R = { frames := 7, cells := 0, slots := 0, locals := 159 } := hRm
  have hl : lv_has ls 6 [(0, .ref (G.2.2.1 0)), (1, .int x1), (2, .int x2)] := hl
  have hx := C0.1
  have hb := C0.2.1
  have hown := C0.2.2.2.1
  have hts := C0.2.2.2.2.1
  have L11 : ∀ (n11 : Nat), ∀ (x1 : Int32) (x2 : Int32) (x3 : Int32) (x4 : Int32) (x5 : Int32) (M : zM) (H : Heap) (locs : List Loc) (ls : Array Slot), lv_has ls 6 [(0, .ref (G.2.2.1 0)), (1, .int x1), (2, .int x2), (3, .int x3), (4, .int x4), (5, .int x5)] → va_P G.1 zcl (zw G shM 23 M) H → va_S (zA G 23 s.heap.size) s.heap H locs → fX6_textsSo_L11 n11 x1 x2 x3 x4 x5 M = some o → W p l e R s m args below meth c H locs 0 0 Q (F0 m 11 ls []) := by
    intro n11
    induction n11 with
    | zero => intro x1 x2 x3 x4 x5 M H locs ls hl hP hS hf; exact zn_s (show none = some o from hf)
    | succ n11 ih11 =>
      intro x1 x2 x3 x4 x5 M H locs ls hl hP hS hf
      replace hf : fX6_textsSo_B11 (fX6_textsSo_L11 n11) x1 x2 x3 x4 x5 M = some o := hf
      unfold fX6_textsSo_B11 at hf
      refine lv_iload hx hb dX6_textsSo_11 (lv_at hl 5 rfl) ?_
      refine lv_aload_n hx hb dX6_textsSo_13 rfl (lv_at hl 0 rfl) ?_
      refine zr_get (C := RX6) (T := TX6) (n := 51) C0 hP 0 (by decide) shM_0 10 rfl (by decide) uw_X6 mw_524 rfl dX6_textsSo_14 ?_
      refine lv_icmp_ge (tgt := 50) hx hb dX6_textsSo_17 (by decide) (fun c_2 => ?_) (fun c_2 => ?_)
      · replace hf := zI_t c_2 hf
        refine lv_aload_n hx hb dX6_textsSo_50 rfl (lv_at hl 0 rfl) ?_
        refine lv_iload_n hx hb dX6_textsSo_51 rfl (lv_at hl 3 rfl) ?_
        refine zr_put (C := RX6) (T := TX6) (n := 51) C0 hJ hP hS 0 (by decide) shM_0 7 rfl (by decide) uw_X6 tyX6 tyX6_ok nmX6 mw_415 rfl rfl ⟨rfl, rfl⟩ dX6_textsSo_52 (fun H locs hP hS => ?_)
        obtain ⟨M_3, eM_3, hf⟩ := zL_o hf
        have hP : va_P G.1 zcl (zw G shM 23 M_3) H := by rw [eM_3]; exact hP
        refine lv_iload hx hb dX6_textsSo_55 (lv_at hl 4 rfl) ?_
        exact ze_i C0 hP hS hf dX6_textsSo_57 hQ
      · replace hf := zI_f c_2 hf
        refine lv_aload_n hx hb dX6_textsSo_20 rfl (lv_at hl 0 rfl) ?_
        refine lv_iload hx hb dX6_textsSo_21 (lv_at hl 5 rfl) ?_
        refine zr_put (C := RX6) (T := TX6) (n := 51) C0 hJ hP hS 0 (by decide) shM_0 7 rfl (by decide) uw_X6 tyX6 tyX6_ok nmX6 mw_415 rfl rfl ⟨rfl, rfl⟩ dX6_textsSo_23 (fun H locs hP hS => ?_)
        obtain ⟨M_4, eM_4, hf⟩ := zL_o hf
        have hP : va_P G.1 zcl (zw G shM 23 M_4) H := by rw [eM_4]; exact hP
        refine lv_aload_n hx hb dX6_textsSo_26 rfl (lv_at hl 0 rfl) ?_
        refine lv_iload_n hx hb dX6_textsSo_27 rfl (lv_at hl 1 rfl) ?_
        refine lv_iload_n hx hb dX6_textsSo_28 rfl (lv_at hl 2 rfl) ?_
        obtain ⟨r_7, M_5, hc_6, hf⟩ := zB_o hf
        refine zc_vi (As := [.int x1, .int x2]) (rest := []) C0 hP hS hl.1 0 (mtX6_isSo l G hJ x1 x2 M_4 _ hc_6) lk_X6_322 (by decide) shM_0 (T := TX6) (n' := 51) rfl ds_X6_isSo (by rw [hRm]; exact ⟨Nat.le_of_ble_eq_true rfl, Nat.le_of_ble_eq_true rfl⟩) rfl rfl (Nat.le_of_ble_eq_true rfl) dX6_textsSo_29 ⟨Nat.zero_le _, Nat.zero_le _⟩ (fun H locs hP hS => ?_)
        refine lv_if_eq (tgt := 44) hx hb dX6_textsSo_32 (by decide) (fun c_8 => ?_) (fun c_8 => ?_)
        · replace hf := zI_t c_8 hf
          obtain ⟨x5_9, ex5_9, hf⟩ := zL_o hf
          refine lv_iinc (v := x5_9) (lv' := [(5, .int x5_9), (0, .ref (G.2.2.1 0)), (1, .int x1), (2, .int x2), (3, .int x3), (4, .int x4)]) hx hb dX6_textsSo_44 hl (k := 5) rfl (by rw [ex5_9]; rfl) (by decide) rfl (fun ls hl => ?_)
          refine lv_goto (tgt := 11) hx hb dX6_textsSo_47 (by decide) ?_
          exact ih11 x1 x2 x3 x4 x5_9 M_5 H locs ls (lv_sub hl [1, 2, 3, 4, 5, 0] rfl) hP hS hf
        · replace hf := zI_f c_8 hf
          refine lv_iload hx hb dX6_textsSo_35 (lv_at hl 4 rfl) ?_
          refine lv_iconst (v := (1 : Int32)) hx hb dX6_textsSo_37 (by decide) ?_
          refine lv_iload hx hb dX6_textsSo_38 (lv_at hl 5 rfl) ?_
          refine zo_ishl hx hb dX6_textsSo_40 ?_
          refine lv_ior hx hb dX6_textsSo_41 ?_
          refine lv_topi (fun x4_10 ex4_10 => ?_)
          replace hf := zL_e ex4_10 hf
          refine lv_istore (lv' := [(4, .int x4_10), (0, .ref (G.2.2.1 0)), (1, .int x1), (2, .int x2), (3, .int x3), (5, .int x5)]) hx hb dX6_textsSo_42 hl (by decide) rfl (fun ls hl => ?_)
          obtain ⟨x5_11, ex5_11, hf⟩ := zL_o hf
          refine lv_iinc (v := x5_11) (lv' := [(5, .int x5_11), (4, .int x4_10), (0, .ref (G.2.2.1 0)), (1, .int x1), (2, .int x2), (3, .int x3)]) hx hb dX6_textsSo_44 hl (k := 5) rfl (by rw [ex5_11]; rfl) (by decide) rfl (fun ls hl => ?_)
          refine lv_goto (tgt := 11) hx hb dX6_textsSo_47 (by decide) ?_
          exact ih11 x1 x2 x3 x4_10 x5_11 M_5 H locs ls (lv_sub hl [2, 3, 4, 5, 1, 0] rfl) hP hS hf
  unfold fX6_textsSo at hf
  obtain ⟨H, eH⟩ : ∃ H, H = s.heap := ⟨_, rfl⟩
  obtain ⟨locs, el⟩ : ∃ locs : List Loc, locs = [] := ⟨_, rfl⟩
  rw [← eH] at hP ⊢
  have hS : va_S (zA G 23 s.heap.size) s.heap H locs := by rw [eH, el]; exact hS
  rw [← el]
  refine lv_aload_n hx hb dX6_textsSo_0 rfl (lv_at hl 0 rfl) ?_
  refine zr_get (C := RX6) (T := TX6) (n := 51) C0 hP 0 (by decide) shM_0 7 rfl (by decide) uw_X6 mw_415 rfl dX6_textsSo_1 ?_
  refine lv_topi (fun x3_1 ex3_1 => ?_)
  replace hf := zL_e ex3_1 hf
  refine lv_istore_n (lv' := [(3, .int x3_1), (0, .ref (G.2.2.1 0)), (1, .int x1), (2, .int x2)]) hx hb dX6_textsSo_4 rfl hl (by decide) rfl (fun ls hl => ?_)
  refine lv_iconst (v := (0 : Int32)) hx hb dX6_textsSo_5 (by decide) ?_
  refine lv_istore (lv' := [(4, .int (0 : Int32)), (3, .int x3_1), (0, .ref (G.2.2.1 0)), (1, .int x1), (2, .int x2)]) hx hb dX6_textsSo_6 hl (by decide) rfl (fun ls hl => ?_)
  refine lv_iconst (v := (0 : Int32)) hx hb dX6_textsSo_8 (by decide) ?_
  refine lv_istore (lv' := [(5, .int (0 : Int32)), (4, .int (0 : Int32)), (3, .int x3_1), (0, .ref (G.2.2.1 0)), (1, .int x1), (2, .int x2)]) hx hb dX6_textsSo_9 hl (by decide) rfl (fun ls hl => ?_)
  exact L11 zF x1 x2 x3_1 (0 : Int32) (0 : Int32) M H locs ls (lv_sub hl [3, 4, 5, 2, 1, 0] rfl) hP hS hf
def fX6_peopleSo_B4 (r4 : Int32 → Int32 → Int32 → zM → Option (Int32 × zM)) (x1 : Int32) (x2 : Int32) (x3 : Int32) (M : zM) : Option (Int32 × zM) :=
  if (M.1 0 2) ≤ x3 then
    some (x2, M)
  else
    zB (fX6_isSo x1 x3 M) fun r_4 M_2 =>
    if r_4 = (0 : Int32) then
      zL (x3 + (1 : Int32)) fun x3_6 =>
      r4 x1 x2 x3_6 M_2
    else
      zL (x2 ||| (zshl (1 : Int32) x3)) fun x2_7 =>
      zL (x3 + (1 : Int32)) fun x3_8 =>
      r4 x1 x2_7 x3_8 M_2
def fX6_peopleSo_L4 : Nat → Int32 → Int32 → Int32 → zM → Option (Int32 × zM)
  | 0 => fun _ _ _ _ => none
  | j9 + 1 => fX6_peopleSo_B4 (fX6_peopleSo_L4 j9)
def fX6_peopleSo (x1 : Int32) (M : zM) : Option (Int32 × zM) :=
  fX6_peopleSo_L4 zF x1 (0 : Int32) (0 : Int32) M
set_option maxHeartbeats 4000000 in
set_option maxRecDepth 100000 in
theorem mtX6_peopleSo (l : Launch) (G : zGr) (hJ : zJ G 23) (x1 : Int32) (M : zM) (o : Int32 × zM) (hf : fX6_peopleSo x1 M = some o) : zMi l G shM 23 yX6_peopleSo cX6_peopleSo 4 (some .int) 7 159 [.ref (G.2.2.1 0), .int x1] M o := by
  intro sz
  refine zOf (by decide) (Nat.le_of_ble_eq_true rfl) ?_
  intro p e R Q s m args below meth c hRm hsz hQ C0 hP hS ls hl
  subst hsz
  replace hRm : R = { frames := 7, cells := 0, slots := 0, locals := 159 } := hRm
  have hl : lv_has ls 4 [(0, .ref (G.2.2.1 0)), (1, .int x1)] := hl
  have hx := C0.1
  have hb := C0.2.1
  have hown := C0.2.2.2.1
  have hts := C0.2.2.2.2.1
  have L4 : ∀ (n4 : Nat), ∀ (x1 : Int32) (x2 : Int32) (x3 : Int32) (M : zM) (H : Heap) (locs : List Loc) (ls : Array Slot), lv_has ls 4 [(0, .ref (G.2.2.1 0)), (1, .int x1), (2, .int x2), (3, .int x3)] → va_P G.1 zcl (zw G shM 23 M) H → va_S (zA G 23 s.heap.size) s.heap H locs → fX6_peopleSo_L4 n4 x1 x2 x3 M = some o → W p l e R s m args below meth c H locs 0 0 Q (F0 m 4 ls []) := by
    intro n4
    induction n4 with
    | zero => intro x1 x2 x3 M H locs ls hl hP hS hf; exact zn_s (show none = some o from hf)
    | succ n4 ih4 =>
      intro x1 x2 x3 M H locs ls hl hP hS hf
      replace hf : fX6_peopleSo_B4 (fX6_peopleSo_L4 n4) x1 x2 x3 M = some o := hf
      unfold fX6_peopleSo_B4 at hf
      refine lv_iload_n hx hb dX6_peopleSo_4 rfl (lv_at hl 3 rfl) ?_
      refine lv_aload_n hx hb dX6_peopleSo_5 rfl (lv_at hl 0 rfl) ?_
      refine zr_get (C := RX6) (T := TX6) (n := 51) C0 hP 0 (by decide) shM_0 2 rfl (by decide) uw_X6 mw_391 rfl dX6_peopleSo_6 ?_
      refine lv_icmp_ge (tgt := 33) hx hb dX6_peopleSo_9 (by decide) (fun c_1 => ?_) (fun c_1 => ?_)
      · replace hf := zI_t c_1 hf
        refine lv_iload_n hx hb dX6_peopleSo_33 rfl (lv_at hl 2 rfl) ?_
        exact ze_i C0 hP hS hf dX6_peopleSo_34 hQ
      · replace hf := zI_f c_1 hf
        refine lv_aload_n hx hb dX6_peopleSo_12 rfl (lv_at hl 0 rfl) ?_
        refine lv_iload_n hx hb dX6_peopleSo_13 rfl (lv_at hl 1 rfl) ?_
        refine lv_iload_n hx hb dX6_peopleSo_14 rfl (lv_at hl 3 rfl) ?_
        obtain ⟨r_4, M_2, hc_3, hf⟩ := zB_o hf
        refine zc_vi (As := [.int x1, .int x3]) (rest := []) C0 hP hS hl.1 0 (mtX6_isSo l G hJ x1 x3 M _ hc_3) lk_X6_322 (by decide) shM_0 (T := TX6) (n' := 51) rfl ds_X6_isSo (by rw [hRm]; exact ⟨Nat.le_of_ble_eq_true rfl, Nat.le_of_ble_eq_true rfl⟩) rfl rfl (Nat.le_of_ble_eq_true rfl) dX6_peopleSo_15 ⟨Nat.zero_le _, Nat.zero_le _⟩ (fun H locs hP hS => ?_)
        refine lv_if_eq (tgt := 27) hx hb dX6_peopleSo_18 (by decide) (fun c_5 => ?_) (fun c_5 => ?_)
        · replace hf := zI_t c_5 hf
          obtain ⟨x3_6, ex3_6, hf⟩ := zL_o hf
          refine lv_iinc (v := x3_6) (lv' := [(3, .int x3_6), (0, .ref (G.2.2.1 0)), (1, .int x1), (2, .int x2)]) hx hb dX6_peopleSo_27 hl (k := 3) rfl (by rw [ex3_6]; rfl) (by decide) rfl (fun ls hl => ?_)
          refine lv_goto (tgt := 4) hx hb dX6_peopleSo_30 (by decide) ?_
          exact ih4 x1 x2 x3_6 M_2 H locs ls (lv_sub hl [1, 2, 3, 0] rfl) hP hS hf
        · replace hf := zI_f c_5 hf
          refine lv_iload_n hx hb dX6_peopleSo_21 rfl (lv_at hl 2 rfl) ?_
          refine lv_iconst (v := (1 : Int32)) hx hb dX6_peopleSo_22 (by decide) ?_
          refine lv_iload_n hx hb dX6_peopleSo_23 rfl (lv_at hl 3 rfl) ?_
          refine zo_ishl hx hb dX6_peopleSo_24 ?_
          refine lv_ior hx hb dX6_peopleSo_25 ?_
          refine lv_topi (fun x2_7 ex2_7 => ?_)
          replace hf := zL_e ex2_7 hf
          refine lv_istore_n (lv' := [(2, .int x2_7), (0, .ref (G.2.2.1 0)), (1, .int x1), (3, .int x3)]) hx hb dX6_peopleSo_26 rfl hl (by decide) rfl (fun ls hl => ?_)
          obtain ⟨x3_8, ex3_8, hf⟩ := zL_o hf
          refine lv_iinc (v := x3_8) (lv' := [(3, .int x3_8), (2, .int x2_7), (0, .ref (G.2.2.1 0)), (1, .int x1)]) hx hb dX6_peopleSo_27 hl (k := 3) rfl (by rw [ex3_8]; rfl) (by decide) rfl (fun ls hl => ?_)
          refine lv_goto (tgt := 4) hx hb dX6_peopleSo_30 (by decide) ?_
          exact ih4 x1 x2_7 x3_8 M_2 H locs ls (lv_sub hl [2, 3, 1, 0] rfl) hP hS hf
  unfold fX6_peopleSo at hf
  obtain ⟨H, eH⟩ : ∃ H, H = s.heap := ⟨_, rfl⟩
  obtain ⟨locs, el⟩ : ∃ locs : List Loc, locs = [] := ⟨_, rfl⟩
  rw [← eH] at hP ⊢
  have hS : va_S (zA G 23 s.heap.size) s.heap H locs := by rw [eH, el]; exact hS
  rw [← el]
  refine lv_iconst (v := (0 : Int32)) hx hb dX6_peopleSo_0 (by decide) ?_
  refine lv_istore_n (lv' := [(2, .int (0 : Int32)), (0, .ref (G.2.2.1 0)), (1, .int x1)]) hx hb dX6_peopleSo_1 rfl hl (by decide) rfl (fun ls hl => ?_)
  refine lv_iconst (v := (0 : Int32)) hx hb dX6_peopleSo_2 (by decide) ?_
  refine lv_istore_n (lv' := [(3, .int (0 : Int32)), (2, .int (0 : Int32)), (0, .ref (G.2.2.1 0)), (1, .int x1)]) hx hb dX6_peopleSo_3 rfl hl (by decide) rfl (fun ls hl => ?_)
  exact L4 zF x1 (0 : Int32) (0 : Int32) M H locs ls (lv_sub hl [2, 3, 1, 0] rfl) hP hS hf
def fX6_tells (x1 : Int32) (x2 : Int32) (x3 : Int32) (M : zM) : Option (Int32 × zM) :=
  zB (fX6_isSheet x1 M) fun r_3 M_1 =>
  if r_3 = (0 : Int32) then
    some ((-2 : Int32), M_1)
  else
    zB (fX6_isOne x2 M_1) fun r_7 M_5 =>
    if r_7 = (0 : Int32) then
      some ((-2 : Int32), M_5)
    else
      zB (fX6_within x3 (0 : Int32) (7 : Int32) M_5) fun r_11 M_9 =>
      if r_11 = (0 : Int32) then
        some ((-2 : Int32), M_9)
      else
        zG (zin x1 4) <|
        if (0 : Int32) ≤ (M_9.1 20 x1.toNatClampNeg) then
          zG (zin x1 4) <|
          if (M_9.1 21 x1.toNatClampNeg) ≤ (30 : Int32) then
            if x3 = (0 : Int32) then
              zB (fX6_wrong x1 x2 M_9) fun r_20 M_18 =>
              some (r_20, M_18)
            else
              if x3 = (1 : Int32) then
                zB (fX6_kindsSo x1 x2 M_9) fun r_24 M_22 =>
                some (r_24, M_22)
              else
                if x3 = (2 : Int32) then
                  zB (fX6_numbersSo x1 x2 M_9) fun r_28 M_26 =>
                  some (r_28, M_26)
                else
                  if x3 = (3 : Int32) then
                    zB (fX6_wetsSo x1 x2 M_9) fun r_32 M_30 =>
                    some (r_32, M_30)
                  else
                    if x3 = (4 : Int32) then
                      zB (fX6_ruesSo x1 x2 (0 : Int32) M_9) fun r_36 M_34 =>
                      some (r_36, M_34)
                    else
                      if x3 = (5 : Int32) then
                        zB (fX6_ruesSo x1 x2 (1 : Int32) M_9) fun r_40 M_38 =>
                        some (r_40, M_38)
                      else
                        if x3 = (6 : Int32) then
                          zB (fX6_textsSo x1 x2 M_9) fun r_44 M_42 =>
                          some (r_44, M_42)
                        else
                          zB (fX6_peopleSo x1 M_9) fun r_47 M_45 =>
                          some (r_47, M_45)
          else
            some ((-2 : Int32), M_9)
        else
          some ((-11 : Int32), M_9)
set_option maxHeartbeats 4000000 in
set_option maxRecDepth 100000 in
theorem mtX6_tells (l : Launch) (G : zGr) (hJ : zJ G 23) (x1 : Int32) (x2 : Int32) (x3 : Int32) (M : zM) (o : Int32 × zM) (hf : fX6_tells x1 x2 x3 M = some o) : zMi l G shM 23 yX6_tells cX6_tells 4 (some .int) 8 186 [.ref (G.2.2.1 0), .int x1, .int x2, .int x3] M o := by
  intro sz
  refine zOf (by decide) (Nat.le_of_ble_eq_true rfl) ?_
  intro p e R Q s m args below meth c hRm hsz hQ C0 hP hS ls hl
  subst hsz
  replace hRm : R = { frames := 8, cells := 0, slots := 0, locals := 186 } := hRm
  have hl : lv_has ls 4 [(0, .ref (G.2.2.1 0)), (1, .int x1), (2, .int x2), (3, .int x3)] := hl
  have hx := C0.1
  have hb := C0.2.1
  have hown := C0.2.2.2.1
  have hts := C0.2.2.2.2.1
  unfold fX6_tells at hf
  obtain ⟨H, eH⟩ : ∃ H, H = s.heap := ⟨_, rfl⟩
  obtain ⟨locs, el⟩ : ∃ locs : List Loc, locs = [] := ⟨_, rfl⟩
  rw [← eH] at hP ⊢
  have hS : va_S (zA G 23 s.heap.size) s.heap H locs := by rw [eH, el]; exact hS
  rw [← el]
  refine lv_iload_n hx hb dX6_tells_0 rfl (lv_at hl 1 rfl) ?_
  obtain ⟨r_3, M_1, hc_2, hf⟩ := zB_o hf
  refine zc_si (As := [.int x1]) (rest := []) C0 hP hS hl.1 (mtX6_isSheet l G hJ x1 M _ hc_2) ls_X6_325 ds_X6_isSheet (by rw [hRm]; exact ⟨Nat.le_of_ble_eq_true rfl, Nat.le_of_ble_eq_true rfl⟩) rfl rfl (Nat.le_of_ble_eq_true rfl) dX6_tells_1 ⟨Nat.zero_le _, Nat.zero_le _⟩ (fun H locs hP hS => ?_)
  refine lv_if_eq (tgt := 25) hx hb dX6_tells_4 (by decide) (fun c_4 => ?_) (fun c_4 => ?_)
  · replace hf := zI_t c_4 hf
    refine lv_bipush (v := (-2 : Int32)) hx hb dX6_tells_25 (by decide) ?_
    exact ze_i C0 hP hS hf dX6_tells_27 hQ
  · replace hf := zI_f c_4 hf
    refine lv_aload_n hx hb dX6_tells_7 rfl (lv_at hl 0 rfl) ?_
    refine lv_iload_n hx hb dX6_tells_8 rfl (lv_at hl 2 rfl) ?_
    obtain ⟨r_7, M_5, hc_6, hf⟩ := zB_o hf
    refine zc_vi (As := [.int x2]) (rest := []) C0 hP hS hl.1 0 (mtX6_isOne l G hJ x2 M_1 _ hc_6) lk_X6_92 (by decide) shM_0 (T := TX6) (n' := 51) rfl ds_X6_isOne (by rw [hRm]; exact ⟨Nat.le_of_ble_eq_true rfl, Nat.le_of_ble_eq_true rfl⟩) rfl rfl (Nat.le_of_ble_eq_true rfl) dX6_tells_9 ⟨Nat.zero_le _, Nat.zero_le _⟩ (fun H locs hP hS => ?_)
    refine lv_if_eq (tgt := 25) hx hb dX6_tells_12 (by decide) (fun c_8 => ?_) (fun c_8 => ?_)
    · replace hf := zI_t c_8 hf
      refine lv_bipush (v := (-2 : Int32)) hx hb dX6_tells_25 (by decide) ?_
      exact ze_i C0 hP hS hf dX6_tells_27 hQ
    · replace hf := zI_f c_8 hf
      refine lv_iload_n hx hb dX6_tells_15 rfl (lv_at hl 3 rfl) ?_
      refine lv_iconst (v := (0 : Int32)) hx hb dX6_tells_16 (by decide) ?_
      refine lv_bipush (v := (7 : Int32)) hx hb dX6_tells_17 (by decide) ?_
      obtain ⟨r_11, M_9, hc_10, hf⟩ := zB_o hf
      refine zc_si (As := [.int x3, .int (0 : Int32), .int (7 : Int32)]) (rest := []) C0 hP hS hl.1 (mtX6_within l G hJ x3 (0 : Int32) (7 : Int32) M_5 _ hc_10) ls_X6_88 ds_X6_within (by rw [hRm]; exact ⟨Nat.le_of_ble_eq_true rfl, Nat.le_of_ble_eq_true rfl⟩) rfl rfl (Nat.le_of_ble_eq_true rfl) dX6_tells_19 ⟨Nat.zero_le _, Nat.zero_le _⟩ (fun H locs hP hS => ?_)
      refine lv_if_ne (tgt := 28) hx hb dX6_tells_22 (by decide) (fun c_12 => ?_) (fun c_12 => ?_)
      · replace hf := zI_f c_12 hf
        refine lv_aload_n hx hb dX6_tells_28 rfl (lv_at hl 0 rfl) ?_
        refine zr_getq (C := RX6) (T := TX6) (n := 51) C0 hP 0 (by decide) shM_0 48 20 rfl (by decide) uw_X6 mw_640 rfl dX6_tells_29 ?_
        refine lv_iload_n hx hb dX6_tells_32 rfl (lv_at hl 1 rfl) ?_
        obtain ⟨hg_13, hf⟩ := zG_o hf
        refine zr_iald C0 hP 20 (by decide) shM_20 hg_13 dX6_tells_33 ?_
        refine lv_if_ge (tgt := 40) hx hb dX6_tells_34 (by decide) (fun c_14 => ?_) (fun c_14 => ?_)
        · replace hf := zI_t c_14 hf
          refine lv_aload_n hx hb dX6_tells_40 rfl (lv_at hl 0 rfl) ?_
          refine zr_getq (C := RX6) (T := TX6) (n := 51) C0 hP 0 (by decide) shM_0 49 21 rfl (by decide) uw_X6 mw_627 rfl dX6_tells_41 ?_
          refine lv_iload_n hx hb dX6_tells_44 rfl (lv_at hl 1 rfl) ?_
          obtain ⟨hg_15, hf⟩ := zG_o hf
          refine zr_iald C0 hP 21 (by decide) shM_21 hg_15 dX6_tells_45 ?_
          refine lv_bipush (v := (30 : Int32)) hx hb dX6_tells_46 (by decide) ?_
          refine lv_icmp_le (tgt := 54) hx hb dX6_tells_48 (by decide) (fun c_16 => ?_) (fun c_16 => ?_)
          · replace hf := zI_t c_16 hf
            refine lv_iload_n hx hb dX6_tells_54 rfl (lv_at hl 3 rfl) ?_
            refine if c_17 : x3 = (0 : Int32) then ?_ else ?_
            · replace hf := zI_t c_17 hf
              refine lv_tableIn (tgt := 96) hx hb dX6_tells_55 (by rw [c_17]; decide) (by rw [c_17]; decide) (off := 41) (by rw [c_17]; decide) (by decide) ?_
              refine lv_aload_n hx hb dX6_tells_96 rfl (lv_at hl 0 rfl) ?_
              refine lv_iload_n hx hb dX6_tells_97 rfl (lv_at hl 1 rfl) ?_
              refine lv_iload_n hx hb dX6_tells_98 rfl (lv_at hl 2 rfl) ?_
              obtain ⟨r_20, M_18, hc_19, hf⟩ := zB_o hf
              refine zc_vi (As := [.int x1, .int x2]) (rest := []) C0 hP hS hl.1 0 (mtX6_wrong l G hJ x1 x2 M_9 _ hc_19) lk_X6_319 (by decide) shM_0 (T := TX6) (n' := 51) rfl ds_X6_wrong (by rw [hRm]; exact ⟨Nat.le_of_ble_eq_true rfl, Nat.le_of_ble_eq_true rfl⟩) rfl rfl (Nat.le_of_ble_eq_true rfl) dX6_tells_99 ⟨Nat.zero_le _, Nat.zero_le _⟩ (fun H locs hP hS => ?_)
              exact ze_i C0 hP hS hf dX6_tells_102 hQ
            · replace hf := zI_f c_17 hf
              refine if c_21 : x3 = (1 : Int32) then ?_ else ?_
              · replace hf := zI_t c_21 hf
                refine lv_tableIn (tgt := 103) hx hb dX6_tells_55 (by rw [c_21]; decide) (by rw [c_21]; decide) (off := 48) (by rw [c_21]; decide) (by decide) ?_
                refine lv_aload_n hx hb dX6_tells_103 rfl (lv_at hl 0 rfl) ?_
                refine lv_iload_n hx hb dX6_tells_104 rfl (lv_at hl 1 rfl) ?_
                refine lv_iload_n hx hb dX6_tells_105 rfl (lv_at hl 2 rfl) ?_
                obtain ⟨r_24, M_22, hc_23, hf⟩ := zB_o hf
                refine zc_vi (As := [.int x1, .int x2]) (rest := []) C0 hP hS hl.1 0 (mtX6_kindsSo l G hJ x1 x2 M_9 _ hc_23) lk_X6_328 (by decide) shM_0 (T := TX6) (n' := 51) rfl ds_X6_kindsSo (by rw [hRm]; exact ⟨Nat.le_of_ble_eq_true rfl, Nat.le_of_ble_eq_true rfl⟩) rfl rfl (Nat.le_of_ble_eq_true rfl) dX6_tells_106 ⟨Nat.zero_le _, Nat.zero_le _⟩ (fun H locs hP hS => ?_)
                exact ze_i C0 hP hS hf dX6_tells_109 hQ
              · replace hf := zI_f c_21 hf
                refine if c_25 : x3 = (2 : Int32) then ?_ else ?_
                · replace hf := zI_t c_25 hf
                  refine lv_tableIn (tgt := 110) hx hb dX6_tells_55 (by rw [c_25]; decide) (by rw [c_25]; decide) (off := 55) (by rw [c_25]; decide) (by decide) ?_
                  refine lv_aload_n hx hb dX6_tells_110 rfl (lv_at hl 0 rfl) ?_
                  refine lv_iload_n hx hb dX6_tells_111 rfl (lv_at hl 1 rfl) ?_
                  refine lv_iload_n hx hb dX6_tells_112 rfl (lv_at hl 2 rfl) ?_
                  obtain ⟨r_28, M_26, hc_27, hf⟩ := zB_o hf
                  refine zc_vi (As := [.int x1, .int x2]) (rest := []) C0 hP hS hl.1 0 (mtX6_numbersSo l G hJ x1 x2 M_9 _ hc_27) lk_X6_331 (by decide) shM_0 (T := TX6) (n' := 51) rfl ds_X6_numbersSo (by rw [hRm]; exact ⟨Nat.le_of_ble_eq_true rfl, Nat.le_of_ble_eq_true rfl⟩) rfl rfl (Nat.le_of_ble_eq_true rfl) dX6_tells_113 ⟨Nat.zero_le _, Nat.zero_le _⟩ (fun H locs hP hS => ?_)
                  exact ze_i C0 hP hS hf dX6_tells_116 hQ
                · replace hf := zI_f c_25 hf
                  refine if c_29 : x3 = (3 : Int32) then ?_ else ?_
                  · replace hf := zI_t c_29 hf
                    refine lv_tableIn (tgt := 117) hx hb dX6_tells_55 (by rw [c_29]; decide) (by rw [c_29]; decide) (off := 62) (by rw [c_29]; decide) (by decide) ?_
                    refine lv_aload_n hx hb dX6_tells_117 rfl (lv_at hl 0 rfl) ?_
                    refine lv_iload_n hx hb dX6_tells_118 rfl (lv_at hl 1 rfl) ?_
                    refine lv_iload_n hx hb dX6_tells_119 rfl (lv_at hl 2 rfl) ?_
                    obtain ⟨r_32, M_30, hc_31, hf⟩ := zB_o hf
                    refine zc_vi (As := [.int x1, .int x2]) (rest := []) C0 hP hS hl.1 0 (mtX6_wetsSo l G hJ x1 x2 M_9 _ hc_31) lk_X6_334 (by decide) shM_0 (T := TX6) (n' := 51) rfl ds_X6_wetsSo (by rw [hRm]; exact ⟨Nat.le_of_ble_eq_true rfl, Nat.le_of_ble_eq_true rfl⟩) rfl rfl (Nat.le_of_ble_eq_true rfl) dX6_tells_120 ⟨Nat.zero_le _, Nat.zero_le _⟩ (fun H locs hP hS => ?_)
                    exact ze_i C0 hP hS hf dX6_tells_123 hQ
                  · replace hf := zI_f c_29 hf
                    refine if c_33 : x3 = (4 : Int32) then ?_ else ?_
                    · replace hf := zI_t c_33 hf
                      refine lv_tableIn (tgt := 124) hx hb dX6_tells_55 (by rw [c_33]; decide) (by rw [c_33]; decide) (off := 69) (by rw [c_33]; decide) (by decide) ?_
                      refine lv_aload_n hx hb dX6_tells_124 rfl (lv_at hl 0 rfl) ?_
                      refine lv_iload_n hx hb dX6_tells_125 rfl (lv_at hl 1 rfl) ?_
                      refine lv_iload_n hx hb dX6_tells_126 rfl (lv_at hl 2 rfl) ?_
                      refine lv_iconst (v := (0 : Int32)) hx hb dX6_tells_127 (by decide) ?_
                      obtain ⟨r_36, M_34, hc_35, hf⟩ := zB_o hf
                      refine zc_vi (As := [.int x1, .int x2, .int (0 : Int32)]) (rest := []) C0 hP hS hl.1 0 (mtX6_ruesSo l G hJ x1 x2 (0 : Int32) M_9 _ hc_35) lk_X6_337 (by decide) shM_0 (T := TX6) (n' := 51) rfl ds_X6_ruesSo (by rw [hRm]; exact ⟨Nat.le_of_ble_eq_true rfl, Nat.le_of_ble_eq_true rfl⟩) rfl rfl (Nat.le_of_ble_eq_true rfl) dX6_tells_128 ⟨Nat.zero_le _, Nat.zero_le _⟩ (fun H locs hP hS => ?_)
                      exact ze_i C0 hP hS hf dX6_tells_131 hQ
                    · replace hf := zI_f c_33 hf
                      refine if c_37 : x3 = (5 : Int32) then ?_ else ?_
                      · replace hf := zI_t c_37 hf
                        refine lv_tableIn (tgt := 132) hx hb dX6_tells_55 (by rw [c_37]; decide) (by rw [c_37]; decide) (off := 77) (by rw [c_37]; decide) (by decide) ?_
                        refine lv_aload_n hx hb dX6_tells_132 rfl (lv_at hl 0 rfl) ?_
                        refine lv_iload_n hx hb dX6_tells_133 rfl (lv_at hl 1 rfl) ?_
                        refine lv_iload_n hx hb dX6_tells_134 rfl (lv_at hl 2 rfl) ?_
                        refine lv_iconst (v := (1 : Int32)) hx hb dX6_tells_135 (by decide) ?_
                        obtain ⟨r_40, M_38, hc_39, hf⟩ := zB_o hf
                        refine zc_vi (As := [.int x1, .int x2, .int (1 : Int32)]) (rest := []) C0 hP hS hl.1 0 (mtX6_ruesSo l G hJ x1 x2 (1 : Int32) M_9 _ hc_39) lk_X6_337 (by decide) shM_0 (T := TX6) (n' := 51) rfl ds_X6_ruesSo (by rw [hRm]; exact ⟨Nat.le_of_ble_eq_true rfl, Nat.le_of_ble_eq_true rfl⟩) rfl rfl (Nat.le_of_ble_eq_true rfl) dX6_tells_136 ⟨Nat.zero_le _, Nat.zero_le _⟩ (fun H locs hP hS => ?_)
                        exact ze_i C0 hP hS hf dX6_tells_139 hQ
                      · replace hf := zI_f c_37 hf
                        refine if c_41 : x3 = (6 : Int32) then ?_ else ?_
                        · replace hf := zI_t c_41 hf
                          refine lv_tableIn (tgt := 140) hx hb dX6_tells_55 (by rw [c_41]; decide) (by rw [c_41]; decide) (off := 85) (by rw [c_41]; decide) (by decide) ?_
                          refine lv_aload_n hx hb dX6_tells_140 rfl (lv_at hl 0 rfl) ?_
                          refine lv_iload_n hx hb dX6_tells_141 rfl (lv_at hl 1 rfl) ?_
                          refine lv_iload_n hx hb dX6_tells_142 rfl (lv_at hl 2 rfl) ?_
                          obtain ⟨r_44, M_42, hc_43, hf⟩ := zB_o hf
                          refine zc_vi (As := [.int x1, .int x2]) (rest := []) C0 hP hS hl.1 0 (mtX6_textsSo l G hJ x1 x2 M_9 _ hc_43) lk_X6_340 (by decide) shM_0 (T := TX6) (n' := 51) rfl ds_X6_textsSo (by rw [hRm]; exact ⟨Nat.le_of_ble_eq_true rfl, Nat.le_of_ble_eq_true rfl⟩) rfl rfl (Nat.le_of_ble_eq_true rfl) dX6_tells_143 ⟨Nat.zero_le _, Nat.zero_le _⟩ (fun H locs hP hS => ?_)
                          exact ze_i C0 hP hS hf dX6_tells_146 hQ
                        · replace hf := zI_f c_41 hf
                          have tc_17 := lv_neT (a := 0) c_17 (by decide)
                          have tc_21 := lv_neT (a := 1) c_21 (by decide)
                          have tc_25 := lv_neT (a := 2) c_25 (by decide)
                          have tc_29 := lv_neT (a := 3) c_29 (by decide)
                          have tc_33 := lv_neT (a := 4) c_33 (by decide)
                          have tc_37 := lv_neT (a := 5) c_37 (by decide)
                          have tc_41 := lv_neT (a := 6) c_41 (by decide)
                          refine lv_tableOut (tgt := 147) hx hb dX6_tells_55 (by omega) (by decide) ?_
                          refine lv_aload_n hx hb dX6_tells_147 rfl (lv_at hl 0 rfl) ?_
                          refine lv_iload_n hx hb dX6_tells_148 rfl (lv_at hl 1 rfl) ?_
                          obtain ⟨r_47, M_45, hc_46, hf⟩ := zB_o hf
                          refine zc_vi (As := [.int x1]) (rest := []) C0 hP hS hl.1 0 (mtX6_peopleSo l G hJ x1 M_9 _ hc_46) lk_X6_343 (by decide) shM_0 (T := TX6) (n' := 51) rfl ds_X6_peopleSo (by rw [hRm]; exact ⟨Nat.le_of_ble_eq_true rfl, Nat.le_of_ble_eq_true rfl⟩) rfl rfl (Nat.le_of_ble_eq_true rfl) dX6_tells_149 ⟨Nat.zero_le _, Nat.zero_le _⟩ (fun H locs hP hS => ?_)
                          exact ze_i C0 hP hS hf dX6_tells_152 hQ
          · replace hf := zI_f c_16 hf
            refine lv_bipush (v := (-2 : Int32)) hx hb dX6_tells_51 (by decide) ?_
            exact ze_i C0 hP hS hf dX6_tells_53 hQ
        · replace hf := zI_f c_14 hf
          refine lv_bipush (v := (-11 : Int32)) hx hb dX6_tells_37 (by decide) ?_
          exact ze_i C0 hP hS hf dX6_tells_39 hQ
      · replace hf := zI_t c_12 hf
        refine lv_bipush (v := (-2 : Int32)) hx hb dX6_tells_25 (by decide) ?_
        exact ze_i C0 hP hS hf dX6_tells_27 hQ
def fX6_sheet_B68 (r68 : Int32 → Int32 → zM → Option (Int32 × zM)) (x1 : Int32) (x4 : Int32) (M : zM) : Option (Int32 × zM) :=
  if (40 : Int32) ≤ x4 then
    some ((1 : Int32), M)
  else
    zG (zin (((40 : Int32) * x1) + x4) 160) <|
    zL (zu M 22 (((40 : Int32) * x1) + x4).toNatClampNeg (0 : Int32)) fun M_18 =>
    zL (x4 + (1 : Int32)) fun x4_19 =>
    r68 x1 x4_19 M_18
def fX6_sheet_L68 : Nat → Int32 → Int32 → zM → Option (Int32 × zM)
  | 0 => fun _ _ _ => none
  | j9 + 1 => fX6_sheet_B68 (fX6_sheet_L68 j9)
def fX6_sheet_J43 (x1 : Int32) (x2 : Int32) (x3 : Int32) (M : zM) : Option (Int32 × zM) :=
  zG (zin x1 4) <|
  zL (zu M 20 x1.toNatClampNeg x2) fun M_12 =>
  if (0 : Int32) ≤ x2 then
    zG (zin x1 4) <|
    zL (zu M_12 21 x1.toNatClampNeg x3) fun M_15 =>
    fX6_sheet_L68 zF x1 (0 : Int32) M_15
  else
    zG (zin x1 4) <|
    zL (zu M_12 21 x1.toNatClampNeg (0 : Int32)) fun M_21 =>
    fX6_sheet_L68 zF x1 (0 : Int32) M_21
def fX6_sheet (x1 : Int32) (x2 : Int32) (x3 : Int32) (M : zM) : Option (Int32 × zM) :=
  zB (fX6_isSheet x1 M) fun r_3 M_1 =>
  if r_3 = (0 : Int32) then
    some ((-2 : Int32), M_1)
  else
    zB (fX6_within x2 (-1 : Int32) (2 : Int32) M_1) fun r_7 M_5 =>
    if r_7 = (0 : Int32) then
      some ((-2 : Int32), M_5)
    else
      if x2 < (0 : Int32) then
        if x2 < (0 : Int32) then
          fX6_sheet_J43 x1 x2 x3 M_5
        else
          if x3 ≤ (40 : Int32) then
            fX6_sheet_J43 x1 x2 x3 M_5
          else
            some ((-2 : Int32), M_5)
      else
        if (0 : Int32) ≤ x3 then
          if x2 < (0 : Int32) then
            fX6_sheet_J43 x1 x2 x3 M_5
          else
            if x3 ≤ (40 : Int32) then
              fX6_sheet_J43 x1 x2 x3 M_5
            else
              some ((-2 : Int32), M_5)
        else
          some ((-14 : Int32), M_5)
set_option maxHeartbeats 4000000 in
set_option maxRecDepth 100000 in
theorem mtX6_sheet (l : Launch) (G : zGr) (hJ : zJ G 23) (x1 : Int32) (x2 : Int32) (x3 : Int32) (M : zM) (o : Int32 × zM) (hf : fX6_sheet x1 x2 x3 M = some o) : zMi l G shM 23 yX6_sheet cX6_sheet 5 (some .int) 2 42 [.ref (G.2.2.1 0), .int x1, .int x2, .int x3] M o := by
  intro sz
  refine zOf (by decide) (Nat.le_of_ble_eq_true rfl) ?_
  intro p e R Q s m args below meth c hRm hsz hQ C0 hP hS ls hl
  subst hsz
  replace hRm : R = { frames := 2, cells := 0, slots := 0, locals := 42 } := hRm
  have hl : lv_has ls 5 [(0, .ref (G.2.2.1 0)), (1, .int x1), (2, .int x2), (3, .int x3)] := hl
  have hx := C0.1
  have hb := C0.2.1
  have hown := C0.2.2.2.1
  have hts := C0.2.2.2.2.1
  have L68 : ∀ (n68 : Nat), ∀ (x1 : Int32) (x4 : Int32) (M : zM) (H : Heap) (locs : List Loc) (ls : Array Slot), lv_has ls 5 [(0, .ref (G.2.2.1 0)), (1, .int x1), (4, .int x4)] → va_P G.1 zcl (zw G shM 23 M) H → va_S (zA G 23 s.heap.size) s.heap H locs → fX6_sheet_L68 n68 x1 x4 M = some o → W p l e R s m args below meth c H locs 0 0 Q (F0 m 68 ls []) := by
    intro n68
    induction n68 with
    | zero => intro x1 x4 M H locs ls hl hP hS hf; exact zn_s (show none = some o from hf)
    | succ n68 ih68 =>
      intro x1 x4 M H locs ls hl hP hS hf
      replace hf : fX6_sheet_B68 (fX6_sheet_L68 n68) x1 x4 M = some o := hf
      unfold fX6_sheet_B68 at hf
      refine lv_iload hx hb dX6_sheet_68 (lv_at hl 2 rfl) ?_
      refine lv_bipush (v := (40 : Int32)) hx hb dX6_sheet_70 (by decide) ?_
      refine lv_icmp_ge (tgt := 94) hx hb dX6_sheet_72 (by decide) (fun c_16 => ?_) (fun c_16 => ?_)
      · replace hf := zI_t c_16 hf
        refine lv_iconst (v := (1 : Int32)) hx hb dX6_sheet_94 (by decide) ?_
        exact ze_i C0 hP hS hf dX6_sheet_95 hQ
      · replace hf := zI_f c_16 hf
        refine lv_aload_n hx hb dX6_sheet_75 rfl (lv_at hl 0 rfl) ?_
        refine zr_getq (C := RX6) (T := TX6) (n := 51) C0 hP 0 (by decide) shM_0 50 22 rfl (by decide) uw_X6 mw_628 rfl dX6_sheet_76 ?_
        refine lv_bipush (v := (40 : Int32)) hx hb dX6_sheet_79 (by decide) ?_
        refine lv_iload_n hx hb dX6_sheet_81 rfl (lv_at hl 1 rfl) ?_
        refine lv_imul hx hb dX6_sheet_82 ?_
        refine lv_iload hx hb dX6_sheet_83 (lv_at hl 2 rfl) ?_
        refine lv_iadd hx hb dX6_sheet_85 ?_
        refine lv_iconst (v := (0 : Int32)) hx hb dX6_sheet_86 (by decide) ?_
        obtain ⟨hg_17, hf⟩ := zG_o hf
        refine zr_iast C0 hJ hP hS 22 (by decide) shM_22 hg_17 dX6_sheet_87 (fun H locs hP hS => ?_)
        obtain ⟨M_18, eM_18, hf⟩ := zL_o hf
        have hP : va_P G.1 zcl (zw G shM 23 M_18) H := by rw [eM_18]; exact hP
        obtain ⟨x4_19, ex4_19, hf⟩ := zL_o hf
        refine lv_iinc (v := x4_19) (lv' := [(4, .int x4_19), (0, .ref (G.2.2.1 0)), (1, .int x1)]) hx hb dX6_sheet_88 hl (k := 2) rfl (by rw [ex4_19]; rfl) (by decide) rfl (fun ls hl => ?_)
        refine lv_goto (tgt := 68) hx hb dX6_sheet_91 (by decide) ?_
        exact ih68 x1 x4_19 M_18 H locs ls (lv_sub hl [1, 2, 0] rfl) hP hS hf
  have J43 : ∀ (x1 : Int32) (x2 : Int32) (x3 : Int32) (M : zM) (H : Heap) (locs : List Loc) (ls : Array Slot), lv_has ls 5 [(0, .ref (G.2.2.1 0)), (1, .int x1), (2, .int x2), (3, .int x3)] → va_P G.1 zcl (zw G shM 23 M) H → va_S (zA G 23 s.heap.size) s.heap H locs → fX6_sheet_J43 x1 x2 x3 M = some o → W p l e R s m args below meth c H locs 0 0 Q (F0 m 43 ls []) := by
    intro x1 x2 x3 M H locs ls hl hP hS hf
    unfold fX6_sheet_J43 at hf
    refine lv_aload_n hx hb dX6_sheet_43 rfl (lv_at hl 0 rfl) ?_
    refine zr_getq (C := RX6) (T := TX6) (n := 51) C0 hP 0 (by decide) shM_0 48 20 rfl (by decide) uw_X6 mw_640 rfl dX6_sheet_44 ?_
    refine lv_iload_n hx hb dX6_sheet_47 rfl (lv_at hl 1 rfl) ?_
    refine lv_iload_n hx hb dX6_sheet_48 rfl (lv_at hl 2 rfl) ?_
    obtain ⟨hg_11, hf⟩ := zG_o hf
    refine zr_iast C0 hJ hP hS 20 (by decide) shM_20 hg_11 dX6_sheet_49 (fun H locs hP hS => ?_)
    obtain ⟨M_12, eM_12, hf⟩ := zL_o hf
    have hP : va_P G.1 zcl (zw G shM 23 M_12) H := by rw [eM_12]; exact hP
    refine lv_aload_n hx hb dX6_sheet_50 rfl (lv_at hl 0 rfl) ?_
    refine zr_getq (C := RX6) (T := TX6) (n := 51) C0 hP 0 (by decide) shM_0 49 21 rfl (by decide) uw_X6 mw_627 rfl dX6_sheet_51 ?_
    refine lv_iload_n hx hb dX6_sheet_54 rfl (lv_at hl 1 rfl) ?_
    refine lv_iload_n hx hb dX6_sheet_55 rfl (lv_at hl 2 rfl) ?_
    refine lv_if_ge (tgt := 63) hx hb dX6_sheet_56 (by decide) (fun c_13 => ?_) (fun c_13 => ?_)
    · replace hf := zI_t c_13 hf
      refine lv_iload_n hx hb dX6_sheet_63 rfl (lv_at hl 3 rfl) ?_
      obtain ⟨hg_14, hf⟩ := zG_o hf
      refine zr_iast C0 hJ hP hS 21 (by decide) shM_21 hg_14 dX6_sheet_64 (fun H locs hP hS => ?_)
      obtain ⟨M_15, eM_15, hf⟩ := zL_o hf
      have hP : va_P G.1 zcl (zw G shM 23 M_15) H := by rw [eM_15]; exact hP
      refine lv_iconst (v := (0 : Int32)) hx hb dX6_sheet_65 (by decide) ?_
      refine lv_istore (lv' := [(4, .int (0 : Int32)), (0, .ref (G.2.2.1 0)), (1, .int x1), (2, .int x2), (3, .int x3)]) hx hb dX6_sheet_66 hl (by decide) rfl (fun ls hl => ?_)
      exact L68 zF x1 (0 : Int32) M_15 H locs ls (lv_sub hl [1, 2, 0] rfl) hP hS hf
    · replace hf := zI_f c_13 hf
      refine lv_iconst (v := (0 : Int32)) hx hb dX6_sheet_59 (by decide) ?_
      refine lv_goto (tgt := 64) hx hb dX6_sheet_60 (by decide) ?_
      obtain ⟨hg_20, hf⟩ := zG_o hf
      refine zr_iast C0 hJ hP hS 21 (by decide) shM_21 hg_20 dX6_sheet_64 (fun H locs hP hS => ?_)
      obtain ⟨M_21, eM_21, hf⟩ := zL_o hf
      have hP : va_P G.1 zcl (zw G shM 23 M_21) H := by rw [eM_21]; exact hP
      refine lv_iconst (v := (0 : Int32)) hx hb dX6_sheet_65 (by decide) ?_
      refine lv_istore (lv' := [(4, .int (0 : Int32)), (0, .ref (G.2.2.1 0)), (1, .int x1), (2, .int x2), (3, .int x3)]) hx hb dX6_sheet_66 hl (by decide) rfl (fun ls hl => ?_)
      exact L68 zF x1 (0 : Int32) M_21 H locs ls (lv_sub hl [1, 2, 0] rfl) hP hS hf
  unfold fX6_sheet at hf
  obtain ⟨H, eH⟩ : ∃ H, H = s.heap := ⟨_, rfl⟩
  obtain ⟨locs, el⟩ : ∃ locs : List Loc, locs = [] := ⟨_, rfl⟩
  rw [← eH] at hP ⊢
  have hS : va_S (zA G 23 s.heap.size) s.heap H locs := by rw [eH, el]; exact hS
  rw [← el]
  refine lv_iload_n hx hb dX6_sheet_0 rfl (lv_at hl 1 rfl) ?_
  obtain ⟨r_3, M_1, hc_2, hf⟩ := zB_o hf
  refine zc_si (As := [.int x1]) (rest := []) C0 hP hS hl.1 (mtX6_isSheet l G hJ x1 M _ hc_2) ls_X6_325 ds_X6_isSheet (by rw [hRm]; exact ⟨Nat.le_of_ble_eq_true rfl, Nat.le_of_ble_eq_true rfl⟩) rfl rfl (Nat.le_of_ble_eq_true rfl) dX6_sheet_1 ⟨Nat.zero_le _, Nat.zero_le _⟩ (fun H locs hP hS => ?_)
  refine lv_if_eq (tgt := 16) hx hb dX6_sheet_4 (by decide) (fun c_4 => ?_) (fun c_4 => ?_)
  · replace hf := zI_t c_4 hf
    refine lv_bipush (v := (-2 : Int32)) hx hb dX6_sheet_16 (by decide) ?_
    exact ze_i C0 hP hS hf dX6_sheet_18 hQ
  · replace hf := zI_f c_4 hf
    refine lv_iload_n hx hb dX6_sheet_7 rfl (lv_at hl 2 rfl) ?_
    refine lv_iconst (v := (-1 : Int32)) hx hb dX6_sheet_8 (by decide) ?_
    refine lv_iconst (v := (2 : Int32)) hx hb dX6_sheet_9 (by decide) ?_
    obtain ⟨r_7, M_5, hc_6, hf⟩ := zB_o hf
    refine zc_si (As := [.int x2, .int (-1 : Int32), .int (2 : Int32)]) (rest := []) C0 hP hS hl.1 (mtX6_within l G hJ x2 (-1 : Int32) (2 : Int32) M_1 _ hc_6) ls_X6_88 ds_X6_within (by rw [hRm]; exact ⟨Nat.le_of_ble_eq_true rfl, Nat.le_of_ble_eq_true rfl⟩) rfl rfl (Nat.le_of_ble_eq_true rfl) dX6_sheet_10 ⟨Nat.zero_le _, Nat.zero_le _⟩ (fun H locs hP hS => ?_)
    refine lv_if_ne (tgt := 19) hx hb dX6_sheet_13 (by decide) (fun c_8 => ?_) (fun c_8 => ?_)
    · replace hf := zI_f c_8 hf
      refine lv_iload_n hx hb dX6_sheet_19 rfl (lv_at hl 2 rfl) ?_
      refine lv_if_lt (tgt := 30) hx hb dX6_sheet_20 (by decide) (fun c_9 => ?_) (fun c_9 => ?_)
      · replace hf := zI_t c_9 hf
        refine lv_iload_n hx hb dX6_sheet_30 rfl (lv_at hl 2 rfl) ?_
        refine lv_if_lt (tgt := 43) hx hb dX6_sheet_31 (by decide) (fun c_10 => ?_) (fun c_10 => ?_)
        · replace hf := zI_t c_10 hf
          exact J43 x1 x2 x3 M_5 H locs ls (lv_sub hl [0, 1, 2, 3] rfl) hP hS hf
        · replace hf := zI_f c_10 hf
          refine lv_iload_n hx hb dX6_sheet_34 rfl (lv_at hl 3 rfl) ?_
          refine lv_bipush (v := (40 : Int32)) hx hb dX6_sheet_35 (by decide) ?_
          refine lv_icmp_le (tgt := 43) hx hb dX6_sheet_37 (by decide) (fun c_22 => ?_) (fun c_22 => ?_)
          · replace hf := zI_t c_22 hf
            exact J43 x1 x2 x3 M_5 H locs ls (lv_sub hl [0, 1, 2, 3] rfl) hP hS hf
          · replace hf := zI_f c_22 hf
            refine lv_bipush (v := (-2 : Int32)) hx hb dX6_sheet_40 (by decide) ?_
            exact ze_i C0 hP hS hf dX6_sheet_42 hQ
      · replace hf := zI_f c_9 hf
        refine lv_iload_n hx hb dX6_sheet_23 rfl (lv_at hl 3 rfl) ?_
        refine lv_if_ge (tgt := 30) hx hb dX6_sheet_24 (by decide) (fun c_23 => ?_) (fun c_23 => ?_)
        · replace hf := zI_t c_23 hf
          refine lv_iload_n hx hb dX6_sheet_30 rfl (lv_at hl 2 rfl) ?_
          refine lv_if_lt (tgt := 43) hx hb dX6_sheet_31 (by decide) (fun c_24 => ?_) (fun c_24 => ?_)
          · replace hf := zI_t c_24 hf
            exact J43 x1 x2 x3 M_5 H locs ls (lv_sub hl [0, 1, 2, 3] rfl) hP hS hf
          · replace hf := zI_f c_24 hf
            refine lv_iload_n hx hb dX6_sheet_34 rfl (lv_at hl 3 rfl) ?_
            refine lv_bipush (v := (40 : Int32)) hx hb dX6_sheet_35 (by decide) ?_
            refine lv_icmp_le (tgt := 43) hx hb dX6_sheet_37 (by decide) (fun c_25 => ?_) (fun c_25 => ?_)
            · replace hf := zI_t c_25 hf
              exact J43 x1 x2 x3 M_5 H locs ls (lv_sub hl [0, 1, 2, 3] rfl) hP hS hf
            · replace hf := zI_f c_25 hf
              refine lv_bipush (v := (-2 : Int32)) hx hb dX6_sheet_40 (by decide) ?_
              exact ze_i C0 hP hS hf dX6_sheet_42 hQ
        · replace hf := zI_f c_23 hf
          refine lv_bipush (v := (-14 : Int32)) hx hb dX6_sheet_27 (by decide) ?_
          exact ze_i C0 hP hS hf dX6_sheet_29 hQ
    · replace hf := zI_t c_8 hf
      refine lv_bipush (v := (-2 : Int32)) hx hb dX6_sheet_16 (by decide) ?_
      exact ze_i C0 hP hS hf dX6_sheet_18 hQ
def fX6_film_J58 (r43 : Int32 → Int32 → Int32 → Int32 → zM → Option (Int32 × zM)) (x1 : Int32) (x2 : Int32) (x3 : Int32) (x4 : Int32) (M : zM) : Option (Int32 × zM) :=
  zB (fX6_minutes x2 M) fun r_24 M_22 =>
  zG (zin (((40 : Int32) * x1) + x4) 160) <|
  zL (zu M_22 22 (((40 : Int32) * x1) + x4).toNatClampNeg r_24) fun M_26 =>
  zL (x4 + (1 : Int32)) fun x4_27 =>
  r43 x1 x2 x3 x4_27 M_26
def fX6_film_B43 (r43 : Int32 → Int32 → Int32 → Int32 → zM → Option (Int32 × zM)) (x1 : Int32) (x2 : Int32) (x3 : Int32) (x4 : Int32) (M : zM) : Option (Int32 × zM) :=
  if x3 ≤ x4 then
    zV (fX6_restores M) fun M_19 =>
    some (x3, M_19)
  else
    if x4 ≤ (0 : Int32) then
      fX6_film_J58 r43 x1 x2 x3 x4 M
    else
      zV (fX6_goes M) fun M_28 =>
      fX6_film_J58 r43 x1 x2 x3 x4 M_28
def fX6_film_L43 : Nat → Int32 → Int32 → Int32 → Int32 → zM → Option (Int32 × zM)
  | 0 => fun _ _ _ _ _ => none
  | j9 + 1 => fX6_film_B43 (fX6_film_L43 j9)
def fX6_film (x1 : Int32) (x2 : Int32) (x3 : Int32) (M : zM) : Option (Int32 × zM) :=
  zB (fX6_isSheet x1 M) fun r_3 M_1 =>
  if r_3 = (0 : Int32) then
    some ((-2 : Int32), M_1)
  else
    zB (fX6_isOne x2 M_1) fun r_7 M_5 =>
    if r_7 = (0 : Int32) then
      some ((-2 : Int32), M_5)
    else
      zB (fX6_within x3 (0 : Int32) (30 : Int32) M_5) fun r_11 M_9 =>
      if r_11 = (0 : Int32) then
        some ((-2 : Int32), M_9)
      else
        zB (fX6_sheet x1 (0 : Int32) x3 M_9) fun r_15 M_13 =>
        zV (fX6_keeps M_13) fun M_16 =>
        fX6_film_L43 zF x1 x2 x3 (0 : Int32) M_16
set_option maxHeartbeats 4000000 in
set_option maxRecDepth 100000 in
theorem mtX6_film (l : Launch) (G : zGr) (hJ : zJ G 23) (x1 : Int32) (x2 : Int32) (x3 : Int32) (M : zM) (o : Int32 × zM) (hf : fX6_film x1 x2 x3 M = some o) : zMi l G shM 23 yX6_film cX6_film 5 (some .int) 5 113 [.ref (G.2.2.1 0), .int x1, .int x2, .int x3] M o := by
  intro sz
  refine zOf (by decide) (Nat.le_of_ble_eq_true rfl) ?_
  intro p e R Q s m args below meth c hRm hsz hQ C0 hP hS ls hl
  subst hsz
  replace hRm : R = { frames := 5, cells := 0, slots := 0, locals := 113 } := hRm
  have hl : lv_has ls 5 [(0, .ref (G.2.2.1 0)), (1, .int x1), (2, .int x2), (3, .int x3)] := hl
  have hx := C0.1
  have hb := C0.2.1
  have hown := C0.2.2.2.1
  have hts := C0.2.2.2.2.1
  have L43 : ∀ (n43 : Nat), ∀ (x1 : Int32) (x2 : Int32) (x3 : Int32) (x4 : Int32) (M : zM) (H : Heap) (locs : List Loc) (ls : Array Slot), lv_has ls 5 [(0, .ref (G.2.2.1 0)), (1, .int x1), (2, .int x2), (3, .int x3), (4, .int x4)] → va_P G.1 zcl (zw G shM 23 M) H → va_S (zA G 23 s.heap.size) s.heap H locs → fX6_film_L43 n43 x1 x2 x3 x4 M = some o → W p l e R s m args below meth c H locs 0 0 Q (F0 m 43 ls []) := by
    intro n43
    induction n43 with
    | zero => intro x1 x2 x3 x4 M H locs ls hl hP hS hf; exact zn_s (show none = some o from hf)
    | succ n43 ih43 =>
      have J58 : ∀ (x1 : Int32) (x2 : Int32) (x3 : Int32) (x4 : Int32) (M : zM) (H : Heap) (locs : List Loc) (ls : Array Slot), lv_has ls 5 [(0, .ref (G.2.2.1 0)), (1, .int x1), (2, .int x2), (3, .int x3), (4, .int x4)] → va_P G.1 zcl (zw G shM 23 M) H → va_S (zA G 23 s.heap.size) s.heap H locs → fX6_film_J58 (fX6_film_L43 n43) x1 x2 x3 x4 M = some o → W p l e R s m args below meth c H locs 0 0 Q (F0 m 58 ls []) := by
        intro x1 x2 x3 x4 M H locs ls hl hP hS hf
        unfold fX6_film_J58 at hf
        refine lv_aload_n hx hb dX6_film_58 rfl (lv_at hl 0 rfl) ?_
        refine zr_getq (C := RX6) (T := TX6) (n := 51) C0 hP 0 (by decide) shM_0 50 22 rfl (by decide) uw_X6 mw_628 rfl dX6_film_59 ?_
        refine lv_bipush (v := (40 : Int32)) hx hb dX6_film_62 (by decide) ?_
        refine lv_iload_n hx hb dX6_film_64 rfl (lv_at hl 1 rfl) ?_
        refine lv_imul hx hb dX6_film_65 ?_
        refine lv_iload hx hb dX6_film_66 (lv_at hl 4 rfl) ?_
        refine lv_iadd hx hb dX6_film_68 ?_
        refine lv_aload_n hx hb dX6_film_69 rfl (lv_at hl 0 rfl) ?_
        refine lv_iload_n hx hb dX6_film_70 rfl (lv_at hl 2 rfl) ?_
        obtain ⟨r_24, M_22, hc_23, hf⟩ := zB_o hf
        refine zc_vi (As := [.int x2]) (rest := [.int (((40 : Int32) * x1) + x4), .ref (G.2.2.1 22)]) C0 hP hS hl.1 0 (mtX6_minutes l G hJ x2 M _ hc_23) lk_X6_120 (by decide) shM_0 (T := TX6) (n' := 51) rfl ds_X6_minutes (by rw [hRm]; exact ⟨Nat.le_of_ble_eq_true rfl, Nat.le_of_ble_eq_true rfl⟩) rfl rfl (Nat.le_of_ble_eq_true rfl) dX6_film_71 ⟨Nat.zero_le _, Nat.zero_le _⟩ (fun H locs hP hS => ?_)
        obtain ⟨hg_25, hf⟩ := zG_o hf
        refine zr_iast C0 hJ hP hS 22 (by decide) shM_22 hg_25 dX6_film_74 (fun H locs hP hS => ?_)
        obtain ⟨M_26, eM_26, hf⟩ := zL_o hf
        have hP : va_P G.1 zcl (zw G shM 23 M_26) H := by rw [eM_26]; exact hP
        obtain ⟨x4_27, ex4_27, hf⟩ := zL_o hf
        refine lv_iinc (v := x4_27) (lv' := [(4, .int x4_27), (0, .ref (G.2.2.1 0)), (1, .int x1), (2, .int x2), (3, .int x3)]) hx hb dX6_film_75 hl (k := 4) rfl (by rw [ex4_27]; rfl) (by decide) rfl (fun ls hl => ?_)
        refine lv_goto (tgt := 43) hx hb dX6_film_78 (by decide) ?_
        exact ih43 x1 x2 x3 x4_27 M_26 H locs ls (lv_sub hl [1, 2, 3, 4, 0] rfl) hP hS hf
      intro x1 x2 x3 x4 M H locs ls hl hP hS hf
      replace hf : fX6_film_B43 (fX6_film_L43 n43) x1 x2 x3 x4 M = some o := hf
      unfold fX6_film_B43 at hf
      refine lv_iload hx hb dX6_film_43 (lv_at hl 4 rfl) ?_
      refine lv_iload_n hx hb dX6_film_45 rfl (lv_at hl 3 rfl) ?_
      refine lv_icmp_ge (tgt := 81) hx hb dX6_film_46 (by decide) (fun c_18 => ?_) (fun c_18 => ?_)
      · replace hf := zI_t c_18 hf
        refine lv_aload_n hx hb dX6_film_81 rfl (lv_at hl 0 rfl) ?_
        obtain ⟨M_19, hc_20, hf⟩ := zV_o hf
        refine zc_vv (As := []) (rest := []) C0 hP hS hl.1 0 (mtX6_restores l G hJ M _ hc_20) lk_X6_249 (by decide) shM_0 (T := TX6) (n' := 51) rfl ds_X6_restores (by rw [hRm]; exact ⟨Nat.le_of_ble_eq_true rfl, Nat.le_of_ble_eq_true rfl⟩) rfl rfl (Nat.le_of_ble_eq_true rfl) dX6_film_82 ⟨Nat.zero_le _, Nat.zero_le _⟩ (fun H locs hP hS => ?_)
        refine lv_iload_n hx hb dX6_film_85 rfl (lv_at hl 3 rfl) ?_
        exact ze_i C0 hP hS hf dX6_film_86 hQ
      · replace hf := zI_f c_18 hf
        refine lv_iload hx hb dX6_film_49 (lv_at hl 4 rfl) ?_
        refine lv_if_le (tgt := 58) hx hb dX6_film_51 (by decide) (fun c_21 => ?_) (fun c_21 => ?_)
        · replace hf := zI_t c_21 hf
          exact J58 x1 x2 x3 x4 M H locs ls (lv_sub hl [0, 1, 2, 3, 4] rfl) hP hS hf
        · replace hf := zI_f c_21 hf
          refine lv_aload_n hx hb dX6_film_54 rfl (lv_at hl 0 rfl) ?_
          obtain ⟨M_28, hc_29, hf⟩ := zV_o hf
          refine zc_vv (As := []) (rest := []) C0 hP hS hl.1 0 (mtX6_goes l G hJ M _ hc_29) lk_X6_230 (by decide) shM_0 (T := TX6) (n' := 51) rfl ds_X6_goes (by rw [hRm]; exact ⟨Nat.le_of_ble_eq_true rfl, Nat.le_of_ble_eq_true rfl⟩) rfl rfl (Nat.le_of_ble_eq_true rfl) dX6_film_55 ⟨Nat.zero_le _, Nat.zero_le _⟩ (fun H locs hP hS => ?_)
          exact J58 x1 x2 x3 x4 M_28 H locs ls (lv_sub hl [0, 1, 2, 3, 4] rfl) hP hS hf
  unfold fX6_film at hf
  obtain ⟨H, eH⟩ : ∃ H, H = s.heap := ⟨_, rfl⟩
  obtain ⟨locs, el⟩ : ∃ locs : List Loc, locs = [] := ⟨_, rfl⟩
  rw [← eH] at hP ⊢
  have hS : va_S (zA G 23 s.heap.size) s.heap H locs := by rw [eH, el]; exact hS
  rw [← el]
  refine lv_iload_n hx hb dX6_film_0 rfl (lv_at hl 1 rfl) ?_
  obtain ⟨r_3, M_1, hc_2, hf⟩ := zB_o hf
  refine zc_si (As := [.int x1]) (rest := []) C0 hP hS hl.1 (mtX6_isSheet l G hJ x1 M _ hc_2) ls_X6_325 ds_X6_isSheet (by rw [hRm]; exact ⟨Nat.le_of_ble_eq_true rfl, Nat.le_of_ble_eq_true rfl⟩) rfl rfl (Nat.le_of_ble_eq_true rfl) dX6_film_1 ⟨Nat.zero_le _, Nat.zero_le _⟩ (fun H locs hP hS => ?_)
  refine lv_if_eq (tgt := 25) hx hb dX6_film_4 (by decide) (fun c_4 => ?_) (fun c_4 => ?_)
  · replace hf := zI_t c_4 hf
    refine lv_bipush (v := (-2 : Int32)) hx hb dX6_film_25 (by decide) ?_
    exact ze_i C0 hP hS hf dX6_film_27 hQ
  · replace hf := zI_f c_4 hf
    refine lv_aload_n hx hb dX6_film_7 rfl (lv_at hl 0 rfl) ?_
    refine lv_iload_n hx hb dX6_film_8 rfl (lv_at hl 2 rfl) ?_
    obtain ⟨r_7, M_5, hc_6, hf⟩ := zB_o hf
    refine zc_vi (As := [.int x2]) (rest := []) C0 hP hS hl.1 0 (mtX6_isOne l G hJ x2 M_1 _ hc_6) lk_X6_92 (by decide) shM_0 (T := TX6) (n' := 51) rfl ds_X6_isOne (by rw [hRm]; exact ⟨Nat.le_of_ble_eq_true rfl, Nat.le_of_ble_eq_true rfl⟩) rfl rfl (Nat.le_of_ble_eq_true rfl) dX6_film_9 ⟨Nat.zero_le _, Nat.zero_le _⟩ (fun H locs hP hS => ?_)
    refine lv_if_eq (tgt := 25) hx hb dX6_film_12 (by decide) (fun c_8 => ?_) (fun c_8 => ?_)
    · replace hf := zI_t c_8 hf
      refine lv_bipush (v := (-2 : Int32)) hx hb dX6_film_25 (by decide) ?_
      exact ze_i C0 hP hS hf dX6_film_27 hQ
    · replace hf := zI_f c_8 hf
      refine lv_iload_n hx hb dX6_film_15 rfl (lv_at hl 3 rfl) ?_
      refine lv_iconst (v := (0 : Int32)) hx hb dX6_film_16 (by decide) ?_
      refine lv_bipush (v := (30 : Int32)) hx hb dX6_film_17 (by decide) ?_
      obtain ⟨r_11, M_9, hc_10, hf⟩ := zB_o hf
      refine zc_si (As := [.int x3, .int (0 : Int32), .int (30 : Int32)]) (rest := []) C0 hP hS hl.1 (mtX6_within l G hJ x3 (0 : Int32) (30 : Int32) M_5 _ hc_10) ls_X6_88 ds_X6_within (by rw [hRm]; exact ⟨Nat.le_of_ble_eq_true rfl, Nat.le_of_ble_eq_true rfl⟩) rfl rfl (Nat.le_of_ble_eq_true rfl) dX6_film_19 ⟨Nat.zero_le _, Nat.zero_le _⟩ (fun H locs hP hS => ?_)
      refine lv_if_ne (tgt := 28) hx hb dX6_film_22 (by decide) (fun c_12 => ?_) (fun c_12 => ?_)
      · replace hf := zI_f c_12 hf
        refine lv_aload_n hx hb dX6_film_28 rfl (lv_at hl 0 rfl) ?_
        refine lv_iload_n hx hb dX6_film_29 rfl (lv_at hl 1 rfl) ?_
        refine lv_iconst (v := (0 : Int32)) hx hb dX6_film_30 (by decide) ?_
        refine lv_iload_n hx hb dX6_film_31 rfl (lv_at hl 3 rfl) ?_
        obtain ⟨r_15, M_13, hc_14, hf⟩ := zB_o hf
        refine zc_vi (As := [.int x1, .int (0 : Int32), .int x3]) (rest := []) C0 hP hS hl.1 0 (mtX6_sheet l G hJ x1 (0 : Int32) x3 M_9 _ hc_14) lk_X6_346 (by decide) shM_0 (T := TX6) (n' := 51) rfl ds_X6_sheet (by rw [hRm]; exact ⟨Nat.le_of_ble_eq_true rfl, Nat.le_of_ble_eq_true rfl⟩) rfl rfl (Nat.le_of_ble_eq_true rfl) dX6_film_32 ⟨Nat.zero_le _, Nat.zero_le _⟩ (fun H locs hP hS => ?_)
        refine lv_pop hx hb dX6_film_35 rfl ?_
        refine lv_aload_n hx hb dX6_film_36 rfl (lv_at hl 0 rfl) ?_
        obtain ⟨M_16, hc_17, hf⟩ := zV_o hf
        refine zc_vv (As := []) (rest := []) C0 hP hS hl.1 0 (mtX6_keeps l G hJ M_13 _ hc_17) lk_X6_246 (by decide) shM_0 (T := TX6) (n' := 51) rfl ds_X6_keeps (by rw [hRm]; exact ⟨Nat.le_of_ble_eq_true rfl, Nat.le_of_ble_eq_true rfl⟩) rfl rfl (Nat.le_of_ble_eq_true rfl) dX6_film_37 ⟨Nat.zero_le _, Nat.zero_le _⟩ (fun H locs hP hS => ?_)
        refine lv_iconst (v := (0 : Int32)) hx hb dX6_film_40 (by decide) ?_
        refine lv_istore (lv' := [(4, .int (0 : Int32)), (0, .ref (G.2.2.1 0)), (1, .int x1), (2, .int x2), (3, .int x3)]) hx hb dX6_film_41 hl (by decide) rfl (fun ls hl => ?_)
        exact L43 zF x1 x2 x3 (0 : Int32) M_16 H locs ls (lv_sub hl [1, 2, 3, 4, 0] rfl) hP hS hf
      · replace hf := zI_t c_12 hf
        refine lv_bipush (v := (-2 : Int32)) hx hb dX6_film_25 (by decide) ?_
        exact ze_i C0 hP hS hf dX6_film_27 hQ
def fX6_byLot_B46 (r12 : Int32 → Int32 → Int32 → Int32 → zM → Option (Int32 × zM)) (r46 : Int32 → Int32 → Int32 → Int32 → Int32 → zM → Option (Int32 × zM)) (x2 : Int32) (x3 : Int32) (x4 : Int32) (x5 : Int32) (x6 : Int32) (M : zM) : Option (Int32 × zM) :=
  if (M.1 0 2) ≤ x6 then
    zL (x5 + (1 : Int32)) fun x5_11 =>
    r12 x2 x3 x4 x5_11 M
  else
    zB (fX6_isClogged x6 M) fun r_14 M_12 =>
    if r_14 = (0 : Int32) then
      zL (x6 + (1 : Int32)) fun x6_16 =>
      r46 x2 x3 x4 x5 x6_16 M_12
    else
      zL (x4 + (1 : Int32)) fun x4_17 =>
      zL (x6 + (1 : Int32)) fun x6_18 =>
      r46 x2 x3 x4_17 x5 x6_18 M_12
def fX6_byLot_L46 (r12 : Int32 → Int32 → Int32 → Int32 → zM → Option (Int32 × zM)) : Nat → Int32 → Int32 → Int32 → Int32 → Int32 → zM → Option (Int32 × zM)
  | 0 => fun _ _ _ _ _ _ => none
  | j9 + 1 => fX6_byLot_B46 r12 (fX6_byLot_L46 r12 j9)
def fX6_byLot_B12 (r12 : Int32 → Int32 → Int32 → Int32 → zM → Option (Int32 × zM)) (x2 : Int32) (x3 : Int32) (x4 : Int32) (x5 : Int32) (M : zM) : Option (Int32 × zM) :=
  if x2 ≤ x5 then
    zV (fX6_restores M) fun M_4 =>
    some (x4, M_4)
  else
    zL ((x3 * (1103515245 : Int32)) + (12345 : Int32)) fun x3_6 =>
    zL (zu M 0 1 (zrm (zushr x3_6 (9 : Int32)) (10 : Int32))) fun M_7 =>
    zV (fX6_goes M_7) fun M_8 =>
    fX6_byLot_L46 r12 zF x2 x3_6 x4 x5 (0 : Int32) M_8
def fX6_byLot_L12 : Nat → Int32 → Int32 → Int32 → Int32 → zM → Option (Int32 × zM)
  | 0 => fun _ _ _ _ _ => none
  | j9 + 1 => fX6_byLot_B12 (fX6_byLot_L12 j9)
def fX6_byLot (x1 : Int32) (x2 : Int32) (M : zM) : Option (Int32 × zM) :=
  zV (fX6_keeps M) fun M_1 =>
  fX6_byLot_L12 zF x2 x1 (0 : Int32) (0 : Int32) M_1
set_option maxHeartbeats 4000000 in
set_option maxRecDepth 100000 in
theorem mtX6_byLot (l : Launch) (G : zGr) (hJ : zJ G 23) (x1 : Int32) (x2 : Int32) (M : zM) (o : Int32 × zM) (hf : fX6_byLot x1 x2 M = some o) : zMi l G shM 23 yX6_byLot cX6_byLot 7 (some .int) 5 112 [.ref (G.2.2.1 0), .int x1, .int x2] M o := by
  intro sz
  refine zOf (by decide) (Nat.le_of_ble_eq_true rfl) ?_
  intro p e R Q s m args below meth c hRm hsz hQ C0 hP hS ls hl
  subst hsz
  replace hRm : R = { frames := 5, cells := 0, slots := 0, locals := 112 } := hRm
  have hl : lv_has ls 7 [(0, .ref (G.2.2.1 0)), (1, .int x1), (2, .int x2)] := hl
  have hx := C0.1
  have hb := C0.2.1
  have hown := C0.2.2.2.1
  have hts := C0.2.2.2.2.1
  have L12 : ∀ (n12 : Nat), ∀ (x2 : Int32) (x3 : Int32) (x4 : Int32) (x5 : Int32) (M : zM) (H : Heap) (locs : List Loc) (ls : Array Slot), lv_has ls 7 [(0, .ref (G.2.2.1 0)), (2, .int x2), (3, .int x3), (4, .int x4), (5, .int x5)] → va_P G.1 zcl (zw G shM 23 M) H → va_S (zA G 23 s.heap.size) s.heap H locs → fX6_byLot_L12 n12 x2 x3 x4 x5 M = some o → W p l e R s m args below meth c H locs 0 0 Q (F0 m 12 ls []) := by
    intro n12
    induction n12 with
    | zero => intro x2 x3 x4 x5 M H locs ls hl hP hS hf; exact zn_s (show none = some o from hf)
    | succ n12 ih12 =>
      have L46 : ∀ (n46 : Nat), ∀ (x2 : Int32) (x3 : Int32) (x4 : Int32) (x5 : Int32) (x6 : Int32) (M : zM) (H : Heap) (locs : List Loc) (ls : Array Slot), lv_has ls 7 [(0, .ref (G.2.2.1 0)), (2, .int x2), (3, .int x3), (4, .int x4), (5, .int x5), (6, .int x6)] → va_P G.1 zcl (zw G shM 23 M) H → va_S (zA G 23 s.heap.size) s.heap H locs → fX6_byLot_L46 (fX6_byLot_L12 n12) n46 x2 x3 x4 x5 x6 M = some o → W p l e R s m args below meth c H locs 0 0 Q (F0 m 46 ls []) := by
        intro n46
        induction n46 with
        | zero => intro x2 x3 x4 x5 x6 M H locs ls hl hP hS hf; exact zn_s (show none = some o from hf)
        | succ n46 ih46 =>
          intro x2 x3 x4 x5 x6 M H locs ls hl hP hS hf
          replace hf : fX6_byLot_B46 (fX6_byLot_L12 n12) (fX6_byLot_L46 (fX6_byLot_L12 n12) n46) x2 x3 x4 x5 x6 M = some o := hf
          unfold fX6_byLot_B46 at hf
          refine lv_iload hx hb dX6_byLot_46 (lv_at hl 5 rfl) ?_
          refine lv_aload_n hx hb dX6_byLot_48 rfl (lv_at hl 0 rfl) ?_
          refine zr_get (C := RX6) (T := TX6) (n := 51) C0 hP 0 (by decide) shM_0 2 rfl (by decide) uw_X6 mw_391 rfl dX6_byLot_49 ?_
          refine lv_icmp_ge (tgt := 73) hx hb dX6_byLot_52 (by decide) (fun c_10 => ?_) (fun c_10 => ?_)
          · replace hf := zI_t c_10 hf
            obtain ⟨x5_11, ex5_11, hf⟩ := zL_o hf
            refine lv_iinc (v := x5_11) (lv' := [(5, .int x5_11), (0, .ref (G.2.2.1 0)), (2, .int x2), (3, .int x3), (4, .int x4), (6, .int x6)]) hx hb dX6_byLot_73 hl (k := 4) rfl (by rw [ex5_11]; rfl) (by decide) rfl (fun ls hl => ?_)
            refine lv_goto (tgt := 12) hx hb dX6_byLot_76 (by decide) ?_
            exact ih12 x2 x3 x4 x5_11 M H locs ls (lv_sub hl [1, 2, 3, 4, 0] rfl) hP hS hf
          · replace hf := zI_f c_10 hf
            refine lv_aload_n hx hb dX6_byLot_55 rfl (lv_at hl 0 rfl) ?_
            refine lv_iload hx hb dX6_byLot_56 (lv_at hl 5 rfl) ?_
            obtain ⟨r_14, M_12, hc_13, hf⟩ := zB_o hf
            refine zc_vi (As := [.int x6]) (rest := []) C0 hP hS hl.1 0 (mtX6_isClogged l G hJ x6 M _ hc_13) lk_X6_114 (by decide) shM_0 (T := TX6) (n' := 51) rfl ds_X6_isClogged (by rw [hRm]; exact ⟨Nat.le_of_ble_eq_true rfl, Nat.le_of_ble_eq_true rfl⟩) rfl rfl (Nat.le_of_ble_eq_true rfl) dX6_byLot_58 ⟨Nat.zero_le _, Nat.zero_le _⟩ (fun H locs hP hS => ?_)
            refine lv_if_eq (tgt := 67) hx hb dX6_byLot_61 (by decide) (fun c_15 => ?_) (fun c_15 => ?_)
            · replace hf := zI_t c_15 hf
              obtain ⟨x6_16, ex6_16, hf⟩ := zL_o hf
              refine lv_iinc (v := x6_16) (lv' := [(6, .int x6_16), (0, .ref (G.2.2.1 0)), (2, .int x2), (3, .int x3), (4, .int x4), (5, .int x5)]) hx hb dX6_byLot_67 hl (k := 5) rfl (by rw [ex6_16]; rfl) (by decide) rfl (fun ls hl => ?_)
              refine lv_goto (tgt := 46) hx hb dX6_byLot_70 (by decide) ?_
              exact ih46 x2 x3 x4 x5 x6_16 M_12 H locs ls (lv_sub hl [1, 2, 3, 4, 5, 0] rfl) hP hS hf
            · replace hf := zI_f c_15 hf
              obtain ⟨x4_17, ex4_17, hf⟩ := zL_o hf
              refine lv_iinc (v := x4_17) (lv' := [(4, .int x4_17), (0, .ref (G.2.2.1 0)), (2, .int x2), (3, .int x3), (5, .int x5), (6, .int x6)]) hx hb dX6_byLot_64 hl (k := 3) rfl (by rw [ex4_17]; rfl) (by decide) rfl (fun ls hl => ?_)
              obtain ⟨x6_18, ex6_18, hf⟩ := zL_o hf
              refine lv_iinc (v := x6_18) (lv' := [(6, .int x6_18), (4, .int x4_17), (0, .ref (G.2.2.1 0)), (2, .int x2), (3, .int x3), (5, .int x5)]) hx hb dX6_byLot_67 hl (k := 5) rfl (by rw [ex6_18]; rfl) (by decide) rfl (fun ls hl => ?_)
              refine lv_goto (tgt := 46) hx hb dX6_byLot_70 (by decide) ?_
              exact ih46 x2 x3 x4_17 x5 x6_18 M_12 H locs ls (lv_sub hl [2, 3, 4, 1, 5, 0] rfl) hP hS hf
      intro x2 x3 x4 x5 M H locs ls hl hP hS hf
      replace hf : fX6_byLot_B12 (fX6_byLot_L12 n12) x2 x3 x4 x5 M = some o := hf
      unfold fX6_byLot_B12 at hf
      refine lv_iload hx hb dX6_byLot_12 (lv_at hl 4 rfl) ?_
      refine lv_iload_n hx hb dX6_byLot_14 rfl (lv_at hl 1 rfl) ?_
      refine lv_icmp_ge (tgt := 79) hx hb dX6_byLot_15 (by decide) (fun c_3 => ?_) (fun c_3 => ?_)
      · replace hf := zI_t c_3 hf
        refine lv_aload_n hx hb dX6_byLot_79 rfl (lv_at hl 0 rfl) ?_
        obtain ⟨M_4, hc_5, hf⟩ := zV_o hf
        refine zc_vv (As := []) (rest := []) C0 hP hS hl.1 0 (mtX6_restores l G hJ M _ hc_5) lk_X6_249 (by decide) shM_0 (T := TX6) (n' := 51) rfl ds_X6_restores (by rw [hRm]; exact ⟨Nat.le_of_ble_eq_true rfl, Nat.le_of_ble_eq_true rfl⟩) rfl rfl (Nat.le_of_ble_eq_true rfl) dX6_byLot_80 ⟨Nat.zero_le _, Nat.zero_le _⟩ (fun H locs hP hS => ?_)
        refine lv_iload hx hb dX6_byLot_83 (lv_at hl 3 rfl) ?_
        exact ze_i C0 hP hS hf dX6_byLot_85 hQ
      · replace hf := zI_f c_3 hf
        refine lv_iload_n hx hb dX6_byLot_18 rfl (lv_at hl 2 rfl) ?_
        refine lv_ldcw (v := (1103515245 : Int32)) hx hb hown (hts _ mw_669) dX6_byLot_19 ?_
        refine lv_imul hx hb dX6_byLot_22 ?_
        refine lv_sipush (v := (12345 : Int32)) hx hb dX6_byLot_23 (by decide) ?_
        refine lv_iadd hx hb dX6_byLot_26 ?_
        refine lv_topi (fun x3_6 ex3_6 => ?_)
        replace hf := zL_e ex3_6 hf
        refine lv_istore_n (lv' := [(3, .int x3_6), (0, .ref (G.2.2.1 0)), (2, .int x2), (4, .int x4), (5, .int x5)]) hx hb dX6_byLot_27 rfl hl (by decide) rfl (fun ls hl => ?_)
        refine lv_aload_n hx hb dX6_byLot_28 rfl (lv_at hl 1 rfl) ?_
        refine lv_iload_n hx hb dX6_byLot_29 rfl (lv_at hl 0 rfl) ?_
        refine lv_bipush (v := (9 : Int32)) hx hb dX6_byLot_30 (by decide) ?_
        refine zo_iushr hx hb dX6_byLot_32 ?_
        refine lv_bipush (v := (10 : Int32)) hx hb dX6_byLot_33 (by decide) ?_
        refine zo_irem hx hb dX6_byLot_35 (by decide) ?_
        refine zr_put (C := RX6) (T := TX6) (n := 51) C0 hJ hP hS 0 (by decide) shM_0 1 rfl (by decide) uw_X6 tyX6 tyX6_ok nmX6 mw_401 rfl rfl ⟨rfl, rfl⟩ dX6_byLot_36 (fun H locs hP hS => ?_)
        obtain ⟨M_7, eM_7, hf⟩ := zL_o hf
        have hP : va_P G.1 zcl (zw G shM 23 M_7) H := by rw [eM_7]; exact hP
        refine lv_aload_n hx hb dX6_byLot_39 rfl (lv_at hl 1 rfl) ?_
        obtain ⟨M_8, hc_9, hf⟩ := zV_o hf
        refine zc_vv (As := []) (rest := []) C0 hP hS hl.1 0 (mtX6_goes l G hJ M_7 _ hc_9) lk_X6_230 (by decide) shM_0 (T := TX6) (n' := 51) rfl ds_X6_goes (by rw [hRm]; exact ⟨Nat.le_of_ble_eq_true rfl, Nat.le_of_ble_eq_true rfl⟩) rfl rfl (Nat.le_of_ble_eq_true rfl) dX6_byLot_40 ⟨Nat.zero_le _, Nat.zero_le _⟩ (fun H locs hP hS => ?_)
        refine lv_iconst (v := (0 : Int32)) hx hb dX6_byLot_43 (by decide) ?_
        refine lv_istore (lv' := [(6, .int (0 : Int32)), (3, .int x3_6), (0, .ref (G.2.2.1 0)), (2, .int x2), (4, .int x4), (5, .int x5)]) hx hb dX6_byLot_44 hl (by decide) rfl (fun ls hl => ?_)
        exact L46 zF x2 x3_6 x4 x5 (0 : Int32) M_8 H locs ls (lv_sub hl [2, 3, 1, 4, 5, 0] rfl) hP hS hf
  unfold fX6_byLot at hf
  obtain ⟨H, eH⟩ : ∃ H, H = s.heap := ⟨_, rfl⟩
  obtain ⟨locs, el⟩ : ∃ locs : List Loc, locs = [] := ⟨_, rfl⟩
  rw [← eH] at hP ⊢
  have hS : va_S (zA G 23 s.heap.size) s.heap H locs := by rw [eH, el]; exact hS
  rw [← el]
  refine lv_iload_n hx hb dX6_byLot_0 rfl (lv_at hl 1 rfl) ?_
  refine lv_istore_n (lv' := [(3, .int x1), (0, .ref (G.2.2.1 0)), (1, .int x1), (2, .int x2)]) hx hb dX6_byLot_1 rfl hl (by decide) rfl (fun ls hl => ?_)
  refine lv_iconst (v := (0 : Int32)) hx hb dX6_byLot_2 (by decide) ?_
  refine lv_istore (lv' := [(4, .int (0 : Int32)), (3, .int x1), (0, .ref (G.2.2.1 0)), (1, .int x1), (2, .int x2)]) hx hb dX6_byLot_3 hl (by decide) rfl (fun ls hl => ?_)
  refine lv_aload_n hx hb dX6_byLot_5 rfl (lv_at hl 2 rfl) ?_
  obtain ⟨M_1, hc_2, hf⟩ := zV_o hf
  refine zc_vv (As := []) (rest := []) C0 hP hS hl.1 0 (mtX6_keeps l G hJ M _ hc_2) lk_X6_246 (by decide) shM_0 (T := TX6) (n' := 51) rfl ds_X6_keeps (by rw [hRm]; exact ⟨Nat.le_of_ble_eq_true rfl, Nat.le_of_ble_eq_true rfl⟩) rfl rfl (Nat.le_of_ble_eq_true rfl) dX6_byLot_6 ⟨Nat.zero_le _, Nat.zero_le _⟩ (fun H locs hP hS => ?_)
  refine lv_iconst (v := (0 : Int32)) hx hb dX6_byLot_9 (by decide) ?_
  refine lv_istore (lv' := [(5, .int (0 : Int32)), (4, .int (0 : Int32)), (3, .int x1), (0, .ref (G.2.2.1 0)), (1, .int x1), (2, .int x2)]) hx hb dX6_byLot_10 hl (by decide) rfl (fun ls hl => ?_)
  exact L12 zF x2 x1 (0 : Int32) (0 : Int32) M_1 H locs ls (lv_sub hl [3, 5, 2, 1, 0] rfl) hP hS hf
def fX6_drawn (x1 : Int32) (x2 : Int32) (M : zM) : Option (Int32 × zM) :=
  zB (fX6_within x2 (0 : Int32) (40 : Int32) M) fun r_3 M_1 =>
  if r_3 = (0 : Int32) then
    some ((-2 : Int32), M_1)
  else
    zB (fX6_byLot x1 x2 M_1) fun r_7 M_5 =>
    some (r_7, M_5)
set_option maxHeartbeats 4000000 in
set_option maxRecDepth 100000 in
theorem mtX6_drawn (l : Launch) (G : zGr) (hJ : zJ G 23) (x1 : Int32) (x2 : Int32) (M : zM) (o : Int32 × zM) (hf : fX6_drawn x1 x2 M = some o) : zMi l G shM 23 yX6_drawn cX6_drawn 3 (some .int) 6 138 [.ref (G.2.2.1 0), .int x1, .int x2] M o := by
  intro sz
  refine zOf (by decide) (Nat.le_of_ble_eq_true rfl) ?_
  intro p e R Q s m args below meth c hRm hsz hQ C0 hP hS ls hl
  subst hsz
  replace hRm : R = { frames := 6, cells := 0, slots := 0, locals := 138 } := hRm
  have hl : lv_has ls 3 [(0, .ref (G.2.2.1 0)), (1, .int x1), (2, .int x2)] := hl
  have hx := C0.1
  have hb := C0.2.1
  have hown := C0.2.2.2.1
  have hts := C0.2.2.2.2.1
  unfold fX6_drawn at hf
  obtain ⟨H, eH⟩ : ∃ H, H = s.heap := ⟨_, rfl⟩
  obtain ⟨locs, el⟩ : ∃ locs : List Loc, locs = [] := ⟨_, rfl⟩
  rw [← eH] at hP ⊢
  have hS : va_S (zA G 23 s.heap.size) s.heap H locs := by rw [eH, el]; exact hS
  rw [← el]
  refine lv_iload_n hx hb dX6_drawn_0 rfl (lv_at hl 2 rfl) ?_
  refine lv_iconst (v := (0 : Int32)) hx hb dX6_drawn_1 (by decide) ?_
  refine lv_bipush (v := (40 : Int32)) hx hb dX6_drawn_2 (by decide) ?_
  obtain ⟨r_3, M_1, hc_2, hf⟩ := zB_o hf
  refine zc_si (As := [.int x2, .int (0 : Int32), .int (40 : Int32)]) (rest := []) C0 hP hS hl.1 (mtX6_within l G hJ x2 (0 : Int32) (40 : Int32) M _ hc_2) ls_X6_88 ds_X6_within (by rw [hRm]; exact ⟨Nat.le_of_ble_eq_true rfl, Nat.le_of_ble_eq_true rfl⟩) rfl rfl (Nat.le_of_ble_eq_true rfl) dX6_drawn_4 ⟨Nat.zero_le _, Nat.zero_le _⟩ (fun H locs hP hS => ?_)
  refine lv_if_eq (tgt := 19) hx hb dX6_drawn_7 (by decide) (fun c_4 => ?_) (fun c_4 => ?_)
  · replace hf := zI_t c_4 hf
    refine lv_bipush (v := (-2 : Int32)) hx hb dX6_drawn_19 (by decide) ?_
    exact ze_i C0 hP hS hf dX6_drawn_21 hQ
  · replace hf := zI_f c_4 hf
    refine lv_aload_n hx hb dX6_drawn_10 rfl (lv_at hl 0 rfl) ?_
    refine lv_iload_n hx hb dX6_drawn_11 rfl (lv_at hl 1 rfl) ?_
    refine lv_iload_n hx hb dX6_drawn_12 rfl (lv_at hl 2 rfl) ?_
    obtain ⟨r_7, M_5, hc_6, hf⟩ := zB_o hf
    refine zc_vi (As := [.int x1, .int x2]) (rest := []) C0 hP hS hl.1 0 (mtX6_byLot l G hJ x1 x2 M_1 _ hc_6) lk_X6_350 (by decide) shM_0 (T := TX6) (n' := 51) rfl ds_X6_byLot (by rw [hRm]; exact ⟨Nat.le_of_ble_eq_true rfl, Nat.le_of_ble_eq_true rfl⟩) rfl rfl (Nat.le_of_ble_eq_true rfl) dX6_drawn_13 ⟨Nat.zero_le _, Nat.zero_le _⟩ (fun H locs hP hS => ?_)
    refine lv_goto (tgt := 21) hx hb dX6_drawn_16 (by decide) ?_
    exact ze_i C0 hP hS hf dX6_drawn_21 hQ
def fX6_chance_B76 (r76 : Int32 → Int32 → Int32 → Int32 → Int32 → zM → Option (Int64 × zM)) (x2 : Int32) (x4 : Int32) (x5 : Int32) (x6 : Int32) (x7 : Int32) (M : zM) : Option (Int64 × zM) :=
  if x7 = (0 : Int32) then
    if x4 = (0 : Int32) then
      zG (znz x6) <|
      some ((x5 / x6).toInt64, M)
    else
      zG (znz x6) <|
      some ((x2 / x6).toInt64, M)
  else
    zG (znz x7) <|
    zL (zrm x6 x7) fun x8_19 =>
    r76 x2 x4 x5 x7 x8_19 M
def fX6_chance_L76 : Nat → Int32 → Int32 → Int32 → Int32 → Int32 → zM → Option (Int64 × zM)
  | 0 => fun _ _ _ _ _ _ => none
  | j9 + 1 => fX6_chance_B76 (fX6_chance_L76 j9)
def fX6_chance_B40 (r40 : Int32 → Int32 → Int32 → Int32 → Int32 → Int32 → zM → Option (Int64 × zM)) (x1 : Int32) (x2 : Int32) (x3 : Int32) (x4 : Int32) (x5 : Int32) (x6 : Int32) (M : zM) : Option (Int64 × zM) :=
  if x2 ≤ x6 then
    fX6_chance_L76 zF x2 x4 x5 x5 x2 M
  else
    zB (fX6_byLot (x1 + x6) (10 : Int32) M) fun r_22 M_20 =>
    if r_22 < x3 then
      zL (x6 + (1 : Int32)) fun x6_24 =>
      r40 x1 x2 x3 x4 x5 x6_24 M_20
    else
      zL (x5 + (1 : Int32)) fun x5_25 =>
      zL (x6 + (1 : Int32)) fun x6_26 =>
      r40 x1 x2 x3 x4 x5_25 x6_26 M_20
def fX6_chance_L40 : Nat → Int32 → Int32 → Int32 → Int32 → Int32 → Int32 → zM → Option (Int64 × zM)
  | 0 => fun _ _ _ _ _ _ _ => none
  | j9 + 1 => fX6_chance_B40 (fX6_chance_L40 j9)
def fX6_chance (x1 : Int32) (x2 : Int32) (x3 : Int32) (x4 : Int32) (M : zM) : Option (Int64 × zM) :=
  zB (fX6_within x2 (1 : Int32) (20 : Int32) M) fun r_3 M_1 =>
  if r_3 = (0 : Int32) then
    some ((-4611686018427387904 : Int64), M_1)
  else
    zB (fX6_within x3 (0 : Int32) (99 : Int32) M_1) fun r_7 M_5 =>
    if r_7 = (0 : Int32) then
      some ((-4611686018427387904 : Int64), M_5)
    else
      zB (fX6_within x4 (0 : Int32) (1 : Int32) M_5) fun r_11 M_9 =>
      if r_11 = (0 : Int32) then
        some ((-4611686018427387904 : Int64), M_9)
      else
        fX6_chance_L40 zF x1 x2 x3 x4 (0 : Int32) (0 : Int32) M_9
set_option maxHeartbeats 4000000 in
set_option maxRecDepth 100000 in
theorem mtX6_chance (l : Launch) (G : zGr) (hJ : zJ G 23) (x1 : Int32) (x2 : Int32) (x3 : Int32) (x4 : Int32) (M : zM) (o : Int64 × zM) (hf : fX6_chance x1 x2 x3 x4 M = some o) : zMl l G shM 23 yX6_chance cX6_chance 9 (some .long) 6 138 [.ref (G.2.2.1 0), .int x1, .int x2, .int x3, .int x4] M o := by
  intro sz
  refine zOf (by decide) (Nat.le_of_ble_eq_true rfl) ?_
  intro p e R Q s m args below meth c hRm hsz hQ C0 hP hS ls hl
  subst hsz
  replace hRm : R = { frames := 6, cells := 0, slots := 0, locals := 138 } := hRm
  have hl : lv_has ls 9 [(0, .ref (G.2.2.1 0)), (1, .int x1), (2, .int x2), (3, .int x3), (4, .int x4)] := hl
  have hx := C0.1
  have hb := C0.2.1
  have hown := C0.2.2.2.1
  have hts := C0.2.2.2.2.1
  have L76 : ∀ (n76 : Nat), ∀ (x2 : Int32) (x4 : Int32) (x5 : Int32) (x6 : Int32) (x7 : Int32) (M : zM) (H : Heap) (locs : List Loc) (ls : Array Slot), lv_has ls 9 [(2, .int x2), (4, .int x4), (5, .int x5), (6, .int x6), (7, .int x7)] → va_P G.1 zcl (zw G shM 23 M) H → va_S (zA G 23 s.heap.size) s.heap H locs → fX6_chance_L76 n76 x2 x4 x5 x6 x7 M = some o → W p l e R s m args below meth c H locs 0 0 Q (F0 m 76 ls []) := by
    intro n76
    induction n76 with
    | zero => intro x2 x4 x5 x6 x7 M H locs ls hl hP hS hf; exact zn_s (show none = some o from hf)
    | succ n76 ih76 =>
      intro x2 x4 x5 x6 x7 M H locs ls hl hP hS hf
      replace hf : fX6_chance_B76 (fX6_chance_L76 n76) x2 x4 x5 x6 x7 M = some o := hf
      unfold fX6_chance_B76 at hf
      refine lv_iload hx hb dX6_chance_76 (lv_at hl 4 rfl) ?_
      refine lv_if_eq (tgt := 99) hx hb dX6_chance_78 (by decide) (fun c_14 => ?_) (fun c_14 => ?_)
      · replace hf := zI_t c_14 hf
        refine lv_iload hx hb dX6_chance_99 (lv_at hl 1 rfl) ?_
        refine lv_if_ne (tgt := 113) hx hb dX6_chance_101 (by decide) (fun c_15 => ?_) (fun c_15 => ?_)
        · replace hf := zI_f c_15 hf
          refine lv_iload_n hx hb dX6_chance_113 rfl (lv_at hl 0 rfl) ?_
          refine lv_iload hx hb dX6_chance_114 (lv_at hl 3 rfl) ?_
          obtain ⟨hg_16, hf⟩ := zG_o hf
          refine lv_idiv hx hb dX6_chance_116 (znz_i hg_16) ?_
          refine zo_i2l hx hb dX6_chance_117 ?_
          exact ze_l C0 hP hS hf dX6_chance_118 hQ
        · replace hf := zI_t c_15 hf
          refine lv_iload hx hb dX6_chance_104 (lv_at hl 2 rfl) ?_
          refine lv_iload hx hb dX6_chance_106 (lv_at hl 3 rfl) ?_
          obtain ⟨hg_17, hf⟩ := zG_o hf
          refine lv_idiv hx hb dX6_chance_108 (znz_i hg_17) ?_
          refine zo_i2l hx hb dX6_chance_109 ?_
          refine lv_goto (tgt := 118) hx hb dX6_chance_110 (by decide) ?_
          exact ze_l C0 hP hS hf dX6_chance_118 hQ
      · replace hf := zI_f c_14 hf
        refine lv_iload hx hb dX6_chance_81 (lv_at hl 3 rfl) ?_
        refine lv_iload hx hb dX6_chance_83 (lv_at hl 4 rfl) ?_
        obtain ⟨hg_18, hf⟩ := zG_o hf
        refine zo_irem hx hb dX6_chance_85 (znz_i hg_18) ?_
        refine lv_topi (fun x8_19 ex8_19 => ?_)
        replace hf := zL_e ex8_19 hf
        refine lv_istore (lv' := [(8, .int x8_19), (2, .int x2), (4, .int x4), (5, .int x5), (6, .int x6), (7, .int x7)]) hx hb dX6_chance_86 hl (by decide) rfl (fun ls hl => ?_)
        refine lv_iload hx hb dX6_chance_88 (lv_at hl 5 rfl) ?_
        refine lv_istore (lv' := [(6, .int x7), (8, .int x8_19), (2, .int x2), (4, .int x4), (5, .int x5), (7, .int x7)]) hx hb dX6_chance_90 hl (by decide) rfl (fun ls hl => ?_)
        refine lv_iload hx hb dX6_chance_92 (lv_at hl 1 rfl) ?_
        refine lv_istore (lv' := [(7, .int x8_19), (6, .int x7), (8, .int x8_19), (2, .int x2), (4, .int x4), (5, .int x5)]) hx hb dX6_chance_94 hl (by decide) rfl (fun ls hl => ?_)
        refine lv_goto (tgt := 76) hx hb dX6_chance_96 (by decide) ?_
        exact ih76 x2 x4 x5 x7 x8_19 M H locs ls (lv_sub hl [3, 4, 5, 1, 0] rfl) hP hS hf
  have L40 : ∀ (n40 : Nat), ∀ (x1 : Int32) (x2 : Int32) (x3 : Int32) (x4 : Int32) (x5 : Int32) (x6 : Int32) (M : zM) (H : Heap) (locs : List Loc) (ls : Array Slot), lv_has ls 9 [(0, .ref (G.2.2.1 0)), (1, .int x1), (2, .int x2), (3, .int x3), (4, .int x4), (5, .int x5), (6, .int x6)] → va_P G.1 zcl (zw G shM 23 M) H → va_S (zA G 23 s.heap.size) s.heap H locs → fX6_chance_L40 n40 x1 x2 x3 x4 x5 x6 M = some o → W p l e R s m args below meth c H locs 0 0 Q (F0 m 40 ls []) := by
    intro n40
    induction n40 with
    | zero => intro x1 x2 x3 x4 x5 x6 M H locs ls hl hP hS hf; exact zn_s (show none = some o from hf)
    | succ n40 ih40 =>
      intro x1 x2 x3 x4 x5 x6 M H locs ls hl hP hS hf
      replace hf : fX6_chance_B40 (fX6_chance_L40 n40) x1 x2 x3 x4 x5 x6 M = some o := hf
      unfold fX6_chance_B40 at hf
      refine lv_iload hx hb dX6_chance_40 (lv_at hl 6 rfl) ?_
      refine lv_iload_n hx hb dX6_chance_42 rfl (lv_at hl 2 rfl) ?_
      refine lv_icmp_ge (tgt := 69) hx hb dX6_chance_43 (by decide) (fun c_13 => ?_) (fun c_13 => ?_)
      · replace hf := zI_t c_13 hf
        refine lv_iload hx hb dX6_chance_69 (lv_at hl 5 rfl) ?_
        refine lv_istore (lv' := [(6, .int x5), (0, .ref (G.2.2.1 0)), (1, .int x1), (2, .int x2), (3, .int x3), (4, .int x4), (5, .int x5)]) hx hb dX6_chance_71 hl (by decide) rfl (fun ls hl => ?_)
        refine lv_iload_n hx hb dX6_chance_73 rfl (lv_at hl 3 rfl) ?_
        refine lv_istore (lv' := [(7, .int x2), (6, .int x5), (0, .ref (G.2.2.1 0)), (1, .int x1), (2, .int x2), (3, .int x3), (4, .int x4), (5, .int x5)]) hx hb dX6_chance_74 hl (by decide) rfl (fun ls hl => ?_)
        exact L76 zF x2 x4 x5 x5 x2 M H locs ls (lv_sub hl [4, 6, 7, 1, 0] rfl) hP hS hf
      · replace hf := zI_f c_13 hf
        refine lv_aload_n hx hb dX6_chance_46 rfl (lv_at hl 0 rfl) ?_
        refine lv_iload_n hx hb dX6_chance_47 rfl (lv_at hl 1 rfl) ?_
        refine lv_iload hx hb dX6_chance_48 (lv_at hl 6 rfl) ?_
        refine lv_iadd hx hb dX6_chance_50 ?_
        refine lv_bipush (v := (10 : Int32)) hx hb dX6_chance_51 (by decide) ?_
        obtain ⟨r_22, M_20, hc_21, hf⟩ := zB_o hf
        refine zc_vi (As := [.int (x1 + x6), .int (10 : Int32)]) (rest := []) C0 hP hS hl.1 0 (mtX6_byLot l G hJ (x1 + x6) (10 : Int32) M _ hc_21) lk_X6_350 (by decide) shM_0 (T := TX6) (n' := 51) rfl ds_X6_byLot (by rw [hRm]; exact ⟨Nat.le_of_ble_eq_true rfl, Nat.le_of_ble_eq_true rfl⟩) rfl rfl (Nat.le_of_ble_eq_true rfl) dX6_chance_53 ⟨Nat.zero_le _, Nat.zero_le _⟩ (fun H locs hP hS => ?_)
        refine lv_iload_n hx hb dX6_chance_56 rfl (lv_at hl 3 rfl) ?_
        refine lv_icmp_lt (tgt := 63) hx hb dX6_chance_57 (by decide) (fun c_23 => ?_) (fun c_23 => ?_)
        · replace hf := zI_t c_23 hf
          obtain ⟨x6_24, ex6_24, hf⟩ := zL_o hf
          refine lv_iinc (v := x6_24) (lv' := [(6, .int x6_24), (0, .ref (G.2.2.1 0)), (1, .int x1), (2, .int x2), (3, .int x3), (4, .int x4), (5, .int x5)]) hx hb dX6_chance_63 hl (k := 6) rfl (by rw [ex6_24]; rfl) (by decide) rfl (fun ls hl => ?_)
          refine lv_goto (tgt := 40) hx hb dX6_chance_66 (by decide) ?_
          exact ih40 x1 x2 x3 x4 x5 x6_24 M_20 H locs ls (lv_sub hl [1, 2, 3, 4, 5, 6, 0] rfl) hP hS hf
        · replace hf := zI_f c_23 hf
          obtain ⟨x5_25, ex5_25, hf⟩ := zL_o hf
          refine lv_iinc (v := x5_25) (lv' := [(5, .int x5_25), (0, .ref (G.2.2.1 0)), (1, .int x1), (2, .int x2), (3, .int x3), (4, .int x4), (6, .int x6)]) hx hb dX6_chance_60 hl (k := 5) rfl (by rw [ex5_25]; rfl) (by decide) rfl (fun ls hl => ?_)
          obtain ⟨x6_26, ex6_26, hf⟩ := zL_o hf
          refine lv_iinc (v := x6_26) (lv' := [(6, .int x6_26), (5, .int x5_25), (0, .ref (G.2.2.1 0)), (1, .int x1), (2, .int x2), (3, .int x3), (4, .int x4)]) hx hb dX6_chance_63 hl (k := 6) rfl (by rw [ex6_26]; rfl) (by decide) rfl (fun ls hl => ?_)
          refine lv_goto (tgt := 40) hx hb dX6_chance_66 (by decide) ?_
          exact ih40 x1 x2 x3 x4 x5_25 x6_26 M_20 H locs ls (lv_sub hl [2, 3, 4, 5, 6, 1, 0] rfl) hP hS hf
  unfold fX6_chance at hf
  obtain ⟨H, eH⟩ : ∃ H, H = s.heap := ⟨_, rfl⟩
  obtain ⟨locs, el⟩ : ∃ locs : List Loc, locs = [] := ⟨_, rfl⟩
  rw [← eH] at hP ⊢
  have hS : va_S (zA G 23 s.heap.size) s.heap H locs := by rw [eH, el]; exact hS
  rw [← el]
  refine lv_iload_n hx hb dX6_chance_0 rfl (lv_at hl 2 rfl) ?_
  refine lv_iconst (v := (1 : Int32)) hx hb dX6_chance_1 (by decide) ?_
  refine lv_bipush (v := (20 : Int32)) hx hb dX6_chance_2 (by decide) ?_
  obtain ⟨r_3, M_1, hc_2, hf⟩ := zB_o hf
  refine zc_si (As := [.int x2, .int (1 : Int32), .int (20 : Int32)]) (rest := []) C0 hP hS hl.1 (mtX6_within l G hJ x2 (1 : Int32) (20 : Int32) M _ hc_2) ls_X6_88 ds_X6_within (by rw [hRm]; exact ⟨Nat.le_of_ble_eq_true rfl, Nat.le_of_ble_eq_true rfl⟩) rfl rfl (Nat.le_of_ble_eq_true rfl) dX6_chance_4 ⟨Nat.zero_le _, Nat.zero_le _⟩ (fun H locs hP hS => ?_)
  refine lv_if_eq (tgt := 30) hx hb dX6_chance_7 (by decide) (fun c_4 => ?_) (fun c_4 => ?_)
  · replace hf := zI_t c_4 hf
    refine lv_ldc2 (v := (-4611686018427387904 : Int64)) hx hb hown (hts _ mw_587) dX6_chance_30 ?_
    exact ze_l C0 hP hS hf dX6_chance_33 hQ
  · replace hf := zI_f c_4 hf
    refine lv_iload_n hx hb dX6_chance_10 rfl (lv_at hl 3 rfl) ?_
    refine lv_iconst (v := (0 : Int32)) hx hb dX6_chance_11 (by decide) ?_
    refine lv_bipush (v := (99 : Int32)) hx hb dX6_chance_12 (by decide) ?_
    obtain ⟨r_7, M_5, hc_6, hf⟩ := zB_o hf
    refine zc_si (As := [.int x3, .int (0 : Int32), .int (99 : Int32)]) (rest := []) C0 hP hS hl.1 (mtX6_within l G hJ x3 (0 : Int32) (99 : Int32) M_1 _ hc_6) ls_X6_88 ds_X6_within (by rw [hRm]; exact ⟨Nat.le_of_ble_eq_true rfl, Nat.le_of_ble_eq_true rfl⟩) rfl rfl (Nat.le_of_ble_eq_true rfl) dX6_chance_14 ⟨Nat.zero_le _, Nat.zero_le _⟩ (fun H locs hP hS => ?_)
    refine lv_if_eq (tgt := 30) hx hb dX6_chance_17 (by decide) (fun c_8 => ?_) (fun c_8 => ?_)
    · replace hf := zI_t c_8 hf
      refine lv_ldc2 (v := (-4611686018427387904 : Int64)) hx hb hown (hts _ mw_587) dX6_chance_30 ?_
      exact ze_l C0 hP hS hf dX6_chance_33 hQ
    · replace hf := zI_f c_8 hf
      refine lv_iload hx hb dX6_chance_20 (lv_at hl 4 rfl) ?_
      refine lv_iconst (v := (0 : Int32)) hx hb dX6_chance_22 (by decide) ?_
      refine lv_iconst (v := (1 : Int32)) hx hb dX6_chance_23 (by decide) ?_
      obtain ⟨r_11, M_9, hc_10, hf⟩ := zB_o hf
      refine zc_si (As := [.int x4, .int (0 : Int32), .int (1 : Int32)]) (rest := []) C0 hP hS hl.1 (mtX6_within l G hJ x4 (0 : Int32) (1 : Int32) M_5 _ hc_10) ls_X6_88 ds_X6_within (by rw [hRm]; exact ⟨Nat.le_of_ble_eq_true rfl, Nat.le_of_ble_eq_true rfl⟩) rfl rfl (Nat.le_of_ble_eq_true rfl) dX6_chance_24 ⟨Nat.zero_le _, Nat.zero_le _⟩ (fun H locs hP hS => ?_)
      refine lv_if_ne (tgt := 34) hx hb dX6_chance_27 (by decide) (fun c_12 => ?_) (fun c_12 => ?_)
      · replace hf := zI_f c_12 hf
        refine lv_iconst (v := (0 : Int32)) hx hb dX6_chance_34 (by decide) ?_
        refine lv_istore (lv' := [(5, .int (0 : Int32)), (0, .ref (G.2.2.1 0)), (1, .int x1), (2, .int x2), (3, .int x3), (4, .int x4)]) hx hb dX6_chance_35 hl (by decide) rfl (fun ls hl => ?_)
        refine lv_iconst (v := (0 : Int32)) hx hb dX6_chance_37 (by decide) ?_
        refine lv_istore (lv' := [(6, .int (0 : Int32)), (5, .int (0 : Int32)), (0, .ref (G.2.2.1 0)), (1, .int x1), (2, .int x2), (3, .int x3), (4, .int x4)]) hx hb dX6_chance_38 hl (by decide) rfl (fun ls hl => ?_)
        exact L40 zF x1 x2 x3 x4 (0 : Int32) (0 : Int32) M_9 H locs ls (lv_sub hl [2, 3, 4, 5, 6, 1, 0] rfl) hP hS hf
      · replace hf := zI_t c_12 hf
        refine lv_ldc2 (v := (-4611686018427387904 : Int64)) hx hb hown (hts _ mw_587) dX6_chance_30 ?_
        exact ze_l C0 hP hS hf dX6_chance_33 hQ
def fX6_image_B39 (r39 : Int32 → zM → Option (Int32 × zM)) (x1 : Int32) (M : zM) : Option (Int32 × zM) :=
  if (5 : Int32) ≤ x1 then
    some ((M.1 0 2), M)
  else
    zG (zin x1 5) <|
    zG (zin x1 5) <|
    zL (zu M 17 x1.toNatClampNeg (M.1 2 x1.toNatClampNeg)) fun M_9 =>
    zG (zin x1 5) <|
    zG (zin x1 5) <|
    zL (zu M_9 18 x1.toNatClampNeg (M_9.1 3 x1.toNatClampNeg)) fun M_12 =>
    zG (zin x1 5) <|
    zG (zin x1 5) <|
    zL (zu M_12 19 x1.toNatClampNeg (M_12.1 4 x1.toNatClampNeg)) fun M_15 =>
    zL (x1 + (1 : Int32)) fun x1_16 =>
    r39 x1_16 M_15
def fX6_image_L39 : Nat → Int32 → zM → Option (Int32 × zM)
  | 0 => fun _ _ => none
  | j9 + 1 => fX6_image_B39 (fX6_image_L39 j9)
def fX6_image (M : zM) : Option (Int32 × zM) :=
  zL (zu M 0 40 (1 : Int32)) fun M_1 =>
  zL (zu M_1 0 41 (M_1.1 0 2)) fun M_2 =>
  zL (zu M_2 0 42 (M_2.1 0 0)) fun M_3 =>
  zL (zu M_3 0 43 (M_3.1 0 1)) fun M_4 =>
  zL (zu M_4 0 44 (M_4.1 0 7)) fun M_5 =>
  fX6_image_L39 zF (0 : Int32) M_5
set_option maxHeartbeats 4000000 in
set_option maxRecDepth 100000 in
theorem mtX6_image (l : Launch) (G : zGr) (hJ : zJ G 23) (M : zM) (o : Int32 × zM) (hf : fX6_image M = some o) : zMi l G shM 23 yX6_image cX6_image 2 (some .int) 0 0 [.ref (G.2.2.1 0)] M o := by
  intro sz
  refine zOf (by decide) (Nat.le_of_ble_eq_true rfl) ?_
  intro p e R Q s m args below meth c hRm hsz hQ C0 hP hS ls hl
  subst hsz
  replace hRm : R = { frames := 0, cells := 0, slots := 0, locals := 0 } := hRm
  have hl : lv_has ls 2 [(0, .ref (G.2.2.1 0))] := hl
  have hx := C0.1
  have hb := C0.2.1
  have hown := C0.2.2.2.1
  have hts := C0.2.2.2.2.1
  have L39 : ∀ (n39 : Nat), ∀ (x1 : Int32) (M : zM) (H : Heap) (locs : List Loc) (ls : Array Slot), lv_has ls 2 [(0, .ref (G.2.2.1 0)), (1, .int x1)] → va_P G.1 zcl (zw G shM 23 M) H → va_S (zA G 23 s.heap.size) s.heap H locs → fX6_image_L39 n39 x1 M = some o → W p l e R s m args below meth c H locs 0 0 Q (F0 m 39 ls []) := by
    intro n39
    induction n39 with
    | zero => intro x1 M H locs ls hl hP hS hf; exact zn_s (show none = some o from hf)
    | succ n39 ih39 =>
      intro x1 M H locs ls hl hP hS hf
      replace hf : fX6_image_B39 (fX6_image_L39 n39) x1 M = some o := hf
      unfold fX6_image_B39 at hf
      refine lv_iload_n hx hb dX6_image_39 rfl (lv_at hl 1 rfl) ?_
      refine lv_iconst (v := (5 : Int32)) hx hb dX6_image_40 (by decide) ?_
      refine lv_icmp_ge (tgt := 86) hx hb dX6_image_41 (by decide) (fun c_6 => ?_) (fun c_6 => ?_)
      · replace hf := zI_t c_6 hf
        refine lv_aload_n hx hb dX6_image_86 rfl (lv_at hl 0 rfl) ?_
        refine zr_get (C := RX6) (T := TX6) (n := 51) C0 hP 0 (by decide) shM_0 2 rfl (by decide) uw_X6 mw_391 rfl dX6_image_87 ?_
        exact ze_i C0 hP hS hf dX6_image_90 hQ
      · replace hf := zI_f c_6 hf
        refine lv_aload_n hx hb dX6_image_44 rfl (lv_at hl 0 rfl) ?_
        refine zr_getq (C := RX6) (T := TX6) (n := 51) C0 hP 0 (by decide) shM_0 45 17 rfl (by decide) uw_X6 mw_679 rfl dX6_image_45 ?_
        refine lv_iload_n hx hb dX6_image_48 rfl (lv_at hl 1 rfl) ?_
        refine lv_aload_n hx hb dX6_image_49 rfl (lv_at hl 0 rfl) ?_
        refine zr_getq (C := RX6) (T := TX6) (n := 51) C0 hP 0 (by decide) shM_0 4 2 rfl (by decide) uw_X6 mw_402 rfl dX6_image_50 ?_
        refine lv_iload_n hx hb dX6_image_53 rfl (lv_at hl 1 rfl) ?_
        obtain ⟨hg_7, hf⟩ := zG_o hf
        refine zr_iald C0 hP 2 (by decide) shM_2 hg_7 dX6_image_54 ?_
        obtain ⟨hg_8, hf⟩ := zG_o hf
        refine zr_iast C0 hJ hP hS 17 (by decide) shM_17 hg_8 dX6_image_55 (fun H locs hP hS => ?_)
        obtain ⟨M_9, eM_9, hf⟩ := zL_o hf
        have hP : va_P G.1 zcl (zw G shM 23 M_9) H := by rw [eM_9]; exact hP
        refine lv_aload_n hx hb dX6_image_56 rfl (lv_at hl 0 rfl) ?_
        refine zr_getq (C := RX6) (T := TX6) (n := 51) C0 hP 0 (by decide) shM_0 46 18 rfl (by decide) uw_X6 mw_680 rfl dX6_image_57 ?_
        refine lv_iload_n hx hb dX6_image_60 rfl (lv_at hl 1 rfl) ?_
        refine lv_aload_n hx hb dX6_image_61 rfl (lv_at hl 0 rfl) ?_
        refine zr_getq (C := RX6) (T := TX6) (n := 51) C0 hP 0 (by decide) shM_0 5 3 rfl (by decide) uw_X6 mw_403 rfl dX6_image_62 ?_
        refine lv_iload_n hx hb dX6_image_65 rfl (lv_at hl 1 rfl) ?_
        obtain ⟨hg_10, hf⟩ := zG_o hf
        refine zr_iald C0 hP 3 (by decide) shM_3 hg_10 dX6_image_66 ?_
        obtain ⟨hg_11, hf⟩ := zG_o hf
        refine zr_iast C0 hJ hP hS 18 (by decide) shM_18 hg_11 dX6_image_67 (fun H locs hP hS => ?_)
        obtain ⟨M_12, eM_12, hf⟩ := zL_o hf
        have hP : va_P G.1 zcl (zw G shM 23 M_12) H := by rw [eM_12]; exact hP
        refine lv_aload_n hx hb dX6_image_68 rfl (lv_at hl 0 rfl) ?_
        refine zr_getq (C := RX6) (T := TX6) (n := 51) C0 hP 0 (by decide) shM_0 47 19 rfl (by decide) uw_X6 mw_681 rfl dX6_image_69 ?_
        refine lv_iload_n hx hb dX6_image_72 rfl (lv_at hl 1 rfl) ?_
        refine lv_aload_n hx hb dX6_image_73 rfl (lv_at hl 0 rfl) ?_
        refine zr_getq (C := RX6) (T := TX6) (n := 51) C0 hP 0 (by decide) shM_0 6 4 rfl (by decide) uw_X6 mw_404 rfl dX6_image_74 ?_
        refine lv_iload_n hx hb dX6_image_77 rfl (lv_at hl 1 rfl) ?_
        obtain ⟨hg_13, hf⟩ := zG_o hf
        refine zr_iald C0 hP 4 (by decide) shM_4 hg_13 dX6_image_78 ?_
        obtain ⟨hg_14, hf⟩ := zG_o hf
        refine zr_iast C0 hJ hP hS 19 (by decide) shM_19 hg_14 dX6_image_79 (fun H locs hP hS => ?_)
        obtain ⟨M_15, eM_15, hf⟩ := zL_o hf
        have hP : va_P G.1 zcl (zw G shM 23 M_15) H := by rw [eM_15]; exact hP
        obtain ⟨x1_16, ex1_16, hf⟩ := zL_o hf
        refine lv_iinc (v := x1_16) (lv' := [(1, .int x1_16), (0, .ref (G.2.2.1 0))]) hx hb dX6_image_80 hl (k := 1) rfl (by rw [ex1_16]; rfl) (by decide) rfl (fun ls hl => ?_)
        refine lv_goto (tgt := 39) hx hb dX6_image_83 (by decide) ?_
        exact ih39 x1_16 M_15 H locs ls (lv_sub hl [1, 0] rfl) hP hS hf
  unfold fX6_image at hf
  obtain ⟨H, eH⟩ : ∃ H, H = s.heap := ⟨_, rfl⟩
  obtain ⟨locs, el⟩ : ∃ locs : List Loc, locs = [] := ⟨_, rfl⟩
  rw [← eH] at hP ⊢
  have hS : va_S (zA G 23 s.heap.size) s.heap H locs := by rw [eH, el]; exact hS
  rw [← el]
  refine lv_aload_n hx hb dX6_image_0 rfl (lv_at hl 0 rfl) ?_
  refine lv_iconst (v := (1 : Int32)) hx hb dX6_image_1 (by decide) ?_
  refine zr_put (C := RX6) (T := TX6) (n := 51) C0 hJ hP hS 0 (by decide) shM_0 40 rfl (by decide) uw_X6 tyX6 tyX6_ok nmX6 mw_674 rfl rfl (zbo_i (by decide)) dX6_image_2 (fun H locs hP hS => ?_)
  obtain ⟨M_1, eM_1, hf⟩ := zL_o hf
  have hP : va_P G.1 zcl (zw G shM 23 M_1) H := by rw [eM_1]; exact hP
  refine lv_aload_n hx hb dX6_image_5 rfl (lv_at hl 0 rfl) ?_
  refine lv_aload_n hx hb dX6_image_6 rfl (lv_at hl 0 rfl) ?_
  refine zr_get (C := RX6) (T := TX6) (n := 51) C0 hP 0 (by decide) shM_0 2 rfl (by decide) uw_X6 mw_391 rfl dX6_image_7 ?_
  refine zr_put (C := RX6) (T := TX6) (n := 51) C0 hJ hP hS 0 (by decide) shM_0 41 rfl (by decide) uw_X6 tyX6 tyX6_ok nmX6 mw_675 rfl rfl ⟨rfl, rfl⟩ dX6_image_10 (fun H locs hP hS => ?_)
  obtain ⟨M_2, eM_2, hf⟩ := zL_o hf
  have hP : va_P G.1 zcl (zw G shM 23 M_2) H := by rw [eM_2]; exact hP
  refine lv_aload_n hx hb dX6_image_13 rfl (lv_at hl 0 rfl) ?_
  refine lv_aload_n hx hb dX6_image_14 rfl (lv_at hl 0 rfl) ?_
  refine zr_get (C := RX6) (T := TX6) (n := 51) C0 hP 0 (by decide) shM_0 0 rfl (by decide) uw_X6 mw_400 rfl dX6_image_15 ?_
  refine zr_put (C := RX6) (T := TX6) (n := 51) C0 hJ hP hS 0 (by decide) shM_0 42 rfl (by decide) uw_X6 tyX6 tyX6_ok nmX6 mw_676 rfl rfl ⟨rfl, rfl⟩ dX6_image_18 (fun H locs hP hS => ?_)
  obtain ⟨M_3, eM_3, hf⟩ := zL_o hf
  have hP : va_P G.1 zcl (zw G shM 23 M_3) H := by rw [eM_3]; exact hP
  refine lv_aload_n hx hb dX6_image_21 rfl (lv_at hl 0 rfl) ?_
  refine lv_aload_n hx hb dX6_image_22 rfl (lv_at hl 0 rfl) ?_
  refine zr_get (C := RX6) (T := TX6) (n := 51) C0 hP 0 (by decide) shM_0 1 rfl (by decide) uw_X6 mw_401 rfl dX6_image_23 ?_
  refine zr_put (C := RX6) (T := TX6) (n := 51) C0 hJ hP hS 0 (by decide) shM_0 43 rfl (by decide) uw_X6 tyX6 tyX6_ok nmX6 mw_677 rfl rfl ⟨rfl, rfl⟩ dX6_image_26 (fun H locs hP hS => ?_)
  obtain ⟨M_4, eM_4, hf⟩ := zL_o hf
  have hP : va_P G.1 zcl (zw G shM 23 M_4) H := by rw [eM_4]; exact hP
  refine lv_aload_n hx hb dX6_image_29 rfl (lv_at hl 0 rfl) ?_
  refine lv_aload_n hx hb dX6_image_30 rfl (lv_at hl 0 rfl) ?_
  refine zr_get (C := RX6) (T := TX6) (n := 51) C0 hP 0 (by decide) shM_0 7 rfl (by decide) uw_X6 mw_415 rfl dX6_image_31 ?_
  refine zr_put (C := RX6) (T := TX6) (n := 51) C0 hJ hP hS 0 (by decide) shM_0 44 rfl (by decide) uw_X6 tyX6 tyX6_ok nmX6 mw_678 rfl rfl ⟨rfl, rfl⟩ dX6_image_34 (fun H locs hP hS => ?_)
  obtain ⟨M_5, eM_5, hf⟩ := zL_o hf
  have hP : va_P G.1 zcl (zw G shM 23 M_5) H := by rw [eM_5]; exact hP
  refine lv_iconst (v := (0 : Int32)) hx hb dX6_image_37 (by decide) ?_
  refine lv_istore_n (lv' := [(1, .int (0 : Int32)), (0, .ref (G.2.2.1 0))]) hx hb dX6_image_38 rfl hl (by decide) rfl (fun ls hl => ?_)
  exact L39 zF (0 : Int32) M_5 H locs ls (lv_sub hl [1, 0] rfl) hP hS hf
def fX6_back_B44 (r44 : Int32 → zM → Option (Int32 × zM)) (x1 : Int32) (M : zM) : Option (Int32 × zM) :=
  if (5 : Int32) ≤ x1 then
    some ((M.1 0 2), M)
  else
    zG (zin x1 5) <|
    zG (zin x1 5) <|
    zL (zu M 2 x1.toNatClampNeg (M.1 17 x1.toNatClampNeg)) fun M_9 =>
    zG (zin x1 5) <|
    zG (zin x1 5) <|
    zL (zu M_9 3 x1.toNatClampNeg (M_9.1 18 x1.toNatClampNeg)) fun M_12 =>
    zG (zin x1 5) <|
    zG (zin x1 5) <|
    zL (zu M_12 4 x1.toNatClampNeg (M_12.1 19 x1.toNatClampNeg)) fun M_15 =>
    zL (x1 + (1 : Int32)) fun x1_16 =>
    r44 x1_16 M_15
def fX6_back_L44 : Nat → Int32 → zM → Option (Int32 × zM)
  | 0 => fun _ _ => none
  | j9 + 1 => fX6_back_B44 (fX6_back_L44 j9)
def fX6_back (M : zM) : Option (Int32 × zM) :=
  if (M.1 0 40) = (0 : Int32) then
    some ((-3 : Int32), M)
  else
    zL (zu M 0 2 (M.1 0 41)) fun M_2 =>
    zL (zu M_2 0 0 (M_2.1 0 42)) fun M_3 =>
    zL (zu M_3 0 1 (M_3.1 0 43)) fun M_4 =>
    zL (zu M_4 0 7 (M_4.1 0 44)) fun M_5 =>
    fX6_back_L44 zF (0 : Int32) M_5
set_option maxHeartbeats 4000000 in
set_option maxRecDepth 100000 in
theorem mtX6_back (l : Launch) (G : zGr) (hJ : zJ G 23) (M : zM) (o : Int32 × zM) (hf : fX6_back M = some o) : zMi l G shM 23 yX6_back cX6_back 2 (some .int) 0 0 [.ref (G.2.2.1 0)] M o := by
  intro sz
  refine zOf (by decide) (Nat.le_of_ble_eq_true rfl) ?_
  intro p e R Q s m args below meth c hRm hsz hQ C0 hP hS ls hl
  subst hsz
  replace hRm : R = { frames := 0, cells := 0, slots := 0, locals := 0 } := hRm
  have hl : lv_has ls 2 [(0, .ref (G.2.2.1 0))] := hl
  have hx := C0.1
  have hb := C0.2.1
  have hown := C0.2.2.2.1
  have hts := C0.2.2.2.2.1
  have L44 : ∀ (n44 : Nat), ∀ (x1 : Int32) (M : zM) (H : Heap) (locs : List Loc) (ls : Array Slot), lv_has ls 2 [(0, .ref (G.2.2.1 0)), (1, .int x1)] → va_P G.1 zcl (zw G shM 23 M) H → va_S (zA G 23 s.heap.size) s.heap H locs → fX6_back_L44 n44 x1 M = some o → W p l e R s m args below meth c H locs 0 0 Q (F0 m 44 ls []) := by
    intro n44
    induction n44 with
    | zero => intro x1 M H locs ls hl hP hS hf; exact zn_s (show none = some o from hf)
    | succ n44 ih44 =>
      intro x1 M H locs ls hl hP hS hf
      replace hf : fX6_back_B44 (fX6_back_L44 n44) x1 M = some o := hf
      unfold fX6_back_B44 at hf
      refine lv_iload_n hx hb dX6_back_44 rfl (lv_at hl 1 rfl) ?_
      refine lv_iconst (v := (5 : Int32)) hx hb dX6_back_45 (by decide) ?_
      refine lv_icmp_ge (tgt := 91) hx hb dX6_back_46 (by decide) (fun c_6 => ?_) (fun c_6 => ?_)
      · replace hf := zI_t c_6 hf
        refine lv_aload_n hx hb dX6_back_91 rfl (lv_at hl 0 rfl) ?_
        refine zr_get (C := RX6) (T := TX6) (n := 51) C0 hP 0 (by decide) shM_0 2 rfl (by decide) uw_X6 mw_391 rfl dX6_back_92 ?_
        exact ze_i C0 hP hS hf dX6_back_95 hQ
      · replace hf := zI_f c_6 hf
        refine lv_aload_n hx hb dX6_back_49 rfl (lv_at hl 0 rfl) ?_
        refine zr_getq (C := RX6) (T := TX6) (n := 51) C0 hP 0 (by decide) shM_0 4 2 rfl (by decide) uw_X6 mw_402 rfl dX6_back_50 ?_
        refine lv_iload_n hx hb dX6_back_53 rfl (lv_at hl 1 rfl) ?_
        refine lv_aload_n hx hb dX6_back_54 rfl (lv_at hl 0 rfl) ?_
        refine zr_getq (C := RX6) (T := TX6) (n := 51) C0 hP 0 (by decide) shM_0 45 17 rfl (by decide) uw_X6 mw_679 rfl dX6_back_55 ?_
        refine lv_iload_n hx hb dX6_back_58 rfl (lv_at hl 1 rfl) ?_
        obtain ⟨hg_7, hf⟩ := zG_o hf
        refine zr_iald C0 hP 17 (by decide) shM_17 hg_7 dX6_back_59 ?_
        obtain ⟨hg_8, hf⟩ := zG_o hf
        refine zr_iast C0 hJ hP hS 2 (by decide) shM_2 hg_8 dX6_back_60 (fun H locs hP hS => ?_)
        obtain ⟨M_9, eM_9, hf⟩ := zL_o hf
        have hP : va_P G.1 zcl (zw G shM 23 M_9) H := by rw [eM_9]; exact hP
        refine lv_aload_n hx hb dX6_back_61 rfl (lv_at hl 0 rfl) ?_
        refine zr_getq (C := RX6) (T := TX6) (n := 51) C0 hP 0 (by decide) shM_0 5 3 rfl (by decide) uw_X6 mw_403 rfl dX6_back_62 ?_
        refine lv_iload_n hx hb dX6_back_65 rfl (lv_at hl 1 rfl) ?_
        refine lv_aload_n hx hb dX6_back_66 rfl (lv_at hl 0 rfl) ?_
        refine zr_getq (C := RX6) (T := TX6) (n := 51) C0 hP 0 (by decide) shM_0 46 18 rfl (by decide) uw_X6 mw_680 rfl dX6_back_67 ?_
        refine lv_iload_n hx hb dX6_back_70 rfl (lv_at hl 1 rfl) ?_
        obtain ⟨hg_10, hf⟩ := zG_o hf
        refine zr_iald C0 hP 18 (by decide) shM_18 hg_10 dX6_back_71 ?_
        obtain ⟨hg_11, hf⟩ := zG_o hf
        refine zr_iast C0 hJ hP hS 3 (by decide) shM_3 hg_11 dX6_back_72 (fun H locs hP hS => ?_)
        obtain ⟨M_12, eM_12, hf⟩ := zL_o hf
        have hP : va_P G.1 zcl (zw G shM 23 M_12) H := by rw [eM_12]; exact hP
        refine lv_aload_n hx hb dX6_back_73 rfl (lv_at hl 0 rfl) ?_
        refine zr_getq (C := RX6) (T := TX6) (n := 51) C0 hP 0 (by decide) shM_0 6 4 rfl (by decide) uw_X6 mw_404 rfl dX6_back_74 ?_
        refine lv_iload_n hx hb dX6_back_77 rfl (lv_at hl 1 rfl) ?_
        refine lv_aload_n hx hb dX6_back_78 rfl (lv_at hl 0 rfl) ?_
        refine zr_getq (C := RX6) (T := TX6) (n := 51) C0 hP 0 (by decide) shM_0 47 19 rfl (by decide) uw_X6 mw_681 rfl dX6_back_79 ?_
        refine lv_iload_n hx hb dX6_back_82 rfl (lv_at hl 1 rfl) ?_
        obtain ⟨hg_13, hf⟩ := zG_o hf
        refine zr_iald C0 hP 19 (by decide) shM_19 hg_13 dX6_back_83 ?_
        obtain ⟨hg_14, hf⟩ := zG_o hf
        refine zr_iast C0 hJ hP hS 4 (by decide) shM_4 hg_14 dX6_back_84 (fun H locs hP hS => ?_)
        obtain ⟨M_15, eM_15, hf⟩ := zL_o hf
        have hP : va_P G.1 zcl (zw G shM 23 M_15) H := by rw [eM_15]; exact hP
        obtain ⟨x1_16, ex1_16, hf⟩ := zL_o hf
        refine lv_iinc (v := x1_16) (lv' := [(1, .int x1_16), (0, .ref (G.2.2.1 0))]) hx hb dX6_back_85 hl (k := 1) rfl (by rw [ex1_16]; rfl) (by decide) rfl (fun ls hl => ?_)
        refine lv_goto (tgt := 44) hx hb dX6_back_88 (by decide) ?_
        exact ih44 x1_16 M_15 H locs ls (lv_sub hl [1, 0] rfl) hP hS hf
  unfold fX6_back at hf
  obtain ⟨H, eH⟩ : ∃ H, H = s.heap := ⟨_, rfl⟩
  obtain ⟨locs, el⟩ : ∃ locs : List Loc, locs = [] := ⟨_, rfl⟩
  rw [← eH] at hP ⊢
  have hS : va_S (zA G 23 s.heap.size) s.heap H locs := by rw [eH, el]; exact hS
  rw [← el]
  refine lv_aload_n hx hb dX6_back_0 rfl (lv_at hl 0 rfl) ?_
  refine zr_get (C := RX6) (T := TX6) (n := 51) C0 hP 0 (by decide) shM_0 40 rfl (by decide) uw_X6 mw_674 rfl dX6_back_1 ?_
  refine lv_if_ne (tgt := 10) hx hb dX6_back_4 (by decide) (fun c_1 => ?_) (fun c_1 => ?_)
  · replace hf := zI_f c_1 hf
    refine lv_aload_n hx hb dX6_back_10 rfl (lv_at hl 0 rfl) ?_
    refine lv_aload_n hx hb dX6_back_11 rfl (lv_at hl 0 rfl) ?_
    refine zr_get (C := RX6) (T := TX6) (n := 51) C0 hP 0 (by decide) shM_0 41 rfl (by decide) uw_X6 mw_675 rfl dX6_back_12 ?_
    refine zr_put (C := RX6) (T := TX6) (n := 51) C0 hJ hP hS 0 (by decide) shM_0 2 rfl (by decide) uw_X6 tyX6 tyX6_ok nmX6 mw_391 rfl rfl ⟨rfl, rfl⟩ dX6_back_15 (fun H locs hP hS => ?_)
    obtain ⟨M_2, eM_2, hf⟩ := zL_o hf
    have hP : va_P G.1 zcl (zw G shM 23 M_2) H := by rw [eM_2]; exact hP
    refine lv_aload_n hx hb dX6_back_18 rfl (lv_at hl 0 rfl) ?_
    refine lv_aload_n hx hb dX6_back_19 rfl (lv_at hl 0 rfl) ?_
    refine zr_get (C := RX6) (T := TX6) (n := 51) C0 hP 0 (by decide) shM_0 42 rfl (by decide) uw_X6 mw_676 rfl dX6_back_20 ?_
    refine zr_put (C := RX6) (T := TX6) (n := 51) C0 hJ hP hS 0 (by decide) shM_0 0 rfl (by decide) uw_X6 tyX6 tyX6_ok nmX6 mw_400 rfl rfl ⟨rfl, rfl⟩ dX6_back_23 (fun H locs hP hS => ?_)
    obtain ⟨M_3, eM_3, hf⟩ := zL_o hf
    have hP : va_P G.1 zcl (zw G shM 23 M_3) H := by rw [eM_3]; exact hP
    refine lv_aload_n hx hb dX6_back_26 rfl (lv_at hl 0 rfl) ?_
    refine lv_aload_n hx hb dX6_back_27 rfl (lv_at hl 0 rfl) ?_
    refine zr_get (C := RX6) (T := TX6) (n := 51) C0 hP 0 (by decide) shM_0 43 rfl (by decide) uw_X6 mw_677 rfl dX6_back_28 ?_
    refine zr_put (C := RX6) (T := TX6) (n := 51) C0 hJ hP hS 0 (by decide) shM_0 1 rfl (by decide) uw_X6 tyX6 tyX6_ok nmX6 mw_401 rfl rfl ⟨rfl, rfl⟩ dX6_back_31 (fun H locs hP hS => ?_)
    obtain ⟨M_4, eM_4, hf⟩ := zL_o hf
    have hP : va_P G.1 zcl (zw G shM 23 M_4) H := by rw [eM_4]; exact hP
    refine lv_aload_n hx hb dX6_back_34 rfl (lv_at hl 0 rfl) ?_
    refine lv_aload_n hx hb dX6_back_35 rfl (lv_at hl 0 rfl) ?_
    refine zr_get (C := RX6) (T := TX6) (n := 51) C0 hP 0 (by decide) shM_0 44 rfl (by decide) uw_X6 mw_678 rfl dX6_back_36 ?_
    refine zr_put (C := RX6) (T := TX6) (n := 51) C0 hJ hP hS 0 (by decide) shM_0 7 rfl (by decide) uw_X6 tyX6 tyX6_ok nmX6 mw_415 rfl rfl ⟨rfl, rfl⟩ dX6_back_39 (fun H locs hP hS => ?_)
    obtain ⟨M_5, eM_5, hf⟩ := zL_o hf
    have hP : va_P G.1 zcl (zw G shM 23 M_5) H := by rw [eM_5]; exact hP
    refine lv_iconst (v := (0 : Int32)) hx hb dX6_back_42 (by decide) ?_
    refine lv_istore_n (lv' := [(1, .int (0 : Int32)), (0, .ref (G.2.2.1 0))]) hx hb dX6_back_43 rfl hl (by decide) rfl (fun ls hl => ?_)
    exact L44 zF (0 : Int32) M_5 H locs ls (lv_sub hl [1, 0] rfl) hP hS hf
  · replace hf := zI_t c_1 hf
    refine lv_bipush (v := (-3 : Int32)) hx hb dX6_back_7 (by decide) ?_
    exact ze_i C0 hP hS hf dX6_back_9 hQ
def fX6_count (x1 : Int32) (M : zM) : Option (Int32 × zM) :=
  if x1 = (0 : Int32) then
    some ((M.1 0 2), M)
  else
    if x1 = (1 : Int32) then
      some ((M.1 0 0), M)
    else
      if x1 = (2 : Int32) then
        zB (fX6_allRue M) fun r_6 M_4 =>
        some (r_6, M_4)
      else
        if x1 = (3 : Int32) then
          some ((M.1 0 10), M)
        else
          if x1 = (4 : Int32) then
            some ((M.1 0 8), M)
          else
            if x1 = (5 : Int32) then
              some ((M.1 0 7), M)
            else
              some ((-2 : Int32), M)
set_option maxHeartbeats 4000000 in
set_option maxRecDepth 100000 in
theorem mtX6_count (l : Launch) (G : zGr) (hJ : zJ G 23) (x1 : Int32) (M : zM) (o : Int32 × zM) (hf : fX6_count x1 M = some o) : zMi l G shM 23 yX6_count cX6_count 2 (some .int) 1 22 [.ref (G.2.2.1 0), .int x1] M o := by
  intro sz
  refine zOf (by decide) (Nat.le_of_ble_eq_true rfl) ?_
  intro p e R Q s m args below meth c hRm hsz hQ C0 hP hS ls hl
  subst hsz
  replace hRm : R = { frames := 1, cells := 0, slots := 0, locals := 22 } := hRm
  have hl : lv_has ls 2 [(0, .ref (G.2.2.1 0)), (1, .int x1)] := hl
  have hx := C0.1
  have hb := C0.2.1
  have hown := C0.2.2.2.1
  have hts := C0.2.2.2.2.1
  unfold fX6_count at hf
  obtain ⟨H, eH⟩ : ∃ H, H = s.heap := ⟨_, rfl⟩
  obtain ⟨locs, el⟩ : ∃ locs : List Loc, locs = [] := ⟨_, rfl⟩
  rw [← eH] at hP ⊢
  have hS : va_S (zA G 23 s.heap.size) s.heap H locs := by rw [eH, el]; exact hS
  rw [← el]
  refine lv_iload_n hx hb dX6_count_0 rfl (lv_at hl 1 rfl) ?_
  refine if c_1 : x1 = (0 : Int32) then ?_ else ?_
  · replace hf := zI_t c_1 hf
    refine lv_tableIn (tgt := 40) hx hb dX6_count_1 (by rw [c_1]; decide) (by rw [c_1]; decide) (off := 39) (by rw [c_1]; decide) (by decide) ?_
    refine lv_aload_n hx hb dX6_count_40 rfl (lv_at hl 0 rfl) ?_
    refine zr_get (C := RX6) (T := TX6) (n := 51) C0 hP 0 (by decide) shM_0 2 rfl (by decide) uw_X6 mw_391 rfl dX6_count_41 ?_
    exact ze_i C0 hP hS hf dX6_count_44 hQ
  · replace hf := zI_f c_1 hf
    refine if c_2 : x1 = (1 : Int32) then ?_ else ?_
    · replace hf := zI_t c_2 hf
      refine lv_tableIn (tgt := 45) hx hb dX6_count_1 (by rw [c_2]; decide) (by rw [c_2]; decide) (off := 44) (by rw [c_2]; decide) (by decide) ?_
      refine lv_aload_n hx hb dX6_count_45 rfl (lv_at hl 0 rfl) ?_
      refine zr_get (C := RX6) (T := TX6) (n := 51) C0 hP 0 (by decide) shM_0 0 rfl (by decide) uw_X6 mw_400 rfl dX6_count_46 ?_
      exact ze_i C0 hP hS hf dX6_count_49 hQ
    · replace hf := zI_f c_2 hf
      refine if c_3 : x1 = (2 : Int32) then ?_ else ?_
      · replace hf := zI_t c_3 hf
        refine lv_tableIn (tgt := 50) hx hb dX6_count_1 (by rw [c_3]; decide) (by rw [c_3]; decide) (off := 49) (by rw [c_3]; decide) (by decide) ?_
        refine lv_aload_n hx hb dX6_count_50 rfl (lv_at hl 0 rfl) ?_
        obtain ⟨r_6, M_4, hc_5, hf⟩ := zB_o hf
        refine zc_vi (As := []) (rest := []) C0 hP hS hl.1 0 (mtX6_allRue l G hJ M _ hc_5) lk_X6_233 (by decide) shM_0 (T := TX6) (n' := 51) rfl ds_X6_allRue (by rw [hRm]; exact ⟨Nat.le_of_ble_eq_true rfl, Nat.le_of_ble_eq_true rfl⟩) rfl rfl (Nat.le_of_ble_eq_true rfl) dX6_count_51 ⟨Nat.zero_le _, Nat.zero_le _⟩ (fun H locs hP hS => ?_)
        exact ze_i C0 hP hS hf dX6_count_54 hQ
      · replace hf := zI_f c_3 hf
        refine if c_7 : x1 = (3 : Int32) then ?_ else ?_
        · replace hf := zI_t c_7 hf
          refine lv_tableIn (tgt := 55) hx hb dX6_count_1 (by rw [c_7]; decide) (by rw [c_7]; decide) (off := 54) (by rw [c_7]; decide) (by decide) ?_
          refine lv_aload_n hx hb dX6_count_55 rfl (lv_at hl 0 rfl) ?_
          refine zr_get (C := RX6) (T := TX6) (n := 51) C0 hP 0 (by decide) shM_0 10 rfl (by decide) uw_X6 mw_524 rfl dX6_count_56 ?_
          exact ze_i C0 hP hS hf dX6_count_59 hQ
        · replace hf := zI_f c_7 hf
          refine if c_8 : x1 = (4 : Int32) then ?_ else ?_
          · replace hf := zI_t c_8 hf
            refine lv_tableIn (tgt := 60) hx hb dX6_count_1 (by rw [c_8]; decide) (by rw [c_8]; decide) (off := 59) (by rw [c_8]; decide) (by decide) ?_
            refine lv_aload_n hx hb dX6_count_60 rfl (lv_at hl 0 rfl) ?_
            refine zr_get (C := RX6) (T := TX6) (n := 51) C0 hP 0 (by decide) shM_0 8 rfl (by decide) uw_X6 mw_454 rfl dX6_count_61 ?_
            exact ze_i C0 hP hS hf dX6_count_64 hQ
          · replace hf := zI_f c_8 hf
            refine if c_9 : x1 = (5 : Int32) then ?_ else ?_
            · replace hf := zI_t c_9 hf
              refine lv_tableIn (tgt := 65) hx hb dX6_count_1 (by rw [c_9]; decide) (by rw [c_9]; decide) (off := 64) (by rw [c_9]; decide) (by decide) ?_
              refine lv_aload_n hx hb dX6_count_65 rfl (lv_at hl 0 rfl) ?_
              refine zr_get (C := RX6) (T := TX6) (n := 51) C0 hP 0 (by decide) shM_0 7 rfl (by decide) uw_X6 mw_415 rfl dX6_count_66 ?_
              exact ze_i C0 hP hS hf dX6_count_69 hQ
            · replace hf := zI_f c_9 hf
              have tc_1 := lv_neT (a := 0) c_1 (by decide)
              have tc_2 := lv_neT (a := 1) c_2 (by decide)
              have tc_3 := lv_neT (a := 2) c_3 (by decide)
              have tc_7 := lv_neT (a := 3) c_7 (by decide)
              have tc_8 := lv_neT (a := 4) c_8 (by decide)
              have tc_9 := lv_neT (a := 5) c_9 (by decide)
              refine lv_tableOut (tgt := 70) hx hb dX6_count_1 (by omega) (by decide) ?_
              refine lv_bipush (v := (-2 : Int32)) hx hb dX6_count_70 (by decide) ?_
              exact ze_i C0 hP hS hf dX6_count_72 hQ
def fX6_cell (x1 : Int32) (x2 : Int32) (x3 : Int32) (M : zM) : Option (Int32 × zM) :=
  zB (fX6_isSheet x1 M) fun r_3 M_1 =>
  if r_3 = (0 : Int32) then
    some ((-2 : Int32), M_1)
  else
    zG (zin x1 4) <|
    if (0 : Int32) ≤ (M_1.1 20 x1.toNatClampNeg) then
      zG (zin x1 4) <|
      zB (fX6_within x2 (0 : Int32) ((M_1.1 21 x1.toNatClampNeg) - (1 : Int32)) M_1) fun r_10 M_8 =>
      if r_10 = (0 : Int32) then
        some ((-12 : Int32), M_8)
      else
        zG (zin x1 4) <|
        if (M_8.1 20 x1.toNatClampNeg) = (0 : Int32) then
          zG (zin (((40 : Int32) * x1) + x2) 160) <|
          zL (zu M_8 22 (((40 : Int32) * x1) + x2).toNatClampNeg (zi2b x3)) fun M_21 =>
          some ((1 : Int32), M_21)
        else
          zG (zin x1 4) <|
          if (M_8.1 20 x1.toNatClampNeg) = (1 : Int32) then
            zG (zin (((40 : Int32) * x1) + x2) 160) <|
            zL (zu M_8 22 (((40 : Int32) * x1) + x2).toNatClampNeg (zi2s x3)) fun M_19 =>
            some ((1 : Int32), M_19)
          else
            zG (zin (((40 : Int32) * x1) + x2) 160) <|
            zL (zu M_8 22 (((40 : Int32) * x1) + x2).toNatClampNeg x3) fun M_17 =>
            some ((1 : Int32), M_17)
    else
      some ((-11 : Int32), M_1)
set_option maxHeartbeats 4000000 in
set_option maxRecDepth 100000 in
theorem mtX6_cell (l : Launch) (G : zGr) (hJ : zJ G 23) (x1 : Int32) (x2 : Int32) (x3 : Int32) (M : zM) (o : Int32 × zM) (hf : fX6_cell x1 x2 x3 M = some o) : zMi l G shM 23 yX6_cell cX6_cell 4 (some .int) 2 42 [.ref (G.2.2.1 0), .int x1, .int x2, .int x3] M o := by
  intro sz
  refine zOf (by decide) (Nat.le_of_ble_eq_true rfl) ?_
  intro p e R Q s m args below meth c hRm hsz hQ C0 hP hS ls hl
  subst hsz
  replace hRm : R = { frames := 2, cells := 0, slots := 0, locals := 42 } := hRm
  have hl : lv_has ls 4 [(0, .ref (G.2.2.1 0)), (1, .int x1), (2, .int x2), (3, .int x3)] := hl
  have hx := C0.1
  have hb := C0.2.1
  have hown := C0.2.2.2.1
  have hts := C0.2.2.2.2.1
  unfold fX6_cell at hf
  obtain ⟨H, eH⟩ : ∃ H, H = s.heap := ⟨_, rfl⟩
  obtain ⟨locs, el⟩ : ∃ locs : List Loc, locs = [] := ⟨_, rfl⟩
  rw [← eH] at hP ⊢
  have hS : va_S (zA G 23 s.heap.size) s.heap H locs := by rw [eH, el]; exact hS
  rw [← el]
  refine lv_iload_n hx hb dX6_cell_0 rfl (lv_at hl 1 rfl) ?_
  obtain ⟨r_3, M_1, hc_2, hf⟩ := zB_o hf
  refine zc_si (As := [.int x1]) (rest := []) C0 hP hS hl.1 (mtX6_isSheet l G hJ x1 M _ hc_2) ls_X6_325 ds_X6_isSheet (by rw [hRm]; exact ⟨Nat.le_of_ble_eq_true rfl, Nat.le_of_ble_eq_true rfl⟩) rfl rfl (Nat.le_of_ble_eq_true rfl) dX6_cell_1 ⟨Nat.zero_le _, Nat.zero_le _⟩ (fun H locs hP hS => ?_)
  refine lv_if_ne (tgt := 10) hx hb dX6_cell_4 (by decide) (fun c_4 => ?_) (fun c_4 => ?_)
  · replace hf := zI_f c_4 hf
    refine lv_aload_n hx hb dX6_cell_10 rfl (lv_at hl 0 rfl) ?_
    refine zr_getq (C := RX6) (T := TX6) (n := 51) C0 hP 0 (by decide) shM_0 48 20 rfl (by decide) uw_X6 mw_640 rfl dX6_cell_11 ?_
    refine lv_iload_n hx hb dX6_cell_14 rfl (lv_at hl 1 rfl) ?_
    obtain ⟨hg_5, hf⟩ := zG_o hf
    refine zr_iald C0 hP 20 (by decide) shM_20 hg_5 dX6_cell_15 ?_
    refine lv_if_ge (tgt := 22) hx hb dX6_cell_16 (by decide) (fun c_6 => ?_) (fun c_6 => ?_)
    · replace hf := zI_t c_6 hf
      refine lv_iload_n hx hb dX6_cell_22 rfl (lv_at hl 2 rfl) ?_
      refine lv_iconst (v := (0 : Int32)) hx hb dX6_cell_23 (by decide) ?_
      refine lv_aload_n hx hb dX6_cell_24 rfl (lv_at hl 0 rfl) ?_
      refine zr_getq (C := RX6) (T := TX6) (n := 51) C0 hP 0 (by decide) shM_0 49 21 rfl (by decide) uw_X6 mw_627 rfl dX6_cell_25 ?_
      refine lv_iload_n hx hb dX6_cell_28 rfl (lv_at hl 1 rfl) ?_
      obtain ⟨hg_7, hf⟩ := zG_o hf
      refine zr_iald C0 hP 21 (by decide) shM_21 hg_7 dX6_cell_29 ?_
      refine lv_iconst (v := (1 : Int32)) hx hb dX6_cell_30 (by decide) ?_
      refine lv_isub hx hb dX6_cell_31 ?_
      obtain ⟨r_10, M_8, hc_9, hf⟩ := zB_o hf
      refine zc_si (As := [.int x2, .int (0 : Int32), .int ((M_1.1 21 x1.toNatClampNeg) - (1 : Int32))]) (rest := []) C0 hP hS hl.1 (mtX6_within l G hJ x2 (0 : Int32) ((M_1.1 21 x1.toNatClampNeg) - (1 : Int32)) M_1 _ hc_9) ls_X6_88 ds_X6_within (by rw [hRm]; exact ⟨Nat.le_of_ble_eq_true rfl, Nat.le_of_ble_eq_true rfl⟩) rfl rfl (Nat.le_of_ble_eq_true rfl) dX6_cell_32 ⟨Nat.zero_le _, Nat.zero_le _⟩ (fun H locs hP hS => ?_)
      refine lv_if_ne (tgt := 41) hx hb dX6_cell_35 (by decide) (fun c_11 => ?_) (fun c_11 => ?_)
      · replace hf := zI_f c_11 hf
        refine lv_aload_n hx hb dX6_cell_41 rfl (lv_at hl 0 rfl) ?_
        refine zr_getq (C := RX6) (T := TX6) (n := 51) C0 hP 0 (by decide) shM_0 50 22 rfl (by decide) uw_X6 mw_628 rfl dX6_cell_42 ?_
        refine lv_bipush (v := (40 : Int32)) hx hb dX6_cell_45 (by decide) ?_
        refine lv_iload_n hx hb dX6_cell_47 rfl (lv_at hl 1 rfl) ?_
        refine lv_imul hx hb dX6_cell_48 ?_
        refine lv_iload_n hx hb dX6_cell_49 rfl (lv_at hl 2 rfl) ?_
        refine lv_iadd hx hb dX6_cell_50 ?_
        refine lv_aload_n hx hb dX6_cell_51 rfl (lv_at hl 0 rfl) ?_
        refine zr_getq (C := RX6) (T := TX6) (n := 51) C0 hP 0 (by decide) shM_0 48 20 rfl (by decide) uw_X6 mw_640 rfl dX6_cell_52 ?_
        refine lv_iload_n hx hb dX6_cell_55 rfl (lv_at hl 1 rfl) ?_
        obtain ⟨hg_12, hf⟩ := zG_o hf
        refine zr_iald C0 hP 20 (by decide) shM_20 hg_12 dX6_cell_56 ?_
        refine lv_if_ne (tgt := 65) hx hb dX6_cell_57 (by decide) (fun c_13 => ?_) (fun c_13 => ?_)
        · replace hf := zI_f c_13 hf
          refine lv_aload_n hx hb dX6_cell_65 rfl (lv_at hl 0 rfl) ?_
          refine zr_getq (C := RX6) (T := TX6) (n := 51) C0 hP 0 (by decide) shM_0 48 20 rfl (by decide) uw_X6 mw_640 rfl dX6_cell_66 ?_
          refine lv_iload_n hx hb dX6_cell_69 rfl (lv_at hl 1 rfl) ?_
          obtain ⟨hg_14, hf⟩ := zG_o hf
          refine zr_iald C0 hP 20 (by decide) shM_20 hg_14 dX6_cell_70 ?_
          refine lv_iconst (v := (1 : Int32)) hx hb dX6_cell_71 (by decide) ?_
          refine lv_icmp_ne (tgt := 80) hx hb dX6_cell_72 (by decide) (fun c_15 => ?_) (fun c_15 => ?_)
          · replace hf := zI_f c_15 hf
            refine lv_iload_n hx hb dX6_cell_80 rfl (lv_at hl 3 rfl) ?_
            obtain ⟨hg_16, hf⟩ := zG_o hf
            refine zr_iast C0 hJ hP hS 22 (by decide) shM_22 hg_16 dX6_cell_81 (fun H locs hP hS => ?_)
            obtain ⟨M_17, eM_17, hf⟩ := zL_o hf
            have hP : va_P G.1 zcl (zw G shM 23 M_17) H := by rw [eM_17]; exact hP
            refine lv_iconst (v := (1 : Int32)) hx hb dX6_cell_82 (by decide) ?_
            exact ze_i C0 hP hS hf dX6_cell_83 hQ
          · replace hf := zI_t c_15 hf
            refine lv_iload_n hx hb dX6_cell_75 rfl (lv_at hl 3 rfl) ?_
            refine zo_i2s hx hb dX6_cell_76 ?_
            refine lv_goto (tgt := 81) hx hb dX6_cell_77 (by decide) ?_
            obtain ⟨hg_18, hf⟩ := zG_o hf
            refine zr_iast C0 hJ hP hS 22 (by decide) shM_22 hg_18 dX6_cell_81 (fun H locs hP hS => ?_)
            obtain ⟨M_19, eM_19, hf⟩ := zL_o hf
            have hP : va_P G.1 zcl (zw G shM 23 M_19) H := by rw [eM_19]; exact hP
            refine lv_iconst (v := (1 : Int32)) hx hb dX6_cell_82 (by decide) ?_
            exact ze_i C0 hP hS hf dX6_cell_83 hQ
        · replace hf := zI_t c_13 hf
          refine lv_iload_n hx hb dX6_cell_60 rfl (lv_at hl 3 rfl) ?_
          refine zo_i2b hx hb dX6_cell_61 ?_
          refine lv_goto (tgt := 81) hx hb dX6_cell_62 (by decide) ?_
          obtain ⟨hg_20, hf⟩ := zG_o hf
          refine zr_iast C0 hJ hP hS 22 (by decide) shM_22 hg_20 dX6_cell_81 (fun H locs hP hS => ?_)
          obtain ⟨M_21, eM_21, hf⟩ := zL_o hf
          have hP : va_P G.1 zcl (zw G shM 23 M_21) H := by rw [eM_21]; exact hP
          refine lv_iconst (v := (1 : Int32)) hx hb dX6_cell_82 (by decide) ?_
          exact ze_i C0 hP hS hf dX6_cell_83 hQ
      · replace hf := zI_t c_11 hf
        refine lv_bipush (v := (-12 : Int32)) hx hb dX6_cell_38 (by decide) ?_
        exact ze_i C0 hP hS hf dX6_cell_40 hQ
    · replace hf := zI_f c_6 hf
      refine lv_bipush (v := (-11 : Int32)) hx hb dX6_cell_19 (by decide) ?_
      exact ze_i C0 hP hS hf dX6_cell_21 hQ
  · replace hf := zI_t c_4 hf
    refine lv_bipush (v := (-2 : Int32)) hx hb dX6_cell_7 (by decide) ?_
    exact ze_i C0 hP hS hf dX6_cell_9 hQ
def fX6_copy_B171 (r171 : Int32 → Int32 → Int32 → Int32 → Int32 → Int32 → zM → Option (Int32 × zM)) (x1 : Int32) (x2 : Int32) (x3 : Int32) (x4 : Int32) (x5 : Int32) (x6 : Int32) (M : zM) : Option (Int32 × zM) :=
  if x5 ≤ x6 then
    some (x5, M)
  else
    zG (zin ((((40 : Int32) * x1) + x2) + x6) 160) <|
    zG (zin ((((40 : Int32) * x3) + x4) + x6) 160) <|
    zL (zu M 22 ((((40 : Int32) * x3) + x4) + x6).toNatClampNeg (M.1 22 ((((40 : Int32) * x1) + x2) + x6).toNatClampNeg)) fun M_27 =>
    zL (x6 + (1 : Int32)) fun x6_28 =>
    r171 x1 x2 x3 x4 x5 x6_28 M_27
def fX6_copy_L171 : Nat → Int32 → Int32 → Int32 → Int32 → Int32 → Int32 → zM → Option (Int32 × zM)
  | 0 => fun _ _ _ _ _ _ _ => none
  | j9 + 1 => fX6_copy_B171 (fX6_copy_L171 j9)
def fX6_copy_B125 (r125 : Int32 → Int32 → Int32 → Int32 → Int32 → Int32 → zM → Option (Int32 × zM)) (x1 : Int32) (x2 : Int32) (x3 : Int32) (x4 : Int32) (x5 : Int32) (x6 : Int32) (M : zM) : Option (Int32 × zM) :=
  if x6 < (0 : Int32) then
    some (x5, M)
  else
    zG (zin ((((40 : Int32) * x1) + x2) + x6) 160) <|
    zG (zin ((((40 : Int32) * x3) + x4) + x6) 160) <|
    zL (zu M 22 ((((40 : Int32) * x3) + x4) + x6).toNatClampNeg (M.1 22 ((((40 : Int32) * x1) + x2) + x6).toNatClampNeg)) fun M_34 =>
    zL (x6 + (-1 : Int32)) fun x6_35 =>
    r125 x1 x2 x3 x4 x5 x6_35 M_34
def fX6_copy_L125 : Nat → Int32 → Int32 → Int32 → Int32 → Int32 → Int32 → zM → Option (Int32 × zM)
  | 0 => fun _ _ _ _ _ _ _ => none
  | j9 + 1 => fX6_copy_B125 (fX6_copy_L125 j9)
def fX6_copy (x1 : Int32) (x2 : Int32) (x3 : Int32) (x4 : Int32) (x5 : Int32) (M : zM) : Option (Int32 × zM) :=
  zB (fX6_isSheet x1 M) fun r_3 M_1 =>
  if r_3 = (0 : Int32) then
    some ((-2 : Int32), M_1)
  else
    zB (fX6_isSheet x3 M_1) fun r_7 M_5 =>
    if r_7 = (0 : Int32) then
      some ((-2 : Int32), M_5)
    else
      zG (zin x1 4) <|
      if (M_5.1 20 x1.toNatClampNeg) < (0 : Int32) then
        some ((-11 : Int32), M_5)
      else
        zG (zin x3 4) <|
        if (0 : Int32) ≤ (M_5.1 20 x3.toNatClampNeg) then
          zG (zin x1 4) <|
          zG (zin x3 4) <|
          if (M_5.1 20 x1.toNatClampNeg) = (M_5.1 20 x3.toNatClampNeg) then
            if x5 < (0 : Int32) then
              some ((-12 : Int32), M_5)
            else
              if x2 < (0 : Int32) then
                some ((-12 : Int32), M_5)
              else
                if x4 < (0 : Int32) then
                  some ((-12 : Int32), M_5)
                else
                  zG (zin x1 4) <|
                  if (0 : Int32) < (zcmp (x2.toInt64 + x5.toInt64) ((M_5.1 21 x1.toNatClampNeg).toInt64)) then
                    some ((-12 : Int32), M_5)
                  else
                    zG (zin x3 4) <|
                    if (zcmp (x4.toInt64 + x5.toInt64) ((M_5.1 21 x3.toNatClampNeg).toInt64)) ≤ (0 : Int32) then
                      if x1 = x3 then
                        if x4 ≤ x2 then
                          fX6_copy_L171 zF x1 x2 x3 x4 x5 (0 : Int32) M_5
                        else
                          zL (x5 - (1 : Int32)) fun x6_30 =>
                          fX6_copy_L125 zF x1 x2 x3 x4 x5 x6_30 M_5
                      else
                        fX6_copy_L171 zF x1 x2 x3 x4 x5 (0 : Int32) M_5
                    else
                      some ((-12 : Int32), M_5)
          else
            some ((-13 : Int32), M_5)
        else
          some ((-11 : Int32), M_5)
set_option maxHeartbeats 4000000 in
set_option maxRecDepth 100000 in
theorem mtX6_copy (l : Launch) (G : zGr) (hJ : zJ G 23) (x1 : Int32) (x2 : Int32) (x3 : Int32) (x4 : Int32) (x5 : Int32) (M : zM) (o : Int32 × zM) (hf : fX6_copy x1 x2 x3 x4 x5 M = some o) : zMi l G shM 23 yX6_copy cX6_copy 7 (some .int) 2 42 [.ref (G.2.2.1 0), .int x1, .int x2, .int x3, .int x4, .int x5] M o := by
  intro sz
  refine zOf (by decide) (Nat.le_of_ble_eq_true rfl) ?_
  intro p e R Q s m args below meth c hRm hsz hQ C0 hP hS ls hl
  subst hsz
  replace hRm : R = { frames := 2, cells := 0, slots := 0, locals := 42 } := hRm
  have hl : lv_has ls 7 [(0, .ref (G.2.2.1 0)), (1, .int x1), (2, .int x2), (3, .int x3), (4, .int x4), (5, .int x5)] := hl
  have hx := C0.1
  have hb := C0.2.1
  have hown := C0.2.2.2.1
  have hts := C0.2.2.2.2.1
  have L171 : ∀ (n171 : Nat), ∀ (x1 : Int32) (x2 : Int32) (x3 : Int32) (x4 : Int32) (x5 : Int32) (x6 : Int32) (M : zM) (H : Heap) (locs : List Loc) (ls : Array Slot), lv_has ls 7 [(0, .ref (G.2.2.1 0)), (1, .int x1), (2, .int x2), (3, .int x3), (4, .int x4), (5, .int x5), (6, .int x6)] → va_P G.1 zcl (zw G shM 23 M) H → va_S (zA G 23 s.heap.size) s.heap H locs → fX6_copy_L171 n171 x1 x2 x3 x4 x5 x6 M = some o → W p l e R s m args below meth c H locs 0 0 Q (F0 m 171 ls []) := by
    intro n171
    induction n171 with
    | zero => intro x1 x2 x3 x4 x5 x6 M H locs ls hl hP hS hf; exact zn_s (show none = some o from hf)
    | succ n171 ih171 =>
      intro x1 x2 x3 x4 x5 x6 M H locs ls hl hP hS hf
      replace hf : fX6_copy_B171 (fX6_copy_L171 n171) x1 x2 x3 x4 x5 x6 M = some o := hf
      unfold fX6_copy_B171 at hf
      refine lv_iload hx hb dX6_copy_171 (lv_at hl 6 rfl) ?_
      refine lv_iload hx hb dX6_copy_173 (lv_at hl 5 rfl) ?_
      refine lv_icmp_ge (tgt := 213) hx hb dX6_copy_175 (by decide) (fun c_24 => ?_) (fun c_24 => ?_)
      · replace hf := zI_t c_24 hf
        refine lv_iload hx hb dX6_copy_213 (lv_at hl 5 rfl) ?_
        exact ze_i C0 hP hS hf dX6_copy_215 hQ
      · replace hf := zI_f c_24 hf
        refine lv_aload_n hx hb dX6_copy_178 rfl (lv_at hl 0 rfl) ?_
        refine zr_getq (C := RX6) (T := TX6) (n := 51) C0 hP 0 (by decide) shM_0 50 22 rfl (by decide) uw_X6 mw_628 rfl dX6_copy_179 ?_
        refine lv_bipush (v := (40 : Int32)) hx hb dX6_copy_182 (by decide) ?_
        refine lv_iload_n hx hb dX6_copy_184 rfl (lv_at hl 3 rfl) ?_
        refine lv_imul hx hb dX6_copy_185 ?_
        refine lv_iload hx hb dX6_copy_186 (lv_at hl 4 rfl) ?_
        refine lv_iadd hx hb dX6_copy_188 ?_
        refine lv_iload hx hb dX6_copy_189 (lv_at hl 6 rfl) ?_
        refine lv_iadd hx hb dX6_copy_191 ?_
        refine lv_aload_n hx hb dX6_copy_192 rfl (lv_at hl 0 rfl) ?_
        refine zr_getq (C := RX6) (T := TX6) (n := 51) C0 hP 0 (by decide) shM_0 50 22 rfl (by decide) uw_X6 mw_628 rfl dX6_copy_193 ?_
        refine lv_bipush (v := (40 : Int32)) hx hb dX6_copy_196 (by decide) ?_
        refine lv_iload_n hx hb dX6_copy_198 rfl (lv_at hl 1 rfl) ?_
        refine lv_imul hx hb dX6_copy_199 ?_
        refine lv_iload_n hx hb dX6_copy_200 rfl (lv_at hl 2 rfl) ?_
        refine lv_iadd hx hb dX6_copy_201 ?_
        refine lv_iload hx hb dX6_copy_202 (lv_at hl 6 rfl) ?_
        refine lv_iadd hx hb dX6_copy_204 ?_
        obtain ⟨hg_25, hf⟩ := zG_o hf
        refine zr_iald C0 hP 22 (by decide) shM_22 hg_25 dX6_copy_205 ?_
        obtain ⟨hg_26, hf⟩ := zG_o hf
        refine zr_iast C0 hJ hP hS 22 (by decide) shM_22 hg_26 dX6_copy_206 (fun H locs hP hS => ?_)
        obtain ⟨M_27, eM_27, hf⟩ := zL_o hf
        have hP : va_P G.1 zcl (zw G shM 23 M_27) H := by rw [eM_27]; exact hP
        obtain ⟨x6_28, ex6_28, hf⟩ := zL_o hf
        refine lv_iinc (v := x6_28) (lv' := [(6, .int x6_28), (0, .ref (G.2.2.1 0)), (1, .int x1), (2, .int x2), (3, .int x3), (4, .int x4), (5, .int x5)]) hx hb dX6_copy_207 hl (k := 6) rfl (by rw [ex6_28]; rfl) (by decide) rfl (fun ls hl => ?_)
        refine lv_goto (tgt := 171) hx hb dX6_copy_210 (by decide) ?_
        exact ih171 x1 x2 x3 x4 x5 x6_28 M_27 H locs ls (lv_sub hl [1, 2, 3, 4, 5, 6, 0] rfl) hP hS hf
  have L125 : ∀ (n125 : Nat), ∀ (x1 : Int32) (x2 : Int32) (x3 : Int32) (x4 : Int32) (x5 : Int32) (x6 : Int32) (M : zM) (H : Heap) (locs : List Loc) (ls : Array Slot), lv_has ls 7 [(0, .ref (G.2.2.1 0)), (1, .int x1), (2, .int x2), (3, .int x3), (4, .int x4), (5, .int x5), (6, .int x6)] → va_P G.1 zcl (zw G shM 23 M) H → va_S (zA G 23 s.heap.size) s.heap H locs → fX6_copy_L125 n125 x1 x2 x3 x4 x5 x6 M = some o → W p l e R s m args below meth c H locs 0 0 Q (F0 m 125 ls []) := by
    intro n125
    induction n125 with
    | zero => intro x1 x2 x3 x4 x5 x6 M H locs ls hl hP hS hf; exact zn_s (show none = some o from hf)
    | succ n125 ih125 =>
      intro x1 x2 x3 x4 x5 x6 M H locs ls hl hP hS hf
      replace hf : fX6_copy_B125 (fX6_copy_L125 n125) x1 x2 x3 x4 x5 x6 M = some o := hf
      unfold fX6_copy_B125 at hf
      refine lv_iload hx hb dX6_copy_125 (lv_at hl 6 rfl) ?_
      refine lv_if_lt (tgt := 165) hx hb dX6_copy_127 (by decide) (fun c_31 => ?_) (fun c_31 => ?_)
      · replace hf := zI_t c_31 hf
        refine lv_goto (tgt := 213) hx hb dX6_copy_165 (by decide) ?_
        refine lv_iload hx hb dX6_copy_213 (lv_at hl 5 rfl) ?_
        exact ze_i C0 hP hS hf dX6_copy_215 hQ
      · replace hf := zI_f c_31 hf
        refine lv_aload_n hx hb dX6_copy_130 rfl (lv_at hl 0 rfl) ?_
        refine zr_getq (C := RX6) (T := TX6) (n := 51) C0 hP 0 (by decide) shM_0 50 22 rfl (by decide) uw_X6 mw_628 rfl dX6_copy_131 ?_
        refine lv_bipush (v := (40 : Int32)) hx hb dX6_copy_134 (by decide) ?_
        refine lv_iload_n hx hb dX6_copy_136 rfl (lv_at hl 3 rfl) ?_
        refine lv_imul hx hb dX6_copy_137 ?_
        refine lv_iload hx hb dX6_copy_138 (lv_at hl 4 rfl) ?_
        refine lv_iadd hx hb dX6_copy_140 ?_
        refine lv_iload hx hb dX6_copy_141 (lv_at hl 6 rfl) ?_
        refine lv_iadd hx hb dX6_copy_143 ?_
        refine lv_aload_n hx hb dX6_copy_144 rfl (lv_at hl 0 rfl) ?_
        refine zr_getq (C := RX6) (T := TX6) (n := 51) C0 hP 0 (by decide) shM_0 50 22 rfl (by decide) uw_X6 mw_628 rfl dX6_copy_145 ?_
        refine lv_bipush (v := (40 : Int32)) hx hb dX6_copy_148 (by decide) ?_
        refine lv_iload_n hx hb dX6_copy_150 rfl (lv_at hl 1 rfl) ?_
        refine lv_imul hx hb dX6_copy_151 ?_
        refine lv_iload_n hx hb dX6_copy_152 rfl (lv_at hl 2 rfl) ?_
        refine lv_iadd hx hb dX6_copy_153 ?_
        refine lv_iload hx hb dX6_copy_154 (lv_at hl 6 rfl) ?_
        refine lv_iadd hx hb dX6_copy_156 ?_
        obtain ⟨hg_32, hf⟩ := zG_o hf
        refine zr_iald C0 hP 22 (by decide) shM_22 hg_32 dX6_copy_157 ?_
        obtain ⟨hg_33, hf⟩ := zG_o hf
        refine zr_iast C0 hJ hP hS 22 (by decide) shM_22 hg_33 dX6_copy_158 (fun H locs hP hS => ?_)
        obtain ⟨M_34, eM_34, hf⟩ := zL_o hf
        have hP : va_P G.1 zcl (zw G shM 23 M_34) H := by rw [eM_34]; exact hP
        obtain ⟨x6_35, ex6_35, hf⟩ := zL_o hf
        refine lv_iinc (v := x6_35) (lv' := [(6, .int x6_35), (0, .ref (G.2.2.1 0)), (1, .int x1), (2, .int x2), (3, .int x3), (4, .int x4), (5, .int x5)]) hx hb dX6_copy_159 hl (k := 6) rfl (by rw [ex6_35]; rfl) (by decide) rfl (fun ls hl => ?_)
        refine lv_goto (tgt := 125) hx hb dX6_copy_162 (by decide) ?_
        exact ih125 x1 x2 x3 x4 x5 x6_35 M_34 H locs ls (lv_sub hl [1, 2, 3, 4, 5, 6, 0] rfl) hP hS hf
  unfold fX6_copy at hf
  obtain ⟨H, eH⟩ : ∃ H, H = s.heap := ⟨_, rfl⟩
  obtain ⟨locs, el⟩ : ∃ locs : List Loc, locs = [] := ⟨_, rfl⟩
  rw [← eH] at hP ⊢
  have hS : va_S (zA G 23 s.heap.size) s.heap H locs := by rw [eH, el]; exact hS
  rw [← el]
  refine lv_iload_n hx hb dX6_copy_0 rfl (lv_at hl 1 rfl) ?_
  obtain ⟨r_3, M_1, hc_2, hf⟩ := zB_o hf
  refine zc_si (As := [.int x1]) (rest := []) C0 hP hS hl.1 (mtX6_isSheet l G hJ x1 M _ hc_2) ls_X6_325 ds_X6_isSheet (by rw [hRm]; exact ⟨Nat.le_of_ble_eq_true rfl, Nat.le_of_ble_eq_true rfl⟩) rfl rfl (Nat.le_of_ble_eq_true rfl) dX6_copy_1 ⟨Nat.zero_le _, Nat.zero_le _⟩ (fun H locs hP hS => ?_)
  refine lv_if_eq (tgt := 14) hx hb dX6_copy_4 (by decide) (fun c_4 => ?_) (fun c_4 => ?_)
  · replace hf := zI_t c_4 hf
    refine lv_bipush (v := (-2 : Int32)) hx hb dX6_copy_14 (by decide) ?_
    exact ze_i C0 hP hS hf dX6_copy_16 hQ
  · replace hf := zI_f c_4 hf
    refine lv_iload_n hx hb dX6_copy_7 rfl (lv_at hl 3 rfl) ?_
    obtain ⟨r_7, M_5, hc_6, hf⟩ := zB_o hf
    refine zc_si (As := [.int x3]) (rest := []) C0 hP hS hl.1 (mtX6_isSheet l G hJ x3 M_1 _ hc_6) ls_X6_325 ds_X6_isSheet (by rw [hRm]; exact ⟨Nat.le_of_ble_eq_true rfl, Nat.le_of_ble_eq_true rfl⟩) rfl rfl (Nat.le_of_ble_eq_true rfl) dX6_copy_8 ⟨Nat.zero_le _, Nat.zero_le _⟩ (fun H locs hP hS => ?_)
    refine lv_if_ne (tgt := 17) hx hb dX6_copy_11 (by decide) (fun c_8 => ?_) (fun c_8 => ?_)
    · replace hf := zI_f c_8 hf
      refine lv_aload_n hx hb dX6_copy_17 rfl (lv_at hl 0 rfl) ?_
      refine zr_getq (C := RX6) (T := TX6) (n := 51) C0 hP 0 (by decide) shM_0 48 20 rfl (by decide) uw_X6 mw_640 rfl dX6_copy_18 ?_
      refine lv_iload_n hx hb dX6_copy_21 rfl (lv_at hl 1 rfl) ?_
      obtain ⟨hg_9, hf⟩ := zG_o hf
      refine zr_iald C0 hP 20 (by decide) shM_20 hg_9 dX6_copy_22 ?_
      refine lv_if_lt (tgt := 35) hx hb dX6_copy_23 (by decide) (fun c_10 => ?_) (fun c_10 => ?_)
      · replace hf := zI_t c_10 hf
        refine lv_bipush (v := (-11 : Int32)) hx hb dX6_copy_35 (by decide) ?_
        exact ze_i C0 hP hS hf dX6_copy_37 hQ
      · replace hf := zI_f c_10 hf
        refine lv_aload_n hx hb dX6_copy_26 rfl (lv_at hl 0 rfl) ?_
        refine zr_getq (C := RX6) (T := TX6) (n := 51) C0 hP 0 (by decide) shM_0 48 20 rfl (by decide) uw_X6 mw_640 rfl dX6_copy_27 ?_
        refine lv_iload_n hx hb dX6_copy_30 rfl (lv_at hl 3 rfl) ?_
        obtain ⟨hg_11, hf⟩ := zG_o hf
        refine zr_iald C0 hP 20 (by decide) shM_20 hg_11 dX6_copy_31 ?_
        refine lv_if_ge (tgt := 38) hx hb dX6_copy_32 (by decide) (fun c_12 => ?_) (fun c_12 => ?_)
        · replace hf := zI_t c_12 hf
          refine lv_aload_n hx hb dX6_copy_38 rfl (lv_at hl 0 rfl) ?_
          refine zr_getq (C := RX6) (T := TX6) (n := 51) C0 hP 0 (by decide) shM_0 48 20 rfl (by decide) uw_X6 mw_640 rfl dX6_copy_39 ?_
          refine lv_iload_n hx hb dX6_copy_42 rfl (lv_at hl 1 rfl) ?_
          obtain ⟨hg_13, hf⟩ := zG_o hf
          refine zr_iald C0 hP 20 (by decide) shM_20 hg_13 dX6_copy_43 ?_
          refine lv_aload_n hx hb dX6_copy_44 rfl (lv_at hl 0 rfl) ?_
          refine zr_getq (C := RX6) (T := TX6) (n := 51) C0 hP 0 (by decide) shM_0 48 20 rfl (by decide) uw_X6 mw_640 rfl dX6_copy_45 ?_
          refine lv_iload_n hx hb dX6_copy_48 rfl (lv_at hl 3 rfl) ?_
          obtain ⟨hg_14, hf⟩ := zG_o hf
          refine zr_iald C0 hP 20 (by decide) shM_20 hg_14 dX6_copy_49 ?_
          refine lv_icmp_eq (tgt := 56) hx hb dX6_copy_50 (by decide) (fun c_15 => ?_) (fun c_15 => ?_)
          · replace hf := zI_t c_15 hf
            refine lv_iload hx hb dX6_copy_56 (lv_at hl 5 rfl) ?_
            refine lv_if_lt (tgt := 105) hx hb dX6_copy_58 (by decide) (fun c_16 => ?_) (fun c_16 => ?_)
            · replace hf := zI_t c_16 hf
              refine lv_bipush (v := (-12 : Int32)) hx hb dX6_copy_105 (by decide) ?_
              exact ze_i C0 hP hS hf dX6_copy_107 hQ
            · replace hf := zI_f c_16 hf
              refine lv_iload_n hx hb dX6_copy_61 rfl (lv_at hl 2 rfl) ?_
              refine lv_if_lt (tgt := 105) hx hb dX6_copy_62 (by decide) (fun c_17 => ?_) (fun c_17 => ?_)
              · replace hf := zI_t c_17 hf
                refine lv_bipush (v := (-12 : Int32)) hx hb dX6_copy_105 (by decide) ?_
                exact ze_i C0 hP hS hf dX6_copy_107 hQ
              · replace hf := zI_f c_17 hf
                refine lv_iload hx hb dX6_copy_65 (lv_at hl 4 rfl) ?_
                refine lv_if_lt (tgt := 105) hx hb dX6_copy_67 (by decide) (fun c_18 => ?_) (fun c_18 => ?_)
                · replace hf := zI_t c_18 hf
                  refine lv_bipush (v := (-12 : Int32)) hx hb dX6_copy_105 (by decide) ?_
                  exact ze_i C0 hP hS hf dX6_copy_107 hQ
                · replace hf := zI_f c_18 hf
                  refine lv_iload_n hx hb dX6_copy_70 rfl (lv_at hl 2 rfl) ?_
                  refine zo_i2l hx hb dX6_copy_71 ?_
                  refine lv_iload hx hb dX6_copy_72 (lv_at hl 5 rfl) ?_
                  refine zo_i2l hx hb dX6_copy_74 ?_
                  refine lv_ladd hx hb dX6_copy_75 ?_
                  refine lv_aload_n hx hb dX6_copy_76 rfl (lv_at hl 0 rfl) ?_
                  refine zr_getq (C := RX6) (T := TX6) (n := 51) C0 hP 0 (by decide) shM_0 49 21 rfl (by decide) uw_X6 mw_627 rfl dX6_copy_77 ?_
                  refine lv_iload_n hx hb dX6_copy_80 rfl (lv_at hl 1 rfl) ?_
                  obtain ⟨hg_19, hf⟩ := zG_o hf
                  refine zr_iald C0 hP 21 (by decide) shM_21 hg_19 dX6_copy_81 ?_
                  refine zo_i2l hx hb dX6_copy_82 ?_
                  refine zo_lcmp hx hb dX6_copy_83 ?_
                  refine lv_if_gt (tgt := 105) hx hb dX6_copy_84 (by decide) (fun c_20 => ?_) (fun c_20 => ?_)
                  · replace hf := zI_t c_20 hf
                    refine lv_bipush (v := (-12 : Int32)) hx hb dX6_copy_105 (by decide) ?_
                    exact ze_i C0 hP hS hf dX6_copy_107 hQ
                  · replace hf := zI_f c_20 hf
                    refine lv_iload hx hb dX6_copy_87 (lv_at hl 4 rfl) ?_
                    refine zo_i2l hx hb dX6_copy_89 ?_
                    refine lv_iload hx hb dX6_copy_90 (lv_at hl 5 rfl) ?_
                    refine zo_i2l hx hb dX6_copy_92 ?_
                    refine lv_ladd hx hb dX6_copy_93 ?_
                    refine lv_aload_n hx hb dX6_copy_94 rfl (lv_at hl 0 rfl) ?_
                    refine zr_getq (C := RX6) (T := TX6) (n := 51) C0 hP 0 (by decide) shM_0 49 21 rfl (by decide) uw_X6 mw_627 rfl dX6_copy_95 ?_
                    refine lv_iload_n hx hb dX6_copy_98 rfl (lv_at hl 3 rfl) ?_
                    obtain ⟨hg_21, hf⟩ := zG_o hf
                    refine zr_iald C0 hP 21 (by decide) shM_21 hg_21 dX6_copy_99 ?_
                    refine zo_i2l hx hb dX6_copy_100 ?_
                    refine zo_lcmp hx hb dX6_copy_101 ?_
                    refine lv_if_le (tgt := 108) hx hb dX6_copy_102 (by decide) (fun c_22 => ?_) (fun c_22 => ?_)
                    · replace hf := zI_t c_22 hf
                      refine lv_iload_n hx hb dX6_copy_108 rfl (lv_at hl 1 rfl) ?_
                      refine lv_iload_n hx hb dX6_copy_109 rfl (lv_at hl 3 rfl) ?_
                      refine lv_icmp_ne (tgt := 168) hx hb dX6_copy_110 (by decide) (fun c_23 => ?_) (fun c_23 => ?_)
                      · replace hf := zI_f c_23 hf
                        refine lv_iconst (v := (0 : Int32)) hx hb dX6_copy_168 (by decide) ?_
                        refine lv_istore (lv' := [(6, .int (0 : Int32)), (0, .ref (G.2.2.1 0)), (1, .int x1), (2, .int x2), (3, .int x3), (4, .int x4), (5, .int x5)]) hx hb dX6_copy_169 hl (by decide) rfl (fun ls hl => ?_)
                        exact L171 zF x1 x2 x3 x4 x5 (0 : Int32) M_5 H locs ls (lv_sub hl [1, 2, 3, 4, 5, 6, 0] rfl) hP hS hf
                      · replace hf := zI_t c_23 hf
                        refine lv_iload_n hx hb dX6_copy_113 rfl (lv_at hl 2 rfl) ?_
                        refine lv_iload hx hb dX6_copy_114 (lv_at hl 4 rfl) ?_
                        refine lv_icmp_ge (tgt := 168) hx hb dX6_copy_116 (by decide) (fun c_29 => ?_) (fun c_29 => ?_)
                        · replace hf := zI_t c_29 hf
                          refine lv_iconst (v := (0 : Int32)) hx hb dX6_copy_168 (by decide) ?_
                          refine lv_istore (lv' := [(6, .int (0 : Int32)), (0, .ref (G.2.2.1 0)), (1, .int x1), (2, .int x2), (3, .int x3), (4, .int x4), (5, .int x5)]) hx hb dX6_copy_169 hl (by decide) rfl (fun ls hl => ?_)
                          exact L171 zF x1 x2 x3 x4 x5 (0 : Int32) M_5 H locs ls (lv_sub hl [1, 2, 3, 4, 5, 6, 0] rfl) hP hS hf
                        · replace hf := zI_f c_29 hf
                          refine lv_iload hx hb dX6_copy_119 (lv_at hl 5 rfl) ?_
                          refine lv_iconst (v := (1 : Int32)) hx hb dX6_copy_121 (by decide) ?_
                          refine lv_isub hx hb dX6_copy_122 ?_
                          refine lv_topi (fun x6_30 ex6_30 => ?_)
                          replace hf := zL_e ex6_30 hf
                          refine lv_istore (lv' := [(6, .int x6_30), (0, .ref (G.2.2.1 0)), (1, .int x1), (2, .int x2), (3, .int x3), (4, .int x4), (5, .int x5)]) hx hb dX6_copy_123 hl (by decide) rfl (fun ls hl => ?_)
                          exact L125 zF x1 x2 x3 x4 x5 x6_30 M_5 H locs ls (lv_sub hl [1, 2, 3, 4, 5, 6, 0] rfl) hP hS hf
                    · replace hf := zI_f c_22 hf
                      refine lv_bipush (v := (-12 : Int32)) hx hb dX6_copy_105 (by decide) ?_
                      exact ze_i C0 hP hS hf dX6_copy_107 hQ
          · replace hf := zI_f c_15 hf
            refine lv_bipush (v := (-13 : Int32)) hx hb dX6_copy_53 (by decide) ?_
            exact ze_i C0 hP hS hf dX6_copy_55 hQ
        · replace hf := zI_f c_12 hf
          refine lv_bipush (v := (-11 : Int32)) hx hb dX6_copy_35 (by decide) ?_
          exact ze_i C0 hP hS hf dX6_copy_37 hQ
    · replace hf := zI_t c_8 hf
      refine lv_bipush (v := (-2 : Int32)) hx hb dX6_copy_14 (by decide) ?_
      exact ze_i C0 hP hS hf dX6_copy_16 hQ

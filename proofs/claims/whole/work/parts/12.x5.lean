def fX5_feed (x1 : Int32) (M : zM) : Option (Int32 × zM) :=
  zB (fX5_within x1 (0 : Int32) (255 : Int32) M) fun r_3 M_1 =>
  if r_3 = (0 : Int32) then
    some ((-2 : Int32), M_1)
  else
    zB (fX2_add x1 M_1) fun r_7 M_5 =>
    some (r_7, M_5)
set_option maxHeartbeats 4000000 in
set_option maxRecDepth 100000 in
theorem mtX5_feed (l : Launch) (G : zGr) (hJ : zJ G 64) (x1 : Int32) (M : zM) (o : Int32 × zM) (hf : fX5_feed x1 M = some o) : zMi l G shX 64 yX5_feed cX5_feed 2 (some .int) 1 22 [.ref (G.2.2.1 0), .int x1] M o := by
  intro sz
  refine zOf (by decide) (Nat.le_of_ble_eq_true rfl) ?_
  intro p e R Q s m args below meth c hRm hsz hQ C0 hP hS ls hl
  subst hsz
  replace hRm : R = { frames := 1, cells := 0, slots := 0, locals := 22 } := hRm
  have hl : lv_has ls 2 [(0, .ref (G.2.2.1 0)), (1, .int x1)] := hl
  have hx := C0.1
  have hb := C0.2.1
  have hown := C0.2.2.2.1
  have hts := C0.2.2.2.2.1
  unfold fX5_feed at hf
  obtain ⟨H, eH⟩ : ∃ H, H = s.heap := ⟨_, rfl⟩
  obtain ⟨locs, el⟩ : ∃ locs : List Loc, locs = [] := ⟨_, rfl⟩
  rw [← eH] at hP ⊢
  have hS : va_S (zA G 64 s.heap.size) s.heap H locs := by rw [eH, el]; exact hS
  rw [← el]
  refine lv_iload_n hx hb dX5_feed_0 rfl (lv_at hl 1 rfl) ?_
  refine lv_iconst (v := (0 : Int32)) hx hb dX5_feed_1 (by decide) ?_
  refine lv_sipush (v := (255 : Int32)) hx hb dX5_feed_2 (by decide) ?_
  obtain ⟨r_3, M_1, hc_2, hf⟩ := zB_o hf
  refine zc_si (As := [.int x1, .int (0 : Int32), .int (255 : Int32)]) (rest := []) C0 hP hS hl.1 (mtX5_within l G hJ x1 (0 : Int32) (255 : Int32) M _ hc_2) ls_X5_78 ds_X5_within (by rw [hRm]; exact ⟨Nat.le_of_ble_eq_true rfl, Nat.le_of_ble_eq_true rfl⟩) rfl rfl (Nat.le_of_ble_eq_true rfl) dX5_feed_5 ⟨Nat.zero_le _, Nat.zero_le _⟩ (fun H locs hP hS => ?_)
  refine lv_if_ne (tgt := 14) hx hb dX5_feed_8 (by decide) (fun c_4 => ?_) (fun c_4 => ?_)
  · replace hf := zI_f c_4 hf
    refine lv_aload_n hx hb dX5_feed_14 rfl (lv_at hl 0 rfl) ?_
    refine zr_getq (C := RX5) (T := TX5) (n := 9) C0 hP 0 (by decide) shX_0 1 2 rfl (by decide) uw_X5 mw_245 rfl dX5_feed_15 ?_
    refine lv_iload_n hx hb dX5_feed_18 rfl (lv_at hl 1 rfl) ?_
    obtain ⟨r_7, M_5, hc_6, hf⟩ := zB_o hf
    refine zc_vi (As := [.int x1]) (rest := []) C0 hP hS hl.1 2 (mtX2_add l G hJ x1 M_1 _ hc_6) lk_X5_64 (by decide) shX_2 (T := TX2) (n' := 9) rfl ds_X2_add (by rw [hRm]; exact ⟨Nat.le_of_ble_eq_true rfl, Nat.le_of_ble_eq_true rfl⟩) rfl rfl (Nat.le_of_ble_eq_true rfl) dX5_feed_19 ⟨Nat.zero_le _, Nat.zero_le _⟩ (fun H locs hP hS => ?_)
    exact ze_i C0 hP hS hf dX5_feed_22 hQ
  · replace hf := zI_t c_4 hf
    refine lv_bipush (v := (-2 : Int32)) hx hb dX5_feed_11 (by decide) ?_
    exact ze_i C0 hP hS hf dX5_feed_13 hQ
def fX5_text (M : zM) : Option (Int32 × zM) :=
  if (M.1 0 7) < (6 : Int32) then
    zB (fX2_read M) fun r_4 M_2 =>
    zL (zu M_2 2 3 (0 : Int32)) fun M_5 =>
    if r_4 = (-1 : Int32) then
      zG (zin (M_5.1 0 7) 6) <|
      zL (32 + 4 * (M_5.1 0 7).toNatClampNeg) fun q_8 =>
      zV (fX3_become q_8 M_5) fun M_9 =>
      zL (zu M_9 0 7 ((M_9.1 0 7) + (1 : Int32))) fun M_11 =>
      some (((M_11.1 0 7) - (1 : Int32)), M_11)
    else
      some (((-100 : Int32) - r_4), M_5)
  else
    some ((-4 : Int32), M)
set_option maxHeartbeats 4000000 in
set_option maxRecDepth 100000 in
theorem mtX5_text (l : Launch) (G : zGr) (hJ : zJ G 64) (M : zM) (o : Int32 × zM) (hf : fX5_text M = some o) : zMi l G shX 64 yX5_text cX5_text 2 (some .int) 69 2596 [.ref (G.2.2.1 0)] M o := by
  intro sz
  refine zOf (by decide) (Nat.le_of_ble_eq_true rfl) ?_
  intro p e R Q s m args below meth c hRm hsz hQ C0 hP hS ls hl
  subst hsz
  replace hRm : R = { frames := 69, cells := 0, slots := 0, locals := 2596 } := hRm
  have hl : lv_has ls 2 [(0, .ref (G.2.2.1 0))] := hl
  have hx := C0.1
  have hb := C0.2.1
  have hown := C0.2.2.2.1
  have hts := C0.2.2.2.2.1
  unfold fX5_text at hf
  obtain ⟨H, eH⟩ : ∃ H, H = s.heap := ⟨_, rfl⟩
  obtain ⟨locs, el⟩ : ∃ locs : List Loc, locs = [] := ⟨_, rfl⟩
  rw [← eH] at hP ⊢
  have hS : va_S (zA G 64 s.heap.size) s.heap H locs := by rw [eH, el]; exact hS
  rw [← el]
  refine lv_aload_n hx hb dX5_text_0 rfl (lv_at hl 0 rfl) ?_
  refine zr_get (C := RX5) (T := TX5) (n := 9) C0 hP 0 (by decide) shX_0 7 rfl (by decide) uw_X5 mw_250 rfl dX5_text_1 ?_
  refine lv_bipush (v := (6 : Int32)) hx hb dX5_text_4 (by decide) ?_
  refine lv_icmp_lt (tgt := 12) hx hb dX5_text_6 (by decide) (fun c_1 => ?_) (fun c_1 => ?_)
  · replace hf := zI_t c_1 hf
    refine lv_aload_n hx hb dX5_text_12 rfl (lv_at hl 0 rfl) ?_
    refine zr_getq (C := RX5) (T := TX5) (n := 9) C0 hP 0 (by decide) shX_0 1 2 rfl (by decide) uw_X5 mw_245 rfl dX5_text_13 ?_
    obtain ⟨r_4, M_2, hc_3, hf⟩ := zB_o hf
    refine zc_vi (As := []) (rest := []) C0 hP hS hl.1 2 (mtX2_read l G hJ M _ hc_3) lk_X5_128 (by decide) shX_2 (T := TX2) (n' := 9) rfl ds_X2_read (by rw [hRm]; exact ⟨Nat.le_of_ble_eq_true rfl, Nat.le_of_ble_eq_true rfl⟩) rfl rfl (Nat.le_of_ble_eq_true rfl) dX5_text_16 ⟨Nat.zero_le _, Nat.zero_le _⟩ (fun H locs hP hS => ?_)
    refine lv_istore_n (lv' := [(1, .int r_4), (0, .ref (G.2.2.1 0))]) hx hb dX5_text_19 rfl hl (by decide) rfl (fun ls hl => ?_)
    refine lv_aload_n hx hb dX5_text_20 rfl (lv_at hl 1 rfl) ?_
    refine zr_getq (C := RX5) (T := TX5) (n := 9) C0 hP 0 (by decide) shX_0 1 2 rfl (by decide) uw_X5 mw_245 rfl dX5_text_21 ?_
    refine lv_iconst (v := (0 : Int32)) hx hb dX5_text_24 (by decide) ?_
    refine zr_putN (C := RX2) (T := TX2) (n := 9) C0 hJ hP hS 2 (by decide) shX_2 3 rfl (by decide) uw_X2 tyX2 tyX2_ok nmX2 2 rfl rfl rfl ⟨rfl, rfl⟩ dX5_text_25 (fun H locs hP hS => ?_)
    obtain ⟨M_5, eM_5, hf⟩ := zL_o hf
    have hP : va_P G.1 zcl (zw G shX 64 M_5) H := by rw [eM_5]; exact hP
    refine lv_iload_n hx hb dX5_text_28 rfl (lv_at hl 0 rfl) ?_
    refine lv_iconst (v := (-1 : Int32)) hx hb dX5_text_29 (by decide) ?_
    refine lv_icmp_eq (tgt := 38) hx hb dX5_text_30 (by decide) (fun c_6 => ?_) (fun c_6 => ?_)
    · replace hf := zI_t c_6 hf
      refine lv_aload_n hx hb dX5_text_38 rfl (lv_at hl 1 rfl) ?_
      refine zr_getq (C := RX5) (T := TX5) (n := 9) C0 hP 0 (by decide) shX_0 0 1 rfl (by decide) uw_X5 mw_255 rfl dX5_text_39 ?_
      refine lv_aload_n hx hb dX5_text_42 rfl (lv_at hl 1 rfl) ?_
      refine zr_get (C := RX5) (T := TX5) (n := 9) C0 hP 0 (by decide) shX_0 7 rfl (by decide) uw_X5 mw_250 rfl dX5_text_43 ?_
      obtain ⟨hg_7, hf⟩ := zG_o hf
      refine zr_aald3 C0 hP 1 (by decide) shX_1 hg_7 dX5_text_46 ?_
      obtain ⟨q_8, eq_8, hf⟩ := zL_o hf
      rw [← eq_8]
      have hq_8 : isT q_8 := eq_8 ▸ isT_of hg_7
      refine lv_aload_n hx hb dX5_text_47 rfl (lv_at hl 1 rfl) ?_
      refine zr_getq (C := RX5) (T := TX5) (n := 9) C0 hP 0 (by decide) shX_0 1 2 rfl (by decide) uw_X5 mw_245 rfl dX5_text_48 ?_
      obtain ⟨M_9, hc_10, hf⟩ := zV_o hf
      refine zc_vv (As := [.ref (G.2.2.1 2)]) (rest := []) C0 hP hS hl.1 q_8 (mtX3_become l G hJ q_8 hq_8 M_5 _ hc_10) lk_X5_134 (isT_lt hq_8) (isT_s hq_8) (T := TX3) (n' := 3) rfl ds_X3_become (by rw [hRm]; exact ⟨Nat.le_of_ble_eq_true rfl, Nat.le_of_ble_eq_true rfl⟩) rfl rfl (Nat.le_of_ble_eq_true rfl) dX5_text_51 ⟨Nat.zero_le _, Nat.zero_le _⟩ (fun H locs hP hS => ?_)
      refine lv_aload_n hx hb dX5_text_54 rfl (lv_at hl 1 rfl) ?_
      refine lv_dup hx hb dX5_text_55 rfl ?_
      refine zr_get (C := RX5) (T := TX5) (n := 9) C0 hP 0 (by decide) shX_0 7 rfl (by decide) uw_X5 mw_250 rfl dX5_text_56 ?_
      refine lv_iconst (v := (1 : Int32)) hx hb dX5_text_59 (by decide) ?_
      refine lv_iadd hx hb dX5_text_60 ?_
      refine zr_put (C := RX5) (T := TX5) (n := 9) C0 hJ hP hS 0 (by decide) shX_0 7 rfl (by decide) uw_X5 tyX5 tyX5_ok nmX5 mw_250 rfl rfl ⟨rfl, rfl⟩ dX5_text_61 (fun H locs hP hS => ?_)
      obtain ⟨M_11, eM_11, hf⟩ := zL_o hf
      have hP : va_P G.1 zcl (zw G shX 64 M_11) H := by rw [eM_11]; exact hP
      refine lv_aload_n hx hb dX5_text_64 rfl (lv_at hl 1 rfl) ?_
      refine zr_get (C := RX5) (T := TX5) (n := 9) C0 hP 0 (by decide) shX_0 7 rfl (by decide) uw_X5 mw_250 rfl dX5_text_65 ?_
      refine lv_iconst (v := (1 : Int32)) hx hb dX5_text_68 (by decide) ?_
      refine lv_isub hx hb dX5_text_69 ?_
      exact ze_i C0 hP hS hf dX5_text_70 hQ
    · replace hf := zI_f c_6 hf
      refine lv_bipush (v := (-100 : Int32)) hx hb dX5_text_33 (by decide) ?_
      refine lv_iload_n hx hb dX5_text_35 rfl (lv_at hl 0 rfl) ?_
      refine lv_isub hx hb dX5_text_36 ?_
      exact ze_i C0 hP hS hf dX5_text_37 hQ
  · replace hf := zI_f c_1 hf
    refine lv_bipush (v := (-4 : Int32)) hx hb dX5_text_9 (by decide) ?_
    exact ze_i C0 hP hS hf dX5_text_11 hQ
def fX5_held (x1 : Int32) (x2 : Int32) (M : zM) : Option (Int32 × zM) :=
  if x1 = (0 : Int32) then
    some ((M.1 10 8), M)
  else
    if x1 = (1 : Int32) then
      some ((M.1 10 9), M)
    else
      if x1 = (2 : Int32) then
        zB (fX4_has 10 x2 M) fun r_6 M_4 =>
        if r_6 = (0 : Int32) then
          some ((-2 : Int32), M_4)
        else
          zG (zin x2 5) <|
          some ((M_4.1 12 x2.toNatClampNeg), M_4)
      else
        if x1 = (3 : Int32) then
          zB (fX4_has 10 x2 M) fun r_12 M_10 =>
          if r_12 = (0 : Int32) then
            some ((-2 : Int32), M_10)
          else
            zG (zin x2 5) <|
            some ((M_10.1 13 x2.toNatClampNeg), M_10)
        else
          if x1 = (4 : Int32) then
            zB (fX4_has 10 x2 M) fun r_18 M_16 =>
            if r_18 = (0 : Int32) then
              some ((-2 : Int32), M_16)
            else
              zG (zin x2 5) <|
              some ((M_16.1 14 x2.toNatClampNeg), M_16)
          else
            some ((-2 : Int32), M)
set_option maxHeartbeats 4000000 in
set_option maxRecDepth 100000 in
theorem mtX5_held (l : Launch) (G : zGr) (hJ : zJ G 64) (x1 : Int32) (x2 : Int32) (M : zM) (o : Int32 × zM) (hf : fX5_held x1 x2 M = some o) : zMi l G shX 64 yX5_held cX5_held 3 (some .int) 1 21 [.ref (G.2.2.1 0), .int x1, .int x2] M o := by
  intro sz
  refine zOf (by decide) (Nat.le_of_ble_eq_true rfl) ?_
  intro p e R Q s m args below meth c hRm hsz hQ C0 hP hS ls hl
  subst hsz
  replace hRm : R = { frames := 1, cells := 0, slots := 0, locals := 21 } := hRm
  have hl : lv_has ls 3 [(0, .ref (G.2.2.1 0)), (1, .int x1), (2, .int x2)] := hl
  have hx := C0.1
  have hb := C0.2.1
  have hown := C0.2.2.2.1
  have hts := C0.2.2.2.2.1
  unfold fX5_held at hf
  obtain ⟨H, eH⟩ : ∃ H, H = s.heap := ⟨_, rfl⟩
  obtain ⟨locs, el⟩ : ∃ locs : List Loc, locs = [] := ⟨_, rfl⟩
  rw [← eH] at hP ⊢
  have hS : va_S (zA G 64 s.heap.size) s.heap H locs := by rw [eH, el]; exact hS
  rw [← el]
  refine lv_iload_n hx hb dX5_held_0 rfl (lv_at hl 1 rfl) ?_
  refine if c_1 : x1 = (0 : Int32) then ?_ else ?_
  · replace hf := zI_t c_1 hf
    refine lv_tableIn (tgt := 36) hx hb dX5_held_1 (by rw [c_1]; decide) (by rw [c_1]; decide) (off := 35) (by rw [c_1]; decide) (by decide) ?_
    refine lv_aload_n hx hb dX5_held_36 rfl (lv_at hl 0 rfl) ?_
    refine zr_getq (C := RX5) (T := TX5) (n := 9) C0 hP 0 (by decide) shX_0 3 10 rfl (by decide) uw_X5 mw_260 rfl dX5_held_37 ?_
    refine zr_getN (C := RX4) (T := TX4) (n := 11) C0 hP 10 (by decide) shX_10 8 rfl (by decide) uw_X4 8 rfl rfl dX5_held_40 ?_
    exact ze_i C0 hP hS hf dX5_held_43 hQ
  · replace hf := zI_f c_1 hf
    refine if c_2 : x1 = (1 : Int32) then ?_ else ?_
    · replace hf := zI_t c_2 hf
      refine lv_tableIn (tgt := 44) hx hb dX5_held_1 (by rw [c_2]; decide) (by rw [c_2]; decide) (off := 43) (by rw [c_2]; decide) (by decide) ?_
      refine lv_aload_n hx hb dX5_held_44 rfl (lv_at hl 0 rfl) ?_
      refine zr_getq (C := RX5) (T := TX5) (n := 9) C0 hP 0 (by decide) shX_0 3 10 rfl (by decide) uw_X5 mw_260 rfl dX5_held_45 ?_
      refine zr_getN (C := RX4) (T := TX4) (n := 11) C0 hP 10 (by decide) shX_10 9 rfl (by decide) uw_X4 9 rfl rfl dX5_held_48 ?_
      exact ze_i C0 hP hS hf dX5_held_51 hQ
    · replace hf := zI_f c_2 hf
      refine if c_3 : x1 = (2 : Int32) then ?_ else ?_
      · replace hf := zI_t c_3 hf
        refine lv_tableIn (tgt := 52) hx hb dX5_held_1 (by rw [c_3]; decide) (by rw [c_3]; decide) (off := 51) (by rw [c_3]; decide) (by decide) ?_
        refine lv_aload_n hx hb dX5_held_52 rfl (lv_at hl 0 rfl) ?_
        refine zr_getq (C := RX5) (T := TX5) (n := 9) C0 hP 0 (by decide) shX_0 3 10 rfl (by decide) uw_X5 mw_260 rfl dX5_held_53 ?_
        refine lv_iload_n hx hb dX5_held_56 rfl (lv_at hl 2 rfl) ?_
        obtain ⟨r_6, M_4, hc_5, hf⟩ := zB_o hf
        refine zc_vi (As := [.int x2]) (rest := []) C0 hP hS hl.1 10 (mtX4_has l G hJ 10 isW10 x2 M _ hc_5) lk_X5_106 (by decide) shX_10 (T := TX4) (n' := 11) rfl ds_X4_has (by rw [hRm]; exact ⟨Nat.le_of_ble_eq_true rfl, Nat.le_of_ble_eq_true rfl⟩) rfl rfl (Nat.le_of_ble_eq_true rfl) dX5_held_57 ⟨Nat.zero_le _, Nat.zero_le _⟩ (fun H locs hP hS => ?_)
        refine lv_if_eq (tgt := 75) hx hb dX5_held_60 (by decide) (fun c_7 => ?_) (fun c_7 => ?_)
        · replace hf := zI_t c_7 hf
          refine lv_bipush (v := (-2 : Int32)) hx hb dX5_held_75 (by decide) ?_
          exact ze_i C0 hP hS hf dX5_held_77 hQ
        · replace hf := zI_f c_7 hf
          refine lv_aload_n hx hb dX5_held_63 rfl (lv_at hl 0 rfl) ?_
          refine zr_getq (C := RX5) (T := TX5) (n := 9) C0 hP 0 (by decide) shX_0 3 10 rfl (by decide) uw_X5 mw_260 rfl dX5_held_64 ?_
          refine zr_getqN (C := RX4) (T := TX4) (n := 11) C0 hP 10 (by decide) shX_10 2 12 rfl (by decide) uw_X4 4 rfl rfl dX5_held_67 ?_
          refine lv_iload_n hx hb dX5_held_70 rfl (lv_at hl 2 rfl) ?_
          obtain ⟨hg_8, hf⟩ := zG_o hf
          refine zr_iald C0 hP 12 (by decide) shX_12 hg_8 dX5_held_71 ?_
          refine lv_goto (tgt := 77) hx hb dX5_held_72 (by decide) ?_
          exact ze_i C0 hP hS hf dX5_held_77 hQ
      · replace hf := zI_f c_3 hf
        refine if c_9 : x1 = (3 : Int32) then ?_ else ?_
        · replace hf := zI_t c_9 hf
          refine lv_tableIn (tgt := 78) hx hb dX5_held_1 (by rw [c_9]; decide) (by rw [c_9]; decide) (off := 77) (by rw [c_9]; decide) (by decide) ?_
          refine lv_aload_n hx hb dX5_held_78 rfl (lv_at hl 0 rfl) ?_
          refine zr_getq (C := RX5) (T := TX5) (n := 9) C0 hP 0 (by decide) shX_0 3 10 rfl (by decide) uw_X5 mw_260 rfl dX5_held_79 ?_
          refine lv_iload_n hx hb dX5_held_82 rfl (lv_at hl 2 rfl) ?_
          obtain ⟨r_12, M_10, hc_11, hf⟩ := zB_o hf
          refine zc_vi (As := [.int x2]) (rest := []) C0 hP hS hl.1 10 (mtX4_has l G hJ 10 isW10 x2 M _ hc_11) lk_X5_106 (by decide) shX_10 (T := TX4) (n' := 11) rfl ds_X4_has (by rw [hRm]; exact ⟨Nat.le_of_ble_eq_true rfl, Nat.le_of_ble_eq_true rfl⟩) rfl rfl (Nat.le_of_ble_eq_true rfl) dX5_held_83 ⟨Nat.zero_le _, Nat.zero_le _⟩ (fun H locs hP hS => ?_)
          refine lv_if_eq (tgt := 101) hx hb dX5_held_86 (by decide) (fun c_13 => ?_) (fun c_13 => ?_)
          · replace hf := zI_t c_13 hf
            refine lv_bipush (v := (-2 : Int32)) hx hb dX5_held_101 (by decide) ?_
            exact ze_i C0 hP hS hf dX5_held_103 hQ
          · replace hf := zI_f c_13 hf
            refine lv_aload_n hx hb dX5_held_89 rfl (lv_at hl 0 rfl) ?_
            refine zr_getq (C := RX5) (T := TX5) (n := 9) C0 hP 0 (by decide) shX_0 3 10 rfl (by decide) uw_X5 mw_260 rfl dX5_held_90 ?_
            refine zr_getqN (C := RX4) (T := TX4) (n := 11) C0 hP 10 (by decide) shX_10 3 13 rfl (by decide) uw_X4 5 rfl rfl dX5_held_93 ?_
            refine lv_iload_n hx hb dX5_held_96 rfl (lv_at hl 2 rfl) ?_
            obtain ⟨hg_14, hf⟩ := zG_o hf
            refine zr_iald C0 hP 13 (by decide) shX_13 hg_14 dX5_held_97 ?_
            refine lv_goto (tgt := 103) hx hb dX5_held_98 (by decide) ?_
            exact ze_i C0 hP hS hf dX5_held_103 hQ
        · replace hf := zI_f c_9 hf
          refine if c_15 : x1 = (4 : Int32) then ?_ else ?_
          · replace hf := zI_t c_15 hf
            refine lv_tableIn (tgt := 104) hx hb dX5_held_1 (by rw [c_15]; decide) (by rw [c_15]; decide) (off := 103) (by rw [c_15]; decide) (by decide) ?_
            refine lv_aload_n hx hb dX5_held_104 rfl (lv_at hl 0 rfl) ?_
            refine zr_getq (C := RX5) (T := TX5) (n := 9) C0 hP 0 (by decide) shX_0 3 10 rfl (by decide) uw_X5 mw_260 rfl dX5_held_105 ?_
            refine lv_iload_n hx hb dX5_held_108 rfl (lv_at hl 2 rfl) ?_
            obtain ⟨r_18, M_16, hc_17, hf⟩ := zB_o hf
            refine zc_vi (As := [.int x2]) (rest := []) C0 hP hS hl.1 10 (mtX4_has l G hJ 10 isW10 x2 M _ hc_17) lk_X5_106 (by decide) shX_10 (T := TX4) (n' := 11) rfl ds_X4_has (by rw [hRm]; exact ⟨Nat.le_of_ble_eq_true rfl, Nat.le_of_ble_eq_true rfl⟩) rfl rfl (Nat.le_of_ble_eq_true rfl) dX5_held_109 ⟨Nat.zero_le _, Nat.zero_le _⟩ (fun H locs hP hS => ?_)
            refine lv_if_eq (tgt := 127) hx hb dX5_held_112 (by decide) (fun c_19 => ?_) (fun c_19 => ?_)
            · replace hf := zI_t c_19 hf
              refine lv_bipush (v := (-2 : Int32)) hx hb dX5_held_127 (by decide) ?_
              exact ze_i C0 hP hS hf dX5_held_129 hQ
            · replace hf := zI_f c_19 hf
              refine lv_aload_n hx hb dX5_held_115 rfl (lv_at hl 0 rfl) ?_
              refine zr_getq (C := RX5) (T := TX5) (n := 9) C0 hP 0 (by decide) shX_0 3 10 rfl (by decide) uw_X5 mw_260 rfl dX5_held_116 ?_
              refine zr_getqN (C := RX4) (T := TX4) (n := 11) C0 hP 10 (by decide) shX_10 4 14 rfl (by decide) uw_X4 6 rfl rfl dX5_held_119 ?_
              refine lv_iload_n hx hb dX5_held_122 rfl (lv_at hl 2 rfl) ?_
              obtain ⟨hg_20, hf⟩ := zG_o hf
              refine zr_iald C0 hP 14 (by decide) shX_14 hg_20 dX5_held_123 ?_
              refine lv_goto (tgt := 129) hx hb dX5_held_124 (by decide) ?_
              exact ze_i C0 hP hS hf dX5_held_129 hQ
          · replace hf := zI_f c_15 hf
            have tc_1 := lv_neT (a := 0) c_1 (by decide)
            have tc_2 := lv_neT (a := 1) c_2 (by decide)
            have tc_3 := lv_neT (a := 2) c_3 (by decide)
            have tc_9 := lv_neT (a := 3) c_9 (by decide)
            have tc_15 := lv_neT (a := 4) c_15 (by decide)
            refine lv_tableOut (tgt := 130) hx hb dX5_held_1 (by omega) (by decide) ?_
            refine lv_bipush (v := (-2 : Int32)) hx hb dX5_held_130 (by decide) ?_
            exact ze_i C0 hP hS hf dX5_held_132 hQ
def fX5_set (x1 : Int32) (x2 : Int32) (x3 : Int32) (M : zM) : Option (Int32 × zM) :=
  zB (fX5_held x1 x2 M) fun r_3 M_1 =>
  if r_3 = (-2 : Int32) then
    some ((-2 : Int32), M_1)
  else
    zB (fX5_heldMost x1 M_1) fun r_7 M_5 =>
    zB (fX5_within x3 (0 : Int32) r_7 M_5) fun r_10 M_8 =>
    if r_10 = (0 : Int32) then
      some ((-2 : Int32), M_8)
    else
      if x1 = (0 : Int32) then
        zL (zu M_8 10 8 x3) fun M_13 =>
        some (r_3, M_13)
      else
        if x1 = (1 : Int32) then
          zL (zu M_8 10 9 x3) fun M_15 =>
          some (r_3, M_15)
        else
          if x1 = (2 : Int32) then
            zG (zin x2 5) <|
            zL (zu M_8 12 x2.toNatClampNeg x3) fun M_18 =>
            some (r_3, M_18)
          else
            if x1 = (3 : Int32) then
              zG (zin x2 5) <|
              zL (zu M_8 13 x2.toNatClampNeg x3) fun M_21 =>
              some (r_3, M_21)
            else
              zG (zin x2 5) <|
              zL (zu M_8 14 x2.toNatClampNeg x3) fun M_23 =>
              some (r_3, M_23)
set_option maxHeartbeats 4000000 in
set_option maxRecDepth 100000 in
theorem mtX5_set (l : Launch) (G : zGr) (hJ : zJ G 64) (x1 : Int32) (x2 : Int32) (x3 : Int32) (M : zM) (o : Int32 × zM) (hf : fX5_set x1 x2 x3 M = some o) : zMi l G shX 64 yX5_set cX5_set 5 (some .int) 2 43 [.ref (G.2.2.1 0), .int x1, .int x2, .int x3] M o := by
  intro sz
  refine zOf (by decide) (Nat.le_of_ble_eq_true rfl) ?_
  intro p e R Q s m args below meth c hRm hsz hQ C0 hP hS ls hl
  subst hsz
  replace hRm : R = { frames := 2, cells := 0, slots := 0, locals := 43 } := hRm
  have hl : lv_has ls 5 [(0, .ref (G.2.2.1 0)), (1, .int x1), (2, .int x2), (3, .int x3)] := hl
  have hx := C0.1
  have hb := C0.2.1
  have hown := C0.2.2.2.1
  have hts := C0.2.2.2.2.1
  unfold fX5_set at hf
  obtain ⟨H, eH⟩ : ∃ H, H = s.heap := ⟨_, rfl⟩
  obtain ⟨locs, el⟩ : ∃ locs : List Loc, locs = [] := ⟨_, rfl⟩
  rw [← eH] at hP ⊢
  have hS : va_S (zA G 64 s.heap.size) s.heap H locs := by rw [eH, el]; exact hS
  rw [← el]
  refine lv_aload_n hx hb dX5_set_0 rfl (lv_at hl 0 rfl) ?_
  refine lv_iload_n hx hb dX5_set_1 rfl (lv_at hl 1 rfl) ?_
  refine lv_iload_n hx hb dX5_set_2 rfl (lv_at hl 2 rfl) ?_
  obtain ⟨r_3, M_1, hc_2, hf⟩ := zB_o hf
  refine zc_vi (As := [.int x1, .int x2]) (rest := []) C0 hP hS hl.1 0 (mtX5_held l G hJ x1 x2 M _ hc_2) lk_X5_71 (by decide) shX_0 (T := TX5) (n' := 9) rfl ds_X5_held (by rw [hRm]; exact ⟨Nat.le_of_ble_eq_true rfl, Nat.le_of_ble_eq_true rfl⟩) rfl rfl (Nat.le_of_ble_eq_true rfl) dX5_set_3 ⟨Nat.zero_le _, Nat.zero_le _⟩ (fun H locs hP hS => ?_)
  refine lv_istore (lv' := [(4, .int r_3), (0, .ref (G.2.2.1 0)), (1, .int x1), (2, .int x2), (3, .int x3)]) hx hb dX5_set_6 hl (by decide) rfl (fun ls hl => ?_)
  refine lv_iload hx hb dX5_set_8 (lv_at hl 0 rfl) ?_
  refine lv_bipush (v := (-2 : Int32)) hx hb dX5_set_10 (by decide) ?_
  refine lv_icmp_eq (tgt := 27) hx hb dX5_set_12 (by decide) (fun c_4 => ?_) (fun c_4 => ?_)
  · replace hf := zI_t c_4 hf
    refine lv_bipush (v := (-2 : Int32)) hx hb dX5_set_27 (by decide) ?_
    exact ze_i C0 hP hS hf dX5_set_29 hQ
  · replace hf := zI_f c_4 hf
    refine lv_iload_n hx hb dX5_set_15 rfl (lv_at hl 4 rfl) ?_
    refine lv_iconst (v := (0 : Int32)) hx hb dX5_set_16 (by decide) ?_
    refine lv_iload_n hx hb dX5_set_17 rfl (lv_at hl 2 rfl) ?_
    obtain ⟨r_7, M_5, hc_6, hf⟩ := zB_o hf
    refine zc_si (As := [.int x1]) (rest := [.int (0 : Int32), .int x3]) C0 hP hS hl.1 (mtX5_heldMost l G hJ x1 M_1 _ hc_6) ls_X5_75 ds_X5_heldMost (by rw [hRm]; exact ⟨Nat.le_of_ble_eq_true rfl, Nat.le_of_ble_eq_true rfl⟩) rfl rfl (Nat.le_of_ble_eq_true rfl) dX5_set_18 ⟨Nat.zero_le _, Nat.zero_le _⟩ (fun H locs hP hS => ?_)
    obtain ⟨r_10, M_8, hc_9, hf⟩ := zB_o hf
    refine zc_si (As := [.int x3, .int (0 : Int32), .int r_7]) (rest := []) C0 hP hS hl.1 (mtX5_within l G hJ x3 (0 : Int32) r_7 M_5 _ hc_9) ls_X5_78 ds_X5_within (by rw [hRm]; exact ⟨Nat.le_of_ble_eq_true rfl, Nat.le_of_ble_eq_true rfl⟩) rfl rfl (Nat.le_of_ble_eq_true rfl) dX5_set_21 ⟨Nat.zero_le _, Nat.zero_le _⟩ (fun H locs hP hS => ?_)
    refine lv_if_ne (tgt := 30) hx hb dX5_set_24 (by decide) (fun c_11 => ?_) (fun c_11 => ?_)
    · replace hf := zI_f c_11 hf
      refine lv_iload_n hx hb dX5_set_30 rfl (lv_at hl 2 rfl) ?_
      refine if c_12 : x1 = (0 : Int32) then ?_ else ?_
      · replace hf := zI_t c_12 hf
        refine lv_tableIn (tgt := 60) hx hb dX5_set_31 (by rw [c_12]; decide) (by rw [c_12]; decide) (off := 29) (by rw [c_12]; decide) (by decide) ?_
        refine lv_aload_n hx hb dX5_set_60 rfl (lv_at hl 1 rfl) ?_
        refine zr_getq (C := RX5) (T := TX5) (n := 9) C0 hP 0 (by decide) shX_0 3 10 rfl (by decide) uw_X5 mw_260 rfl dX5_set_61 ?_
        refine lv_iload_n hx hb dX5_set_64 rfl (lv_at hl 4 rfl) ?_
        refine zr_putN (C := RX4) (T := TX4) (n := 11) C0 hJ hP hS 10 (by decide) shX_10 8 rfl (by decide) uw_X4 tyX4 tyX4_ok nmX4 8 rfl rfl rfl ⟨rfl, rfl⟩ dX5_set_65 (fun H locs hP hS => ?_)
        obtain ⟨M_13, eM_13, hf⟩ := zL_o hf
        have hP : va_P G.1 zcl (zw G shX 64 M_13) H := by rw [eM_13]; exact hP
        refine lv_goto (tgt := 118) hx hb dX5_set_68 (by decide) ?_
        refine lv_iload hx hb dX5_set_118 (lv_at hl 0 rfl) ?_
        exact ze_i C0 hP hS hf dX5_set_120 hQ
      · replace hf := zI_f c_12 hf
        refine if c_14 : x1 = (1 : Int32) then ?_ else ?_
        · replace hf := zI_t c_14 hf
          refine lv_tableIn (tgt := 71) hx hb dX5_set_31 (by rw [c_14]; decide) (by rw [c_14]; decide) (off := 40) (by rw [c_14]; decide) (by decide) ?_
          refine lv_aload_n hx hb dX5_set_71 rfl (lv_at hl 1 rfl) ?_
          refine zr_getq (C := RX5) (T := TX5) (n := 9) C0 hP 0 (by decide) shX_0 3 10 rfl (by decide) uw_X5 mw_260 rfl dX5_set_72 ?_
          refine lv_iload_n hx hb dX5_set_75 rfl (lv_at hl 4 rfl) ?_
          refine zr_putN (C := RX4) (T := TX4) (n := 11) C0 hJ hP hS 10 (by decide) shX_10 9 rfl (by decide) uw_X4 tyX4 tyX4_ok nmX4 9 rfl rfl rfl ⟨rfl, rfl⟩ dX5_set_76 (fun H locs hP hS => ?_)
          obtain ⟨M_15, eM_15, hf⟩ := zL_o hf
          have hP : va_P G.1 zcl (zw G shX 64 M_15) H := by rw [eM_15]; exact hP
          refine lv_goto (tgt := 118) hx hb dX5_set_79 (by decide) ?_
          refine lv_iload hx hb dX5_set_118 (lv_at hl 0 rfl) ?_
          exact ze_i C0 hP hS hf dX5_set_120 hQ
        · replace hf := zI_f c_14 hf
          refine if c_16 : x1 = (2 : Int32) then ?_ else ?_
          · replace hf := zI_t c_16 hf
            refine lv_tableIn (tgt := 82) hx hb dX5_set_31 (by rw [c_16]; decide) (by rw [c_16]; decide) (off := 51) (by rw [c_16]; decide) (by decide) ?_
            refine lv_aload_n hx hb dX5_set_82 rfl (lv_at hl 1 rfl) ?_
            refine zr_getq (C := RX5) (T := TX5) (n := 9) C0 hP 0 (by decide) shX_0 3 10 rfl (by decide) uw_X5 mw_260 rfl dX5_set_83 ?_
            refine zr_getqN (C := RX4) (T := TX4) (n := 11) C0 hP 10 (by decide) shX_10 2 12 rfl (by decide) uw_X4 4 rfl rfl dX5_set_86 ?_
            refine lv_iload_n hx hb dX5_set_89 rfl (lv_at hl 3 rfl) ?_
            refine lv_iload_n hx hb dX5_set_90 rfl (lv_at hl 4 rfl) ?_
            obtain ⟨hg_17, hf⟩ := zG_o hf
            refine zr_iast C0 hJ hP hS 12 (by decide) shX_12 hg_17 dX5_set_91 (fun H locs hP hS => ?_)
            obtain ⟨M_18, eM_18, hf⟩ := zL_o hf
            have hP : va_P G.1 zcl (zw G shX 64 M_18) H := by rw [eM_18]; exact hP
            refine lv_goto (tgt := 118) hx hb dX5_set_92 (by decide) ?_
            refine lv_iload hx hb dX5_set_118 (lv_at hl 0 rfl) ?_
            exact ze_i C0 hP hS hf dX5_set_120 hQ
          · replace hf := zI_f c_16 hf
            refine if c_19 : x1 = (3 : Int32) then ?_ else ?_
            · replace hf := zI_t c_19 hf
              refine lv_tableIn (tgt := 95) hx hb dX5_set_31 (by rw [c_19]; decide) (by rw [c_19]; decide) (off := 64) (by rw [c_19]; decide) (by decide) ?_
              refine lv_aload_n hx hb dX5_set_95 rfl (lv_at hl 1 rfl) ?_
              refine zr_getq (C := RX5) (T := TX5) (n := 9) C0 hP 0 (by decide) shX_0 3 10 rfl (by decide) uw_X5 mw_260 rfl dX5_set_96 ?_
              refine zr_getqN (C := RX4) (T := TX4) (n := 11) C0 hP 10 (by decide) shX_10 3 13 rfl (by decide) uw_X4 5 rfl rfl dX5_set_99 ?_
              refine lv_iload_n hx hb dX5_set_102 rfl (lv_at hl 3 rfl) ?_
              refine lv_iload_n hx hb dX5_set_103 rfl (lv_at hl 4 rfl) ?_
              obtain ⟨hg_20, hf⟩ := zG_o hf
              refine zr_iast C0 hJ hP hS 13 (by decide) shX_13 hg_20 dX5_set_104 (fun H locs hP hS => ?_)
              obtain ⟨M_21, eM_21, hf⟩ := zL_o hf
              have hP : va_P G.1 zcl (zw G shX 64 M_21) H := by rw [eM_21]; exact hP
              refine lv_goto (tgt := 118) hx hb dX5_set_105 (by decide) ?_
              refine lv_iload hx hb dX5_set_118 (lv_at hl 0 rfl) ?_
              exact ze_i C0 hP hS hf dX5_set_120 hQ
            · replace hf := zI_f c_19 hf
              have tc_12 := lv_neT (a := 0) c_12 (by decide)
              have tc_14 := lv_neT (a := 1) c_14 (by decide)
              have tc_16 := lv_neT (a := 2) c_16 (by decide)
              have tc_19 := lv_neT (a := 3) c_19 (by decide)
              refine lv_tableOut (tgt := 108) hx hb dX5_set_31 (by omega) (by decide) ?_
              refine lv_aload_n hx hb dX5_set_108 rfl (lv_at hl 1 rfl) ?_
              refine zr_getq (C := RX5) (T := TX5) (n := 9) C0 hP 0 (by decide) shX_0 3 10 rfl (by decide) uw_X5 mw_260 rfl dX5_set_109 ?_
              refine zr_getqN (C := RX4) (T := TX4) (n := 11) C0 hP 10 (by decide) shX_10 4 14 rfl (by decide) uw_X4 6 rfl rfl dX5_set_112 ?_
              refine lv_iload_n hx hb dX5_set_115 rfl (lv_at hl 3 rfl) ?_
              refine lv_iload_n hx hb dX5_set_116 rfl (lv_at hl 4 rfl) ?_
              obtain ⟨hg_22, hf⟩ := zG_o hf
              refine zr_iast C0 hJ hP hS 14 (by decide) shX_14 hg_22 dX5_set_117 (fun H locs hP hS => ?_)
              obtain ⟨M_23, eM_23, hf⟩ := zL_o hf
              have hP : va_P G.1 zcl (zw G shX 64 M_23) H := by rw [eM_23]; exact hP
              refine lv_iload hx hb dX5_set_118 (lv_at hl 0 rfl) ?_
              exact ze_i C0 hP hS hf dX5_set_120 hQ
    · replace hf := zI_t c_11 hf
      refine lv_bipush (v := (-2 : Int32)) hx hb dX5_set_27 (by decide) ?_
      exact ze_i C0 hP hS hf dX5_set_29 hQ
def fX5_person (x1 : Int32) (x2 : Int32) (x3 : Int32) (M : zM) : Option (Int32 × zM) :=
  zB (fX4_canBe x1 x2 x3 M) fun r_3 M_1 =>
  if r_3 = (0 : Int32) then
    some ((-2 : Int32), M_1)
  else
    zB (fX4_come 10 x1 x2 x3 M_1) fun r_7 M_5 =>
    some (r_7, M_5)
set_option maxHeartbeats 4000000 in
set_option maxRecDepth 100000 in
theorem mtX5_person (l : Launch) (G : zGr) (hJ : zJ G 64) (x1 : Int32) (x2 : Int32) (x3 : Int32) (M : zM) (o : Int32 × zM) (hf : fX5_person x1 x2 x3 M = some o) : zMi l G shX 64 yX5_person cX5_person 4 (some .int) 2 44 [.ref (G.2.2.1 0), .int x1, .int x2, .int x3] M o := by
  intro sz
  refine zOf (by decide) (Nat.le_of_ble_eq_true rfl) ?_
  intro p e R Q s m args below meth c hRm hsz hQ C0 hP hS ls hl
  subst hsz
  replace hRm : R = { frames := 2, cells := 0, slots := 0, locals := 44 } := hRm
  have hl : lv_has ls 4 [(0, .ref (G.2.2.1 0)), (1, .int x1), (2, .int x2), (3, .int x3)] := hl
  have hx := C0.1
  have hb := C0.2.1
  have hown := C0.2.2.2.1
  have hts := C0.2.2.2.2.1
  unfold fX5_person at hf
  obtain ⟨H, eH⟩ : ∃ H, H = s.heap := ⟨_, rfl⟩
  obtain ⟨locs, el⟩ : ∃ locs : List Loc, locs = [] := ⟨_, rfl⟩
  rw [← eH] at hP ⊢
  have hS : va_S (zA G 64 s.heap.size) s.heap H locs := by rw [eH, el]; exact hS
  rw [← el]
  refine lv_iload_n hx hb dX5_person_0 rfl (lv_at hl 1 rfl) ?_
  refine lv_iload_n hx hb dX5_person_1 rfl (lv_at hl 2 rfl) ?_
  refine lv_iload_n hx hb dX5_person_2 rfl (lv_at hl 3 rfl) ?_
  obtain ⟨r_3, M_1, hc_2, hf⟩ := zB_o hf
  refine zc_si (As := [.int x1, .int x2, .int x3]) (rest := []) C0 hP hS hl.1 (mtX4_canBe l G hJ x1 x2 x3 M _ hc_2) ls_X5_99 ds_X4_canBe (by rw [hRm]; exact ⟨Nat.le_of_ble_eq_true rfl, Nat.le_of_ble_eq_true rfl⟩) rfl rfl (Nat.le_of_ble_eq_true rfl) dX5_person_3 ⟨Nat.zero_le _, Nat.zero_le _⟩ (fun H locs hP hS => ?_)
  refine lv_if_ne (tgt := 12) hx hb dX5_person_6 (by decide) (fun c_4 => ?_) (fun c_4 => ?_)
  · replace hf := zI_f c_4 hf
    refine lv_aload_n hx hb dX5_person_12 rfl (lv_at hl 0 rfl) ?_
    refine zr_getq (C := RX5) (T := TX5) (n := 9) C0 hP 0 (by decide) shX_0 3 10 rfl (by decide) uw_X5 mw_260 rfl dX5_person_13 ?_
    refine lv_iload_n hx hb dX5_person_16 rfl (lv_at hl 1 rfl) ?_
    refine lv_iload_n hx hb dX5_person_17 rfl (lv_at hl 2 rfl) ?_
    refine lv_iload_n hx hb dX5_person_18 rfl (lv_at hl 3 rfl) ?_
    obtain ⟨r_7, M_5, hc_6, hf⟩ := zB_o hf
    refine zc_vi (As := [.int x1, .int x2, .int x3]) (rest := []) C0 hP hS hl.1 10 (mtX4_come l G hJ 10 isW10 x1 x2 x3 M_1 _ hc_6) lk_X5_102 (by decide) shX_10 (T := TX4) (n' := 11) rfl ds_X4_come (by rw [hRm]; exact ⟨Nat.le_of_ble_eq_true rfl, Nat.le_of_ble_eq_true rfl⟩) rfl rfl (Nat.le_of_ble_eq_true rfl) dX5_person_19 ⟨Nat.zero_le _, Nat.zero_le _⟩ (fun H locs hP hS => ?_)
    exact ze_i C0 hP hS hf dX5_person_22 hQ
  · replace hf := zI_t c_4 hf
    refine lv_bipush (v := (-2 : Int32)) hx hb dX5_person_9 (by decide) ?_
    exact ze_i C0 hP hS hf dX5_person_11 hQ
def fX5_told (x1 : Int32) (x2 : Int32) (M : zM) : Option (Int32 × zM) :=
  if (4 : Int32) < x2 then
    zB (fX4_has 10 x1 M) fun r_4 M_2 =>
    if r_4 = (0 : Int32) then
      some ((-2 : Int32), M_2)
    else
      if x2 = (5 : Int32) then
        zG (zin x1 5) <|
        some ((M_2.1 11 x1.toNatClampNeg), M_2)
      else
        if x2 = (6 : Int32) then
          zB (fX4_runsOf 10 x1 M_2) fun r_11 M_9 =>
          some (r_11, M_9)
        else
          if x2 = (7 : Int32) then
            zB (fX4_clogsOf 10 x1 M_2) fun r_15 M_13 =>
            if r_15 = (0 : Int32) then
              some ((0 : Int32), M_13)
            else
              some ((1 : Int32), M_13)
          else
            if x2 = (8 : Int32) then
              zB (fX4_ruesOf 10 x1 M_2) fun r_20 M_18 =>
              some (r_20, M_18)
            else
              if x2 = (9 : Int32) then
                zB (fX4_minutesOf 10 x1 M_2) fun r_24 M_22 =>
                some (r_24, M_22)
              else
                some ((-2 : Int32), M_2)
  else
    zB (fX5_held x2 x1 M) fun r_27 M_25 =>
    some (r_27, M_25)
set_option maxHeartbeats 4000000 in
set_option maxRecDepth 100000 in
theorem mtX5_told (l : Launch) (G : zGr) (hJ : zJ G 64) (x1 : Int32) (x2 : Int32) (M : zM) (o : Int32 × zM) (hf : fX5_told x1 x2 M = some o) : zMi l G shX 64 yX5_told cX5_told 3 (some .int) 5 114 [.ref (G.2.2.1 0), .int x1, .int x2] M o := by
  intro sz
  refine zOf (by decide) (Nat.le_of_ble_eq_true rfl) ?_
  intro p e R Q s m args below meth c hRm hsz hQ C0 hP hS ls hl
  subst hsz
  replace hRm : R = { frames := 5, cells := 0, slots := 0, locals := 114 } := hRm
  have hl : lv_has ls 3 [(0, .ref (G.2.2.1 0)), (1, .int x1), (2, .int x2)] := hl
  have hx := C0.1
  have hb := C0.2.1
  have hown := C0.2.2.2.1
  have hts := C0.2.2.2.2.1
  unfold fX5_told at hf
  obtain ⟨H, eH⟩ : ∃ H, H = s.heap := ⟨_, rfl⟩
  obtain ⟨locs, el⟩ : ∃ locs : List Loc, locs = [] := ⟨_, rfl⟩
  rw [← eH] at hP ⊢
  have hS : va_S (zA G 64 s.heap.size) s.heap H locs := by rw [eH, el]; exact hS
  rw [← el]
  refine lv_iload_n hx hb dX5_told_0 rfl (lv_at hl 2 rfl) ?_
  refine lv_iconst (v := (4 : Int32)) hx hb dX5_told_1 (by decide) ?_
  refine lv_icmp_gt (tgt := 12) hx hb dX5_told_2 (by decide) (fun c_1 => ?_) (fun c_1 => ?_)
  · replace hf := zI_t c_1 hf
    refine lv_aload_n hx hb dX5_told_12 rfl (lv_at hl 0 rfl) ?_
    refine zr_getq (C := RX5) (T := TX5) (n := 9) C0 hP 0 (by decide) shX_0 3 10 rfl (by decide) uw_X5 mw_260 rfl dX5_told_13 ?_
    refine lv_iload_n hx hb dX5_told_16 rfl (lv_at hl 1 rfl) ?_
    obtain ⟨r_4, M_2, hc_3, hf⟩ := zB_o hf
    refine zc_vi (As := [.int x1]) (rest := []) C0 hP hS hl.1 10 (mtX4_has l G hJ 10 isW10 x1 M _ hc_3) lk_X5_106 (by decide) shX_10 (T := TX4) (n' := 11) rfl ds_X4_has (by rw [hRm]; exact ⟨Nat.le_of_ble_eq_true rfl, Nat.le_of_ble_eq_true rfl⟩) rfl rfl (Nat.le_of_ble_eq_true rfl) dX5_told_17 ⟨Nat.zero_le _, Nat.zero_le _⟩ (fun H locs hP hS => ?_)
    refine lv_if_ne (tgt := 26) hx hb dX5_told_20 (by decide) (fun c_5 => ?_) (fun c_5 => ?_)
    · replace hf := zI_f c_5 hf
      refine lv_iload_n hx hb dX5_told_26 rfl (lv_at hl 2 rfl) ?_
      refine if c_6 : x2 = (5 : Int32) then ?_ else ?_
      · replace hf := zI_t c_6 hf
        refine lv_tableIn (tgt := 60) hx hb dX5_told_27 (by rw [c_6]; decide) (by rw [c_6]; decide) (off := 33) (by rw [c_6]; decide) (by decide) ?_
        refine lv_aload_n hx hb dX5_told_60 rfl (lv_at hl 0 rfl) ?_
        refine zr_getq (C := RX5) (T := TX5) (n := 9) C0 hP 0 (by decide) shX_0 3 10 rfl (by decide) uw_X5 mw_260 rfl dX5_told_61 ?_
        refine zr_getqN (C := RX4) (T := TX4) (n := 11) C0 hP 10 (by decide) shX_10 1 11 rfl (by decide) uw_X4 3 rfl rfl dX5_told_64 ?_
        refine lv_iload_n hx hb dX5_told_67 rfl (lv_at hl 1 rfl) ?_
        obtain ⟨hg_7, hf⟩ := zG_o hf
        refine zr_iald C0 hP 11 (by decide) shX_11 hg_7 dX5_told_68 ?_
        exact ze_i C0 hP hS hf dX5_told_69 hQ
      · replace hf := zI_f c_6 hf
        refine if c_8 : x2 = (6 : Int32) then ?_ else ?_
        · replace hf := zI_t c_8 hf
          refine lv_tableIn (tgt := 70) hx hb dX5_told_27 (by rw [c_8]; decide) (by rw [c_8]; decide) (off := 43) (by rw [c_8]; decide) (by decide) ?_
          refine lv_aload_n hx hb dX5_told_70 rfl (lv_at hl 0 rfl) ?_
          refine zr_getq (C := RX5) (T := TX5) (n := 9) C0 hP 0 (by decide) shX_0 3 10 rfl (by decide) uw_X5 mw_260 rfl dX5_told_71 ?_
          refine lv_iload_n hx hb dX5_told_74 rfl (lv_at hl 1 rfl) ?_
          obtain ⟨r_11, M_9, hc_10, hf⟩ := zB_o hf
          refine zc_vi (As := [.int x1]) (rest := []) C0 hP hS hl.1 10 (mtX4_runsOf l G hJ 10 isW10 x1 M_2 _ hc_10) lk_X5_113 (by decide) shX_10 (T := TX4) (n' := 11) rfl ds_X4_runsOf (by rw [hRm]; exact ⟨Nat.le_of_ble_eq_true rfl, Nat.le_of_ble_eq_true rfl⟩) rfl rfl (Nat.le_of_ble_eq_true rfl) dX5_told_75 ⟨Nat.zero_le _, Nat.zero_le _⟩ (fun H locs hP hS => ?_)
          exact ze_i C0 hP hS hf dX5_told_78 hQ
        · replace hf := zI_f c_8 hf
          refine if c_12 : x2 = (7 : Int32) then ?_ else ?_
          · replace hf := zI_t c_12 hf
            refine lv_tableIn (tgt := 79) hx hb dX5_told_27 (by rw [c_12]; decide) (by rw [c_12]; decide) (off := 52) (by rw [c_12]; decide) (by decide) ?_
            refine lv_aload_n hx hb dX5_told_79 rfl (lv_at hl 0 rfl) ?_
            refine zr_getq (C := RX5) (T := TX5) (n := 9) C0 hP 0 (by decide) shX_0 3 10 rfl (by decide) uw_X5 mw_260 rfl dX5_told_80 ?_
            refine lv_iload_n hx hb dX5_told_83 rfl (lv_at hl 1 rfl) ?_
            obtain ⟨r_15, M_13, hc_14, hf⟩ := zB_o hf
            refine zc_vi (As := [.int x1]) (rest := []) C0 hP hS hl.1 10 (mtX4_clogsOf l G hJ 10 isW10 x1 M_2 _ hc_14) lk_X5_116 (by decide) shX_10 (T := TX4) (n' := 11) rfl ds_X4_clogsOf (by rw [hRm]; exact ⟨Nat.le_of_ble_eq_true rfl, Nat.le_of_ble_eq_true rfl⟩) rfl rfl (Nat.le_of_ble_eq_true rfl) dX5_told_84 ⟨Nat.zero_le _, Nat.zero_le _⟩ (fun H locs hP hS => ?_)
            refine lv_if_eq (tgt := 94) hx hb dX5_told_87 (by decide) (fun c_16 => ?_) (fun c_16 => ?_)
            · replace hf := zI_t c_16 hf
              refine lv_iconst (v := (0 : Int32)) hx hb dX5_told_94 (by decide) ?_
              exact ze_i C0 hP hS hf dX5_told_95 hQ
            · replace hf := zI_f c_16 hf
              refine lv_iconst (v := (1 : Int32)) hx hb dX5_told_90 (by decide) ?_
              refine lv_goto (tgt := 95) hx hb dX5_told_91 (by decide) ?_
              exact ze_i C0 hP hS hf dX5_told_95 hQ
          · replace hf := zI_f c_12 hf
            refine if c_17 : x2 = (8 : Int32) then ?_ else ?_
            · replace hf := zI_t c_17 hf
              refine lv_tableIn (tgt := 96) hx hb dX5_told_27 (by rw [c_17]; decide) (by rw [c_17]; decide) (off := 69) (by rw [c_17]; decide) (by decide) ?_
              refine lv_aload_n hx hb dX5_told_96 rfl (lv_at hl 0 rfl) ?_
              refine zr_getq (C := RX5) (T := TX5) (n := 9) C0 hP 0 (by decide) shX_0 3 10 rfl (by decide) uw_X5 mw_260 rfl dX5_told_97 ?_
              refine lv_iload_n hx hb dX5_told_100 rfl (lv_at hl 1 rfl) ?_
              obtain ⟨r_20, M_18, hc_19, hf⟩ := zB_o hf
              refine zc_vi (As := [.int x1]) (rest := []) C0 hP hS hl.1 10 (mtX4_ruesOf l G hJ 10 isW10 x1 M_2 _ hc_19) lk_X5_119 (by decide) shX_10 (T := TX4) (n' := 11) rfl ds_X4_ruesOf (by rw [hRm]; exact ⟨Nat.le_of_ble_eq_true rfl, Nat.le_of_ble_eq_true rfl⟩) rfl rfl (Nat.le_of_ble_eq_true rfl) dX5_told_101 ⟨Nat.zero_le _, Nat.zero_le _⟩ (fun H locs hP hS => ?_)
              exact ze_i C0 hP hS hf dX5_told_104 hQ
            · replace hf := zI_f c_17 hf
              refine if c_21 : x2 = (9 : Int32) then ?_ else ?_
              · replace hf := zI_t c_21 hf
                refine lv_tableIn (tgt := 105) hx hb dX5_told_27 (by rw [c_21]; decide) (by rw [c_21]; decide) (off := 78) (by rw [c_21]; decide) (by decide) ?_
                refine lv_aload_n hx hb dX5_told_105 rfl (lv_at hl 0 rfl) ?_
                refine zr_getq (C := RX5) (T := TX5) (n := 9) C0 hP 0 (by decide) shX_0 3 10 rfl (by decide) uw_X5 mw_260 rfl dX5_told_106 ?_
                refine lv_iload_n hx hb dX5_told_109 rfl (lv_at hl 1 rfl) ?_
                obtain ⟨r_24, M_22, hc_23, hf⟩ := zB_o hf
                refine zc_vi (As := [.int x1]) (rest := []) C0 hP hS hl.1 10 (mtX4_minutesOf l G hJ 10 isW10 x1 M_2 _ hc_23) lk_X5_122 (by decide) shX_10 (T := TX4) (n' := 11) rfl ds_X4_minutesOf (by rw [hRm]; exact ⟨Nat.le_of_ble_eq_true rfl, Nat.le_of_ble_eq_true rfl⟩) rfl rfl (Nat.le_of_ble_eq_true rfl) dX5_told_110 ⟨Nat.zero_le _, Nat.zero_le _⟩ (fun H locs hP hS => ?_)
                exact ze_i C0 hP hS hf dX5_told_113 hQ
              · replace hf := zI_f c_21 hf
                have tc_6 := lv_neT (a := 5) c_6 (by decide)
                have tc_8 := lv_neT (a := 6) c_8 (by decide)
                have tc_12 := lv_neT (a := 7) c_12 (by decide)
                have tc_17 := lv_neT (a := 8) c_17 (by decide)
                have tc_21 := lv_neT (a := 9) c_21 (by decide)
                refine lv_tableOut (tgt := 114) hx hb dX5_told_27 (by omega) (by decide) ?_
                refine lv_bipush (v := (-2 : Int32)) hx hb dX5_told_114 (by decide) ?_
                exact ze_i C0 hP hS hf dX5_told_116 hQ
    · replace hf := zI_t c_5 hf
      refine lv_bipush (v := (-2 : Int32)) hx hb dX5_told_23 (by decide) ?_
      exact ze_i C0 hP hS hf dX5_told_25 hQ
  · replace hf := zI_f c_1 hf
    refine lv_aload_n hx hb dX5_told_5 rfl (lv_at hl 0 rfl) ?_
    refine lv_iload_n hx hb dX5_told_6 rfl (lv_at hl 2 rfl) ?_
    refine lv_iload_n hx hb dX5_told_7 rfl (lv_at hl 1 rfl) ?_
    obtain ⟨r_27, M_25, hc_26, hf⟩ := zB_o hf
    refine zc_vi (As := [.int x2, .int x1]) (rest := []) C0 hP hS hl.1 0 (mtX5_held l G hJ x2 x1 M _ hc_26) lk_X5_71 (by decide) shX_0 (T := TX5) (n' := 9) rfl ds_X5_held (by rw [hRm]; exact ⟨Nat.le_of_ble_eq_true rfl, Nat.le_of_ble_eq_true rfl⟩) rfl rfl (Nat.le_of_ble_eq_true rfl) dX5_told_8 ⟨Nat.zero_le _, Nat.zero_le _⟩ (fun H locs hP hS => ?_)
    exact ze_i C0 hP hS hf dX5_told_11 hQ
def fX5_force (x1 : Int32) (M : zM) : Option (Int32 × zM) :=
  zB (fX5_within x1 (0 : Int32) ((M.1 0 7) - (1 : Int32)) M) fun r_3 M_1 =>
  if r_3 = (0 : Int32) then
    some ((-2 : Int32), M_1)
  else
    zL (M_1.1 10 10) fun x2_5 =>
    zL (zu M_1 10 10 x1) fun M_6 =>
    some (x2_5, M_6)
set_option maxHeartbeats 4000000 in
set_option maxRecDepth 100000 in
theorem mtX5_force (l : Launch) (G : zGr) (hJ : zJ G 64) (x1 : Int32) (M : zM) (o : Int32 × zM) (hf : fX5_force x1 M = some o) : zMi l G shX 64 yX5_force cX5_force 3 (some .int) 1 22 [.ref (G.2.2.1 0), .int x1] M o := by
  intro sz
  refine zOf (by decide) (Nat.le_of_ble_eq_true rfl) ?_
  intro p e R Q s m args below meth c hRm hsz hQ C0 hP hS ls hl
  subst hsz
  replace hRm : R = { frames := 1, cells := 0, slots := 0, locals := 22 } := hRm
  have hl : lv_has ls 3 [(0, .ref (G.2.2.1 0)), (1, .int x1)] := hl
  have hx := C0.1
  have hb := C0.2.1
  have hown := C0.2.2.2.1
  have hts := C0.2.2.2.2.1
  unfold fX5_force at hf
  obtain ⟨H, eH⟩ : ∃ H, H = s.heap := ⟨_, rfl⟩
  obtain ⟨locs, el⟩ : ∃ locs : List Loc, locs = [] := ⟨_, rfl⟩
  rw [← eH] at hP ⊢
  have hS : va_S (zA G 64 s.heap.size) s.heap H locs := by rw [eH, el]; exact hS
  rw [← el]
  refine lv_iload_n hx hb dX5_force_0 rfl (lv_at hl 1 rfl) ?_
  refine lv_iconst (v := (0 : Int32)) hx hb dX5_force_1 (by decide) ?_
  refine lv_aload_n hx hb dX5_force_2 rfl (lv_at hl 0 rfl) ?_
  refine zr_get (C := RX5) (T := TX5) (n := 9) C0 hP 0 (by decide) shX_0 7 rfl (by decide) uw_X5 mw_250 rfl dX5_force_3 ?_
  refine lv_iconst (v := (1 : Int32)) hx hb dX5_force_6 (by decide) ?_
  refine lv_isub hx hb dX5_force_7 ?_
  obtain ⟨r_3, M_1, hc_2, hf⟩ := zB_o hf
  refine zc_si (As := [.int x1, .int (0 : Int32), .int ((M.1 0 7) - (1 : Int32))]) (rest := []) C0 hP hS hl.1 (mtX5_within l G hJ x1 (0 : Int32) ((M.1 0 7) - (1 : Int32)) M _ hc_2) ls_X5_78 ds_X5_within (by rw [hRm]; exact ⟨Nat.le_of_ble_eq_true rfl, Nat.le_of_ble_eq_true rfl⟩) rfl rfl (Nat.le_of_ble_eq_true rfl) dX5_force_8 ⟨Nat.zero_le _, Nat.zero_le _⟩ (fun H locs hP hS => ?_)
  refine lv_if_ne (tgt := 17) hx hb dX5_force_11 (by decide) (fun c_4 => ?_) (fun c_4 => ?_)
  · replace hf := zI_f c_4 hf
    refine lv_aload_n hx hb dX5_force_17 rfl (lv_at hl 0 rfl) ?_
    refine zr_getq (C := RX5) (T := TX5) (n := 9) C0 hP 0 (by decide) shX_0 3 10 rfl (by decide) uw_X5 mw_260 rfl dX5_force_18 ?_
    refine zr_getN (C := RX4) (T := TX4) (n := 11) C0 hP 10 (by decide) shX_10 10 rfl (by decide) uw_X4 10 rfl rfl dX5_force_21 ?_
    refine lv_topi (fun x2_5 ex2_5 => ?_)
    replace hf := zL_e ex2_5 hf
    refine lv_istore_n (lv' := [(2, .int x2_5), (0, .ref (G.2.2.1 0)), (1, .int x1)]) hx hb dX5_force_24 rfl hl (by decide) rfl (fun ls hl => ?_)
    refine lv_aload_n hx hb dX5_force_25 rfl (lv_at hl 1 rfl) ?_
    refine zr_getq (C := RX5) (T := TX5) (n := 9) C0 hP 0 (by decide) shX_0 3 10 rfl (by decide) uw_X5 mw_260 rfl dX5_force_26 ?_
    refine lv_iload_n hx hb dX5_force_29 rfl (lv_at hl 2 rfl) ?_
    refine zr_putN (C := RX4) (T := TX4) (n := 11) C0 hJ hP hS 10 (by decide) shX_10 10 rfl (by decide) uw_X4 tyX4 tyX4_ok nmX4 10 rfl rfl rfl ⟨rfl, rfl⟩ dX5_force_30 (fun H locs hP hS => ?_)
    obtain ⟨M_6, eM_6, hf⟩ := zL_o hf
    have hP : va_P G.1 zcl (zw G shX 64 M_6) H := by rw [eM_6]; exact hP
    refine lv_iload_n hx hb dX5_force_33 rfl (lv_at hl 0 rfl) ?_
    exact ze_i C0 hP hS hf dX5_force_34 hQ
  · replace hf := zI_t c_4 hf
    refine lv_bipush (v := (-2 : Int32)) hx hb dX5_force_14 (by decide) ?_
    exact ze_i C0 hP hS hf dX5_force_16 hQ
def fX5_day (M : zM) : Option (Int32 × zM) :=
  if (M.1 10 8) < (999 : Int32) then
    zV (fX4_passDay 10 M) fun M_2 =>
    zB (fX4_rueOfAll 10 M_2) fun r_6 M_4 =>
    some (r_6, M_4)
  else
    some ((-3 : Int32), M)
set_option maxHeartbeats 4000000 in
set_option maxRecDepth 100000 in
theorem mtX5_day (l : Launch) (G : zGr) (hJ : zJ G 64) (M : zM) (o : Int32 × zM) (hf : fX5_day M = some o) : zMi l G shX 64 yX5_day cX5_day 1 (some .int) 5 114 [.ref (G.2.2.1 0)] M o := by
  intro sz
  refine zOf (by decide) (Nat.le_of_ble_eq_true rfl) ?_
  intro p e R Q s m args below meth c hRm hsz hQ C0 hP hS ls hl
  subst hsz
  replace hRm : R = { frames := 5, cells := 0, slots := 0, locals := 114 } := hRm
  have hl : lv_has ls 1 [(0, .ref (G.2.2.1 0))] := hl
  have hx := C0.1
  have hb := C0.2.1
  have hown := C0.2.2.2.1
  have hts := C0.2.2.2.2.1
  unfold fX5_day at hf
  obtain ⟨H, eH⟩ : ∃ H, H = s.heap := ⟨_, rfl⟩
  obtain ⟨locs, el⟩ : ∃ locs : List Loc, locs = [] := ⟨_, rfl⟩
  rw [← eH] at hP ⊢
  have hS : va_S (zA G 64 s.heap.size) s.heap H locs := by rw [eH, el]; exact hS
  rw [← el]
  refine lv_aload_n hx hb dX5_day_0 rfl (lv_at hl 0 rfl) ?_
  refine zr_getq (C := RX5) (T := TX5) (n := 9) C0 hP 0 (by decide) shX_0 3 10 rfl (by decide) uw_X5 mw_260 rfl dX5_day_1 ?_
  refine zr_getN (C := RX4) (T := TX4) (n := 11) C0 hP 10 (by decide) shX_10 8 rfl (by decide) uw_X4 8 rfl rfl dX5_day_4 ?_
  refine lv_sipush (v := (999 : Int32)) hx hb dX5_day_7 (by decide) ?_
  refine lv_icmp_lt (tgt := 16) hx hb dX5_day_10 (by decide) (fun c_1 => ?_) (fun c_1 => ?_)
  · replace hf := zI_t c_1 hf
    refine lv_aload_n hx hb dX5_day_16 rfl (lv_at hl 0 rfl) ?_
    refine zr_getq (C := RX5) (T := TX5) (n := 9) C0 hP 0 (by decide) shX_0 3 10 rfl (by decide) uw_X5 mw_260 rfl dX5_day_17 ?_
    obtain ⟨M_2, hc_3, hf⟩ := zV_o hf
    refine zc_vv (As := []) (rest := []) C0 hP hS hl.1 10 (mtX4_passDay l G hJ 10 isW10 M _ hc_3) lk_X5_141 (by decide) shX_10 (T := TX4) (n' := 11) rfl ds_X4_passDay (by rw [hRm]; exact ⟨Nat.le_of_ble_eq_true rfl, Nat.le_of_ble_eq_true rfl⟩) rfl rfl (Nat.le_of_ble_eq_true rfl) dX5_day_20 ⟨Nat.zero_le _, Nat.zero_le _⟩ (fun H locs hP hS => ?_)
    refine lv_aload_n hx hb dX5_day_23 rfl (lv_at hl 0 rfl) ?_
    refine zr_getq (C := RX5) (T := TX5) (n := 9) C0 hP 0 (by decide) shX_0 3 10 rfl (by decide) uw_X5 mw_260 rfl dX5_day_24 ?_
    obtain ⟨r_6, M_4, hc_5, hf⟩ := zB_o hf
    refine zc_vi (As := []) (rest := []) C0 hP hS hl.1 10 (mtX4_rueOfAll l G hJ 10 isW10 M_2 _ hc_5) lk_X5_144 (by decide) shX_10 (T := TX4) (n' := 11) rfl ds_X4_rueOfAll (by rw [hRm]; exact ⟨Nat.le_of_ble_eq_true rfl, Nat.le_of_ble_eq_true rfl⟩) rfl rfl (Nat.le_of_ble_eq_true rfl) dX5_day_27 ⟨Nat.zero_le _, Nat.zero_le _⟩ (fun H locs hP hS => ?_)
    exact ze_i C0 hP hS hf dX5_day_30 hQ
  · replace hf := zI_f c_1 hf
    refine lv_bipush (v := (-3 : Int32)) hx hb dX5_day_13 (by decide) ?_
    exact ze_i C0 hP hS hf dX5_day_15 hQ
def fX5_draw (x1 : Int32) (x2 : Int32) (x3 : Int32) (M : zM) : Option (Int32 × zM) :=
  zB (fX4_has 10 x1 M) fun r_3 M_1 =>
  if r_3 = (0 : Int32) then
    some ((-2 : Int32), M_1)
  else
    zB (fX4_has 10 x2 M_1) fun r_7 M_5 =>
    if r_7 = (0 : Int32) then
      some ((-2 : Int32), M_5)
    else
      if x1 = x2 then
        some ((-2 : Int32), M_5)
      else
        zB (fX5_within x3 (0 : Int32) (999 : Int32) M_5) fun r_12 M_10 =>
        if r_12 = (0 : Int32) then
          some ((-2 : Int32), M_10)
        else
          zG (zin x1 5) <|
          if x3 ≤ (M_10.1 13 x1.toNatClampNeg) then
            zV (fX4_drawOff 10 x1 x2 x3 M_10) fun M_16 =>
            zG (zin x1 5) <|
            some ((M_16.1 13 x1.toNatClampNeg), M_16)
          else
            some ((-3 : Int32), M_10)
set_option maxHeartbeats 4000000 in
set_option maxRecDepth 100000 in
theorem mtX5_draw (l : Launch) (G : zGr) (hJ : zJ G 64) (x1 : Int32) (x2 : Int32) (x3 : Int32) (M : zM) (o : Int32 × zM) (hf : fX5_draw x1 x2 x3 M = some o) : zMi l G shX 64 yX5_draw cX5_draw 4 (some .int) 2 47 [.ref (G.2.2.1 0), .int x1, .int x2, .int x3] M o := by
  intro sz
  refine zOf (by decide) (Nat.le_of_ble_eq_true rfl) ?_
  intro p e R Q s m args below meth c hRm hsz hQ C0 hP hS ls hl
  subst hsz
  replace hRm : R = { frames := 2, cells := 0, slots := 0, locals := 47 } := hRm
  have hl : lv_has ls 4 [(0, .ref (G.2.2.1 0)), (1, .int x1), (2, .int x2), (3, .int x3)] := hl
  have hx := C0.1
  have hb := C0.2.1
  have hown := C0.2.2.2.1
  have hts := C0.2.2.2.2.1
  unfold fX5_draw at hf
  obtain ⟨H, eH⟩ : ∃ H, H = s.heap := ⟨_, rfl⟩
  obtain ⟨locs, el⟩ : ∃ locs : List Loc, locs = [] := ⟨_, rfl⟩
  rw [← eH] at hP ⊢
  have hS : va_S (zA G 64 s.heap.size) s.heap H locs := by rw [eH, el]; exact hS
  rw [← el]
  refine lv_aload_n hx hb dX5_draw_0 rfl (lv_at hl 0 rfl) ?_
  refine zr_getq (C := RX5) (T := TX5) (n := 9) C0 hP 0 (by decide) shX_0 3 10 rfl (by decide) uw_X5 mw_260 rfl dX5_draw_1 ?_
  refine lv_iload_n hx hb dX5_draw_4 rfl (lv_at hl 1 rfl) ?_
  obtain ⟨r_3, M_1, hc_2, hf⟩ := zB_o hf
  refine zc_vi (As := [.int x1]) (rest := []) C0 hP hS hl.1 10 (mtX4_has l G hJ 10 isW10 x1 M _ hc_2) lk_X5_106 (by decide) shX_10 (T := TX4) (n' := 11) rfl ds_X4_has (by rw [hRm]; exact ⟨Nat.le_of_ble_eq_true rfl, Nat.le_of_ble_eq_true rfl⟩) rfl rfl (Nat.le_of_ble_eq_true rfl) dX5_draw_5 ⟨Nat.zero_le _, Nat.zero_le _⟩ (fun H locs hP hS => ?_)
  refine lv_if_eq (tgt := 38) hx hb dX5_draw_8 (by decide) (fun c_4 => ?_) (fun c_4 => ?_)
  · replace hf := zI_t c_4 hf
    refine lv_bipush (v := (-2 : Int32)) hx hb dX5_draw_38 (by decide) ?_
    exact ze_i C0 hP hS hf dX5_draw_40 hQ
  · replace hf := zI_f c_4 hf
    refine lv_aload_n hx hb dX5_draw_11 rfl (lv_at hl 0 rfl) ?_
    refine zr_getq (C := RX5) (T := TX5) (n := 9) C0 hP 0 (by decide) shX_0 3 10 rfl (by decide) uw_X5 mw_260 rfl dX5_draw_12 ?_
    refine lv_iload_n hx hb dX5_draw_15 rfl (lv_at hl 2 rfl) ?_
    obtain ⟨r_7, M_5, hc_6, hf⟩ := zB_o hf
    refine zc_vi (As := [.int x2]) (rest := []) C0 hP hS hl.1 10 (mtX4_has l G hJ 10 isW10 x2 M_1 _ hc_6) lk_X5_106 (by decide) shX_10 (T := TX4) (n' := 11) rfl ds_X4_has (by rw [hRm]; exact ⟨Nat.le_of_ble_eq_true rfl, Nat.le_of_ble_eq_true rfl⟩) rfl rfl (Nat.le_of_ble_eq_true rfl) dX5_draw_16 ⟨Nat.zero_le _, Nat.zero_le _⟩ (fun H locs hP hS => ?_)
    refine lv_if_eq (tgt := 38) hx hb dX5_draw_19 (by decide) (fun c_8 => ?_) (fun c_8 => ?_)
    · replace hf := zI_t c_8 hf
      refine lv_bipush (v := (-2 : Int32)) hx hb dX5_draw_38 (by decide) ?_
      exact ze_i C0 hP hS hf dX5_draw_40 hQ
    · replace hf := zI_f c_8 hf
      refine lv_iload_n hx hb dX5_draw_22 rfl (lv_at hl 1 rfl) ?_
      refine lv_iload_n hx hb dX5_draw_23 rfl (lv_at hl 2 rfl) ?_
      refine lv_icmp_eq (tgt := 38) hx hb dX5_draw_24 (by decide) (fun c_9 => ?_) (fun c_9 => ?_)
      · replace hf := zI_t c_9 hf
        refine lv_bipush (v := (-2 : Int32)) hx hb dX5_draw_38 (by decide) ?_
        exact ze_i C0 hP hS hf dX5_draw_40 hQ
      · replace hf := zI_f c_9 hf
        refine lv_iload_n hx hb dX5_draw_27 rfl (lv_at hl 3 rfl) ?_
        refine lv_iconst (v := (0 : Int32)) hx hb dX5_draw_28 (by decide) ?_
        refine lv_sipush (v := (999 : Int32)) hx hb dX5_draw_29 (by decide) ?_
        obtain ⟨r_12, M_10, hc_11, hf⟩ := zB_o hf
        refine zc_si (As := [.int x3, .int (0 : Int32), .int (999 : Int32)]) (rest := []) C0 hP hS hl.1 (mtX5_within l G hJ x3 (0 : Int32) (999 : Int32) M_5 _ hc_11) ls_X5_78 ds_X5_within (by rw [hRm]; exact ⟨Nat.le_of_ble_eq_true rfl, Nat.le_of_ble_eq_true rfl⟩) rfl rfl (Nat.le_of_ble_eq_true rfl) dX5_draw_32 ⟨Nat.zero_le _, Nat.zero_le _⟩ (fun H locs hP hS => ?_)
        refine lv_if_ne (tgt := 41) hx hb dX5_draw_35 (by decide) (fun c_13 => ?_) (fun c_13 => ?_)
        · replace hf := zI_f c_13 hf
          refine lv_aload_n hx hb dX5_draw_41 rfl (lv_at hl 0 rfl) ?_
          refine zr_getq (C := RX5) (T := TX5) (n := 9) C0 hP 0 (by decide) shX_0 3 10 rfl (by decide) uw_X5 mw_260 rfl dX5_draw_42 ?_
          refine zr_getqN (C := RX4) (T := TX4) (n := 11) C0 hP 10 (by decide) shX_10 3 13 rfl (by decide) uw_X4 5 rfl rfl dX5_draw_45 ?_
          refine lv_iload_n hx hb dX5_draw_48 rfl (lv_at hl 1 rfl) ?_
          obtain ⟨hg_14, hf⟩ := zG_o hf
          refine zr_iald C0 hP 13 (by decide) shX_13 hg_14 dX5_draw_49 ?_
          refine lv_iload_n hx hb dX5_draw_50 rfl (lv_at hl 3 rfl) ?_
          refine lv_icmp_ge (tgt := 57) hx hb dX5_draw_51 (by decide) (fun c_15 => ?_) (fun c_15 => ?_)
          · replace hf := zI_t c_15 hf
            refine lv_aload_n hx hb dX5_draw_57 rfl (lv_at hl 0 rfl) ?_
            refine zr_getq (C := RX5) (T := TX5) (n := 9) C0 hP 0 (by decide) shX_0 3 10 rfl (by decide) uw_X5 mw_260 rfl dX5_draw_58 ?_
            refine lv_iload_n hx hb dX5_draw_61 rfl (lv_at hl 1 rfl) ?_
            refine lv_iload_n hx hb dX5_draw_62 rfl (lv_at hl 2 rfl) ?_
            refine lv_iload_n hx hb dX5_draw_63 rfl (lv_at hl 3 rfl) ?_
            obtain ⟨M_16, hc_17, hf⟩ := zV_o hf
            refine zc_vv (As := [.int x1, .int x2, .int x3]) (rest := []) C0 hP hS hl.1 10 (mtX4_drawOff l G hJ 10 isW10 x1 x2 x3 M_10 _ hc_17) lk_X5_147 (by decide) shX_10 (T := TX4) (n' := 11) rfl ds_X4_drawOff (by rw [hRm]; exact ⟨Nat.le_of_ble_eq_true rfl, Nat.le_of_ble_eq_true rfl⟩) rfl rfl (Nat.le_of_ble_eq_true rfl) dX5_draw_64 ⟨Nat.zero_le _, Nat.zero_le _⟩ (fun H locs hP hS => ?_)
            refine lv_aload_n hx hb dX5_draw_67 rfl (lv_at hl 0 rfl) ?_
            refine zr_getq (C := RX5) (T := TX5) (n := 9) C0 hP 0 (by decide) shX_0 3 10 rfl (by decide) uw_X5 mw_260 rfl dX5_draw_68 ?_
            refine zr_getqN (C := RX4) (T := TX4) (n := 11) C0 hP 10 (by decide) shX_10 3 13 rfl (by decide) uw_X4 5 rfl rfl dX5_draw_71 ?_
            refine lv_iload_n hx hb dX5_draw_74 rfl (lv_at hl 1 rfl) ?_
            obtain ⟨hg_18, hf⟩ := zG_o hf
            refine zr_iald C0 hP 13 (by decide) shX_13 hg_18 dX5_draw_75 ?_
            exact ze_i C0 hP hS hf dX5_draw_76 hQ
          · replace hf := zI_f c_15 hf
            refine lv_bipush (v := (-3 : Int32)) hx hb dX5_draw_54 (by decide) ?_
            exact ze_i C0 hP hS hf dX5_draw_56 hQ
        · replace hf := zI_t c_13 hf
          refine lv_bipush (v := (-2 : Int32)) hx hb dX5_draw_38 (by decide) ?_
          exact ze_i C0 hP hS hf dX5_draw_40 hQ
def fX5_run (x1 : Int32) (x2 : Int32) (x3 : Int32) (M : zM) : Option (Int32 × zM) :=
  zB (fX4_has 10 x1 M) fun r_3 M_1 =>
  if r_3 = (0 : Int32) then
    some ((-2 : Int32), M_1)
  else
    zB (fX5_within x2 (0 : Int32) (40 : Int32) M_1) fun r_7 M_5 =>
    if r_7 = (0 : Int32) then
      some ((-2 : Int32), M_5)
    else
      zB (fX5_within x3 (0 : Int32) (2 : Int32) M_5) fun r_11 M_9 =>
      if r_11 = (0 : Int32) then
        some ((-2 : Int32), M_9)
      else
        zV (fX4_become 17 10 M_9) fun M_13 =>
        zV (fX4_passDays 17 x2 M_13) fun M_15 =>
        if x3 = (0 : Int32) then
          zG (zin x1 5) <|
          some ((M_15.1 20 x1.toNatClampNeg), M_15)
        else
          if x3 = (1 : Int32) then
            zB (fX4_minutesOf 17 x1 M_15) fun r_22 M_20 =>
            some (r_22, M_20)
          else
            zB (fX4_rueOfAll 17 M_15) fun r_25 M_23 =>
            some (r_25, M_23)
set_option maxHeartbeats 4000000 in
set_option maxRecDepth 100000 in
theorem mtX5_run (l : Launch) (G : zGr) (hJ : zJ G 64) (x1 : Int32) (x2 : Int32) (x3 : Int32) (M : zM) (o : Int32 × zM) (hf : fX5_run x1 x2 x3 M = some o) : zMi l G shX 64 yX5_run cX5_run 4 (some .int) 6 136 [.ref (G.2.2.1 0), .int x1, .int x2, .int x3] M o := by
  intro sz
  refine zOf (by decide) (Nat.le_of_ble_eq_true rfl) ?_
  intro p e R Q s m args below meth c hRm hsz hQ C0 hP hS ls hl
  subst hsz
  replace hRm : R = { frames := 6, cells := 0, slots := 0, locals := 136 } := hRm
  have hl : lv_has ls 4 [(0, .ref (G.2.2.1 0)), (1, .int x1), (2, .int x2), (3, .int x3)] := hl
  have hx := C0.1
  have hb := C0.2.1
  have hown := C0.2.2.2.1
  have hts := C0.2.2.2.2.1
  unfold fX5_run at hf
  obtain ⟨H, eH⟩ : ∃ H, H = s.heap := ⟨_, rfl⟩
  obtain ⟨locs, el⟩ : ∃ locs : List Loc, locs = [] := ⟨_, rfl⟩
  rw [← eH] at hP ⊢
  have hS : va_S (zA G 64 s.heap.size) s.heap H locs := by rw [eH, el]; exact hS
  rw [← el]
  refine lv_aload_n hx hb dX5_run_0 rfl (lv_at hl 0 rfl) ?_
  refine zr_getq (C := RX5) (T := TX5) (n := 9) C0 hP 0 (by decide) shX_0 3 10 rfl (by decide) uw_X5 mw_260 rfl dX5_run_1 ?_
  refine lv_iload_n hx hb dX5_run_4 rfl (lv_at hl 1 rfl) ?_
  obtain ⟨r_3, M_1, hc_2, hf⟩ := zB_o hf
  refine zc_vi (As := [.int x1]) (rest := []) C0 hP hS hl.1 10 (mtX4_has l G hJ 10 isW10 x1 M _ hc_2) lk_X5_106 (by decide) shX_10 (T := TX4) (n' := 11) rfl ds_X4_has (by rw [hRm]; exact ⟨Nat.le_of_ble_eq_true rfl, Nat.le_of_ble_eq_true rfl⟩) rfl rfl (Nat.le_of_ble_eq_true rfl) dX5_run_5 ⟨Nat.zero_le _, Nat.zero_le _⟩ (fun H locs hP hS => ?_)
  refine lv_if_eq (tgt := 30) hx hb dX5_run_8 (by decide) (fun c_4 => ?_) (fun c_4 => ?_)
  · replace hf := zI_t c_4 hf
    refine lv_bipush (v := (-2 : Int32)) hx hb dX5_run_30 (by decide) ?_
    exact ze_i C0 hP hS hf dX5_run_32 hQ
  · replace hf := zI_f c_4 hf
    refine lv_iload_n hx hb dX5_run_11 rfl (lv_at hl 2 rfl) ?_
    refine lv_iconst (v := (0 : Int32)) hx hb dX5_run_12 (by decide) ?_
    refine lv_bipush (v := (40 : Int32)) hx hb dX5_run_13 (by decide) ?_
    obtain ⟨r_7, M_5, hc_6, hf⟩ := zB_o hf
    refine zc_si (As := [.int x2, .int (0 : Int32), .int (40 : Int32)]) (rest := []) C0 hP hS hl.1 (mtX5_within l G hJ x2 (0 : Int32) (40 : Int32) M_1 _ hc_6) ls_X5_78 ds_X5_within (by rw [hRm]; exact ⟨Nat.le_of_ble_eq_true rfl, Nat.le_of_ble_eq_true rfl⟩) rfl rfl (Nat.le_of_ble_eq_true rfl) dX5_run_15 ⟨Nat.zero_le _, Nat.zero_le _⟩ (fun H locs hP hS => ?_)
    refine lv_if_eq (tgt := 30) hx hb dX5_run_18 (by decide) (fun c_8 => ?_) (fun c_8 => ?_)
    · replace hf := zI_t c_8 hf
      refine lv_bipush (v := (-2 : Int32)) hx hb dX5_run_30 (by decide) ?_
      exact ze_i C0 hP hS hf dX5_run_32 hQ
    · replace hf := zI_f c_8 hf
      refine lv_iload_n hx hb dX5_run_21 rfl (lv_at hl 3 rfl) ?_
      refine lv_iconst (v := (0 : Int32)) hx hb dX5_run_22 (by decide) ?_
      refine lv_iconst (v := (2 : Int32)) hx hb dX5_run_23 (by decide) ?_
      obtain ⟨r_11, M_9, hc_10, hf⟩ := zB_o hf
      refine zc_si (As := [.int x3, .int (0 : Int32), .int (2 : Int32)]) (rest := []) C0 hP hS hl.1 (mtX5_within l G hJ x3 (0 : Int32) (2 : Int32) M_5 _ hc_10) ls_X5_78 ds_X5_within (by rw [hRm]; exact ⟨Nat.le_of_ble_eq_true rfl, Nat.le_of_ble_eq_true rfl⟩) rfl rfl (Nat.le_of_ble_eq_true rfl) dX5_run_24 ⟨Nat.zero_le _, Nat.zero_le _⟩ (fun H locs hP hS => ?_)
      refine lv_if_ne (tgt := 33) hx hb dX5_run_27 (by decide) (fun c_12 => ?_) (fun c_12 => ?_)
      · replace hf := zI_f c_12 hf
        refine lv_aload_n hx hb dX5_run_33 rfl (lv_at hl 0 rfl) ?_
        refine zr_getq (C := RX5) (T := TX5) (n := 9) C0 hP 0 (by decide) shX_0 4 17 rfl (by decide) uw_X5 mw_292 rfl dX5_run_34 ?_
        refine lv_aload_n hx hb dX5_run_37 rfl (lv_at hl 0 rfl) ?_
        refine zr_getq (C := RX5) (T := TX5) (n := 9) C0 hP 0 (by decide) shX_0 3 10 rfl (by decide) uw_X5 mw_260 rfl dX5_run_38 ?_
        obtain ⟨M_13, hc_14, hf⟩ := zV_o hf
        refine zc_vv (As := [.ref (G.2.2.1 10)]) (rest := []) C0 hP hS hl.1 17 (mtX4_become l G hJ 17 isW17 10 isW10 M_9 _ hc_14) lk_X5_151 (by decide) shX_17 (T := TX4) (n' := 11) rfl ds_X4_become (by rw [hRm]; exact ⟨Nat.le_of_ble_eq_true rfl, Nat.le_of_ble_eq_true rfl⟩) rfl rfl (Nat.le_of_ble_eq_true rfl) dX5_run_41 ⟨Nat.zero_le _, Nat.zero_le _⟩ (fun H locs hP hS => ?_)
        refine lv_aload_n hx hb dX5_run_44 rfl (lv_at hl 0 rfl) ?_
        refine zr_getq (C := RX5) (T := TX5) (n := 9) C0 hP 0 (by decide) shX_0 4 17 rfl (by decide) uw_X5 mw_292 rfl dX5_run_45 ?_
        refine lv_iload_n hx hb dX5_run_48 rfl (lv_at hl 2 rfl) ?_
        obtain ⟨M_15, hc_16, hf⟩ := zV_o hf
        refine zc_vv (As := [.int x2]) (rest := []) C0 hP hS hl.1 17 (mtX4_passDays l G hJ 17 isW17 x2 M_13 _ hc_16) lk_X5_154 (by decide) shX_17 (T := TX4) (n' := 11) rfl ds_X4_passDays (by rw [hRm]; exact ⟨Nat.le_of_ble_eq_true rfl, Nat.le_of_ble_eq_true rfl⟩) rfl rfl (Nat.le_of_ble_eq_true rfl) dX5_run_49 ⟨Nat.zero_le _, Nat.zero_le _⟩ (fun H locs hP hS => ?_)
        refine lv_iload_n hx hb dX5_run_52 rfl (lv_at hl 3 rfl) ?_
        refine if c_17 : x3 = (0 : Int32) then ?_ else ?_
        · replace hf := zI_t c_17 hf
          refine lv_lookup (tgt := 80) hx hb dX5_run_53 (by decide) (off := 27) (by rw [c_17]; decide) (by decide) ?_
          refine lv_aload_n hx hb dX5_run_80 rfl (lv_at hl 0 rfl) ?_
          refine zr_getq (C := RX5) (T := TX5) (n := 9) C0 hP 0 (by decide) shX_0 4 17 rfl (by decide) uw_X5 mw_292 rfl dX5_run_81 ?_
          refine zr_getqN (C := RX4) (T := TX4) (n := 11) C0 hP 17 (by decide) shX_17 3 20 rfl (by decide) uw_X4 5 rfl rfl dX5_run_84 ?_
          refine lv_iload_n hx hb dX5_run_87 rfl (lv_at hl 1 rfl) ?_
          obtain ⟨hg_18, hf⟩ := zG_o hf
          refine zr_iald C0 hP 20 (by decide) shX_20 hg_18 dX5_run_88 ?_
          exact ze_i C0 hP hS hf dX5_run_89 hQ
        · replace hf := zI_f c_17 hf
          refine if c_19 : x3 = (1 : Int32) then ?_ else ?_
          · replace hf := zI_t c_19 hf
            refine lv_lookup (tgt := 90) hx hb dX5_run_53 (by decide) (off := 37) (by rw [c_19]; decide) (by decide) ?_
            refine lv_aload_n hx hb dX5_run_90 rfl (lv_at hl 0 rfl) ?_
            refine zr_getq (C := RX5) (T := TX5) (n := 9) C0 hP 0 (by decide) shX_0 4 17 rfl (by decide) uw_X5 mw_292 rfl dX5_run_91 ?_
            refine lv_iload_n hx hb dX5_run_94 rfl (lv_at hl 1 rfl) ?_
            obtain ⟨r_22, M_20, hc_21, hf⟩ := zB_o hf
            refine zc_vi (As := [.int x1]) (rest := []) C0 hP hS hl.1 17 (mtX4_minutesOf l G hJ 17 isW17 x1 M_15 _ hc_21) lk_X5_122 (by decide) shX_17 (T := TX4) (n' := 11) rfl ds_X4_minutesOf (by rw [hRm]; exact ⟨Nat.le_of_ble_eq_true rfl, Nat.le_of_ble_eq_true rfl⟩) rfl rfl (Nat.le_of_ble_eq_true rfl) dX5_run_95 ⟨Nat.zero_le _, Nat.zero_le _⟩ (fun H locs hP hS => ?_)
            exact ze_i C0 hP hS hf dX5_run_98 hQ
          · replace hf := zI_f c_19 hf
            refine lv_lookup (tgt := 99) hx hb dX5_run_53 (by decide) (off := 46) (by show Op.lookupswitch.offset [(0, 27), (1, 37)] _ _ = _; rw [lv_osw c_17 (by decide), lv_osw c_19 (by decide)]; rfl) (by decide) ?_
            refine lv_aload_n hx hb dX5_run_99 rfl (lv_at hl 0 rfl) ?_
            refine zr_getq (C := RX5) (T := TX5) (n := 9) C0 hP 0 (by decide) shX_0 4 17 rfl (by decide) uw_X5 mw_292 rfl dX5_run_100 ?_
            obtain ⟨r_25, M_23, hc_24, hf⟩ := zB_o hf
            refine zc_vi (As := []) (rest := []) C0 hP hS hl.1 17 (mtX4_rueOfAll l G hJ 17 isW17 M_15 _ hc_24) lk_X5_144 (by decide) shX_17 (T := TX4) (n' := 11) rfl ds_X4_rueOfAll (by rw [hRm]; exact ⟨Nat.le_of_ble_eq_true rfl, Nat.le_of_ble_eq_true rfl⟩) rfl rfl (Nat.le_of_ble_eq_true rfl) dX5_run_103 ⟨Nat.zero_le _, Nat.zero_le _⟩ (fun H locs hP hS => ?_)
            exact ze_i C0 hP hS hf dX5_run_106 hQ
      · replace hf := zI_t c_12 hf
        refine lv_bipush (v := (-2 : Int32)) hx hb dX5_run_30 (by decide) ?_
        exact ze_i C0 hP hS hf dX5_run_32 hQ
def fX5_all (x1 : Int32) (M : zM) : Option (Int32 × zM) :=
  if x1 = (0 : Int32) then
    zB (fX4_longest 10 M) fun r_4 M_2 =>
    some (r_4, M_2)
  else
    if x1 = (1 : Int32) then
      zB (fX4_longest 10 M) fun r_8 M_6 =>
      if r_8 = (-1 : Int32) then
        some ((0 : Int32), M_6)
      else
        zB (fX4_longest 10 M_6) fun r_12 M_10 =>
        zB (fX4_minutesOf 10 r_12 M_10) fun r_15 M_13 =>
        some (r_15, M_13)
    else
      if x1 = (2 : Int32) then
        zB (fX4_whoClog 10 M) fun r_19 M_17 =>
        some (r_19, M_17)
      else
        if x1 = (3 : Int32) then
          zB (fX4_mostRue 10 M) fun r_23 M_21 =>
          some (r_23, M_21)
        else
          some ((-2 : Int32), M)
set_option maxHeartbeats 4000000 in
set_option maxRecDepth 100000 in
theorem mtX5_all (l : Launch) (G : zGr) (hJ : zJ G 64) (x1 : Int32) (M : zM) (o : Int32 × zM) (hf : fX5_all x1 M = some o) : zMi l G shX 64 yX5_all cX5_all 2 (some .int) 6 138 [.ref (G.2.2.1 0), .int x1] M o := by
  intro sz
  refine zOf (by decide) (Nat.le_of_ble_eq_true rfl) ?_
  intro p e R Q s m args below meth c hRm hsz hQ C0 hP hS ls hl
  subst hsz
  replace hRm : R = { frames := 6, cells := 0, slots := 0, locals := 138 } := hRm
  have hl : lv_has ls 2 [(0, .ref (G.2.2.1 0)), (1, .int x1)] := hl
  have hx := C0.1
  have hb := C0.2.1
  have hown := C0.2.2.2.1
  have hts := C0.2.2.2.2.1
  unfold fX5_all at hf
  obtain ⟨H, eH⟩ : ∃ H, H = s.heap := ⟨_, rfl⟩
  obtain ⟨locs, el⟩ : ∃ locs : List Loc, locs = [] := ⟨_, rfl⟩
  rw [← eH] at hP ⊢
  have hS : va_S (zA G 64 s.heap.size) s.heap H locs := by rw [eH, el]; exact hS
  rw [← el]
  refine lv_iload_n hx hb dX5_all_0 rfl (lv_at hl 1 rfl) ?_
  refine if c_1 : x1 = (0 : Int32) then ?_ else ?_
  · replace hf := zI_t c_1 hf
    refine lv_tableIn (tgt := 32) hx hb dX5_all_1 (by rw [c_1]; decide) (by rw [c_1]; decide) (off := 31) (by rw [c_1]; decide) (by decide) ?_
    refine lv_aload_n hx hb dX5_all_32 rfl (lv_at hl 0 rfl) ?_
    refine zr_getq (C := RX5) (T := TX5) (n := 9) C0 hP 0 (by decide) shX_0 3 10 rfl (by decide) uw_X5 mw_260 rfl dX5_all_33 ?_
    obtain ⟨r_4, M_2, hc_3, hf⟩ := zB_o hf
    refine zc_vi (As := []) (rest := []) C0 hP hS hl.1 10 (mtX4_longest l G hJ 10 isW10 M _ hc_3) lk_X5_158 (by decide) shX_10 (T := TX4) (n' := 11) rfl ds_X4_longest (by rw [hRm]; exact ⟨Nat.le_of_ble_eq_true rfl, Nat.le_of_ble_eq_true rfl⟩) rfl rfl (Nat.le_of_ble_eq_true rfl) dX5_all_36 ⟨Nat.zero_le _, Nat.zero_le _⟩ (fun H locs hP hS => ?_)
    exact ze_i C0 hP hS hf dX5_all_39 hQ
  · replace hf := zI_f c_1 hf
    refine if c_5 : x1 = (1 : Int32) then ?_ else ?_
    · replace hf := zI_t c_5 hf
      refine lv_tableIn (tgt := 40) hx hb dX5_all_1 (by rw [c_5]; decide) (by rw [c_5]; decide) (off := 39) (by rw [c_5]; decide) (by decide) ?_
      refine lv_aload_n hx hb dX5_all_40 rfl (lv_at hl 0 rfl) ?_
      refine zr_getq (C := RX5) (T := TX5) (n := 9) C0 hP 0 (by decide) shX_0 3 10 rfl (by decide) uw_X5 mw_260 rfl dX5_all_41 ?_
      obtain ⟨r_8, M_6, hc_7, hf⟩ := zB_o hf
      refine zc_vi (As := []) (rest := []) C0 hP hS hl.1 10 (mtX4_longest l G hJ 10 isW10 M _ hc_7) lk_X5_158 (by decide) shX_10 (T := TX4) (n' := 11) rfl ds_X4_longest (by rw [hRm]; exact ⟨Nat.le_of_ble_eq_true rfl, Nat.le_of_ble_eq_true rfl⟩) rfl rfl (Nat.le_of_ble_eq_true rfl) dX5_all_44 ⟨Nat.zero_le _, Nat.zero_le _⟩ (fun H locs hP hS => ?_)
      refine lv_iconst (v := (-1 : Int32)) hx hb dX5_all_47 (by decide) ?_
      refine lv_icmp_ne (tgt := 55) hx hb dX5_all_48 (by decide) (fun c_9 => ?_) (fun c_9 => ?_)
      · replace hf := zI_f c_9 hf
        refine lv_aload_n hx hb dX5_all_55 rfl (lv_at hl 0 rfl) ?_
        refine zr_getq (C := RX5) (T := TX5) (n := 9) C0 hP 0 (by decide) shX_0 3 10 rfl (by decide) uw_X5 mw_260 rfl dX5_all_56 ?_
        refine lv_aload_n hx hb dX5_all_59 rfl (lv_at hl 0 rfl) ?_
        refine zr_getq (C := RX5) (T := TX5) (n := 9) C0 hP 0 (by decide) shX_0 3 10 rfl (by decide) uw_X5 mw_260 rfl dX5_all_60 ?_
        obtain ⟨r_12, M_10, hc_11, hf⟩ := zB_o hf
        refine zc_vi (As := []) (rest := [.ref (G.2.2.1 10)]) C0 hP hS hl.1 10 (mtX4_longest l G hJ 10 isW10 M_6 _ hc_11) lk_X5_158 (by decide) shX_10 (T := TX4) (n' := 11) rfl ds_X4_longest (by rw [hRm]; exact ⟨Nat.le_of_ble_eq_true rfl, Nat.le_of_ble_eq_true rfl⟩) rfl rfl (Nat.le_of_ble_eq_true rfl) dX5_all_63 ⟨Nat.zero_le _, Nat.zero_le _⟩ (fun H locs hP hS => ?_)
        obtain ⟨r_15, M_13, hc_14, hf⟩ := zB_o hf
        refine zc_vi (As := [.int r_12]) (rest := []) C0 hP hS hl.1 10 (mtX4_minutesOf l G hJ 10 isW10 r_12 M_10 _ hc_14) lk_X5_122 (by decide) shX_10 (T := TX4) (n' := 11) rfl ds_X4_minutesOf (by rw [hRm]; exact ⟨Nat.le_of_ble_eq_true rfl, Nat.le_of_ble_eq_true rfl⟩) rfl rfl (Nat.le_of_ble_eq_true rfl) dX5_all_66 ⟨Nat.zero_le _, Nat.zero_le _⟩ (fun H locs hP hS => ?_)
        exact ze_i C0 hP hS hf dX5_all_69 hQ
      · replace hf := zI_t c_9 hf
        refine lv_iconst (v := (0 : Int32)) hx hb dX5_all_51 (by decide) ?_
        refine lv_goto (tgt := 69) hx hb dX5_all_52 (by decide) ?_
        exact ze_i C0 hP hS hf dX5_all_69 hQ
    · replace hf := zI_f c_5 hf
      refine if c_16 : x1 = (2 : Int32) then ?_ else ?_
      · replace hf := zI_t c_16 hf
        refine lv_tableIn (tgt := 70) hx hb dX5_all_1 (by rw [c_16]; decide) (by rw [c_16]; decide) (off := 69) (by rw [c_16]; decide) (by decide) ?_
        refine lv_aload_n hx hb dX5_all_70 rfl (lv_at hl 0 rfl) ?_
        refine zr_getq (C := RX5) (T := TX5) (n := 9) C0 hP 0 (by decide) shX_0 3 10 rfl (by decide) uw_X5 mw_260 rfl dX5_all_71 ?_
        obtain ⟨r_19, M_17, hc_18, hf⟩ := zB_o hf
        refine zc_vi (As := []) (rest := []) C0 hP hS hl.1 10 (mtX4_whoClog l G hJ 10 isW10 M _ hc_18) lk_X5_161 (by decide) shX_10 (T := TX4) (n' := 11) rfl ds_X4_whoClog (by rw [hRm]; exact ⟨Nat.le_of_ble_eq_true rfl, Nat.le_of_ble_eq_true rfl⟩) rfl rfl (Nat.le_of_ble_eq_true rfl) dX5_all_74 ⟨Nat.zero_le _, Nat.zero_le _⟩ (fun H locs hP hS => ?_)
        exact ze_i C0 hP hS hf dX5_all_77 hQ
      · replace hf := zI_f c_16 hf
        refine if c_20 : x1 = (3 : Int32) then ?_ else ?_
        · replace hf := zI_t c_20 hf
          refine lv_tableIn (tgt := 78) hx hb dX5_all_1 (by rw [c_20]; decide) (by rw [c_20]; decide) (off := 77) (by rw [c_20]; decide) (by decide) ?_
          refine lv_aload_n hx hb dX5_all_78 rfl (lv_at hl 0 rfl) ?_
          refine zr_getq (C := RX5) (T := TX5) (n := 9) C0 hP 0 (by decide) shX_0 3 10 rfl (by decide) uw_X5 mw_260 rfl dX5_all_79 ?_
          obtain ⟨r_23, M_21, hc_22, hf⟩ := zB_o hf
          refine zc_vi (As := []) (rest := []) C0 hP hS hl.1 10 (mtX4_mostRue l G hJ 10 isW10 M _ hc_22) lk_X5_164 (by decide) shX_10 (T := TX4) (n' := 11) rfl ds_X4_mostRue (by rw [hRm]; exact ⟨Nat.le_of_ble_eq_true rfl, Nat.le_of_ble_eq_true rfl⟩) rfl rfl (Nat.le_of_ble_eq_true rfl) dX5_all_82 ⟨Nat.zero_le _, Nat.zero_le _⟩ (fun H locs hP hS => ?_)
          exact ze_i C0 hP hS hf dX5_all_85 hQ
        · replace hf := zI_f c_20 hf
          have tc_1 := lv_neT (a := 0) c_1 (by decide)
          have tc_5 := lv_neT (a := 1) c_5 (by decide)
          have tc_16 := lv_neT (a := 2) c_16 (by decide)
          have tc_20 := lv_neT (a := 3) c_20 (by decide)
          refine lv_tableOut (tgt := 86) hx hb dX5_all_1 (by omega) (by decide) ?_
          refine lv_bipush (v := (-2 : Int32)) hx hb dX5_all_86 (by decide) ?_
          exact ze_i C0 hP hS hf dX5_all_88 hQ
def fX5_isThree (x1 : Int32) (M : zM) : Option (Int32 × zM) :=
  zB (fX5_within x1 (0 : Int32) (999 : Int32) M) fun r_3 M_1 =>
  if r_3 = (0 : Int32) then
    some ((0 : Int32), M_1)
  else
    zL (x1 / (100 : Int32)) fun x2_5 =>
    zL (zrm (x1 / (10 : Int32)) (10 : Int32)) fun x3_6 =>
    zL (zrm x1 (10 : Int32)) fun x4_7 =>
    zB (fX4_has 10 x2_5 M_1) fun r_10 M_8 =>
    if r_10 = (0 : Int32) then
      some ((0 : Int32), M_8)
    else
      zB (fX4_has 10 x3_6 M_8) fun r_14 M_12 =>
      if r_14 = (0 : Int32) then
        some ((0 : Int32), M_12)
      else
        zB (fX4_has 10 x4_7 M_12) fun r_18 M_16 =>
        if r_18 = (0 : Int32) then
          some ((0 : Int32), M_16)
        else
          if x2_5 = x3_6 then
            some ((0 : Int32), M_16)
          else
            if x2_5 = x4_7 then
              some ((0 : Int32), M_16)
            else
              if x3_6 = x4_7 then
                some ((0 : Int32), M_16)
              else
                some ((1 : Int32), M_16)
set_option maxHeartbeats 4000000 in
set_option maxRecDepth 100000 in
theorem mtX5_isThree (l : Launch) (G : zGr) (hJ : zJ G 64) (x1 : Int32) (M : zM) (o : Int32 × zM) (hf : fX5_isThree x1 M = some o) : zMi l G shX 64 yX5_isThree cX5_isThree 5 (some .boolean) 1 22 [.ref (G.2.2.1 0), .int x1] M o := by
  intro sz
  refine zOf (by decide) (Nat.le_of_ble_eq_true rfl) ?_
  intro p e R Q s m args below meth c hRm hsz hQ C0 hP hS ls hl
  subst hsz
  replace hRm : R = { frames := 1, cells := 0, slots := 0, locals := 22 } := hRm
  have hl : lv_has ls 5 [(0, .ref (G.2.2.1 0)), (1, .int x1)] := hl
  have hx := C0.1
  have hb := C0.2.1
  have hown := C0.2.2.2.1
  have hts := C0.2.2.2.2.1
  unfold fX5_isThree at hf
  obtain ⟨H, eH⟩ : ∃ H, H = s.heap := ⟨_, rfl⟩
  obtain ⟨locs, el⟩ : ∃ locs : List Loc, locs = [] := ⟨_, rfl⟩
  rw [← eH] at hP ⊢
  have hS : va_S (zA G 64 s.heap.size) s.heap H locs := by rw [eH, el]; exact hS
  rw [← el]
  refine lv_iload_n hx hb dX5_isThree_0 rfl (lv_at hl 1 rfl) ?_
  refine lv_iconst (v := (0 : Int32)) hx hb dX5_isThree_1 (by decide) ?_
  refine lv_sipush (v := (999 : Int32)) hx hb dX5_isThree_2 (by decide) ?_
  obtain ⟨r_3, M_1, hc_2, hf⟩ := zB_o hf
  refine zc_si (As := [.int x1, .int (0 : Int32), .int (999 : Int32)]) (rest := []) C0 hP hS hl.1 (mtX5_within l G hJ x1 (0 : Int32) (999 : Int32) M _ hc_2) ls_X5_78 ds_X5_within (by rw [hRm]; exact ⟨Nat.le_of_ble_eq_true rfl, Nat.le_of_ble_eq_true rfl⟩) rfl rfl (Nat.le_of_ble_eq_true rfl) dX5_isThree_5 ⟨Nat.zero_le _, Nat.zero_le _⟩ (fun H locs hP hS => ?_)
  refine lv_if_ne (tgt := 13) hx hb dX5_isThree_8 (by decide) (fun c_4 => ?_) (fun c_4 => ?_)
  · replace hf := zI_f c_4 hf
    refine lv_iload_n hx hb dX5_isThree_13 rfl (lv_at hl 1 rfl) ?_
    refine lv_bipush (v := (100 : Int32)) hx hb dX5_isThree_14 (by decide) ?_
    refine lv_idiv hx hb dX5_isThree_16 (by decide) ?_
    refine lv_topi (fun x2_5 ex2_5 => ?_)
    replace hf := zL_e ex2_5 hf
    refine lv_istore_n (lv' := [(2, .int x2_5), (0, .ref (G.2.2.1 0)), (1, .int x1)]) hx hb dX5_isThree_17 rfl hl (by decide) rfl (fun ls hl => ?_)
    refine lv_iload_n hx hb dX5_isThree_18 rfl (lv_at hl 2 rfl) ?_
    refine lv_bipush (v := (10 : Int32)) hx hb dX5_isThree_19 (by decide) ?_
    refine lv_idiv hx hb dX5_isThree_21 (by decide) ?_
    refine lv_bipush (v := (10 : Int32)) hx hb dX5_isThree_22 (by decide) ?_
    refine zo_irem hx hb dX5_isThree_24 (by decide) ?_
    refine lv_topi (fun x3_6 ex3_6 => ?_)
    replace hf := zL_e ex3_6 hf
    refine lv_istore_n (lv' := [(3, .int x3_6), (2, .int x2_5), (0, .ref (G.2.2.1 0)), (1, .int x1)]) hx hb dX5_isThree_25 rfl hl (by decide) rfl (fun ls hl => ?_)
    refine lv_iload_n hx hb dX5_isThree_26 rfl (lv_at hl 3 rfl) ?_
    refine lv_bipush (v := (10 : Int32)) hx hb dX5_isThree_27 (by decide) ?_
    refine zo_irem hx hb dX5_isThree_29 (by decide) ?_
    refine lv_topi (fun x4_7 ex4_7 => ?_)
    replace hf := zL_e ex4_7 hf
    refine lv_istore (lv' := [(4, .int x4_7), (3, .int x3_6), (2, .int x2_5), (0, .ref (G.2.2.1 0)), (1, .int x1)]) hx hb dX5_isThree_30 hl (by decide) rfl (fun ls hl => ?_)
    refine lv_aload_n hx hb dX5_isThree_32 rfl (lv_at hl 3 rfl) ?_
    refine zr_getq (C := RX5) (T := TX5) (n := 9) C0 hP 0 (by decide) shX_0 3 10 rfl (by decide) uw_X5 mw_260 rfl dX5_isThree_33 ?_
    refine lv_iload_n hx hb dX5_isThree_36 rfl (lv_at hl 2 rfl) ?_
    obtain ⟨r_10, M_8, hc_9, hf⟩ := zB_o hf
    refine zc_vi (As := [.int x2_5]) (rest := []) C0 hP hS hl.1 10 (mtX4_has l G hJ 10 isW10 x2_5 M_1 _ hc_9) lk_X5_106 (by decide) shX_10 (T := TX4) (n' := 11) rfl ds_X4_has (by rw [hRm]; exact ⟨Nat.le_of_ble_eq_true rfl, Nat.le_of_ble_eq_true rfl⟩) rfl rfl (Nat.le_of_ble_eq_true rfl) dX5_isThree_37 ⟨Nat.zero_le _, Nat.zero_le _⟩ (fun H locs hP hS => ?_)
    refine lv_if_eq (tgt := 87) hx hb dX5_isThree_40 (by decide) (fun c_11 => ?_) (fun c_11 => ?_)
    · replace hf := zI_t c_11 hf
      refine lv_iconst (v := (0 : Int32)) hx hb dX5_isThree_87 (by decide) ?_
      exact ze_z C0 hP hS (by decide) hf dX5_isThree_88 hQ
    · replace hf := zI_f c_11 hf
      refine lv_aload_n hx hb dX5_isThree_43 rfl (lv_at hl 3 rfl) ?_
      refine zr_getq (C := RX5) (T := TX5) (n := 9) C0 hP 0 (by decide) shX_0 3 10 rfl (by decide) uw_X5 mw_260 rfl dX5_isThree_44 ?_
      refine lv_iload_n hx hb dX5_isThree_47 rfl (lv_at hl 1 rfl) ?_
      obtain ⟨r_14, M_12, hc_13, hf⟩ := zB_o hf
      refine zc_vi (As := [.int x3_6]) (rest := []) C0 hP hS hl.1 10 (mtX4_has l G hJ 10 isW10 x3_6 M_8 _ hc_13) lk_X5_106 (by decide) shX_10 (T := TX4) (n' := 11) rfl ds_X4_has (by rw [hRm]; exact ⟨Nat.le_of_ble_eq_true rfl, Nat.le_of_ble_eq_true rfl⟩) rfl rfl (Nat.le_of_ble_eq_true rfl) dX5_isThree_48 ⟨Nat.zero_le _, Nat.zero_le _⟩ (fun H locs hP hS => ?_)
      refine lv_if_eq (tgt := 87) hx hb dX5_isThree_51 (by decide) (fun c_15 => ?_) (fun c_15 => ?_)
      · replace hf := zI_t c_15 hf
        refine lv_iconst (v := (0 : Int32)) hx hb dX5_isThree_87 (by decide) ?_
        exact ze_z C0 hP hS (by decide) hf dX5_isThree_88 hQ
      · replace hf := zI_f c_15 hf
        refine lv_aload_n hx hb dX5_isThree_54 rfl (lv_at hl 3 rfl) ?_
        refine zr_getq (C := RX5) (T := TX5) (n := 9) C0 hP 0 (by decide) shX_0 3 10 rfl (by decide) uw_X5 mw_260 rfl dX5_isThree_55 ?_
        refine lv_iload hx hb dX5_isThree_58 (lv_at hl 0 rfl) ?_
        obtain ⟨r_18, M_16, hc_17, hf⟩ := zB_o hf
        refine zc_vi (As := [.int x4_7]) (rest := []) C0 hP hS hl.1 10 (mtX4_has l G hJ 10 isW10 x4_7 M_12 _ hc_17) lk_X5_106 (by decide) shX_10 (T := TX4) (n' := 11) rfl ds_X4_has (by rw [hRm]; exact ⟨Nat.le_of_ble_eq_true rfl, Nat.le_of_ble_eq_true rfl⟩) rfl rfl (Nat.le_of_ble_eq_true rfl) dX5_isThree_60 ⟨Nat.zero_le _, Nat.zero_le _⟩ (fun H locs hP hS => ?_)
        refine lv_if_eq (tgt := 87) hx hb dX5_isThree_63 (by decide) (fun c_19 => ?_) (fun c_19 => ?_)
        · replace hf := zI_t c_19 hf
          refine lv_iconst (v := (0 : Int32)) hx hb dX5_isThree_87 (by decide) ?_
          exact ze_z C0 hP hS (by decide) hf dX5_isThree_88 hQ
        · replace hf := zI_f c_19 hf
          refine lv_iload_n hx hb dX5_isThree_66 rfl (lv_at hl 2 rfl) ?_
          refine lv_iload_n hx hb dX5_isThree_67 rfl (lv_at hl 1 rfl) ?_
          refine lv_icmp_eq (tgt := 87) hx hb dX5_isThree_68 (by decide) (fun c_20 => ?_) (fun c_20 => ?_)
          · replace hf := zI_t c_20 hf
            refine lv_iconst (v := (0 : Int32)) hx hb dX5_isThree_87 (by decide) ?_
            exact ze_z C0 hP hS (by decide) hf dX5_isThree_88 hQ
          · replace hf := zI_f c_20 hf
            refine lv_iload_n hx hb dX5_isThree_71 rfl (lv_at hl 2 rfl) ?_
            refine lv_iload hx hb dX5_isThree_72 (lv_at hl 0 rfl) ?_
            refine lv_icmp_eq (tgt := 87) hx hb dX5_isThree_74 (by decide) (fun c_21 => ?_) (fun c_21 => ?_)
            · replace hf := zI_t c_21 hf
              refine lv_iconst (v := (0 : Int32)) hx hb dX5_isThree_87 (by decide) ?_
              exact ze_z C0 hP hS (by decide) hf dX5_isThree_88 hQ
            · replace hf := zI_f c_21 hf
              refine lv_iload_n hx hb dX5_isThree_77 rfl (lv_at hl 1 rfl) ?_
              refine lv_iload hx hb dX5_isThree_78 (lv_at hl 0 rfl) ?_
              refine lv_icmp_eq (tgt := 87) hx hb dX5_isThree_80 (by decide) (fun c_22 => ?_) (fun c_22 => ?_)
              · replace hf := zI_t c_22 hf
                refine lv_iconst (v := (0 : Int32)) hx hb dX5_isThree_87 (by decide) ?_
                exact ze_z C0 hP hS (by decide) hf dX5_isThree_88 hQ
              · replace hf := zI_f c_22 hf
                refine lv_iconst (v := (1 : Int32)) hx hb dX5_isThree_83 (by decide) ?_
                refine lv_goto (tgt := 88) hx hb dX5_isThree_84 (by decide) ?_
                exact ze_z C0 hP hS (by decide) hf dX5_isThree_88 hQ
  · replace hf := zI_t c_4 hf
    refine lv_iconst (v := (0 : Int32)) hx hb dX5_isThree_11 (by decide) ?_
    exact ze_z C0 hP hS (by decide) hf dX5_isThree_12 hQ
def fX5_timesOf (w : Nat) (x2 : Int32) (M : zM) : Option (Int32 × zM) :=
  zB (fX4_minutesOf w (x2 / (100 : Int32)) M) fun r_3 M_1 =>
  zB (fX4_minutesOf w (zrm (x2 / (10 : Int32)) (10 : Int32)) M_1) fun r_6 M_4 =>
  zB (fX4_minutesOf w (zrm x2 (10 : Int32)) M_4) fun r_9 M_7 =>
  zB (fX1_timesOf r_3 r_6 r_9 M_7) fun r_12 M_10 =>
  some (r_12, M_10)
set_option maxHeartbeats 4000000 in
set_option maxRecDepth 100000 in
theorem mtX5_timesOf (l : Launch) (G : zGr) (hJ : zJ G 64) (w : Nat) (hw : isW w) (x2 : Int32) (M : zM) (o : Int32 × zM) (hf : fX5_timesOf w x2 M = some o) : zMi l G shX 64 yX5_timesOf cX5_timesOf 3 (some .int) 6 153 [.ref (G.2.2.1 0), .ref (G.2.2.1 w), .int x2] M o := by
  intro sz
  refine zOf (by decide) (Nat.le_of_ble_eq_true rfl) ?_
  intro p e R Q s m args below meth c hRm hsz hQ C0 hP hS ls hl
  subst hsz
  replace hRm : R = { frames := 6, cells := 0, slots := 0, locals := 153 } := hRm
  have hl : lv_has ls 3 [(0, .ref (G.2.2.1 0)), (1, .ref (G.2.2.1 w)), (2, .int x2)] := hl
  have hx := C0.1
  have hb := C0.2.1
  have hown := C0.2.2.2.1
  have hts := C0.2.2.2.2.1
  unfold fX5_timesOf at hf
  obtain ⟨H, eH⟩ : ∃ H, H = s.heap := ⟨_, rfl⟩
  obtain ⟨locs, el⟩ : ∃ locs : List Loc, locs = [] := ⟨_, rfl⟩
  rw [← eH] at hP ⊢
  have hS : va_S (zA G 64 s.heap.size) s.heap H locs := by rw [eH, el]; exact hS
  rw [← el]
  refine lv_aload_n hx hb dX5_timesOf_0 rfl (lv_at hl 0 rfl) ?_
  refine zr_getq (C := RX5) (T := TX5) (n := 9) C0 hP 0 (by decide) shX_0 2 6 rfl (by decide) uw_X5 mw_310 rfl dX5_timesOf_1 ?_
  refine lv_aload_n hx hb dX5_timesOf_4 rfl (lv_at hl 1 rfl) ?_
  refine lv_iload_n hx hb dX5_timesOf_5 rfl (lv_at hl 2 rfl) ?_
  refine lv_bipush (v := (100 : Int32)) hx hb dX5_timesOf_6 (by decide) ?_
  refine lv_idiv hx hb dX5_timesOf_8 (by decide) ?_
  obtain ⟨r_3, M_1, hc_2, hf⟩ := zB_o hf
  refine zc_vi (As := [.int (x2 / (100 : Int32))]) (rest := [.ref (G.2.2.1 6)]) C0 hP hS hl.1 w (mtX4_minutesOf l G hJ w hw (x2 / (100 : Int32)) M _ hc_2) lk_X5_122 (isW_lt hw) (isW_s hw) (T := TX4) (n' := 11) rfl ds_X4_minutesOf (by rw [hRm]; exact ⟨Nat.le_of_ble_eq_true rfl, Nat.le_of_ble_eq_true rfl⟩) rfl rfl (Nat.le_of_ble_eq_true rfl) dX5_timesOf_9 ⟨Nat.zero_le _, Nat.zero_le _⟩ (fun H locs hP hS => ?_)
  refine lv_aload_n hx hb dX5_timesOf_12 rfl (lv_at hl 1 rfl) ?_
  refine lv_iload_n hx hb dX5_timesOf_13 rfl (lv_at hl 2 rfl) ?_
  refine lv_bipush (v := (10 : Int32)) hx hb dX5_timesOf_14 (by decide) ?_
  refine lv_idiv hx hb dX5_timesOf_16 (by decide) ?_
  refine lv_bipush (v := (10 : Int32)) hx hb dX5_timesOf_17 (by decide) ?_
  refine zo_irem hx hb dX5_timesOf_19 (by decide) ?_
  obtain ⟨r_6, M_4, hc_5, hf⟩ := zB_o hf
  refine zc_vi (As := [.int (zrm (x2 / (10 : Int32)) (10 : Int32))]) (rest := [.int r_3, .ref (G.2.2.1 6)]) C0 hP hS hl.1 w (mtX4_minutesOf l G hJ w hw (zrm (x2 / (10 : Int32)) (10 : Int32)) M_1 _ hc_5) lk_X5_122 (isW_lt hw) (isW_s hw) (T := TX4) (n' := 11) rfl ds_X4_minutesOf (by rw [hRm]; exact ⟨Nat.le_of_ble_eq_true rfl, Nat.le_of_ble_eq_true rfl⟩) rfl rfl (Nat.le_of_ble_eq_true rfl) dX5_timesOf_20 ⟨Nat.zero_le _, Nat.zero_le _⟩ (fun H locs hP hS => ?_)
  refine lv_aload_n hx hb dX5_timesOf_23 rfl (lv_at hl 1 rfl) ?_
  refine lv_iload_n hx hb dX5_timesOf_24 rfl (lv_at hl 2 rfl) ?_
  refine lv_bipush (v := (10 : Int32)) hx hb dX5_timesOf_25 (by decide) ?_
  refine zo_irem hx hb dX5_timesOf_27 (by decide) ?_
  obtain ⟨r_9, M_7, hc_8, hf⟩ := zB_o hf
  refine zc_vi (As := [.int (zrm x2 (10 : Int32))]) (rest := [.int r_6, .int r_3, .ref (G.2.2.1 6)]) C0 hP hS hl.1 w (mtX4_minutesOf l G hJ w hw (zrm x2 (10 : Int32)) M_4 _ hc_8) lk_X5_122 (isW_lt hw) (isW_s hw) (T := TX4) (n' := 11) rfl ds_X4_minutesOf (by rw [hRm]; exact ⟨Nat.le_of_ble_eq_true rfl, Nat.le_of_ble_eq_true rfl⟩) rfl rfl (Nat.le_of_ble_eq_true rfl) dX5_timesOf_28 ⟨Nat.zero_le _, Nat.zero_le _⟩ (fun H locs hP hS => ?_)
  obtain ⟨r_12, M_10, hc_11, hf⟩ := zB_o hf
  refine zc_vi (As := [.int r_3, .int r_6, .int r_9]) (rest := []) C0 hP hS hl.1 6 (mtX1_timesOf l G hJ r_3 r_6 r_9 M_7 _ hc_11) lk_X5_197 (by decide) shX_6 (T := TX1) (n' := 7) rfl ds_X1_timesOf (by rw [hRm]; exact ⟨Nat.le_of_ble_eq_true rfl, Nat.le_of_ble_eq_true rfl⟩) rfl rfl (Nat.le_of_ble_eq_true rfl) dX5_timesOf_31 ⟨Nat.zero_le _, Nat.zero_le _⟩ (fun H locs hP hS => ?_)
  exact ze_i C0 hP hS hf dX5_timesOf_34 hQ
def fX5_layGlasses (x1 : Int32) (M : zM) : Option (zM) :=
  zB (fX4_minutesOf 10 (x1 / (100 : Int32)) M) fun r_3 M_1 =>
  zB (fX4_minutesOf 10 (zrm (x1 / (10 : Int32)) (10 : Int32)) M_1) fun r_6 M_4 =>
  zB (fX4_minutesOf 10 (zrm x1 (10 : Int32)) M_4) fun r_9 M_7 =>
  zV (fX1_lay r_3 r_6 r_9 M_7) fun M_10 =>
  some M_10
set_option maxHeartbeats 4000000 in
set_option maxRecDepth 100000 in
theorem mtX5_layGlasses (l : Launch) (G : zGr) (hJ : zJ G 64) (x1 : Int32) (M : zM) (o : zM) (hf : fX5_layGlasses x1 M = some o) : zMv l G shX 64 yX5_layGlasses cX5_layGlasses 2 none 5 129 [.ref (G.2.2.1 0), .int x1] M o := by
  intro sz
  refine zOf (by decide) (Nat.le_of_ble_eq_true rfl) ?_
  intro p e R Q s m args below meth c hRm hsz hQ C0 hP hS ls hl
  subst hsz
  replace hRm : R = { frames := 5, cells := 0, slots := 0, locals := 129 } := hRm
  have hl : lv_has ls 2 [(0, .ref (G.2.2.1 0)), (1, .int x1)] := hl
  have hx := C0.1
  have hb := C0.2.1
  have hown := C0.2.2.2.1
  have hts := C0.2.2.2.2.1
  unfold fX5_layGlasses at hf
  obtain ⟨H, eH⟩ : ∃ H, H = s.heap := ⟨_, rfl⟩
  obtain ⟨locs, el⟩ : ∃ locs : List Loc, locs = [] := ⟨_, rfl⟩
  rw [← eH] at hP ⊢
  have hS : va_S (zA G 64 s.heap.size) s.heap H locs := by rw [eH, el]; exact hS
  rw [← el]
  refine lv_aload_n hx hb dX5_layGlasses_0 rfl (lv_at hl 0 rfl) ?_
  refine zr_getq (C := RX5) (T := TX5) (n := 9) C0 hP 0 (by decide) shX_0 2 6 rfl (by decide) uw_X5 mw_310 rfl dX5_layGlasses_1 ?_
  refine lv_aload_n hx hb dX5_layGlasses_4 rfl (lv_at hl 0 rfl) ?_
  refine zr_getq (C := RX5) (T := TX5) (n := 9) C0 hP 0 (by decide) shX_0 3 10 rfl (by decide) uw_X5 mw_260 rfl dX5_layGlasses_5 ?_
  refine lv_iload_n hx hb dX5_layGlasses_8 rfl (lv_at hl 1 rfl) ?_
  refine lv_bipush (v := (100 : Int32)) hx hb dX5_layGlasses_9 (by decide) ?_
  refine lv_idiv hx hb dX5_layGlasses_11 (by decide) ?_
  obtain ⟨r_3, M_1, hc_2, hf⟩ := zB_o hf
  refine zc_vi (As := [.int (x1 / (100 : Int32))]) (rest := [.ref (G.2.2.1 6)]) C0 hP hS hl.1 10 (mtX4_minutesOf l G hJ 10 isW10 (x1 / (100 : Int32)) M _ hc_2) lk_X5_122 (by decide) shX_10 (T := TX4) (n' := 11) rfl ds_X4_minutesOf (by rw [hRm]; exact ⟨Nat.le_of_ble_eq_true rfl, Nat.le_of_ble_eq_true rfl⟩) rfl rfl (Nat.le_of_ble_eq_true rfl) dX5_layGlasses_12 ⟨Nat.zero_le _, Nat.zero_le _⟩ (fun H locs hP hS => ?_)
  refine lv_aload_n hx hb dX5_layGlasses_15 rfl (lv_at hl 0 rfl) ?_
  refine zr_getq (C := RX5) (T := TX5) (n := 9) C0 hP 0 (by decide) shX_0 3 10 rfl (by decide) uw_X5 mw_260 rfl dX5_layGlasses_16 ?_
  refine lv_iload_n hx hb dX5_layGlasses_19 rfl (lv_at hl 1 rfl) ?_
  refine lv_bipush (v := (10 : Int32)) hx hb dX5_layGlasses_20 (by decide) ?_
  refine lv_idiv hx hb dX5_layGlasses_22 (by decide) ?_
  refine lv_bipush (v := (10 : Int32)) hx hb dX5_layGlasses_23 (by decide) ?_
  refine zo_irem hx hb dX5_layGlasses_25 (by decide) ?_
  obtain ⟨r_6, M_4, hc_5, hf⟩ := zB_o hf
  refine zc_vi (As := [.int (zrm (x1 / (10 : Int32)) (10 : Int32))]) (rest := [.int r_3, .ref (G.2.2.1 6)]) C0 hP hS hl.1 10 (mtX4_minutesOf l G hJ 10 isW10 (zrm (x1 / (10 : Int32)) (10 : Int32)) M_1 _ hc_5) lk_X5_122 (by decide) shX_10 (T := TX4) (n' := 11) rfl ds_X4_minutesOf (by rw [hRm]; exact ⟨Nat.le_of_ble_eq_true rfl, Nat.le_of_ble_eq_true rfl⟩) rfl rfl (Nat.le_of_ble_eq_true rfl) dX5_layGlasses_26 ⟨Nat.zero_le _, Nat.zero_le _⟩ (fun H locs hP hS => ?_)
  refine lv_aload_n hx hb dX5_layGlasses_29 rfl (lv_at hl 0 rfl) ?_
  refine zr_getq (C := RX5) (T := TX5) (n := 9) C0 hP 0 (by decide) shX_0 3 10 rfl (by decide) uw_X5 mw_260 rfl dX5_layGlasses_30 ?_
  refine lv_iload_n hx hb dX5_layGlasses_33 rfl (lv_at hl 1 rfl) ?_
  refine lv_bipush (v := (10 : Int32)) hx hb dX5_layGlasses_34 (by decide) ?_
  refine zo_irem hx hb dX5_layGlasses_36 (by decide) ?_
  obtain ⟨r_9, M_7, hc_8, hf⟩ := zB_o hf
  refine zc_vi (As := [.int (zrm x1 (10 : Int32))]) (rest := [.int r_6, .int r_3, .ref (G.2.2.1 6)]) C0 hP hS hl.1 10 (mtX4_minutesOf l G hJ 10 isW10 (zrm x1 (10 : Int32)) M_4 _ hc_8) lk_X5_122 (by decide) shX_10 (T := TX4) (n' := 11) rfl ds_X4_minutesOf (by rw [hRm]; exact ⟨Nat.le_of_ble_eq_true rfl, Nat.le_of_ble_eq_true rfl⟩) rfl rfl (Nat.le_of_ble_eq_true rfl) dX5_layGlasses_37 ⟨Nat.zero_le _, Nat.zero_le _⟩ (fun H locs hP hS => ?_)
  obtain ⟨M_10, hc_11, hf⟩ := zV_o hf
  refine zc_vv (As := [.int r_3, .int r_6, .int r_9]) (rest := []) C0 hP hS hl.1 6 (mtX1_lay l G hJ r_3 r_6 r_9 M_7 _ hc_11) lk_X5_199 (by decide) shX_6 (T := TX1) (n' := 7) rfl ds_X1_lay (by rw [hRm]; exact ⟨Nat.le_of_ble_eq_true rfl, Nat.le_of_ble_eq_true rfl⟩) rfl rfl (Nat.le_of_ble_eq_true rfl) dX5_layGlasses_40 ⟨Nat.zero_le _, Nat.zero_le _⟩ (fun H locs hP hS => ?_)
  exact ze_v C0 hP hS hf dX5_layGlasses_43 hQ
def fX5_times (x1 : Int32) (M : zM) : Option (Int64 × zM) :=
  zB (fX5_isThree x1 M) fun r_3 M_1 =>
  if r_3 = (0 : Int32) then
    some ((-4611686018427387904 : Int64), M_1)
  else
    zB (fX5_timesOf 10 x1 M_1) fun r_7 M_5 =>
    some (r_7.toInt64, M_5)
set_option maxHeartbeats 4000000 in
set_option maxRecDepth 100000 in
theorem mtX5_times (l : Launch) (G : zGr) (hJ : zJ G 64) (x1 : Int32) (M : zM) (o : Int64 × zM) (hf : fX5_times x1 M = some o) : zMl l G shX 64 yX5_times cX5_times 2 (some .long) 7 175 [.ref (G.2.2.1 0), .int x1] M o := by
  intro sz
  refine zOf (by decide) (Nat.le_of_ble_eq_true rfl) ?_
  intro p e R Q s m args below meth c hRm hsz hQ C0 hP hS ls hl
  subst hsz
  replace hRm : R = { frames := 7, cells := 0, slots := 0, locals := 175 } := hRm
  have hl : lv_has ls 2 [(0, .ref (G.2.2.1 0)), (1, .int x1)] := hl
  have hx := C0.1
  have hb := C0.2.1
  have hown := C0.2.2.2.1
  have hts := C0.2.2.2.2.1
  unfold fX5_times at hf
  obtain ⟨H, eH⟩ : ∃ H, H = s.heap := ⟨_, rfl⟩
  obtain ⟨locs, el⟩ : ∃ locs : List Loc, locs = [] := ⟨_, rfl⟩
  rw [← eH] at hP ⊢
  have hS : va_S (zA G 64 s.heap.size) s.heap H locs := by rw [eH, el]; exact hS
  rw [← el]
  refine lv_aload_n hx hb dX5_times_0 rfl (lv_at hl 0 rfl) ?_
  refine lv_iload_n hx hb dX5_times_1 rfl (lv_at hl 1 rfl) ?_
  obtain ⟨r_3, M_1, hc_2, hf⟩ := zB_o hf
  refine zc_vi (As := [.int x1]) (rest := []) C0 hP hS hl.1 0 (mtX5_isThree l G hJ x1 M _ hc_2) lk_X5_167 (by decide) shX_0 (T := TX5) (n' := 9) rfl ds_X5_isThree (by rw [hRm]; exact ⟨Nat.le_of_ble_eq_true rfl, Nat.le_of_ble_eq_true rfl⟩) rfl rfl (Nat.le_of_ble_eq_true rfl) dX5_times_2 ⟨Nat.zero_le _, Nat.zero_le _⟩ (fun H locs hP hS => ?_)
  refine lv_if_ne (tgt := 12) hx hb dX5_times_5 (by decide) (fun c_4 => ?_) (fun c_4 => ?_)
  · replace hf := zI_f c_4 hf
    refine lv_aload_n hx hb dX5_times_12 rfl (lv_at hl 0 rfl) ?_
    refine lv_aload_n hx hb dX5_times_13 rfl (lv_at hl 0 rfl) ?_
    refine zr_getq (C := RX5) (T := TX5) (n := 9) C0 hP 0 (by decide) shX_0 3 10 rfl (by decide) uw_X5 mw_260 rfl dX5_times_14 ?_
    refine lv_iload_n hx hb dX5_times_17 rfl (lv_at hl 1 rfl) ?_
    obtain ⟨r_7, M_5, hc_6, hf⟩ := zB_o hf
    refine zc_vi (As := [.ref (G.2.2.1 10), .int x1]) (rest := []) C0 hP hS hl.1 0 (mtX5_timesOf l G hJ 10 isW10 x1 M_1 _ hc_6) lk_X5_172 (by decide) shX_0 (T := TX5) (n' := 9) rfl ds_X5_timesOf (by rw [hRm]; exact ⟨Nat.le_of_ble_eq_true rfl, Nat.le_of_ble_eq_true rfl⟩) rfl rfl (Nat.le_of_ble_eq_true rfl) dX5_times_18 ⟨Nat.zero_le _, Nat.zero_le _⟩ (fun H locs hP hS => ?_)
    refine zo_i2l hx hb dX5_times_21 ?_
    exact ze_l C0 hP hS hf dX5_times_22 hQ
  · replace hf := zI_t c_4 hf
    refine lv_ldc2 (v := (-4611686018427387904 : Int64)) hx hb hown (hts _ mw_324) dX5_times_8 ?_
    exact ze_l C0 hP hS hf dX5_times_11 hQ
def fX5_fewest (x1 : Int32) (x2 : Int32) (x3 : Int32) (M : zM) : Option (Int32 × zM) :=
  zB (fX5_isThree x1 M) fun r_3 M_1 =>
  if r_3 = (0 : Int32) then
    some ((-2 : Int32), M_1)
  else
    zB (fX5_isMinute x2 M_1) fun r_7 M_5 =>
    if r_7 = (0 : Int32) then
      some ((-2 : Int32), M_5)
    else
      zB (fX5_within x3 (0 : Int32) (2 : Int32) M_5) fun r_11 M_9 =>
      if r_11 = (0 : Int32) then
        some ((-2 : Int32), M_9)
      else
        if x3 = (2 : Int32) then
          zB (fX5_timesOf 10 x1 M_9) fun r_25 M_23 =>
          zB (fX5_nextTold r_25 x2 M_23) fun r_28 M_26 =>
          some (r_28, M_26)
        else
          zV (fX5_layGlasses x1 M_9) fun M_14 =>
          if x3 = (0 : Int32) then
            zB (fX1_turnsTill x2 M_14) fun r_22 M_20 =>
            some (r_22, M_20)
          else
            zB (fX1_wayTill x2 M_14) fun r_19 M_17 =>
            some (r_19, M_17)
set_option maxHeartbeats 4000000 in
set_option maxRecDepth 100000 in
theorem mtX5_fewest (l : Launch) (G : zGr) (hJ : zJ G 64) (x1 : Int32) (x2 : Int32) (x3 : Int32) (M : zM) (o : Int32 × zM) (hf : fX5_fewest x1 x2 x3 M = some o) : zMi l G shX 64 yX5_fewest cX5_fewest 4 (some .int) 7 175 [.ref (G.2.2.1 0), .int x1, .int x2, .int x3] M o := by
  intro sz
  refine zOf (by decide) (Nat.le_of_ble_eq_true rfl) ?_
  intro p e R Q s m args below meth c hRm hsz hQ C0 hP hS ls hl
  subst hsz
  replace hRm : R = { frames := 7, cells := 0, slots := 0, locals := 175 } := hRm
  have hl : lv_has ls 4 [(0, .ref (G.2.2.1 0)), (1, .int x1), (2, .int x2), (3, .int x3)] := hl
  have hx := C0.1
  have hb := C0.2.1
  have hown := C0.2.2.2.1
  have hts := C0.2.2.2.2.1
  unfold fX5_fewest at hf
  obtain ⟨H, eH⟩ : ∃ H, H = s.heap := ⟨_, rfl⟩
  obtain ⟨locs, el⟩ : ∃ locs : List Loc, locs = [] := ⟨_, rfl⟩
  rw [← eH] at hP ⊢
  have hS : va_S (zA G 64 s.heap.size) s.heap H locs := by rw [eH, el]; exact hS
  rw [← el]
  refine lv_aload_n hx hb dX5_fewest_0 rfl (lv_at hl 0 rfl) ?_
  refine lv_iload_n hx hb dX5_fewest_1 rfl (lv_at hl 1 rfl) ?_
  obtain ⟨r_3, M_1, hc_2, hf⟩ := zB_o hf
  refine zc_vi (As := [.int x1]) (rest := []) C0 hP hS hl.1 0 (mtX5_isThree l G hJ x1 M _ hc_2) lk_X5_167 (by decide) shX_0 (T := TX5) (n' := 9) rfl ds_X5_isThree (by rw [hRm]; exact ⟨Nat.le_of_ble_eq_true rfl, Nat.le_of_ble_eq_true rfl⟩) rfl rfl (Nat.le_of_ble_eq_true rfl) dX5_fewest_2 ⟨Nat.zero_le _, Nat.zero_le _⟩ (fun H locs hP hS => ?_)
  refine lv_if_eq (tgt := 24) hx hb dX5_fewest_5 (by decide) (fun c_4 => ?_) (fun c_4 => ?_)
  · replace hf := zI_t c_4 hf
    refine lv_bipush (v := (-2 : Int32)) hx hb dX5_fewest_24 (by decide) ?_
    exact ze_i C0 hP hS hf dX5_fewest_26 hQ
  · replace hf := zI_f c_4 hf
    refine lv_iload_n hx hb dX5_fewest_8 rfl (lv_at hl 2 rfl) ?_
    obtain ⟨r_7, M_5, hc_6, hf⟩ := zB_o hf
    refine zc_si (As := [.int x2]) (rest := []) C0 hP hS hl.1 (mtX5_isMinute l G hJ x2 M_1 _ hc_6) ls_X5_176 ds_X5_isMinute (by rw [hRm]; exact ⟨Nat.le_of_ble_eq_true rfl, Nat.le_of_ble_eq_true rfl⟩) rfl rfl (Nat.le_of_ble_eq_true rfl) dX5_fewest_9 ⟨Nat.zero_le _, Nat.zero_le _⟩ (fun H locs hP hS => ?_)
    refine lv_if_eq (tgt := 24) hx hb dX5_fewest_12 (by decide) (fun c_8 => ?_) (fun c_8 => ?_)
    · replace hf := zI_t c_8 hf
      refine lv_bipush (v := (-2 : Int32)) hx hb dX5_fewest_24 (by decide) ?_
      exact ze_i C0 hP hS hf dX5_fewest_26 hQ
    · replace hf := zI_f c_8 hf
      refine lv_iload_n hx hb dX5_fewest_15 rfl (lv_at hl 3 rfl) ?_
      refine lv_iconst (v := (0 : Int32)) hx hb dX5_fewest_16 (by decide) ?_
      refine lv_iconst (v := (2 : Int32)) hx hb dX5_fewest_17 (by decide) ?_
      obtain ⟨r_11, M_9, hc_10, hf⟩ := zB_o hf
      refine zc_si (As := [.int x3, .int (0 : Int32), .int (2 : Int32)]) (rest := []) C0 hP hS hl.1 (mtX5_within l G hJ x3 (0 : Int32) (2 : Int32) M_5 _ hc_10) ls_X5_78 ds_X5_within (by rw [hRm]; exact ⟨Nat.le_of_ble_eq_true rfl, Nat.le_of_ble_eq_true rfl⟩) rfl rfl (Nat.le_of_ble_eq_true rfl) dX5_fewest_18 ⟨Nat.zero_le _, Nat.zero_le _⟩ (fun H locs hP hS => ?_)
      refine lv_if_ne (tgt := 27) hx hb dX5_fewest_21 (by decide) (fun c_12 => ?_) (fun c_12 => ?_)
      · replace hf := zI_f c_12 hf
        refine lv_iload_n hx hb dX5_fewest_27 rfl (lv_at hl 3 rfl) ?_
        refine lv_iconst (v := (2 : Int32)) hx hb dX5_fewest_28 (by decide) ?_
        refine lv_icmp_ne (tgt := 46) hx hb dX5_fewest_29 (by decide) (fun c_13 => ?_) (fun c_13 => ?_)
        · replace hf := zI_f c_13 hf
          refine lv_aload_n hx hb dX5_fewest_46 rfl (lv_at hl 0 rfl) ?_
          refine lv_iload_n hx hb dX5_fewest_47 rfl (lv_at hl 1 rfl) ?_
          obtain ⟨M_14, hc_15, hf⟩ := zV_o hf
          refine zc_vv (As := [.int x1]) (rest := []) C0 hP hS hl.1 0 (mtX5_layGlasses l G hJ x1 M_9 _ hc_15) lk_X5_182 (by decide) shX_0 (T := TX5) (n' := 9) rfl ds_X5_layGlasses (by rw [hRm]; exact ⟨Nat.le_of_ble_eq_true rfl, Nat.le_of_ble_eq_true rfl⟩) rfl rfl (Nat.le_of_ble_eq_true rfl) dX5_fewest_48 ⟨Nat.zero_le _, Nat.zero_le _⟩ (fun H locs hP hS => ?_)
          refine lv_iload_n hx hb dX5_fewest_51 rfl (lv_at hl 3 rfl) ?_
          refine lv_if_ne (tgt := 66) hx hb dX5_fewest_52 (by decide) (fun c_16 => ?_) (fun c_16 => ?_)
          · replace hf := zI_f c_16 hf
            refine lv_aload_n hx hb dX5_fewest_66 rfl (lv_at hl 0 rfl) ?_
            refine zr_getq (C := RX5) (T := TX5) (n := 9) C0 hP 0 (by decide) shX_0 2 6 rfl (by decide) uw_X5 mw_310 rfl dX5_fewest_67 ?_
            refine lv_iload_n hx hb dX5_fewest_70 rfl (lv_at hl 2 rfl) ?_
            obtain ⟨r_19, M_17, hc_18, hf⟩ := zB_o hf
            refine zc_vi (As := [.int x2]) (rest := []) C0 hP hS hl.1 6 (mtX1_wayTill l G hJ x2 M_14 _ hc_18) lk_X5_188 (by decide) shX_6 (T := TX1) (n' := 7) rfl ds_X1_wayTill (by rw [hRm]; exact ⟨Nat.le_of_ble_eq_true rfl, Nat.le_of_ble_eq_true rfl⟩) rfl rfl (Nat.le_of_ble_eq_true rfl) dX5_fewest_71 ⟨Nat.zero_le _, Nat.zero_le _⟩ (fun H locs hP hS => ?_)
            exact ze_i C0 hP hS hf dX5_fewest_74 hQ
          · replace hf := zI_t c_16 hf
            refine lv_aload_n hx hb dX5_fewest_55 rfl (lv_at hl 0 rfl) ?_
            refine zr_getq (C := RX5) (T := TX5) (n := 9) C0 hP 0 (by decide) shX_0 2 6 rfl (by decide) uw_X5 mw_310 rfl dX5_fewest_56 ?_
            refine lv_iload_n hx hb dX5_fewest_59 rfl (lv_at hl 2 rfl) ?_
            obtain ⟨r_22, M_20, hc_21, hf⟩ := zB_o hf
            refine zc_vi (As := [.int x2]) (rest := []) C0 hP hS hl.1 6 (mtX1_turnsTill l G hJ x2 M_14 _ hc_21) lk_X5_185 (by decide) shX_6 (T := TX1) (n' := 7) rfl ds_X1_turnsTill (by rw [hRm]; exact ⟨Nat.le_of_ble_eq_true rfl, Nat.le_of_ble_eq_true rfl⟩) rfl rfl (Nat.le_of_ble_eq_true rfl) dX5_fewest_60 ⟨Nat.zero_le _, Nat.zero_le _⟩ (fun H locs hP hS => ?_)
            refine lv_goto (tgt := 74) hx hb dX5_fewest_63 (by decide) ?_
            exact ze_i C0 hP hS hf dX5_fewest_74 hQ
        · replace hf := zI_t c_13 hf
          refine lv_aload_n hx hb dX5_fewest_32 rfl (lv_at hl 0 rfl) ?_
          refine lv_aload_n hx hb dX5_fewest_33 rfl (lv_at hl 0 rfl) ?_
          refine zr_getq (C := RX5) (T := TX5) (n := 9) C0 hP 0 (by decide) shX_0 3 10 rfl (by decide) uw_X5 mw_260 rfl dX5_fewest_34 ?_
          refine lv_iload_n hx hb dX5_fewest_37 rfl (lv_at hl 1 rfl) ?_
          obtain ⟨r_25, M_23, hc_24, hf⟩ := zB_o hf
          refine zc_vi (As := [.ref (G.2.2.1 10), .int x1]) (rest := []) C0 hP hS hl.1 0 (mtX5_timesOf l G hJ 10 isW10 x1 M_9 _ hc_24) lk_X5_172 (by decide) shX_0 (T := TX5) (n' := 9) rfl ds_X5_timesOf (by rw [hRm]; exact ⟨Nat.le_of_ble_eq_true rfl, Nat.le_of_ble_eq_true rfl⟩) rfl rfl (Nat.le_of_ble_eq_true rfl) dX5_fewest_38 ⟨Nat.zero_le _, Nat.zero_le _⟩ (fun H locs hP hS => ?_)
          refine lv_iload_n hx hb dX5_fewest_41 rfl (lv_at hl 2 rfl) ?_
          obtain ⟨r_28, M_26, hc_27, hf⟩ := zB_o hf
          refine zc_si (As := [.int r_25, .int x2]) (rest := []) C0 hP hS hl.1 (mtX5_nextTold l G hJ r_25 x2 M_23 _ hc_27) ls_X5_179 ds_X5_nextTold (by rw [hRm]; exact ⟨Nat.le_of_ble_eq_true rfl, Nat.le_of_ble_eq_true rfl⟩) rfl rfl (Nat.le_of_ble_eq_true rfl) dX5_fewest_42 ⟨Nat.zero_le _, Nat.zero_le _⟩ (fun H locs hP hS => ?_)
          exact ze_i C0 hP hS hf dX5_fewest_45 hQ
      · replace hf := zI_t c_12 hf
        refine lv_bipush (v := (-2 : Int32)) hx hb dX5_fewest_24 (by decide) ?_
        exact ze_i C0 hP hS hf dX5_fewest_26 hQ
def fX5_best_B77 (r41 : Int32 → Int32 → Int32 → Int32 → Int32 → zM → Option (Int32 × zM)) (r59 : Int32 → Int32 → Int32 → Int32 → Int32 → Int32 → zM → Option (Int32 × zM)) (r77 : Int32 → Int32 → Int32 → Int32 → Int32 → Int32 → Int32 → zM → Option (Int32 × zM)) (x1 : Int32) (x2 : Int32) (x3 : Int32) (x4 : Int32) (x5 : Int32) (x6 : Int32) (x7 : Int32) (M : zM) : Option (Int32 × zM) :=
  if (M.1 10 7) ≤ x7 then
    zL (x6 + (1 : Int32)) fun x6_17 =>
    r59 x1 x2 x3 x4 x5 x6_17 M
  else
    zL (((x5 * (100 : Int32)) + (x6 * (10 : Int32))) + x7) fun x8_18 =>
    zV (fX5_layGlasses x8_18 M) fun M_19 =>
    zB (fX1_turnsTill x1 M_19) fun r_23 M_21 =>
    if r_23 = (-1 : Int32) then
      zL (x7 + (1 : Int32)) fun x7_25 =>
      r77 x1 x2 x3 x4 x5 x6 x7_25 M_21
    else
      if x4 = (-1 : Int32) then
        zL (x7 + (1 : Int32)) fun x7_27 =>
        r77 x1 x2 x8_18 r_23 x5 x6 x7_27 M_21
      else
        if x4 ≤ r_23 then
          zL (x7 + (1 : Int32)) fun x7_29 =>
          r77 x1 x2 x3 x4 x5 x6 x7_29 M_21
        else
          zL (x7 + (1 : Int32)) fun x7_30 =>
          r77 x1 x2 x8_18 r_23 x5 x6 x7_30 M_21
def fX5_best_L77 (r41 : Int32 → Int32 → Int32 → Int32 → Int32 → zM → Option (Int32 × zM)) (r59 : Int32 → Int32 → Int32 → Int32 → Int32 → Int32 → zM → Option (Int32 × zM)) : Nat → Int32 → Int32 → Int32 → Int32 → Int32 → Int32 → Int32 → zM → Option (Int32 × zM)
  | 0 => fun _ _ _ _ _ _ _ _ => none
  | j9 + 1 => fX5_best_B77 r41 r59 (fX5_best_L77 r41 r59 j9)
def fX5_best_B59 (r41 : Int32 → Int32 → Int32 → Int32 → Int32 → zM → Option (Int32 × zM)) (r59 : Int32 → Int32 → Int32 → Int32 → Int32 → Int32 → zM → Option (Int32 × zM)) (x1 : Int32) (x2 : Int32) (x3 : Int32) (x4 : Int32) (x5 : Int32) (x6 : Int32) (M : zM) : Option (Int32 × zM) :=
  if (M.1 10 7) ≤ x6 then
    zL (x5 + (1 : Int32)) fun x5_14 =>
    r41 x1 x2 x3 x4 x5_14 M
  else
    zL (x6 + (1 : Int32)) fun x7_15 =>
    fX5_best_L77 r41 r59 zF x1 x2 x3 x4 x5 x6 x7_15 M
def fX5_best_L59 (r41 : Int32 → Int32 → Int32 → Int32 → Int32 → zM → Option (Int32 × zM)) : Nat → Int32 → Int32 → Int32 → Int32 → Int32 → Int32 → zM → Option (Int32 × zM)
  | 0 => fun _ _ _ _ _ _ _ => none
  | j9 + 1 => fX5_best_B59 r41 (fX5_best_L59 r41 j9)
def fX5_best_B41 (r41 : Int32 → Int32 → Int32 → Int32 → Int32 → zM → Option (Int32 × zM)) (x1 : Int32) (x2 : Int32) (x3 : Int32) (x4 : Int32) (x5 : Int32) (M : zM) : Option (Int32 × zM) :=
  if (M.1 10 7) ≤ x5 then
    if x2 = (0 : Int32) then
      some (x3, M)
    else
      some (x4, M)
  else
    zL (x5 + (1 : Int32)) fun x6_12 =>
    fX5_best_L59 r41 zF x1 x2 x3 x4 x5 x6_12 M
def fX5_best_L41 : Nat → Int32 → Int32 → Int32 → Int32 → Int32 → zM → Option (Int32 × zM)
  | 0 => fun _ _ _ _ _ _ => none
  | j9 + 1 => fX5_best_B41 (fX5_best_L41 j9)
def fX5_best (x1 : Int32) (x2 : Int32) (M : zM) : Option (Int32 × zM) :=
  zB (fX5_isMinute x1 M) fun r_3 M_1 =>
  if r_3 = (0 : Int32) then
    some ((-2 : Int32), M_1)
  else
    zB (fX5_within x2 (0 : Int32) (1 : Int32) M_1) fun r_7 M_5 =>
    if r_7 = (0 : Int32) then
      some ((-2 : Int32), M_5)
    else
      if (M_5.1 10 7) ≤ (4 : Int32) then
        fX5_best_L41 zF x1 x2 (-1 : Int32) (-1 : Int32) (0 : Int32) M_5
      else
        some ((-3 : Int32), M_5)
set_option maxHeartbeats 4000000 in
set_option maxRecDepth 100000 in
theorem mtX5_best (l : Launch) (G : zGr) (hJ : zJ G 64) (x1 : Int32) (x2 : Int32) (M : zM) (o : Int32 × zM) (hf : fX5_best x1 x2 M = some o) : zMi l G shX 64 yX5_best cX5_best 10 (some .int) 6 150 [.ref (G.2.2.1 0), .int x1, .int x2] M o := by
  intro sz
  refine zOf (by decide) (Nat.le_of_ble_eq_true rfl) ?_
  intro p e R Q s m args below meth c hRm hsz hQ C0 hP hS ls hl
  subst hsz
  replace hRm : R = { frames := 6, cells := 0, slots := 0, locals := 150 } := hRm
  have hl : lv_has ls 10 [(0, .ref (G.2.2.1 0)), (1, .int x1), (2, .int x2)] := hl
  have hx := C0.1
  have hb := C0.2.1
  have hown := C0.2.2.2.1
  have hts := C0.2.2.2.2.1
  have L41 : ∀ (n41 : Nat), ∀ (x1 : Int32) (x2 : Int32) (x3 : Int32) (x4 : Int32) (x5 : Int32) (M : zM) (H : Heap) (locs : List Loc) (ls : Array Slot), lv_has ls 10 [(0, .ref (G.2.2.1 0)), (1, .int x1), (2, .int x2), (3, .int x3), (4, .int x4), (5, .int x5)] → va_P G.1 zcl (zw G shX 64 M) H → va_S (zA G 64 s.heap.size) s.heap H locs → fX5_best_L41 n41 x1 x2 x3 x4 x5 M = some o → W p l e R s m args below meth c H locs 0 0 Q (F0 m 41 ls []) := by
    intro n41
    induction n41 with
    | zero => intro x1 x2 x3 x4 x5 M H locs ls hl hP hS hf; exact zn_s (show none = some o from hf)
    | succ n41 ih41 =>
      have L59 : ∀ (n59 : Nat), ∀ (x1 : Int32) (x2 : Int32) (x3 : Int32) (x4 : Int32) (x5 : Int32) (x6 : Int32) (M : zM) (H : Heap) (locs : List Loc) (ls : Array Slot), lv_has ls 10 [(0, .ref (G.2.2.1 0)), (1, .int x1), (2, .int x2), (3, .int x3), (4, .int x4), (5, .int x5), (6, .int x6)] → va_P G.1 zcl (zw G shX 64 M) H → va_S (zA G 64 s.heap.size) s.heap H locs → fX5_best_L59 (fX5_best_L41 n41) n59 x1 x2 x3 x4 x5 x6 M = some o → W p l e R s m args below meth c H locs 0 0 Q (F0 m 59 ls []) := by
        intro n59
        induction n59 with
        | zero => intro x1 x2 x3 x4 x5 x6 M H locs ls hl hP hS hf; exact zn_s (show none = some o from hf)
        | succ n59 ih59 =>
          have L77 : ∀ (n77 : Nat), ∀ (x1 : Int32) (x2 : Int32) (x3 : Int32) (x4 : Int32) (x5 : Int32) (x6 : Int32) (x7 : Int32) (M : zM) (H : Heap) (locs : List Loc) (ls : Array Slot), lv_has ls 10 [(0, .ref (G.2.2.1 0)), (1, .int x1), (2, .int x2), (3, .int x3), (4, .int x4), (5, .int x5), (6, .int x6), (7, .int x7)] → va_P G.1 zcl (zw G shX 64 M) H → va_S (zA G 64 s.heap.size) s.heap H locs → fX5_best_L77 (fX5_best_L41 n41) (fX5_best_L59 (fX5_best_L41 n41) n59) n77 x1 x2 x3 x4 x5 x6 x7 M = some o → W p l e R s m args below meth c H locs 0 0 Q (F0 m 77 ls []) := by
            intro n77
            induction n77 with
            | zero => intro x1 x2 x3 x4 x5 x6 x7 M H locs ls hl hP hS hf; exact zn_s (show none = some o from hf)
            | succ n77 ih77 =>
              intro x1 x2 x3 x4 x5 x6 x7 M H locs ls hl hP hS hf
              replace hf : fX5_best_B77 (fX5_best_L41 n41) (fX5_best_L59 (fX5_best_L41 n41) n59) (fX5_best_L77 (fX5_best_L41 n41) (fX5_best_L59 (fX5_best_L41 n41) n59) n77) x1 x2 x3 x4 x5 x6 x7 M = some o := hf
              unfold fX5_best_B77 at hf
              refine lv_iload hx hb dX5_best_77 (lv_at hl 7 rfl) ?_
              refine lv_aload_n hx hb dX5_best_79 rfl (lv_at hl 0 rfl) ?_
              refine zr_getq (C := RX5) (T := TX5) (n := 9) C0 hP 0 (by decide) shX_0 3 10 rfl (by decide) uw_X5 mw_260 rfl dX5_best_80 ?_
              refine zr_getN (C := RX4) (T := TX4) (n := 11) C0 hP 10 (by decide) shX_10 7 rfl (by decide) uw_X4 7 rfl rfl dX5_best_83 ?_
              refine lv_icmp_ge (tgt := 153) hx hb dX5_best_86 (by decide) (fun c_16 => ?_) (fun c_16 => ?_)
              · replace hf := zI_t c_16 hf
                obtain ⟨x6_17, ex6_17, hf⟩ := zL_o hf
                refine lv_iinc (v := x6_17) (lv' := [(6, .int x6_17), (0, .ref (G.2.2.1 0)), (1, .int x1), (2, .int x2), (3, .int x3), (4, .int x4), (5, .int x5), (7, .int x7)]) hx hb dX5_best_153 hl (k := 6) rfl (by rw [ex6_17]; rfl) (by decide) rfl (fun ls hl => ?_)
                refine lv_goto (tgt := 59) hx hb dX5_best_156 (by decide) ?_
                exact ih59 x1 x2 x3 x4 x5 x6_17 M H locs ls (lv_sub hl [1, 2, 3, 4, 5, 6, 0] rfl) hP hS hf
              · replace hf := zI_f c_16 hf
                refine lv_iload hx hb dX5_best_89 (lv_at hl 5 rfl) ?_
                refine lv_bipush (v := (100 : Int32)) hx hb dX5_best_91 (by decide) ?_
                refine lv_imul hx hb dX5_best_93 ?_
                refine lv_iload hx hb dX5_best_94 (lv_at hl 6 rfl) ?_
                refine lv_bipush (v := (10 : Int32)) hx hb dX5_best_96 (by decide) ?_
                refine lv_imul hx hb dX5_best_98 ?_
                refine lv_iadd hx hb dX5_best_99 ?_
                refine lv_iload hx hb dX5_best_100 (lv_at hl 7 rfl) ?_
                refine lv_iadd hx hb dX5_best_102 ?_
                refine lv_topi (fun x8_18 ex8_18 => ?_)
                replace hf := zL_e ex8_18 hf
                refine lv_istore (lv' := [(8, .int x8_18), (0, .ref (G.2.2.1 0)), (1, .int x1), (2, .int x2), (3, .int x3), (4, .int x4), (5, .int x5), (6, .int x6), (7, .int x7)]) hx hb dX5_best_103 hl (by decide) rfl (fun ls hl => ?_)
                refine lv_aload_n hx hb dX5_best_105 rfl (lv_at hl 1 rfl) ?_
                refine lv_iload hx hb dX5_best_106 (lv_at hl 0 rfl) ?_
                obtain ⟨M_19, hc_20, hf⟩ := zV_o hf
                refine zc_vv (As := [.int x8_18]) (rest := []) C0 hP hS hl.1 0 (mtX5_layGlasses l G hJ x8_18 M _ hc_20) lk_X5_182 (by decide) shX_0 (T := TX5) (n' := 9) rfl ds_X5_layGlasses (by rw [hRm]; exact ⟨Nat.le_of_ble_eq_true rfl, Nat.le_of_ble_eq_true rfl⟩) rfl rfl (Nat.le_of_ble_eq_true rfl) dX5_best_108 ⟨Nat.zero_le _, Nat.zero_le _⟩ (fun H locs hP hS => ?_)
                refine lv_aload_n hx hb dX5_best_111 rfl (lv_at hl 1 rfl) ?_
                refine zr_getq (C := RX5) (T := TX5) (n := 9) C0 hP 0 (by decide) shX_0 2 6 rfl (by decide) uw_X5 mw_310 rfl dX5_best_112 ?_
                refine lv_iload_n hx hb dX5_best_115 rfl (lv_at hl 2 rfl) ?_
                obtain ⟨r_23, M_21, hc_22, hf⟩ := zB_o hf
                refine zc_vi (As := [.int x1]) (rest := []) C0 hP hS hl.1 6 (mtX1_turnsTill l G hJ x1 M_19 _ hc_22) lk_X5_185 (by decide) shX_6 (T := TX1) (n' := 7) rfl ds_X1_turnsTill (by rw [hRm]; exact ⟨Nat.le_of_ble_eq_true rfl, Nat.le_of_ble_eq_true rfl⟩) rfl rfl (Nat.le_of_ble_eq_true rfl) dX5_best_116 ⟨Nat.zero_le _, Nat.zero_le _⟩ (fun H locs hP hS => ?_)
                refine lv_istore (lv' := [(9, .int r_23), (8, .int x8_18), (0, .ref (G.2.2.1 0)), (1, .int x1), (2, .int x2), (3, .int x3), (4, .int x4), (5, .int x5), (6, .int x6), (7, .int x7)]) hx hb dX5_best_119 hl (by decide) rfl (fun ls hl => ?_)
                refine lv_iload hx hb dX5_best_121 (lv_at hl 0 rfl) ?_
                refine lv_iconst (v := (-1 : Int32)) hx hb dX5_best_123 (by decide) ?_
                refine lv_icmp_eq (tgt := 147) hx hb dX5_best_124 (by decide) (fun c_24 => ?_) (fun c_24 => ?_)
                · replace hf := zI_t c_24 hf
                  obtain ⟨x7_25, ex7_25, hf⟩ := zL_o hf
                  refine lv_iinc (v := x7_25) (lv' := [(7, .int x7_25), (9, .int r_23), (8, .int x8_18), (0, .ref (G.2.2.1 0)), (1, .int x1), (2, .int x2), (3, .int x3), (4, .int x4), (5, .int x5), (6, .int x6)]) hx hb dX5_best_147 hl (k := 9) rfl (by rw [ex7_25]; rfl) (by decide) rfl (fun ls hl => ?_)
                  refine lv_goto (tgt := 77) hx hb dX5_best_150 (by decide) ?_
                  exact ih77 x1 x2 x3 x4 x5 x6 x7_25 M_21 H locs ls (lv_sub hl [3, 4, 5, 6, 7, 8, 9, 0] rfl) hP hS hf
                · replace hf := zI_f c_24 hf
                  refine lv_iload hx hb dX5_best_127 (lv_at hl 6 rfl) ?_
                  refine lv_iconst (v := (-1 : Int32)) hx hb dX5_best_129 (by decide) ?_
                  refine lv_icmp_eq (tgt := 140) hx hb dX5_best_130 (by decide) (fun c_26 => ?_) (fun c_26 => ?_)
                  · replace hf := zI_t c_26 hf
                    refine lv_iload hx hb dX5_best_140 (lv_at hl 1 rfl) ?_
                    refine lv_istore_n (lv' := [(3, .int x8_18), (9, .int r_23), (8, .int x8_18), (0, .ref (G.2.2.1 0)), (1, .int x1), (2, .int x2), (4, .int x4), (5, .int x5), (6, .int x6), (7, .int x7)]) hx hb dX5_best_142 rfl hl (by decide) rfl (fun ls hl => ?_)
                    refine lv_iload hx hb dX5_best_143 (lv_at hl 1 rfl) ?_
                    refine lv_istore (lv' := [(4, .int r_23), (3, .int x8_18), (9, .int r_23), (8, .int x8_18), (0, .ref (G.2.2.1 0)), (1, .int x1), (2, .int x2), (5, .int x5), (6, .int x6), (7, .int x7)]) hx hb dX5_best_145 hl (by decide) rfl (fun ls hl => ?_)
                    obtain ⟨x7_27, ex7_27, hf⟩ := zL_o hf
                    refine lv_iinc (v := x7_27) (lv' := [(7, .int x7_27), (4, .int r_23), (3, .int x8_18), (9, .int r_23), (8, .int x8_18), (0, .ref (G.2.2.1 0)), (1, .int x1), (2, .int x2), (5, .int x5), (6, .int x6)]) hx hb dX5_best_147 hl (k := 9) rfl (by rw [ex7_27]; rfl) (by decide) rfl (fun ls hl => ?_)
                    refine lv_goto (tgt := 77) hx hb dX5_best_150 (by decide) ?_
                    exact ih77 x1 x2 x8_18 r_23 x5 x6 x7_27 M_21 H locs ls (lv_sub hl [5, 6, 7, 2, 1, 8, 9, 0] rfl) hP hS hf
                  · replace hf := zI_f c_26 hf
                    refine lv_iload hx hb dX5_best_133 (lv_at hl 0 rfl) ?_
                    refine lv_iload hx hb dX5_best_135 (lv_at hl 6 rfl) ?_
                    refine lv_icmp_ge (tgt := 147) hx hb dX5_best_137 (by decide) (fun c_28 => ?_) (fun c_28 => ?_)
                    · replace hf := zI_t c_28 hf
                      obtain ⟨x7_29, ex7_29, hf⟩ := zL_o hf
                      refine lv_iinc (v := x7_29) (lv' := [(7, .int x7_29), (9, .int r_23), (8, .int x8_18), (0, .ref (G.2.2.1 0)), (1, .int x1), (2, .int x2), (3, .int x3), (4, .int x4), (5, .int x5), (6, .int x6)]) hx hb dX5_best_147 hl (k := 9) rfl (by rw [ex7_29]; rfl) (by decide) rfl (fun ls hl => ?_)
                      refine lv_goto (tgt := 77) hx hb dX5_best_150 (by decide) ?_
                      exact ih77 x1 x2 x3 x4 x5 x6 x7_29 M_21 H locs ls (lv_sub hl [3, 4, 5, 6, 7, 8, 9, 0] rfl) hP hS hf
                    · replace hf := zI_f c_28 hf
                      refine lv_iload hx hb dX5_best_140 (lv_at hl 1 rfl) ?_
                      refine lv_istore_n (lv' := [(3, .int x8_18), (9, .int r_23), (8, .int x8_18), (0, .ref (G.2.2.1 0)), (1, .int x1), (2, .int x2), (4, .int x4), (5, .int x5), (6, .int x6), (7, .int x7)]) hx hb dX5_best_142 rfl hl (by decide) rfl (fun ls hl => ?_)
                      refine lv_iload hx hb dX5_best_143 (lv_at hl 1 rfl) ?_
                      refine lv_istore (lv' := [(4, .int r_23), (3, .int x8_18), (9, .int r_23), (8, .int x8_18), (0, .ref (G.2.2.1 0)), (1, .int x1), (2, .int x2), (5, .int x5), (6, .int x6), (7, .int x7)]) hx hb dX5_best_145 hl (by decide) rfl (fun ls hl => ?_)
                      obtain ⟨x7_30, ex7_30, hf⟩ := zL_o hf
                      refine lv_iinc (v := x7_30) (lv' := [(7, .int x7_30), (4, .int r_23), (3, .int x8_18), (9, .int r_23), (8, .int x8_18), (0, .ref (G.2.2.1 0)), (1, .int x1), (2, .int x2), (5, .int x5), (6, .int x6)]) hx hb dX5_best_147 hl (k := 9) rfl (by rw [ex7_30]; rfl) (by decide) rfl (fun ls hl => ?_)
                      refine lv_goto (tgt := 77) hx hb dX5_best_150 (by decide) ?_
                      exact ih77 x1 x2 x8_18 r_23 x5 x6 x7_30 M_21 H locs ls (lv_sub hl [5, 6, 7, 2, 1, 8, 9, 0] rfl) hP hS hf
          intro x1 x2 x3 x4 x5 x6 M H locs ls hl hP hS hf
          replace hf : fX5_best_B59 (fX5_best_L41 n41) (fX5_best_L59 (fX5_best_L41 n41) n59) x1 x2 x3 x4 x5 x6 M = some o := hf
          unfold fX5_best_B59 at hf
          refine lv_iload hx hb dX5_best_59 (lv_at hl 6 rfl) ?_
          refine lv_aload_n hx hb dX5_best_61 rfl (lv_at hl 0 rfl) ?_
          refine zr_getq (C := RX5) (T := TX5) (n := 9) C0 hP 0 (by decide) shX_0 3 10 rfl (by decide) uw_X5 mw_260 rfl dX5_best_62 ?_
          refine zr_getN (C := RX4) (T := TX4) (n := 11) C0 hP 10 (by decide) shX_10 7 rfl (by decide) uw_X4 7 rfl rfl dX5_best_65 ?_
          refine lv_icmp_ge (tgt := 159) hx hb dX5_best_68 (by decide) (fun c_13 => ?_) (fun c_13 => ?_)
          · replace hf := zI_t c_13 hf
            obtain ⟨x5_14, ex5_14, hf⟩ := zL_o hf
            refine lv_iinc (v := x5_14) (lv' := [(5, .int x5_14), (0, .ref (G.2.2.1 0)), (1, .int x1), (2, .int x2), (3, .int x3), (4, .int x4), (6, .int x6)]) hx hb dX5_best_159 hl (k := 5) rfl (by rw [ex5_14]; rfl) (by decide) rfl (fun ls hl => ?_)
            refine lv_goto (tgt := 41) hx hb dX5_best_162 (by decide) ?_
            exact ih41 x1 x2 x3 x4 x5_14 M H locs ls (lv_sub hl [1, 2, 3, 4, 5, 0] rfl) hP hS hf
          · replace hf := zI_f c_13 hf
            refine lv_iload hx hb dX5_best_71 (lv_at hl 6 rfl) ?_
            refine lv_iconst (v := (1 : Int32)) hx hb dX5_best_73 (by decide) ?_
            refine lv_iadd hx hb dX5_best_74 ?_
            refine lv_topi (fun x7_15 ex7_15 => ?_)
            replace hf := zL_e ex7_15 hf
            refine lv_istore (lv' := [(7, .int x7_15), (0, .ref (G.2.2.1 0)), (1, .int x1), (2, .int x2), (3, .int x3), (4, .int x4), (5, .int x5), (6, .int x6)]) hx hb dX5_best_75 hl (by decide) rfl (fun ls hl => ?_)
            exact L77 zF x1 x2 x3 x4 x5 x6 x7_15 M H locs ls (lv_sub hl [1, 2, 3, 4, 5, 6, 7, 0] rfl) hP hS hf
      intro x1 x2 x3 x4 x5 M H locs ls hl hP hS hf
      replace hf : fX5_best_B41 (fX5_best_L41 n41) x1 x2 x3 x4 x5 M = some o := hf
      unfold fX5_best_B41 at hf
      refine lv_iload hx hb dX5_best_41 (lv_at hl 5 rfl) ?_
      refine lv_aload_n hx hb dX5_best_43 rfl (lv_at hl 0 rfl) ?_
      refine zr_getq (C := RX5) (T := TX5) (n := 9) C0 hP 0 (by decide) shX_0 3 10 rfl (by decide) uw_X5 mw_260 rfl dX5_best_44 ?_
      refine zr_getN (C := RX4) (T := TX4) (n := 11) C0 hP 10 (by decide) shX_10 7 rfl (by decide) uw_X4 7 rfl rfl dX5_best_47 ?_
      refine lv_icmp_ge (tgt := 165) hx hb dX5_best_50 (by decide) (fun c_10 => ?_) (fun c_10 => ?_)
      · replace hf := zI_t c_10 hf
        refine lv_iload_n hx hb dX5_best_165 rfl (lv_at hl 2 rfl) ?_
        refine lv_if_ne (tgt := 173) hx hb dX5_best_166 (by decide) (fun c_11 => ?_) (fun c_11 => ?_)
        · replace hf := zI_f c_11 hf
          refine lv_iload hx hb dX5_best_173 (lv_at hl 4 rfl) ?_
          exact ze_i C0 hP hS hf dX5_best_175 hQ
        · replace hf := zI_t c_11 hf
          refine lv_iload_n hx hb dX5_best_169 rfl (lv_at hl 3 rfl) ?_
          refine lv_goto (tgt := 175) hx hb dX5_best_170 (by decide) ?_
          exact ze_i C0 hP hS hf dX5_best_175 hQ
      · replace hf := zI_f c_10 hf
        refine lv_iload hx hb dX5_best_53 (lv_at hl 5 rfl) ?_
        refine lv_iconst (v := (1 : Int32)) hx hb dX5_best_55 (by decide) ?_
        refine lv_iadd hx hb dX5_best_56 ?_
        refine lv_topi (fun x6_12 ex6_12 => ?_)
        replace hf := zL_e ex6_12 hf
        refine lv_istore (lv' := [(6, .int x6_12), (0, .ref (G.2.2.1 0)), (1, .int x1), (2, .int x2), (3, .int x3), (4, .int x4), (5, .int x5)]) hx hb dX5_best_57 hl (by decide) rfl (fun ls hl => ?_)
        exact L59 zF x1 x2 x3 x4 x5 x6_12 M H locs ls (lv_sub hl [1, 2, 3, 4, 5, 6, 0] rfl) hP hS hf
  unfold fX5_best at hf
  obtain ⟨H, eH⟩ : ∃ H, H = s.heap := ⟨_, rfl⟩
  obtain ⟨locs, el⟩ : ∃ locs : List Loc, locs = [] := ⟨_, rfl⟩
  rw [← eH] at hP ⊢
  have hS : va_S (zA G 64 s.heap.size) s.heap H locs := by rw [eH, el]; exact hS
  rw [← el]
  refine lv_iload_n hx hb dX5_best_0 rfl (lv_at hl 1 rfl) ?_
  obtain ⟨r_3, M_1, hc_2, hf⟩ := zB_o hf
  refine zc_si (As := [.int x1]) (rest := []) C0 hP hS hl.1 (mtX5_isMinute l G hJ x1 M _ hc_2) ls_X5_176 ds_X5_isMinute (by rw [hRm]; exact ⟨Nat.le_of_ble_eq_true rfl, Nat.le_of_ble_eq_true rfl⟩) rfl rfl (Nat.le_of_ble_eq_true rfl) dX5_best_1 ⟨Nat.zero_le _, Nat.zero_le _⟩ (fun H locs hP hS => ?_)
  refine lv_if_eq (tgt := 16) hx hb dX5_best_4 (by decide) (fun c_4 => ?_) (fun c_4 => ?_)
  · replace hf := zI_t c_4 hf
    refine lv_bipush (v := (-2 : Int32)) hx hb dX5_best_16 (by decide) ?_
    exact ze_i C0 hP hS hf dX5_best_18 hQ
  · replace hf := zI_f c_4 hf
    refine lv_iload_n hx hb dX5_best_7 rfl (lv_at hl 2 rfl) ?_
    refine lv_iconst (v := (0 : Int32)) hx hb dX5_best_8 (by decide) ?_
    refine lv_iconst (v := (1 : Int32)) hx hb dX5_best_9 (by decide) ?_
    obtain ⟨r_7, M_5, hc_6, hf⟩ := zB_o hf
    refine zc_si (As := [.int x2, .int (0 : Int32), .int (1 : Int32)]) (rest := []) C0 hP hS hl.1 (mtX5_within l G hJ x2 (0 : Int32) (1 : Int32) M_1 _ hc_6) ls_X5_78 ds_X5_within (by rw [hRm]; exact ⟨Nat.le_of_ble_eq_true rfl, Nat.le_of_ble_eq_true rfl⟩) rfl rfl (Nat.le_of_ble_eq_true rfl) dX5_best_10 ⟨Nat.zero_le _, Nat.zero_le _⟩ (fun H locs hP hS => ?_)
    refine lv_if_ne (tgt := 19) hx hb dX5_best_13 (by decide) (fun c_8 => ?_) (fun c_8 => ?_)
    · replace hf := zI_f c_8 hf
      refine lv_aload_n hx hb dX5_best_19 rfl (lv_at hl 0 rfl) ?_
      refine zr_getq (C := RX5) (T := TX5) (n := 9) C0 hP 0 (by decide) shX_0 3 10 rfl (by decide) uw_X5 mw_260 rfl dX5_best_20 ?_
      refine zr_getN (C := RX4) (T := TX4) (n := 11) C0 hP 10 (by decide) shX_10 7 rfl (by decide) uw_X4 7 rfl rfl dX5_best_23 ?_
      refine lv_iconst (v := (4 : Int32)) hx hb dX5_best_26 (by decide) ?_
      refine lv_icmp_le (tgt := 33) hx hb dX5_best_27 (by decide) (fun c_9 => ?_) (fun c_9 => ?_)
      · replace hf := zI_t c_9 hf
        refine lv_iconst (v := (-1 : Int32)) hx hb dX5_best_33 (by decide) ?_
        refine lv_istore_n (lv' := [(3, .int (-1 : Int32)), (0, .ref (G.2.2.1 0)), (1, .int x1), (2, .int x2)]) hx hb dX5_best_34 rfl hl (by decide) rfl (fun ls hl => ?_)
        refine lv_iconst (v := (-1 : Int32)) hx hb dX5_best_35 (by decide) ?_
        refine lv_istore (lv' := [(4, .int (-1 : Int32)), (3, .int (-1 : Int32)), (0, .ref (G.2.2.1 0)), (1, .int x1), (2, .int x2)]) hx hb dX5_best_36 hl (by decide) rfl (fun ls hl => ?_)
        refine lv_iconst (v := (0 : Int32)) hx hb dX5_best_38 (by decide) ?_
        refine lv_istore (lv' := [(5, .int (0 : Int32)), (4, .int (-1 : Int32)), (3, .int (-1 : Int32)), (0, .ref (G.2.2.1 0)), (1, .int x1), (2, .int x2)]) hx hb dX5_best_39 hl (by decide) rfl (fun ls hl => ?_)
        exact L41 zF x1 x2 (-1 : Int32) (-1 : Int32) (0 : Int32) M_5 H locs ls (lv_sub hl [3, 4, 5, 2, 1, 0] rfl) hP hS hf
      · replace hf := zI_f c_9 hf
        refine lv_bipush (v := (-3 : Int32)) hx hb dX5_best_30 (by decide) ?_
        exact ze_i C0 hP hS hf dX5_best_32 hQ
    · replace hf := zI_t c_8 hf
      refine lv_bipush (v := (-2 : Int32)) hx hb dX5_best_16 (by decide) ?_
      exact ze_i C0 hP hS hf dX5_best_18 hQ
def fX5_makes_J118 (r71 : Int32 → Int32 → Int32 → Int32 → Int32 → Int32 → Int32 → zM → Option (Int32 × zM)) (x1 : Int32) (x2 : Int32) (x3 : Int32) (x4 : Int32) (x5 : Int32) (x6 : Int32) (x7 : Int32) (M : zM) : Option (Int32 × zM) :=
  zB (fX5_timesOf 17 x1 M) fun r_24 M_22 =>
  if ((zshr r_24 x2) &&& (1 : Int32)) = (1 : Int32) then
    some (x7, M_22)
  else
    zL (x7 + (1 : Int32)) fun x7_26 =>
    r71 x1 x2 x3 x4 x5 x6 x7_26 M_22
def fX5_makes_B71 (r71 : Int32 → Int32 → Int32 → Int32 → Int32 → Int32 → Int32 → zM → Option (Int32 × zM)) (x1 : Int32) (x2 : Int32) (x3 : Int32) (x4 : Int32) (x5 : Int32) (x6 : Int32) (x7 : Int32) (M : zM) : Option (Int32 × zM) :=
  if x6 < x7 then
    some ((-1 : Int32), M)
  else
    zV (fX4_become 17 10 M) fun M_17 =>
    if x3 = (0 : Int32) then
      zV (fX4_drawOff 17 x4 x5 x7 M_17) fun M_27 =>
      fX5_makes_J118 r71 x1 x2 x3 x4 x5 x6 x7 M_27
    else
      zV (fX4_passDays 17 x7 M_17) fun M_20 =>
      fX5_makes_J118 r71 x1 x2 x3 x4 x5 x6 x7 M_20
def fX5_makes_L71 : Nat → Int32 → Int32 → Int32 → Int32 → Int32 → Int32 → Int32 → zM → Option (Int32 × zM)
  | 0 => fun _ _ _ _ _ _ _ _ => none
  | j9 + 1 => fX5_makes_B71 (fX5_makes_L71 j9)
def fX5_makes (x1 : Int32) (x2 : Int32) (x3 : Int32) (M : zM) : Option (Int32 × zM) :=
  zB (fX5_isThree x1 M) fun r_3 M_1 =>
  if r_3 = (0 : Int32) then
    some ((-2 : Int32), M_1)
  else
    zB (fX5_isMinute x2 M_1) fun r_7 M_5 =>
    if r_7 = (0 : Int32) then
      some ((-2 : Int32), M_5)
    else
      zB (fX5_within x3 (0 : Int32) (1 : Int32) M_5) fun r_11 M_9 =>
      if r_11 = (0 : Int32) then
        some ((-2 : Int32), M_9)
      else
        zL (x1 / (100 : Int32)) fun x4_13 =>
        zL (zrm (x1 / (10 : Int32)) (10 : Int32)) fun x5_14 =>
        if x3 = (0 : Int32) then
          zG (zin x4_13 5) <|
          zL (zmin (M_9.1 13 x4_13.toNatClampNeg) (40 : Int32)) fun x6_30 =>
          fX5_makes_L71 zF x1 x2 x3 x4_13 x5_14 x6_30 (0 : Int32) M_9
        else
          fX5_makes_L71 zF x1 x2 x3 x4_13 x5_14 (10 : Int32) (0 : Int32) M_9
set_option maxHeartbeats 4000000 in
set_option maxRecDepth 100000 in
theorem mtX5_makes (l : Launch) (G : zGr) (hJ : zJ G 64) (x1 : Int32) (x2 : Int32) (x3 : Int32) (M : zM) (o : Int32 × zM) (hf : fX5_makes x1 x2 x3 M = some o) : zMi l G shX 64 yX5_makes cX5_makes 8 (some .int) 7 175 [.ref (G.2.2.1 0), .int x1, .int x2, .int x3] M o := by
  intro sz
  refine zOf (by decide) (Nat.le_of_ble_eq_true rfl) ?_
  intro p e R Q s m args below meth c hRm hsz hQ C0 hP hS ls hl
  subst hsz
  replace hRm : R = { frames := 7, cells := 0, slots := 0, locals := 175 } := hRm
  have hl : lv_has ls 8 [(0, .ref (G.2.2.1 0)), (1, .int x1), (2, .int x2), (3, .int x3)] := hl
  have hx := C0.1
  have hb := C0.2.1
  have hown := C0.2.2.2.1
  have hts := C0.2.2.2.2.1
  have L71 : ∀ (n71 : Nat), ∀ (x1 : Int32) (x2 : Int32) (x3 : Int32) (x4 : Int32) (x5 : Int32) (x6 : Int32) (x7 : Int32) (M : zM) (H : Heap) (locs : List Loc) (ls : Array Slot), lv_has ls 8 [(0, .ref (G.2.2.1 0)), (1, .int x1), (2, .int x2), (3, .int x3), (4, .int x4), (5, .int x5), (6, .int x6), (7, .int x7)] → va_P G.1 zcl (zw G shX 64 M) H → va_S (zA G 64 s.heap.size) s.heap H locs → fX5_makes_L71 n71 x1 x2 x3 x4 x5 x6 x7 M = some o → W p l e R s m args below meth c H locs 0 0 Q (F0 m 71 ls []) := by
    intro n71
    induction n71 with
    | zero => intro x1 x2 x3 x4 x5 x6 x7 M H locs ls hl hP hS hf; exact zn_s (show none = some o from hf)
    | succ n71 ih71 =>
      have J118 : ∀ (x1 : Int32) (x2 : Int32) (x3 : Int32) (x4 : Int32) (x5 : Int32) (x6 : Int32) (x7 : Int32) (M : zM) (H : Heap) (locs : List Loc) (ls : Array Slot), lv_has ls 8 [(0, .ref (G.2.2.1 0)), (1, .int x1), (2, .int x2), (3, .int x3), (4, .int x4), (5, .int x5), (6, .int x6), (7, .int x7)] → va_P G.1 zcl (zw G shX 64 M) H → va_S (zA G 64 s.heap.size) s.heap H locs → fX5_makes_J118 (fX5_makes_L71 n71) x1 x2 x3 x4 x5 x6 x7 M = some o → W p l e R s m args below meth c H locs 0 0 Q (F0 m 118 ls []) := by
        intro x1 x2 x3 x4 x5 x6 x7 M H locs ls hl hP hS hf
        unfold fX5_makes_J118 at hf
        refine lv_aload_n hx hb dX5_makes_118 rfl (lv_at hl 0 rfl) ?_
        refine lv_aload_n hx hb dX5_makes_119 rfl (lv_at hl 0 rfl) ?_
        refine zr_getq (C := RX5) (T := TX5) (n := 9) C0 hP 0 (by decide) shX_0 4 17 rfl (by decide) uw_X5 mw_292 rfl dX5_makes_120 ?_
        refine lv_iload_n hx hb dX5_makes_123 rfl (lv_at hl 1 rfl) ?_
        obtain ⟨r_24, M_22, hc_23, hf⟩ := zB_o hf
        refine zc_vi (As := [.ref (G.2.2.1 17), .int x1]) (rest := []) C0 hP hS hl.1 0 (mtX5_timesOf l G hJ 17 isW17 x1 M _ hc_23) lk_X5_172 (by decide) shX_0 (T := TX5) (n' := 9) rfl ds_X5_timesOf (by rw [hRm]; exact ⟨Nat.le_of_ble_eq_true rfl, Nat.le_of_ble_eq_true rfl⟩) rfl rfl (Nat.le_of_ble_eq_true rfl) dX5_makes_124 ⟨Nat.zero_le _, Nat.zero_le _⟩ (fun H locs hP hS => ?_)
        refine lv_iload_n hx hb dX5_makes_127 rfl (lv_at hl 2 rfl) ?_
        refine zo_ishr hx hb dX5_makes_128 ?_
        refine lv_iconst (v := (1 : Int32)) hx hb dX5_makes_129 (by decide) ?_
        refine lv_iand hx hb dX5_makes_130 ?_
        refine lv_iconst (v := (1 : Int32)) hx hb dX5_makes_131 (by decide) ?_
        refine lv_icmp_ne (tgt := 138) hx hb dX5_makes_132 (by decide) (fun c_25 => ?_) (fun c_25 => ?_)
        · replace hf := zI_f c_25 hf
          obtain ⟨x7_26, ex7_26, hf⟩ := zL_o hf
          refine lv_iinc (v := x7_26) (lv' := [(7, .int x7_26), (0, .ref (G.2.2.1 0)), (1, .int x1), (2, .int x2), (3, .int x3), (4, .int x4), (5, .int x5), (6, .int x6)]) hx hb dX5_makes_138 hl (k := 7) rfl (by rw [ex7_26]; rfl) (by decide) rfl (fun ls hl => ?_)
          refine lv_goto (tgt := 71) hx hb dX5_makes_141 (by decide) ?_
          exact ih71 x1 x2 x3 x4 x5 x6 x7_26 M_22 H locs ls (lv_sub hl [1, 2, 3, 4, 5, 6, 7, 0] rfl) hP hS hf
        · replace hf := zI_t c_25 hf
          refine lv_iload hx hb dX5_makes_135 (lv_at hl 7 rfl) ?_
          exact ze_i C0 hP hS hf dX5_makes_137 hQ
      intro x1 x2 x3 x4 x5 x6 x7 M H locs ls hl hP hS hf
      replace hf : fX5_makes_B71 (fX5_makes_L71 n71) x1 x2 x3 x4 x5 x6 x7 M = some o := hf
      unfold fX5_makes_B71 at hf
      refine lv_iload hx hb dX5_makes_71 (lv_at hl 7 rfl) ?_
      refine lv_iload hx hb dX5_makes_73 (lv_at hl 6 rfl) ?_
      refine lv_icmp_gt (tgt := 144) hx hb dX5_makes_75 (by decide) (fun c_16 => ?_) (fun c_16 => ?_)
      · replace hf := zI_t c_16 hf
        refine lv_iconst (v := (-1 : Int32)) hx hb dX5_makes_144 (by decide) ?_
        exact ze_i C0 hP hS hf dX5_makes_145 hQ
      · replace hf := zI_f c_16 hf
        refine lv_aload_n hx hb dX5_makes_78 rfl (lv_at hl 0 rfl) ?_
        refine zr_getq (C := RX5) (T := TX5) (n := 9) C0 hP 0 (by decide) shX_0 4 17 rfl (by decide) uw_X5 mw_292 rfl dX5_makes_79 ?_
        refine lv_aload_n hx hb dX5_makes_82 rfl (lv_at hl 0 rfl) ?_
        refine zr_getq (C := RX5) (T := TX5) (n := 9) C0 hP 0 (by decide) shX_0 3 10 rfl (by decide) uw_X5 mw_260 rfl dX5_makes_83 ?_
        obtain ⟨M_17, hc_18, hf⟩ := zV_o hf
        refine zc_vv (As := [.ref (G.2.2.1 10)]) (rest := []) C0 hP hS hl.1 17 (mtX4_become l G hJ 17 isW17 10 isW10 M _ hc_18) lk_X5_151 (by decide) shX_17 (T := TX4) (n' := 11) rfl ds_X4_become (by rw [hRm]; exact ⟨Nat.le_of_ble_eq_true rfl, Nat.le_of_ble_eq_true rfl⟩) rfl rfl (Nat.le_of_ble_eq_true rfl) dX5_makes_86 ⟨Nat.zero_le _, Nat.zero_le _⟩ (fun H locs hP hS => ?_)
        refine lv_iload_n hx hb dX5_makes_89 rfl (lv_at hl 3 rfl) ?_
        refine lv_if_ne (tgt := 109) hx hb dX5_makes_90 (by decide) (fun c_19 => ?_) (fun c_19 => ?_)
        · replace hf := zI_f c_19 hf
          refine lv_aload_n hx hb dX5_makes_109 rfl (lv_at hl 0 rfl) ?_
          refine zr_getq (C := RX5) (T := TX5) (n := 9) C0 hP 0 (by decide) shX_0 4 17 rfl (by decide) uw_X5 mw_292 rfl dX5_makes_110 ?_
          refine lv_iload hx hb dX5_makes_113 (lv_at hl 7 rfl) ?_
          obtain ⟨M_20, hc_21, hf⟩ := zV_o hf
          refine zc_vv (As := [.int x7]) (rest := []) C0 hP hS hl.1 17 (mtX4_passDays l G hJ 17 isW17 x7 M_17 _ hc_21) lk_X5_154 (by decide) shX_17 (T := TX4) (n' := 11) rfl ds_X4_passDays (by rw [hRm]; exact ⟨Nat.le_of_ble_eq_true rfl, Nat.le_of_ble_eq_true rfl⟩) rfl rfl (Nat.le_of_ble_eq_true rfl) dX5_makes_115 ⟨Nat.zero_le _, Nat.zero_le _⟩ (fun H locs hP hS => ?_)
          exact J118 x1 x2 x3 x4 x5 x6 x7 M_20 H locs ls (lv_sub hl [0, 1, 2, 3, 4, 5, 6, 7] rfl) hP hS hf
        · replace hf := zI_t c_19 hf
          refine lv_aload_n hx hb dX5_makes_93 rfl (lv_at hl 0 rfl) ?_
          refine zr_getq (C := RX5) (T := TX5) (n := 9) C0 hP 0 (by decide) shX_0 4 17 rfl (by decide) uw_X5 mw_292 rfl dX5_makes_94 ?_
          refine lv_iload hx hb dX5_makes_97 (lv_at hl 4 rfl) ?_
          refine lv_iload hx hb dX5_makes_99 (lv_at hl 5 rfl) ?_
          refine lv_iload hx hb dX5_makes_101 (lv_at hl 7 rfl) ?_
          obtain ⟨M_27, hc_28, hf⟩ := zV_o hf
          refine zc_vv (As := [.int x4, .int x5, .int x7]) (rest := []) C0 hP hS hl.1 17 (mtX4_drawOff l G hJ 17 isW17 x4 x5 x7 M_17 _ hc_28) lk_X5_147 (by decide) shX_17 (T := TX4) (n' := 11) rfl ds_X4_drawOff (by rw [hRm]; exact ⟨Nat.le_of_ble_eq_true rfl, Nat.le_of_ble_eq_true rfl⟩) rfl rfl (Nat.le_of_ble_eq_true rfl) dX5_makes_103 ⟨Nat.zero_le _, Nat.zero_le _⟩ (fun H locs hP hS => ?_)
          refine lv_goto (tgt := 118) hx hb dX5_makes_106 (by decide) ?_
          exact J118 x1 x2 x3 x4 x5 x6 x7 M_27 H locs ls (lv_sub hl [0, 1, 2, 3, 4, 5, 6, 7] rfl) hP hS hf
  unfold fX5_makes at hf
  obtain ⟨H, eH⟩ : ∃ H, H = s.heap := ⟨_, rfl⟩
  obtain ⟨locs, el⟩ : ∃ locs : List Loc, locs = [] := ⟨_, rfl⟩
  rw [← eH] at hP ⊢
  have hS : va_S (zA G 64 s.heap.size) s.heap H locs := by rw [eH, el]; exact hS
  rw [← el]
  refine lv_aload_n hx hb dX5_makes_0 rfl (lv_at hl 0 rfl) ?_
  refine lv_iload_n hx hb dX5_makes_1 rfl (lv_at hl 1 rfl) ?_
  obtain ⟨r_3, M_1, hc_2, hf⟩ := zB_o hf
  refine zc_vi (As := [.int x1]) (rest := []) C0 hP hS hl.1 0 (mtX5_isThree l G hJ x1 M _ hc_2) lk_X5_167 (by decide) shX_0 (T := TX5) (n' := 9) rfl ds_X5_isThree (by rw [hRm]; exact ⟨Nat.le_of_ble_eq_true rfl, Nat.le_of_ble_eq_true rfl⟩) rfl rfl (Nat.le_of_ble_eq_true rfl) dX5_makes_2 ⟨Nat.zero_le _, Nat.zero_le _⟩ (fun H locs hP hS => ?_)
  refine lv_if_eq (tgt := 24) hx hb dX5_makes_5 (by decide) (fun c_4 => ?_) (fun c_4 => ?_)
  · replace hf := zI_t c_4 hf
    refine lv_bipush (v := (-2 : Int32)) hx hb dX5_makes_24 (by decide) ?_
    exact ze_i C0 hP hS hf dX5_makes_26 hQ
  · replace hf := zI_f c_4 hf
    refine lv_iload_n hx hb dX5_makes_8 rfl (lv_at hl 2 rfl) ?_
    obtain ⟨r_7, M_5, hc_6, hf⟩ := zB_o hf
    refine zc_si (As := [.int x2]) (rest := []) C0 hP hS hl.1 (mtX5_isMinute l G hJ x2 M_1 _ hc_6) ls_X5_176 ds_X5_isMinute (by rw [hRm]; exact ⟨Nat.le_of_ble_eq_true rfl, Nat.le_of_ble_eq_true rfl⟩) rfl rfl (Nat.le_of_ble_eq_true rfl) dX5_makes_9 ⟨Nat.zero_le _, Nat.zero_le _⟩ (fun H locs hP hS => ?_)
    refine lv_if_eq (tgt := 24) hx hb dX5_makes_12 (by decide) (fun c_8 => ?_) (fun c_8 => ?_)
    · replace hf := zI_t c_8 hf
      refine lv_bipush (v := (-2 : Int32)) hx hb dX5_makes_24 (by decide) ?_
      exact ze_i C0 hP hS hf dX5_makes_26 hQ
    · replace hf := zI_f c_8 hf
      refine lv_iload_n hx hb dX5_makes_15 rfl (lv_at hl 3 rfl) ?_
      refine lv_iconst (v := (0 : Int32)) hx hb dX5_makes_16 (by decide) ?_
      refine lv_iconst (v := (1 : Int32)) hx hb dX5_makes_17 (by decide) ?_
      obtain ⟨r_11, M_9, hc_10, hf⟩ := zB_o hf
      refine zc_si (As := [.int x3, .int (0 : Int32), .int (1 : Int32)]) (rest := []) C0 hP hS hl.1 (mtX5_within l G hJ x3 (0 : Int32) (1 : Int32) M_5 _ hc_10) ls_X5_78 ds_X5_within (by rw [hRm]; exact ⟨Nat.le_of_ble_eq_true rfl, Nat.le_of_ble_eq_true rfl⟩) rfl rfl (Nat.le_of_ble_eq_true rfl) dX5_makes_18 ⟨Nat.zero_le _, Nat.zero_le _⟩ (fun H locs hP hS => ?_)
      refine lv_if_ne (tgt := 27) hx hb dX5_makes_21 (by decide) (fun c_12 => ?_) (fun c_12 => ?_)
      · replace hf := zI_f c_12 hf
        refine lv_iload_n hx hb dX5_makes_27 rfl (lv_at hl 1 rfl) ?_
        refine lv_bipush (v := (100 : Int32)) hx hb dX5_makes_28 (by decide) ?_
        refine lv_idiv hx hb dX5_makes_30 (by decide) ?_
        refine lv_topi (fun x4_13 ex4_13 => ?_)
        replace hf := zL_e ex4_13 hf
        refine lv_istore (lv' := [(4, .int x4_13), (0, .ref (G.2.2.1 0)), (1, .int x1), (2, .int x2), (3, .int x3)]) hx hb dX5_makes_31 hl (by decide) rfl (fun ls hl => ?_)
        refine lv_iload_n hx hb dX5_makes_33 rfl (lv_at hl 2 rfl) ?_
        refine lv_bipush (v := (10 : Int32)) hx hb dX5_makes_34 (by decide) ?_
        refine lv_idiv hx hb dX5_makes_36 (by decide) ?_
        refine lv_bipush (v := (10 : Int32)) hx hb dX5_makes_37 (by decide) ?_
        refine zo_irem hx hb dX5_makes_39 (by decide) ?_
        refine lv_topi (fun x5_14 ex5_14 => ?_)
        replace hf := zL_e ex5_14 hf
        refine lv_istore (lv' := [(5, .int x5_14), (4, .int x4_13), (0, .ref (G.2.2.1 0)), (1, .int x1), (2, .int x2), (3, .int x3)]) hx hb dX5_makes_40 hl (by decide) rfl (fun ls hl => ?_)
        refine lv_iload_n hx hb dX5_makes_42 rfl (lv_at hl 5 rfl) ?_
        refine lv_if_ne (tgt := 64) hx hb dX5_makes_43 (by decide) (fun c_15 => ?_) (fun c_15 => ?_)
        · replace hf := zI_f c_15 hf
          refine lv_bipush (v := (10 : Int32)) hx hb dX5_makes_64 (by decide) ?_
          refine lv_istore (lv' := [(6, .int (10 : Int32)), (5, .int x5_14), (4, .int x4_13), (0, .ref (G.2.2.1 0)), (1, .int x1), (2, .int x2), (3, .int x3)]) hx hb dX5_makes_66 hl (by decide) rfl (fun ls hl => ?_)
          refine lv_iconst (v := (0 : Int32)) hx hb dX5_makes_68 (by decide) ?_
          refine lv_istore (lv' := [(7, .int (0 : Int32)), (6, .int (10 : Int32)), (5, .int x5_14), (4, .int x4_13), (0, .ref (G.2.2.1 0)), (1, .int x1), (2, .int x2), (3, .int x3)]) hx hb dX5_makes_69 hl (by decide) rfl (fun ls hl => ?_)
          exact L71 zF x1 x2 x3 x4_13 x5_14 (10 : Int32) (0 : Int32) M_9 H locs ls (lv_sub hl [4, 5, 6, 7, 3, 2, 1, 0] rfl) hP hS hf
        · replace hf := zI_t c_15 hf
          refine lv_aload_n hx hb dX5_makes_46 rfl (lv_at hl 2 rfl) ?_
          refine zr_getq (C := RX5) (T := TX5) (n := 9) C0 hP 0 (by decide) shX_0 3 10 rfl (by decide) uw_X5 mw_260 rfl dX5_makes_47 ?_
          refine zr_getqN (C := RX4) (T := TX4) (n := 11) C0 hP 10 (by decide) shX_10 3 13 rfl (by decide) uw_X4 5 rfl rfl dX5_makes_50 ?_
          refine lv_iload hx hb dX5_makes_53 (lv_at hl 1 rfl) ?_
          obtain ⟨hg_29, hf⟩ := zG_o hf
          refine zr_iald C0 hP 13 (by decide) shX_13 hg_29 dX5_makes_55 ?_
          refine lv_bipush (v := (40 : Int32)) hx hb dX5_makes_56 (by decide) ?_
          refine zo_min C0 hl.1 mw_48 mw_32 mw_29 mw_33 (by rw [hRm]; exact Nat.le_of_ble_eq_true rfl) (by rw [hRm]; exact Nat.le_of_ble_eq_true rfl) ⟨Nat.zero_le _, Nat.zero_le _⟩ dX5_makes_58 ?_
          refine lv_goto (tgt := 66) hx hb dX5_makes_61 (by decide) ?_
          refine lv_topi (fun x6_30 ex6_30 => ?_)
          replace hf := zL_e ex6_30 hf
          refine lv_istore (lv' := [(6, .int x6_30), (5, .int x5_14), (4, .int x4_13), (0, .ref (G.2.2.1 0)), (1, .int x1), (2, .int x2), (3, .int x3)]) hx hb dX5_makes_66 hl (by decide) rfl (fun ls hl => ?_)
          refine lv_iconst (v := (0 : Int32)) hx hb dX5_makes_68 (by decide) ?_
          refine lv_istore (lv' := [(7, .int (0 : Int32)), (6, .int x6_30), (5, .int x5_14), (4, .int x4_13), (0, .ref (G.2.2.1 0)), (1, .int x1), (2, .int x2), (3, .int x3)]) hx hb dX5_makes_69 hl (by decide) rfl (fun ls hl => ?_)
          exact L71 zF x1 x2 x3 x4_13 x5_14 x6_30 (0 : Int32) M_9 H locs ls (lv_sub hl [4, 5, 6, 7, 3, 2, 1, 0] rfl) hP hS hf
      · replace hf := zI_t c_12 hf
        refine lv_bipush (v := (-2 : Int32)) hx hb dX5_makes_24 (by decide) ?_
        exact ze_i C0 hP hS hf dX5_makes_26 hQ
def fX5_choices (x1 : Int32) (M : zM) : Option (Int32 × zM) :=
  if x1 = (1 : Int32) then
    some ((6 : Int32), M)
  else
    if x1 = (2 : Int32) then
      some ((10 : Int32), M)
    else
      if x1 = (3 : Int32) then
        some ((10 : Int32), M)
      else
        if x1 = (4 : Int32) then
          some ((100 : Int32), M)
        else
          if x1 = (5 : Int32) then
            some ((100 : Int32), M)
          else
            if x1 = (6 : Int32) then
              some ((M.1 0 7), M)
            else
              some ((M.1 10 7), M)
set_option maxHeartbeats 4000000 in
set_option maxRecDepth 100000 in
theorem mtX5_choices (l : Launch) (G : zGr) (hJ : zJ G 64) (x1 : Int32) (M : zM) (o : Int32 × zM) (hf : fX5_choices x1 M = some o) : zMi l G shX 64 yX5_choices cX5_choices 2 (some .int) 0 0 [.ref (G.2.2.1 0), .int x1] M o := by
  intro sz
  refine zOf (by decide) (Nat.le_of_ble_eq_true rfl) ?_
  intro p e R Q s m args below meth c hRm hsz hQ C0 hP hS ls hl
  subst hsz
  replace hRm : R = { frames := 0, cells := 0, slots := 0, locals := 0 } := hRm
  have hl : lv_has ls 2 [(0, .ref (G.2.2.1 0)), (1, .int x1)] := hl
  have hx := C0.1
  have hb := C0.2.1
  have hown := C0.2.2.2.1
  have hts := C0.2.2.2.2.1
  unfold fX5_choices at hf
  obtain ⟨H, eH⟩ : ∃ H, H = s.heap := ⟨_, rfl⟩
  obtain ⟨locs, el⟩ : ∃ locs : List Loc, locs = [] := ⟨_, rfl⟩
  rw [← eH] at hP ⊢
  have hS : va_S (zA G 64 s.heap.size) s.heap H locs := by rw [eH, el]; exact hS
  rw [← el]
  refine lv_iload_n hx hb dX5_choices_0 rfl (lv_at hl 1 rfl) ?_
  refine if c_1 : x1 = (1 : Int32) then ?_ else ?_
  · replace hf := zI_t c_1 hf
    refine lv_tableIn (tgt := 40) hx hb dX5_choices_1 (by rw [c_1]; decide) (by rw [c_1]; decide) (off := 39) (by rw [c_1]; decide) (by decide) ?_
    refine lv_bipush (v := (6 : Int32)) hx hb dX5_choices_40 (by decide) ?_
    exact ze_i C0 hP hS hf dX5_choices_42 hQ
  · replace hf := zI_f c_1 hf
    refine if c_2 : x1 = (2 : Int32) then ?_ else ?_
    · replace hf := zI_t c_2 hf
      refine lv_tableIn (tgt := 43) hx hb dX5_choices_1 (by rw [c_2]; decide) (by rw [c_2]; decide) (off := 42) (by rw [c_2]; decide) (by decide) ?_
      refine lv_bipush (v := (10 : Int32)) hx hb dX5_choices_43 (by decide) ?_
      exact ze_i C0 hP hS hf dX5_choices_45 hQ
    · replace hf := zI_f c_2 hf
      refine if c_3 : x1 = (3 : Int32) then ?_ else ?_
      · replace hf := zI_t c_3 hf
        refine lv_tableIn (tgt := 43) hx hb dX5_choices_1 (by rw [c_3]; decide) (by rw [c_3]; decide) (off := 42) (by rw [c_3]; decide) (by decide) ?_
        refine lv_bipush (v := (10 : Int32)) hx hb dX5_choices_43 (by decide) ?_
        exact ze_i C0 hP hS hf dX5_choices_45 hQ
      · replace hf := zI_f c_3 hf
        refine if c_4 : x1 = (4 : Int32) then ?_ else ?_
        · replace hf := zI_t c_4 hf
          refine lv_tableIn (tgt := 46) hx hb dX5_choices_1 (by rw [c_4]; decide) (by rw [c_4]; decide) (off := 45) (by rw [c_4]; decide) (by decide) ?_
          refine lv_bipush (v := (100 : Int32)) hx hb dX5_choices_46 (by decide) ?_
          exact ze_i C0 hP hS hf dX5_choices_48 hQ
        · replace hf := zI_f c_4 hf
          refine if c_5 : x1 = (5 : Int32) then ?_ else ?_
          · replace hf := zI_t c_5 hf
            refine lv_tableIn (tgt := 46) hx hb dX5_choices_1 (by rw [c_5]; decide) (by rw [c_5]; decide) (off := 45) (by rw [c_5]; decide) (by decide) ?_
            refine lv_bipush (v := (100 : Int32)) hx hb dX5_choices_46 (by decide) ?_
            exact ze_i C0 hP hS hf dX5_choices_48 hQ
          · replace hf := zI_f c_5 hf
            refine if c_6 : x1 = (6 : Int32) then ?_ else ?_
            · replace hf := zI_t c_6 hf
              refine lv_tableIn (tgt := 49) hx hb dX5_choices_1 (by rw [c_6]; decide) (by rw [c_6]; decide) (off := 48) (by rw [c_6]; decide) (by decide) ?_
              refine lv_aload_n hx hb dX5_choices_49 rfl (lv_at hl 0 rfl) ?_
              refine zr_get (C := RX5) (T := TX5) (n := 9) C0 hP 0 (by decide) shX_0 7 rfl (by decide) uw_X5 mw_250 rfl dX5_choices_50 ?_
              exact ze_i C0 hP hS hf dX5_choices_53 hQ
            · replace hf := zI_f c_6 hf
              have tc_1 := lv_neT (a := 1) c_1 (by decide)
              have tc_2 := lv_neT (a := 2) c_2 (by decide)
              have tc_3 := lv_neT (a := 3) c_3 (by decide)
              have tc_4 := lv_neT (a := 4) c_4 (by decide)
              have tc_5 := lv_neT (a := 5) c_5 (by decide)
              have tc_6 := lv_neT (a := 6) c_6 (by decide)
              refine lv_tableOut (tgt := 54) hx hb dX5_choices_1 (by omega) (by decide) ?_
              refine lv_aload_n hx hb dX5_choices_54 rfl (lv_at hl 0 rfl) ?_
              refine zr_getq (C := RX5) (T := TX5) (n := 9) C0 hP 0 (by decide) shX_0 3 10 rfl (by decide) uw_X5 mw_260 rfl dX5_choices_55 ?_
              refine zr_getN (C := RX4) (T := TX4) (n := 11) C0 hP 10 (by decide) shX_10 7 rfl (by decide) uw_X4 7 rfl rfl dX5_choices_58 ?_
              exact ze_i C0 hP hS hf dX5_choices_61 hQ
def fX5_firstOtherwise_B133 (q : Nat) (r133 : Int32 → Int32 → zM → Option (Int32 × zM)) (x5 : Int32) (x6 : Int32) (M : zM) : Option (Int32 × zM) :=
  if (M.1 q 2) ≤ x6 then
    some ((-1 : Int32), M)
  else
    zB (fX4_minutesOf 17 x5 M) fun r_10 M_8 =>
    zB (fX0_at q x6 M_8) fun r_13 M_11 =>
    if r_10 = r_13 then
      zV (fX4_passDay 17 M_11) fun M_15 =>
      zL (x6 + (1 : Int32)) fun x6_17 =>
      r133 x5 x6_17 M_15
    else
      some (x6, M_11)
def fX5_firstOtherwise_L133 (q : Nat) : Nat → Int32 → Int32 → zM → Option (Int32 × zM)
  | 0 => fun _ _ _ => none
  | j9 + 1 => fX5_firstOtherwise_B133 q (fX5_firstOtherwise_L133 q j9)
def fX5_firstOtherwise_J130 (q : Nat) (x5 : Int32) (M : zM) : Option (Int32 × zM) :=
  fX5_firstOtherwise_L133 q zF x5 (0 : Int32) M
def fX5_firstOtherwise_J12 (q : Nat) (x2 : Int32) (x3 : Int32) (x4 : Int32) (v0 : Int32) (M : zM) : Option (Int32 × zM) :=
  zV (fX4_become 17 10 M) fun M_2 =>
  if x3 = (1 : Int32) then
    zG (zin x2 5) <|
    zL (zu M_2 18 x2.toNatClampNeg x4) fun M_6 =>
    fX5_firstOtherwise_J130 q v0 M_6
  else
    if x3 = (2 : Int32) then
      zG (zin x2 5) <|
      zL (zu M_2 19 x2.toNatClampNeg x4) fun M_20 =>
      fX5_firstOtherwise_J130 q v0 M_20
    else
      if x3 = (3 : Int32) then
        zL (zu M_2 17 9 x4) fun M_22 =>
        fX5_firstOtherwise_J130 q v0 M_22
      else
        if x3 = (4 : Int32) then
          zG (zin x2 5) <|
          zL (zu M_2 20 x2.toNatClampNeg x4) fun M_25 =>
          fX5_firstOtherwise_J130 q v0 M_25
        else
          if x3 = (5 : Int32) then
            zG (zin x2 5) <|
            zL (zu M_2 20 x2.toNatClampNeg x4) fun M_28 =>
            fX5_firstOtherwise_J130 q v0 M_28
          else
            if x3 = (6 : Int32) then
              zL (zu M_2 17 10 x4) fun M_30 =>
              fX5_firstOtherwise_J130 q v0 M_30
            else
              fX5_firstOtherwise_J130 q v0 M_2
def fX5_firstOtherwise (q : Nat) (x2 : Int32) (x3 : Int32) (x4 : Int32) (M : zM) : Option (Int32 × zM) :=
  if x3 = (7 : Int32) then
    fX5_firstOtherwise_J12 q x2 x3 x4 x4 M
  else
    fX5_firstOtherwise_J12 q x2 x3 x4 x2 M
set_option maxHeartbeats 4000000 in
set_option maxRecDepth 100000 in
theorem mtX5_firstOtherwise (l : Launch) (G : zGr) (hJ : zJ G 64) (q : Nat) (hq : isS q) (x2 : Int32) (x3 : Int32) (x4 : Int32) (M : zM) (o : Int32 × zM) (hf : fX5_firstOtherwise q x2 x3 x4 M = some o) : zMi l G shX 64 yX5_firstOtherwise cX5_firstOtherwise 7 (some .int) 5 114 [.ref (G.2.2.1 0), .ref (G.2.2.1 q), .int x2, .int x3, .int x4] M o := by
  intro sz
  refine zOf (by decide) (Nat.le_of_ble_eq_true rfl) ?_
  intro p e R Q s m args below meth c hRm hsz hQ C0 hP hS ls hl
  subst hsz
  replace hRm : R = { frames := 5, cells := 0, slots := 0, locals := 114 } := hRm
  have hl : lv_has ls 7 [(0, .ref (G.2.2.1 0)), (1, .ref (G.2.2.1 q)), (2, .int x2), (3, .int x3), (4, .int x4)] := hl
  have hx := C0.1
  have hb := C0.2.1
  have hown := C0.2.2.2.1
  have hts := C0.2.2.2.2.1
  have L133 : ∀ (n133 : Nat), ∀ (x5 : Int32) (x6 : Int32) (M : zM) (H : Heap) (locs : List Loc) (ls : Array Slot), lv_has ls 7 [(0, .ref (G.2.2.1 0)), (1, .ref (G.2.2.1 q)), (5, .int x5), (6, .int x6)] → va_P G.1 zcl (zw G shX 64 M) H → va_S (zA G 64 s.heap.size) s.heap H locs → fX5_firstOtherwise_L133 q n133 x5 x6 M = some o → W p l e R s m args below meth c H locs 0 0 Q (F0 m 133 ls []) := by
    intro n133
    induction n133 with
    | zero => intro x5 x6 M H locs ls hl hP hS hf; exact zn_s (show none = some o from hf)
    | succ n133 ih133 =>
      intro x5 x6 M H locs ls hl hP hS hf
      replace hf : fX5_firstOtherwise_B133 q (fX5_firstOtherwise_L133 q n133) x5 x6 M = some o := hf
      unfold fX5_firstOtherwise_B133 at hf
      refine lv_iload hx hb dX5_firstOtherwise_133 (lv_at hl 3 rfl) ?_
      refine lv_aload_n hx hb dX5_firstOtherwise_135 rfl (lv_at hl 1 rfl) ?_
      refine zr_getN (C := RX0) (T := TX0) (n := 3) C0 hP q (isS_lt hq) (isS_s hq) 2 rfl (by decide) uw_X0 13 rfl rfl dX5_firstOtherwise_136 ?_
      refine lv_icmp_ge (tgt := 176) hx hb dX5_firstOtherwise_139 (by decide) (fun c_7 => ?_) (fun c_7 => ?_)
      · replace hf := zI_t c_7 hf
        refine lv_iconst (v := (-1 : Int32)) hx hb dX5_firstOtherwise_176 (by decide) ?_
        exact ze_i C0 hP hS hf dX5_firstOtherwise_177 hQ
      · replace hf := zI_f c_7 hf
        refine lv_aload_n hx hb dX5_firstOtherwise_142 rfl (lv_at hl 0 rfl) ?_
        refine zr_getq (C := RX5) (T := TX5) (n := 9) C0 hP 0 (by decide) shX_0 4 17 rfl (by decide) uw_X5 mw_292 rfl dX5_firstOtherwise_143 ?_
        refine lv_iload hx hb dX5_firstOtherwise_146 (lv_at hl 2 rfl) ?_
        obtain ⟨r_10, M_8, hc_9, hf⟩ := zB_o hf
        refine zc_vi (As := [.int x5]) (rest := []) C0 hP hS hl.1 17 (mtX4_minutesOf l G hJ 17 isW17 x5 M _ hc_9) lk_X5_122 (by decide) shX_17 (T := TX4) (n' := 11) rfl ds_X4_minutesOf (by rw [hRm]; exact ⟨Nat.le_of_ble_eq_true rfl, Nat.le_of_ble_eq_true rfl⟩) rfl rfl (Nat.le_of_ble_eq_true rfl) dX5_firstOtherwise_148 ⟨Nat.zero_le _, Nat.zero_le _⟩ (fun H locs hP hS => ?_)
        refine lv_aload_n hx hb dX5_firstOtherwise_151 rfl (lv_at hl 1 rfl) ?_
        refine lv_iload hx hb dX5_firstOtherwise_152 (lv_at hl 3 rfl) ?_
        obtain ⟨r_13, M_11, hc_12, hf⟩ := zB_o hf
        refine zc_vi (As := [.int x6]) (rest := [.int r_10]) C0 hP hS hl.1 q (mtX0_at l G hJ q hq x6 M_8 _ hc_12) lk_X5_229 (isS_lt hq) (isS_s hq) (T := TX0) (n' := 3) rfl ds_X0_at (by rw [hRm]; exact ⟨Nat.le_of_ble_eq_true rfl, Nat.le_of_ble_eq_true rfl⟩) rfl rfl (Nat.le_of_ble_eq_true rfl) dX5_firstOtherwise_154 ⟨Nat.zero_le _, Nat.zero_le _⟩ (fun H locs hP hS => ?_)
        refine lv_icmp_eq (tgt := 163) hx hb dX5_firstOtherwise_157 (by decide) (fun c_14 => ?_) (fun c_14 => ?_)
        · replace hf := zI_t c_14 hf
          refine lv_aload_n hx hb dX5_firstOtherwise_163 rfl (lv_at hl 0 rfl) ?_
          refine zr_getq (C := RX5) (T := TX5) (n := 9) C0 hP 0 (by decide) shX_0 4 17 rfl (by decide) uw_X5 mw_292 rfl dX5_firstOtherwise_164 ?_
          obtain ⟨M_15, hc_16, hf⟩ := zV_o hf
          refine zc_vv (As := []) (rest := []) C0 hP hS hl.1 17 (mtX4_passDay l G hJ 17 isW17 M_11 _ hc_16) lk_X5_141 (by decide) shX_17 (T := TX4) (n' := 11) rfl ds_X4_passDay (by rw [hRm]; exact ⟨Nat.le_of_ble_eq_true rfl, Nat.le_of_ble_eq_true rfl⟩) rfl rfl (Nat.le_of_ble_eq_true rfl) dX5_firstOtherwise_167 ⟨Nat.zero_le _, Nat.zero_le _⟩ (fun H locs hP hS => ?_)
          obtain ⟨x6_17, ex6_17, hf⟩ := zL_o hf
          refine lv_iinc (v := x6_17) (lv' := [(6, .int x6_17), (0, .ref (G.2.2.1 0)), (1, .ref (G.2.2.1 q)), (5, .int x5)]) hx hb dX5_firstOtherwise_170 hl (k := 3) rfl (by rw [ex6_17]; rfl) (by decide) rfl (fun ls hl => ?_)
          refine lv_goto (tgt := 133) hx hb dX5_firstOtherwise_173 (by decide) ?_
          exact ih133 x5 x6_17 M_15 H locs ls (lv_sub hl [1, 2, 3, 0] rfl) hP hS hf
        · replace hf := zI_f c_14 hf
          refine lv_iload hx hb dX5_firstOtherwise_160 (lv_at hl 3 rfl) ?_
          exact ze_i C0 hP hS hf dX5_firstOtherwise_162 hQ
  have J130 : ∀ (x5 : Int32) (M : zM) (H : Heap) (locs : List Loc) (ls : Array Slot), lv_has ls 7 [(0, .ref (G.2.2.1 0)), (1, .ref (G.2.2.1 q)), (5, .int x5)] → va_P G.1 zcl (zw G shX 64 M) H → va_S (zA G 64 s.heap.size) s.heap H locs → fX5_firstOtherwise_J130 q x5 M = some o → W p l e R s m args below meth c H locs 0 0 Q (F0 m 130 ls []) := by
    intro x5 M H locs ls hl hP hS hf
    unfold fX5_firstOtherwise_J130 at hf
    refine lv_iconst (v := (0 : Int32)) hx hb dX5_firstOtherwise_130 (by decide) ?_
    refine lv_istore (lv' := [(6, .int (0 : Int32)), (0, .ref (G.2.2.1 0)), (1, .ref (G.2.2.1 q)), (5, .int x5)]) hx hb dX5_firstOtherwise_131 hl (by decide) rfl (fun ls hl => ?_)
    exact L133 zF x5 (0 : Int32) M H locs ls (lv_sub hl [1, 2, 3, 0] rfl) hP hS hf
  have J12 : ∀ (x2 : Int32) (x3 : Int32) (x4 : Int32) (v0 : Int32) (M : zM) (H : Heap) (locs : List Loc) (ls : Array Slot), lv_has ls 7 [(0, .ref (G.2.2.1 0)), (1, .ref (G.2.2.1 q)), (2, .int x2), (3, .int x3), (4, .int x4)] → va_P G.1 zcl (zw G shX 64 M) H → va_S (zA G 64 s.heap.size) s.heap H locs → fX5_firstOtherwise_J12 q x2 x3 x4 v0 M = some o → W p l e R s m args below meth c H locs 0 0 Q (F0 m 12 ls [.int v0]) := by
    intro x2 x3 x4 v0 M H locs ls hl hP hS hf
    unfold fX5_firstOtherwise_J12 at hf
    refine lv_istore (lv' := [(5, .int v0), (0, .ref (G.2.2.1 0)), (1, .ref (G.2.2.1 q)), (2, .int x2), (3, .int x3), (4, .int x4)]) hx hb dX5_firstOtherwise_12 hl (by decide) rfl (fun ls hl => ?_)
    refine lv_aload_n hx hb dX5_firstOtherwise_14 rfl (lv_at hl 1 rfl) ?_
    refine zr_getq (C := RX5) (T := TX5) (n := 9) C0 hP 0 (by decide) shX_0 4 17 rfl (by decide) uw_X5 mw_292 rfl dX5_firstOtherwise_15 ?_
    refine lv_aload_n hx hb dX5_firstOtherwise_18 rfl (lv_at hl 1 rfl) ?_
    refine zr_getq (C := RX5) (T := TX5) (n := 9) C0 hP 0 (by decide) shX_0 3 10 rfl (by decide) uw_X5 mw_260 rfl dX5_firstOtherwise_19 ?_
    obtain ⟨M_2, hc_3, hf⟩ := zV_o hf
    refine zc_vv (As := [.ref (G.2.2.1 10)]) (rest := []) C0 hP hS hl.1 17 (mtX4_become l G hJ 17 isW17 10 isW10 M _ hc_3) lk_X5_151 (by decide) shX_17 (T := TX4) (n' := 11) rfl ds_X4_become (by rw [hRm]; exact ⟨Nat.le_of_ble_eq_true rfl, Nat.le_of_ble_eq_true rfl⟩) rfl rfl (Nat.le_of_ble_eq_true rfl) dX5_firstOtherwise_22 ⟨Nat.zero_le _, Nat.zero_le _⟩ (fun H locs hP hS => ?_)
    refine lv_iload_n hx hb dX5_firstOtherwise_25 rfl (lv_at hl 4 rfl) ?_
    refine if c_4 : x3 = (1 : Int32) then ?_ else ?_
    · replace hf := zI_t c_4 hf
      refine lv_tableIn (tgt := 64) hx hb dX5_firstOtherwise_26 (by rw [c_4]; decide) (by rw [c_4]; decide) (off := 38) (by rw [c_4]; decide) (by decide) ?_
      refine lv_aload_n hx hb dX5_firstOtherwise_64 rfl (lv_at hl 1 rfl) ?_
      refine zr_getq (C := RX5) (T := TX5) (n := 9) C0 hP 0 (by decide) shX_0 4 17 rfl (by decide) uw_X5 mw_292 rfl dX5_firstOtherwise_65 ?_
      refine zr_getqN (C := RX4) (T := TX4) (n := 11) C0 hP 17 (by decide) shX_17 1 18 rfl (by decide) uw_X4 3 rfl rfl dX5_firstOtherwise_68 ?_
      refine lv_iload_n hx hb dX5_firstOtherwise_71 rfl (lv_at hl 3 rfl) ?_
      refine lv_iload hx hb dX5_firstOtherwise_72 (lv_at hl 5 rfl) ?_
      obtain ⟨hg_5, hf⟩ := zG_o hf
      refine zr_iast C0 hJ hP hS 18 (by decide) shX_18 hg_5 dX5_firstOtherwise_74 (fun H locs hP hS => ?_)
      obtain ⟨M_6, eM_6, hf⟩ := zL_o hf
      have hP : va_P G.1 zcl (zw G shX 64 M_6) H := by rw [eM_6]; exact hP
      refine lv_goto (tgt := 130) hx hb dX5_firstOtherwise_75 (by decide) ?_
      exact J130 v0 M_6 H locs ls (lv_sub hl [1, 2, 0] rfl) hP hS hf
    · replace hf := zI_f c_4 hf
      refine if c_18 : x3 = (2 : Int32) then ?_ else ?_
      · replace hf := zI_t c_18 hf
        refine lv_tableIn (tgt := 78) hx hb dX5_firstOtherwise_26 (by rw [c_18]; decide) (by rw [c_18]; decide) (off := 52) (by rw [c_18]; decide) (by decide) ?_
        refine lv_aload_n hx hb dX5_firstOtherwise_78 rfl (lv_at hl 1 rfl) ?_
        refine zr_getq (C := RX5) (T := TX5) (n := 9) C0 hP 0 (by decide) shX_0 4 17 rfl (by decide) uw_X5 mw_292 rfl dX5_firstOtherwise_79 ?_
        refine zr_getqN (C := RX4) (T := TX4) (n := 11) C0 hP 17 (by decide) shX_17 2 19 rfl (by decide) uw_X4 4 rfl rfl dX5_firstOtherwise_82 ?_
        refine lv_iload_n hx hb dX5_firstOtherwise_85 rfl (lv_at hl 3 rfl) ?_
        refine lv_iload hx hb dX5_firstOtherwise_86 (lv_at hl 5 rfl) ?_
        obtain ⟨hg_19, hf⟩ := zG_o hf
        refine zr_iast C0 hJ hP hS 19 (by decide) shX_19 hg_19 dX5_firstOtherwise_88 (fun H locs hP hS => ?_)
        obtain ⟨M_20, eM_20, hf⟩ := zL_o hf
        have hP : va_P G.1 zcl (zw G shX 64 M_20) H := by rw [eM_20]; exact hP
        refine lv_goto (tgt := 130) hx hb dX5_firstOtherwise_89 (by decide) ?_
        exact J130 v0 M_20 H locs ls (lv_sub hl [1, 2, 0] rfl) hP hS hf
      · replace hf := zI_f c_18 hf
        refine if c_21 : x3 = (3 : Int32) then ?_ else ?_
        · replace hf := zI_t c_21 hf
          refine lv_tableIn (tgt := 92) hx hb dX5_firstOtherwise_26 (by rw [c_21]; decide) (by rw [c_21]; decide) (off := 66) (by rw [c_21]; decide) (by decide) ?_
          refine lv_aload_n hx hb dX5_firstOtherwise_92 rfl (lv_at hl 1 rfl) ?_
          refine zr_getq (C := RX5) (T := TX5) (n := 9) C0 hP 0 (by decide) shX_0 4 17 rfl (by decide) uw_X5 mw_292 rfl dX5_firstOtherwise_93 ?_
          refine lv_iload hx hb dX5_firstOtherwise_96 (lv_at hl 5 rfl) ?_
          refine zr_putN (C := RX4) (T := TX4) (n := 11) C0 hJ hP hS 17 (by decide) shX_17 9 rfl (by decide) uw_X4 tyX4 tyX4_ok nmX4 9 rfl rfl rfl ⟨rfl, rfl⟩ dX5_firstOtherwise_98 (fun H locs hP hS => ?_)
          obtain ⟨M_22, eM_22, hf⟩ := zL_o hf
          have hP : va_P G.1 zcl (zw G shX 64 M_22) H := by rw [eM_22]; exact hP
          refine lv_goto (tgt := 130) hx hb dX5_firstOtherwise_101 (by decide) ?_
          exact J130 v0 M_22 H locs ls (lv_sub hl [1, 2, 0] rfl) hP hS hf
        · replace hf := zI_f c_21 hf
          refine if c_23 : x3 = (4 : Int32) then ?_ else ?_
          · replace hf := zI_t c_23 hf
            refine lv_tableIn (tgt := 104) hx hb dX5_firstOtherwise_26 (by rw [c_23]; decide) (by rw [c_23]; decide) (off := 78) (by rw [c_23]; decide) (by decide) ?_
            refine lv_aload_n hx hb dX5_firstOtherwise_104 rfl (lv_at hl 1 rfl) ?_
            refine zr_getq (C := RX5) (T := TX5) (n := 9) C0 hP 0 (by decide) shX_0 4 17 rfl (by decide) uw_X5 mw_292 rfl dX5_firstOtherwise_105 ?_
            refine zr_getqN (C := RX4) (T := TX4) (n := 11) C0 hP 17 (by decide) shX_17 3 20 rfl (by decide) uw_X4 5 rfl rfl dX5_firstOtherwise_108 ?_
            refine lv_iload_n hx hb dX5_firstOtherwise_111 rfl (lv_at hl 3 rfl) ?_
            refine lv_iload hx hb dX5_firstOtherwise_112 (lv_at hl 5 rfl) ?_
            obtain ⟨hg_24, hf⟩ := zG_o hf
            refine zr_iast C0 hJ hP hS 20 (by decide) shX_20 hg_24 dX5_firstOtherwise_114 (fun H locs hP hS => ?_)
            obtain ⟨M_25, eM_25, hf⟩ := zL_o hf
            have hP : va_P G.1 zcl (zw G shX 64 M_25) H := by rw [eM_25]; exact hP
            refine lv_goto (tgt := 130) hx hb dX5_firstOtherwise_115 (by decide) ?_
            exact J130 v0 M_25 H locs ls (lv_sub hl [1, 2, 0] rfl) hP hS hf
          · replace hf := zI_f c_23 hf
            refine if c_26 : x3 = (5 : Int32) then ?_ else ?_
            · replace hf := zI_t c_26 hf
              refine lv_tableIn (tgt := 104) hx hb dX5_firstOtherwise_26 (by rw [c_26]; decide) (by rw [c_26]; decide) (off := 78) (by rw [c_26]; decide) (by decide) ?_
              refine lv_aload_n hx hb dX5_firstOtherwise_104 rfl (lv_at hl 1 rfl) ?_
              refine zr_getq (C := RX5) (T := TX5) (n := 9) C0 hP 0 (by decide) shX_0 4 17 rfl (by decide) uw_X5 mw_292 rfl dX5_firstOtherwise_105 ?_
              refine zr_getqN (C := RX4) (T := TX4) (n := 11) C0 hP 17 (by decide) shX_17 3 20 rfl (by decide) uw_X4 5 rfl rfl dX5_firstOtherwise_108 ?_
              refine lv_iload_n hx hb dX5_firstOtherwise_111 rfl (lv_at hl 3 rfl) ?_
              refine lv_iload hx hb dX5_firstOtherwise_112 (lv_at hl 5 rfl) ?_
              obtain ⟨hg_27, hf⟩ := zG_o hf
              refine zr_iast C0 hJ hP hS 20 (by decide) shX_20 hg_27 dX5_firstOtherwise_114 (fun H locs hP hS => ?_)
              obtain ⟨M_28, eM_28, hf⟩ := zL_o hf
              have hP : va_P G.1 zcl (zw G shX 64 M_28) H := by rw [eM_28]; exact hP
              refine lv_goto (tgt := 130) hx hb dX5_firstOtherwise_115 (by decide) ?_
              exact J130 v0 M_28 H locs ls (lv_sub hl [1, 2, 0] rfl) hP hS hf
            · replace hf := zI_f c_26 hf
              refine if c_29 : x3 = (6 : Int32) then ?_ else ?_
              · replace hf := zI_t c_29 hf
                refine lv_tableIn (tgt := 118) hx hb dX5_firstOtherwise_26 (by rw [c_29]; decide) (by rw [c_29]; decide) (off := 92) (by rw [c_29]; decide) (by decide) ?_
                refine lv_aload_n hx hb dX5_firstOtherwise_118 rfl (lv_at hl 1 rfl) ?_
                refine zr_getq (C := RX5) (T := TX5) (n := 9) C0 hP 0 (by decide) shX_0 4 17 rfl (by decide) uw_X5 mw_292 rfl dX5_firstOtherwise_119 ?_
                refine lv_iload hx hb dX5_firstOtherwise_122 (lv_at hl 5 rfl) ?_
                refine zr_putN (C := RX4) (T := TX4) (n := 11) C0 hJ hP hS 17 (by decide) shX_17 10 rfl (by decide) uw_X4 tyX4 tyX4_ok nmX4 10 rfl rfl rfl ⟨rfl, rfl⟩ dX5_firstOtherwise_124 (fun H locs hP hS => ?_)
                obtain ⟨M_30, eM_30, hf⟩ := zL_o hf
                have hP : va_P G.1 zcl (zw G shX 64 M_30) H := by rw [eM_30]; exact hP
                refine lv_goto (tgt := 130) hx hb dX5_firstOtherwise_127 (by decide) ?_
                exact J130 v0 M_30 H locs ls (lv_sub hl [1, 2, 0] rfl) hP hS hf
              · replace hf := zI_f c_29 hf
                have tc_4 := lv_neT (a := 1) c_4 (by decide)
                have tc_18 := lv_neT (a := 2) c_18 (by decide)
                have tc_21 := lv_neT (a := 3) c_21 (by decide)
                have tc_23 := lv_neT (a := 4) c_23 (by decide)
                have tc_26 := lv_neT (a := 5) c_26 (by decide)
                have tc_29 := lv_neT (a := 6) c_29 (by decide)
                refine lv_tableOut (tgt := 130) hx hb dX5_firstOtherwise_26 (by omega) (by decide) ?_
                exact J130 v0 M_2 H locs ls (lv_sub hl [1, 2, 0] rfl) hP hS hf
  unfold fX5_firstOtherwise at hf
  obtain ⟨H, eH⟩ : ∃ H, H = s.heap := ⟨_, rfl⟩
  obtain ⟨locs, el⟩ : ∃ locs : List Loc, locs = [] := ⟨_, rfl⟩
  rw [← eH] at hP ⊢
  have hS : va_S (zA G 64 s.heap.size) s.heap H locs := by rw [eH, el]; exact hS
  rw [← el]
  refine lv_iload_n hx hb dX5_firstOtherwise_0 rfl (lv_at hl 3 rfl) ?_
  refine lv_bipush (v := (7 : Int32)) hx hb dX5_firstOtherwise_1 (by decide) ?_
  refine lv_icmp_ne (tgt := 11) hx hb dX5_firstOtherwise_3 (by decide) (fun c_1 => ?_) (fun c_1 => ?_)
  · replace hf := zI_f c_1 hf
    refine lv_iload_n hx hb dX5_firstOtherwise_11 rfl (lv_at hl 2 rfl) ?_
    exact J12 x2 x3 x4 x2 M H locs ls (lv_sub hl [0, 1, 2, 3, 4] rfl) hP hS hf
  · replace hf := zI_t c_1 hf
    refine lv_iload hx hb dX5_firstOtherwise_6 (lv_at hl 4 rfl) ?_
    refine lv_goto (tgt := 12) hx hb dX5_firstOtherwise_8 (by decide) ?_
    exact J12 x2 x3 x4 x4 M H locs ls (lv_sub hl [0, 1, 2, 3, 4] rfl) hP hS hf
def fX5_tells_B98 (r98 : Int32 → Int32 → Nat → Int32 → Int32 → Int32 → Int32 → zM → Option (Int32 × zM)) (x2 : Int32) (x3 : Int32) (q4 : Nat) (x5 : Int32) (x6 : Int32) (x7 : Int32) (x8 : Int32) (M : zM) : Option (Int32 × zM) :=
  if x8 < (0 : Int32) then
    if x3 = (4 : Int32) then
      some (x6, M)
    else
      if x3 = (5 : Int32) then
        some (x7, M)
      else
        some (x5, M)
  else
    zB (fX5_firstOtherwise q4 x2 x3 x8 M) fun r_27 M_25 =>
    if r_27 = (-1 : Int32) then
      zL (x5 ||| (zshl (1 : Int32) x8)) fun x5_30 =>
      zL (x6 + (1 : Int32)) fun x6_31 =>
      zL (x8 + (-1 : Int32)) fun x8_32 =>
      r98 x2 x3 q4 x5_30 x6_31 x8 x8_32 M_25
    else
      zL (x8 + (-1 : Int32)) fun x8_29 =>
      r98 x2 x3 q4 x5 x6 x7 x8_29 M_25
def fX5_tells_L98 : Nat → Int32 → Int32 → Nat → Int32 → Int32 → Int32 → Int32 → zM → Option (Int32 × zM)
  | 0 => fun _ _ _ _ _ _ _ _ => none
  | j9 + 1 => fX5_tells_B98 (fX5_tells_L98 j9)
def fX5_tells (x1 : Int32) (x2 : Int32) (x3 : Int32) (M : zM) : Option (Int32 × zM) :=
  zB (fX5_within x1 (0 : Int32) (3 : Int32) M) fun r_3 M_1 =>
  if r_3 = (0 : Int32) then
    some ((-2 : Int32), M_1)
  else
    zB (fX4_has 10 x2 M_1) fun r_7 M_5 =>
    if r_7 = (0 : Int32) then
      some ((-2 : Int32), M_5)
    else
      zB (fX5_within x3 (0 : Int32) (7 : Int32) M_5) fun r_11 M_9 =>
      if r_11 = (0 : Int32) then
        some ((-2 : Int32), M_9)
      else
        zG (zin x1 4) <|
        zL (56 + 2 * x1.toNatClampNeg) fun q_14 =>
        if (M_9.1 q_14 1) = (-1 : Int32) then
          some ((-11 : Int32), M_9)
        else
          if (M_9.1 q_14 2) ≤ (30 : Int32) then
            if x3 = (0 : Int32) then
              zB (fX5_firstOtherwise q_14 x2 x3 (0 : Int32) M_9) fun r_35 M_33 =>
              some (r_35, M_33)
            else
              zB (fX5_choices x3 M_9) fun r_20 M_18 =>
              zL (r_20 - (1 : Int32)) fun x8_21 =>
              fX5_tells_L98 zF x2 x3 q_14 (0 : Int32) (0 : Int32) (-1 : Int32) x8_21 M_18
          else
            some ((-2 : Int32), M_9)
set_option maxHeartbeats 4000000 in
set_option maxRecDepth 100000 in
theorem mtX5_tells (l : Launch) (G : zGr) (hJ : zJ G 64) (x1 : Int32) (x2 : Int32) (x3 : Int32) (M : zM) (o : Int32 × zM) (hf : fX5_tells x1 x2 x3 M = some o) : zMi l G shX 64 yX5_tells cX5_tells 9 (some .int) 6 140 [.ref (G.2.2.1 0), .int x1, .int x2, .int x3] M o := by
  intro sz
  refine zOf (by decide) (Nat.le_of_ble_eq_true rfl) ?_
  intro p e R Q s m args below meth c hRm hsz hQ C0 hP hS ls hl
  subst hsz
  replace hRm : R = { frames := 6, cells := 0, slots := 0, locals := 140 } := hRm
  have hl : lv_has ls 9 [(0, .ref (G.2.2.1 0)), (1, .int x1), (2, .int x2), (3, .int x3)] := hl
  have hx := C0.1
  have hb := C0.2.1
  have hown := C0.2.2.2.1
  have hts := C0.2.2.2.2.1
  have L98 : ∀ (n98 : Nat), ∀ (x2 : Int32) (x3 : Int32) (q4 : Nat) (hq4 : isS q4) (x5 : Int32) (x6 : Int32) (x7 : Int32) (x8 : Int32) (M : zM) (H : Heap) (locs : List Loc) (ls : Array Slot), lv_has ls 9 [(0, .ref (G.2.2.1 0)), (2, .int x2), (3, .int x3), (4, .ref (G.2.2.1 q4)), (5, .int x5), (6, .int x6), (7, .int x7), (8, .int x8)] → va_P G.1 zcl (zw G shX 64 M) H → va_S (zA G 64 s.heap.size) s.heap H locs → fX5_tells_L98 n98 x2 x3 q4 x5 x6 x7 x8 M = some o → W p l e R s m args below meth c H locs 0 0 Q (F0 m 98 ls []) := by
    intro n98
    induction n98 with
    | zero => intro x2 x3 q4 hq4 x5 x6 x7 x8 M H locs ls hl hP hS hf; exact zn_s (show none = some o from hf)
    | succ n98 ih98 =>
      intro x2 x3 q4 hq4 x5 x6 x7 x8 M H locs ls hl hP hS hf
      replace hf : fX5_tells_B98 (fX5_tells_L98 n98) x2 x3 q4 x5 x6 x7 x8 M = some o := hf
      unfold fX5_tells_B98 at hf
      refine lv_iload hx hb dX5_tells_98 (lv_at hl 7 rfl) ?_
      refine lv_if_lt (tgt := 139) hx hb dX5_tells_100 (by decide) (fun c_22 => ?_) (fun c_22 => ?_)
      · replace hf := zI_t c_22 hf
        refine lv_iload_n hx hb dX5_tells_139 rfl (lv_at hl 2 rfl) ?_
        refine if c_23 : x3 = (4 : Int32) then ?_ else ?_
        · replace hf := zI_t c_23 hf
          refine lv_lookup (tgt := 168) hx hb dX5_tells_140 (by decide) (off := 28) (by rw [c_23]; decide) (by decide) ?_
          refine lv_iload hx hb dX5_tells_168 (lv_at hl 5 rfl) ?_
          exact ze_i C0 hP hS hf dX5_tells_170 hQ
        · replace hf := zI_f c_23 hf
          refine if c_24 : x3 = (5 : Int32) then ?_ else ?_
          · replace hf := zI_t c_24 hf
            refine lv_lookup (tgt := 171) hx hb dX5_tells_140 (by decide) (off := 31) (by rw [c_24]; decide) (by decide) ?_
            refine lv_iload hx hb dX5_tells_171 (lv_at hl 6 rfl) ?_
            exact ze_i C0 hP hS hf dX5_tells_173 hQ
          · replace hf := zI_f c_24 hf
            refine lv_lookup (tgt := 174) hx hb dX5_tells_140 (by decide) (off := 34) (by show Op.lookupswitch.offset [(4, 28), (5, 31)] _ _ = _; rw [lv_osw c_23 (by decide), lv_osw c_24 (by decide)]; rfl) (by decide) ?_
            refine lv_iload hx hb dX5_tells_174 (lv_at hl 4 rfl) ?_
            exact ze_i C0 hP hS hf dX5_tells_176 hQ
      · replace hf := zI_f c_22 hf
        refine lv_aload_n hx hb dX5_tells_103 rfl (lv_at hl 0 rfl) ?_
        refine lv_aload hx hb dX5_tells_104 (lv_at hl 3 rfl) ?_
        refine lv_iload_n hx hb dX5_tells_106 rfl (lv_at hl 1 rfl) ?_
        refine lv_iload_n hx hb dX5_tells_107 rfl (lv_at hl 2 rfl) ?_
        refine lv_iload hx hb dX5_tells_108 (lv_at hl 7 rfl) ?_
        obtain ⟨r_27, M_25, hc_26, hf⟩ := zB_o hf
        refine zc_vi (As := [.ref (G.2.2.1 q4), .int x2, .int x3, .int x8]) (rest := []) C0 hP hS hl.1 0 (mtX5_firstOtherwise l G hJ q4 hq4 x2 x3 x8 M _ hc_26) lk_X5_206 (by decide) shX_0 (T := TX5) (n' := 9) rfl ds_X5_firstOtherwise (by rw [hRm]; exact ⟨Nat.le_of_ble_eq_true rfl, Nat.le_of_ble_eq_true rfl⟩) rfl rfl (Nat.le_of_ble_eq_true rfl) dX5_tells_110 ⟨Nat.zero_le _, Nat.zero_le _⟩ (fun H locs hP hS => ?_)
        refine lv_iconst (v := (-1 : Int32)) hx hb dX5_tells_113 (by decide) ?_
        refine lv_icmp_ne (tgt := 133) hx hb dX5_tells_114 (by decide) (fun c_28 => ?_) (fun c_28 => ?_)
        · replace hf := zI_f c_28 hf
          obtain ⟨x8_29, ex8_29, hf⟩ := zL_o hf
          refine lv_iinc (v := x8_29) (lv' := [(8, .int x8_29), (0, .ref (G.2.2.1 0)), (2, .int x2), (3, .int x3), (4, .ref (G.2.2.1 q4)), (5, .int x5), (6, .int x6), (7, .int x7)]) hx hb dX5_tells_133 hl (k := 7) rfl (by rw [ex8_29]; rfl) (by decide) rfl (fun ls hl => ?_)
          refine lv_goto (tgt := 98) hx hb dX5_tells_136 (by decide) ?_
          exact ih98 x2 x3 q4 hq4 x5 x6 x7 x8_29 M_25 H locs ls (lv_sub hl [1, 2, 3, 4, 5, 6, 7, 0] rfl) hP hS hf
        · replace hf := zI_t c_28 hf
          refine lv_iload hx hb dX5_tells_117 (lv_at hl 4 rfl) ?_
          refine lv_iconst (v := (1 : Int32)) hx hb dX5_tells_119 (by decide) ?_
          refine lv_iload hx hb dX5_tells_120 (lv_at hl 7 rfl) ?_
          refine zo_ishl hx hb dX5_tells_122 ?_
          refine lv_ior hx hb dX5_tells_123 ?_
          refine lv_topi (fun x5_30 ex5_30 => ?_)
          replace hf := zL_e ex5_30 hf
          refine lv_istore (lv' := [(5, .int x5_30), (0, .ref (G.2.2.1 0)), (2, .int x2), (3, .int x3), (4, .ref (G.2.2.1 q4)), (6, .int x6), (7, .int x7), (8, .int x8)]) hx hb dX5_tells_124 hl (by decide) rfl (fun ls hl => ?_)
          obtain ⟨x6_31, ex6_31, hf⟩ := zL_o hf
          refine lv_iinc (v := x6_31) (lv' := [(6, .int x6_31), (5, .int x5_30), (0, .ref (G.2.2.1 0)), (2, .int x2), (3, .int x3), (4, .ref (G.2.2.1 q4)), (7, .int x7), (8, .int x8)]) hx hb dX5_tells_126 hl (k := 5) rfl (by rw [ex6_31]; rfl) (by decide) rfl (fun ls hl => ?_)
          refine lv_iload hx hb dX5_tells_129 (lv_at hl 7 rfl) ?_
          refine lv_istore (lv' := [(7, .int x8), (6, .int x6_31), (5, .int x5_30), (0, .ref (G.2.2.1 0)), (2, .int x2), (3, .int x3), (4, .ref (G.2.2.1 q4)), (8, .int x8)]) hx hb dX5_tells_131 hl (by decide) rfl (fun ls hl => ?_)
          obtain ⟨x8_32, ex8_32, hf⟩ := zL_o hf
          refine lv_iinc (v := x8_32) (lv' := [(8, .int x8_32), (7, .int x8), (6, .int x6_31), (5, .int x5_30), (0, .ref (G.2.2.1 0)), (2, .int x2), (3, .int x3), (4, .ref (G.2.2.1 q4))]) hx hb dX5_tells_133 hl (k := 7) rfl (by rw [ex8_32]; rfl) (by decide) rfl (fun ls hl => ?_)
          refine lv_goto (tgt := 98) hx hb dX5_tells_136 (by decide) ?_
          exact ih98 x2 x3 q4 hq4 x5_30 x6_31 x8 x8_32 M_25 H locs ls (lv_sub hl [4, 5, 6, 7, 3, 2, 1, 0] rfl) hP hS hf
  unfold fX5_tells at hf
  obtain ⟨H, eH⟩ : ∃ H, H = s.heap := ⟨_, rfl⟩
  obtain ⟨locs, el⟩ : ∃ locs : List Loc, locs = [] := ⟨_, rfl⟩
  rw [← eH] at hP ⊢
  have hS : va_S (zA G 64 s.heap.size) s.heap H locs := by rw [eH, el]; exact hS
  rw [← el]
  refine lv_iload_n hx hb dX5_tells_0 rfl (lv_at hl 1 rfl) ?_
  refine lv_iconst (v := (0 : Int32)) hx hb dX5_tells_1 (by decide) ?_
  refine lv_iconst (v := (3 : Int32)) hx hb dX5_tells_2 (by decide) ?_
  obtain ⟨r_3, M_1, hc_2, hf⟩ := zB_o hf
  refine zc_si (As := [.int x1, .int (0 : Int32), .int (3 : Int32)]) (rest := []) C0 hP hS hl.1 (mtX5_within l G hJ x1 (0 : Int32) (3 : Int32) M _ hc_2) ls_X5_78 ds_X5_within (by rw [hRm]; exact ⟨Nat.le_of_ble_eq_true rfl, Nat.le_of_ble_eq_true rfl⟩) rfl rfl (Nat.le_of_ble_eq_true rfl) dX5_tells_3 ⟨Nat.zero_le _, Nat.zero_le _⟩ (fun H locs hP hS => ?_)
  refine lv_if_eq (tgt := 30) hx hb dX5_tells_6 (by decide) (fun c_4 => ?_) (fun c_4 => ?_)
  · replace hf := zI_t c_4 hf
    refine lv_bipush (v := (-2 : Int32)) hx hb dX5_tells_30 (by decide) ?_
    exact ze_i C0 hP hS hf dX5_tells_32 hQ
  · replace hf := zI_f c_4 hf
    refine lv_aload_n hx hb dX5_tells_9 rfl (lv_at hl 0 rfl) ?_
    refine zr_getq (C := RX5) (T := TX5) (n := 9) C0 hP 0 (by decide) shX_0 3 10 rfl (by decide) uw_X5 mw_260 rfl dX5_tells_10 ?_
    refine lv_iload_n hx hb dX5_tells_13 rfl (lv_at hl 2 rfl) ?_
    obtain ⟨r_7, M_5, hc_6, hf⟩ := zB_o hf
    refine zc_vi (As := [.int x2]) (rest := []) C0 hP hS hl.1 10 (mtX4_has l G hJ 10 isW10 x2 M_1 _ hc_6) lk_X5_106 (by decide) shX_10 (T := TX4) (n' := 11) rfl ds_X4_has (by rw [hRm]; exact ⟨Nat.le_of_ble_eq_true rfl, Nat.le_of_ble_eq_true rfl⟩) rfl rfl (Nat.le_of_ble_eq_true rfl) dX5_tells_14 ⟨Nat.zero_le _, Nat.zero_le _⟩ (fun H locs hP hS => ?_)
    refine lv_if_eq (tgt := 30) hx hb dX5_tells_17 (by decide) (fun c_8 => ?_) (fun c_8 => ?_)
    · replace hf := zI_t c_8 hf
      refine lv_bipush (v := (-2 : Int32)) hx hb dX5_tells_30 (by decide) ?_
      exact ze_i C0 hP hS hf dX5_tells_32 hQ
    · replace hf := zI_f c_8 hf
      refine lv_iload_n hx hb dX5_tells_20 rfl (lv_at hl 3 rfl) ?_
      refine lv_iconst (v := (0 : Int32)) hx hb dX5_tells_21 (by decide) ?_
      refine lv_bipush (v := (7 : Int32)) hx hb dX5_tells_22 (by decide) ?_
      obtain ⟨r_11, M_9, hc_10, hf⟩ := zB_o hf
      refine zc_si (As := [.int x3, .int (0 : Int32), .int (7 : Int32)]) (rest := []) C0 hP hS hl.1 (mtX5_within l G hJ x3 (0 : Int32) (7 : Int32) M_5 _ hc_10) ls_X5_78 ds_X5_within (by rw [hRm]; exact ⟨Nat.le_of_ble_eq_true rfl, Nat.le_of_ble_eq_true rfl⟩) rfl rfl (Nat.le_of_ble_eq_true rfl) dX5_tells_24 ⟨Nat.zero_le _, Nat.zero_le _⟩ (fun H locs hP hS => ?_)
      refine lv_if_ne (tgt := 33) hx hb dX5_tells_27 (by decide) (fun c_12 => ?_) (fun c_12 => ?_)
      · replace hf := zI_f c_12 hf
        refine lv_aload_n hx hb dX5_tells_33 rfl (lv_at hl 0 rfl) ?_
        refine zr_getq (C := RX5) (T := TX5) (n := 9) C0 hP 0 (by decide) shX_0 6 31 rfl (by decide) uw_X5 mw_348 rfl dX5_tells_34 ?_
        refine lv_iload_n hx hb dX5_tells_37 rfl (lv_at hl 1 rfl) ?_
        obtain ⟨hg_13, hf⟩ := zG_o hf
        refine zr_aald4 C0 hP 31 (by decide) shX_31 hg_13 dX5_tells_38 ?_
        obtain ⟨q_14, eq_14, hf⟩ := zL_o hf
        rw [← eq_14]
        have hq_14 : isS q_14 := eq_14 ▸ isS_of hg_13
        refine lv_astore (lv' := [(4, .ref (G.2.2.1 q_14)), (0, .ref (G.2.2.1 0)), (1, .int x1), (2, .int x2), (3, .int x3)]) hx hb dX5_tells_39 hl (by decide) rfl (fun ls hl => ?_)
        refine lv_aload hx hb dX5_tells_41 (lv_at hl 0 rfl) ?_
        refine zr_getN (C := RX0) (T := TX0) (n := 3) C0 hP q_14 (isS_lt hq_14) (isS_s hq_14) 1 rfl (by decide) uw_X0 12 rfl rfl dX5_tells_43 ?_
        refine lv_iconst (v := (-1 : Int32)) hx hb dX5_tells_46 (by decide) ?_
        refine lv_icmp_ne (tgt := 53) hx hb dX5_tells_47 (by decide) (fun c_15 => ?_) (fun c_15 => ?_)
        · replace hf := zI_f c_15 hf
          refine lv_aload hx hb dX5_tells_53 (lv_at hl 0 rfl) ?_
          refine zr_getN (C := RX0) (T := TX0) (n := 3) C0 hP q_14 (isS_lt hq_14) (isS_s hq_14) 2 rfl (by decide) uw_X0 13 rfl rfl dX5_tells_55 ?_
          refine lv_bipush (v := (30 : Int32)) hx hb dX5_tells_58 (by decide) ?_
          refine lv_icmp_le (tgt := 66) hx hb dX5_tells_60 (by decide) (fun c_16 => ?_) (fun c_16 => ?_)
          · replace hf := zI_t c_16 hf
            refine lv_iload_n hx hb dX5_tells_66 rfl (lv_at hl 4 rfl) ?_
            refine lv_if_ne (tgt := 80) hx hb dX5_tells_67 (by decide) (fun c_17 => ?_) (fun c_17 => ?_)
            · replace hf := zI_f c_17 hf
              refine lv_iconst (v := (0 : Int32)) hx hb dX5_tells_80 (by decide) ?_
              refine lv_istore (lv' := [(5, .int (0 : Int32)), (4, .ref (G.2.2.1 q_14)), (0, .ref (G.2.2.1 0)), (1, .int x1), (2, .int x2), (3, .int x3)]) hx hb dX5_tells_81 hl (by decide) rfl (fun ls hl => ?_)
              refine lv_iconst (v := (0 : Int32)) hx hb dX5_tells_83 (by decide) ?_
              refine lv_istore (lv' := [(6, .int (0 : Int32)), (5, .int (0 : Int32)), (4, .ref (G.2.2.1 q_14)), (0, .ref (G.2.2.1 0)), (1, .int x1), (2, .int x2), (3, .int x3)]) hx hb dX5_tells_84 hl (by decide) rfl (fun ls hl => ?_)
              refine lv_iconst (v := (-1 : Int32)) hx hb dX5_tells_86 (by decide) ?_
              refine lv_istore (lv' := [(7, .int (-1 : Int32)), (6, .int (0 : Int32)), (5, .int (0 : Int32)), (4, .ref (G.2.2.1 q_14)), (0, .ref (G.2.2.1 0)), (1, .int x1), (2, .int x2), (3, .int x3)]) hx hb dX5_tells_87 hl (by decide) rfl (fun ls hl => ?_)
              refine lv_aload_n hx hb dX5_tells_89 rfl (lv_at hl 4 rfl) ?_
              refine lv_iload_n hx hb dX5_tells_90 rfl (lv_at hl 7 rfl) ?_
              obtain ⟨r_20, M_18, hc_19, hf⟩ := zB_o hf
              refine zc_vi (As := [.int x3]) (rest := []) C0 hP hS hl.1 0 (mtX5_choices l G hJ x3 M_9 _ hc_19) lk_X5_210 (by decide) shX_0 (T := TX5) (n' := 9) rfl ds_X5_choices (by rw [hRm]; exact ⟨Nat.le_of_ble_eq_true rfl, Nat.le_of_ble_eq_true rfl⟩) rfl rfl (Nat.le_of_ble_eq_true rfl) dX5_tells_91 ⟨Nat.zero_le _, Nat.zero_le _⟩ (fun H locs hP hS => ?_)
              refine lv_iconst (v := (1 : Int32)) hx hb dX5_tells_94 (by decide) ?_
              refine lv_isub hx hb dX5_tells_95 ?_
              refine lv_topi (fun x8_21 ex8_21 => ?_)
              replace hf := zL_e ex8_21 hf
              refine lv_istore (lv' := [(8, .int x8_21), (7, .int (-1 : Int32)), (6, .int (0 : Int32)), (5, .int (0 : Int32)), (4, .ref (G.2.2.1 q_14)), (0, .ref (G.2.2.1 0)), (1, .int x1), (2, .int x2), (3, .int x3)]) hx hb dX5_tells_96 hl (by decide) rfl (fun ls hl => ?_)
              exact L98 zF x2 x3 q_14 hq_14 (0 : Int32) (0 : Int32) (-1 : Int32) x8_21 M_18 H locs ls (lv_sub hl [5, 7, 8, 4, 3, 2, 1, 0] rfl) hP hS hf
            · replace hf := zI_t c_17 hf
              refine lv_aload_n hx hb dX5_tells_70 rfl (lv_at hl 1 rfl) ?_
              refine lv_aload hx hb dX5_tells_71 (lv_at hl 0 rfl) ?_
              refine lv_iload_n hx hb dX5_tells_73 rfl (lv_at hl 3 rfl) ?_
              refine lv_iload_n hx hb dX5_tells_74 rfl (lv_at hl 4 rfl) ?_
              refine lv_iconst (v := (0 : Int32)) hx hb dX5_tells_75 (by decide) ?_
              obtain ⟨r_35, M_33, hc_34, hf⟩ := zB_o hf
              refine zc_vi (As := [.ref (G.2.2.1 q_14), .int x2, .int x3, .int (0 : Int32)]) (rest := []) C0 hP hS hl.1 0 (mtX5_firstOtherwise l G hJ q_14 hq_14 x2 x3 (0 : Int32) M_9 _ hc_34) lk_X5_206 (by decide) shX_0 (T := TX5) (n' := 9) rfl ds_X5_firstOtherwise (by rw [hRm]; exact ⟨Nat.le_of_ble_eq_true rfl, Nat.le_of_ble_eq_true rfl⟩) rfl rfl (Nat.le_of_ble_eq_true rfl) dX5_tells_76 ⟨Nat.zero_le _, Nat.zero_le _⟩ (fun H locs hP hS => ?_)
              exact ze_i C0 hP hS hf dX5_tells_79 hQ
          · replace hf := zI_f c_16 hf
            refine lv_bipush (v := (-2 : Int32)) hx hb dX5_tells_63 (by decide) ?_
            exact ze_i C0 hP hS hf dX5_tells_65 hQ
        · replace hf := zI_t c_15 hf
          refine lv_bipush (v := (-11 : Int32)) hx hb dX5_tells_50 (by decide) ?_
          exact ze_i C0 hP hS hf dX5_tells_52 hQ
      · replace hf := zI_t c_12 hf
        refine lv_bipush (v := (-2 : Int32)) hx hb dX5_tells_30 (by decide) ?_
        exact ze_i C0 hP hS hf dX5_tells_32 hQ
def fX5_film_B62 (r62 : Int32 → Int32 → Nat → Int32 → zM → Option (Int32 × zM)) (x2 : Int32) (x3 : Int32) (q4 : Nat) (x5 : Int32) (M : zM) : Option (Int32 × zM) :=
  if x3 ≤ x5 then
    some (x3, M)
  else
    zB (fX4_minutesOf 17 x2 M) fun r_22 M_20 =>
    zV (fX0_put q4 x5 r_22 M_20) fun M_23 =>
    zV (fX4_passDay 17 M_23) fun M_25 =>
    zL (x5 + (1 : Int32)) fun x5_27 =>
    r62 x2 x3 q4 x5_27 M_25
def fX5_film_L62 : Nat → Int32 → Int32 → Nat → Int32 → zM → Option (Int32 × zM)
  | 0 => fun _ _ _ _ _ => none
  | j9 + 1 => fX5_film_B62 (fX5_film_L62 j9)
def fX5_film (x1 : Int32) (x2 : Int32) (x3 : Int32) (M : zM) : Option (Int32 × zM) :=
  zB (fX5_within x1 (0 : Int32) (3 : Int32) M) fun r_3 M_1 =>
  if r_3 = (0 : Int32) then
    some ((-2 : Int32), M_1)
  else
    zB (fX4_has 10 x2 M_1) fun r_7 M_5 =>
    if r_7 = (0 : Int32) then
      some ((-2 : Int32), M_5)
    else
      zB (fX5_within x3 (0 : Int32) (30 : Int32) M_5) fun r_11 M_9 =>
      if r_11 = (0 : Int32) then
        some ((-2 : Int32), M_9)
      else
        zG (zin x1 4) <|
        zL (56 + 2 * x1.toNatClampNeg) fun q_14 =>
        zV (fX0_become q_14 (0 : Int32) x3 M_9) fun M_15 =>
        zV (fX4_become 17 10 M_15) fun M_17 =>
        fX5_film_L62 zF x2 x3 q_14 (0 : Int32) M_17
set_option maxHeartbeats 4000000 in
set_option maxRecDepth 100000 in
theorem mtX5_film (l : Launch) (G : zGr) (hJ : zJ G 64) (x1 : Int32) (x2 : Int32) (x3 : Int32) (M : zM) (o : Int32 × zM) (hf : fX5_film x1 x2 x3 M = some o) : zMi l G shX 64 yX5_film cX5_film 6 (some .int) 5 114 [.ref (G.2.2.1 0), .int x1, .int x2, .int x3] M o := by
  intro sz
  refine zOf (by decide) (Nat.le_of_ble_eq_true rfl) ?_
  intro p e R Q s m args below meth c hRm hsz hQ C0 hP hS ls hl
  subst hsz
  replace hRm : R = { frames := 5, cells := 0, slots := 0, locals := 114 } := hRm
  have hl : lv_has ls 6 [(0, .ref (G.2.2.1 0)), (1, .int x1), (2, .int x2), (3, .int x3)] := hl
  have hx := C0.1
  have hb := C0.2.1
  have hown := C0.2.2.2.1
  have hts := C0.2.2.2.2.1
  have L62 : ∀ (n62 : Nat), ∀ (x2 : Int32) (x3 : Int32) (q4 : Nat) (hq4 : isS q4) (x5 : Int32) (M : zM) (H : Heap) (locs : List Loc) (ls : Array Slot), lv_has ls 6 [(0, .ref (G.2.2.1 0)), (2, .int x2), (3, .int x3), (4, .ref (G.2.2.1 q4)), (5, .int x5)] → va_P G.1 zcl (zw G shX 64 M) H → va_S (zA G 64 s.heap.size) s.heap H locs → fX5_film_L62 n62 x2 x3 q4 x5 M = some o → W p l e R s m args below meth c H locs 0 0 Q (F0 m 62 ls []) := by
    intro n62
    induction n62 with
    | zero => intro x2 x3 q4 hq4 x5 M H locs ls hl hP hS hf; exact zn_s (show none = some o from hf)
    | succ n62 ih62 =>
      intro x2 x3 q4 hq4 x5 M H locs ls hl hP hS hf
      replace hf : fX5_film_B62 (fX5_film_L62 n62) x2 x3 q4 x5 M = some o := hf
      unfold fX5_film_B62 at hf
      refine lv_iload hx hb dX5_film_62 (lv_at hl 4 rfl) ?_
      refine lv_iload_n hx hb dX5_film_64 rfl (lv_at hl 2 rfl) ?_
      refine lv_icmp_ge (tgt := 96) hx hb dX5_film_65 (by decide) (fun c_19 => ?_) (fun c_19 => ?_)
      · replace hf := zI_t c_19 hf
        refine lv_iload_n hx hb dX5_film_96 rfl (lv_at hl 2 rfl) ?_
        exact ze_i C0 hP hS hf dX5_film_97 hQ
      · replace hf := zI_f c_19 hf
        refine lv_aload hx hb dX5_film_68 (lv_at hl 3 rfl) ?_
        refine lv_iload hx hb dX5_film_70 (lv_at hl 4 rfl) ?_
        refine lv_aload_n hx hb dX5_film_72 rfl (lv_at hl 0 rfl) ?_
        refine zr_getq (C := RX5) (T := TX5) (n := 9) C0 hP 0 (by decide) shX_0 4 17 rfl (by decide) uw_X5 mw_292 rfl dX5_film_73 ?_
        refine lv_iload_n hx hb dX5_film_76 rfl (lv_at hl 1 rfl) ?_
        obtain ⟨r_22, M_20, hc_21, hf⟩ := zB_o hf
        refine zc_vi (As := [.int x2]) (rest := [.int x5, .ref (G.2.2.1 q4)]) C0 hP hS hl.1 17 (mtX4_minutesOf l G hJ 17 isW17 x2 M _ hc_21) lk_X5_122 (by decide) shX_17 (T := TX4) (n' := 11) rfl ds_X4_minutesOf (by rw [hRm]; exact ⟨Nat.le_of_ble_eq_true rfl, Nat.le_of_ble_eq_true rfl⟩) rfl rfl (Nat.le_of_ble_eq_true rfl) dX5_film_77 ⟨Nat.zero_le _, Nat.zero_le _⟩ (fun H locs hP hS => ?_)
        obtain ⟨M_23, hc_24, hf⟩ := zV_o hf
        refine zc_vv (As := [.int x5, .int r_22]) (rest := []) C0 hP hS hl.1 q4 (mtX0_put l G hJ q4 hq4 x5 r_22 M_20 _ hc_24) lk_X5_216 (isS_lt hq4) (isS_s hq4) (T := TX0) (n' := 3) rfl ds_X0_put (by rw [hRm]; exact ⟨Nat.le_of_ble_eq_true rfl, Nat.le_of_ble_eq_true rfl⟩) rfl rfl (Nat.le_of_ble_eq_true rfl) dX5_film_80 ⟨Nat.zero_le _, Nat.zero_le _⟩ (fun H locs hP hS => ?_)
        refine lv_aload_n hx hb dX5_film_83 rfl (lv_at hl 0 rfl) ?_
        refine zr_getq (C := RX5) (T := TX5) (n := 9) C0 hP 0 (by decide) shX_0 4 17 rfl (by decide) uw_X5 mw_292 rfl dX5_film_84 ?_
        obtain ⟨M_25, hc_26, hf⟩ := zV_o hf
        refine zc_vv (As := []) (rest := []) C0 hP hS hl.1 17 (mtX4_passDay l G hJ 17 isW17 M_23 _ hc_26) lk_X5_141 (by decide) shX_17 (T := TX4) (n' := 11) rfl ds_X4_passDay (by rw [hRm]; exact ⟨Nat.le_of_ble_eq_true rfl, Nat.le_of_ble_eq_true rfl⟩) rfl rfl (Nat.le_of_ble_eq_true rfl) dX5_film_87 ⟨Nat.zero_le _, Nat.zero_le _⟩ (fun H locs hP hS => ?_)
        obtain ⟨x5_27, ex5_27, hf⟩ := zL_o hf
        refine lv_iinc (v := x5_27) (lv' := [(5, .int x5_27), (0, .ref (G.2.2.1 0)), (2, .int x2), (3, .int x3), (4, .ref (G.2.2.1 q4))]) hx hb dX5_film_90 hl (k := 4) rfl (by rw [ex5_27]; rfl) (by decide) rfl (fun ls hl => ?_)
        refine lv_goto (tgt := 62) hx hb dX5_film_93 (by decide) ?_
        exact ih62 x2 x3 q4 hq4 x5_27 M_25 H locs ls (lv_sub hl [1, 2, 3, 4, 0] rfl) hP hS hf
  unfold fX5_film at hf
  obtain ⟨H, eH⟩ : ∃ H, H = s.heap := ⟨_, rfl⟩
  obtain ⟨locs, el⟩ : ∃ locs : List Loc, locs = [] := ⟨_, rfl⟩
  rw [← eH] at hP ⊢
  have hS : va_S (zA G 64 s.heap.size) s.heap H locs := by rw [eH, el]; exact hS
  rw [← el]
  refine lv_iload_n hx hb dX5_film_0 rfl (lv_at hl 1 rfl) ?_
  refine lv_iconst (v := (0 : Int32)) hx hb dX5_film_1 (by decide) ?_
  refine lv_iconst (v := (3 : Int32)) hx hb dX5_film_2 (by decide) ?_
  obtain ⟨r_3, M_1, hc_2, hf⟩ := zB_o hf
  refine zc_si (As := [.int x1, .int (0 : Int32), .int (3 : Int32)]) (rest := []) C0 hP hS hl.1 (mtX5_within l G hJ x1 (0 : Int32) (3 : Int32) M _ hc_2) ls_X5_78 ds_X5_within (by rw [hRm]; exact ⟨Nat.le_of_ble_eq_true rfl, Nat.le_of_ble_eq_true rfl⟩) rfl rfl (Nat.le_of_ble_eq_true rfl) dX5_film_3 ⟨Nat.zero_le _, Nat.zero_le _⟩ (fun H locs hP hS => ?_)
  refine lv_if_eq (tgt := 30) hx hb dX5_film_6 (by decide) (fun c_4 => ?_) (fun c_4 => ?_)
  · replace hf := zI_t c_4 hf
    refine lv_bipush (v := (-2 : Int32)) hx hb dX5_film_30 (by decide) ?_
    exact ze_i C0 hP hS hf dX5_film_32 hQ
  · replace hf := zI_f c_4 hf
    refine lv_aload_n hx hb dX5_film_9 rfl (lv_at hl 0 rfl) ?_
    refine zr_getq (C := RX5) (T := TX5) (n := 9) C0 hP 0 (by decide) shX_0 3 10 rfl (by decide) uw_X5 mw_260 rfl dX5_film_10 ?_
    refine lv_iload_n hx hb dX5_film_13 rfl (lv_at hl 2 rfl) ?_
    obtain ⟨r_7, M_5, hc_6, hf⟩ := zB_o hf
    refine zc_vi (As := [.int x2]) (rest := []) C0 hP hS hl.1 10 (mtX4_has l G hJ 10 isW10 x2 M_1 _ hc_6) lk_X5_106 (by decide) shX_10 (T := TX4) (n' := 11) rfl ds_X4_has (by rw [hRm]; exact ⟨Nat.le_of_ble_eq_true rfl, Nat.le_of_ble_eq_true rfl⟩) rfl rfl (Nat.le_of_ble_eq_true rfl) dX5_film_14 ⟨Nat.zero_le _, Nat.zero_le _⟩ (fun H locs hP hS => ?_)
    refine lv_if_eq (tgt := 30) hx hb dX5_film_17 (by decide) (fun c_8 => ?_) (fun c_8 => ?_)
    · replace hf := zI_t c_8 hf
      refine lv_bipush (v := (-2 : Int32)) hx hb dX5_film_30 (by decide) ?_
      exact ze_i C0 hP hS hf dX5_film_32 hQ
    · replace hf := zI_f c_8 hf
      refine lv_iload_n hx hb dX5_film_20 rfl (lv_at hl 3 rfl) ?_
      refine lv_iconst (v := (0 : Int32)) hx hb dX5_film_21 (by decide) ?_
      refine lv_bipush (v := (30 : Int32)) hx hb dX5_film_22 (by decide) ?_
      obtain ⟨r_11, M_9, hc_10, hf⟩ := zB_o hf
      refine zc_si (As := [.int x3, .int (0 : Int32), .int (30 : Int32)]) (rest := []) C0 hP hS hl.1 (mtX5_within l G hJ x3 (0 : Int32) (30 : Int32) M_5 _ hc_10) ls_X5_78 ds_X5_within (by rw [hRm]; exact ⟨Nat.le_of_ble_eq_true rfl, Nat.le_of_ble_eq_true rfl⟩) rfl rfl (Nat.le_of_ble_eq_true rfl) dX5_film_24 ⟨Nat.zero_le _, Nat.zero_le _⟩ (fun H locs hP hS => ?_)
      refine lv_if_ne (tgt := 33) hx hb dX5_film_27 (by decide) (fun c_12 => ?_) (fun c_12 => ?_)
      · replace hf := zI_f c_12 hf
        refine lv_aload_n hx hb dX5_film_33 rfl (lv_at hl 0 rfl) ?_
        refine zr_getq (C := RX5) (T := TX5) (n := 9) C0 hP 0 (by decide) shX_0 6 31 rfl (by decide) uw_X5 mw_348 rfl dX5_film_34 ?_
        refine lv_iload_n hx hb dX5_film_37 rfl (lv_at hl 1 rfl) ?_
        obtain ⟨hg_13, hf⟩ := zG_o hf
        refine zr_aald4 C0 hP 31 (by decide) shX_31 hg_13 dX5_film_38 ?_
        obtain ⟨q_14, eq_14, hf⟩ := zL_o hf
        rw [← eq_14]
        have hq_14 : isS q_14 := eq_14 ▸ isS_of hg_13
        refine lv_astore (lv' := [(4, .ref (G.2.2.1 q_14)), (0, .ref (G.2.2.1 0)), (1, .int x1), (2, .int x2), (3, .int x3)]) hx hb dX5_film_39 hl (by decide) rfl (fun ls hl => ?_)
        refine lv_aload hx hb dX5_film_41 (lv_at hl 0 rfl) ?_
        refine lv_iconst (v := (0 : Int32)) hx hb dX5_film_43 (by decide) ?_
        refine lv_iload_n hx hb dX5_film_44 rfl (lv_at hl 4 rfl) ?_
        obtain ⟨M_15, hc_16, hf⟩ := zV_o hf
        refine zc_vv (As := [.int (0 : Int32), .int x3]) (rest := []) C0 hP hS hl.1 q_14 (mtX0_become l G hJ q_14 hq_14 (0 : Int32) x3 M_9 _ hc_16) lk_X5_213 (isS_lt hq_14) (isS_s hq_14) (T := TX0) (n' := 3) rfl ds_X0_become (by rw [hRm]; exact ⟨Nat.le_of_ble_eq_true rfl, Nat.le_of_ble_eq_true rfl⟩) rfl rfl (Nat.le_of_ble_eq_true rfl) dX5_film_45 ⟨Nat.zero_le _, Nat.zero_le _⟩ (fun H locs hP hS => ?_)
        refine lv_aload_n hx hb dX5_film_48 rfl (lv_at hl 1 rfl) ?_
        refine zr_getq (C := RX5) (T := TX5) (n := 9) C0 hP 0 (by decide) shX_0 4 17 rfl (by decide) uw_X5 mw_292 rfl dX5_film_49 ?_
        refine lv_aload_n hx hb dX5_film_52 rfl (lv_at hl 1 rfl) ?_
        refine zr_getq (C := RX5) (T := TX5) (n := 9) C0 hP 0 (by decide) shX_0 3 10 rfl (by decide) uw_X5 mw_260 rfl dX5_film_53 ?_
        obtain ⟨M_17, hc_18, hf⟩ := zV_o hf
        refine zc_vv (As := [.ref (G.2.2.1 10)]) (rest := []) C0 hP hS hl.1 17 (mtX4_become l G hJ 17 isW17 10 isW10 M_15 _ hc_18) lk_X5_151 (by decide) shX_17 (T := TX4) (n' := 11) rfl ds_X4_become (by rw [hRm]; exact ⟨Nat.le_of_ble_eq_true rfl, Nat.le_of_ble_eq_true rfl⟩) rfl rfl (Nat.le_of_ble_eq_true rfl) dX5_film_56 ⟨Nat.zero_le _, Nat.zero_le _⟩ (fun H locs hP hS => ?_)
        refine lv_iconst (v := (0 : Int32)) hx hb dX5_film_59 (by decide) ?_
        refine lv_istore (lv' := [(5, .int (0 : Int32)), (4, .ref (G.2.2.1 q_14)), (0, .ref (G.2.2.1 0)), (1, .int x1), (2, .int x2), (3, .int x3)]) hx hb dX5_film_60 hl (by decide) rfl (fun ls hl => ?_)
        exact L62 zF x2 x3 q_14 hq_14 (0 : Int32) M_17 H locs ls (lv_sub hl [2, 4, 5, 1, 0] rfl) hP hS hf
      · replace hf := zI_t c_12 hf
        refine lv_bipush (v := (-2 : Int32)) hx hb dX5_film_30 (by decide) ?_
        exact ze_i C0 hP hS hf dX5_film_32 hQ
def fX5_clogsBySeed_B19 (r19 : Int32 → Int32 → Int32 → Int32 → zM → Option (Int32 × zM)) (x2 : Int32) (x3 : Int32) (x4 : Int32) (x5 : Int32) (M : zM) : Option (Int32 × zM) :=
  if x2 ≤ x5 then
    some (x4, M)
  else
    zL ((x3 * (1103515245 : Int32)) + (12345 : Int32)) fun x3_4 =>
    zL (zu M 17 9 (zrm (zushr x3_4 (9 : Int32)) (10 : Int32))) fun M_5 =>
    zV (fX4_passDay 17 M_5) fun M_6 =>
    zB (fX4_whoClog 17 M_6) fun r_10 M_8 =>
    zB (fJ6_bitCount_0f7a4 r_10 M_8) fun r_13 M_11 =>
    zL (x4 + r_13) fun x4_14 =>
    zL (x5 + (1 : Int32)) fun x5_15 =>
    r19 x2 x3_4 x4_14 x5_15 M_11
def fX5_clogsBySeed_L19 : Nat → Int32 → Int32 → Int32 → Int32 → zM → Option (Int32 × zM)
  | 0 => fun _ _ _ _ _ => none
  | j9 + 1 => fX5_clogsBySeed_B19 (fX5_clogsBySeed_L19 j9)
def fX5_clogsBySeed (x1 : Int32) (x2 : Int32) (M : zM) : Option (Int32 × zM) :=
  zV (fX4_become 17 10 M) fun M_1 =>
  fX5_clogsBySeed_L19 zF x2 x1 (0 : Int32) (0 : Int32) M_1
set_option maxHeartbeats 4000000 in
set_option maxRecDepth 100000 in
theorem mtX5_clogsBySeed (l : Launch) (G : zGr) (hJ : zJ G 64) (x1 : Int32) (x2 : Int32) (M : zM) (o : Int32 × zM) (hf : fX5_clogsBySeed x1 x2 M = some o) : zMi l G shX 64 yX5_clogsBySeed cX5_clogsBySeed 6 (some .int) 5 114 [.ref (G.2.2.1 0), .int x1, .int x2] M o := by
  intro sz
  refine zOf (by decide) (Nat.le_of_ble_eq_true rfl) ?_
  intro p e R Q s m args below meth c hRm hsz hQ C0 hP hS ls hl
  subst hsz
  replace hRm : R = { frames := 5, cells := 0, slots := 0, locals := 114 } := hRm
  have hl : lv_has ls 6 [(0, .ref (G.2.2.1 0)), (1, .int x1), (2, .int x2)] := hl
  have hx := C0.1
  have hb := C0.2.1
  have hown := C0.2.2.2.1
  have hts := C0.2.2.2.2.1
  have L19 : ∀ (n19 : Nat), ∀ (x2 : Int32) (x3 : Int32) (x4 : Int32) (x5 : Int32) (M : zM) (H : Heap) (locs : List Loc) (ls : Array Slot), lv_has ls 6 [(0, .ref (G.2.2.1 0)), (2, .int x2), (3, .int x3), (4, .int x4), (5, .int x5)] → va_P G.1 zcl (zw G shX 64 M) H → va_S (zA G 64 s.heap.size) s.heap H locs → fX5_clogsBySeed_L19 n19 x2 x3 x4 x5 M = some o → W p l e R s m args below meth c H locs 0 0 Q (F0 m 19 ls []) := by
    intro n19
    induction n19 with
    | zero => intro x2 x3 x4 x5 M H locs ls hl hP hS hf; exact zn_s (show none = some o from hf)
    | succ n19 ih19 =>
      intro x2 x3 x4 x5 M H locs ls hl hP hS hf
      replace hf : fX5_clogsBySeed_B19 (fX5_clogsBySeed_L19 n19) x2 x3 x4 x5 M = some o := hf
      unfold fX5_clogsBySeed_B19 at hf
      refine lv_iload hx hb dX5_clogsBySeed_19 (lv_at hl 4 rfl) ?_
      refine lv_iload_n hx hb dX5_clogsBySeed_21 rfl (lv_at hl 1 rfl) ?_
      refine lv_icmp_ge (tgt := 76) hx hb dX5_clogsBySeed_22 (by decide) (fun c_3 => ?_) (fun c_3 => ?_)
      · replace hf := zI_t c_3 hf
        refine lv_iload hx hb dX5_clogsBySeed_76 (lv_at hl 3 rfl) ?_
        exact ze_i C0 hP hS hf dX5_clogsBySeed_78 hQ
      · replace hf := zI_f c_3 hf
        refine lv_iload_n hx hb dX5_clogsBySeed_25 rfl (lv_at hl 2 rfl) ?_
        refine lv_ldc (v := (1103515245 : Int32)) hx hb hown (hts _ mw_365) dX5_clogsBySeed_26 ?_
        refine lv_imul hx hb dX5_clogsBySeed_28 ?_
        refine lv_sipush (v := (12345 : Int32)) hx hb dX5_clogsBySeed_29 (by decide) ?_
        refine lv_iadd hx hb dX5_clogsBySeed_32 ?_
        refine lv_topi (fun x3_4 ex3_4 => ?_)
        replace hf := zL_e ex3_4 hf
        refine lv_istore_n (lv' := [(3, .int x3_4), (0, .ref (G.2.2.1 0)), (2, .int x2), (4, .int x4), (5, .int x5)]) hx hb dX5_clogsBySeed_33 rfl hl (by decide) rfl (fun ls hl => ?_)
        refine lv_aload_n hx hb dX5_clogsBySeed_34 rfl (lv_at hl 1 rfl) ?_
        refine zr_getq (C := RX5) (T := TX5) (n := 9) C0 hP 0 (by decide) shX_0 4 17 rfl (by decide) uw_X5 mw_292 rfl dX5_clogsBySeed_35 ?_
        refine lv_iload_n hx hb dX5_clogsBySeed_38 rfl (lv_at hl 0 rfl) ?_
        refine lv_bipush (v := (9 : Int32)) hx hb dX5_clogsBySeed_39 (by decide) ?_
        refine zo_iushr hx hb dX5_clogsBySeed_41 ?_
        refine lv_bipush (v := (10 : Int32)) hx hb dX5_clogsBySeed_42 (by decide) ?_
        refine zo_irem hx hb dX5_clogsBySeed_44 (by decide) ?_
        refine zr_putN (C := RX4) (T := TX4) (n := 11) C0 hJ hP hS 17 (by decide) shX_17 9 rfl (by decide) uw_X4 tyX4 tyX4_ok nmX4 9 rfl rfl rfl ⟨rfl, rfl⟩ dX5_clogsBySeed_45 (fun H locs hP hS => ?_)
        obtain ⟨M_5, eM_5, hf⟩ := zL_o hf
        have hP : va_P G.1 zcl (zw G shX 64 M_5) H := by rw [eM_5]; exact hP
        refine lv_aload_n hx hb dX5_clogsBySeed_48 rfl (lv_at hl 1 rfl) ?_
        refine zr_getq (C := RX5) (T := TX5) (n := 9) C0 hP 0 (by decide) shX_0 4 17 rfl (by decide) uw_X5 mw_292 rfl dX5_clogsBySeed_49 ?_
        obtain ⟨M_6, hc_7, hf⟩ := zV_o hf
        refine zc_vv (As := []) (rest := []) C0 hP hS hl.1 17 (mtX4_passDay l G hJ 17 isW17 M_5 _ hc_7) lk_X5_141 (by decide) shX_17 (T := TX4) (n' := 11) rfl ds_X4_passDay (by rw [hRm]; exact ⟨Nat.le_of_ble_eq_true rfl, Nat.le_of_ble_eq_true rfl⟩) rfl rfl (Nat.le_of_ble_eq_true rfl) dX5_clogsBySeed_52 ⟨Nat.zero_le _, Nat.zero_le _⟩ (fun H locs hP hS => ?_)
        refine lv_iload hx hb dX5_clogsBySeed_55 (lv_at hl 3 rfl) ?_
        refine lv_aload_n hx hb dX5_clogsBySeed_57 rfl (lv_at hl 1 rfl) ?_
        refine zr_getq (C := RX5) (T := TX5) (n := 9) C0 hP 0 (by decide) shX_0 4 17 rfl (by decide) uw_X5 mw_292 rfl dX5_clogsBySeed_58 ?_
        obtain ⟨r_10, M_8, hc_9, hf⟩ := zB_o hf
        refine zc_vi (As := []) (rest := [.int x4]) C0 hP hS hl.1 17 (mtX4_whoClog l G hJ 17 isW17 M_6 _ hc_9) lk_X5_161 (by decide) shX_17 (T := TX4) (n' := 11) rfl ds_X4_whoClog (by rw [hRm]; exact ⟨Nat.le_of_ble_eq_true rfl, Nat.le_of_ble_eq_true rfl⟩) rfl rfl (Nat.le_of_ble_eq_true rfl) dX5_clogsBySeed_61 ⟨Nat.zero_le _, Nat.zero_le _⟩ (fun H locs hP hS => ?_)
        obtain ⟨r_13, M_11, hc_12, hf⟩ := zB_o hf
        refine zc_si (As := [.int r_10]) (rest := [.int x4]) C0 hP hS hl.1 (mtJ6_bitCount_0f7a4 l G hJ r_10 M_8 _ hc_12) ls_X5_233 ds_J6_bitCount_0f7a4 (by rw [hRm]; exact ⟨Nat.le_of_ble_eq_true rfl, Nat.le_of_ble_eq_true rfl⟩) rfl rfl (Nat.le_of_ble_eq_true rfl) dX5_clogsBySeed_64 ⟨Nat.zero_le _, Nat.zero_le _⟩ (fun H locs hP hS => ?_)
        refine lv_iadd hx hb dX5_clogsBySeed_67 ?_
        refine lv_topi (fun x4_14 ex4_14 => ?_)
        replace hf := zL_e ex4_14 hf
        refine lv_istore (lv' := [(4, .int x4_14), (3, .int x3_4), (0, .ref (G.2.2.1 0)), (2, .int x2), (5, .int x5)]) hx hb dX5_clogsBySeed_68 hl (by decide) rfl (fun ls hl => ?_)
        obtain ⟨x5_15, ex5_15, hf⟩ := zL_o hf
        refine lv_iinc (v := x5_15) (lv' := [(5, .int x5_15), (4, .int x4_14), (3, .int x3_4), (0, .ref (G.2.2.1 0)), (2, .int x2)]) hx hb dX5_clogsBySeed_70 hl (k := 4) rfl (by rw [ex5_15]; rfl) (by decide) rfl (fun ls hl => ?_)
        refine lv_goto (tgt := 19) hx hb dX5_clogsBySeed_73 (by decide) ?_
        exact ih19 x2 x3_4 x4_14 x5_15 M_11 H locs ls (lv_sub hl [3, 4, 2, 1, 0] rfl) hP hS hf
  unfold fX5_clogsBySeed at hf
  obtain ⟨H, eH⟩ : ∃ H, H = s.heap := ⟨_, rfl⟩
  obtain ⟨locs, el⟩ : ∃ locs : List Loc, locs = [] := ⟨_, rfl⟩
  rw [← eH] at hP ⊢
  have hS : va_S (zA G 64 s.heap.size) s.heap H locs := by rw [eH, el]; exact hS
  rw [← el]
  refine lv_iload_n hx hb dX5_clogsBySeed_0 rfl (lv_at hl 1 rfl) ?_
  refine lv_istore_n (lv' := [(3, .int x1), (0, .ref (G.2.2.1 0)), (1, .int x1), (2, .int x2)]) hx hb dX5_clogsBySeed_1 rfl hl (by decide) rfl (fun ls hl => ?_)
  refine lv_iconst (v := (0 : Int32)) hx hb dX5_clogsBySeed_2 (by decide) ?_
  refine lv_istore (lv' := [(4, .int (0 : Int32)), (3, .int x1), (0, .ref (G.2.2.1 0)), (1, .int x1), (2, .int x2)]) hx hb dX5_clogsBySeed_3 hl (by decide) rfl (fun ls hl => ?_)
  refine lv_aload_n hx hb dX5_clogsBySeed_5 rfl (lv_at hl 2 rfl) ?_
  refine zr_getq (C := RX5) (T := TX5) (n := 9) C0 hP 0 (by decide) shX_0 4 17 rfl (by decide) uw_X5 mw_292 rfl dX5_clogsBySeed_6 ?_
  refine lv_aload_n hx hb dX5_clogsBySeed_9 rfl (lv_at hl 2 rfl) ?_
  refine zr_getq (C := RX5) (T := TX5) (n := 9) C0 hP 0 (by decide) shX_0 3 10 rfl (by decide) uw_X5 mw_260 rfl dX5_clogsBySeed_10 ?_
  obtain ⟨M_1, hc_2, hf⟩ := zV_o hf
  refine zc_vv (As := [.ref (G.2.2.1 10)]) (rest := []) C0 hP hS hl.1 17 (mtX4_become l G hJ 17 isW17 10 isW10 M _ hc_2) lk_X5_151 (by decide) shX_17 (T := TX4) (n' := 11) rfl ds_X4_become (by rw [hRm]; exact ⟨Nat.le_of_ble_eq_true rfl, Nat.le_of_ble_eq_true rfl⟩) rfl rfl (Nat.le_of_ble_eq_true rfl) dX5_clogsBySeed_13 ⟨Nat.zero_le _, Nat.zero_le _⟩ (fun H locs hP hS => ?_)
  refine lv_iconst (v := (0 : Int32)) hx hb dX5_clogsBySeed_16 (by decide) ?_
  refine lv_istore (lv' := [(5, .int (0 : Int32)), (4, .int (0 : Int32)), (3, .int x1), (0, .ref (G.2.2.1 0)), (1, .int x1), (2, .int x2)]) hx hb dX5_clogsBySeed_17 hl (by decide) rfl (fun ls hl => ?_)
  exact L19 zF x2 x1 (0 : Int32) (0 : Int32) M_1 H locs ls (lv_sub hl [3, 5, 2, 1, 0] rfl) hP hS hf
def fX5_drawn (x1 : Int32) (x2 : Int32) (M : zM) : Option (Int32 × zM) :=
  zB (fX5_within x2 (0 : Int32) (40 : Int32) M) fun r_3 M_1 =>
  if r_3 = (0 : Int32) then
    some ((-2 : Int32), M_1)
  else
    zB (fX5_clogsBySeed x1 x2 M_1) fun r_7 M_5 =>
    some (r_7, M_5)
set_option maxHeartbeats 4000000 in
set_option maxRecDepth 100000 in
theorem mtX5_drawn (l : Launch) (G : zGr) (hJ : zJ G 64) (x1 : Int32) (x2 : Int32) (M : zM) (o : Int32 × zM) (hf : fX5_drawn x1 x2 M = some o) : zMi l G shX 64 yX5_drawn cX5_drawn 3 (some .int) 6 139 [.ref (G.2.2.1 0), .int x1, .int x2] M o := by
  intro sz
  refine zOf (by decide) (Nat.le_of_ble_eq_true rfl) ?_
  intro p e R Q s m args below meth c hRm hsz hQ C0 hP hS ls hl
  subst hsz
  replace hRm : R = { frames := 6, cells := 0, slots := 0, locals := 139 } := hRm
  have hl : lv_has ls 3 [(0, .ref (G.2.2.1 0)), (1, .int x1), (2, .int x2)] := hl
  have hx := C0.1
  have hb := C0.2.1
  have hown := C0.2.2.2.1
  have hts := C0.2.2.2.2.1
  unfold fX5_drawn at hf
  obtain ⟨H, eH⟩ : ∃ H, H = s.heap := ⟨_, rfl⟩
  obtain ⟨locs, el⟩ : ∃ locs : List Loc, locs = [] := ⟨_, rfl⟩
  rw [← eH] at hP ⊢
  have hS : va_S (zA G 64 s.heap.size) s.heap H locs := by rw [eH, el]; exact hS
  rw [← el]
  refine lv_iload_n hx hb dX5_drawn_0 rfl (lv_at hl 2 rfl) ?_
  refine lv_iconst (v := (0 : Int32)) hx hb dX5_drawn_1 (by decide) ?_
  refine lv_bipush (v := (40 : Int32)) hx hb dX5_drawn_2 (by decide) ?_
  obtain ⟨r_3, M_1, hc_2, hf⟩ := zB_o hf
  refine zc_si (As := [.int x2, .int (0 : Int32), .int (40 : Int32)]) (rest := []) C0 hP hS hl.1 (mtX5_within l G hJ x2 (0 : Int32) (40 : Int32) M _ hc_2) ls_X5_78 ds_X5_within (by rw [hRm]; exact ⟨Nat.le_of_ble_eq_true rfl, Nat.le_of_ble_eq_true rfl⟩) rfl rfl (Nat.le_of_ble_eq_true rfl) dX5_drawn_4 ⟨Nat.zero_le _, Nat.zero_le _⟩ (fun H locs hP hS => ?_)
  refine lv_if_ne (tgt := 13) hx hb dX5_drawn_7 (by decide) (fun c_4 => ?_) (fun c_4 => ?_)
  · replace hf := zI_f c_4 hf
    refine lv_aload_n hx hb dX5_drawn_13 rfl (lv_at hl 0 rfl) ?_
    refine lv_iload_n hx hb dX5_drawn_14 rfl (lv_at hl 1 rfl) ?_
    refine lv_iload_n hx hb dX5_drawn_15 rfl (lv_at hl 2 rfl) ?_
    obtain ⟨r_7, M_5, hc_6, hf⟩ := zB_o hf
    refine zc_vi (As := [.int x1, .int x2]) (rest := []) C0 hP hS hl.1 0 (mtX5_clogsBySeed l G hJ x1 x2 M_1 _ hc_6) lk_X5_219 (by decide) shX_0 (T := TX5) (n' := 9) rfl ds_X5_clogsBySeed (by rw [hRm]; exact ⟨Nat.le_of_ble_eq_true rfl, Nat.le_of_ble_eq_true rfl⟩) rfl rfl (Nat.le_of_ble_eq_true rfl) dX5_drawn_16 ⟨Nat.zero_le _, Nat.zero_le _⟩ (fun H locs hP hS => ?_)
    exact ze_i C0 hP hS hf dX5_drawn_19 hQ
  · replace hf := zI_t c_4 hf
    refine lv_bipush (v := (-2 : Int32)) hx hb dX5_drawn_10 (by decide) ?_
    exact ze_i C0 hP hS hf dX5_drawn_12 hQ
def fX5_chance_B40 (r40 : Int32 → Int32 → Int32 → Int32 → Int32 → Int32 → zM → Option (Int64 × zM)) (x1 : Int32) (x2 : Int32) (x3 : Int32) (x4 : Int32) (x5 : Int32) (x6 : Int32) (M : zM) : Option (Int64 × zM) :=
  if x2 ≤ x6 then
    zB (fX5_greatestShared x5 x2 M) fun r_16 M_14 =>
    if (0 : Int32) < r_16 then
      if x4 = (0 : Int32) then
        zG (znz r_16) <|
        some ((x5 / r_16).toInt64, M_14)
      else
        zG (znz r_16) <|
        some ((x2 / r_16).toInt64, M_14)
    else
      some ((-4611686018427387904 : Int64), M_14)
  else
    zB (fX5_clogsBySeed (x1 + x6) (10 : Int32) M) fun r_23 M_21 =>
    if r_23 < x3 then
      zL (x6 + (1 : Int32)) fun x6_25 =>
      r40 x1 x2 x3 x4 x5 x6_25 M_21
    else
      zL (x5 + (1 : Int32)) fun x5_26 =>
      zL (x6 + (1 : Int32)) fun x6_27 =>
      r40 x1 x2 x3 x4 x5_26 x6_27 M_21
def fX5_chance_L40 : Nat → Int32 → Int32 → Int32 → Int32 → Int32 → Int32 → zM → Option (Int64 × zM)
  | 0 => fun _ _ _ _ _ _ _ => none
  | j9 + 1 => fX5_chance_B40 (fX5_chance_L40 j9)
def fX5_chance (x1 : Int32) (x2 : Int32) (x3 : Int32) (x4 : Int32) (M : zM) : Option (Int64 × zM) :=
  zB (fX5_within x2 (1 : Int32) (20 : Int32) M) fun r_3 M_1 =>
  if r_3 = (0 : Int32) then
    some ((-4611686018427387904 : Int64), M_1)
  else
    zB (fX5_within x3 (0 : Int32) (99 : Int32) M_1) fun r_7 M_5 =>
    if r_7 = (0 : Int32) then
      some ((-4611686018427387904 : Int64), M_5)
    else
      zB (fX5_within x4 (0 : Int32) (1 : Int32) M_5) fun r_11 M_9 =>
      if r_11 = (0 : Int32) then
        some ((-4611686018427387904 : Int64), M_9)
      else
        fX5_chance_L40 zF x1 x2 x3 x4 (0 : Int32) (0 : Int32) M_9
set_option maxHeartbeats 4000000 in
set_option maxRecDepth 100000 in
theorem mtX5_chance (l : Launch) (G : zGr) (hJ : zJ G 64) (x1 : Int32) (x2 : Int32) (x3 : Int32) (x4 : Int32) (M : zM) (o : Int64 × zM) (hf : fX5_chance x1 x2 x3 x4 M = some o) : zMl l G shX 64 yX5_chance cX5_chance 7 (some .long) 6 139 [.ref (G.2.2.1 0), .int x1, .int x2, .int x3, .int x4] M o := by
  intro sz
  refine zOf (by decide) (Nat.le_of_ble_eq_true rfl) ?_
  intro p e R Q s m args below meth c hRm hsz hQ C0 hP hS ls hl
  subst hsz
  replace hRm : R = { frames := 6, cells := 0, slots := 0, locals := 139 } := hRm
  have hl : lv_has ls 7 [(0, .ref (G.2.2.1 0)), (1, .int x1), (2, .int x2), (3, .int x3), (4, .int x4)] := hl
  have hx := C0.1
  have hb := C0.2.1
  have hown := C0.2.2.2.1
  have hts := C0.2.2.2.2.1
  have L40 : ∀ (n40 : Nat), ∀ (x1 : Int32) (x2 : Int32) (x3 : Int32) (x4 : Int32) (x5 : Int32) (x6 : Int32) (M : zM) (H : Heap) (locs : List Loc) (ls : Array Slot), lv_has ls 7 [(0, .ref (G.2.2.1 0)), (1, .int x1), (2, .int x2), (3, .int x3), (4, .int x4), (5, .int x5), (6, .int x6)] → va_P G.1 zcl (zw G shX 64 M) H → va_S (zA G 64 s.heap.size) s.heap H locs → fX5_chance_L40 n40 x1 x2 x3 x4 x5 x6 M = some o → W p l e R s m args below meth c H locs 0 0 Q (F0 m 40 ls []) := by
    intro n40
    induction n40 with
    | zero => intro x1 x2 x3 x4 x5 x6 M H locs ls hl hP hS hf; exact zn_s (show none = some o from hf)
    | succ n40 ih40 =>
      intro x1 x2 x3 x4 x5 x6 M H locs ls hl hP hS hf
      replace hf : fX5_chance_B40 (fX5_chance_L40 n40) x1 x2 x3 x4 x5 x6 M = some o := hf
      unfold fX5_chance_B40 at hf
      refine lv_iload hx hb dX5_chance_40 (lv_at hl 6 rfl) ?_
      refine lv_iload_n hx hb dX5_chance_42 rfl (lv_at hl 2 rfl) ?_
      refine lv_icmp_ge (tgt := 69) hx hb dX5_chance_43 (by decide) (fun c_13 => ?_) (fun c_13 => ?_)
      · replace hf := zI_t c_13 hf
        refine lv_iload hx hb dX5_chance_69 (lv_at hl 5 rfl) ?_
        refine lv_iload_n hx hb dX5_chance_71 rfl (lv_at hl 2 rfl) ?_
        obtain ⟨r_16, M_14, hc_15, hf⟩ := zB_o hf
        refine zc_si (As := [.int x5, .int x2]) (rest := []) C0 hP hS hl.1 (mtX5_greatestShared l G hJ x5 x2 M _ hc_15) ls_X5_222 ds_X5_greatestShared (by rw [hRm]; exact ⟨Nat.le_of_ble_eq_true rfl, Nat.le_of_ble_eq_true rfl⟩) rfl rfl (Nat.le_of_ble_eq_true rfl) dX5_chance_72 ⟨Nat.zero_le _, Nat.zero_le _⟩ (fun H locs hP hS => ?_)
        refine lv_istore (lv' := [(6, .int r_16), (0, .ref (G.2.2.1 0)), (1, .int x1), (2, .int x2), (3, .int x3), (4, .int x4), (5, .int x5)]) hx hb dX5_chance_75 hl (by decide) rfl (fun ls hl => ?_)
        refine lv_iload hx hb dX5_chance_77 (lv_at hl 0 rfl) ?_
        refine lv_if_gt (tgt := 86) hx hb dX5_chance_79 (by decide) (fun c_17 => ?_) (fun c_17 => ?_)
        · replace hf := zI_t c_17 hf
          refine lv_iload hx hb dX5_chance_86 (lv_at hl 5 rfl) ?_
          refine lv_if_ne (tgt := 100) hx hb dX5_chance_88 (by decide) (fun c_18 => ?_) (fun c_18 => ?_)
          · replace hf := zI_f c_18 hf
            refine lv_iload_n hx hb dX5_chance_100 rfl (lv_at hl 3 rfl) ?_
            refine lv_iload hx hb dX5_chance_101 (lv_at hl 0 rfl) ?_
            obtain ⟨hg_19, hf⟩ := zG_o hf
            refine lv_idiv hx hb dX5_chance_103 (znz_i hg_19) ?_
            refine zo_i2l hx hb dX5_chance_104 ?_
            exact ze_l C0 hP hS hf dX5_chance_105 hQ
          · replace hf := zI_t c_18 hf
            refine lv_iload hx hb dX5_chance_91 (lv_at hl 6 rfl) ?_
            refine lv_iload hx hb dX5_chance_93 (lv_at hl 0 rfl) ?_
            obtain ⟨hg_20, hf⟩ := zG_o hf
            refine lv_idiv hx hb dX5_chance_95 (znz_i hg_20) ?_
            refine zo_i2l hx hb dX5_chance_96 ?_
            refine lv_goto (tgt := 105) hx hb dX5_chance_97 (by decide) ?_
            exact ze_l C0 hP hS hf dX5_chance_105 hQ
        · replace hf := zI_f c_17 hf
          refine lv_ldc2 (v := (-4611686018427387904 : Int64)) hx hb hown (hts _ mw_324) dX5_chance_82 ?_
          exact ze_l C0 hP hS hf dX5_chance_85 hQ
      · replace hf := zI_f c_13 hf
        refine lv_aload_n hx hb dX5_chance_46 rfl (lv_at hl 0 rfl) ?_
        refine lv_iload_n hx hb dX5_chance_47 rfl (lv_at hl 1 rfl) ?_
        refine lv_iload hx hb dX5_chance_48 (lv_at hl 6 rfl) ?_
        refine lv_iadd hx hb dX5_chance_50 ?_
        refine lv_bipush (v := (10 : Int32)) hx hb dX5_chance_51 (by decide) ?_
        obtain ⟨r_23, M_21, hc_22, hf⟩ := zB_o hf
        refine zc_vi (As := [.int (x1 + x6), .int (10 : Int32)]) (rest := []) C0 hP hS hl.1 0 (mtX5_clogsBySeed l G hJ (x1 + x6) (10 : Int32) M _ hc_22) lk_X5_219 (by decide) shX_0 (T := TX5) (n' := 9) rfl ds_X5_clogsBySeed (by rw [hRm]; exact ⟨Nat.le_of_ble_eq_true rfl, Nat.le_of_ble_eq_true rfl⟩) rfl rfl (Nat.le_of_ble_eq_true rfl) dX5_chance_53 ⟨Nat.zero_le _, Nat.zero_le _⟩ (fun H locs hP hS => ?_)
        refine lv_iload_n hx hb dX5_chance_56 rfl (lv_at hl 3 rfl) ?_
        refine lv_icmp_lt (tgt := 63) hx hb dX5_chance_57 (by decide) (fun c_24 => ?_) (fun c_24 => ?_)
        · replace hf := zI_t c_24 hf
          obtain ⟨x6_25, ex6_25, hf⟩ := zL_o hf
          refine lv_iinc (v := x6_25) (lv' := [(6, .int x6_25), (0, .ref (G.2.2.1 0)), (1, .int x1), (2, .int x2), (3, .int x3), (4, .int x4), (5, .int x5)]) hx hb dX5_chance_63 hl (k := 6) rfl (by rw [ex6_25]; rfl) (by decide) rfl (fun ls hl => ?_)
          refine lv_goto (tgt := 40) hx hb dX5_chance_66 (by decide) ?_
          exact ih40 x1 x2 x3 x4 x5 x6_25 M_21 H locs ls (lv_sub hl [1, 2, 3, 4, 5, 6, 0] rfl) hP hS hf
        · replace hf := zI_f c_24 hf
          obtain ⟨x5_26, ex5_26, hf⟩ := zL_o hf
          refine lv_iinc (v := x5_26) (lv' := [(5, .int x5_26), (0, .ref (G.2.2.1 0)), (1, .int x1), (2, .int x2), (3, .int x3), (4, .int x4), (6, .int x6)]) hx hb dX5_chance_60 hl (k := 5) rfl (by rw [ex5_26]; rfl) (by decide) rfl (fun ls hl => ?_)
          obtain ⟨x6_27, ex6_27, hf⟩ := zL_o hf
          refine lv_iinc (v := x6_27) (lv' := [(6, .int x6_27), (5, .int x5_26), (0, .ref (G.2.2.1 0)), (1, .int x1), (2, .int x2), (3, .int x3), (4, .int x4)]) hx hb dX5_chance_63 hl (k := 6) rfl (by rw [ex6_27]; rfl) (by decide) rfl (fun ls hl => ?_)
          refine lv_goto (tgt := 40) hx hb dX5_chance_66 (by decide) ?_
          exact ih40 x1 x2 x3 x4 x5_26 x6_27 M_21 H locs ls (lv_sub hl [2, 3, 4, 5, 6, 1, 0] rfl) hP hS hf
  unfold fX5_chance at hf
  obtain ⟨H, eH⟩ : ∃ H, H = s.heap := ⟨_, rfl⟩
  obtain ⟨locs, el⟩ : ∃ locs : List Loc, locs = [] := ⟨_, rfl⟩
  rw [← eH] at hP ⊢
  have hS : va_S (zA G 64 s.heap.size) s.heap H locs := by rw [eH, el]; exact hS
  rw [← el]
  refine lv_iload_n hx hb dX5_chance_0 rfl (lv_at hl 2 rfl) ?_
  refine lv_iconst (v := (1 : Int32)) hx hb dX5_chance_1 (by decide) ?_
  refine lv_bipush (v := (20 : Int32)) hx hb dX5_chance_2 (by decide) ?_
  obtain ⟨r_3, M_1, hc_2, hf⟩ := zB_o hf
  refine zc_si (As := [.int x2, .int (1 : Int32), .int (20 : Int32)]) (rest := []) C0 hP hS hl.1 (mtX5_within l G hJ x2 (1 : Int32) (20 : Int32) M _ hc_2) ls_X5_78 ds_X5_within (by rw [hRm]; exact ⟨Nat.le_of_ble_eq_true rfl, Nat.le_of_ble_eq_true rfl⟩) rfl rfl (Nat.le_of_ble_eq_true rfl) dX5_chance_4 ⟨Nat.zero_le _, Nat.zero_le _⟩ (fun H locs hP hS => ?_)
  refine lv_if_eq (tgt := 30) hx hb dX5_chance_7 (by decide) (fun c_4 => ?_) (fun c_4 => ?_)
  · replace hf := zI_t c_4 hf
    refine lv_ldc2 (v := (-4611686018427387904 : Int64)) hx hb hown (hts _ mw_324) dX5_chance_30 ?_
    exact ze_l C0 hP hS hf dX5_chance_33 hQ
  · replace hf := zI_f c_4 hf
    refine lv_iload_n hx hb dX5_chance_10 rfl (lv_at hl 3 rfl) ?_
    refine lv_iconst (v := (0 : Int32)) hx hb dX5_chance_11 (by decide) ?_
    refine lv_bipush (v := (99 : Int32)) hx hb dX5_chance_12 (by decide) ?_
    obtain ⟨r_7, M_5, hc_6, hf⟩ := zB_o hf
    refine zc_si (As := [.int x3, .int (0 : Int32), .int (99 : Int32)]) (rest := []) C0 hP hS hl.1 (mtX5_within l G hJ x3 (0 : Int32) (99 : Int32) M_1 _ hc_6) ls_X5_78 ds_X5_within (by rw [hRm]; exact ⟨Nat.le_of_ble_eq_true rfl, Nat.le_of_ble_eq_true rfl⟩) rfl rfl (Nat.le_of_ble_eq_true rfl) dX5_chance_14 ⟨Nat.zero_le _, Nat.zero_le _⟩ (fun H locs hP hS => ?_)
    refine lv_if_eq (tgt := 30) hx hb dX5_chance_17 (by decide) (fun c_8 => ?_) (fun c_8 => ?_)
    · replace hf := zI_t c_8 hf
      refine lv_ldc2 (v := (-4611686018427387904 : Int64)) hx hb hown (hts _ mw_324) dX5_chance_30 ?_
      exact ze_l C0 hP hS hf dX5_chance_33 hQ
    · replace hf := zI_f c_8 hf
      refine lv_iload hx hb dX5_chance_20 (lv_at hl 4 rfl) ?_
      refine lv_iconst (v := (0 : Int32)) hx hb dX5_chance_22 (by decide) ?_
      refine lv_iconst (v := (1 : Int32)) hx hb dX5_chance_23 (by decide) ?_
      obtain ⟨r_11, M_9, hc_10, hf⟩ := zB_o hf
      refine zc_si (As := [.int x4, .int (0 : Int32), .int (1 : Int32)]) (rest := []) C0 hP hS hl.1 (mtX5_within l G hJ x4 (0 : Int32) (1 : Int32) M_5 _ hc_10) ls_X5_78 ds_X5_within (by rw [hRm]; exact ⟨Nat.le_of_ble_eq_true rfl, Nat.le_of_ble_eq_true rfl⟩) rfl rfl (Nat.le_of_ble_eq_true rfl) dX5_chance_24 ⟨Nat.zero_le _, Nat.zero_le _⟩ (fun H locs hP hS => ?_)
      refine lv_if_ne (tgt := 34) hx hb dX5_chance_27 (by decide) (fun c_12 => ?_) (fun c_12 => ?_)
      · replace hf := zI_f c_12 hf
        refine lv_iconst (v := (0 : Int32)) hx hb dX5_chance_34 (by decide) ?_
        refine lv_istore (lv' := [(5, .int (0 : Int32)), (0, .ref (G.2.2.1 0)), (1, .int x1), (2, .int x2), (3, .int x3), (4, .int x4)]) hx hb dX5_chance_35 hl (by decide) rfl (fun ls hl => ?_)
        refine lv_iconst (v := (0 : Int32)) hx hb dX5_chance_37 (by decide) ?_
        refine lv_istore (lv' := [(6, .int (0 : Int32)), (5, .int (0 : Int32)), (0, .ref (G.2.2.1 0)), (1, .int x1), (2, .int x2), (3, .int x3), (4, .int x4)]) hx hb dX5_chance_38 hl (by decide) rfl (fun ls hl => ?_)
        exact L40 zF x1 x2 x3 x4 (0 : Int32) (0 : Int32) M_9 H locs ls (lv_sub hl [2, 3, 4, 5, 6, 1, 0] rfl) hP hS hf
      · replace hf := zI_t c_12 hf
        refine lv_ldc2 (v := (-4611686018427387904 : Int64)) hx hb hown (hts _ mw_324) dX5_chance_30 ?_
        exact ze_l C0 hP hS hf dX5_chance_33 hQ
def fX5_image (M : zM) : Option (Int32 × zM) :=
  zV (fX4_become 24 10 M) fun M_1 =>
  zL (zu M_1 0 8 (1 : Int32)) fun M_3 =>
  some ((M_3.1 10 7), M_3)
set_option maxHeartbeats 4000000 in
set_option maxRecDepth 100000 in
theorem mtX5_image (l : Launch) (G : zGr) (hJ : zJ G 64) (M : zM) (o : Int32 × zM) (hf : fX5_image M = some o) : zMi l G shX 64 yX5_image cX5_image 1 (some .int) 1 22 [.ref (G.2.2.1 0)] M o := by
  intro sz
  refine zOf (by decide) (Nat.le_of_ble_eq_true rfl) ?_
  intro p e R Q s m args below meth c hRm hsz hQ C0 hP hS ls hl
  subst hsz
  replace hRm : R = { frames := 1, cells := 0, slots := 0, locals := 22 } := hRm
  have hl : lv_has ls 1 [(0, .ref (G.2.2.1 0))] := hl
  have hx := C0.1
  have hb := C0.2.1
  have hown := C0.2.2.2.1
  have hts := C0.2.2.2.2.1
  unfold fX5_image at hf
  obtain ⟨H, eH⟩ : ∃ H, H = s.heap := ⟨_, rfl⟩
  obtain ⟨locs, el⟩ : ∃ locs : List Loc, locs = [] := ⟨_, rfl⟩
  rw [← eH] at hP ⊢
  have hS : va_S (zA G 64 s.heap.size) s.heap H locs := by rw [eH, el]; exact hS
  rw [← el]
  refine lv_aload_n hx hb dX5_image_0 rfl (lv_at hl 0 rfl) ?_
  refine zr_getq (C := RX5) (T := TX5) (n := 9) C0 hP 0 (by decide) shX_0 5 24 rfl (by decide) uw_X5 mw_374 rfl dX5_image_1 ?_
  refine lv_aload_n hx hb dX5_image_4 rfl (lv_at hl 0 rfl) ?_
  refine zr_getq (C := RX5) (T := TX5) (n := 9) C0 hP 0 (by decide) shX_0 3 10 rfl (by decide) uw_X5 mw_260 rfl dX5_image_5 ?_
  obtain ⟨M_1, hc_2, hf⟩ := zV_o hf
  refine zc_vv (As := [.ref (G.2.2.1 10)]) (rest := []) C0 hP hS hl.1 24 (mtX4_become l G hJ 24 isW24 10 isW10 M _ hc_2) lk_X5_151 (by decide) shX_24 (T := TX4) (n' := 11) rfl ds_X4_become (by rw [hRm]; exact ⟨Nat.le_of_ble_eq_true rfl, Nat.le_of_ble_eq_true rfl⟩) rfl rfl (Nat.le_of_ble_eq_true rfl) dX5_image_8 ⟨Nat.zero_le _, Nat.zero_le _⟩ (fun H locs hP hS => ?_)
  refine lv_aload_n hx hb dX5_image_11 rfl (lv_at hl 0 rfl) ?_
  refine lv_iconst (v := (1 : Int32)) hx hb dX5_image_12 (by decide) ?_
  refine zr_put (C := RX5) (T := TX5) (n := 9) C0 hJ hP hS 0 (by decide) shX_0 8 rfl (by decide) uw_X5 tyX5 tyX5_ok nmX5 mw_375 rfl rfl (zbo_i (by decide)) dX5_image_13 (fun H locs hP hS => ?_)
  obtain ⟨M_3, eM_3, hf⟩ := zL_o hf
  have hP : va_P G.1 zcl (zw G shX 64 M_3) H := by rw [eM_3]; exact hP
  refine lv_aload_n hx hb dX5_image_16 rfl (lv_at hl 0 rfl) ?_
  refine zr_getq (C := RX5) (T := TX5) (n := 9) C0 hP 0 (by decide) shX_0 3 10 rfl (by decide) uw_X5 mw_260 rfl dX5_image_17 ?_
  refine zr_getN (C := RX4) (T := TX4) (n := 11) C0 hP 10 (by decide) shX_10 7 rfl (by decide) uw_X4 7 rfl rfl dX5_image_20 ?_
  exact ze_i C0 hP hS hf dX5_image_23 hQ
def fX5_back (M : zM) : Option (Int32 × zM) :=
  if (M.1 0 8) = (0 : Int32) then
    some ((-3 : Int32), M)
  else
    zV (fX4_become 10 24 M) fun M_2 =>
    some ((M_2.1 10 7), M_2)
set_option maxHeartbeats 4000000 in
set_option maxRecDepth 100000 in
theorem mtX5_back (l : Launch) (G : zGr) (hJ : zJ G 64) (M : zM) (o : Int32 × zM) (hf : fX5_back M = some o) : zMi l G shX 64 yX5_back cX5_back 1 (some .int) 1 22 [.ref (G.2.2.1 0)] M o := by
  intro sz
  refine zOf (by decide) (Nat.le_of_ble_eq_true rfl) ?_
  intro p e R Q s m args below meth c hRm hsz hQ C0 hP hS ls hl
  subst hsz
  replace hRm : R = { frames := 1, cells := 0, slots := 0, locals := 22 } := hRm
  have hl : lv_has ls 1 [(0, .ref (G.2.2.1 0))] := hl
  have hx := C0.1
  have hb := C0.2.1
  have hown := C0.2.2.2.1
  have hts := C0.2.2.2.2.1
  unfold fX5_back at hf
  obtain ⟨H, eH⟩ : ∃ H, H = s.heap := ⟨_, rfl⟩
  obtain ⟨locs, el⟩ : ∃ locs : List Loc, locs = [] := ⟨_, rfl⟩
  rw [← eH] at hP ⊢
  have hS : va_S (zA G 64 s.heap.size) s.heap H locs := by rw [eH, el]; exact hS
  rw [← el]
  refine lv_aload_n hx hb dX5_back_0 rfl (lv_at hl 0 rfl) ?_
  refine zr_get (C := RX5) (T := TX5) (n := 9) C0 hP 0 (by decide) shX_0 8 rfl (by decide) uw_X5 mw_375 rfl dX5_back_1 ?_
  refine lv_if_ne (tgt := 10) hx hb dX5_back_4 (by decide) (fun c_1 => ?_) (fun c_1 => ?_)
  · replace hf := zI_f c_1 hf
    refine lv_aload_n hx hb dX5_back_10 rfl (lv_at hl 0 rfl) ?_
    refine zr_getq (C := RX5) (T := TX5) (n := 9) C0 hP 0 (by decide) shX_0 3 10 rfl (by decide) uw_X5 mw_260 rfl dX5_back_11 ?_
    refine lv_aload_n hx hb dX5_back_14 rfl (lv_at hl 0 rfl) ?_
    refine zr_getq (C := RX5) (T := TX5) (n := 9) C0 hP 0 (by decide) shX_0 5 24 rfl (by decide) uw_X5 mw_374 rfl dX5_back_15 ?_
    obtain ⟨M_2, hc_3, hf⟩ := zV_o hf
    refine zc_vv (As := [.ref (G.2.2.1 24)]) (rest := []) C0 hP hS hl.1 10 (mtX4_become l G hJ 10 isW10 24 isW24 M _ hc_3) lk_X5_151 (by decide) shX_10 (T := TX4) (n' := 11) rfl ds_X4_become (by rw [hRm]; exact ⟨Nat.le_of_ble_eq_true rfl, Nat.le_of_ble_eq_true rfl⟩) rfl rfl (Nat.le_of_ble_eq_true rfl) dX5_back_18 ⟨Nat.zero_le _, Nat.zero_le _⟩ (fun H locs hP hS => ?_)
    refine lv_aload_n hx hb dX5_back_21 rfl (lv_at hl 0 rfl) ?_
    refine zr_getq (C := RX5) (T := TX5) (n := 9) C0 hP 0 (by decide) shX_0 3 10 rfl (by decide) uw_X5 mw_260 rfl dX5_back_22 ?_
    refine zr_getN (C := RX4) (T := TX4) (n := 11) C0 hP 10 (by decide) shX_10 7 rfl (by decide) uw_X4 7 rfl rfl dX5_back_25 ?_
    exact ze_i C0 hP hS hf dX5_back_28 hQ
  · replace hf := zI_t c_1 hf
    refine lv_bipush (v := (-3 : Int32)) hx hb dX5_back_7 (by decide) ?_
    exact ze_i C0 hP hS hf dX5_back_9 hQ
def fX5_count (x1 : Int32) (M : zM) : Option (Int32 × zM) :=
  if x1 = (0 : Int32) then
    some ((M.1 10 7), M)
  else
    if x1 = (1 : Int32) then
      some ((M.1 10 8), M)
    else
      if x1 = (2 : Int32) then
        zB (fX4_rueOfAll 10 M) fun r_6 M_4 =>
        some (r_6, M_4)
      else
        if x1 = (3 : Int32) then
          some ((M.1 0 7), M)
        else
          if x1 = (4 : Int32) then
            some ((M.1 2 3), M)
          else
            if x1 = (5 : Int32) then
              some ((M.1 10 10), M)
            else
              some ((-2 : Int32), M)
set_option maxHeartbeats 4000000 in
set_option maxRecDepth 100000 in
theorem mtX5_count (l : Launch) (G : zGr) (hJ : zJ G 64) (x1 : Int32) (M : zM) (o : Int32 × zM) (hf : fX5_count x1 M = some o) : zMi l G shX 64 yX5_count cX5_count 2 (some .int) 1 22 [.ref (G.2.2.1 0), .int x1] M o := by
  intro sz
  refine zOf (by decide) (Nat.le_of_ble_eq_true rfl) ?_
  intro p e R Q s m args below meth c hRm hsz hQ C0 hP hS ls hl
  subst hsz
  replace hRm : R = { frames := 1, cells := 0, slots := 0, locals := 22 } := hRm
  have hl : lv_has ls 2 [(0, .ref (G.2.2.1 0)), (1, .int x1)] := hl
  have hx := C0.1
  have hb := C0.2.1
  have hown := C0.2.2.2.1
  have hts := C0.2.2.2.2.1
  unfold fX5_count at hf
  obtain ⟨H, eH⟩ : ∃ H, H = s.heap := ⟨_, rfl⟩
  obtain ⟨locs, el⟩ : ∃ locs : List Loc, locs = [] := ⟨_, rfl⟩
  rw [← eH] at hP ⊢
  have hS : va_S (zA G 64 s.heap.size) s.heap H locs := by rw [eH, el]; exact hS
  rw [← el]
  refine lv_iload_n hx hb dX5_count_0 rfl (lv_at hl 1 rfl) ?_
  refine if c_1 : x1 = (0 : Int32) then ?_ else ?_
  · replace hf := zI_t c_1 hf
    refine lv_tableIn (tgt := 40) hx hb dX5_count_1 (by rw [c_1]; decide) (by rw [c_1]; decide) (off := 39) (by rw [c_1]; decide) (by decide) ?_
    refine lv_aload_n hx hb dX5_count_40 rfl (lv_at hl 0 rfl) ?_
    refine zr_getq (C := RX5) (T := TX5) (n := 9) C0 hP 0 (by decide) shX_0 3 10 rfl (by decide) uw_X5 mw_260 rfl dX5_count_41 ?_
    refine zr_getN (C := RX4) (T := TX4) (n := 11) C0 hP 10 (by decide) shX_10 7 rfl (by decide) uw_X4 7 rfl rfl dX5_count_44 ?_
    exact ze_i C0 hP hS hf dX5_count_47 hQ
  · replace hf := zI_f c_1 hf
    refine if c_2 : x1 = (1 : Int32) then ?_ else ?_
    · replace hf := zI_t c_2 hf
      refine lv_tableIn (tgt := 48) hx hb dX5_count_1 (by rw [c_2]; decide) (by rw [c_2]; decide) (off := 47) (by rw [c_2]; decide) (by decide) ?_
      refine lv_aload_n hx hb dX5_count_48 rfl (lv_at hl 0 rfl) ?_
      refine zr_getq (C := RX5) (T := TX5) (n := 9) C0 hP 0 (by decide) shX_0 3 10 rfl (by decide) uw_X5 mw_260 rfl dX5_count_49 ?_
      refine zr_getN (C := RX4) (T := TX4) (n := 11) C0 hP 10 (by decide) shX_10 8 rfl (by decide) uw_X4 8 rfl rfl dX5_count_52 ?_
      exact ze_i C0 hP hS hf dX5_count_55 hQ
    · replace hf := zI_f c_2 hf
      refine if c_3 : x1 = (2 : Int32) then ?_ else ?_
      · replace hf := zI_t c_3 hf
        refine lv_tableIn (tgt := 56) hx hb dX5_count_1 (by rw [c_3]; decide) (by rw [c_3]; decide) (off := 55) (by rw [c_3]; decide) (by decide) ?_
        refine lv_aload_n hx hb dX5_count_56 rfl (lv_at hl 0 rfl) ?_
        refine zr_getq (C := RX5) (T := TX5) (n := 9) C0 hP 0 (by decide) shX_0 3 10 rfl (by decide) uw_X5 mw_260 rfl dX5_count_57 ?_
        obtain ⟨r_6, M_4, hc_5, hf⟩ := zB_o hf
        refine zc_vi (As := []) (rest := []) C0 hP hS hl.1 10 (mtX4_rueOfAll l G hJ 10 isW10 M _ hc_5) lk_X5_144 (by decide) shX_10 (T := TX4) (n' := 11) rfl ds_X4_rueOfAll (by rw [hRm]; exact ⟨Nat.le_of_ble_eq_true rfl, Nat.le_of_ble_eq_true rfl⟩) rfl rfl (Nat.le_of_ble_eq_true rfl) dX5_count_60 ⟨Nat.zero_le _, Nat.zero_le _⟩ (fun H locs hP hS => ?_)
        exact ze_i C0 hP hS hf dX5_count_63 hQ
      · replace hf := zI_f c_3 hf
        refine if c_7 : x1 = (3 : Int32) then ?_ else ?_
        · replace hf := zI_t c_7 hf
          refine lv_tableIn (tgt := 64) hx hb dX5_count_1 (by rw [c_7]; decide) (by rw [c_7]; decide) (off := 63) (by rw [c_7]; decide) (by decide) ?_
          refine lv_aload_n hx hb dX5_count_64 rfl (lv_at hl 0 rfl) ?_
          refine zr_get (C := RX5) (T := TX5) (n := 9) C0 hP 0 (by decide) shX_0 7 rfl (by decide) uw_X5 mw_250 rfl dX5_count_65 ?_
          exact ze_i C0 hP hS hf dX5_count_68 hQ
        · replace hf := zI_f c_7 hf
          refine if c_8 : x1 = (4 : Int32) then ?_ else ?_
          · replace hf := zI_t c_8 hf
            refine lv_tableIn (tgt := 69) hx hb dX5_count_1 (by rw [c_8]; decide) (by rw [c_8]; decide) (off := 68) (by rw [c_8]; decide) (by decide) ?_
            refine lv_aload_n hx hb dX5_count_69 rfl (lv_at hl 0 rfl) ?_
            refine zr_getq (C := RX5) (T := TX5) (n := 9) C0 hP 0 (by decide) shX_0 1 2 rfl (by decide) uw_X5 mw_245 rfl dX5_count_70 ?_
            refine zr_getN (C := RX2) (T := TX2) (n := 9) C0 hP 2 (by decide) shX_2 3 rfl (by decide) uw_X2 2 rfl rfl dX5_count_73 ?_
            exact ze_i C0 hP hS hf dX5_count_76 hQ
          · replace hf := zI_f c_8 hf
            refine if c_9 : x1 = (5 : Int32) then ?_ else ?_
            · replace hf := zI_t c_9 hf
              refine lv_tableIn (tgt := 77) hx hb dX5_count_1 (by rw [c_9]; decide) (by rw [c_9]; decide) (off := 76) (by rw [c_9]; decide) (by decide) ?_
              refine lv_aload_n hx hb dX5_count_77 rfl (lv_at hl 0 rfl) ?_
              refine zr_getq (C := RX5) (T := TX5) (n := 9) C0 hP 0 (by decide) shX_0 3 10 rfl (by decide) uw_X5 mw_260 rfl dX5_count_78 ?_
              refine zr_getN (C := RX4) (T := TX4) (n := 11) C0 hP 10 (by decide) shX_10 10 rfl (by decide) uw_X4 10 rfl rfl dX5_count_81 ?_
              exact ze_i C0 hP hS hf dX5_count_84 hQ
            · replace hf := zI_f c_9 hf
              have tc_1 := lv_neT (a := 0) c_1 (by decide)
              have tc_2 := lv_neT (a := 1) c_2 (by decide)
              have tc_3 := lv_neT (a := 2) c_3 (by decide)
              have tc_7 := lv_neT (a := 3) c_7 (by decide)
              have tc_8 := lv_neT (a := 4) c_8 (by decide)
              have tc_9 := lv_neT (a := 5) c_9 (by decide)
              refine lv_tableOut (tgt := 85) hx hb dX5_count_1 (by omega) (by decide) ?_
              refine lv_bipush (v := (-2 : Int32)) hx hb dX5_count_85 (by decide) ?_
              exact ze_i C0 hP hS hf dX5_count_87 hQ
def fX5_sheet (x1 : Int32) (x2 : Int32) (x3 : Int32) (M : zM) : Option (Int32 × zM) :=
  zB (fX5_within x1 (0 : Int32) (3 : Int32) M) fun r_3 M_1 =>
  if r_3 = (0 : Int32) then
    some ((-2 : Int32), M_1)
  else
    zB (fX5_within x2 (-1 : Int32) (2 : Int32) M_1) fun r_7 M_5 =>
    if r_7 = (0 : Int32) then
      some ((-2 : Int32), M_5)
    else
      if x2 = (-1 : Int32) then
        zG (zin x1 4) <|
        zL (56 + 2 * x1.toNatClampNeg) fun q_17 =>
        zV (fX0_become q_17 (-1 : Int32) (0 : Int32) M_5) fun M_18 =>
        some ((1 : Int32), M_18)
      else
        if x3 ≤ (40 : Int32) then
          if (0 : Int32) ≤ x3 then
            zG (zin x1 4) <|
            zL (56 + 2 * x1.toNatClampNeg) fun q_13 =>
            zV (fX0_become q_13 x2 x3 M_5) fun M_14 =>
            some ((1 : Int32), M_14)
          else
            some ((-14 : Int32), M_5)
        else
          some ((-2 : Int32), M_5)
set_option maxHeartbeats 4000000 in
set_option maxRecDepth 100000 in
theorem mtX5_sheet (l : Launch) (G : zGr) (hJ : zJ G 64) (x1 : Int32) (x2 : Int32) (x3 : Int32) (M : zM) (o : Int32 × zM) (hf : fX5_sheet x1 x2 x3 M = some o) : zMi l G shX 64 yX5_sheet cX5_sheet 4 (some .int) 2 45 [.ref (G.2.2.1 0), .int x1, .int x2, .int x3] M o := by
  intro sz
  refine zOf (by decide) (Nat.le_of_ble_eq_true rfl) ?_
  intro p e R Q s m args below meth c hRm hsz hQ C0 hP hS ls hl
  subst hsz
  replace hRm : R = { frames := 2, cells := 0, slots := 0, locals := 45 } := hRm
  have hl : lv_has ls 4 [(0, .ref (G.2.2.1 0)), (1, .int x1), (2, .int x2), (3, .int x3)] := hl
  have hx := C0.1
  have hb := C0.2.1
  have hown := C0.2.2.2.1
  have hts := C0.2.2.2.2.1
  unfold fX5_sheet at hf
  obtain ⟨H, eH⟩ : ∃ H, H = s.heap := ⟨_, rfl⟩
  obtain ⟨locs, el⟩ : ∃ locs : List Loc, locs = [] := ⟨_, rfl⟩
  rw [← eH] at hP ⊢
  have hS : va_S (zA G 64 s.heap.size) s.heap H locs := by rw [eH, el]; exact hS
  rw [← el]
  refine lv_iload_n hx hb dX5_sheet_0 rfl (lv_at hl 1 rfl) ?_
  refine lv_iconst (v := (0 : Int32)) hx hb dX5_sheet_1 (by decide) ?_
  refine lv_iconst (v := (3 : Int32)) hx hb dX5_sheet_2 (by decide) ?_
  obtain ⟨r_3, M_1, hc_2, hf⟩ := zB_o hf
  refine zc_si (As := [.int x1, .int (0 : Int32), .int (3 : Int32)]) (rest := []) C0 hP hS hl.1 (mtX5_within l G hJ x1 (0 : Int32) (3 : Int32) M _ hc_2) ls_X5_78 ds_X5_within (by rw [hRm]; exact ⟨Nat.le_of_ble_eq_true rfl, Nat.le_of_ble_eq_true rfl⟩) rfl rfl (Nat.le_of_ble_eq_true rfl) dX5_sheet_3 ⟨Nat.zero_le _, Nat.zero_le _⟩ (fun H locs hP hS => ?_)
  refine lv_if_eq (tgt := 18) hx hb dX5_sheet_6 (by decide) (fun c_4 => ?_) (fun c_4 => ?_)
  · replace hf := zI_t c_4 hf
    refine lv_bipush (v := (-2 : Int32)) hx hb dX5_sheet_18 (by decide) ?_
    exact ze_i C0 hP hS hf dX5_sheet_20 hQ
  · replace hf := zI_f c_4 hf
    refine lv_iload_n hx hb dX5_sheet_9 rfl (lv_at hl 2 rfl) ?_
    refine lv_iconst (v := (-1 : Int32)) hx hb dX5_sheet_10 (by decide) ?_
    refine lv_iconst (v := (2 : Int32)) hx hb dX5_sheet_11 (by decide) ?_
    obtain ⟨r_7, M_5, hc_6, hf⟩ := zB_o hf
    refine zc_si (As := [.int x2, .int (-1 : Int32), .int (2 : Int32)]) (rest := []) C0 hP hS hl.1 (mtX5_within l G hJ x2 (-1 : Int32) (2 : Int32) M_1 _ hc_6) ls_X5_78 ds_X5_within (by rw [hRm]; exact ⟨Nat.le_of_ble_eq_true rfl, Nat.le_of_ble_eq_true rfl⟩) rfl rfl (Nat.le_of_ble_eq_true rfl) dX5_sheet_12 ⟨Nat.zero_le _, Nat.zero_le _⟩ (fun H locs hP hS => ?_)
    refine lv_if_ne (tgt := 21) hx hb dX5_sheet_15 (by decide) (fun c_8 => ?_) (fun c_8 => ?_)
    · replace hf := zI_f c_8 hf
      refine lv_iload_n hx hb dX5_sheet_21 rfl (lv_at hl 2 rfl) ?_
      refine lv_iconst (v := (-1 : Int32)) hx hb dX5_sheet_22 (by decide) ?_
      refine lv_icmp_ne (tgt := 39) hx hb dX5_sheet_23 (by decide) (fun c_9 => ?_) (fun c_9 => ?_)
      · replace hf := zI_f c_9 hf
        refine lv_iload_n hx hb dX5_sheet_39 rfl (lv_at hl 3 rfl) ?_
        refine lv_bipush (v := (40 : Int32)) hx hb dX5_sheet_40 (by decide) ?_
        refine lv_icmp_le (tgt := 48) hx hb dX5_sheet_42 (by decide) (fun c_10 => ?_) (fun c_10 => ?_)
        · replace hf := zI_t c_10 hf
          refine lv_iload_n hx hb dX5_sheet_48 rfl (lv_at hl 3 rfl) ?_
          refine lv_if_ge (tgt := 55) hx hb dX5_sheet_49 (by decide) (fun c_11 => ?_) (fun c_11 => ?_)
          · replace hf := zI_t c_11 hf
            refine lv_aload_n hx hb dX5_sheet_55 rfl (lv_at hl 0 rfl) ?_
            refine zr_getq (C := RX5) (T := TX5) (n := 9) C0 hP 0 (by decide) shX_0 6 31 rfl (by decide) uw_X5 mw_348 rfl dX5_sheet_56 ?_
            refine lv_iload_n hx hb dX5_sheet_59 rfl (lv_at hl 1 rfl) ?_
            obtain ⟨hg_12, hf⟩ := zG_o hf
            refine zr_aald4 C0 hP 31 (by decide) shX_31 hg_12 dX5_sheet_60 ?_
            obtain ⟨q_13, eq_13, hf⟩ := zL_o hf
            rw [← eq_13]
            have hq_13 : isS q_13 := eq_13 ▸ isS_of hg_12
            refine lv_iload_n hx hb dX5_sheet_61 rfl (lv_at hl 2 rfl) ?_
            refine lv_iload_n hx hb dX5_sheet_62 rfl (lv_at hl 3 rfl) ?_
            obtain ⟨M_14, hc_15, hf⟩ := zV_o hf
            refine zc_vv (As := [.int x2, .int x3]) (rest := []) C0 hP hS hl.1 q_13 (mtX0_become l G hJ q_13 hq_13 x2 x3 M_5 _ hc_15) lk_X5_213 (isS_lt hq_13) (isS_s hq_13) (T := TX0) (n' := 3) rfl ds_X0_become (by rw [hRm]; exact ⟨Nat.le_of_ble_eq_true rfl, Nat.le_of_ble_eq_true rfl⟩) rfl rfl (Nat.le_of_ble_eq_true rfl) dX5_sheet_63 ⟨Nat.zero_le _, Nat.zero_le _⟩ (fun H locs hP hS => ?_)
            refine lv_iconst (v := (1 : Int32)) hx hb dX5_sheet_66 (by decide) ?_
            exact ze_i C0 hP hS hf dX5_sheet_67 hQ
          · replace hf := zI_f c_11 hf
            refine lv_bipush (v := (-14 : Int32)) hx hb dX5_sheet_52 (by decide) ?_
            exact ze_i C0 hP hS hf dX5_sheet_54 hQ
        · replace hf := zI_f c_10 hf
          refine lv_bipush (v := (-2 : Int32)) hx hb dX5_sheet_45 (by decide) ?_
          exact ze_i C0 hP hS hf dX5_sheet_47 hQ
      · replace hf := zI_t c_9 hf
        refine lv_aload_n hx hb dX5_sheet_26 rfl (lv_at hl 0 rfl) ?_
        refine zr_getq (C := RX5) (T := TX5) (n := 9) C0 hP 0 (by decide) shX_0 6 31 rfl (by decide) uw_X5 mw_348 rfl dX5_sheet_27 ?_
        refine lv_iload_n hx hb dX5_sheet_30 rfl (lv_at hl 1 rfl) ?_
        obtain ⟨hg_16, hf⟩ := zG_o hf
        refine zr_aald4 C0 hP 31 (by decide) shX_31 hg_16 dX5_sheet_31 ?_
        obtain ⟨q_17, eq_17, hf⟩ := zL_o hf
        rw [← eq_17]
        have hq_17 : isS q_17 := eq_17 ▸ isS_of hg_16
        refine lv_iconst (v := (-1 : Int32)) hx hb dX5_sheet_32 (by decide) ?_
        refine lv_iconst (v := (0 : Int32)) hx hb dX5_sheet_33 (by decide) ?_
        obtain ⟨M_18, hc_19, hf⟩ := zV_o hf
        refine zc_vv (As := [.int (-1 : Int32), .int (0 : Int32)]) (rest := []) C0 hP hS hl.1 q_17 (mtX0_become l G hJ q_17 hq_17 (-1 : Int32) (0 : Int32) M_5 _ hc_19) lk_X5_213 (isS_lt hq_17) (isS_s hq_17) (T := TX0) (n' := 3) rfl ds_X0_become (by rw [hRm]; exact ⟨Nat.le_of_ble_eq_true rfl, Nat.le_of_ble_eq_true rfl⟩) rfl rfl (Nat.le_of_ble_eq_true rfl) dX5_sheet_34 ⟨Nat.zero_le _, Nat.zero_le _⟩ (fun H locs hP hS => ?_)
        refine lv_iconst (v := (1 : Int32)) hx hb dX5_sheet_37 (by decide) ?_
        exact ze_i C0 hP hS hf dX5_sheet_38 hQ
    · replace hf := zI_t c_8 hf
      refine lv_bipush (v := (-2 : Int32)) hx hb dX5_sheet_18 (by decide) ?_
      exact ze_i C0 hP hS hf dX5_sheet_20 hQ
def fX5_cell (x1 : Int32) (x2 : Int32) (x3 : Int32) (M : zM) : Option (Int32 × zM) :=
  zB (fX5_within x1 (0 : Int32) (3 : Int32) M) fun r_3 M_1 =>
  if r_3 = (0 : Int32) then
    some ((-2 : Int32), M_1)
  else
    zG (zin x1 4) <|
    zL (56 + 2 * x1.toNatClampNeg) fun q_6 =>
    if (M_1.1 q_6 1) = (-1 : Int32) then
      some ((-11 : Int32), M_1)
    else
      zB (fX5_within x2 (0 : Int32) ((M_1.1 q_6 2) - (1 : Int32)) M_1) fun r_10 M_8 =>
      if r_10 = (0 : Int32) then
        some ((-12 : Int32), M_8)
      else
        zV (fX0_put q_6 x2 x3 M_8) fun M_12 =>
        some ((1 : Int32), M_12)
set_option maxHeartbeats 4000000 in
set_option maxRecDepth 100000 in
theorem mtX5_cell (l : Launch) (G : zGr) (hJ : zJ G 64) (x1 : Int32) (x2 : Int32) (x3 : Int32) (M : zM) (o : Int32 × zM) (hf : fX5_cell x1 x2 x3 M = some o) : zMi l G shX 64 yX5_cell cX5_cell 5 (some .int) 1 22 [.ref (G.2.2.1 0), .int x1, .int x2, .int x3] M o := by
  intro sz
  refine zOf (by decide) (Nat.le_of_ble_eq_true rfl) ?_
  intro p e R Q s m args below meth c hRm hsz hQ C0 hP hS ls hl
  subst hsz
  replace hRm : R = { frames := 1, cells := 0, slots := 0, locals := 22 } := hRm
  have hl : lv_has ls 5 [(0, .ref (G.2.2.1 0)), (1, .int x1), (2, .int x2), (3, .int x3)] := hl
  have hx := C0.1
  have hb := C0.2.1
  have hown := C0.2.2.2.1
  have hts := C0.2.2.2.2.1
  unfold fX5_cell at hf
  obtain ⟨H, eH⟩ : ∃ H, H = s.heap := ⟨_, rfl⟩
  obtain ⟨locs, el⟩ : ∃ locs : List Loc, locs = [] := ⟨_, rfl⟩
  rw [← eH] at hP ⊢
  have hS : va_S (zA G 64 s.heap.size) s.heap H locs := by rw [eH, el]; exact hS
  rw [← el]
  refine lv_iload_n hx hb dX5_cell_0 rfl (lv_at hl 1 rfl) ?_
  refine lv_iconst (v := (0 : Int32)) hx hb dX5_cell_1 (by decide) ?_
  refine lv_iconst (v := (3 : Int32)) hx hb dX5_cell_2 (by decide) ?_
  obtain ⟨r_3, M_1, hc_2, hf⟩ := zB_o hf
  refine zc_si (As := [.int x1, .int (0 : Int32), .int (3 : Int32)]) (rest := []) C0 hP hS hl.1 (mtX5_within l G hJ x1 (0 : Int32) (3 : Int32) M _ hc_2) ls_X5_78 ds_X5_within (by rw [hRm]; exact ⟨Nat.le_of_ble_eq_true rfl, Nat.le_of_ble_eq_true rfl⟩) rfl rfl (Nat.le_of_ble_eq_true rfl) dX5_cell_3 ⟨Nat.zero_le _, Nat.zero_le _⟩ (fun H locs hP hS => ?_)
  refine lv_if_ne (tgt := 12) hx hb dX5_cell_6 (by decide) (fun c_4 => ?_) (fun c_4 => ?_)
  · replace hf := zI_f c_4 hf
    refine lv_aload_n hx hb dX5_cell_12 rfl (lv_at hl 0 rfl) ?_
    refine zr_getq (C := RX5) (T := TX5) (n := 9) C0 hP 0 (by decide) shX_0 6 31 rfl (by decide) uw_X5 mw_348 rfl dX5_cell_13 ?_
    refine lv_iload_n hx hb dX5_cell_16 rfl (lv_at hl 1 rfl) ?_
    obtain ⟨hg_5, hf⟩ := zG_o hf
    refine zr_aald4 C0 hP 31 (by decide) shX_31 hg_5 dX5_cell_17 ?_
    obtain ⟨q_6, eq_6, hf⟩ := zL_o hf
    rw [← eq_6]
    have hq_6 : isS q_6 := eq_6 ▸ isS_of hg_5
    refine lv_astore (lv' := [(4, .ref (G.2.2.1 q_6)), (0, .ref (G.2.2.1 0)), (1, .int x1), (2, .int x2), (3, .int x3)]) hx hb dX5_cell_18 hl (by decide) rfl (fun ls hl => ?_)
    refine lv_aload hx hb dX5_cell_20 (lv_at hl 0 rfl) ?_
    refine zr_getN (C := RX0) (T := TX0) (n := 3) C0 hP q_6 (isS_lt hq_6) (isS_s hq_6) 1 rfl (by decide) uw_X0 12 rfl rfl dX5_cell_22 ?_
    refine lv_iconst (v := (-1 : Int32)) hx hb dX5_cell_25 (by decide) ?_
    refine lv_icmp_ne (tgt := 32) hx hb dX5_cell_26 (by decide) (fun c_7 => ?_) (fun c_7 => ?_)
    · replace hf := zI_f c_7 hf
      refine lv_iload_n hx hb dX5_cell_32 rfl (lv_at hl 3 rfl) ?_
      refine lv_iconst (v := (0 : Int32)) hx hb dX5_cell_33 (by decide) ?_
      refine lv_aload hx hb dX5_cell_34 (lv_at hl 0 rfl) ?_
      refine zr_getN (C := RX0) (T := TX0) (n := 3) C0 hP q_6 (isS_lt hq_6) (isS_s hq_6) 2 rfl (by decide) uw_X0 13 rfl rfl dX5_cell_36 ?_
      refine lv_iconst (v := (1 : Int32)) hx hb dX5_cell_39 (by decide) ?_
      refine lv_isub hx hb dX5_cell_40 ?_
      obtain ⟨r_10, M_8, hc_9, hf⟩ := zB_o hf
      refine zc_si (As := [.int x2, .int (0 : Int32), .int ((M_1.1 q_6 2) - (1 : Int32))]) (rest := []) C0 hP hS hl.1 (mtX5_within l G hJ x2 (0 : Int32) ((M_1.1 q_6 2) - (1 : Int32)) M_1 _ hc_9) ls_X5_78 ds_X5_within (by rw [hRm]; exact ⟨Nat.le_of_ble_eq_true rfl, Nat.le_of_ble_eq_true rfl⟩) rfl rfl (Nat.le_of_ble_eq_true rfl) dX5_cell_41 ⟨Nat.zero_le _, Nat.zero_le _⟩ (fun H locs hP hS => ?_)
      refine lv_if_ne (tgt := 50) hx hb dX5_cell_44 (by decide) (fun c_11 => ?_) (fun c_11 => ?_)
      · replace hf := zI_f c_11 hf
        refine lv_aload hx hb dX5_cell_50 (lv_at hl 0 rfl) ?_
        refine lv_iload_n hx hb dX5_cell_52 rfl (lv_at hl 3 rfl) ?_
        refine lv_iload_n hx hb dX5_cell_53 rfl (lv_at hl 4 rfl) ?_
        obtain ⟨M_12, hc_13, hf⟩ := zV_o hf
        refine zc_vv (As := [.int x2, .int x3]) (rest := []) C0 hP hS hl.1 q_6 (mtX0_put l G hJ q_6 hq_6 x2 x3 M_8 _ hc_13) lk_X5_216 (isS_lt hq_6) (isS_s hq_6) (T := TX0) (n' := 3) rfl ds_X0_put (by rw [hRm]; exact ⟨Nat.le_of_ble_eq_true rfl, Nat.le_of_ble_eq_true rfl⟩) rfl rfl (Nat.le_of_ble_eq_true rfl) dX5_cell_54 ⟨Nat.zero_le _, Nat.zero_le _⟩ (fun H locs hP hS => ?_)
        refine lv_iconst (v := (1 : Int32)) hx hb dX5_cell_57 (by decide) ?_
        exact ze_i C0 hP hS hf dX5_cell_58 hQ
      · replace hf := zI_t c_11 hf
        refine lv_bipush (v := (-12 : Int32)) hx hb dX5_cell_47 (by decide) ?_
        exact ze_i C0 hP hS hf dX5_cell_49 hQ
    · replace hf := zI_t c_7 hf
      refine lv_bipush (v := (-11 : Int32)) hx hb dX5_cell_29 (by decide) ?_
      exact ze_i C0 hP hS hf dX5_cell_31 hQ
  · replace hf := zI_t c_4 hf
    refine lv_bipush (v := (-2 : Int32)) hx hb dX5_cell_9 (by decide) ?_
    exact ze_i C0 hP hS hf dX5_cell_11 hQ
def fX5_copy (x1 : Int32) (x2 : Int32) (x3 : Int32) (x4 : Int32) (x5 : Int32) (M : zM) : Option (Int32 × zM) :=
  zB (fX5_within x1 (0 : Int32) (3 : Int32) M) fun r_3 M_1 =>
  if r_3 = (0 : Int32) then
    some ((-2 : Int32), M_1)
  else
    zB (fX5_within x3 (0 : Int32) (3 : Int32) M_1) fun r_7 M_5 =>
    if r_7 = (0 : Int32) then
      some ((-2 : Int32), M_5)
    else
      zG (zin x1 4) <|
      zL (56 + 2 * x1.toNatClampNeg) fun q_10 =>
      zG (zin x3 4) <|
      zL (56 + 2 * x3.toNatClampNeg) fun q_12 =>
      if (M_5.1 q_10 1) = (-1 : Int32) then
        some ((-11 : Int32), M_5)
      else
        if (M_5.1 q_12 1) = (-1 : Int32) then
          some ((-11 : Int32), M_5)
        else
          if (M_5.1 q_10 1) = (M_5.1 q_12 1) then
            zB (fX0_holds q_10 x2 x5 M_5) fun r_18 M_16 =>
            if r_18 = (0 : Int32) then
              some ((-12 : Int32), M_16)
            else
              zB (fX0_holds q_12 x4 x5 M_16) fun r_22 M_20 =>
              if r_22 = (0 : Int32) then
                some ((-12 : Int32), M_20)
              else
                zG (zrg x2 x5 40) <|
                zG (zrg x4 x5 40) <|
                zL (zcpy M_20 (q_10 + 1) x2 (q_12 + 1) x4 x5) fun M_24 =>
                some (x5, M_24)
          else
            some ((-13 : Int32), M_5)
set_option maxHeartbeats 4000000 in
set_option maxRecDepth 100000 in
theorem mtX5_copy (l : Launch) (G : zGr) (hJ : zJ G 64) (x1 : Int32) (x2 : Int32) (x3 : Int32) (x4 : Int32) (x5 : Int32) (M : zM) (o : Int32 × zM) (hf : fX5_copy x1 x2 x3 x4 x5 M = some o) : zMi l G shX 64 yX5_copy cX5_copy 8 (some .int) 1 80 [.ref (G.2.2.1 0), .int x1, .int x2, .int x3, .int x4, .int x5] M o := by
  intro sz
  refine zOf (by decide) (Nat.le_of_ble_eq_true rfl) ?_
  intro p e R Q s m args below meth c hRm hsz hQ C0 hP hS ls hl
  subst hsz
  replace hRm : R = { frames := 1, cells := 0, slots := 0, locals := 80 } := hRm
  have hl : lv_has ls 8 [(0, .ref (G.2.2.1 0)), (1, .int x1), (2, .int x2), (3, .int x3), (4, .int x4), (5, .int x5)] := hl
  have hx := C0.1
  have hb := C0.2.1
  have hown := C0.2.2.2.1
  have hts := C0.2.2.2.2.1
  unfold fX5_copy at hf
  obtain ⟨H, eH⟩ : ∃ H, H = s.heap := ⟨_, rfl⟩
  obtain ⟨locs, el⟩ : ∃ locs : List Loc, locs = [] := ⟨_, rfl⟩
  rw [← eH] at hP ⊢
  have hS : va_S (zA G 64 s.heap.size) s.heap H locs := by rw [eH, el]; exact hS
  rw [← el]
  refine lv_iload_n hx hb dX5_copy_0 rfl (lv_at hl 1 rfl) ?_
  refine lv_iconst (v := (0 : Int32)) hx hb dX5_copy_1 (by decide) ?_
  refine lv_iconst (v := (3 : Int32)) hx hb dX5_copy_2 (by decide) ?_
  obtain ⟨r_3, M_1, hc_2, hf⟩ := zB_o hf
  refine zc_si (As := [.int x1, .int (0 : Int32), .int (3 : Int32)]) (rest := []) C0 hP hS hl.1 (mtX5_within l G hJ x1 (0 : Int32) (3 : Int32) M _ hc_2) ls_X5_78 ds_X5_within (by rw [hRm]; exact ⟨Nat.le_of_ble_eq_true rfl, Nat.le_of_ble_eq_true rfl⟩) rfl rfl (Nat.le_of_ble_eq_true rfl) dX5_copy_3 ⟨Nat.zero_le _, Nat.zero_le _⟩ (fun H locs hP hS => ?_)
  refine lv_if_eq (tgt := 18) hx hb dX5_copy_6 (by decide) (fun c_4 => ?_) (fun c_4 => ?_)
  · replace hf := zI_t c_4 hf
    refine lv_bipush (v := (-2 : Int32)) hx hb dX5_copy_18 (by decide) ?_
    exact ze_i C0 hP hS hf dX5_copy_20 hQ
  · replace hf := zI_f c_4 hf
    refine lv_iload_n hx hb dX5_copy_9 rfl (lv_at hl 3 rfl) ?_
    refine lv_iconst (v := (0 : Int32)) hx hb dX5_copy_10 (by decide) ?_
    refine lv_iconst (v := (3 : Int32)) hx hb dX5_copy_11 (by decide) ?_
    obtain ⟨r_7, M_5, hc_6, hf⟩ := zB_o hf
    refine zc_si (As := [.int x3, .int (0 : Int32), .int (3 : Int32)]) (rest := []) C0 hP hS hl.1 (mtX5_within l G hJ x3 (0 : Int32) (3 : Int32) M_1 _ hc_6) ls_X5_78 ds_X5_within (by rw [hRm]; exact ⟨Nat.le_of_ble_eq_true rfl, Nat.le_of_ble_eq_true rfl⟩) rfl rfl (Nat.le_of_ble_eq_true rfl) dX5_copy_12 ⟨Nat.zero_le _, Nat.zero_le _⟩ (fun H locs hP hS => ?_)
    refine lv_if_ne (tgt := 21) hx hb dX5_copy_15 (by decide) (fun c_8 => ?_) (fun c_8 => ?_)
    · replace hf := zI_f c_8 hf
      refine lv_aload_n hx hb dX5_copy_21 rfl (lv_at hl 0 rfl) ?_
      refine zr_getq (C := RX5) (T := TX5) (n := 9) C0 hP 0 (by decide) shX_0 6 31 rfl (by decide) uw_X5 mw_348 rfl dX5_copy_22 ?_
      refine lv_iload_n hx hb dX5_copy_25 rfl (lv_at hl 1 rfl) ?_
      obtain ⟨hg_9, hf⟩ := zG_o hf
      refine zr_aald4 C0 hP 31 (by decide) shX_31 hg_9 dX5_copy_26 ?_
      obtain ⟨q_10, eq_10, hf⟩ := zL_o hf
      rw [← eq_10]
      have hq_10 : isS q_10 := eq_10 ▸ isS_of hg_9
      refine lv_astore (lv' := [(6, .ref (G.2.2.1 q_10)), (0, .ref (G.2.2.1 0)), (1, .int x1), (2, .int x2), (3, .int x3), (4, .int x4), (5, .int x5)]) hx hb dX5_copy_27 hl (by decide) rfl (fun ls hl => ?_)
      refine lv_aload_n hx hb dX5_copy_29 rfl (lv_at hl 1 rfl) ?_
      refine zr_getq (C := RX5) (T := TX5) (n := 9) C0 hP 0 (by decide) shX_0 6 31 rfl (by decide) uw_X5 mw_348 rfl dX5_copy_30 ?_
      refine lv_iload_n hx hb dX5_copy_33 rfl (lv_at hl 4 rfl) ?_
      obtain ⟨hg_11, hf⟩ := zG_o hf
      refine zr_aald4 C0 hP 31 (by decide) shX_31 hg_11 dX5_copy_34 ?_
      obtain ⟨q_12, eq_12, hf⟩ := zL_o hf
      rw [← eq_12]
      have hq_12 : isS q_12 := eq_12 ▸ isS_of hg_11
      refine lv_astore (lv' := [(7, .ref (G.2.2.1 q_12)), (6, .ref (G.2.2.1 q_10)), (0, .ref (G.2.2.1 0)), (1, .int x1), (2, .int x2), (3, .int x3), (4, .int x4), (5, .int x5)]) hx hb dX5_copy_35 hl (by decide) rfl (fun ls hl => ?_)
      refine lv_aload hx hb dX5_copy_37 (lv_at hl 1 rfl) ?_
      refine zr_getN (C := RX0) (T := TX0) (n := 3) C0 hP q_10 (isS_lt hq_10) (isS_s hq_10) 1 rfl (by decide) uw_X0 12 rfl rfl dX5_copy_39 ?_
      refine lv_iconst (v := (-1 : Int32)) hx hb dX5_copy_42 (by decide) ?_
      refine lv_icmp_eq (tgt := 55) hx hb dX5_copy_43 (by decide) (fun c_13 => ?_) (fun c_13 => ?_)
      · replace hf := zI_t c_13 hf
        refine lv_bipush (v := (-11 : Int32)) hx hb dX5_copy_55 (by decide) ?_
        exact ze_i C0 hP hS hf dX5_copy_57 hQ
      · replace hf := zI_f c_13 hf
        refine lv_aload hx hb dX5_copy_46 (lv_at hl 0 rfl) ?_
        refine zr_getN (C := RX0) (T := TX0) (n := 3) C0 hP q_12 (isS_lt hq_12) (isS_s hq_12) 1 rfl (by decide) uw_X0 12 rfl rfl dX5_copy_48 ?_
        refine lv_iconst (v := (-1 : Int32)) hx hb dX5_copy_51 (by decide) ?_
        refine lv_icmp_ne (tgt := 58) hx hb dX5_copy_52 (by decide) (fun c_14 => ?_) (fun c_14 => ?_)
        · replace hf := zI_f c_14 hf
          refine lv_aload hx hb dX5_copy_58 (lv_at hl 1 rfl) ?_
          refine zr_getN (C := RX0) (T := TX0) (n := 3) C0 hP q_10 (isS_lt hq_10) (isS_s hq_10) 1 rfl (by decide) uw_X0 12 rfl rfl dX5_copy_60 ?_
          refine lv_aload hx hb dX5_copy_63 (lv_at hl 0 rfl) ?_
          refine zr_getN (C := RX0) (T := TX0) (n := 3) C0 hP q_12 (isS_lt hq_12) (isS_s hq_12) 1 rfl (by decide) uw_X0 12 rfl rfl dX5_copy_65 ?_
          refine lv_icmp_eq (tgt := 74) hx hb dX5_copy_68 (by decide) (fun c_15 => ?_) (fun c_15 => ?_)
          · replace hf := zI_t c_15 hf
            refine lv_aload hx hb dX5_copy_74 (lv_at hl 1 rfl) ?_
            refine lv_iload_n hx hb dX5_copy_76 rfl (lv_at hl 4 rfl) ?_
            refine lv_iload hx hb dX5_copy_77 (lv_at hl 7 rfl) ?_
            obtain ⟨r_18, M_16, hc_17, hf⟩ := zB_o hf
            refine zc_vi (As := [.int x2, .int x5]) (rest := []) C0 hP hS hl.1 q_10 (mtX0_holds l G hJ q_10 hq_10 x2 x5 M_5 _ hc_17) lk_X5_238 (isS_lt hq_10) (isS_s hq_10) (T := TX0) (n' := 3) rfl ds_X0_holds (by rw [hRm]; exact ⟨Nat.le_of_ble_eq_true rfl, Nat.le_of_ble_eq_true rfl⟩) rfl rfl (Nat.le_of_ble_eq_true rfl) dX5_copy_79 ⟨Nat.zero_le _, Nat.zero_le _⟩ (fun H locs hP hS => ?_)
            refine lv_if_eq (tgt := 97) hx hb dX5_copy_82 (by decide) (fun c_19 => ?_) (fun c_19 => ?_)
            · replace hf := zI_t c_19 hf
              refine lv_bipush (v := (-12 : Int32)) hx hb dX5_copy_97 (by decide) ?_
              exact ze_i C0 hP hS hf dX5_copy_99 hQ
            · replace hf := zI_f c_19 hf
              refine lv_aload hx hb dX5_copy_85 (lv_at hl 0 rfl) ?_
              refine lv_iload hx hb dX5_copy_87 (lv_at hl 6 rfl) ?_
              refine lv_iload hx hb dX5_copy_89 (lv_at hl 7 rfl) ?_
              obtain ⟨r_22, M_20, hc_21, hf⟩ := zB_o hf
              refine zc_vi (As := [.int x4, .int x5]) (rest := []) C0 hP hS hl.1 q_12 (mtX0_holds l G hJ q_12 hq_12 x4 x5 M_16 _ hc_21) lk_X5_238 (isS_lt hq_12) (isS_s hq_12) (T := TX0) (n' := 3) rfl ds_X0_holds (by rw [hRm]; exact ⟨Nat.le_of_ble_eq_true rfl, Nat.le_of_ble_eq_true rfl⟩) rfl rfl (Nat.le_of_ble_eq_true rfl) dX5_copy_91 ⟨Nat.zero_le _, Nat.zero_le _⟩ (fun H locs hP hS => ?_)
              refine lv_if_ne (tgt := 100) hx hb dX5_copy_94 (by decide) (fun c_23 => ?_) (fun c_23 => ?_)
              · replace hf := zI_f c_23 hf
                refine lv_aload hx hb dX5_copy_100 (lv_at hl 1 rfl) ?_
                refine zr_getqN (C := RX0) (T := TX0) (n := 3) C0 hP q_10 (isS_lt hq_10) (isS_s hq_10) 0 (q_10 + 1) rfl (by decide) uw_X0 11 rfl rfl dX5_copy_102 ?_
                refine lv_iload_n hx hb dX5_copy_105 rfl (lv_at hl 4 rfl) ?_
                refine lv_aload hx hb dX5_copy_106 (lv_at hl 0 rfl) ?_
                refine zr_getqN (C := RX0) (T := TX0) (n := 3) C0 hP q_12 (isS_lt hq_12) (isS_s hq_12) 0 (q_12 + 1) rfl (by decide) uw_X0 11 rfl rfl dX5_copy_108 ?_
                refine lv_iload hx hb dX5_copy_111 (lv_at hl 6 rfl) ?_
                refine lv_iload hx hb dX5_copy_113 (lv_at hl 7 rfl) ?_
                obtain ⟨hg_25, hf⟩ := zG_o hf
                obtain ⟨hg_26, hf⟩ := zG_o hf
                refine zo_copy C0 hJ hP hS hl.1 mw_380 mw_381 mw_382 mw_383 (q_10 + 1) (q_12 + 1) (isS_lt1 hq_10) (isS_lt1 hq_12) (isS_s1 hq_10) (isS_s1 hq_12) hg_25 hg_26 (by rw [hRm]; exact Nat.le_of_ble_eq_true rfl) (by rw [hRm]; exact Nat.le_of_ble_eq_true rfl) dX5_copy_115 (fun H locs hP hS => ?_)
                obtain ⟨M_24, eM_24, hf⟩ := zL_o hf
                have hP : va_P G.1 zcl (zw G shX 64 M_24) H := by rw [eM_24]; exact hP
                refine lv_iload hx hb dX5_copy_118 (lv_at hl 7 rfl) ?_
                exact ze_i C0 hP hS hf dX5_copy_120 hQ
              · replace hf := zI_t c_23 hf
                refine lv_bipush (v := (-12 : Int32)) hx hb dX5_copy_97 (by decide) ?_
                exact ze_i C0 hP hS hf dX5_copy_99 hQ
          · replace hf := zI_f c_15 hf
            refine lv_bipush (v := (-13 : Int32)) hx hb dX5_copy_71 (by decide) ?_
            exact ze_i C0 hP hS hf dX5_copy_73 hQ
        · replace hf := zI_t c_14 hf
          refine lv_bipush (v := (-11 : Int32)) hx hb dX5_copy_55 (by decide) ?_
          exact ze_i C0 hP hS hf dX5_copy_57 hQ
    · replace hf := zI_t c_8 hf
      refine lv_bipush (v := (-2 : Int32)) hx hb dX5_copy_18 (by decide) ?_
      exact ze_i C0 hP hS hf dX5_copy_20 hQ
def fX5_people_B69 (r69 : Int32 → Int32 → Nat → Int32 → Int32 → zM → Option (Int32 × zM)) (x3 : Int32) (x4 : Int32) (q5 : Nat) (x6 : Int32) (x7 : Int32) (M : zM) : Option (Int32 × zM) :=
  if x4 ≤ x7 then
    some (x6, M)
  else
    zL (x3 + ((3 : Int32) * x7)) fun x8_18 =>
    zB (fX0_holds q5 x8_18 (3 : Int32) M) fun r_21 M_19 =>
    if r_21 = (0 : Int32) then
      some ((-12 : Int32), M_19)
    else
      zB (fX0_at q5 x8_18 M_19) fun r_25 M_23 =>
      zB (fX0_at q5 (x8_18 + (1 : Int32)) M_23) fun r_28 M_26 =>
      zB (fX0_at q5 (x8_18 + (2 : Int32)) M_26) fun r_31 M_29 =>
      zB (fX5_person r_25 r_28 r_31 M_29) fun r_34 M_32 =>
      if r_34 < (0 : Int32) then
        zL (x7 + (1 : Int32)) fun x7_36 =>
        r69 x3 x4 q5 x6 x7_36 M_32
      else
        zL (x6 + (1 : Int32)) fun x6_37 =>
        zL (x7 + (1 : Int32)) fun x7_38 =>
        r69 x3 x4 q5 x6_37 x7_38 M_32
def fX5_people_L69 : Nat → Int32 → Int32 → Nat → Int32 → Int32 → zM → Option (Int32 × zM)
  | 0 => fun _ _ _ _ _ _ => none
  | j9 + 1 => fX5_people_B69 (fX5_people_L69 j9)
def fX5_people (x1 : Int32) (x2 : Int32) (x3 : Int32) (x4 : Int32) (M : zM) : Option (Int32 × zM) :=
  zB (fX5_within x1 (0 : Int32) (3 : Int32) M) fun r_3 M_1 =>
  if r_3 = (0 : Int32) then
    some ((-2 : Int32), M_1)
  else
    zB (fX5_within x2 (0 : Int32) (2 : Int32) M_1) fun r_7 M_5 =>
    if r_7 = (0 : Int32) then
      some ((-2 : Int32), M_5)
    else
      zB (fX5_within x4 (0 : Int32) (5 : Int32) M_5) fun r_11 M_9 =>
      if r_11 = (0 : Int32) then
        some ((-2 : Int32), M_9)
      else
        zG (zin x1 4) <|
        zL (56 + 2 * x1.toNatClampNeg) fun q_14 =>
        if (M_9.1 q_14 1) = (-1 : Int32) then
          some ((-11 : Int32), M_9)
        else
          if (M_9.1 q_14 1) = x2 then
            fX5_people_L69 zF x3 x4 q_14 (0 : Int32) (0 : Int32) M_9
          else
            some ((-13 : Int32), M_9)
set_option maxHeartbeats 4000000 in
set_option maxRecDepth 100000 in
theorem mtX5_people (l : Launch) (G : zGr) (hJ : zJ G 64) (x1 : Int32) (x2 : Int32) (x3 : Int32) (x4 : Int32) (M : zM) (o : Int32 × zM) (hf : fX5_people x1 x2 x3 x4 M = some o) : zMi l G shX 64 yX5_people cX5_people 9 (some .int) 3 67 [.ref (G.2.2.1 0), .int x1, .int x2, .int x3, .int x4] M o := by
  intro sz
  refine zOf (by decide) (Nat.le_of_ble_eq_true rfl) ?_
  intro p e R Q s m args below meth c hRm hsz hQ C0 hP hS ls hl
  subst hsz
  replace hRm : R = { frames := 3, cells := 0, slots := 0, locals := 67 } := hRm
  have hl : lv_has ls 9 [(0, .ref (G.2.2.1 0)), (1, .int x1), (2, .int x2), (3, .int x3), (4, .int x4)] := hl
  have hx := C0.1
  have hb := C0.2.1
  have hown := C0.2.2.2.1
  have hts := C0.2.2.2.2.1
  have L69 : ∀ (n69 : Nat), ∀ (x3 : Int32) (x4 : Int32) (q5 : Nat) (hq5 : isS q5) (x6 : Int32) (x7 : Int32) (M : zM) (H : Heap) (locs : List Loc) (ls : Array Slot), lv_has ls 9 [(0, .ref (G.2.2.1 0)), (3, .int x3), (4, .int x4), (5, .ref (G.2.2.1 q5)), (6, .int x6), (7, .int x7)] → va_P G.1 zcl (zw G shX 64 M) H → va_S (zA G 64 s.heap.size) s.heap H locs → fX5_people_L69 n69 x3 x4 q5 x6 x7 M = some o → W p l e R s m args below meth c H locs 0 0 Q (F0 m 69 ls []) := by
    intro n69
    induction n69 with
    | zero => intro x3 x4 q5 hq5 x6 x7 M H locs ls hl hP hS hf; exact zn_s (show none = some o from hf)
    | succ n69 ih69 =>
      intro x3 x4 q5 hq5 x6 x7 M H locs ls hl hP hS hf
      replace hf : fX5_people_B69 (fX5_people_L69 n69) x3 x4 q5 x6 x7 M = some o := hf
      unfold fX5_people_B69 at hf
      refine lv_iload hx hb dX5_people_69 (lv_at hl 5 rfl) ?_
      refine lv_iload hx hb dX5_people_71 (lv_at hl 2 rfl) ?_
      refine lv_icmp_ge (tgt := 139) hx hb dX5_people_73 (by decide) (fun c_17 => ?_) (fun c_17 => ?_)
      · replace hf := zI_t c_17 hf
        refine lv_iload hx hb dX5_people_139 (lv_at hl 4 rfl) ?_
        exact ze_i C0 hP hS hf dX5_people_141 hQ
      · replace hf := zI_f c_17 hf
        refine lv_iload_n hx hb dX5_people_76 rfl (lv_at hl 1 rfl) ?_
        refine lv_iconst (v := (3 : Int32)) hx hb dX5_people_77 (by decide) ?_
        refine lv_iload hx hb dX5_people_78 (lv_at hl 5 rfl) ?_
        refine lv_imul hx hb dX5_people_80 ?_
        refine lv_iadd hx hb dX5_people_81 ?_
        refine lv_topi (fun x8_18 ex8_18 => ?_)
        replace hf := zL_e ex8_18 hf
        refine lv_istore (lv' := [(8, .int x8_18), (0, .ref (G.2.2.1 0)), (3, .int x3), (4, .int x4), (5, .ref (G.2.2.1 q5)), (6, .int x6), (7, .int x7)]) hx hb dX5_people_82 hl (by decide) rfl (fun ls hl => ?_)
        refine lv_aload hx hb dX5_people_84 (lv_at hl 4 rfl) ?_
        refine lv_iload hx hb dX5_people_86 (lv_at hl 0 rfl) ?_
        refine lv_iconst (v := (3 : Int32)) hx hb dX5_people_88 (by decide) ?_
        obtain ⟨r_21, M_19, hc_20, hf⟩ := zB_o hf
        refine zc_vi (As := [.int x8_18, .int (3 : Int32)]) (rest := []) C0 hP hS hl.1 q5 (mtX0_holds l G hJ q5 hq5 x8_18 (3 : Int32) M _ hc_20) lk_X5_238 (isS_lt hq5) (isS_s hq5) (T := TX0) (n' := 3) rfl ds_X0_holds (by rw [hRm]; exact ⟨Nat.le_of_ble_eq_true rfl, Nat.le_of_ble_eq_true rfl⟩) rfl rfl (Nat.le_of_ble_eq_true rfl) dX5_people_89 ⟨Nat.zero_le _, Nat.zero_le _⟩ (fun H locs hP hS => ?_)
        refine lv_if_ne (tgt := 98) hx hb dX5_people_92 (by decide) (fun c_22 => ?_) (fun c_22 => ?_)
        · replace hf := zI_f c_22 hf
          refine lv_aload_n hx hb dX5_people_98 rfl (lv_at hl 1 rfl) ?_
          refine lv_aload hx hb dX5_people_99 (lv_at hl 4 rfl) ?_
          refine lv_iload hx hb dX5_people_101 (lv_at hl 0 rfl) ?_
          obtain ⟨r_25, M_23, hc_24, hf⟩ := zB_o hf
          refine zc_vi (As := [.int x8_18]) (rest := [.ref (G.2.2.1 0)]) C0 hP hS hl.1 q5 (mtX0_at l G hJ q5 hq5 x8_18 M_19 _ hc_24) lk_X5_229 (isS_lt hq5) (isS_s hq5) (T := TX0) (n' := 3) rfl ds_X0_at (by rw [hRm]; exact ⟨Nat.le_of_ble_eq_true rfl, Nat.le_of_ble_eq_true rfl⟩) rfl rfl (Nat.le_of_ble_eq_true rfl) dX5_people_103 ⟨Nat.zero_le _, Nat.zero_le _⟩ (fun H locs hP hS => ?_)
          refine lv_aload hx hb dX5_people_106 (lv_at hl 4 rfl) ?_
          refine lv_iload hx hb dX5_people_108 (lv_at hl 0 rfl) ?_
          refine lv_iconst (v := (1 : Int32)) hx hb dX5_people_110 (by decide) ?_
          refine lv_iadd hx hb dX5_people_111 ?_
          obtain ⟨r_28, M_26, hc_27, hf⟩ := zB_o hf
          refine zc_vi (As := [.int (x8_18 + (1 : Int32))]) (rest := [.int r_25, .ref (G.2.2.1 0)]) C0 hP hS hl.1 q5 (mtX0_at l G hJ q5 hq5 (x8_18 + (1 : Int32)) M_23 _ hc_27) lk_X5_229 (isS_lt hq5) (isS_s hq5) (T := TX0) (n' := 3) rfl ds_X0_at (by rw [hRm]; exact ⟨Nat.le_of_ble_eq_true rfl, Nat.le_of_ble_eq_true rfl⟩) rfl rfl (Nat.le_of_ble_eq_true rfl) dX5_people_112 ⟨Nat.zero_le _, Nat.zero_le _⟩ (fun H locs hP hS => ?_)
          refine lv_aload hx hb dX5_people_115 (lv_at hl 4 rfl) ?_
          refine lv_iload hx hb dX5_people_117 (lv_at hl 0 rfl) ?_
          refine lv_iconst (v := (2 : Int32)) hx hb dX5_people_119 (by decide) ?_
          refine lv_iadd hx hb dX5_people_120 ?_
          obtain ⟨r_31, M_29, hc_30, hf⟩ := zB_o hf
          refine zc_vi (As := [.int (x8_18 + (2 : Int32))]) (rest := [.int r_28, .int r_25, .ref (G.2.2.1 0)]) C0 hP hS hl.1 q5 (mtX0_at l G hJ q5 hq5 (x8_18 + (2 : Int32)) M_26 _ hc_30) lk_X5_229 (isS_lt hq5) (isS_s hq5) (T := TX0) (n' := 3) rfl ds_X0_at (by rw [hRm]; exact ⟨Nat.le_of_ble_eq_true rfl, Nat.le_of_ble_eq_true rfl⟩) rfl rfl (Nat.le_of_ble_eq_true rfl) dX5_people_121 ⟨Nat.zero_le _, Nat.zero_le _⟩ (fun H locs hP hS => ?_)
          obtain ⟨r_34, M_32, hc_33, hf⟩ := zB_o hf
          refine zc_vi (As := [.int r_25, .int r_28, .int r_31]) (rest := []) C0 hP hS hl.1 0 (mtX5_person l G hJ r_25 r_28 r_31 M_29 _ hc_33) lk_X5_251 (by decide) shX_0 (T := TX5) (n' := 9) rfl ds_X5_person (by rw [hRm]; exact ⟨Nat.le_of_ble_eq_true rfl, Nat.le_of_ble_eq_true rfl⟩) rfl rfl (Nat.le_of_ble_eq_true rfl) dX5_people_124 ⟨Nat.zero_le _, Nat.zero_le _⟩ (fun H locs hP hS => ?_)
          refine lv_if_lt (tgt := 133) hx hb dX5_people_127 (by decide) (fun c_35 => ?_) (fun c_35 => ?_)
          · replace hf := zI_t c_35 hf
            obtain ⟨x7_36, ex7_36, hf⟩ := zL_o hf
            refine lv_iinc (v := x7_36) (lv' := [(7, .int x7_36), (8, .int x8_18), (0, .ref (G.2.2.1 0)), (3, .int x3), (4, .int x4), (5, .ref (G.2.2.1 q5)), (6, .int x6)]) hx hb dX5_people_133 hl (k := 6) rfl (by rw [ex7_36]; rfl) (by decide) rfl (fun ls hl => ?_)
            refine lv_goto (tgt := 69) hx hb dX5_people_136 (by decide) ?_
            exact ih69 x3 x4 q5 hq5 x6 x7_36 M_32 H locs ls (lv_sub hl [2, 3, 4, 5, 6, 0] rfl) hP hS hf
          · replace hf := zI_f c_35 hf
            obtain ⟨x6_37, ex6_37, hf⟩ := zL_o hf
            refine lv_iinc (v := x6_37) (lv' := [(6, .int x6_37), (8, .int x8_18), (0, .ref (G.2.2.1 0)), (3, .int x3), (4, .int x4), (5, .ref (G.2.2.1 q5)), (7, .int x7)]) hx hb dX5_people_130 hl (k := 5) rfl (by rw [ex6_37]; rfl) (by decide) rfl (fun ls hl => ?_)
            obtain ⟨x7_38, ex7_38, hf⟩ := zL_o hf
            refine lv_iinc (v := x7_38) (lv' := [(7, .int x7_38), (6, .int x6_37), (8, .int x8_18), (0, .ref (G.2.2.1 0)), (3, .int x3), (4, .int x4), (5, .ref (G.2.2.1 q5))]) hx hb dX5_people_133 hl (k := 6) rfl (by rw [ex7_38]; rfl) (by decide) rfl (fun ls hl => ?_)
            refine lv_goto (tgt := 69) hx hb dX5_people_136 (by decide) ?_
            exact ih69 x3 x4 q5 hq5 x6_37 x7_38 M_32 H locs ls (lv_sub hl [3, 4, 5, 6, 1, 0] rfl) hP hS hf
        · replace hf := zI_t c_22 hf
          refine lv_bipush (v := (-12 : Int32)) hx hb dX5_people_95 (by decide) ?_
          exact ze_i C0 hP hS hf dX5_people_97 hQ
  unfold fX5_people at hf
  obtain ⟨H, eH⟩ : ∃ H, H = s.heap := ⟨_, rfl⟩
  obtain ⟨locs, el⟩ : ∃ locs : List Loc, locs = [] := ⟨_, rfl⟩
  rw [← eH] at hP ⊢
  have hS : va_S (zA G 64 s.heap.size) s.heap H locs := by rw [eH, el]; exact hS
  rw [← el]
  refine lv_iload_n hx hb dX5_people_0 rfl (lv_at hl 1 rfl) ?_
  refine lv_iconst (v := (0 : Int32)) hx hb dX5_people_1 (by decide) ?_
  refine lv_iconst (v := (3 : Int32)) hx hb dX5_people_2 (by decide) ?_
  obtain ⟨r_3, M_1, hc_2, hf⟩ := zB_o hf
  refine zc_si (As := [.int x1, .int (0 : Int32), .int (3 : Int32)]) (rest := []) C0 hP hS hl.1 (mtX5_within l G hJ x1 (0 : Int32) (3 : Int32) M _ hc_2) ls_X5_78 ds_X5_within (by rw [hRm]; exact ⟨Nat.le_of_ble_eq_true rfl, Nat.le_of_ble_eq_true rfl⟩) rfl rfl (Nat.le_of_ble_eq_true rfl) dX5_people_3 ⟨Nat.zero_le _, Nat.zero_le _⟩ (fun H locs hP hS => ?_)
  refine lv_if_eq (tgt := 28) hx hb dX5_people_6 (by decide) (fun c_4 => ?_) (fun c_4 => ?_)
  · replace hf := zI_t c_4 hf
    refine lv_bipush (v := (-2 : Int32)) hx hb dX5_people_28 (by decide) ?_
    exact ze_i C0 hP hS hf dX5_people_30 hQ
  · replace hf := zI_f c_4 hf
    refine lv_iload_n hx hb dX5_people_9 rfl (lv_at hl 2 rfl) ?_
    refine lv_iconst (v := (0 : Int32)) hx hb dX5_people_10 (by decide) ?_
    refine lv_iconst (v := (2 : Int32)) hx hb dX5_people_11 (by decide) ?_
    obtain ⟨r_7, M_5, hc_6, hf⟩ := zB_o hf
    refine zc_si (As := [.int x2, .int (0 : Int32), .int (2 : Int32)]) (rest := []) C0 hP hS hl.1 (mtX5_within l G hJ x2 (0 : Int32) (2 : Int32) M_1 _ hc_6) ls_X5_78 ds_X5_within (by rw [hRm]; exact ⟨Nat.le_of_ble_eq_true rfl, Nat.le_of_ble_eq_true rfl⟩) rfl rfl (Nat.le_of_ble_eq_true rfl) dX5_people_12 ⟨Nat.zero_le _, Nat.zero_le _⟩ (fun H locs hP hS => ?_)
    refine lv_if_eq (tgt := 28) hx hb dX5_people_15 (by decide) (fun c_8 => ?_) (fun c_8 => ?_)
    · replace hf := zI_t c_8 hf
      refine lv_bipush (v := (-2 : Int32)) hx hb dX5_people_28 (by decide) ?_
      exact ze_i C0 hP hS hf dX5_people_30 hQ
    · replace hf := zI_f c_8 hf
      refine lv_iload hx hb dX5_people_18 (lv_at hl 4 rfl) ?_
      refine lv_iconst (v := (0 : Int32)) hx hb dX5_people_20 (by decide) ?_
      refine lv_iconst (v := (5 : Int32)) hx hb dX5_people_21 (by decide) ?_
      obtain ⟨r_11, M_9, hc_10, hf⟩ := zB_o hf
      refine zc_si (As := [.int x4, .int (0 : Int32), .int (5 : Int32)]) (rest := []) C0 hP hS hl.1 (mtX5_within l G hJ x4 (0 : Int32) (5 : Int32) M_5 _ hc_10) ls_X5_78 ds_X5_within (by rw [hRm]; exact ⟨Nat.le_of_ble_eq_true rfl, Nat.le_of_ble_eq_true rfl⟩) rfl rfl (Nat.le_of_ble_eq_true rfl) dX5_people_22 ⟨Nat.zero_le _, Nat.zero_le _⟩ (fun H locs hP hS => ?_)
      refine lv_if_ne (tgt := 31) hx hb dX5_people_25 (by decide) (fun c_12 => ?_) (fun c_12 => ?_)
      · replace hf := zI_f c_12 hf
        refine lv_aload_n hx hb dX5_people_31 rfl (lv_at hl 0 rfl) ?_
        refine zr_getq (C := RX5) (T := TX5) (n := 9) C0 hP 0 (by decide) shX_0 6 31 rfl (by decide) uw_X5 mw_348 rfl dX5_people_32 ?_
        refine lv_iload_n hx hb dX5_people_35 rfl (lv_at hl 1 rfl) ?_
        obtain ⟨hg_13, hf⟩ := zG_o hf
        refine zr_aald4 C0 hP 31 (by decide) shX_31 hg_13 dX5_people_36 ?_
        obtain ⟨q_14, eq_14, hf⟩ := zL_o hf
        rw [← eq_14]
        have hq_14 : isS q_14 := eq_14 ▸ isS_of hg_13
        refine lv_astore (lv' := [(5, .ref (G.2.2.1 q_14)), (0, .ref (G.2.2.1 0)), (1, .int x1), (2, .int x2), (3, .int x3), (4, .int x4)]) hx hb dX5_people_37 hl (by decide) rfl (fun ls hl => ?_)
        refine lv_aload hx hb dX5_people_39 (lv_at hl 0 rfl) ?_
        refine zr_getN (C := RX0) (T := TX0) (n := 3) C0 hP q_14 (isS_lt hq_14) (isS_s hq_14) 1 rfl (by decide) uw_X0 12 rfl rfl dX5_people_41 ?_
        refine lv_iconst (v := (-1 : Int32)) hx hb dX5_people_44 (by decide) ?_
        refine lv_icmp_ne (tgt := 51) hx hb dX5_people_45 (by decide) (fun c_15 => ?_) (fun c_15 => ?_)
        · replace hf := zI_f c_15 hf
          refine lv_aload hx hb dX5_people_51 (lv_at hl 0 rfl) ?_
          refine zr_getN (C := RX0) (T := TX0) (n := 3) C0 hP q_14 (isS_lt hq_14) (isS_s hq_14) 1 rfl (by decide) uw_X0 12 rfl rfl dX5_people_53 ?_
          refine lv_iload_n hx hb dX5_people_56 rfl (lv_at hl 3 rfl) ?_
          refine lv_icmp_eq (tgt := 63) hx hb dX5_people_57 (by decide) (fun c_16 => ?_) (fun c_16 => ?_)
          · replace hf := zI_t c_16 hf
            refine lv_iconst (v := (0 : Int32)) hx hb dX5_people_63 (by decide) ?_
            refine lv_istore (lv' := [(6, .int (0 : Int32)), (5, .ref (G.2.2.1 q_14)), (0, .ref (G.2.2.1 0)), (1, .int x1), (2, .int x2), (3, .int x3), (4, .int x4)]) hx hb dX5_people_64 hl (by decide) rfl (fun ls hl => ?_)
            refine lv_iconst (v := (0 : Int32)) hx hb dX5_people_66 (by decide) ?_
            refine lv_istore (lv' := [(7, .int (0 : Int32)), (6, .int (0 : Int32)), (5, .ref (G.2.2.1 q_14)), (0, .ref (G.2.2.1 0)), (1, .int x1), (2, .int x2), (3, .int x3), (4, .int x4)]) hx hb dX5_people_67 hl (by decide) rfl (fun ls hl => ?_)
            exact L69 zF x3 x4 q_14 hq_14 (0 : Int32) (0 : Int32) M_9 H locs ls (lv_sub hl [3, 6, 7, 2, 1, 0] rfl) hP hS hf
          · replace hf := zI_f c_16 hf
            refine lv_bipush (v := (-13 : Int32)) hx hb dX5_people_60 (by decide) ?_
            exact ze_i C0 hP hS hf dX5_people_62 hQ
        · replace hf := zI_t c_15 hf
          refine lv_bipush (v := (-11 : Int32)) hx hb dX5_people_48 (by decide) ?_
          exact ze_i C0 hP hS hf dX5_people_50 hQ
      · replace hf := zI_t c_12 hf
        refine lv_bipush (v := (-2 : Int32)) hx hb dX5_people_28 (by decide) ?_
        exact ze_i C0 hP hS hf dX5_people_30 hQ
def fX5_taken (x1 : Int32) (x2 : Int32) (M : zM) : Option (Int32 × zM) :=
  zB (fX5_within x2 (0 : Int32) (5 : Int32) M) fun r_3 M_1 =>
  if r_3 = (0 : Int32) then
    some ((-2 : Int32), M_1)
  else
    zB (fX4_has 10 x1 M_1) fun r_7 M_5 =>
    if r_7 = (0 : Int32) then
      some ((-11 : Int32), M_5)
    else
      zG (zin x1 5) <|
      zB (fX5_isUnder (M_5.1 11 x1.toNatClampNeg) x2 M_5) fun r_12 M_10 =>
      if r_12 = (0 : Int32) then
        some ((-13 : Int32), M_10)
      else
        zG (zin x1 5) <|
        some ((M_10.1 12 x1.toNatClampNeg), M_10)
set_option maxHeartbeats 4000000 in
set_option maxRecDepth 100000 in
theorem mtX5_taken (l : Launch) (G : zGr) (hJ : zJ G 64) (x1 : Int32) (x2 : Int32) (M : zM) (o : Int32 × zM) (hf : fX5_taken x1 x2 M = some o) : zMi l G shX 64 yX5_taken cX5_taken 3 (some .int) 2 43 [.ref (G.2.2.1 0), .int x1, .int x2] M o := by
  intro sz
  refine zOf (by decide) (Nat.le_of_ble_eq_true rfl) ?_
  intro p e R Q s m args below meth c hRm hsz hQ C0 hP hS ls hl
  subst hsz
  replace hRm : R = { frames := 2, cells := 0, slots := 0, locals := 43 } := hRm
  have hl : lv_has ls 3 [(0, .ref (G.2.2.1 0)), (1, .int x1), (2, .int x2)] := hl
  have hx := C0.1
  have hb := C0.2.1
  have hown := C0.2.2.2.1
  have hts := C0.2.2.2.2.1
  unfold fX5_taken at hf
  obtain ⟨H, eH⟩ : ∃ H, H = s.heap := ⟨_, rfl⟩
  obtain ⟨locs, el⟩ : ∃ locs : List Loc, locs = [] := ⟨_, rfl⟩
  rw [← eH] at hP ⊢
  have hS : va_S (zA G 64 s.heap.size) s.heap H locs := by rw [eH, el]; exact hS
  rw [← el]
  refine lv_iload_n hx hb dX5_taken_0 rfl (lv_at hl 2 rfl) ?_
  refine lv_iconst (v := (0 : Int32)) hx hb dX5_taken_1 (by decide) ?_
  refine lv_iconst (v := (5 : Int32)) hx hb dX5_taken_2 (by decide) ?_
  obtain ⟨r_3, M_1, hc_2, hf⟩ := zB_o hf
  refine zc_si (As := [.int x2, .int (0 : Int32), .int (5 : Int32)]) (rest := []) C0 hP hS hl.1 (mtX5_within l G hJ x2 (0 : Int32) (5 : Int32) M _ hc_2) ls_X5_78 ds_X5_within (by rw [hRm]; exact ⟨Nat.le_of_ble_eq_true rfl, Nat.le_of_ble_eq_true rfl⟩) rfl rfl (Nat.le_of_ble_eq_true rfl) dX5_taken_3 ⟨Nat.zero_le _, Nat.zero_le _⟩ (fun H locs hP hS => ?_)
  refine lv_if_ne (tgt := 12) hx hb dX5_taken_6 (by decide) (fun c_4 => ?_) (fun c_4 => ?_)
  · replace hf := zI_f c_4 hf
    refine lv_aload_n hx hb dX5_taken_12 rfl (lv_at hl 0 rfl) ?_
    refine zr_getq (C := RX5) (T := TX5) (n := 9) C0 hP 0 (by decide) shX_0 3 10 rfl (by decide) uw_X5 mw_260 rfl dX5_taken_13 ?_
    refine lv_iload_n hx hb dX5_taken_16 rfl (lv_at hl 1 rfl) ?_
    obtain ⟨r_7, M_5, hc_6, hf⟩ := zB_o hf
    refine zc_vi (As := [.int x1]) (rest := []) C0 hP hS hl.1 10 (mtX4_has l G hJ 10 isW10 x1 M_1 _ hc_6) lk_X5_106 (by decide) shX_10 (T := TX4) (n' := 11) rfl ds_X4_has (by rw [hRm]; exact ⟨Nat.le_of_ble_eq_true rfl, Nat.le_of_ble_eq_true rfl⟩) rfl rfl (Nat.le_of_ble_eq_true rfl) dX5_taken_17 ⟨Nat.zero_le _, Nat.zero_le _⟩ (fun H locs hP hS => ?_)
    refine lv_if_ne (tgt := 26) hx hb dX5_taken_20 (by decide) (fun c_8 => ?_) (fun c_8 => ?_)
    · replace hf := zI_f c_8 hf
      refine lv_aload_n hx hb dX5_taken_26 rfl (lv_at hl 0 rfl) ?_
      refine zr_getq (C := RX5) (T := TX5) (n := 9) C0 hP 0 (by decide) shX_0 3 10 rfl (by decide) uw_X5 mw_260 rfl dX5_taken_27 ?_
      refine zr_getqN (C := RX4) (T := TX4) (n := 11) C0 hP 10 (by decide) shX_10 1 11 rfl (by decide) uw_X4 3 rfl rfl dX5_taken_30 ?_
      refine lv_iload_n hx hb dX5_taken_33 rfl (lv_at hl 1 rfl) ?_
      obtain ⟨hg_9, hf⟩ := zG_o hf
      refine zr_iald C0 hP 11 (by decide) shX_11 hg_9 dX5_taken_34 ?_
      refine lv_iload_n hx hb dX5_taken_35 rfl (lv_at hl 2 rfl) ?_
      obtain ⟨r_12, M_10, hc_11, hf⟩ := zB_o hf
      refine zc_si (As := [.int (M_5.1 11 x1.toNatClampNeg), .int x2]) (rest := []) C0 hP hS hl.1 (mtX5_isUnder l G hJ (M_5.1 11 x1.toNatClampNeg) x2 M_5 _ hc_11) ls_X5_254 ds_X5_isUnder (by rw [hRm]; exact ⟨Nat.le_of_ble_eq_true rfl, Nat.le_of_ble_eq_true rfl⟩) rfl rfl (Nat.le_of_ble_eq_true rfl) dX5_taken_36 ⟨Nat.zero_le _, Nat.zero_le _⟩ (fun H locs hP hS => ?_)
      refine lv_if_eq (tgt := 54) hx hb dX5_taken_39 (by decide) (fun c_13 => ?_) (fun c_13 => ?_)
      · replace hf := zI_t c_13 hf
        refine lv_bipush (v := (-13 : Int32)) hx hb dX5_taken_54 (by decide) ?_
        exact ze_i C0 hP hS hf dX5_taken_56 hQ
      · replace hf := zI_f c_13 hf
        refine lv_aload_n hx hb dX5_taken_42 rfl (lv_at hl 0 rfl) ?_
        refine zr_getq (C := RX5) (T := TX5) (n := 9) C0 hP 0 (by decide) shX_0 3 10 rfl (by decide) uw_X5 mw_260 rfl dX5_taken_43 ?_
        refine zr_getqN (C := RX4) (T := TX4) (n := 11) C0 hP 10 (by decide) shX_10 2 12 rfl (by decide) uw_X4 4 rfl rfl dX5_taken_46 ?_
        refine lv_iload_n hx hb dX5_taken_49 rfl (lv_at hl 1 rfl) ?_
        obtain ⟨hg_14, hf⟩ := zG_o hf
        refine zr_iald C0 hP 12 (by decide) shX_12 hg_14 dX5_taken_50 ?_
        refine lv_goto (tgt := 56) hx hb dX5_taken_51 (by decide) ?_
        exact ze_i C0 hP hS hf dX5_taken_56 hQ
    · replace hf := zI_t c_8 hf
      refine lv_bipush (v := (-11 : Int32)) hx hb dX5_taken_23 (by decide) ?_
      exact ze_i C0 hP hS hf dX5_taken_25 hQ
  · replace hf := zI_t c_4 hf
    refine lv_bipush (v := (-2 : Int32)) hx hb dX5_taken_9 (by decide) ?_
    exact ze_i C0 hP hS hf dX5_taken_11 hQ

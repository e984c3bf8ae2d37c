def fX6_lays_B0 (r0 : Int32 → zM → Option (zM)) (x1 : Int32) (M : zM) : Option (zM) :=
  if (M.1 0 21) ≤ (0 : Int32) then
    some M
  else
    zG (zin ((M.1 0 21) - (1 : Int32)) 200) <|
    zB (fX6_rank (M.1 9 ((M.1 0 21) - (1 : Int32)).toNatClampNeg) M) fun r_5 M_3 =>
    if r_5 < x1 then
      some M_3
    else
      zL (zu M_3 0 21 ((M_3.1 0 21) - (1 : Int32))) fun M_7 =>
      zG (zin (M_7.1 0 21) 200) <|
      zV (fX6_codes (M_7.1 9 (M_7.1 0 21).toNatClampNeg) M_7) fun M_9 =>
      zG (zin (M_9.1 0 21) 200) <|
      if (M_9.1 9 (M_9.1 0 21).toNatClampNeg) = (13 : Int32) then
        zL (zu M_9 0 22 ((M_9.1 0 22) - (1 : Int32))) fun M_13 =>
        r0 x1 M_13
      else
        zG (zin (M_9.1 0 21) 200) <|
        if (M_9.1 9 (M_9.1 0 21).toNatClampNeg) = (14 : Int32) then
          zL (zu M_9 0 22 ((M_9.1 0 22) - (1 : Int32))) fun M_16 =>
          r0 x1 M_16
        else
          r0 x1 M_9
def fX6_lays_L0 : Nat → Int32 → zM → Option (zM)
  | 0 => fun _ _ => none
  | j9 + 1 => fX6_lays_B0 (fX6_lays_L0 j9)
def fX6_lays (x1 : Int32) (M : zM) : Option (zM) :=
  fX6_lays_L0 zF x1 M
set_option maxHeartbeats 4000000 in
set_option maxRecDepth 100000 in
theorem mtX6_lays (l : Launch) (G : zGr) (hJ : zJ G 23) (x1 : Int32) (M : zM) (o : zM) (hf : fX6_lays x1 M = some o) : zMv l G shM 23 yX6_lays cX6_lays 2 none 1 21 [.ref (G.2.2.1 0), .int x1] M o := by
  intro sz
  refine zOf (by decide) (Nat.le_of_ble_eq_true rfl) ?_
  intro p e R Q s m args below meth c hRm hsz hQ C0 hP hS ls hl
  subst hsz
  replace hRm : R = { frames := 1, cells := 0, slots := 0, locals := 21 } := hRm
  have hl : lv_has ls 2 [(0, .ref (G.2.2.1 0)), (1, .int x1)] := hl
  have hx := C0.1
  have hb := C0.2.1
  have hown := C0.2.2.2.1
  have hts := C0.2.2.2.2.1
  have L0 : ∀ (n0 : Nat), ∀ (x1 : Int32) (M : zM) (H : Heap) (locs : List Loc) (ls : Array Slot), lv_has ls 2 [(0, .ref (G.2.2.1 0)), (1, .int x1)] → va_P G.1 zcl (zw G shM 23 M) H → va_S (zA G 23 s.heap.size) s.heap H locs → fX6_lays_L0 n0 x1 M = some o → W p l e R s m args below meth c H locs 0 0 Q (F0 m 0 ls []) := by
    intro n0
    induction n0 with
    | zero => intro x1 M H locs ls hl hP hS hf; exact zn_s (show none = some o from hf)
    | succ n0 ih0 =>
      intro x1 M H locs ls hl hP hS hf
      replace hf : fX6_lays_B0 (fX6_lays_L0 n0) x1 M = some o := hf
      unfold fX6_lays_B0 at hf
      refine lv_aload_n hx hb dX6_lays_0 rfl (lv_at hl 0 rfl) ?_
      refine zr_get (C := RX6) (T := TX6) (n := 51) C0 hP 0 (by decide) shM_0 21 rfl (by decide) uw_X6 mw_483 rfl dX6_lays_1 ?_
      refine lv_if_le (tgt := 89) hx hb dX6_lays_4 (by decide) (fun c_1 => ?_) (fun c_1 => ?_)
      · replace hf := zI_t c_1 hf
        exact ze_v C0 hP hS hf dX6_lays_89 hQ
      · replace hf := zI_f c_1 hf
        refine lv_aload_n hx hb dX6_lays_7 rfl (lv_at hl 0 rfl) ?_
        refine zr_getq (C := RX6) (T := TX6) (n := 51) C0 hP 0 (by decide) shM_0 20 9 rfl (by decide) uw_X6 mw_484 rfl dX6_lays_8 ?_
        refine lv_aload_n hx hb dX6_lays_11 rfl (lv_at hl 0 rfl) ?_
        refine zr_get (C := RX6) (T := TX6) (n := 51) C0 hP 0 (by decide) shM_0 21 rfl (by decide) uw_X6 mw_483 rfl dX6_lays_12 ?_
        refine lv_iconst (v := (1 : Int32)) hx hb dX6_lays_15 (by decide) ?_
        refine lv_isub hx hb dX6_lays_16 ?_
        obtain ⟨hg_2, hf⟩ := zG_o hf
        refine zr_iald C0 hP 9 (by decide) shM_9 hg_2 dX6_lays_17 ?_
        obtain ⟨r_5, M_3, hc_4, hf⟩ := zB_o hf
        refine zc_si (As := [.int (M.1 9 ((M.1 0 21) - (1 : Int32)).toNatClampNeg)]) (rest := []) C0 hP hS hl.1 (mtX6_rank l G hJ (M.1 9 ((M.1 0 21) - (1 : Int32)).toNatClampNeg) M _ hc_4) ls_X6_167 ds_X6_rank (by rw [hRm]; exact ⟨Nat.le_of_ble_eq_true rfl, Nat.le_of_ble_eq_true rfl⟩) rfl rfl (Nat.le_of_ble_eq_true rfl) dX6_lays_18 ⟨Nat.zero_le _, Nat.zero_le _⟩ (fun H locs hP hS => ?_)
        refine lv_iload_n hx hb dX6_lays_21 rfl (lv_at hl 1 rfl) ?_
        refine lv_icmp_lt (tgt := 89) hx hb dX6_lays_22 (by decide) (fun c_6 => ?_) (fun c_6 => ?_)
        · replace hf := zI_t c_6 hf
          exact ze_v C0 hP hS hf dX6_lays_89 hQ
        · replace hf := zI_f c_6 hf
          refine lv_aload_n hx hb dX6_lays_25 rfl (lv_at hl 0 rfl) ?_
          refine lv_dup hx hb dX6_lays_26 rfl ?_
          refine zr_get (C := RX6) (T := TX6) (n := 51) C0 hP 0 (by decide) shM_0 21 rfl (by decide) uw_X6 mw_483 rfl dX6_lays_27 ?_
          refine lv_iconst (v := (1 : Int32)) hx hb dX6_lays_30 (by decide) ?_
          refine lv_isub hx hb dX6_lays_31 ?_
          refine zr_put (C := RX6) (T := TX6) (n := 51) C0 hJ hP hS 0 (by decide) shM_0 21 rfl (by decide) uw_X6 tyX6 tyX6_ok nmX6 mw_483 rfl rfl ⟨rfl, rfl⟩ dX6_lays_32 (fun H locs hP hS => ?_)
          obtain ⟨M_7, eM_7, hf⟩ := zL_o hf
          have hP : va_P G.1 zcl (zw G shM 23 M_7) H := by rw [eM_7]; exact hP
          refine lv_aload_n hx hb dX6_lays_35 rfl (lv_at hl 0 rfl) ?_
          refine lv_aload_n hx hb dX6_lays_36 rfl (lv_at hl 0 rfl) ?_
          refine zr_getq (C := RX6) (T := TX6) (n := 51) C0 hP 0 (by decide) shM_0 20 9 rfl (by decide) uw_X6 mw_484 rfl dX6_lays_37 ?_
          refine lv_aload_n hx hb dX6_lays_40 rfl (lv_at hl 0 rfl) ?_
          refine zr_get (C := RX6) (T := TX6) (n := 51) C0 hP 0 (by decide) shM_0 21 rfl (by decide) uw_X6 mw_483 rfl dX6_lays_41 ?_
          obtain ⟨hg_8, hf⟩ := zG_o hf
          refine zr_iald C0 hP 9 (by decide) shM_9 hg_8 dX6_lays_44 ?_
          obtain ⟨M_9, hc_10, hf⟩ := zV_o hf
          refine zc_vv (As := [.int (M_7.1 9 (M_7.1 0 21).toNatClampNeg)]) (rest := []) C0 hP hS hl.1 0 (mtX6_codes l G hJ (M_7.1 9 (M_7.1 0 21).toNatClampNeg) M_7 _ hc_10) lk_X6_77 (by decide) shM_0 (T := TX6) (n' := 51) rfl ds_X6_codes (by rw [hRm]; exact ⟨Nat.le_of_ble_eq_true rfl, Nat.le_of_ble_eq_true rfl⟩) rfl rfl (Nat.le_of_ble_eq_true rfl) dX6_lays_45 ⟨Nat.zero_le _, Nat.zero_le _⟩ (fun H locs hP hS => ?_)
          refine lv_aload_n hx hb dX6_lays_48 rfl (lv_at hl 0 rfl) ?_
          refine zr_getq (C := RX6) (T := TX6) (n := 51) C0 hP 0 (by decide) shM_0 20 9 rfl (by decide) uw_X6 mw_484 rfl dX6_lays_49 ?_
          refine lv_aload_n hx hb dX6_lays_52 rfl (lv_at hl 0 rfl) ?_
          refine zr_get (C := RX6) (T := TX6) (n := 51) C0 hP 0 (by decide) shM_0 21 rfl (by decide) uw_X6 mw_483 rfl dX6_lays_53 ?_
          obtain ⟨hg_11, hf⟩ := zG_o hf
          refine zr_iald C0 hP 9 (by decide) shM_9 hg_11 dX6_lays_56 ?_
          refine lv_bipush (v := (13 : Int32)) hx hb dX6_lays_57 (by decide) ?_
          refine lv_icmp_eq (tgt := 76) hx hb dX6_lays_59 (by decide) (fun c_12 => ?_) (fun c_12 => ?_)
          · replace hf := zI_t c_12 hf
            refine lv_aload_n hx hb dX6_lays_76 rfl (lv_at hl 0 rfl) ?_
            refine lv_dup hx hb dX6_lays_77 rfl ?_
            refine zr_get (C := RX6) (T := TX6) (n := 51) C0 hP 0 (by decide) shM_0 22 rfl (by decide) uw_X6 mw_492 rfl dX6_lays_78 ?_
            refine lv_iconst (v := (1 : Int32)) hx hb dX6_lays_81 (by decide) ?_
            refine lv_isub hx hb dX6_lays_82 ?_
            refine zr_put (C := RX6) (T := TX6) (n := 51) C0 hJ hP hS 0 (by decide) shM_0 22 rfl (by decide) uw_X6 tyX6 tyX6_ok nmX6 mw_492 rfl rfl ⟨rfl, rfl⟩ dX6_lays_83 (fun H locs hP hS => ?_)
            obtain ⟨M_13, eM_13, hf⟩ := zL_o hf
            have hP : va_P G.1 zcl (zw G shM 23 M_13) H := by rw [eM_13]; exact hP
            refine lv_goto (tgt := 0) hx hb dX6_lays_86 (by decide) ?_
            exact ih0 x1 M_13 H locs ls (lv_sub hl [0, 1] rfl) hP hS hf
          · replace hf := zI_f c_12 hf
            refine lv_aload_n hx hb dX6_lays_62 rfl (lv_at hl 0 rfl) ?_
            refine zr_getq (C := RX6) (T := TX6) (n := 51) C0 hP 0 (by decide) shM_0 20 9 rfl (by decide) uw_X6 mw_484 rfl dX6_lays_63 ?_
            refine lv_aload_n hx hb dX6_lays_66 rfl (lv_at hl 0 rfl) ?_
            refine zr_get (C := RX6) (T := TX6) (n := 51) C0 hP 0 (by decide) shM_0 21 rfl (by decide) uw_X6 mw_483 rfl dX6_lays_67 ?_
            obtain ⟨hg_14, hf⟩ := zG_o hf
            refine zr_iald C0 hP 9 (by decide) shM_9 hg_14 dX6_lays_70 ?_
            refine lv_bipush (v := (14 : Int32)) hx hb dX6_lays_71 (by decide) ?_
            refine lv_icmp_ne (tgt := 0) hx hb dX6_lays_73 (by decide) (fun c_15 => ?_) (fun c_15 => ?_)
            · replace hf := zI_f c_15 hf
              exact ih0 x1 M_9 H locs ls (lv_sub hl [0, 1] rfl) hP hS hf
            · replace hf := zI_t c_15 hf
              refine lv_aload_n hx hb dX6_lays_76 rfl (lv_at hl 0 rfl) ?_
              refine lv_dup hx hb dX6_lays_77 rfl ?_
              refine zr_get (C := RX6) (T := TX6) (n := 51) C0 hP 0 (by decide) shM_0 22 rfl (by decide) uw_X6 mw_492 rfl dX6_lays_78 ?_
              refine lv_iconst (v := (1 : Int32)) hx hb dX6_lays_81 (by decide) ?_
              refine lv_isub hx hb dX6_lays_82 ?_
              refine zr_put (C := RX6) (T := TX6) (n := 51) C0 hJ hP hS 0 (by decide) shM_0 22 rfl (by decide) uw_X6 tyX6 tyX6_ok nmX6 mw_492 rfl rfl ⟨rfl, rfl⟩ dX6_lays_83 (fun H locs hP hS => ?_)
              obtain ⟨M_16, eM_16, hf⟩ := zL_o hf
              have hP : va_P G.1 zcl (zw G shM 23 M_16) H := by rw [eM_16]; exact hP
              refine lv_goto (tgt := 0) hx hb dX6_lays_86 (by decide) ?_
              exact ih0 x1 M_16 H locs ls (lv_sub hl [0, 1] rfl) hP hS hf
  unfold fX6_lays at hf
  obtain ⟨H, eH⟩ : ∃ H, H = s.heap := ⟨_, rfl⟩
  obtain ⟨locs, el⟩ : ∃ locs : List Loc, locs = [] := ⟨_, rfl⟩
  rw [← eH] at hP ⊢
  have hS : va_S (zA G 23 s.heap.size) s.heap H locs := by rw [eH, el]; exact hS
  rw [← el]
  exact L0 zF x1 M H locs ls (lv_sub hl [0, 1] rfl) hP hS hf
def fX6_push_J36 (M : zM) : Option (zM) :=
  zL (zu M 0 22 ((M.1 0 22) + (1 : Int32))) fun M_5 =>
  some M_5
def fX6_push (x1 : Int32) (M : zM) : Option (zM) :=
  zL (zu M 0 21 ((M.1 0 21) + (1 : Int32))) fun M_1 =>
  zG (zin (M.1 0 21) 200) <|
  zL (zu M_1 9 (M.1 0 21).toNatClampNeg x1) fun M_3 =>
  if x1 = (13 : Int32) then
    fX6_push_J36 M_3
  else
    if x1 = (14 : Int32) then
      fX6_push_J36 M_3
    else
      zB (fX6_rank x1 M_3) fun r_9 M_7 =>
      if r_9 = (0 : Int32) then
        fX6_push_J36 M_7
      else
        some M_7
set_option maxHeartbeats 4000000 in
set_option maxRecDepth 100000 in
theorem mtX6_push (l : Launch) (G : zGr) (hJ : zJ G 23) (x1 : Int32) (M : zM) (o : zM) (hf : fX6_push x1 M = some o) : zMv l G shM 23 yX6_push cX6_push 2 none 1 20 [.ref (G.2.2.1 0), .int x1] M o := by
  intro sz
  refine zOf (by decide) (Nat.le_of_ble_eq_true rfl) ?_
  intro p e R Q s m args below meth c hRm hsz hQ C0 hP hS ls hl
  subst hsz
  replace hRm : R = { frames := 1, cells := 0, slots := 0, locals := 20 } := hRm
  have hl : lv_has ls 2 [(0, .ref (G.2.2.1 0)), (1, .int x1)] := hl
  have hx := C0.1
  have hb := C0.2.1
  have hown := C0.2.2.2.1
  have hts := C0.2.2.2.2.1
  have J36 : ∀ (M : zM) (H : Heap) (locs : List Loc) (ls : Array Slot), lv_has ls 2 [(0, .ref (G.2.2.1 0))] → va_P G.1 zcl (zw G shM 23 M) H → va_S (zA G 23 s.heap.size) s.heap H locs → fX6_push_J36 M = some o → W p l e R s m args below meth c H locs 0 0 Q (F0 m 36 ls []) := by
    intro M H locs ls hl hP hS hf
    unfold fX6_push_J36 at hf
    refine lv_aload_n hx hb dX6_push_36 rfl (lv_at hl 0 rfl) ?_
    refine lv_dup hx hb dX6_push_37 rfl ?_
    refine zr_get (C := RX6) (T := TX6) (n := 51) C0 hP 0 (by decide) shM_0 22 rfl (by decide) uw_X6 mw_492 rfl dX6_push_38 ?_
    refine lv_iconst (v := (1 : Int32)) hx hb dX6_push_41 (by decide) ?_
    refine lv_iadd hx hb dX6_push_42 ?_
    refine zr_put (C := RX6) (T := TX6) (n := 51) C0 hJ hP hS 0 (by decide) shM_0 22 rfl (by decide) uw_X6 tyX6 tyX6_ok nmX6 mw_492 rfl rfl ⟨rfl, rfl⟩ dX6_push_43 (fun H locs hP hS => ?_)
    obtain ⟨M_5, eM_5, hf⟩ := zL_o hf
    have hP : va_P G.1 zcl (zw G shM 23 M_5) H := by rw [eM_5]; exact hP
    exact ze_v C0 hP hS hf dX6_push_46 hQ
  unfold fX6_push at hf
  obtain ⟨H, eH⟩ : ∃ H, H = s.heap := ⟨_, rfl⟩
  obtain ⟨locs, el⟩ : ∃ locs : List Loc, locs = [] := ⟨_, rfl⟩
  rw [← eH] at hP ⊢
  have hS : va_S (zA G 23 s.heap.size) s.heap H locs := by rw [eH, el]; exact hS
  rw [← el]
  refine lv_aload_n hx hb dX6_push_0 rfl (lv_at hl 0 rfl) ?_
  refine zr_getq (C := RX6) (T := TX6) (n := 51) C0 hP 0 (by decide) shM_0 20 9 rfl (by decide) uw_X6 mw_484 rfl dX6_push_1 ?_
  refine lv_aload_n hx hb dX6_push_4 rfl (lv_at hl 0 rfl) ?_
  refine lv_dup hx hb dX6_push_5 rfl ?_
  refine zr_get (C := RX6) (T := TX6) (n := 51) C0 hP 0 (by decide) shM_0 21 rfl (by decide) uw_X6 mw_483 rfl dX6_push_6 ?_
  refine lv_dup_x1 hx hb dX6_push_9 rfl rfl ?_
  refine lv_iconst (v := (1 : Int32)) hx hb dX6_push_10 (by decide) ?_
  refine lv_iadd hx hb dX6_push_11 ?_
  refine zr_put (C := RX6) (T := TX6) (n := 51) C0 hJ hP hS 0 (by decide) shM_0 21 rfl (by decide) uw_X6 tyX6 tyX6_ok nmX6 mw_483 rfl rfl ⟨rfl, rfl⟩ dX6_push_12 (fun H locs hP hS => ?_)
  obtain ⟨M_1, eM_1, hf⟩ := zL_o hf
  have hP : va_P G.1 zcl (zw G shM 23 M_1) H := by rw [eM_1]; exact hP
  refine lv_iload_n hx hb dX6_push_15 rfl (lv_at hl 1 rfl) ?_
  obtain ⟨hg_2, hf⟩ := zG_o hf
  refine zr_iast C0 hJ hP hS 9 (by decide) shM_9 hg_2 dX6_push_16 (fun H locs hP hS => ?_)
  obtain ⟨M_3, eM_3, hf⟩ := zL_o hf
  have hP : va_P G.1 zcl (zw G shM 23 M_3) H := by rw [eM_3]; exact hP
  refine lv_iload_n hx hb dX6_push_17 rfl (lv_at hl 1 rfl) ?_
  refine lv_bipush (v := (13 : Int32)) hx hb dX6_push_18 (by decide) ?_
  refine lv_icmp_eq (tgt := 36) hx hb dX6_push_20 (by decide) (fun c_4 => ?_) (fun c_4 => ?_)
  · replace hf := zI_t c_4 hf
    exact J36 M_3 H locs ls (lv_sub hl [0] rfl) hP hS hf
  · replace hf := zI_f c_4 hf
    refine lv_iload_n hx hb dX6_push_23 rfl (lv_at hl 1 rfl) ?_
    refine lv_bipush (v := (14 : Int32)) hx hb dX6_push_24 (by decide) ?_
    refine lv_icmp_eq (tgt := 36) hx hb dX6_push_26 (by decide) (fun c_6 => ?_) (fun c_6 => ?_)
    · replace hf := zI_t c_6 hf
      exact J36 M_3 H locs ls (lv_sub hl [0] rfl) hP hS hf
    · replace hf := zI_f c_6 hf
      refine lv_iload_n hx hb dX6_push_29 rfl (lv_at hl 1 rfl) ?_
      obtain ⟨r_9, M_7, hc_8, hf⟩ := zB_o hf
      refine zc_si (As := [.int x1]) (rest := []) C0 hP hS hl.1 (mtX6_rank l G hJ x1 M_3 _ hc_8) ls_X6_167 ds_X6_rank (by rw [hRm]; exact ⟨Nat.le_of_ble_eq_true rfl, Nat.le_of_ble_eq_true rfl⟩) rfl rfl (Nat.le_of_ble_eq_true rfl) dX6_push_30 ⟨Nat.zero_le _, Nat.zero_le _⟩ (fun H locs hP hS => ?_)
      refine lv_if_ne (tgt := 46) hx hb dX6_push_33 (by decide) (fun c_10 => ?_) (fun c_10 => ?_)
      · replace hf := zI_f c_10 hf
        exact ze_v C0 hP hS hf dX6_push_46 hQ
      · replace hf := zI_t c_10 hf
        exact J36 M_7 H locs ls (lv_sub hl [0] rfl) hP hS hf
def fX6_one_J49 (v0 : Int32) (M : zM) : Option (Int32 × zM) :=
  zV (fX6_codes v0 M) fun M_4 =>
  zV (fX6_lays (7 : Int32) M_4) fun M_6 =>
  zL (zu M_6 0 24 (1 : Int32)) fun M_8 =>
  some ((1 : Int32), M_8)
def fX6_one_J175 (M : zM) : Option (Int32 × zM) :=
  if (M.1 0 17) = (45 : Int32) then
    zL (zu M 0 25 (0 : Int32)) fun M_18 =>
    some ((1 : Int32), M_18)
  else
    zL (zu M 0 25 (1 : Int32)) fun M_19 =>
    some ((1 : Int32), M_19)
def fX6_one_J149 (v0 : Int32) (M : zM) : Option (Int32 × zM) :=
  zV (fX6_push v0 M) fun M_23 =>
  zL (zu M_23 0 23 (0 : Int32)) fun M_25 =>
  fX6_one_J175 M_25
def fX6_one_J116 (x3 : Int32) (M : zM) : Option (Int32 × zM) :=
  if (M.1 0 22) = (5 : Int32) then
    some ((0 : Int32), M)
  else
    if (M.1 0 17) = (40 : Int32) then
      if (M.1 0 23) = (0 : Int32) then
        fX6_one_J149 (-1 : Int32) M
      else
        fX6_one_J149 (-2 : Int32) M
    else
      if x3 = (0 : Int32) then
        zV (fX6_push (14 : Int32) M) fun M_15 =>
        fX6_one_J175 M_15
      else
        zV (fX6_push (13 : Int32) M) fun M_20 =>
        fX6_one_J175 M_20
def fX6_one_J93 (v0 : Int32) (M : zM) : Option (Int32 × zM) :=
  if v0 = (0 : Int32) then
    if (M.1 0 17) = (45 : Int32) then
      fX6_one_J116 v0 M
    else
      if (M.1 0 17) = (40 : Int32) then
        fX6_one_J116 v0 M
      else
        some ((0 : Int32), M)
  else
    fX6_one_J116 v0 M
def fX6_one_J17 (x1 : Int32) (v0 : Int32) (M : zM) : Option (Int32 × zM) :=
  if (M.1 0 17) = (48 : Int32) then
    if v0 = (-1 : Int32) then
      fX6_one_J49 ((15 : Int32) + (M.1 0 18)) M
    else
      fX6_one_J49 v0 M
  else
    if v0 = (-1 : Int32) then
      if x1 = (0 : Int32) then
        fX6_one_J93 (0 : Int32) M
      else
        if (M.1 0 17) = (119 : Int32) then
          if (M.1 0 19) = (10631 : Int32) then
            fX6_one_J93 (1 : Int32) M
          else
            fX6_one_J93 (0 : Int32) M
        else
          fX6_one_J93 (0 : Int32) M
    else
      if v0 = (-1 : Int32) then
        fX6_one_J49 ((15 : Int32) + (M.1 0 18)) M
      else
        fX6_one_J49 v0 M
def fX6_one (x1 : Int32) (M : zM) : Option (Int32 × zM) :=
  if (M.1 0 17) = (119 : Int32) then
    zB (fX6_named M) fun r_33 M_31 =>
    fX6_one_J17 x1 r_33 M_31
  else
    fX6_one_J17 x1 (-1 : Int32) M
set_option maxHeartbeats 4000000 in
set_option maxRecDepth 100000 in
theorem mtX6_one (l : Launch) (G : zGr) (hJ : zJ G 23) (x1 : Int32) (M : zM) (o : Int32 × zM) (hf : fX6_one x1 M = some o) : zMi l G shM 23 yX6_one cX6_one 4 (some .boolean) 2 42 [.ref (G.2.2.1 0), .int x1] M o := by
  intro sz
  refine zOf (by decide) (Nat.le_of_ble_eq_true rfl) ?_
  intro p e R Q s m args below meth c hRm hsz hQ C0 hP hS ls hl
  subst hsz
  replace hRm : R = { frames := 2, cells := 0, slots := 0, locals := 42 } := hRm
  have hl : lv_has ls 4 [(0, .ref (G.2.2.1 0)), (1, .int x1)] := hl
  have hx := C0.1
  have hb := C0.2.1
  have hown := C0.2.2.2.1
  have hts := C0.2.2.2.2.1
  have J49 : ∀ (v0 : Int32) (M : zM) (H : Heap) (locs : List Loc) (ls : Array Slot), lv_has ls 4 [(0, .ref (G.2.2.1 0))] → va_P G.1 zcl (zw G shM 23 M) H → va_S (zA G 23 s.heap.size) s.heap H locs → fX6_one_J49 v0 M = some o → W p l e R s m args below meth c H locs 0 0 Q (F0 m 49 ls [.int v0, .ref (G.2.2.1 0)]) := by
    intro v0 M H locs ls hl hP hS hf
    unfold fX6_one_J49 at hf
    obtain ⟨M_4, hc_5, hf⟩ := zV_o hf
    refine zc_vv (As := [.int v0]) (rest := []) C0 hP hS hl.1 0 (mtX6_codes l G hJ v0 M _ hc_5) lk_X6_77 (by decide) shM_0 (T := TX6) (n' := 51) rfl ds_X6_codes (by rw [hRm]; exact ⟨Nat.le_of_ble_eq_true rfl, Nat.le_of_ble_eq_true rfl⟩) rfl rfl (Nat.le_of_ble_eq_true rfl) dX6_one_49 ⟨Nat.zero_le _, Nat.zero_le _⟩ (fun H locs hP hS => ?_)
    refine lv_aload_n hx hb dX6_one_52 rfl (lv_at hl 0 rfl) ?_
    refine lv_bipush (v := (7 : Int32)) hx hb dX6_one_53 (by decide) ?_
    obtain ⟨M_6, hc_7, hf⟩ := zV_o hf
    refine zc_vv (As := [.int (7 : Int32)]) (rest := []) C0 hP hS hl.1 0 (mtX6_lays l G hJ (7 : Int32) M_4 _ hc_7) lk_X6_173 (by decide) shM_0 (T := TX6) (n' := 51) rfl ds_X6_lays (by rw [hRm]; exact ⟨Nat.le_of_ble_eq_true rfl, Nat.le_of_ble_eq_true rfl⟩) rfl rfl (Nat.le_of_ble_eq_true rfl) dX6_one_55 ⟨Nat.zero_le _, Nat.zero_le _⟩ (fun H locs hP hS => ?_)
    refine lv_aload_n hx hb dX6_one_58 rfl (lv_at hl 0 rfl) ?_
    refine lv_iconst (v := (1 : Int32)) hx hb dX6_one_59 (by decide) ?_
    refine zr_put (C := RX6) (T := TX6) (n := 51) C0 hJ hP hS 0 (by decide) shM_0 24 rfl (by decide) uw_X6 tyX6 tyX6_ok nmX6 mw_497 rfl rfl (zbo_i (by decide)) dX6_one_60 (fun H locs hP hS => ?_)
    obtain ⟨M_8, eM_8, hf⟩ := zL_o hf
    have hP : va_P G.1 zcl (zw G shM 23 M_8) H := by rw [eM_8]; exact hP
    refine lv_iconst (v := (1 : Int32)) hx hb dX6_one_63 (by decide) ?_
    exact ze_z C0 hP hS (by decide) hf dX6_one_64 hQ
  have J175 : ∀ (M : zM) (H : Heap) (locs : List Loc) (ls : Array Slot), lv_has ls 4 [(0, .ref (G.2.2.1 0))] → va_P G.1 zcl (zw G shM 23 M) H → va_S (zA G 23 s.heap.size) s.heap H locs → fX6_one_J175 M = some o → W p l e R s m args below meth c H locs 0 0 Q (F0 m 175 ls []) := by
    intro M H locs ls hl hP hS hf
    unfold fX6_one_J175 at hf
    refine lv_aload_n hx hb dX6_one_175 rfl (lv_at hl 0 rfl) ?_
    refine lv_aload_n hx hb dX6_one_176 rfl (lv_at hl 0 rfl) ?_
    refine zr_get (C := RX6) (T := TX6) (n := 51) C0 hP 0 (by decide) shM_0 17 rfl (by decide) uw_X6 mw_468 rfl dX6_one_177 ?_
    refine lv_bipush (v := (45 : Int32)) hx hb dX6_one_180 (by decide) ?_
    refine lv_icmp_eq (tgt := 189) hx hb dX6_one_182 (by decide) (fun c_17 => ?_) (fun c_17 => ?_)
    · replace hf := zI_t c_17 hf
      refine lv_iconst (v := (0 : Int32)) hx hb dX6_one_189 (by decide) ?_
      refine zr_put (C := RX6) (T := TX6) (n := 51) C0 hJ hP hS 0 (by decide) shM_0 25 rfl (by decide) uw_X6 tyX6 tyX6_ok nmX6 mw_502 rfl rfl (zbo_i (by decide)) dX6_one_190 (fun H locs hP hS => ?_)
      obtain ⟨M_18, eM_18, hf⟩ := zL_o hf
      have hP : va_P G.1 zcl (zw G shM 23 M_18) H := by rw [eM_18]; exact hP
      refine lv_iconst (v := (1 : Int32)) hx hb dX6_one_193 (by decide) ?_
      exact ze_z C0 hP hS (by decide) hf dX6_one_194 hQ
    · replace hf := zI_f c_17 hf
      refine lv_iconst (v := (1 : Int32)) hx hb dX6_one_185 (by decide) ?_
      refine lv_goto (tgt := 190) hx hb dX6_one_186 (by decide) ?_
      refine zr_put (C := RX6) (T := TX6) (n := 51) C0 hJ hP hS 0 (by decide) shM_0 25 rfl (by decide) uw_X6 tyX6 tyX6_ok nmX6 mw_502 rfl rfl (zbo_i (by decide)) dX6_one_190 (fun H locs hP hS => ?_)
      obtain ⟨M_19, eM_19, hf⟩ := zL_o hf
      have hP : va_P G.1 zcl (zw G shM 23 M_19) H := by rw [eM_19]; exact hP
      refine lv_iconst (v := (1 : Int32)) hx hb dX6_one_193 (by decide) ?_
      exact ze_z C0 hP hS (by decide) hf dX6_one_194 hQ
  have J149 : ∀ (v0 : Int32) (M : zM) (H : Heap) (locs : List Loc) (ls : Array Slot), lv_has ls 4 [(0, .ref (G.2.2.1 0))] → va_P G.1 zcl (zw G shM 23 M) H → va_S (zA G 23 s.heap.size) s.heap H locs → fX6_one_J149 v0 M = some o → W p l e R s m args below meth c H locs 0 0 Q (F0 m 149 ls [.int v0, .ref (G.2.2.1 0)]) := by
    intro v0 M H locs ls hl hP hS hf
    unfold fX6_one_J149 at hf
    obtain ⟨M_23, hc_24, hf⟩ := zV_o hf
    refine zc_vv (As := [.int v0]) (rest := []) C0 hP hS hl.1 0 (mtX6_push l G hJ v0 M _ hc_24) lk_X6_183 (by decide) shM_0 (T := TX6) (n' := 51) rfl ds_X6_push (by rw [hRm]; exact ⟨Nat.le_of_ble_eq_true rfl, Nat.le_of_ble_eq_true rfl⟩) rfl rfl (Nat.le_of_ble_eq_true rfl) dX6_one_149 ⟨Nat.zero_le _, Nat.zero_le _⟩ (fun H locs hP hS => ?_)
    refine lv_aload_n hx hb dX6_one_152 rfl (lv_at hl 0 rfl) ?_
    refine lv_iconst (v := (0 : Int32)) hx hb dX6_one_153 (by decide) ?_
    refine zr_put (C := RX6) (T := TX6) (n := 51) C0 hJ hP hS 0 (by decide) shM_0 23 rfl (by decide) uw_X6 tyX6 tyX6_ok nmX6 mw_503 rfl rfl (zbo_i (by decide)) dX6_one_154 (fun H locs hP hS => ?_)
    obtain ⟨M_25, eM_25, hf⟩ := zL_o hf
    have hP : va_P G.1 zcl (zw G shM 23 M_25) H := by rw [eM_25]; exact hP
    refine lv_goto (tgt := 175) hx hb dX6_one_157 (by decide) ?_
    exact J175 M_25 H locs ls (lv_sub hl [0] rfl) hP hS hf
  have J116 : ∀ (x3 : Int32) (M : zM) (H : Heap) (locs : List Loc) (ls : Array Slot), lv_has ls 4 [(0, .ref (G.2.2.1 0)), (3, .int x3)] → va_P G.1 zcl (zw G shM 23 M) H → va_S (zA G 23 s.heap.size) s.heap H locs → fX6_one_J116 x3 M = some o → W p l e R s m args below meth c H locs 0 0 Q (F0 m 116 ls []) := by
    intro x3 M H locs ls hl hP hS hf
    unfold fX6_one_J116 at hf
    refine lv_aload_n hx hb dX6_one_116 rfl (lv_at hl 0 rfl) ?_
    refine zr_get (C := RX6) (T := TX6) (n := 51) C0 hP 0 (by decide) shM_0 22 rfl (by decide) uw_X6 mw_492 rfl dX6_one_117 ?_
    refine lv_iconst (v := (5 : Int32)) hx hb dX6_one_120 (by decide) ?_
    refine lv_icmp_ne (tgt := 126) hx hb dX6_one_121 (by decide) (fun c_12 => ?_) (fun c_12 => ?_)
    · replace hf := zI_f c_12 hf
      refine lv_aload_n hx hb dX6_one_126 rfl (lv_at hl 0 rfl) ?_
      refine zr_get (C := RX6) (T := TX6) (n := 51) C0 hP 0 (by decide) shM_0 17 rfl (by decide) uw_X6 mw_468 rfl dX6_one_127 ?_
      refine lv_bipush (v := (40 : Int32)) hx hb dX6_one_130 (by decide) ?_
      refine lv_icmp_ne (tgt := 160) hx hb dX6_one_132 (by decide) (fun c_13 => ?_) (fun c_13 => ?_)
      · replace hf := zI_f c_13 hf
        refine lv_aload_n hx hb dX6_one_160 rfl (lv_at hl 0 rfl) ?_
        refine lv_iload_n hx hb dX6_one_161 rfl (lv_at hl 1 rfl) ?_
        refine lv_if_eq (tgt := 170) hx hb dX6_one_162 (by decide) (fun c_14 => ?_) (fun c_14 => ?_)
        · replace hf := zI_t c_14 hf
          refine lv_bipush (v := (14 : Int32)) hx hb dX6_one_170 (by decide) ?_
          obtain ⟨M_15, hc_16, hf⟩ := zV_o hf
          refine zc_vv (As := [.int (14 : Int32)]) (rest := []) C0 hP hS hl.1 0 (mtX6_push l G hJ (14 : Int32) M _ hc_16) lk_X6_183 (by decide) shM_0 (T := TX6) (n' := 51) rfl ds_X6_push (by rw [hRm]; exact ⟨Nat.le_of_ble_eq_true rfl, Nat.le_of_ble_eq_true rfl⟩) rfl rfl (Nat.le_of_ble_eq_true rfl) dX6_one_172 ⟨Nat.zero_le _, Nat.zero_le _⟩ (fun H locs hP hS => ?_)
          exact J175 M_15 H locs ls (lv_sub hl [0] rfl) hP hS hf
        · replace hf := zI_f c_14 hf
          refine lv_bipush (v := (13 : Int32)) hx hb dX6_one_165 (by decide) ?_
          refine lv_goto (tgt := 172) hx hb dX6_one_167 (by decide) ?_
          obtain ⟨M_20, hc_21, hf⟩ := zV_o hf
          refine zc_vv (As := [.int (13 : Int32)]) (rest := []) C0 hP hS hl.1 0 (mtX6_push l G hJ (13 : Int32) M _ hc_21) lk_X6_183 (by decide) shM_0 (T := TX6) (n' := 51) rfl ds_X6_push (by rw [hRm]; exact ⟨Nat.le_of_ble_eq_true rfl, Nat.le_of_ble_eq_true rfl⟩) rfl rfl (Nat.le_of_ble_eq_true rfl) dX6_one_172 ⟨Nat.zero_le _, Nat.zero_le _⟩ (fun H locs hP hS => ?_)
          exact J175 M_20 H locs ls (lv_sub hl [0] rfl) hP hS hf
      · replace hf := zI_t c_13 hf
        refine lv_aload_n hx hb dX6_one_135 rfl (lv_at hl 0 rfl) ?_
        refine lv_aload_n hx hb dX6_one_136 rfl (lv_at hl 0 rfl) ?_
        refine zr_get (C := RX6) (T := TX6) (n := 51) C0 hP 0 (by decide) shM_0 23 rfl (by decide) uw_X6 mw_503 rfl dX6_one_137 ?_
        refine lv_if_eq (tgt := 148) hx hb dX6_one_140 (by decide) (fun c_22 => ?_) (fun c_22 => ?_)
        · replace hf := zI_t c_22 hf
          refine lv_iconst (v := (-1 : Int32)) hx hb dX6_one_148 (by decide) ?_
          exact J149 (-1 : Int32) M H locs ls (lv_sub hl [0] rfl) hP hS hf
        · replace hf := zI_f c_22 hf
          refine lv_bipush (v := (-2 : Int32)) hx hb dX6_one_143 (by decide) ?_
          refine lv_goto (tgt := 149) hx hb dX6_one_145 (by decide) ?_
          exact J149 (-2 : Int32) M H locs ls (lv_sub hl [0] rfl) hP hS hf
    · replace hf := zI_t c_12 hf
      refine lv_iconst (v := (0 : Int32)) hx hb dX6_one_124 (by decide) ?_
      exact ze_z C0 hP hS (by decide) hf dX6_one_125 hQ
  have J93 : ∀ (v0 : Int32) (M : zM) (H : Heap) (locs : List Loc) (ls : Array Slot), lv_has ls 4 [(0, .ref (G.2.2.1 0))] → va_P G.1 zcl (zw G shM 23 M) H → va_S (zA G 23 s.heap.size) s.heap H locs → fX6_one_J93 v0 M = some o → W p l e R s m args below meth c H locs 0 0 Q (F0 m 93 ls [.int v0]) := by
    intro v0 M H locs ls hl hP hS hf
    unfold fX6_one_J93 at hf
    refine lv_istore_n (lv' := [(3, .int v0), (0, .ref (G.2.2.1 0))]) hx hb dX6_one_93 rfl hl (by decide) rfl (fun ls hl => ?_)
    refine lv_iload_n hx hb dX6_one_94 rfl (lv_at hl 0 rfl) ?_
    refine lv_if_ne (tgt := 116) hx hb dX6_one_95 (by decide) (fun c_11 => ?_) (fun c_11 => ?_)
    · replace hf := zI_f c_11 hf
      exact J116 v0 M H locs ls (lv_sub hl [1, 0] rfl) hP hS hf
    · replace hf := zI_t c_11 hf
      refine lv_aload_n hx hb dX6_one_98 rfl (lv_at hl 1 rfl) ?_
      refine zr_get (C := RX6) (T := TX6) (n := 51) C0 hP 0 (by decide) shM_0 17 rfl (by decide) uw_X6 mw_468 rfl dX6_one_99 ?_
      refine lv_bipush (v := (45 : Int32)) hx hb dX6_one_102 (by decide) ?_
      refine lv_icmp_eq (tgt := 116) hx hb dX6_one_104 (by decide) (fun c_26 => ?_) (fun c_26 => ?_)
      · replace hf := zI_t c_26 hf
        exact J116 v0 M H locs ls (lv_sub hl [1, 0] rfl) hP hS hf
      · replace hf := zI_f c_26 hf
        refine lv_aload_n hx hb dX6_one_107 rfl (lv_at hl 1 rfl) ?_
        refine zr_get (C := RX6) (T := TX6) (n := 51) C0 hP 0 (by decide) shM_0 17 rfl (by decide) uw_X6 mw_468 rfl dX6_one_108 ?_
        refine lv_bipush (v := (40 : Int32)) hx hb dX6_one_111 (by decide) ?_
        refine lv_icmp_ne (tgt := 124) hx hb dX6_one_113 (by decide) (fun c_27 => ?_) (fun c_27 => ?_)
        · replace hf := zI_f c_27 hf
          refine lv_iconst (v := (0 : Int32)) hx hb dX6_one_124 (by decide) ?_
          exact ze_z C0 hP hS (by decide) hf dX6_one_125 hQ
        · replace hf := zI_t c_27 hf
          exact J116 v0 M H locs ls (lv_sub hl [1, 0] rfl) hP hS hf
  have J17 : ∀ (x1 : Int32) (v0 : Int32) (M : zM) (H : Heap) (locs : List Loc) (ls : Array Slot), lv_has ls 4 [(0, .ref (G.2.2.1 0)), (1, .int x1)] → va_P G.1 zcl (zw G shM 23 M) H → va_S (zA G 23 s.heap.size) s.heap H locs → fX6_one_J17 x1 v0 M = some o → W p l e R s m args below meth c H locs 0 0 Q (F0 m 17 ls [.int v0]) := by
    intro x1 v0 M H locs ls hl hP hS hf
    unfold fX6_one_J17 at hf
    refine lv_istore_n (lv' := [(2, .int v0), (0, .ref (G.2.2.1 0)), (1, .int x1)]) hx hb dX6_one_17 rfl hl (by decide) rfl (fun ls hl => ?_)
    refine lv_aload_n hx hb dX6_one_18 rfl (lv_at hl 1 rfl) ?_
    refine zr_get (C := RX6) (T := TX6) (n := 51) C0 hP 0 (by decide) shM_0 17 rfl (by decide) uw_X6 mw_468 rfl dX6_one_19 ?_
    refine lv_bipush (v := (48 : Int32)) hx hb dX6_one_22 (by decide) ?_
    refine lv_icmp_eq (tgt := 32) hx hb dX6_one_24 (by decide) (fun c_2 => ?_) (fun c_2 => ?_)
    · replace hf := zI_t c_2 hf
      refine lv_aload_n hx hb dX6_one_32 rfl (lv_at hl 1 rfl) ?_
      refine lv_iload_n hx hb dX6_one_33 rfl (lv_at hl 0 rfl) ?_
      refine lv_iconst (v := (-1 : Int32)) hx hb dX6_one_34 (by decide) ?_
      refine lv_icmp_ne (tgt := 48) hx hb dX6_one_35 (by decide) (fun c_3 => ?_) (fun c_3 => ?_)
      · replace hf := zI_f c_3 hf
        refine lv_iload_n hx hb dX6_one_48 rfl (lv_at hl 0 rfl) ?_
        exact J49 v0 M H locs ls (lv_sub hl [1] rfl) hP hS hf
      · replace hf := zI_t c_3 hf
        refine lv_bipush (v := (15 : Int32)) hx hb dX6_one_38 (by decide) ?_
        refine lv_aload_n hx hb dX6_one_40 rfl (lv_at hl 1 rfl) ?_
        refine zr_get (C := RX6) (T := TX6) (n := 51) C0 hP 0 (by decide) shM_0 18 rfl (by decide) uw_X6 mw_469 rfl dX6_one_41 ?_
        refine lv_iadd hx hb dX6_one_44 ?_
        refine lv_goto (tgt := 49) hx hb dX6_one_45 (by decide) ?_
        exact J49 ((15 : Int32) + (M.1 0 18)) M H locs ls (lv_sub hl [1] rfl) hP hS hf
    · replace hf := zI_f c_2 hf
      refine lv_iload_n hx hb dX6_one_27 rfl (lv_at hl 0 rfl) ?_
      refine lv_iconst (v := (-1 : Int32)) hx hb dX6_one_28 (by decide) ?_
      refine lv_icmp_eq (tgt := 65) hx hb dX6_one_29 (by decide) (fun c_9 => ?_) (fun c_9 => ?_)
      · replace hf := zI_t c_9 hf
        refine lv_iload_n hx hb dX6_one_65 rfl (lv_at hl 2 rfl) ?_
        refine lv_if_eq (tgt := 92) hx hb dX6_one_66 (by decide) (fun c_10 => ?_) (fun c_10 => ?_)
        · replace hf := zI_t c_10 hf
          refine lv_iconst (v := (0 : Int32)) hx hb dX6_one_92 (by decide) ?_
          exact J93 (0 : Int32) M H locs ls (lv_sub hl [1] rfl) hP hS hf
        · replace hf := zI_f c_10 hf
          refine lv_aload_n hx hb dX6_one_69 rfl (lv_at hl 1 rfl) ?_
          refine zr_get (C := RX6) (T := TX6) (n := 51) C0 hP 0 (by decide) shM_0 17 rfl (by decide) uw_X6 mw_468 rfl dX6_one_70 ?_
          refine lv_bipush (v := (119 : Int32)) hx hb dX6_one_73 (by decide) ?_
          refine lv_icmp_ne (tgt := 92) hx hb dX6_one_75 (by decide) (fun c_28 => ?_) (fun c_28 => ?_)
          · replace hf := zI_f c_28 hf
            refine lv_iconst (v := (0 : Int32)) hx hb dX6_one_92 (by decide) ?_
            exact J93 (0 : Int32) M H locs ls (lv_sub hl [1] rfl) hP hS hf
          · replace hf := zI_t c_28 hf
            refine lv_aload_n hx hb dX6_one_78 rfl (lv_at hl 1 rfl) ?_
            refine zr_get (C := RX6) (T := TX6) (n := 51) C0 hP 0 (by decide) shM_0 19 rfl (by decide) uw_X6 mw_456 rfl dX6_one_79 ?_
            refine lv_sipush (v := (10631 : Int32)) hx hb dX6_one_82 (by decide) ?_
            refine lv_icmp_ne (tgt := 92) hx hb dX6_one_85 (by decide) (fun c_29 => ?_) (fun c_29 => ?_)
            · replace hf := zI_f c_29 hf
              refine lv_iconst (v := (0 : Int32)) hx hb dX6_one_92 (by decide) ?_
              exact J93 (0 : Int32) M H locs ls (lv_sub hl [1] rfl) hP hS hf
            · replace hf := zI_t c_29 hf
              refine lv_iconst (v := (1 : Int32)) hx hb dX6_one_88 (by decide) ?_
              refine lv_goto (tgt := 93) hx hb dX6_one_89 (by decide) ?_
              exact J93 (1 : Int32) M H locs ls (lv_sub hl [1] rfl) hP hS hf
      · replace hf := zI_f c_9 hf
        refine lv_aload_n hx hb dX6_one_32 rfl (lv_at hl 1 rfl) ?_
        refine lv_iload_n hx hb dX6_one_33 rfl (lv_at hl 0 rfl) ?_
        refine lv_iconst (v := (-1 : Int32)) hx hb dX6_one_34 (by decide) ?_
        refine lv_icmp_ne (tgt := 48) hx hb dX6_one_35 (by decide) (fun c_30 => ?_) (fun c_30 => ?_)
        · replace hf := zI_f c_30 hf
          refine lv_iload_n hx hb dX6_one_48 rfl (lv_at hl 0 rfl) ?_
          exact J49 v0 M H locs ls (lv_sub hl [1] rfl) hP hS hf
        · replace hf := zI_t c_30 hf
          refine lv_bipush (v := (15 : Int32)) hx hb dX6_one_38 (by decide) ?_
          refine lv_aload_n hx hb dX6_one_40 rfl (lv_at hl 1 rfl) ?_
          refine zr_get (C := RX6) (T := TX6) (n := 51) C0 hP 0 (by decide) shM_0 18 rfl (by decide) uw_X6 mw_469 rfl dX6_one_41 ?_
          refine lv_iadd hx hb dX6_one_44 ?_
          refine lv_goto (tgt := 49) hx hb dX6_one_45 (by decide) ?_
          exact J49 ((15 : Int32) + (M.1 0 18)) M H locs ls (lv_sub hl [1] rfl) hP hS hf
  unfold fX6_one at hf
  obtain ⟨H, eH⟩ : ∃ H, H = s.heap := ⟨_, rfl⟩
  obtain ⟨locs, el⟩ : ∃ locs : List Loc, locs = [] := ⟨_, rfl⟩
  rw [← eH] at hP ⊢
  have hS : va_S (zA G 23 s.heap.size) s.heap H locs := by rw [eH, el]; exact hS
  rw [← el]
  refine lv_aload_n hx hb dX6_one_0 rfl (lv_at hl 0 rfl) ?_
  refine zr_get (C := RX6) (T := TX6) (n := 51) C0 hP 0 (by decide) shM_0 17 rfl (by decide) uw_X6 mw_468 rfl dX6_one_1 ?_
  refine lv_bipush (v := (119 : Int32)) hx hb dX6_one_4 (by decide) ?_
  refine lv_icmp_ne (tgt := 16) hx hb dX6_one_6 (by decide) (fun c_1 => ?_) (fun c_1 => ?_)
  · replace hf := zI_f c_1 hf
    refine lv_iconst (v := (-1 : Int32)) hx hb dX6_one_16 (by decide) ?_
    exact J17 x1 (-1 : Int32) M H locs ls (lv_sub hl [0, 1] rfl) hP hS hf
  · replace hf := zI_t c_1 hf
    refine lv_aload_n hx hb dX6_one_9 rfl (lv_at hl 0 rfl) ?_
    obtain ⟨r_33, M_31, hc_32, hf⟩ := zB_o hf
    refine zc_vi (As := []) (rest := []) C0 hP hS hl.1 0 (mtX6_named l G hJ M _ hc_32) lk_X6_141 (by decide) shM_0 (T := TX6) (n' := 51) rfl ds_X6_named (by rw [hRm]; exact ⟨Nat.le_of_ble_eq_true rfl, Nat.le_of_ble_eq_true rfl⟩) rfl rfl (Nat.le_of_ble_eq_true rfl) dX6_one_10 ⟨Nat.zero_le _, Nat.zero_le _⟩ (fun H locs hP hS => ?_)
    refine lv_goto (tgt := 17) hx hb dX6_one_13 (by decide) ?_
    exact J17 x1 r_33 M_31 H locs ls (lv_sub hl [0, 1] rfl) hP hS hf
def fX6_signed (M : zM) : Option (Int32 × zM) :=
  if (M.1 0 17) = (42 : Int32) then
    some ((8 : Int32), M)
  else
    if (M.1 0 17) = (43 : Int32) then
      some ((6 : Int32), M)
    else
      if (M.1 0 17) = (45 : Int32) then
        some ((7 : Int32), M)
      else
        if (M.1 0 17) = (60 : Int32) then
          if (M.1 0 23) = (0 : Int32) then
            some ((9 : Int32), M)
          else
            some ((-1 : Int32), M)
        else
          if (M.1 0 17) = (61 : Int32) then
            if (M.1 0 23) = (0 : Int32) then
              some ((10 : Int32), M)
            else
              some ((-1 : Int32), M)
          else
            if (M.1 0 17) = (119 : Int32) then
              if (M.1 0 19) = (1111 : Int32) then
                some ((11 : Int32), M)
              else
                if (M.1 0 19) = (423 : Int32) then
                  some ((12 : Int32), M)
                else
                  some ((-1 : Int32), M)
            else
              some ((-1 : Int32), M)
set_option maxHeartbeats 4000000 in
set_option maxRecDepth 100000 in
theorem mtX6_signed (l : Launch) (G : zGr) (hJ : zJ G 23) (M : zM) (o : Int32 × zM) (hf : fX6_signed M = some o) : zMi l G shM 23 yX6_signed cX6_signed 1 (some .int) 0 0 [.ref (G.2.2.1 0)] M o := by
  intro sz
  refine zOf (by decide) (Nat.le_of_ble_eq_true rfl) ?_
  intro p e R Q s m args below meth c hRm hsz hQ C0 hP hS ls hl
  subst hsz
  replace hRm : R = { frames := 0, cells := 0, slots := 0, locals := 0 } := hRm
  have hl : lv_has ls 1 [(0, .ref (G.2.2.1 0))] := hl
  have hx := C0.1
  have hb := C0.2.1
  have hown := C0.2.2.2.1
  have hts := C0.2.2.2.2.1
  unfold fX6_signed at hf
  obtain ⟨H, eH⟩ : ∃ H, H = s.heap := ⟨_, rfl⟩
  obtain ⟨locs, el⟩ : ∃ locs : List Loc, locs = [] := ⟨_, rfl⟩
  rw [← eH] at hP ⊢
  have hS : va_S (zA G 23 s.heap.size) s.heap H locs := by rw [eH, el]; exact hS
  rw [← el]
  refine lv_aload_n hx hb dX6_signed_0 rfl (lv_at hl 0 rfl) ?_
  refine zr_get (C := RX6) (T := TX6) (n := 51) C0 hP 0 (by decide) shM_0 17 rfl (by decide) uw_X6 mw_468 rfl dX6_signed_1 ?_
  refine if c_1 : (M.1 0 17) = (42 : Int32) then ?_ else ?_
  · replace hf := zI_t c_1 hf
    refine lv_lookup (tgt := 64) hx hb dX6_signed_4 (by decide) (off := 60) (by rw [c_1]; decide) (by decide) ?_
    refine lv_bipush (v := (8 : Int32)) hx hb dX6_signed_64 (by decide) ?_
    exact ze_i C0 hP hS hf dX6_signed_66 hQ
  · replace hf := zI_f c_1 hf
    refine if c_2 : (M.1 0 17) = (43 : Int32) then ?_ else ?_
    · replace hf := zI_t c_2 hf
      refine lv_lookup (tgt := 67) hx hb dX6_signed_4 (by decide) (off := 63) (by rw [c_2]; decide) (by decide) ?_
      refine lv_bipush (v := (6 : Int32)) hx hb dX6_signed_67 (by decide) ?_
      exact ze_i C0 hP hS hf dX6_signed_69 hQ
    · replace hf := zI_f c_2 hf
      refine if c_3 : (M.1 0 17) = (45 : Int32) then ?_ else ?_
      · replace hf := zI_t c_3 hf
        refine lv_lookup (tgt := 70) hx hb dX6_signed_4 (by decide) (off := 66) (by rw [c_3]; decide) (by decide) ?_
        refine lv_bipush (v := (7 : Int32)) hx hb dX6_signed_70 (by decide) ?_
        exact ze_i C0 hP hS hf dX6_signed_72 hQ
      · replace hf := zI_f c_3 hf
        refine if c_4 : (M.1 0 17) = (60 : Int32) then ?_ else ?_
        · replace hf := zI_t c_4 hf
          refine lv_lookup (tgt := 73) hx hb dX6_signed_4 (by decide) (off := 69) (by rw [c_4]; decide) (by decide) ?_
          refine lv_aload_n hx hb dX6_signed_73 rfl (lv_at hl 0 rfl) ?_
          refine zr_get (C := RX6) (T := TX6) (n := 51) C0 hP 0 (by decide) shM_0 23 rfl (by decide) uw_X6 mw_503 rfl dX6_signed_74 ?_
          refine lv_if_eq (tgt := 84) hx hb dX6_signed_77 (by decide) (fun c_5 => ?_) (fun c_5 => ?_)
          · replace hf := zI_t c_5 hf
            refine lv_bipush (v := (9 : Int32)) hx hb dX6_signed_84 (by decide) ?_
            exact ze_i C0 hP hS hf dX6_signed_86 hQ
          · replace hf := zI_f c_5 hf
            refine lv_iconst (v := (-1 : Int32)) hx hb dX6_signed_80 (by decide) ?_
            refine lv_goto (tgt := 86) hx hb dX6_signed_81 (by decide) ?_
            exact ze_i C0 hP hS hf dX6_signed_86 hQ
        · replace hf := zI_f c_4 hf
          refine if c_6 : (M.1 0 17) = (61 : Int32) then ?_ else ?_
          · replace hf := zI_t c_6 hf
            refine lv_lookup (tgt := 87) hx hb dX6_signed_4 (by decide) (off := 83) (by rw [c_6]; decide) (by decide) ?_
            refine lv_aload_n hx hb dX6_signed_87 rfl (lv_at hl 0 rfl) ?_
            refine zr_get (C := RX6) (T := TX6) (n := 51) C0 hP 0 (by decide) shM_0 23 rfl (by decide) uw_X6 mw_503 rfl dX6_signed_88 ?_
            refine lv_if_eq (tgt := 98) hx hb dX6_signed_91 (by decide) (fun c_7 => ?_) (fun c_7 => ?_)
            · replace hf := zI_t c_7 hf
              refine lv_bipush (v := (10 : Int32)) hx hb dX6_signed_98 (by decide) ?_
              exact ze_i C0 hP hS hf dX6_signed_100 hQ
            · replace hf := zI_f c_7 hf
              refine lv_iconst (v := (-1 : Int32)) hx hb dX6_signed_94 (by decide) ?_
              refine lv_goto (tgt := 100) hx hb dX6_signed_95 (by decide) ?_
              exact ze_i C0 hP hS hf dX6_signed_100 hQ
          · replace hf := zI_f c_6 hf
            refine if c_8 : (M.1 0 17) = (119 : Int32) then ?_ else ?_
            · replace hf := zI_t c_8 hf
              refine lv_lookup (tgt := 101) hx hb dX6_signed_4 (by decide) (off := 97) (by rw [c_8]; decide) (by decide) ?_
              refine lv_aload_n hx hb dX6_signed_101 rfl (lv_at hl 0 rfl) ?_
              refine zr_get (C := RX6) (T := TX6) (n := 51) C0 hP 0 (by decide) shM_0 19 rfl (by decide) uw_X6 mw_456 rfl dX6_signed_102 ?_
              refine lv_sipush (v := (1111 : Int32)) hx hb dX6_signed_105 (by decide) ?_
              refine lv_icmp_ne (tgt := 116) hx hb dX6_signed_108 (by decide) (fun c_9 => ?_) (fun c_9 => ?_)
              · replace hf := zI_f c_9 hf
                refine lv_aload_n hx hb dX6_signed_116 rfl (lv_at hl 0 rfl) ?_
                refine zr_get (C := RX6) (T := TX6) (n := 51) C0 hP 0 (by decide) shM_0 19 rfl (by decide) uw_X6 mw_456 rfl dX6_signed_117 ?_
                refine lv_sipush (v := (423 : Int32)) hx hb dX6_signed_120 (by decide) ?_
                refine lv_icmp_ne (tgt := 131) hx hb dX6_signed_123 (by decide) (fun c_10 => ?_) (fun c_10 => ?_)
                · replace hf := zI_f c_10 hf
                  refine lv_iconst (v := (-1 : Int32)) hx hb dX6_signed_131 (by decide) ?_
                  exact ze_i C0 hP hS hf dX6_signed_132 hQ
                · replace hf := zI_t c_10 hf
                  refine lv_bipush (v := (12 : Int32)) hx hb dX6_signed_126 (by decide) ?_
                  refine lv_goto (tgt := 132) hx hb dX6_signed_128 (by decide) ?_
                  exact ze_i C0 hP hS hf dX6_signed_132 hQ
              · replace hf := zI_t c_9 hf
                refine lv_bipush (v := (11 : Int32)) hx hb dX6_signed_111 (by decide) ?_
                refine lv_goto (tgt := 132) hx hb dX6_signed_113 (by decide) ?_
                exact ze_i C0 hP hS hf dX6_signed_132 hQ
            · replace hf := zI_f c_8 hf
              refine lv_lookup (tgt := 133) hx hb dX6_signed_4 (by decide) (off := 129) (by show Op.lookupswitch.offset [(42, 60), (43, 63), (45, 66), (60, 69), (61, 83), (119, 97)] _ _ = _; rw [lv_osw c_1 (by decide), lv_osw c_2 (by decide), lv_osw c_3 (by decide), lv_osw c_4 (by decide), lv_osw c_6 (by decide), lv_osw c_8 (by decide)]; rfl) (by decide) ?_
              refine lv_iconst (v := (-1 : Int32)) hx hb dX6_signed_133 (by decide) ?_
              exact ze_i C0 hP hS hf dX6_signed_134 hQ
def fX6_closes_J44 (v0 : Int32) (M : zM) : Option (Int32 × zM) :=
  zG (zbo v0) <|
  zL (zu M 0 23 v0) fun M_8 =>
  zL (zu M_8 0 22 ((M_8.1 0 22) - (1 : Int32))) fun M_9 =>
  zV (fX6_lays (7 : Int32) M_9) fun M_10 =>
  some ((1 : Int32), M_10)
def fX6_closes (M : zM) : Option (Int32 × zM) :=
  zV (fX6_lays (1 : Int32) M) fun M_1 =>
  if (M_1.1 0 21) = (0 : Int32) then
    some ((0 : Int32), M_1)
  else
    zL (zu M_1 0 21 ((M_1.1 0 21) - (1 : Int32))) fun M_4 =>
    zG (zin (M_4.1 0 21) 200) <|
    if (M_4.1 9 (M_4.1 0 21).toNatClampNeg) = (-2 : Int32) then
      fX6_closes_J44 (1 : Int32) M_4
    else
      fX6_closes_J44 (0 : Int32) M_4
set_option maxHeartbeats 4000000 in
set_option maxRecDepth 100000 in
theorem mtX6_closes (l : Launch) (G : zGr) (hJ : zJ G 23) (M : zM) (o : Int32 × zM) (hf : fX6_closes M = some o) : zMi l G shM 23 yX6_closes cX6_closes 1 (some .boolean) 2 42 [.ref (G.2.2.1 0)] M o := by
  intro sz
  refine zOf (by decide) (Nat.le_of_ble_eq_true rfl) ?_
  intro p e R Q s m args below meth c hRm hsz hQ C0 hP hS ls hl
  subst hsz
  replace hRm : R = { frames := 2, cells := 0, slots := 0, locals := 42 } := hRm
  have hl : lv_has ls 1 [(0, .ref (G.2.2.1 0))] := hl
  have hx := C0.1
  have hb := C0.2.1
  have hown := C0.2.2.2.1
  have hts := C0.2.2.2.2.1
  have J44 : ∀ (v0 : Int32) (M : zM) (H : Heap) (locs : List Loc) (ls : Array Slot), lv_has ls 1 [(0, .ref (G.2.2.1 0))] → va_P G.1 zcl (zw G shM 23 M) H → va_S (zA G 23 s.heap.size) s.heap H locs → fX6_closes_J44 v0 M = some o → W p l e R s m args below meth c H locs 0 0 Q (F0 m 44 ls [.int v0, .ref (G.2.2.1 0)]) := by
    intro v0 M H locs ls hl hP hS hf
    unfold fX6_closes_J44 at hf
    obtain ⟨hg_7, hf⟩ := zG_o hf
    refine zr_put (C := RX6) (T := TX6) (n := 51) C0 hJ hP hS 0 (by decide) shM_0 23 rfl (by decide) uw_X6 tyX6 tyX6_ok nmX6 mw_503 rfl rfl (zbo_i hg_7) dX6_closes_44 (fun H locs hP hS => ?_)
    obtain ⟨M_8, eM_8, hf⟩ := zL_o hf
    have hP : va_P G.1 zcl (zw G shM 23 M_8) H := by rw [eM_8]; exact hP
    refine lv_aload_n hx hb dX6_closes_47 rfl (lv_at hl 0 rfl) ?_
    refine lv_dup hx hb dX6_closes_48 rfl ?_
    refine zr_get (C := RX6) (T := TX6) (n := 51) C0 hP 0 (by decide) shM_0 22 rfl (by decide) uw_X6 mw_492 rfl dX6_closes_49 ?_
    refine lv_iconst (v := (1 : Int32)) hx hb dX6_closes_52 (by decide) ?_
    refine lv_isub hx hb dX6_closes_53 ?_
    refine zr_put (C := RX6) (T := TX6) (n := 51) C0 hJ hP hS 0 (by decide) shM_0 22 rfl (by decide) uw_X6 tyX6 tyX6_ok nmX6 mw_492 rfl rfl ⟨rfl, rfl⟩ dX6_closes_54 (fun H locs hP hS => ?_)
    obtain ⟨M_9, eM_9, hf⟩ := zL_o hf
    have hP : va_P G.1 zcl (zw G shM 23 M_9) H := by rw [eM_9]; exact hP
    refine lv_aload_n hx hb dX6_closes_57 rfl (lv_at hl 0 rfl) ?_
    refine lv_bipush (v := (7 : Int32)) hx hb dX6_closes_58 (by decide) ?_
    obtain ⟨M_10, hc_11, hf⟩ := zV_o hf
    refine zc_vv (As := [.int (7 : Int32)]) (rest := []) C0 hP hS hl.1 0 (mtX6_lays l G hJ (7 : Int32) M_9 _ hc_11) lk_X6_173 (by decide) shM_0 (T := TX6) (n' := 51) rfl ds_X6_lays (by rw [hRm]; exact ⟨Nat.le_of_ble_eq_true rfl, Nat.le_of_ble_eq_true rfl⟩) rfl rfl (Nat.le_of_ble_eq_true rfl) dX6_closes_60 ⟨Nat.zero_le _, Nat.zero_le _⟩ (fun H locs hP hS => ?_)
    refine lv_iconst (v := (1 : Int32)) hx hb dX6_closes_63 (by decide) ?_
    exact ze_z C0 hP hS (by decide) hf dX6_closes_64 hQ
  unfold fX6_closes at hf
  obtain ⟨H, eH⟩ : ∃ H, H = s.heap := ⟨_, rfl⟩
  obtain ⟨locs, el⟩ : ∃ locs : List Loc, locs = [] := ⟨_, rfl⟩
  rw [← eH] at hP ⊢
  have hS : va_S (zA G 23 s.heap.size) s.heap H locs := by rw [eH, el]; exact hS
  rw [← el]
  refine lv_aload_n hx hb dX6_closes_0 rfl (lv_at hl 0 rfl) ?_
  refine lv_iconst (v := (1 : Int32)) hx hb dX6_closes_1 (by decide) ?_
  obtain ⟨M_1, hc_2, hf⟩ := zV_o hf
  refine zc_vv (As := [.int (1 : Int32)]) (rest := []) C0 hP hS hl.1 0 (mtX6_lays l G hJ (1 : Int32) M _ hc_2) lk_X6_173 (by decide) shM_0 (T := TX6) (n' := 51) rfl ds_X6_lays (by rw [hRm]; exact ⟨Nat.le_of_ble_eq_true rfl, Nat.le_of_ble_eq_true rfl⟩) rfl rfl (Nat.le_of_ble_eq_true rfl) dX6_closes_2 ⟨Nat.zero_le _, Nat.zero_le _⟩ (fun H locs hP hS => ?_)
  refine lv_aload_n hx hb dX6_closes_5 rfl (lv_at hl 0 rfl) ?_
  refine zr_get (C := RX6) (T := TX6) (n := 51) C0 hP 0 (by decide) shM_0 21 rfl (by decide) uw_X6 mw_483 rfl dX6_closes_6 ?_
  refine lv_if_ne (tgt := 14) hx hb dX6_closes_9 (by decide) (fun c_3 => ?_) (fun c_3 => ?_)
  · replace hf := zI_f c_3 hf
    refine lv_aload_n hx hb dX6_closes_14 rfl (lv_at hl 0 rfl) ?_
    refine lv_dup hx hb dX6_closes_15 rfl ?_
    refine zr_get (C := RX6) (T := TX6) (n := 51) C0 hP 0 (by decide) shM_0 21 rfl (by decide) uw_X6 mw_483 rfl dX6_closes_16 ?_
    refine lv_iconst (v := (1 : Int32)) hx hb dX6_closes_19 (by decide) ?_
    refine lv_isub hx hb dX6_closes_20 ?_
    refine zr_put (C := RX6) (T := TX6) (n := 51) C0 hJ hP hS 0 (by decide) shM_0 21 rfl (by decide) uw_X6 tyX6 tyX6_ok nmX6 mw_483 rfl rfl ⟨rfl, rfl⟩ dX6_closes_21 (fun H locs hP hS => ?_)
    obtain ⟨M_4, eM_4, hf⟩ := zL_o hf
    have hP : va_P G.1 zcl (zw G shM 23 M_4) H := by rw [eM_4]; exact hP
    refine lv_aload_n hx hb dX6_closes_24 rfl (lv_at hl 0 rfl) ?_
    refine lv_aload_n hx hb dX6_closes_25 rfl (lv_at hl 0 rfl) ?_
    refine zr_getq (C := RX6) (T := TX6) (n := 51) C0 hP 0 (by decide) shM_0 20 9 rfl (by decide) uw_X6 mw_484 rfl dX6_closes_26 ?_
    refine lv_aload_n hx hb dX6_closes_29 rfl (lv_at hl 0 rfl) ?_
    refine zr_get (C := RX6) (T := TX6) (n := 51) C0 hP 0 (by decide) shM_0 21 rfl (by decide) uw_X6 mw_483 rfl dX6_closes_30 ?_
    obtain ⟨hg_5, hf⟩ := zG_o hf
    refine zr_iald C0 hP 9 (by decide) shM_9 hg_5 dX6_closes_33 ?_
    refine lv_bipush (v := (-2 : Int32)) hx hb dX6_closes_34 (by decide) ?_
    refine lv_icmp_ne (tgt := 43) hx hb dX6_closes_36 (by decide) (fun c_6 => ?_) (fun c_6 => ?_)
    · replace hf := zI_f c_6 hf
      refine lv_iconst (v := (0 : Int32)) hx hb dX6_closes_43 (by decide) ?_
      exact J44 (0 : Int32) M_4 H locs ls (lv_sub hl [0] rfl) hP hS hf
    · replace hf := zI_t c_6 hf
      refine lv_iconst (v := (1 : Int32)) hx hb dX6_closes_39 (by decide) ?_
      refine lv_goto (tgt := 44) hx hb dX6_closes_40 (by decide) ?_
      exact J44 (1 : Int32) M_4 H locs ls (lv_sub hl [0] rfl) hP hS hf
  · replace hf := zI_t c_3 hf
    refine lv_iconst (v := (0 : Int32)) hx hb dX6_closes_12 (by decide) ?_
    exact ze_z C0 hP hS (by decide) hf dX6_closes_13 hQ
def fX6_goesOn_J74 (x1 : Int32) (v0 : Int32) (M : zM) : Option (Int32 × zM) :=
  zG (zbo v0) <|
  zL (zu M 0 25 v0) fun M_20 =>
  if (M_20.1 0 25) = (0 : Int32) then
    zB (fX6_rank x1 M_20) fun r_24 M_22 =>
    if r_24 = (4 : Int32) then
      zL (zu M_22 0 23 (1 : Int32)) fun M_26 =>
      some ((1 : Int32), M_26)
    else
      some ((1 : Int32), M_22)
  else
    zL (zu M_20 0 23 (0 : Int32)) fun M_27 =>
    some ((1 : Int32), M_27)
def fX6_goesOn (M : zM) : Option (Int32 × zM) :=
  if (M.1 0 24) = (0 : Int32) then
    zB (fX6_one (M.1 0 25) M) fun r_34 M_32 =>
    zG (zbo r_34) <|
    some (r_34, M_32)
  else
    if (M.1 0 17) = (41 : Int32) then
      zB (fX6_closes M) fun r_30 M_28 =>
      zG (zbo r_30) <|
      some (r_30, M_28)
    else
      zB (fX6_signed M) fun r_5 M_3 =>
      if r_5 = (-1 : Int32) then
        some ((0 : Int32), M_3)
      else
        zB (fX6_rank r_5 M_3) fun r_9 M_7 =>
        zV (fX6_lays r_9 M_7) fun M_10 =>
        zV (fX6_push r_5 M_10) fun M_12 =>
        zL (zu M_12 0 24 (0 : Int32)) fun M_14 =>
        zB (fX6_rank r_5 M_14) fun r_17 M_15 =>
        if (3 : Int32) ≤ r_17 then
          fX6_goesOn_J74 r_5 (0 : Int32) M_15
        else
          fX6_goesOn_J74 r_5 (1 : Int32) M_15
set_option maxHeartbeats 4000000 in
set_option maxRecDepth 100000 in
theorem mtX6_goesOn (l : Launch) (G : zGr) (hJ : zJ G 23) (M : zM) (o : Int32 × zM) (hf : fX6_goesOn M = some o) : zMi l G shM 23 yX6_goesOn cX6_goesOn 2 (some .boolean) 3 65 [.ref (G.2.2.1 0)] M o := by
  intro sz
  refine zOf (by decide) (Nat.le_of_ble_eq_true rfl) ?_
  intro p e R Q s m args below meth c hRm hsz hQ C0 hP hS ls hl
  subst hsz
  replace hRm : R = { frames := 3, cells := 0, slots := 0, locals := 65 } := hRm
  have hl : lv_has ls 2 [(0, .ref (G.2.2.1 0))] := hl
  have hx := C0.1
  have hb := C0.2.1
  have hown := C0.2.2.2.1
  have hts := C0.2.2.2.2.1
  have J74 : ∀ (x1 : Int32) (v0 : Int32) (M : zM) (H : Heap) (locs : List Loc) (ls : Array Slot), lv_has ls 2 [(0, .ref (G.2.2.1 0)), (1, .int x1)] → va_P G.1 zcl (zw G shM 23 M) H → va_S (zA G 23 s.heap.size) s.heap H locs → fX6_goesOn_J74 x1 v0 M = some o → W p l e R s m args below meth c H locs 0 0 Q (F0 m 74 ls [.int v0, .ref (G.2.2.1 0)]) := by
    intro x1 v0 M H locs ls hl hP hS hf
    unfold fX6_goesOn_J74 at hf
    obtain ⟨hg_19, hf⟩ := zG_o hf
    refine zr_put (C := RX6) (T := TX6) (n := 51) C0 hJ hP hS 0 (by decide) shM_0 25 rfl (by decide) uw_X6 tyX6 tyX6_ok nmX6 mw_502 rfl rfl (zbo_i hg_19) dX6_goesOn_74 (fun H locs hP hS => ?_)
    obtain ⟨M_20, eM_20, hf⟩ := zL_o hf
    have hP : va_P G.1 zcl (zw G shM 23 M_20) H := by rw [eM_20]; exact hP
    refine lv_aload_n hx hb dX6_goesOn_77 rfl (lv_at hl 0 rfl) ?_
    refine zr_get (C := RX6) (T := TX6) (n := 51) C0 hP 0 (by decide) shM_0 25 rfl (by decide) uw_X6 mw_502 rfl dX6_goesOn_78 ?_
    refine lv_if_eq (tgt := 92) hx hb dX6_goesOn_81 (by decide) (fun c_21 => ?_) (fun c_21 => ?_)
    · replace hf := zI_t c_21 hf
      refine lv_iload_n hx hb dX6_goesOn_92 rfl (lv_at hl 1 rfl) ?_
      obtain ⟨r_24, M_22, hc_23, hf⟩ := zB_o hf
      refine zc_si (As := [.int x1]) (rest := []) C0 hP hS hl.1 (mtX6_rank l G hJ x1 M_20 _ hc_23) ls_X6_167 ds_X6_rank (by rw [hRm]; exact ⟨Nat.le_of_ble_eq_true rfl, Nat.le_of_ble_eq_true rfl⟩) rfl rfl (Nat.le_of_ble_eq_true rfl) dX6_goesOn_93 ⟨Nat.zero_le _, Nat.zero_le _⟩ (fun H locs hP hS => ?_)
      refine lv_iconst (v := (4 : Int32)) hx hb dX6_goesOn_96 (by decide) ?_
      refine lv_icmp_ne (tgt := 105) hx hb dX6_goesOn_97 (by decide) (fun c_25 => ?_) (fun c_25 => ?_)
      · replace hf := zI_f c_25 hf
        refine lv_iconst (v := (1 : Int32)) hx hb dX6_goesOn_105 (by decide) ?_
        exact ze_z C0 hP hS (by decide) hf dX6_goesOn_106 hQ
      · replace hf := zI_t c_25 hf
        refine lv_aload_n hx hb dX6_goesOn_100 rfl (lv_at hl 0 rfl) ?_
        refine lv_iconst (v := (1 : Int32)) hx hb dX6_goesOn_101 (by decide) ?_
        refine zr_put (C := RX6) (T := TX6) (n := 51) C0 hJ hP hS 0 (by decide) shM_0 23 rfl (by decide) uw_X6 tyX6 tyX6_ok nmX6 mw_503 rfl rfl (zbo_i (by decide)) dX6_goesOn_102 (fun H locs hP hS => ?_)
        obtain ⟨M_26, eM_26, hf⟩ := zL_o hf
        have hP : va_P G.1 zcl (zw G shM 23 M_26) H := by rw [eM_26]; exact hP
        refine lv_iconst (v := (1 : Int32)) hx hb dX6_goesOn_105 (by decide) ?_
        exact ze_z C0 hP hS (by decide) hf dX6_goesOn_106 hQ
    · replace hf := zI_f c_21 hf
      refine lv_aload_n hx hb dX6_goesOn_84 rfl (lv_at hl 0 rfl) ?_
      refine lv_iconst (v := (0 : Int32)) hx hb dX6_goesOn_85 (by decide) ?_
      refine zr_put (C := RX6) (T := TX6) (n := 51) C0 hJ hP hS 0 (by decide) shM_0 23 rfl (by decide) uw_X6 tyX6 tyX6_ok nmX6 mw_503 rfl rfl (zbo_i (by decide)) dX6_goesOn_86 (fun H locs hP hS => ?_)
      obtain ⟨M_27, eM_27, hf⟩ := zL_o hf
      have hP : va_P G.1 zcl (zw G shM 23 M_27) H := by rw [eM_27]; exact hP
      refine lv_goto (tgt := 105) hx hb dX6_goesOn_89 (by decide) ?_
      refine lv_iconst (v := (1 : Int32)) hx hb dX6_goesOn_105 (by decide) ?_
      exact ze_z C0 hP hS (by decide) hf dX6_goesOn_106 hQ
  unfold fX6_goesOn at hf
  obtain ⟨H, eH⟩ : ∃ H, H = s.heap := ⟨_, rfl⟩
  obtain ⟨locs, el⟩ : ∃ locs : List Loc, locs = [] := ⟨_, rfl⟩
  rw [← eH] at hP ⊢
  have hS : va_S (zA G 23 s.heap.size) s.heap H locs := by rw [eH, el]; exact hS
  rw [← el]
  refine lv_aload_n hx hb dX6_goesOn_0 rfl (lv_at hl 0 rfl) ?_
  refine zr_get (C := RX6) (T := TX6) (n := 51) C0 hP 0 (by decide) shM_0 24 rfl (by decide) uw_X6 mw_497 rfl dX6_goesOn_1 ?_
  refine lv_if_ne (tgt := 16) hx hb dX6_goesOn_4 (by decide) (fun c_1 => ?_) (fun c_1 => ?_)
  · replace hf := zI_f c_1 hf
    refine lv_aload_n hx hb dX6_goesOn_16 rfl (lv_at hl 0 rfl) ?_
    refine zr_get (C := RX6) (T := TX6) (n := 51) C0 hP 0 (by decide) shM_0 17 rfl (by decide) uw_X6 mw_468 rfl dX6_goesOn_17 ?_
    refine lv_bipush (v := (41 : Int32)) hx hb dX6_goesOn_20 (by decide) ?_
    refine lv_icmp_ne (tgt := 30) hx hb dX6_goesOn_22 (by decide) (fun c_2 => ?_) (fun c_2 => ?_)
    · replace hf := zI_f c_2 hf
      refine lv_aload_n hx hb dX6_goesOn_30 rfl (lv_at hl 0 rfl) ?_
      obtain ⟨r_5, M_3, hc_4, hf⟩ := zB_o hf
      refine zc_vi (As := []) (rest := []) C0 hP hS hl.1 0 (mtX6_signed l G hJ M _ hc_4) lk_X6_196 (by decide) shM_0 (T := TX6) (n' := 51) rfl ds_X6_signed (by rw [hRm]; exact ⟨Nat.le_of_ble_eq_true rfl, Nat.le_of_ble_eq_true rfl⟩) rfl rfl (Nat.le_of_ble_eq_true rfl) dX6_goesOn_31 ⟨Nat.zero_le _, Nat.zero_le _⟩ (fun H locs hP hS => ?_)
      refine lv_istore_n (lv' := [(1, .int r_5), (0, .ref (G.2.2.1 0))]) hx hb dX6_goesOn_34 rfl hl (by decide) rfl (fun ls hl => ?_)
      refine lv_iload_n hx hb dX6_goesOn_35 rfl (lv_at hl 0 rfl) ?_
      refine lv_iconst (v := (-1 : Int32)) hx hb dX6_goesOn_36 (by decide) ?_
      refine lv_icmp_ne (tgt := 42) hx hb dX6_goesOn_37 (by decide) (fun c_6 => ?_) (fun c_6 => ?_)
      · replace hf := zI_f c_6 hf
        refine lv_aload_n hx hb dX6_goesOn_42 rfl (lv_at hl 1 rfl) ?_
        refine lv_iload_n hx hb dX6_goesOn_43 rfl (lv_at hl 0 rfl) ?_
        obtain ⟨r_9, M_7, hc_8, hf⟩ := zB_o hf
        refine zc_si (As := [.int r_5]) (rest := [.ref (G.2.2.1 0)]) C0 hP hS hl.1 (mtX6_rank l G hJ r_5 M_3 _ hc_8) ls_X6_167 ds_X6_rank (by rw [hRm]; exact ⟨Nat.le_of_ble_eq_true rfl, Nat.le_of_ble_eq_true rfl⟩) rfl rfl (Nat.le_of_ble_eq_true rfl) dX6_goesOn_44 ⟨Nat.zero_le _, Nat.zero_le _⟩ (fun H locs hP hS => ?_)
        obtain ⟨M_10, hc_11, hf⟩ := zV_o hf
        refine zc_vv (As := [.int r_9]) (rest := []) C0 hP hS hl.1 0 (mtX6_lays l G hJ r_9 M_7 _ hc_11) lk_X6_173 (by decide) shM_0 (T := TX6) (n' := 51) rfl ds_X6_lays (by rw [hRm]; exact ⟨Nat.le_of_ble_eq_true rfl, Nat.le_of_ble_eq_true rfl⟩) rfl rfl (Nat.le_of_ble_eq_true rfl) dX6_goesOn_47 ⟨Nat.zero_le _, Nat.zero_le _⟩ (fun H locs hP hS => ?_)
        refine lv_aload_n hx hb dX6_goesOn_50 rfl (lv_at hl 1 rfl) ?_
        refine lv_iload_n hx hb dX6_goesOn_51 rfl (lv_at hl 0 rfl) ?_
        obtain ⟨M_12, hc_13, hf⟩ := zV_o hf
        refine zc_vv (As := [.int r_5]) (rest := []) C0 hP hS hl.1 0 (mtX6_push l G hJ r_5 M_10 _ hc_13) lk_X6_183 (by decide) shM_0 (T := TX6) (n' := 51) rfl ds_X6_push (by rw [hRm]; exact ⟨Nat.le_of_ble_eq_true rfl, Nat.le_of_ble_eq_true rfl⟩) rfl rfl (Nat.le_of_ble_eq_true rfl) dX6_goesOn_52 ⟨Nat.zero_le _, Nat.zero_le _⟩ (fun H locs hP hS => ?_)
        refine lv_aload_n hx hb dX6_goesOn_55 rfl (lv_at hl 1 rfl) ?_
        refine lv_iconst (v := (0 : Int32)) hx hb dX6_goesOn_56 (by decide) ?_
        refine zr_put (C := RX6) (T := TX6) (n := 51) C0 hJ hP hS 0 (by decide) shM_0 24 rfl (by decide) uw_X6 tyX6 tyX6_ok nmX6 mw_497 rfl rfl (zbo_i (by decide)) dX6_goesOn_57 (fun H locs hP hS => ?_)
        obtain ⟨M_14, eM_14, hf⟩ := zL_o hf
        have hP : va_P G.1 zcl (zw G shM 23 M_14) H := by rw [eM_14]; exact hP
        refine lv_aload_n hx hb dX6_goesOn_60 rfl (lv_at hl 1 rfl) ?_
        refine lv_iload_n hx hb dX6_goesOn_61 rfl (lv_at hl 0 rfl) ?_
        obtain ⟨r_17, M_15, hc_16, hf⟩ := zB_o hf
        refine zc_si (As := [.int r_5]) (rest := [.ref (G.2.2.1 0)]) C0 hP hS hl.1 (mtX6_rank l G hJ r_5 M_14 _ hc_16) ls_X6_167 ds_X6_rank (by rw [hRm]; exact ⟨Nat.le_of_ble_eq_true rfl, Nat.le_of_ble_eq_true rfl⟩) rfl rfl (Nat.le_of_ble_eq_true rfl) dX6_goesOn_62 ⟨Nat.zero_le _, Nat.zero_le _⟩ (fun H locs hP hS => ?_)
        refine lv_iconst (v := (3 : Int32)) hx hb dX6_goesOn_65 (by decide) ?_
        refine lv_icmp_ge (tgt := 73) hx hb dX6_goesOn_66 (by decide) (fun c_18 => ?_) (fun c_18 => ?_)
        · replace hf := zI_t c_18 hf
          refine lv_iconst (v := (0 : Int32)) hx hb dX6_goesOn_73 (by decide) ?_
          exact J74 r_5 (0 : Int32) M_15 H locs ls (lv_sub hl [1, 0] rfl) hP hS hf
        · replace hf := zI_f c_18 hf
          refine lv_iconst (v := (1 : Int32)) hx hb dX6_goesOn_69 (by decide) ?_
          refine lv_goto (tgt := 74) hx hb dX6_goesOn_70 (by decide) ?_
          exact J74 r_5 (1 : Int32) M_15 H locs ls (lv_sub hl [1, 0] rfl) hP hS hf
      · replace hf := zI_t c_6 hf
        refine lv_iconst (v := (0 : Int32)) hx hb dX6_goesOn_40 (by decide) ?_
        exact ze_z C0 hP hS (by decide) hf dX6_goesOn_41 hQ
    · replace hf := zI_t c_2 hf
      refine lv_aload_n hx hb dX6_goesOn_25 rfl (lv_at hl 0 rfl) ?_
      obtain ⟨r_30, M_28, hc_29, hf⟩ := zB_o hf
      refine zc_vi (As := []) (rest := []) C0 hP hS hl.1 0 (mtX6_closes l G hJ M _ hc_29) lk_X6_193 (by decide) shM_0 (T := TX6) (n' := 51) rfl ds_X6_closes (by rw [hRm]; exact ⟨Nat.le_of_ble_eq_true rfl, Nat.le_of_ble_eq_true rfl⟩) rfl rfl (Nat.le_of_ble_eq_true rfl) dX6_goesOn_26 ⟨Nat.zero_le _, Nat.zero_le _⟩ (fun H locs hP hS => ?_)
      obtain ⟨hg_31, hf⟩ := zG_o hf
      exact ze_z C0 hP hS hg_31 hf dX6_goesOn_29 hQ
  · replace hf := zI_t c_1 hf
    refine lv_aload_n hx hb dX6_goesOn_7 rfl (lv_at hl 0 rfl) ?_
    refine lv_aload_n hx hb dX6_goesOn_8 rfl (lv_at hl 0 rfl) ?_
    refine zr_get (C := RX6) (T := TX6) (n := 51) C0 hP 0 (by decide) shM_0 25 rfl (by decide) uw_X6 mw_502 rfl dX6_goesOn_9 ?_
    obtain ⟨r_34, M_32, hc_33, hf⟩ := zB_o hf
    refine zc_vi (As := [.int (M.1 0 25)]) (rest := []) C0 hP hS hl.1 0 (mtX6_one l G hJ (M.1 0 25) M _ hc_33) lk_X6_189 (by decide) shM_0 (T := TX6) (n' := 51) rfl ds_X6_one (by rw [hRm]; exact ⟨Nat.le_of_ble_eq_true rfl, Nat.le_of_ble_eq_true rfl⟩) rfl rfl (Nat.le_of_ble_eq_true rfl) dX6_goesOn_12 ⟨Nat.zero_le _, Nat.zero_le _⟩ (fun H locs hP hS => ?_)
    obtain ⟨hg_35, hf⟩ := zG_o hf
    exact ze_z C0 hP hS hg_35 hf dX6_goesOn_15 hQ
def fX6_part_J61 (r45 : Int32 → zM → Option (Int32 × zM)) (x1 : Int32) (M : zM) : Option (Int32 × zM) :=
  zB (fX6_goesOn M) fun r_15 M_13 =>
  if r_15 = (0 : Int32) then
    some ((0 : Int32), M_13)
  else
    zV (fX6_next M_13) fun M_17 =>
    r45 x1 M_17
def fX6_part_B45 (r45 : Int32 → zM → Option (Int32 × zM)) (x1 : Int32) (M : zM) : Option (Int32 × zM) :=
  if (M.1 0 24) = (0 : Int32) then
    fX6_part_J61 r45 x1 M
  else
    if (M.1 0 17) = (59 : Int32) then
      zV (fX6_lays (1 : Int32) M) fun M_20 =>
      if (M_20.1 0 21) ≤ (0 : Int32) then
        zG (zin x1 18) <|
        zG (zin x1 18) <|
        zL (zu M_20 7 x1.toNatClampNeg ((M_20.1 0 14) - (M_20.1 6 x1.toNatClampNeg))) fun M_25 =>
        zV (fX6_next M_25) fun M_26 =>
        some ((1 : Int32), M_26)
      else
        some ((0 : Int32), M_20)
    else
      fX6_part_J61 r45 x1 M
def fX6_part_L45 : Nat → Int32 → zM → Option (Int32 × zM)
  | 0 => fun _ _ => none
  | j9 + 1 => fX6_part_B45 (fX6_part_L45 j9)
def fX6_part (x1 : Int32) (x2 : Int32) (M : zM) : Option (Int32 × zM) :=
  zB (fX6_takes x2 M) fun r_3 M_1 =>
  if r_3 = (0 : Int32) then
    some ((0 : Int32), M_1)
  else
    zG (zin x1 18) <|
    zL (zu M_1 6 x1.toNatClampNeg (M_1.1 0 14)) fun M_6 =>
    zL (zu M_6 0 21 (0 : Int32)) fun M_7 =>
    zL (zu M_7 0 22 (0 : Int32)) fun M_8 =>
    zL (zu M_8 0 23 (0 : Int32)) fun M_9 =>
    zL (zu M_9 0 24 (0 : Int32)) fun M_10 =>
    zL (zu M_10 0 25 (1 : Int32)) fun M_11 =>
    fX6_part_L45 zF x1 M_11
set_option maxHeartbeats 4000000 in
set_option maxRecDepth 100000 in
theorem mtX6_part (l : Launch) (G : zGr) (hJ : zJ G 23) (x1 : Int32) (x2 : Int32) (M : zM) (o : Int32 × zM) (hf : fX6_part x1 x2 M = some o) : zMi l G shM 23 yX6_part cX6_part 3 (some .boolean) 4 86 [.ref (G.2.2.1 0), .int x1, .int x2] M o := by
  intro sz
  refine zOf (by decide) (Nat.le_of_ble_eq_true rfl) ?_
  intro p e R Q s m args below meth c hRm hsz hQ C0 hP hS ls hl
  subst hsz
  replace hRm : R = { frames := 4, cells := 0, slots := 0, locals := 86 } := hRm
  have hl : lv_has ls 3 [(0, .ref (G.2.2.1 0)), (1, .int x1), (2, .int x2)] := hl
  have hx := C0.1
  have hb := C0.2.1
  have hown := C0.2.2.2.1
  have hts := C0.2.2.2.2.1
  have L45 : ∀ (n45 : Nat), ∀ (x1 : Int32) (M : zM) (H : Heap) (locs : List Loc) (ls : Array Slot), lv_has ls 3 [(0, .ref (G.2.2.1 0)), (1, .int x1)] → va_P G.1 zcl (zw G shM 23 M) H → va_S (zA G 23 s.heap.size) s.heap H locs → fX6_part_L45 n45 x1 M = some o → W p l e R s m args below meth c H locs 0 0 Q (F0 m 45 ls []) := by
    intro n45
    induction n45 with
    | zero => intro x1 M H locs ls hl hP hS hf; exact zn_s (show none = some o from hf)
    | succ n45 ih45 =>
      have J61 : ∀ (x1 : Int32) (M : zM) (H : Heap) (locs : List Loc) (ls : Array Slot), lv_has ls 3 [(0, .ref (G.2.2.1 0)), (1, .int x1)] → va_P G.1 zcl (zw G shM 23 M) H → va_S (zA G 23 s.heap.size) s.heap H locs → fX6_part_J61 (fX6_part_L45 n45) x1 M = some o → W p l e R s m args below meth c H locs 0 0 Q (F0 m 61 ls []) := by
        intro x1 M H locs ls hl hP hS hf
        unfold fX6_part_J61 at hf
        refine lv_aload_n hx hb dX6_part_61 rfl (lv_at hl 0 rfl) ?_
        obtain ⟨r_15, M_13, hc_14, hf⟩ := zB_o hf
        refine zc_vi (As := []) (rest := []) C0 hP hS hl.1 0 (mtX6_goesOn l G hJ M _ hc_14) lk_X6_202 (by decide) shM_0 (T := TX6) (n' := 51) rfl ds_X6_goesOn (by rw [hRm]; exact ⟨Nat.le_of_ble_eq_true rfl, Nat.le_of_ble_eq_true rfl⟩) rfl rfl (Nat.le_of_ble_eq_true rfl) dX6_part_62 ⟨Nat.zero_le _, Nat.zero_le _⟩ (fun H locs hP hS => ?_)
        refine lv_if_ne (tgt := 70) hx hb dX6_part_65 (by decide) (fun c_16 => ?_) (fun c_16 => ?_)
        · replace hf := zI_f c_16 hf
          refine lv_aload_n hx hb dX6_part_70 rfl (lv_at hl 0 rfl) ?_
          obtain ⟨M_17, hc_18, hf⟩ := zV_o hf
          refine zc_vv (As := []) (rest := []) C0 hP hS hl.1 0 (mtX6_next l G hJ M_13 _ hc_18) lk_X6_158 (by decide) shM_0 (T := TX6) (n' := 51) rfl ds_X6_next (by rw [hRm]; exact ⟨Nat.le_of_ble_eq_true rfl, Nat.le_of_ble_eq_true rfl⟩) rfl rfl (Nat.le_of_ble_eq_true rfl) dX6_part_71 ⟨Nat.zero_le _, Nat.zero_le _⟩ (fun H locs hP hS => ?_)
          refine lv_goto (tgt := 45) hx hb dX6_part_74 (by decide) ?_
          exact ih45 x1 M_17 H locs ls (lv_sub hl [0, 1] rfl) hP hS hf
        · replace hf := zI_t c_16 hf
          refine lv_iconst (v := (0 : Int32)) hx hb dX6_part_68 (by decide) ?_
          exact ze_z C0 hP hS (by decide) hf dX6_part_69 hQ
      intro x1 M H locs ls hl hP hS hf
      replace hf : fX6_part_B45 (fX6_part_L45 n45) x1 M = some o := hf
      unfold fX6_part_B45 at hf
      refine lv_aload_n hx hb dX6_part_45 rfl (lv_at hl 0 rfl) ?_
      refine zr_get (C := RX6) (T := TX6) (n := 51) C0 hP 0 (by decide) shM_0 24 rfl (by decide) uw_X6 mw_497 rfl dX6_part_46 ?_
      refine lv_if_eq (tgt := 61) hx hb dX6_part_49 (by decide) (fun c_12 => ?_) (fun c_12 => ?_)
      · replace hf := zI_t c_12 hf
        exact J61 x1 M H locs ls (lv_sub hl [0, 1] rfl) hP hS hf
      · replace hf := zI_f c_12 hf
        refine lv_aload_n hx hb dX6_part_52 rfl (lv_at hl 0 rfl) ?_
        refine zr_get (C := RX6) (T := TX6) (n := 51) C0 hP 0 (by decide) shM_0 17 rfl (by decide) uw_X6 mw_468 rfl dX6_part_53 ?_
        refine lv_bipush (v := (59 : Int32)) hx hb dX6_part_56 (by decide) ?_
        refine lv_icmp_eq (tgt := 77) hx hb dX6_part_58 (by decide) (fun c_19 => ?_) (fun c_19 => ?_)
        · replace hf := zI_t c_19 hf
          refine lv_aload_n hx hb dX6_part_77 rfl (lv_at hl 0 rfl) ?_
          refine lv_iconst (v := (1 : Int32)) hx hb dX6_part_78 (by decide) ?_
          obtain ⟨M_20, hc_21, hf⟩ := zV_o hf
          refine zc_vv (As := [.int (1 : Int32)]) (rest := []) C0 hP hS hl.1 0 (mtX6_lays l G hJ (1 : Int32) M _ hc_21) lk_X6_173 (by decide) shM_0 (T := TX6) (n' := 51) rfl ds_X6_lays (by rw [hRm]; exact ⟨Nat.le_of_ble_eq_true rfl, Nat.le_of_ble_eq_true rfl⟩) rfl rfl (Nat.le_of_ble_eq_true rfl) dX6_part_79 ⟨Nat.zero_le _, Nat.zero_le _⟩ (fun H locs hP hS => ?_)
          refine lv_aload_n hx hb dX6_part_82 rfl (lv_at hl 0 rfl) ?_
          refine zr_get (C := RX6) (T := TX6) (n := 51) C0 hP 0 (by decide) shM_0 21 rfl (by decide) uw_X6 mw_483 rfl dX6_part_83 ?_
          refine lv_if_le (tgt := 91) hx hb dX6_part_86 (by decide) (fun c_22 => ?_) (fun c_22 => ?_)
          · replace hf := zI_t c_22 hf
            refine lv_aload_n hx hb dX6_part_91 rfl (lv_at hl 0 rfl) ?_
            refine zr_getq (C := RX6) (T := TX6) (n := 51) C0 hP 0 (by decide) shM_0 12 7 rfl (by decide) uw_X6 mw_416 rfl dX6_part_92 ?_
            refine lv_iload_n hx hb dX6_part_95 rfl (lv_at hl 1 rfl) ?_
            refine lv_aload_n hx hb dX6_part_96 rfl (lv_at hl 0 rfl) ?_
            refine zr_get (C := RX6) (T := TX6) (n := 51) C0 hP 0 (by decide) shM_0 14 rfl (by decide) uw_X6 mw_482 rfl dX6_part_97 ?_
            refine lv_aload_n hx hb dX6_part_100 rfl (lv_at hl 0 rfl) ?_
            refine zr_getq (C := RX6) (T := TX6) (n := 51) C0 hP 0 (by decide) shM_0 11 6 rfl (by decide) uw_X6 mw_414 rfl dX6_part_101 ?_
            refine lv_iload_n hx hb dX6_part_104 rfl (lv_at hl 1 rfl) ?_
            obtain ⟨hg_23, hf⟩ := zG_o hf
            refine zr_iald C0 hP 6 (by decide) shM_6 hg_23 dX6_part_105 ?_
            refine lv_isub hx hb dX6_part_106 ?_
            obtain ⟨hg_24, hf⟩ := zG_o hf
            refine zr_iast C0 hJ hP hS 7 (by decide) shM_7 hg_24 dX6_part_107 (fun H locs hP hS => ?_)
            obtain ⟨M_25, eM_25, hf⟩ := zL_o hf
            have hP : va_P G.1 zcl (zw G shM 23 M_25) H := by rw [eM_25]; exact hP
            refine lv_aload_n hx hb dX6_part_108 rfl (lv_at hl 0 rfl) ?_
            obtain ⟨M_26, hc_27, hf⟩ := zV_o hf
            refine zc_vv (As := []) (rest := []) C0 hP hS hl.1 0 (mtX6_next l G hJ M_25 _ hc_27) lk_X6_158 (by decide) shM_0 (T := TX6) (n' := 51) rfl ds_X6_next (by rw [hRm]; exact ⟨Nat.le_of_ble_eq_true rfl, Nat.le_of_ble_eq_true rfl⟩) rfl rfl (Nat.le_of_ble_eq_true rfl) dX6_part_109 ⟨Nat.zero_le _, Nat.zero_le _⟩ (fun H locs hP hS => ?_)
            refine lv_iconst (v := (1 : Int32)) hx hb dX6_part_112 (by decide) ?_
            exact ze_z C0 hP hS (by decide) hf dX6_part_113 hQ
          · replace hf := zI_f c_22 hf
            refine lv_iconst (v := (0 : Int32)) hx hb dX6_part_89 (by decide) ?_
            exact ze_z C0 hP hS (by decide) hf dX6_part_90 hQ
        · replace hf := zI_f c_19 hf
          exact J61 x1 M H locs ls (lv_sub hl [0, 1] rfl) hP hS hf
  unfold fX6_part at hf
  obtain ⟨H, eH⟩ : ∃ H, H = s.heap := ⟨_, rfl⟩
  obtain ⟨locs, el⟩ : ∃ locs : List Loc, locs = [] := ⟨_, rfl⟩
  rw [← eH] at hP ⊢
  have hS : va_S (zA G 23 s.heap.size) s.heap H locs := by rw [eH, el]; exact hS
  rw [← el]
  refine lv_aload_n hx hb dX6_part_0 rfl (lv_at hl 0 rfl) ?_
  refine lv_iload_n hx hb dX6_part_1 rfl (lv_at hl 2 rfl) ?_
  obtain ⟨r_3, M_1, hc_2, hf⟩ := zB_o hf
  refine zc_vi (As := [.int x2]) (rest := []) C0 hP hS hl.1 0 (mtX6_takes l G hJ x2 M _ hc_2) lk_X6_199 (by decide) shM_0 (T := TX6) (n' := 51) rfl ds_X6_takes (by rw [hRm]; exact ⟨Nat.le_of_ble_eq_true rfl, Nat.le_of_ble_eq_true rfl⟩) rfl rfl (Nat.le_of_ble_eq_true rfl) dX6_part_2 ⟨Nat.zero_le _, Nat.zero_le _⟩ (fun H locs hP hS => ?_)
  refine lv_if_ne (tgt := 10) hx hb dX6_part_5 (by decide) (fun c_4 => ?_) (fun c_4 => ?_)
  · replace hf := zI_f c_4 hf
    refine lv_aload_n hx hb dX6_part_10 rfl (lv_at hl 0 rfl) ?_
    refine zr_getq (C := RX6) (T := TX6) (n := 51) C0 hP 0 (by decide) shM_0 11 6 rfl (by decide) uw_X6 mw_414 rfl dX6_part_11 ?_
    refine lv_iload_n hx hb dX6_part_14 rfl (lv_at hl 1 rfl) ?_
    refine lv_aload_n hx hb dX6_part_15 rfl (lv_at hl 0 rfl) ?_
    refine zr_get (C := RX6) (T := TX6) (n := 51) C0 hP 0 (by decide) shM_0 14 rfl (by decide) uw_X6 mw_482 rfl dX6_part_16 ?_
    obtain ⟨hg_5, hf⟩ := zG_o hf
    refine zr_iast C0 hJ hP hS 6 (by decide) shM_6 hg_5 dX6_part_19 (fun H locs hP hS => ?_)
    obtain ⟨M_6, eM_6, hf⟩ := zL_o hf
    have hP : va_P G.1 zcl (zw G shM 23 M_6) H := by rw [eM_6]; exact hP
    refine lv_aload_n hx hb dX6_part_20 rfl (lv_at hl 0 rfl) ?_
    refine lv_iconst (v := (0 : Int32)) hx hb dX6_part_21 (by decide) ?_
    refine zr_put (C := RX6) (T := TX6) (n := 51) C0 hJ hP hS 0 (by decide) shM_0 21 rfl (by decide) uw_X6 tyX6 tyX6_ok nmX6 mw_483 rfl rfl ⟨rfl, rfl⟩ dX6_part_22 (fun H locs hP hS => ?_)
    obtain ⟨M_7, eM_7, hf⟩ := zL_o hf
    have hP : va_P G.1 zcl (zw G shM 23 M_7) H := by rw [eM_7]; exact hP
    refine lv_aload_n hx hb dX6_part_25 rfl (lv_at hl 0 rfl) ?_
    refine lv_iconst (v := (0 : Int32)) hx hb dX6_part_26 (by decide) ?_
    refine zr_put (C := RX6) (T := TX6) (n := 51) C0 hJ hP hS 0 (by decide) shM_0 22 rfl (by decide) uw_X6 tyX6 tyX6_ok nmX6 mw_492 rfl rfl ⟨rfl, rfl⟩ dX6_part_27 (fun H locs hP hS => ?_)
    obtain ⟨M_8, eM_8, hf⟩ := zL_o hf
    have hP : va_P G.1 zcl (zw G shM 23 M_8) H := by rw [eM_8]; exact hP
    refine lv_aload_n hx hb dX6_part_30 rfl (lv_at hl 0 rfl) ?_
    refine lv_iconst (v := (0 : Int32)) hx hb dX6_part_31 (by decide) ?_
    refine zr_put (C := RX6) (T := TX6) (n := 51) C0 hJ hP hS 0 (by decide) shM_0 23 rfl (by decide) uw_X6 tyX6 tyX6_ok nmX6 mw_503 rfl rfl (zbo_i (by decide)) dX6_part_32 (fun H locs hP hS => ?_)
    obtain ⟨M_9, eM_9, hf⟩ := zL_o hf
    have hP : va_P G.1 zcl (zw G shM 23 M_9) H := by rw [eM_9]; exact hP
    refine lv_aload_n hx hb dX6_part_35 rfl (lv_at hl 0 rfl) ?_
    refine lv_iconst (v := (0 : Int32)) hx hb dX6_part_36 (by decide) ?_
    refine zr_put (C := RX6) (T := TX6) (n := 51) C0 hJ hP hS 0 (by decide) shM_0 24 rfl (by decide) uw_X6 tyX6 tyX6_ok nmX6 mw_497 rfl rfl (zbo_i (by decide)) dX6_part_37 (fun H locs hP hS => ?_)
    obtain ⟨M_10, eM_10, hf⟩ := zL_o hf
    have hP : va_P G.1 zcl (zw G shM 23 M_10) H := by rw [eM_10]; exact hP
    refine lv_aload_n hx hb dX6_part_40 rfl (lv_at hl 0 rfl) ?_
    refine lv_iconst (v := (1 : Int32)) hx hb dX6_part_41 (by decide) ?_
    refine zr_put (C := RX6) (T := TX6) (n := 51) C0 hJ hP hS 0 (by decide) shM_0 25 rfl (by decide) uw_X6 tyX6 tyX6_ok nmX6 mw_502 rfl rfl (zbo_i (by decide)) dX6_part_42 (fun H locs hP hS => ?_)
    obtain ⟨M_11, eM_11, hf⟩ := zL_o hf
    have hP : va_P G.1 zcl (zw G shM 23 M_11) H := by rw [eM_11]; exact hP
    exact L45 zF x1 M_11 H locs ls (lv_sub hl [0, 1] rfl) hP hS hf
  · replace hf := zI_t c_4 hf
    refine lv_iconst (v := (0 : Int32)) hx hb dX6_part_8 (by decide) ?_
    exact ze_z C0 hP hS (by decide) hf dX6_part_9 hQ
def fX6_text_J89 (x1 : Int32) (v0 : Int32) (M : zM) : Option (Int32 × zM) :=
  zL (zu M 0 8 (0 : Int32)) fun M_10 =>
  if v0 = (0 : Int32) then
    zL (zu M_10 0 14 x1) fun M_12 =>
    some (((-100 : Int32) - (M_12.1 0 15)), M_12)
  else
    zL (zu M_10 0 10 ((M_10.1 0 10) + (1 : Int32))) fun M_13 =>
    some ((M_10.1 0 10), M_13)
def fX6_text (M : zM) : Option (Int32 × zM) :=
  if (M.1 0 10) = (6 : Int32) then
    some ((-4 : Int32), M)
  else
    zL (M.1 0 14) fun x1_2 =>
    zL (zu M 0 16 (0 : Int32)) fun M_3 =>
    zV (fX6_next M_3) fun M_4 =>
    zB (fX6_part ((3 : Int32) * (M_4.1 0 10)) (370000 : Int32) M_4) fun r_8 M_6 =>
    if r_8 = (0 : Int32) then
      fX6_text_J89 x1_2 (0 : Int32) M_6
    else
      zB (fX6_part (((3 : Int32) * (M_6.1 0 10)) + (1 : Int32)) (1841662 : Int32) M_6) fun r_16 M_14 =>
      if r_16 = (0 : Int32) then
        fX6_text_J89 x1_2 (0 : Int32) M_14
      else
        zB (fX6_part (((3 : Int32) * (M_14.1 0 10)) + (2 : Int32)) (369757 : Int32) M_14) fun r_20 M_18 =>
        if r_20 = (0 : Int32) then
          fX6_text_J89 x1_2 (0 : Int32) M_18
        else
          if (M_18.1 0 17) = (101 : Int32) then
            fX6_text_J89 x1_2 (1 : Int32) M_18
          else
            fX6_text_J89 x1_2 (0 : Int32) M_18
set_option maxHeartbeats 4000000 in
set_option maxRecDepth 100000 in
theorem mtX6_text (l : Launch) (G : zGr) (hJ : zJ G 23) (M : zM) (o : Int32 × zM) (hf : fX6_text M = some o) : zMi l G shM 23 yX6_text cX6_text 3 (some .int) 5 108 [.ref (G.2.2.1 0)] M o := by
  intro sz
  refine zOf (by decide) (Nat.le_of_ble_eq_true rfl) ?_
  intro p e R Q s m args below meth c hRm hsz hQ C0 hP hS ls hl
  subst hsz
  replace hRm : R = { frames := 5, cells := 0, slots := 0, locals := 108 } := hRm
  have hl : lv_has ls 3 [(0, .ref (G.2.2.1 0))] := hl
  have hx := C0.1
  have hb := C0.2.1
  have hown := C0.2.2.2.1
  have hts := C0.2.2.2.2.1
  have J89 : ∀ (x1 : Int32) (v0 : Int32) (M : zM) (H : Heap) (locs : List Loc) (ls : Array Slot), lv_has ls 3 [(0, .ref (G.2.2.1 0)), (1, .int x1)] → va_P G.1 zcl (zw G shM 23 M) H → va_S (zA G 23 s.heap.size) s.heap H locs → fX6_text_J89 x1 v0 M = some o → W p l e R s m args below meth c H locs 0 0 Q (F0 m 89 ls [.int v0]) := by
    intro x1 v0 M H locs ls hl hP hS hf
    unfold fX6_text_J89 at hf
    refine lv_istore_n (lv' := [(2, .int v0), (0, .ref (G.2.2.1 0)), (1, .int x1)]) hx hb dX6_text_89 rfl hl (by decide) rfl (fun ls hl => ?_)
    refine lv_aload_n hx hb dX6_text_90 rfl (lv_at hl 1 rfl) ?_
    refine lv_iconst (v := (0 : Int32)) hx hb dX6_text_91 (by decide) ?_
    refine zr_put (C := RX6) (T := TX6) (n := 51) C0 hJ hP hS 0 (by decide) shM_0 8 rfl (by decide) uw_X6 tyX6 tyX6_ok nmX6 mw_454 rfl rfl ⟨rfl, rfl⟩ dX6_text_92 (fun H locs hP hS => ?_)
    obtain ⟨M_10, eM_10, hf⟩ := zL_o hf
    have hP : va_P G.1 zcl (zw G shM 23 M_10) H := by rw [eM_10]; exact hP
    refine lv_iload_n hx hb dX6_text_95 rfl (lv_at hl 0 rfl) ?_
    refine lv_if_eq (tgt := 111) hx hb dX6_text_96 (by decide) (fun c_11 => ?_) (fun c_11 => ?_)
    · replace hf := zI_t c_11 hf
      refine lv_aload_n hx hb dX6_text_111 rfl (lv_at hl 1 rfl) ?_
      refine lv_iload_n hx hb dX6_text_112 rfl (lv_at hl 2 rfl) ?_
      refine zr_put (C := RX6) (T := TX6) (n := 51) C0 hJ hP hS 0 (by decide) shM_0 14 rfl (by decide) uw_X6 tyX6 tyX6_ok nmX6 mw_482 rfl rfl ⟨rfl, rfl⟩ dX6_text_113 (fun H locs hP hS => ?_)
      obtain ⟨M_12, eM_12, hf⟩ := zL_o hf
      have hP : va_P G.1 zcl (zw G shM 23 M_12) H := by rw [eM_12]; exact hP
      refine lv_bipush (v := (-100 : Int32)) hx hb dX6_text_116 (by decide) ?_
      refine lv_aload_n hx hb dX6_text_118 rfl (lv_at hl 1 rfl) ?_
      refine zr_get (C := RX6) (T := TX6) (n := 51) C0 hP 0 (by decide) shM_0 15 rfl (by decide) uw_X6 mw_458 rfl dX6_text_119 ?_
      refine lv_isub hx hb dX6_text_122 ?_
      exact ze_i C0 hP hS hf dX6_text_123 hQ
    · replace hf := zI_f c_11 hf
      refine lv_aload_n hx hb dX6_text_99 rfl (lv_at hl 1 rfl) ?_
      refine lv_dup hx hb dX6_text_100 rfl ?_
      refine zr_get (C := RX6) (T := TX6) (n := 51) C0 hP 0 (by decide) shM_0 10 rfl (by decide) uw_X6 mw_524 rfl dX6_text_101 ?_
      refine lv_dup_x1 hx hb dX6_text_104 rfl rfl ?_
      refine lv_iconst (v := (1 : Int32)) hx hb dX6_text_105 (by decide) ?_
      refine lv_iadd hx hb dX6_text_106 ?_
      refine zr_put (C := RX6) (T := TX6) (n := 51) C0 hJ hP hS 0 (by decide) shM_0 10 rfl (by decide) uw_X6 tyX6 tyX6_ok nmX6 mw_524 rfl rfl ⟨rfl, rfl⟩ dX6_text_107 (fun H locs hP hS => ?_)
      obtain ⟨M_13, eM_13, hf⟩ := zL_o hf
      have hP : va_P G.1 zcl (zw G shM 23 M_13) H := by rw [eM_13]; exact hP
      exact ze_i C0 hP hS hf dX6_text_110 hQ
  unfold fX6_text at hf
  obtain ⟨H, eH⟩ : ∃ H, H = s.heap := ⟨_, rfl⟩
  obtain ⟨locs, el⟩ : ∃ locs : List Loc, locs = [] := ⟨_, rfl⟩
  rw [← eH] at hP ⊢
  have hS : va_S (zA G 23 s.heap.size) s.heap H locs := by rw [eH, el]; exact hS
  rw [← el]
  refine lv_aload_n hx hb dX6_text_0 rfl (lv_at hl 0 rfl) ?_
  refine zr_get (C := RX6) (T := TX6) (n := 51) C0 hP 0 (by decide) shM_0 10 rfl (by decide) uw_X6 mw_524 rfl dX6_text_1 ?_
  refine lv_bipush (v := (6 : Int32)) hx hb dX6_text_4 (by decide) ?_
  refine lv_icmp_ne (tgt := 12) hx hb dX6_text_6 (by decide) (fun c_1 => ?_) (fun c_1 => ?_)
  · replace hf := zI_f c_1 hf
    refine lv_aload_n hx hb dX6_text_12 rfl (lv_at hl 0 rfl) ?_
    refine zr_get (C := RX6) (T := TX6) (n := 51) C0 hP 0 (by decide) shM_0 14 rfl (by decide) uw_X6 mw_482 rfl dX6_text_13 ?_
    refine lv_topi (fun x1_2 ex1_2 => ?_)
    replace hf := zL_e ex1_2 hf
    refine lv_istore_n (lv' := [(1, .int x1_2), (0, .ref (G.2.2.1 0))]) hx hb dX6_text_16 rfl hl (by decide) rfl (fun ls hl => ?_)
    refine lv_aload_n hx hb dX6_text_17 rfl (lv_at hl 1 rfl) ?_
    refine lv_iconst (v := (0 : Int32)) hx hb dX6_text_18 (by decide) ?_
    refine zr_put (C := RX6) (T := TX6) (n := 51) C0 hJ hP hS 0 (by decide) shM_0 16 rfl (by decide) uw_X6 tyX6 tyX6_ok nmX6 mw_457 rfl rfl ⟨rfl, rfl⟩ dX6_text_19 (fun H locs hP hS => ?_)
    obtain ⟨M_3, eM_3, hf⟩ := zL_o hf
    have hP : va_P G.1 zcl (zw G shM 23 M_3) H := by rw [eM_3]; exact hP
    refine lv_aload_n hx hb dX6_text_22 rfl (lv_at hl 1 rfl) ?_
    obtain ⟨M_4, hc_5, hf⟩ := zV_o hf
    refine zc_vv (As := []) (rest := []) C0 hP hS hl.1 0 (mtX6_next l G hJ M_3 _ hc_5) lk_X6_158 (by decide) shM_0 (T := TX6) (n' := 51) rfl ds_X6_next (by rw [hRm]; exact ⟨Nat.le_of_ble_eq_true rfl, Nat.le_of_ble_eq_true rfl⟩) rfl rfl (Nat.le_of_ble_eq_true rfl) dX6_text_23 ⟨Nat.zero_le _, Nat.zero_le _⟩ (fun H locs hP hS => ?_)
    refine lv_aload_n hx hb dX6_text_26 rfl (lv_at hl 1 rfl) ?_
    refine lv_iconst (v := (3 : Int32)) hx hb dX6_text_27 (by decide) ?_
    refine lv_aload_n hx hb dX6_text_28 rfl (lv_at hl 1 rfl) ?_
    refine zr_get (C := RX6) (T := TX6) (n := 51) C0 hP 0 (by decide) shM_0 10 rfl (by decide) uw_X6 mw_524 rfl dX6_text_29 ?_
    refine lv_imul hx hb dX6_text_32 ?_
    refine lv_ldc (v := (370000 : Int32)) hx hb hown (hts _ mw_525) dX6_text_33 ?_
    obtain ⟨r_8, M_6, hc_7, hf⟩ := zB_o hf
    refine zc_vi (As := [.int ((3 : Int32) * (M_4.1 0 10)), .int (370000 : Int32)]) (rest := []) C0 hP hS hl.1 0 (mtX6_part l G hJ ((3 : Int32) * (M_4.1 0 10)) (370000 : Int32) M_4 _ hc_7) lk_X6_206 (by decide) shM_0 (T := TX6) (n' := 51) rfl ds_X6_part (by rw [hRm]; exact ⟨Nat.le_of_ble_eq_true rfl, Nat.le_of_ble_eq_true rfl⟩) rfl rfl (Nat.le_of_ble_eq_true rfl) dX6_text_35 ⟨Nat.zero_le _, Nat.zero_le _⟩ (fun H locs hP hS => ?_)
    refine lv_if_eq (tgt := 88) hx hb dX6_text_38 (by decide) (fun c_9 => ?_) (fun c_9 => ?_)
    · replace hf := zI_t c_9 hf
      refine lv_iconst (v := (0 : Int32)) hx hb dX6_text_88 (by decide) ?_
      exact J89 x1_2 (0 : Int32) M_6 H locs ls (lv_sub hl [1, 0] rfl) hP hS hf
    · replace hf := zI_f c_9 hf
      refine lv_aload_n hx hb dX6_text_41 rfl (lv_at hl 1 rfl) ?_
      refine lv_iconst (v := (3 : Int32)) hx hb dX6_text_42 (by decide) ?_
      refine lv_aload_n hx hb dX6_text_43 rfl (lv_at hl 1 rfl) ?_
      refine zr_get (C := RX6) (T := TX6) (n := 51) C0 hP 0 (by decide) shM_0 10 rfl (by decide) uw_X6 mw_524 rfl dX6_text_44 ?_
      refine lv_imul hx hb dX6_text_47 ?_
      refine lv_iconst (v := (1 : Int32)) hx hb dX6_text_48 (by decide) ?_
      refine lv_iadd hx hb dX6_text_49 ?_
      refine lv_ldc (v := (1841662 : Int32)) hx hb hown (hts _ mw_530) dX6_text_50 ?_
      obtain ⟨r_16, M_14, hc_15, hf⟩ := zB_o hf
      refine zc_vi (As := [.int (((3 : Int32) * (M_6.1 0 10)) + (1 : Int32)), .int (1841662 : Int32)]) (rest := []) C0 hP hS hl.1 0 (mtX6_part l G hJ (((3 : Int32) * (M_6.1 0 10)) + (1 : Int32)) (1841662 : Int32) M_6 _ hc_15) lk_X6_206 (by decide) shM_0 (T := TX6) (n' := 51) rfl ds_X6_part (by rw [hRm]; exact ⟨Nat.le_of_ble_eq_true rfl, Nat.le_of_ble_eq_true rfl⟩) rfl rfl (Nat.le_of_ble_eq_true rfl) dX6_text_52 ⟨Nat.zero_le _, Nat.zero_le _⟩ (fun H locs hP hS => ?_)
      refine lv_if_eq (tgt := 88) hx hb dX6_text_55 (by decide) (fun c_17 => ?_) (fun c_17 => ?_)
      · replace hf := zI_t c_17 hf
        refine lv_iconst (v := (0 : Int32)) hx hb dX6_text_88 (by decide) ?_
        exact J89 x1_2 (0 : Int32) M_14 H locs ls (lv_sub hl [1, 0] rfl) hP hS hf
      · replace hf := zI_f c_17 hf
        refine lv_aload_n hx hb dX6_text_58 rfl (lv_at hl 1 rfl) ?_
        refine lv_iconst (v := (3 : Int32)) hx hb dX6_text_59 (by decide) ?_
        refine lv_aload_n hx hb dX6_text_60 rfl (lv_at hl 1 rfl) ?_
        refine zr_get (C := RX6) (T := TX6) (n := 51) C0 hP 0 (by decide) shM_0 10 rfl (by decide) uw_X6 mw_524 rfl dX6_text_61 ?_
        refine lv_imul hx hb dX6_text_64 ?_
        refine lv_iconst (v := (2 : Int32)) hx hb dX6_text_65 (by decide) ?_
        refine lv_iadd hx hb dX6_text_66 ?_
        refine lv_ldc (v := (369757 : Int32)) hx hb hown (hts _ mw_531) dX6_text_67 ?_
        obtain ⟨r_20, M_18, hc_19, hf⟩ := zB_o hf
        refine zc_vi (As := [.int (((3 : Int32) * (M_14.1 0 10)) + (2 : Int32)), .int (369757 : Int32)]) (rest := []) C0 hP hS hl.1 0 (mtX6_part l G hJ (((3 : Int32) * (M_14.1 0 10)) + (2 : Int32)) (369757 : Int32) M_14 _ hc_19) lk_X6_206 (by decide) shM_0 (T := TX6) (n' := 51) rfl ds_X6_part (by rw [hRm]; exact ⟨Nat.le_of_ble_eq_true rfl, Nat.le_of_ble_eq_true rfl⟩) rfl rfl (Nat.le_of_ble_eq_true rfl) dX6_text_69 ⟨Nat.zero_le _, Nat.zero_le _⟩ (fun H locs hP hS => ?_)
        refine lv_if_eq (tgt := 88) hx hb dX6_text_72 (by decide) (fun c_21 => ?_) (fun c_21 => ?_)
        · replace hf := zI_t c_21 hf
          refine lv_iconst (v := (0 : Int32)) hx hb dX6_text_88 (by decide) ?_
          exact J89 x1_2 (0 : Int32) M_18 H locs ls (lv_sub hl [1, 0] rfl) hP hS hf
        · replace hf := zI_f c_21 hf
          refine lv_aload_n hx hb dX6_text_75 rfl (lv_at hl 1 rfl) ?_
          refine zr_get (C := RX6) (T := TX6) (n := 51) C0 hP 0 (by decide) shM_0 17 rfl (by decide) uw_X6 mw_468 rfl dX6_text_76 ?_
          refine lv_bipush (v := (101 : Int32)) hx hb dX6_text_79 (by decide) ?_
          refine lv_icmp_ne (tgt := 88) hx hb dX6_text_81 (by decide) (fun c_22 => ?_) (fun c_22 => ?_)
          · replace hf := zI_f c_22 hf
            refine lv_iconst (v := (0 : Int32)) hx hb dX6_text_88 (by decide) ?_
            exact J89 x1_2 (0 : Int32) M_18 H locs ls (lv_sub hl [1, 0] rfl) hP hS hf
          · replace hf := zI_t c_22 hf
            refine lv_iconst (v := (1 : Int32)) hx hb dX6_text_84 (by decide) ?_
            refine lv_goto (tgt := 89) hx hb dX6_text_85 (by decide) ?_
            exact J89 x1_2 (1 : Int32) M_18 H locs ls (lv_sub hl [1, 0] rfl) hP hS hf
  · replace hf := zI_t c_1 hf
    refine lv_bipush (v := (-4 : Int32)) hx hb dX6_text_9 (by decide) ?_
    exact ze_i C0 hP hS hf dX6_text_11 hQ
def fX6_force (x1 : Int32) (M : zM) : Option (Int32 × zM) :=
  zB (fX6_within x1 (0 : Int32) ((M.1 0 10) - (1 : Int32)) M) fun r_3 M_1 =>
  if r_3 = (0 : Int32) then
    some ((-2 : Int32), M_1)
  else
    zL (M_1.1 0 7) fun x2_5 =>
    zL (zu M_1 0 7 x1) fun M_6 =>
    some (x2_5, M_6)
set_option maxHeartbeats 4000000 in
set_option maxRecDepth 100000 in
theorem mtX6_force (l : Launch) (G : zGr) (hJ : zJ G 23) (x1 : Int32) (M : zM) (o : Int32 × zM) (hf : fX6_force x1 M = some o) : zMi l G shM 23 yX6_force cX6_force 3 (some .int) 1 22 [.ref (G.2.2.1 0), .int x1] M o := by
  intro sz
  refine zOf (by decide) (Nat.le_of_ble_eq_true rfl) ?_
  intro p e R Q s m args below meth c hRm hsz hQ C0 hP hS ls hl
  subst hsz
  replace hRm : R = { frames := 1, cells := 0, slots := 0, locals := 22 } := hRm
  have hl : lv_has ls 3 [(0, .ref (G.2.2.1 0)), (1, .int x1)] := hl
  have hx := C0.1
  have hb := C0.2.1
  have hown := C0.2.2.2.1
  have hts := C0.2.2.2.2.1
  unfold fX6_force at hf
  obtain ⟨H, eH⟩ : ∃ H, H = s.heap := ⟨_, rfl⟩
  obtain ⟨locs, el⟩ : ∃ locs : List Loc, locs = [] := ⟨_, rfl⟩
  rw [← eH] at hP ⊢
  have hS : va_S (zA G 23 s.heap.size) s.heap H locs := by rw [eH, el]; exact hS
  rw [← el]
  refine lv_iload_n hx hb dX6_force_0 rfl (lv_at hl 1 rfl) ?_
  refine lv_iconst (v := (0 : Int32)) hx hb dX6_force_1 (by decide) ?_
  refine lv_aload_n hx hb dX6_force_2 rfl (lv_at hl 0 rfl) ?_
  refine zr_get (C := RX6) (T := TX6) (n := 51) C0 hP 0 (by decide) shM_0 10 rfl (by decide) uw_X6 mw_524 rfl dX6_force_3 ?_
  refine lv_iconst (v := (1 : Int32)) hx hb dX6_force_6 (by decide) ?_
  refine lv_isub hx hb dX6_force_7 ?_
  obtain ⟨r_3, M_1, hc_2, hf⟩ := zB_o hf
  refine zc_si (As := [.int x1, .int (0 : Int32), .int ((M.1 0 10) - (1 : Int32))]) (rest := []) C0 hP hS hl.1 (mtX6_within l G hJ x1 (0 : Int32) ((M.1 0 10) - (1 : Int32)) M _ hc_2) ls_X6_88 ds_X6_within (by rw [hRm]; exact ⟨Nat.le_of_ble_eq_true rfl, Nat.le_of_ble_eq_true rfl⟩) rfl rfl (Nat.le_of_ble_eq_true rfl) dX6_force_8 ⟨Nat.zero_le _, Nat.zero_le _⟩ (fun H locs hP hS => ?_)
  refine lv_if_ne (tgt := 17) hx hb dX6_force_11 (by decide) (fun c_4 => ?_) (fun c_4 => ?_)
  · replace hf := zI_f c_4 hf
    refine lv_aload_n hx hb dX6_force_17 rfl (lv_at hl 0 rfl) ?_
    refine zr_get (C := RX6) (T := TX6) (n := 51) C0 hP 0 (by decide) shM_0 7 rfl (by decide) uw_X6 mw_415 rfl dX6_force_18 ?_
    refine lv_topi (fun x2_5 ex2_5 => ?_)
    replace hf := zL_e ex2_5 hf
    refine lv_istore_n (lv' := [(2, .int x2_5), (0, .ref (G.2.2.1 0)), (1, .int x1)]) hx hb dX6_force_21 rfl hl (by decide) rfl (fun ls hl => ?_)
    refine lv_aload_n hx hb dX6_force_22 rfl (lv_at hl 1 rfl) ?_
    refine lv_iload_n hx hb dX6_force_23 rfl (lv_at hl 2 rfl) ?_
    refine zr_put (C := RX6) (T := TX6) (n := 51) C0 hJ hP hS 0 (by decide) shM_0 7 rfl (by decide) uw_X6 tyX6 tyX6_ok nmX6 mw_415 rfl rfl ⟨rfl, rfl⟩ dX6_force_24 (fun H locs hP hS => ?_)
    obtain ⟨M_6, eM_6, hf⟩ := zL_o hf
    have hP : va_P G.1 zcl (zw G shM 23 M_6) H := by rw [eM_6]; exact hP
    refine lv_iload_n hx hb dX6_force_27 rfl (lv_at hl 0 rfl) ?_
    exact ze_i C0 hP hS hf dX6_force_28 hQ
  · replace hf := zI_t c_4 hf
    refine lv_bipush (v := (-2 : Int32)) hx hb dX6_force_14 (by decide) ?_
    exact ze_i C0 hP hS hf dX6_force_16 hQ
def fX6_goes_B29 (r29 : Int32 → zM → Option (zM)) (x1 : Int32) (M : zM) : Option (zM) :=
  if (M.1 0 2) ≤ x1 then
    zL (zu M 0 0 ((M.1 0 0) + (1 : Int32))) fun M_3 =>
    some M_3
  else
    zG (zin x1 5) <|
    zG (zin x1 5) <|
    zB (fX6_bound ((M.1 3 x1.toNatClampNeg) + (M.1 14 x1.toNatClampNeg)) (0 : Int32) (999 : Int32) M) fun r_8 M_6 =>
    zG (zin x1 5) <|
    zL (zu M_6 3 x1.toNatClampNeg r_8) fun M_10 =>
    zL (x1 + (1 : Int32)) fun x1_11 =>
    r29 x1_11 M_10
def fX6_goes_L29 : Nat → Int32 → zM → Option (zM)
  | 0 => fun _ _ => none
  | j9 + 1 => fX6_goes_B29 (fX6_goes_L29 j9)
def fX6_goes_B2 (r2 : Int32 → zM → Option (zM)) (x1 : Int32) (M : zM) : Option (zM) :=
  if (M.1 0 2) ≤ x1 then
    fX6_goes_L29 zF (0 : Int32) M
  else
    zB (fX6_ruesOf x1 M) fun r_14 M_12 =>
    zG (zin x1 5) <|
    zL (zu M_12 14 x1.toNatClampNeg r_14) fun M_16 =>
    zL (x1 + (1 : Int32)) fun x1_17 =>
    r2 x1_17 M_16
def fX6_goes_L2 : Nat → Int32 → zM → Option (zM)
  | 0 => fun _ _ => none
  | j9 + 1 => fX6_goes_B2 (fX6_goes_L2 j9)
def fX6_goes (M : zM) : Option (zM) :=
  fX6_goes_L2 zF (0 : Int32) M
set_option maxHeartbeats 4000000 in
set_option maxRecDepth 100000 in
theorem mtX6_goes (l : Launch) (G : zGr) (hJ : zJ G 23) (M : zM) (o : zM) (hf : fX6_goes M = some o) : zMv l G shM 23 yX6_goes cX6_goes 2 none 4 91 [.ref (G.2.2.1 0)] M o := by
  intro sz
  refine zOf (by decide) (Nat.le_of_ble_eq_true rfl) ?_
  intro p e R Q s m args below meth c hRm hsz hQ C0 hP hS ls hl
  subst hsz
  replace hRm : R = { frames := 4, cells := 0, slots := 0, locals := 91 } := hRm
  have hl : lv_has ls 2 [(0, .ref (G.2.2.1 0))] := hl
  have hx := C0.1
  have hb := C0.2.1
  have hown := C0.2.2.2.1
  have hts := C0.2.2.2.2.1
  have L29 : ∀ (n29 : Nat), ∀ (x1 : Int32) (M : zM) (H : Heap) (locs : List Loc) (ls : Array Slot), lv_has ls 2 [(0, .ref (G.2.2.1 0)), (1, .int x1)] → va_P G.1 zcl (zw G shM 23 M) H → va_S (zA G 23 s.heap.size) s.heap H locs → fX6_goes_L29 n29 x1 M = some o → W p l e R s m args below meth c H locs 0 0 Q (F0 m 29 ls []) := by
    intro n29
    induction n29 with
    | zero => intro x1 M H locs ls hl hP hS hf; exact zn_s (show none = some o from hf)
    | succ n29 ih29 =>
      intro x1 M H locs ls hl hP hS hf
      replace hf : fX6_goes_B29 (fX6_goes_L29 n29) x1 M = some o := hf
      unfold fX6_goes_B29 at hf
      refine lv_iload_n hx hb dX6_goes_29 rfl (lv_at hl 1 rfl) ?_
      refine lv_aload_n hx hb dX6_goes_30 rfl (lv_at hl 0 rfl) ?_
      refine zr_get (C := RX6) (T := TX6) (n := 51) C0 hP 0 (by decide) shM_0 2 rfl (by decide) uw_X6 mw_391 rfl dX6_goes_31 ?_
      refine lv_icmp_ge (tgt := 69) hx hb dX6_goes_34 (by decide) (fun c_2 => ?_) (fun c_2 => ?_)
      · replace hf := zI_t c_2 hf
        refine lv_aload_n hx hb dX6_goes_69 rfl (lv_at hl 0 rfl) ?_
        refine lv_dup hx hb dX6_goes_70 rfl ?_
        refine zr_get (C := RX6) (T := TX6) (n := 51) C0 hP 0 (by decide) shM_0 0 rfl (by decide) uw_X6 mw_400 rfl dX6_goes_71 ?_
        refine lv_iconst (v := (1 : Int32)) hx hb dX6_goes_74 (by decide) ?_
        refine lv_iadd hx hb dX6_goes_75 ?_
        refine zr_put (C := RX6) (T := TX6) (n := 51) C0 hJ hP hS 0 (by decide) shM_0 0 rfl (by decide) uw_X6 tyX6 tyX6_ok nmX6 mw_400 rfl rfl ⟨rfl, rfl⟩ dX6_goes_76 (fun H locs hP hS => ?_)
        obtain ⟨M_3, eM_3, hf⟩ := zL_o hf
        have hP : va_P G.1 zcl (zw G shM 23 M_3) H := by rw [eM_3]; exact hP
        exact ze_v C0 hP hS hf dX6_goes_79 hQ
      · replace hf := zI_f c_2 hf
        refine lv_aload_n hx hb dX6_goes_37 rfl (lv_at hl 0 rfl) ?_
        refine zr_getq (C := RX6) (T := TX6) (n := 51) C0 hP 0 (by decide) shM_0 5 3 rfl (by decide) uw_X6 mw_403 rfl dX6_goes_38 ?_
        refine lv_iload_n hx hb dX6_goes_41 rfl (lv_at hl 1 rfl) ?_
        refine lv_aload_n hx hb dX6_goes_42 rfl (lv_at hl 0 rfl) ?_
        refine zr_getq (C := RX6) (T := TX6) (n := 51) C0 hP 0 (by decide) shM_0 5 3 rfl (by decide) uw_X6 mw_403 rfl dX6_goes_43 ?_
        refine lv_iload_n hx hb dX6_goes_46 rfl (lv_at hl 1 rfl) ?_
        obtain ⟨hg_4, hf⟩ := zG_o hf
        refine zr_iald C0 hP 3 (by decide) shM_3 hg_4 dX6_goes_47 ?_
        refine lv_aload_n hx hb dX6_goes_48 rfl (lv_at hl 0 rfl) ?_
        refine zr_getq (C := RX6) (T := TX6) (n := 51) C0 hP 0 (by decide) shM_0 32 14 rfl (by decide) uw_X6 mw_532 rfl dX6_goes_49 ?_
        refine lv_iload_n hx hb dX6_goes_52 rfl (lv_at hl 1 rfl) ?_
        obtain ⟨hg_5, hf⟩ := zG_o hf
        refine zr_iald C0 hP 14 (by decide) shM_14 hg_5 dX6_goes_53 ?_
        refine lv_iadd hx hb dX6_goes_54 ?_
        refine lv_iconst (v := (0 : Int32)) hx hb dX6_goes_55 (by decide) ?_
        refine lv_sipush (v := (999 : Int32)) hx hb dX6_goes_56 (by decide) ?_
        obtain ⟨r_8, M_6, hc_7, hf⟩ := zB_o hf
        refine zc_si (As := [.int ((M.1 3 x1.toNatClampNeg) + (M.1 14 x1.toNatClampNeg)), .int (0 : Int32), .int (999 : Int32)]) (rest := [.int x1, .ref (G.2.2.1 3)]) C0 hP hS hl.1 (mtX6_bound l G hJ ((M.1 3 x1.toNatClampNeg) + (M.1 14 x1.toNatClampNeg)) (0 : Int32) (999 : Int32) M _ hc_7) ls_X6_227 ds_X6_bound (by rw [hRm]; exact ⟨Nat.le_of_ble_eq_true rfl, Nat.le_of_ble_eq_true rfl⟩) rfl rfl (Nat.le_of_ble_eq_true rfl) dX6_goes_59 ⟨Nat.zero_le _, Nat.zero_le _⟩ (fun H locs hP hS => ?_)
        obtain ⟨hg_9, hf⟩ := zG_o hf
        refine zr_iast C0 hJ hP hS 3 (by decide) shM_3 hg_9 dX6_goes_62 (fun H locs hP hS => ?_)
        obtain ⟨M_10, eM_10, hf⟩ := zL_o hf
        have hP : va_P G.1 zcl (zw G shM 23 M_10) H := by rw [eM_10]; exact hP
        obtain ⟨x1_11, ex1_11, hf⟩ := zL_o hf
        refine lv_iinc (v := x1_11) (lv' := [(1, .int x1_11), (0, .ref (G.2.2.1 0))]) hx hb dX6_goes_63 hl (k := 1) rfl (by rw [ex1_11]; rfl) (by decide) rfl (fun ls hl => ?_)
        refine lv_goto (tgt := 29) hx hb dX6_goes_66 (by decide) ?_
        exact ih29 x1_11 M_10 H locs ls (lv_sub hl [1, 0] rfl) hP hS hf
  have L2 : ∀ (n2 : Nat), ∀ (x1 : Int32) (M : zM) (H : Heap) (locs : List Loc) (ls : Array Slot), lv_has ls 2 [(0, .ref (G.2.2.1 0)), (1, .int x1)] → va_P G.1 zcl (zw G shM 23 M) H → va_S (zA G 23 s.heap.size) s.heap H locs → fX6_goes_L2 n2 x1 M = some o → W p l e R s m args below meth c H locs 0 0 Q (F0 m 2 ls []) := by
    intro n2
    induction n2 with
    | zero => intro x1 M H locs ls hl hP hS hf; exact zn_s (show none = some o from hf)
    | succ n2 ih2 =>
      intro x1 M H locs ls hl hP hS hf
      replace hf : fX6_goes_B2 (fX6_goes_L2 n2) x1 M = some o := hf
      unfold fX6_goes_B2 at hf
      refine lv_iload_n hx hb dX6_goes_2 rfl (lv_at hl 1 rfl) ?_
      refine lv_aload_n hx hb dX6_goes_3 rfl (lv_at hl 0 rfl) ?_
      refine zr_get (C := RX6) (T := TX6) (n := 51) C0 hP 0 (by decide) shM_0 2 rfl (by decide) uw_X6 mw_391 rfl dX6_goes_4 ?_
      refine lv_icmp_ge (tgt := 27) hx hb dX6_goes_7 (by decide) (fun c_1 => ?_) (fun c_1 => ?_)
      · replace hf := zI_t c_1 hf
        refine lv_iconst (v := (0 : Int32)) hx hb dX6_goes_27 (by decide) ?_
        refine lv_istore_n (lv' := [(1, .int (0 : Int32)), (0, .ref (G.2.2.1 0))]) hx hb dX6_goes_28 rfl hl (by decide) rfl (fun ls hl => ?_)
        exact L29 zF (0 : Int32) M H locs ls (lv_sub hl [1, 0] rfl) hP hS hf
      · replace hf := zI_f c_1 hf
        refine lv_aload_n hx hb dX6_goes_10 rfl (lv_at hl 0 rfl) ?_
        refine zr_getq (C := RX6) (T := TX6) (n := 51) C0 hP 0 (by decide) shM_0 32 14 rfl (by decide) uw_X6 mw_532 rfl dX6_goes_11 ?_
        refine lv_iload_n hx hb dX6_goes_14 rfl (lv_at hl 1 rfl) ?_
        refine lv_aload_n hx hb dX6_goes_15 rfl (lv_at hl 0 rfl) ?_
        refine lv_iload_n hx hb dX6_goes_16 rfl (lv_at hl 1 rfl) ?_
        obtain ⟨r_14, M_12, hc_13, hf⟩ := zB_o hf
        refine zc_vi (As := [.int x1]) (rest := [.int x1, .ref (G.2.2.1 14)]) C0 hP hS hl.1 0 (mtX6_ruesOf l G hJ x1 M _ hc_13) lk_X6_117 (by decide) shM_0 (T := TX6) (n' := 51) rfl ds_X6_ruesOf (by rw [hRm]; exact ⟨Nat.le_of_ble_eq_true rfl, Nat.le_of_ble_eq_true rfl⟩) rfl rfl (Nat.le_of_ble_eq_true rfl) dX6_goes_17 ⟨Nat.zero_le _, Nat.zero_le _⟩ (fun H locs hP hS => ?_)
        obtain ⟨hg_15, hf⟩ := zG_o hf
        refine zr_iast C0 hJ hP hS 14 (by decide) shM_14 hg_15 dX6_goes_20 (fun H locs hP hS => ?_)
        obtain ⟨M_16, eM_16, hf⟩ := zL_o hf
        have hP : va_P G.1 zcl (zw G shM 23 M_16) H := by rw [eM_16]; exact hP
        obtain ⟨x1_17, ex1_17, hf⟩ := zL_o hf
        refine lv_iinc (v := x1_17) (lv' := [(1, .int x1_17), (0, .ref (G.2.2.1 0))]) hx hb dX6_goes_21 hl (k := 1) rfl (by rw [ex1_17]; rfl) (by decide) rfl (fun ls hl => ?_)
        refine lv_goto (tgt := 2) hx hb dX6_goes_24 (by decide) ?_
        exact ih2 x1_17 M_16 H locs ls (lv_sub hl [1, 0] rfl) hP hS hf
  unfold fX6_goes at hf
  obtain ⟨H, eH⟩ : ∃ H, H = s.heap := ⟨_, rfl⟩
  obtain ⟨locs, el⟩ : ∃ locs : List Loc, locs = [] := ⟨_, rfl⟩
  rw [← eH] at hP ⊢
  have hS : va_S (zA G 23 s.heap.size) s.heap H locs := by rw [eH, el]; exact hS
  rw [← el]
  refine lv_iconst (v := (0 : Int32)) hx hb dX6_goes_0 (by decide) ?_
  refine lv_istore_n (lv' := [(1, .int (0 : Int32)), (0, .ref (G.2.2.1 0))]) hx hb dX6_goes_1 rfl hl (by decide) rfl (fun ls hl => ?_)
  exact L2 zF (0 : Int32) M H locs ls (lv_sub hl [1, 0] rfl) hP hS hf
def fX6_allRue_B4 (r4 : Int32 → Int32 → zM → Option (Int32 × zM)) (x1 : Int32) (x2 : Int32) (M : zM) : Option (Int32 × zM) :=
  if (M.1 0 2) ≤ x2 then
    some (x1, M)
  else
    zG (zin x2 5) <|
    zL (x1 + (M.1 3 x2.toNatClampNeg)) fun x1_3 =>
    zL (x2 + (1 : Int32)) fun x2_4 =>
    r4 x1_3 x2_4 M
def fX6_allRue_L4 : Nat → Int32 → Int32 → zM → Option (Int32 × zM)
  | 0 => fun _ _ _ => none
  | j9 + 1 => fX6_allRue_B4 (fX6_allRue_L4 j9)
def fX6_allRue (M : zM) : Option (Int32 × zM) :=
  fX6_allRue_L4 zF (0 : Int32) (0 : Int32) M
set_option maxHeartbeats 4000000 in
set_option maxRecDepth 100000 in
theorem mtX6_allRue (l : Launch) (G : zGr) (hJ : zJ G 23) (M : zM) (o : Int32 × zM) (hf : fX6_allRue M = some o) : zMi l G shM 23 yX6_allRue cX6_allRue 3 (some .int) 0 0 [.ref (G.2.2.1 0)] M o := by
  intro sz
  refine zOf (by decide) (Nat.le_of_ble_eq_true rfl) ?_
  intro p e R Q s m args below meth c hRm hsz hQ C0 hP hS ls hl
  subst hsz
  replace hRm : R = { frames := 0, cells := 0, slots := 0, locals := 0 } := hRm
  have hl : lv_has ls 3 [(0, .ref (G.2.2.1 0))] := hl
  have hx := C0.1
  have hb := C0.2.1
  have hown := C0.2.2.2.1
  have hts := C0.2.2.2.2.1
  have L4 : ∀ (n4 : Nat), ∀ (x1 : Int32) (x2 : Int32) (M : zM) (H : Heap) (locs : List Loc) (ls : Array Slot), lv_has ls 3 [(0, .ref (G.2.2.1 0)), (1, .int x1), (2, .int x2)] → va_P G.1 zcl (zw G shM 23 M) H → va_S (zA G 23 s.heap.size) s.heap H locs → fX6_allRue_L4 n4 x1 x2 M = some o → W p l e R s m args below meth c H locs 0 0 Q (F0 m 4 ls []) := by
    intro n4
    induction n4 with
    | zero => intro x1 x2 M H locs ls hl hP hS hf; exact zn_s (show none = some o from hf)
    | succ n4 ih4 =>
      intro x1 x2 M H locs ls hl hP hS hf
      replace hf : fX6_allRue_B4 (fX6_allRue_L4 n4) x1 x2 M = some o := hf
      unfold fX6_allRue_B4 at hf
      refine lv_iload_n hx hb dX6_allRue_4 rfl (lv_at hl 2 rfl) ?_
      refine lv_aload_n hx hb dX6_allRue_5 rfl (lv_at hl 0 rfl) ?_
      refine zr_get (C := RX6) (T := TX6) (n := 51) C0 hP 0 (by decide) shM_0 2 rfl (by decide) uw_X6 mw_391 rfl dX6_allRue_6 ?_
      refine lv_icmp_ge (tgt := 27) hx hb dX6_allRue_9 (by decide) (fun c_1 => ?_) (fun c_1 => ?_)
      · replace hf := zI_t c_1 hf
        refine lv_iload_n hx hb dX6_allRue_27 rfl (lv_at hl 1 rfl) ?_
        exact ze_i C0 hP hS hf dX6_allRue_28 hQ
      · replace hf := zI_f c_1 hf
        refine lv_iload_n hx hb dX6_allRue_12 rfl (lv_at hl 1 rfl) ?_
        refine lv_aload_n hx hb dX6_allRue_13 rfl (lv_at hl 0 rfl) ?_
        refine zr_getq (C := RX6) (T := TX6) (n := 51) C0 hP 0 (by decide) shM_0 5 3 rfl (by decide) uw_X6 mw_403 rfl dX6_allRue_14 ?_
        refine lv_iload_n hx hb dX6_allRue_17 rfl (lv_at hl 2 rfl) ?_
        obtain ⟨hg_2, hf⟩ := zG_o hf
        refine zr_iald C0 hP 3 (by decide) shM_3 hg_2 dX6_allRue_18 ?_
        refine lv_iadd hx hb dX6_allRue_19 ?_
        refine lv_topi (fun x1_3 ex1_3 => ?_)
        replace hf := zL_e ex1_3 hf
        refine lv_istore_n (lv' := [(1, .int x1_3), (0, .ref (G.2.2.1 0)), (2, .int x2)]) hx hb dX6_allRue_20 rfl hl (by decide) rfl (fun ls hl => ?_)
        obtain ⟨x2_4, ex2_4, hf⟩ := zL_o hf
        refine lv_iinc (v := x2_4) (lv' := [(2, .int x2_4), (1, .int x1_3), (0, .ref (G.2.2.1 0))]) hx hb dX6_allRue_21 hl (k := 2) rfl (by rw [ex2_4]; rfl) (by decide) rfl (fun ls hl => ?_)
        refine lv_goto (tgt := 4) hx hb dX6_allRue_24 (by decide) ?_
        exact ih4 x1_3 x2_4 M H locs ls (lv_sub hl [2, 1, 0] rfl) hP hS hf
  unfold fX6_allRue at hf
  obtain ⟨H, eH⟩ : ∃ H, H = s.heap := ⟨_, rfl⟩
  obtain ⟨locs, el⟩ : ∃ locs : List Loc, locs = [] := ⟨_, rfl⟩
  rw [← eH] at hP ⊢
  have hS : va_S (zA G 23 s.heap.size) s.heap H locs := by rw [eH, el]; exact hS
  rw [← el]
  refine lv_iconst (v := (0 : Int32)) hx hb dX6_allRue_0 (by decide) ?_
  refine lv_istore_n (lv' := [(1, .int (0 : Int32)), (0, .ref (G.2.2.1 0))]) hx hb dX6_allRue_1 rfl hl (by decide) rfl (fun ls hl => ?_)
  refine lv_iconst (v := (0 : Int32)) hx hb dX6_allRue_2 (by decide) ?_
  refine lv_istore_n (lv' := [(2, .int (0 : Int32)), (1, .int (0 : Int32)), (0, .ref (G.2.2.1 0))]) hx hb dX6_allRue_3 rfl hl (by decide) rfl (fun ls hl => ?_)
  exact L4 zF (0 : Int32) (0 : Int32) M H locs ls (lv_sub hl [2, 1, 0] rfl) hP hS hf
def fX6_day (M : zM) : Option (Int32 × zM) :=
  if (M.1 0 0) = (999 : Int32) then
    some ((-3 : Int32), M)
  else
    zV (fX6_goes M) fun M_2 =>
    zB (fX6_allRue M_2) fun r_6 M_4 =>
    some (r_6, M_4)
set_option maxHeartbeats 4000000 in
set_option maxRecDepth 100000 in
theorem mtX6_day (l : Launch) (G : zGr) (hJ : zJ G 23) (M : zM) (o : Int32 × zM) (hf : fX6_day M = some o) : zMi l G shM 23 yX6_day cX6_day 1 (some .int) 5 112 [.ref (G.2.2.1 0)] M o := by
  intro sz
  refine zOf (by decide) (Nat.le_of_ble_eq_true rfl) ?_
  intro p e R Q s m args below meth c hRm hsz hQ C0 hP hS ls hl
  subst hsz
  replace hRm : R = { frames := 5, cells := 0, slots := 0, locals := 112 } := hRm
  have hl : lv_has ls 1 [(0, .ref (G.2.2.1 0))] := hl
  have hx := C0.1
  have hb := C0.2.1
  have hown := C0.2.2.2.1
  have hts := C0.2.2.2.2.1
  unfold fX6_day at hf
  obtain ⟨H, eH⟩ : ∃ H, H = s.heap := ⟨_, rfl⟩
  obtain ⟨locs, el⟩ : ∃ locs : List Loc, locs = [] := ⟨_, rfl⟩
  rw [← eH] at hP ⊢
  have hS : va_S (zA G 23 s.heap.size) s.heap H locs := by rw [eH, el]; exact hS
  rw [← el]
  refine lv_aload_n hx hb dX6_day_0 rfl (lv_at hl 0 rfl) ?_
  refine zr_get (C := RX6) (T := TX6) (n := 51) C0 hP 0 (by decide) shM_0 0 rfl (by decide) uw_X6 mw_400 rfl dX6_day_1 ?_
  refine lv_sipush (v := (999 : Int32)) hx hb dX6_day_4 (by decide) ?_
  refine lv_icmp_ne (tgt := 13) hx hb dX6_day_7 (by decide) (fun c_1 => ?_) (fun c_1 => ?_)
  · replace hf := zI_f c_1 hf
    refine lv_aload_n hx hb dX6_day_13 rfl (lv_at hl 0 rfl) ?_
    obtain ⟨M_2, hc_3, hf⟩ := zV_o hf
    refine zc_vv (As := []) (rest := []) C0 hP hS hl.1 0 (mtX6_goes l G hJ M _ hc_3) lk_X6_230 (by decide) shM_0 (T := TX6) (n' := 51) rfl ds_X6_goes (by rw [hRm]; exact ⟨Nat.le_of_ble_eq_true rfl, Nat.le_of_ble_eq_true rfl⟩) rfl rfl (Nat.le_of_ble_eq_true rfl) dX6_day_14 ⟨Nat.zero_le _, Nat.zero_le _⟩ (fun H locs hP hS => ?_)
    refine lv_aload_n hx hb dX6_day_17 rfl (lv_at hl 0 rfl) ?_
    obtain ⟨r_6, M_4, hc_5, hf⟩ := zB_o hf
    refine zc_vi (As := []) (rest := []) C0 hP hS hl.1 0 (mtX6_allRue l G hJ M_2 _ hc_5) lk_X6_233 (by decide) shM_0 (T := TX6) (n' := 51) rfl ds_X6_allRue (by rw [hRm]; exact ⟨Nat.le_of_ble_eq_true rfl, Nat.le_of_ble_eq_true rfl⟩) rfl rfl (Nat.le_of_ble_eq_true rfl) dX6_day_18 ⟨Nat.zero_le _, Nat.zero_le _⟩ (fun H locs hP hS => ?_)
    exact ze_i C0 hP hS hf dX6_day_21 hQ
  · replace hf := zI_t c_1 hf
    refine lv_bipush (v := (-3 : Int32)) hx hb dX6_day_10 (by decide) ?_
    exact ze_i C0 hP hS hf dX6_day_12 hQ
def fX6_drawsOff (x1 : Int32) (x2 : Int32) (x3 : Int32) (M : zM) : Option (zM) :=
  zG (zin x1 5) <|
  zG (zin x1 5) <|
  zL (zu M 3 x1.toNatClampNeg ((M.1 3 x1.toNatClampNeg) - x3)) fun M_3 =>
  zG (zin x2 5) <|
  zB (fX6_bound ((M_3.1 3 x2.toNatClampNeg) + x3) (0 : Int32) (999 : Int32) M_3) fun r_7 M_5 =>
  zG (zin x2 5) <|
  zL (zu M_5 3 x2.toNatClampNeg r_7) fun M_9 =>
  zG (zin x2 5) <|
  zB (fX6_bound ((M_9.1 4 x2.toNatClampNeg) + x3) (0 : Int32) (999 : Int32) M_9) fun r_13 M_11 =>
  zG (zin x2 5) <|
  zL (zu M_11 4 x2.toNatClampNeg r_13) fun M_15 =>
  some M_15
set_option maxHeartbeats 4000000 in
set_option maxRecDepth 100000 in
theorem mtX6_drawsOff (l : Launch) (G : zGr) (hJ : zJ G 23) (x1 : Int32) (x2 : Int32) (x3 : Int32) (M : zM) (o : zM) (hf : fX6_drawsOff x1 x2 x3 M = some o) : zMv l G shM 23 yX6_drawsOff cX6_drawsOff 4 none 1 22 [.ref (G.2.2.1 0), .int x1, .int x2, .int x3] M o := by
  intro sz
  refine zOf (by decide) (Nat.le_of_ble_eq_true rfl) ?_
  intro p e R Q s m args below meth c hRm hsz hQ C0 hP hS ls hl
  subst hsz
  replace hRm : R = { frames := 1, cells := 0, slots := 0, locals := 22 } := hRm
  have hl : lv_has ls 4 [(0, .ref (G.2.2.1 0)), (1, .int x1), (2, .int x2), (3, .int x3)] := hl
  have hx := C0.1
  have hb := C0.2.1
  have hown := C0.2.2.2.1
  have hts := C0.2.2.2.2.1
  unfold fX6_drawsOff at hf
  obtain ⟨H, eH⟩ : ∃ H, H = s.heap := ⟨_, rfl⟩
  obtain ⟨locs, el⟩ : ∃ locs : List Loc, locs = [] := ⟨_, rfl⟩
  rw [← eH] at hP ⊢
  have hS : va_S (zA G 23 s.heap.size) s.heap H locs := by rw [eH, el]; exact hS
  rw [← el]
  refine lv_aload_n hx hb dX6_drawsOff_0 rfl (lv_at hl 0 rfl) ?_
  refine zr_getq (C := RX6) (T := TX6) (n := 51) C0 hP 0 (by decide) shM_0 5 3 rfl (by decide) uw_X6 mw_403 rfl dX6_drawsOff_1 ?_
  refine lv_iload_n hx hb dX6_drawsOff_4 rfl (lv_at hl 1 rfl) ?_
  refine lv_dup2_11 hx hb dX6_drawsOff_5 rfl rfl ?_
  obtain ⟨hg_1, hf⟩ := zG_o hf
  refine zr_iald C0 hP 3 (by decide) shM_3 hg_1 dX6_drawsOff_6 ?_
  refine lv_iload_n hx hb dX6_drawsOff_7 rfl (lv_at hl 3 rfl) ?_
  refine lv_isub hx hb dX6_drawsOff_8 ?_
  obtain ⟨hg_2, hf⟩ := zG_o hf
  refine zr_iast C0 hJ hP hS 3 (by decide) shM_3 hg_2 dX6_drawsOff_9 (fun H locs hP hS => ?_)
  obtain ⟨M_3, eM_3, hf⟩ := zL_o hf
  have hP : va_P G.1 zcl (zw G shM 23 M_3) H := by rw [eM_3]; exact hP
  refine lv_aload_n hx hb dX6_drawsOff_10 rfl (lv_at hl 0 rfl) ?_
  refine zr_getq (C := RX6) (T := TX6) (n := 51) C0 hP 0 (by decide) shM_0 5 3 rfl (by decide) uw_X6 mw_403 rfl dX6_drawsOff_11 ?_
  refine lv_iload_n hx hb dX6_drawsOff_14 rfl (lv_at hl 2 rfl) ?_
  refine lv_aload_n hx hb dX6_drawsOff_15 rfl (lv_at hl 0 rfl) ?_
  refine zr_getq (C := RX6) (T := TX6) (n := 51) C0 hP 0 (by decide) shM_0 5 3 rfl (by decide) uw_X6 mw_403 rfl dX6_drawsOff_16 ?_
  refine lv_iload_n hx hb dX6_drawsOff_19 rfl (lv_at hl 2 rfl) ?_
  obtain ⟨hg_4, hf⟩ := zG_o hf
  refine zr_iald C0 hP 3 (by decide) shM_3 hg_4 dX6_drawsOff_20 ?_
  refine lv_iload_n hx hb dX6_drawsOff_21 rfl (lv_at hl 3 rfl) ?_
  refine lv_iadd hx hb dX6_drawsOff_22 ?_
  refine lv_iconst (v := (0 : Int32)) hx hb dX6_drawsOff_23 (by decide) ?_
  refine lv_sipush (v := (999 : Int32)) hx hb dX6_drawsOff_24 (by decide) ?_
  obtain ⟨r_7, M_5, hc_6, hf⟩ := zB_o hf
  refine zc_si (As := [.int ((M_3.1 3 x2.toNatClampNeg) + x3), .int (0 : Int32), .int (999 : Int32)]) (rest := [.int x2, .ref (G.2.2.1 3)]) C0 hP hS hl.1 (mtX6_bound l G hJ ((M_3.1 3 x2.toNatClampNeg) + x3) (0 : Int32) (999 : Int32) M_3 _ hc_6) ls_X6_227 ds_X6_bound (by rw [hRm]; exact ⟨Nat.le_of_ble_eq_true rfl, Nat.le_of_ble_eq_true rfl⟩) rfl rfl (Nat.le_of_ble_eq_true rfl) dX6_drawsOff_27 ⟨Nat.zero_le _, Nat.zero_le _⟩ (fun H locs hP hS => ?_)
  obtain ⟨hg_8, hf⟩ := zG_o hf
  refine zr_iast C0 hJ hP hS 3 (by decide) shM_3 hg_8 dX6_drawsOff_30 (fun H locs hP hS => ?_)
  obtain ⟨M_9, eM_9, hf⟩ := zL_o hf
  have hP : va_P G.1 zcl (zw G shM 23 M_9) H := by rw [eM_9]; exact hP
  refine lv_aload_n hx hb dX6_drawsOff_31 rfl (lv_at hl 0 rfl) ?_
  refine zr_getq (C := RX6) (T := TX6) (n := 51) C0 hP 0 (by decide) shM_0 6 4 rfl (by decide) uw_X6 mw_404 rfl dX6_drawsOff_32 ?_
  refine lv_iload_n hx hb dX6_drawsOff_35 rfl (lv_at hl 2 rfl) ?_
  refine lv_aload_n hx hb dX6_drawsOff_36 rfl (lv_at hl 0 rfl) ?_
  refine zr_getq (C := RX6) (T := TX6) (n := 51) C0 hP 0 (by decide) shM_0 6 4 rfl (by decide) uw_X6 mw_404 rfl dX6_drawsOff_37 ?_
  refine lv_iload_n hx hb dX6_drawsOff_40 rfl (lv_at hl 2 rfl) ?_
  obtain ⟨hg_10, hf⟩ := zG_o hf
  refine zr_iald C0 hP 4 (by decide) shM_4 hg_10 dX6_drawsOff_41 ?_
  refine lv_iload_n hx hb dX6_drawsOff_42 rfl (lv_at hl 3 rfl) ?_
  refine lv_iadd hx hb dX6_drawsOff_43 ?_
  refine lv_iconst (v := (0 : Int32)) hx hb dX6_drawsOff_44 (by decide) ?_
  refine lv_sipush (v := (999 : Int32)) hx hb dX6_drawsOff_45 (by decide) ?_
  obtain ⟨r_13, M_11, hc_12, hf⟩ := zB_o hf
  refine zc_si (As := [.int ((M_9.1 4 x2.toNatClampNeg) + x3), .int (0 : Int32), .int (999 : Int32)]) (rest := [.int x2, .ref (G.2.2.1 4)]) C0 hP hS hl.1 (mtX6_bound l G hJ ((M_9.1 4 x2.toNatClampNeg) + x3) (0 : Int32) (999 : Int32) M_9 _ hc_12) ls_X6_227 ds_X6_bound (by rw [hRm]; exact ⟨Nat.le_of_ble_eq_true rfl, Nat.le_of_ble_eq_true rfl⟩) rfl rfl (Nat.le_of_ble_eq_true rfl) dX6_drawsOff_48 ⟨Nat.zero_le _, Nat.zero_le _⟩ (fun H locs hP hS => ?_)
  obtain ⟨hg_14, hf⟩ := zG_o hf
  refine zr_iast C0 hJ hP hS 4 (by decide) shM_4 hg_14 dX6_drawsOff_51 (fun H locs hP hS => ?_)
  obtain ⟨M_15, eM_15, hf⟩ := zL_o hf
  have hP : va_P G.1 zcl (zw G shM 23 M_15) H := by rw [eM_15]; exact hP
  exact ze_v C0 hP hS hf dX6_drawsOff_52 hQ
def fX6_draw (x1 : Int32) (x2 : Int32) (x3 : Int32) (M : zM) : Option (Int32 × zM) :=
  zB (fX6_isOne x1 M) fun r_3 M_1 =>
  if r_3 = (0 : Int32) then
    some ((-2 : Int32), M_1)
  else
    zB (fX6_isOne x2 M_1) fun r_7 M_5 =>
    if r_7 = (0 : Int32) then
      some ((-2 : Int32), M_5)
    else
      if x1 = x2 then
        some ((-2 : Int32), M_5)
      else
        zB (fX6_within x3 (0 : Int32) (999 : Int32) M_5) fun r_12 M_10 =>
        if r_12 = (0 : Int32) then
          some ((-2 : Int32), M_10)
        else
          zG (zin x1 5) <|
          if x3 ≤ (M_10.1 3 x1.toNatClampNeg) then
            zV (fX6_drawsOff x1 x2 x3 M_10) fun M_16 =>
            zG (zin x1 5) <|
            some ((M_16.1 3 x1.toNatClampNeg), M_16)
          else
            some ((-3 : Int32), M_10)
set_option maxHeartbeats 4000000 in
set_option maxRecDepth 100000 in
theorem mtX6_draw (l : Launch) (G : zGr) (hJ : zJ G 23) (x1 : Int32) (x2 : Int32) (x3 : Int32) (M : zM) (o : Int32 × zM) (hf : fX6_draw x1 x2 x3 M = some o) : zMi l G shM 23 yX6_draw cX6_draw 4 (some .int) 2 45 [.ref (G.2.2.1 0), .int x1, .int x2, .int x3] M o := by
  intro sz
  refine zOf (by decide) (Nat.le_of_ble_eq_true rfl) ?_
  intro p e R Q s m args below meth c hRm hsz hQ C0 hP hS ls hl
  subst hsz
  replace hRm : R = { frames := 2, cells := 0, slots := 0, locals := 45 } := hRm
  have hl : lv_has ls 4 [(0, .ref (G.2.2.1 0)), (1, .int x1), (2, .int x2), (3, .int x3)] := hl
  have hx := C0.1
  have hb := C0.2.1
  have hown := C0.2.2.2.1
  have hts := C0.2.2.2.2.1
  unfold fX6_draw at hf
  obtain ⟨H, eH⟩ : ∃ H, H = s.heap := ⟨_, rfl⟩
  obtain ⟨locs, el⟩ : ∃ locs : List Loc, locs = [] := ⟨_, rfl⟩
  rw [← eH] at hP ⊢
  have hS : va_S (zA G 23 s.heap.size) s.heap H locs := by rw [eH, el]; exact hS
  rw [← el]
  refine lv_aload_n hx hb dX6_draw_0 rfl (lv_at hl 0 rfl) ?_
  refine lv_iload_n hx hb dX6_draw_1 rfl (lv_at hl 1 rfl) ?_
  obtain ⟨r_3, M_1, hc_2, hf⟩ := zB_o hf
  refine zc_vi (As := [.int x1]) (rest := []) C0 hP hS hl.1 0 (mtX6_isOne l G hJ x1 M _ hc_2) lk_X6_92 (by decide) shM_0 (T := TX6) (n' := 51) rfl ds_X6_isOne (by rw [hRm]; exact ⟨Nat.le_of_ble_eq_true rfl, Nat.le_of_ble_eq_true rfl⟩) rfl rfl (Nat.le_of_ble_eq_true rfl) dX6_draw_2 ⟨Nat.zero_le _, Nat.zero_le _⟩ (fun H locs hP hS => ?_)
  refine lv_if_eq (tgt := 32) hx hb dX6_draw_5 (by decide) (fun c_4 => ?_) (fun c_4 => ?_)
  · replace hf := zI_t c_4 hf
    refine lv_bipush (v := (-2 : Int32)) hx hb dX6_draw_32 (by decide) ?_
    exact ze_i C0 hP hS hf dX6_draw_34 hQ
  · replace hf := zI_f c_4 hf
    refine lv_aload_n hx hb dX6_draw_8 rfl (lv_at hl 0 rfl) ?_
    refine lv_iload_n hx hb dX6_draw_9 rfl (lv_at hl 2 rfl) ?_
    obtain ⟨r_7, M_5, hc_6, hf⟩ := zB_o hf
    refine zc_vi (As := [.int x2]) (rest := []) C0 hP hS hl.1 0 (mtX6_isOne l G hJ x2 M_1 _ hc_6) lk_X6_92 (by decide) shM_0 (T := TX6) (n' := 51) rfl ds_X6_isOne (by rw [hRm]; exact ⟨Nat.le_of_ble_eq_true rfl, Nat.le_of_ble_eq_true rfl⟩) rfl rfl (Nat.le_of_ble_eq_true rfl) dX6_draw_10 ⟨Nat.zero_le _, Nat.zero_le _⟩ (fun H locs hP hS => ?_)
    refine lv_if_eq (tgt := 32) hx hb dX6_draw_13 (by decide) (fun c_8 => ?_) (fun c_8 => ?_)
    · replace hf := zI_t c_8 hf
      refine lv_bipush (v := (-2 : Int32)) hx hb dX6_draw_32 (by decide) ?_
      exact ze_i C0 hP hS hf dX6_draw_34 hQ
    · replace hf := zI_f c_8 hf
      refine lv_iload_n hx hb dX6_draw_16 rfl (lv_at hl 1 rfl) ?_
      refine lv_iload_n hx hb dX6_draw_17 rfl (lv_at hl 2 rfl) ?_
      refine lv_icmp_eq (tgt := 32) hx hb dX6_draw_18 (by decide) (fun c_9 => ?_) (fun c_9 => ?_)
      · replace hf := zI_t c_9 hf
        refine lv_bipush (v := (-2 : Int32)) hx hb dX6_draw_32 (by decide) ?_
        exact ze_i C0 hP hS hf dX6_draw_34 hQ
      · replace hf := zI_f c_9 hf
        refine lv_iload_n hx hb dX6_draw_21 rfl (lv_at hl 3 rfl) ?_
        refine lv_iconst (v := (0 : Int32)) hx hb dX6_draw_22 (by decide) ?_
        refine lv_sipush (v := (999 : Int32)) hx hb dX6_draw_23 (by decide) ?_
        obtain ⟨r_12, M_10, hc_11, hf⟩ := zB_o hf
        refine zc_si (As := [.int x3, .int (0 : Int32), .int (999 : Int32)]) (rest := []) C0 hP hS hl.1 (mtX6_within l G hJ x3 (0 : Int32) (999 : Int32) M_5 _ hc_11) ls_X6_88 ds_X6_within (by rw [hRm]; exact ⟨Nat.le_of_ble_eq_true rfl, Nat.le_of_ble_eq_true rfl⟩) rfl rfl (Nat.le_of_ble_eq_true rfl) dX6_draw_26 ⟨Nat.zero_le _, Nat.zero_le _⟩ (fun H locs hP hS => ?_)
        refine lv_if_ne (tgt := 35) hx hb dX6_draw_29 (by decide) (fun c_13 => ?_) (fun c_13 => ?_)
        · replace hf := zI_f c_13 hf
          refine lv_aload_n hx hb dX6_draw_35 rfl (lv_at hl 0 rfl) ?_
          refine zr_getq (C := RX6) (T := TX6) (n := 51) C0 hP 0 (by decide) shM_0 5 3 rfl (by decide) uw_X6 mw_403 rfl dX6_draw_36 ?_
          refine lv_iload_n hx hb dX6_draw_39 rfl (lv_at hl 1 rfl) ?_
          obtain ⟨hg_14, hf⟩ := zG_o hf
          refine zr_iald C0 hP 3 (by decide) shM_3 hg_14 dX6_draw_40 ?_
          refine lv_iload_n hx hb dX6_draw_41 rfl (lv_at hl 3 rfl) ?_
          refine lv_icmp_ge (tgt := 48) hx hb dX6_draw_42 (by decide) (fun c_15 => ?_) (fun c_15 => ?_)
          · replace hf := zI_t c_15 hf
            refine lv_aload_n hx hb dX6_draw_48 rfl (lv_at hl 0 rfl) ?_
            refine lv_iload_n hx hb dX6_draw_49 rfl (lv_at hl 1 rfl) ?_
            refine lv_iload_n hx hb dX6_draw_50 rfl (lv_at hl 2 rfl) ?_
            refine lv_iload_n hx hb dX6_draw_51 rfl (lv_at hl 3 rfl) ?_
            obtain ⟨M_16, hc_17, hf⟩ := zV_o hf
            refine zc_vv (As := [.int x1, .int x2, .int x3]) (rest := []) C0 hP hS hl.1 0 (mtX6_drawsOff l G hJ x1 x2 x3 M_10 _ hc_17) lk_X6_236 (by decide) shM_0 (T := TX6) (n' := 51) rfl ds_X6_drawsOff (by rw [hRm]; exact ⟨Nat.le_of_ble_eq_true rfl, Nat.le_of_ble_eq_true rfl⟩) rfl rfl (Nat.le_of_ble_eq_true rfl) dX6_draw_52 ⟨Nat.zero_le _, Nat.zero_le _⟩ (fun H locs hP hS => ?_)
            refine lv_aload_n hx hb dX6_draw_55 rfl (lv_at hl 0 rfl) ?_
            refine zr_getq (C := RX6) (T := TX6) (n := 51) C0 hP 0 (by decide) shM_0 5 3 rfl (by decide) uw_X6 mw_403 rfl dX6_draw_56 ?_
            refine lv_iload_n hx hb dX6_draw_59 rfl (lv_at hl 1 rfl) ?_
            obtain ⟨hg_18, hf⟩ := zG_o hf
            refine zr_iald C0 hP 3 (by decide) shM_3 hg_18 dX6_draw_60 ?_
            exact ze_i C0 hP hS hf dX6_draw_61 hQ
          · replace hf := zI_f c_15 hf
            refine lv_bipush (v := (-3 : Int32)) hx hb dX6_draw_45 (by decide) ?_
            exact ze_i C0 hP hS hf dX6_draw_47 hQ
        · replace hf := zI_t c_13 hf
          refine lv_bipush (v := (-2 : Int32)) hx hb dX6_draw_32 (by decide) ?_
          exact ze_i C0 hP hS hf dX6_draw_34 hQ
def fX6_keeps_B18 (r18 : Int32 → zM → Option (zM)) (x1 : Int32) (M : zM) : Option (zM) :=
  if (5 : Int32) ≤ x1 then
    some M
  else
    zG (zin x1 5) <|
    zG (zin x1 5) <|
    zL (zu M 12 x1.toNatClampNeg (M.1 3 x1.toNatClampNeg)) fun M_6 =>
    zG (zin x1 5) <|
    zG (zin x1 5) <|
    zL (zu M_6 13 x1.toNatClampNeg (M_6.1 4 x1.toNatClampNeg)) fun M_9 =>
    zL (x1 + (1 : Int32)) fun x1_10 =>
    r18 x1_10 M_9
def fX6_keeps_L18 : Nat → Int32 → zM → Option (zM)
  | 0 => fun _ _ => none
  | j9 + 1 => fX6_keeps_B18 (fX6_keeps_L18 j9)
def fX6_keeps (M : zM) : Option (zM) :=
  zL (zu M 0 28 (M.1 0 0)) fun M_1 =>
  zL (zu M_1 0 29 (M_1.1 0 1)) fun M_2 =>
  fX6_keeps_L18 zF (0 : Int32) M_2
set_option maxHeartbeats 4000000 in
set_option maxRecDepth 100000 in
theorem mtX6_keeps (l : Launch) (G : zGr) (hJ : zJ G 23) (M : zM) (o : zM) (hf : fX6_keeps M = some o) : zMv l G shM 23 yX6_keeps cX6_keeps 2 none 0 0 [.ref (G.2.2.1 0)] M o := by
  intro sz
  refine zOf (by decide) (Nat.le_of_ble_eq_true rfl) ?_
  intro p e R Q s m args below meth c hRm hsz hQ C0 hP hS ls hl
  subst hsz
  replace hRm : R = { frames := 0, cells := 0, slots := 0, locals := 0 } := hRm
  have hl : lv_has ls 2 [(0, .ref (G.2.2.1 0))] := hl
  have hx := C0.1
  have hb := C0.2.1
  have hown := C0.2.2.2.1
  have hts := C0.2.2.2.2.1
  have L18 : ∀ (n18 : Nat), ∀ (x1 : Int32) (M : zM) (H : Heap) (locs : List Loc) (ls : Array Slot), lv_has ls 2 [(0, .ref (G.2.2.1 0)), (1, .int x1)] → va_P G.1 zcl (zw G shM 23 M) H → va_S (zA G 23 s.heap.size) s.heap H locs → fX6_keeps_L18 n18 x1 M = some o → W p l e R s m args below meth c H locs 0 0 Q (F0 m 18 ls []) := by
    intro n18
    induction n18 with
    | zero => intro x1 M H locs ls hl hP hS hf; exact zn_s (show none = some o from hf)
    | succ n18 ih18 =>
      intro x1 M H locs ls hl hP hS hf
      replace hf : fX6_keeps_B18 (fX6_keeps_L18 n18) x1 M = some o := hf
      unfold fX6_keeps_B18 at hf
      refine lv_iload_n hx hb dX6_keeps_18 rfl (lv_at hl 1 rfl) ?_
      refine lv_iconst (v := (5 : Int32)) hx hb dX6_keeps_19 (by decide) ?_
      refine lv_icmp_ge (tgt := 53) hx hb dX6_keeps_20 (by decide) (fun c_3 => ?_) (fun c_3 => ?_)
      · replace hf := zI_t c_3 hf
        exact ze_v C0 hP hS hf dX6_keeps_53 hQ
      · replace hf := zI_f c_3 hf
        refine lv_aload_n hx hb dX6_keeps_23 rfl (lv_at hl 0 rfl) ?_
        refine zr_getq (C := RX6) (T := TX6) (n := 51) C0 hP 0 (by decide) shM_0 30 12 rfl (by decide) uw_X6 mw_547 rfl dX6_keeps_24 ?_
        refine lv_iload_n hx hb dX6_keeps_27 rfl (lv_at hl 1 rfl) ?_
        refine lv_aload_n hx hb dX6_keeps_28 rfl (lv_at hl 0 rfl) ?_
        refine zr_getq (C := RX6) (T := TX6) (n := 51) C0 hP 0 (by decide) shM_0 5 3 rfl (by decide) uw_X6 mw_403 rfl dX6_keeps_29 ?_
        refine lv_iload_n hx hb dX6_keeps_32 rfl (lv_at hl 1 rfl) ?_
        obtain ⟨hg_4, hf⟩ := zG_o hf
        refine zr_iald C0 hP 3 (by decide) shM_3 hg_4 dX6_keeps_33 ?_
        obtain ⟨hg_5, hf⟩ := zG_o hf
        refine zr_iast C0 hJ hP hS 12 (by decide) shM_12 hg_5 dX6_keeps_34 (fun H locs hP hS => ?_)
        obtain ⟨M_6, eM_6, hf⟩ := zL_o hf
        have hP : va_P G.1 zcl (zw G shM 23 M_6) H := by rw [eM_6]; exact hP
        refine lv_aload_n hx hb dX6_keeps_35 rfl (lv_at hl 0 rfl) ?_
        refine zr_getq (C := RX6) (T := TX6) (n := 51) C0 hP 0 (by decide) shM_0 31 13 rfl (by decide) uw_X6 mw_548 rfl dX6_keeps_36 ?_
        refine lv_iload_n hx hb dX6_keeps_39 rfl (lv_at hl 1 rfl) ?_
        refine lv_aload_n hx hb dX6_keeps_40 rfl (lv_at hl 0 rfl) ?_
        refine zr_getq (C := RX6) (T := TX6) (n := 51) C0 hP 0 (by decide) shM_0 6 4 rfl (by decide) uw_X6 mw_404 rfl dX6_keeps_41 ?_
        refine lv_iload_n hx hb dX6_keeps_44 rfl (lv_at hl 1 rfl) ?_
        obtain ⟨hg_7, hf⟩ := zG_o hf
        refine zr_iald C0 hP 4 (by decide) shM_4 hg_7 dX6_keeps_45 ?_
        obtain ⟨hg_8, hf⟩ := zG_o hf
        refine zr_iast C0 hJ hP hS 13 (by decide) shM_13 hg_8 dX6_keeps_46 (fun H locs hP hS => ?_)
        obtain ⟨M_9, eM_9, hf⟩ := zL_o hf
        have hP : va_P G.1 zcl (zw G shM 23 M_9) H := by rw [eM_9]; exact hP
        obtain ⟨x1_10, ex1_10, hf⟩ := zL_o hf
        refine lv_iinc (v := x1_10) (lv' := [(1, .int x1_10), (0, .ref (G.2.2.1 0))]) hx hb dX6_keeps_47 hl (k := 1) rfl (by rw [ex1_10]; rfl) (by decide) rfl (fun ls hl => ?_)
        refine lv_goto (tgt := 18) hx hb dX6_keeps_50 (by decide) ?_
        exact ih18 x1_10 M_9 H locs ls (lv_sub hl [1, 0] rfl) hP hS hf
  unfold fX6_keeps at hf
  obtain ⟨H, eH⟩ : ∃ H, H = s.heap := ⟨_, rfl⟩
  obtain ⟨locs, el⟩ : ∃ locs : List Loc, locs = [] := ⟨_, rfl⟩
  rw [← eH] at hP ⊢
  have hS : va_S (zA G 23 s.heap.size) s.heap H locs := by rw [eH, el]; exact hS
  rw [← el]
  refine lv_aload_n hx hb dX6_keeps_0 rfl (lv_at hl 0 rfl) ?_
  refine lv_aload_n hx hb dX6_keeps_1 rfl (lv_at hl 0 rfl) ?_
  refine zr_get (C := RX6) (T := TX6) (n := 51) C0 hP 0 (by decide) shM_0 0 rfl (by decide) uw_X6 mw_400 rfl dX6_keeps_2 ?_
  refine zr_put (C := RX6) (T := TX6) (n := 51) C0 hJ hP hS 0 (by decide) shM_0 28 rfl (by decide) uw_X6 tyX6 tyX6_ok nmX6 mw_545 rfl rfl ⟨rfl, rfl⟩ dX6_keeps_5 (fun H locs hP hS => ?_)
  obtain ⟨M_1, eM_1, hf⟩ := zL_o hf
  have hP : va_P G.1 zcl (zw G shM 23 M_1) H := by rw [eM_1]; exact hP
  refine lv_aload_n hx hb dX6_keeps_8 rfl (lv_at hl 0 rfl) ?_
  refine lv_aload_n hx hb dX6_keeps_9 rfl (lv_at hl 0 rfl) ?_
  refine zr_get (C := RX6) (T := TX6) (n := 51) C0 hP 0 (by decide) shM_0 1 rfl (by decide) uw_X6 mw_401 rfl dX6_keeps_10 ?_
  refine zr_put (C := RX6) (T := TX6) (n := 51) C0 hJ hP hS 0 (by decide) shM_0 29 rfl (by decide) uw_X6 tyX6 tyX6_ok nmX6 mw_546 rfl rfl ⟨rfl, rfl⟩ dX6_keeps_13 (fun H locs hP hS => ?_)
  obtain ⟨M_2, eM_2, hf⟩ := zL_o hf
  have hP : va_P G.1 zcl (zw G shM 23 M_2) H := by rw [eM_2]; exact hP
  refine lv_iconst (v := (0 : Int32)) hx hb dX6_keeps_16 (by decide) ?_
  refine lv_istore_n (lv' := [(1, .int (0 : Int32)), (0, .ref (G.2.2.1 0))]) hx hb dX6_keeps_17 rfl hl (by decide) rfl (fun ls hl => ?_)
  exact L18 zF (0 : Int32) M_2 H locs ls (lv_sub hl [1, 0] rfl) hP hS hf
def fX6_restores_B18 (r18 : Int32 → zM → Option (zM)) (x1 : Int32) (M : zM) : Option (zM) :=
  if (5 : Int32) ≤ x1 then
    some M
  else
    zG (zin x1 5) <|
    zG (zin x1 5) <|
    zL (zu M 3 x1.toNatClampNeg (M.1 12 x1.toNatClampNeg)) fun M_6 =>
    zG (zin x1 5) <|
    zG (zin x1 5) <|
    zL (zu M_6 4 x1.toNatClampNeg (M_6.1 13 x1.toNatClampNeg)) fun M_9 =>
    zL (x1 + (1 : Int32)) fun x1_10 =>
    r18 x1_10 M_9
def fX6_restores_L18 : Nat → Int32 → zM → Option (zM)
  | 0 => fun _ _ => none
  | j9 + 1 => fX6_restores_B18 (fX6_restores_L18 j9)
def fX6_restores (M : zM) : Option (zM) :=
  zL (zu M 0 0 (M.1 0 28)) fun M_1 =>
  zL (zu M_1 0 1 (M_1.1 0 29)) fun M_2 =>
  fX6_restores_L18 zF (0 : Int32) M_2
set_option maxHeartbeats 4000000 in
set_option maxRecDepth 100000 in
theorem mtX6_restores (l : Launch) (G : zGr) (hJ : zJ G 23) (M : zM) (o : zM) (hf : fX6_restores M = some o) : zMv l G shM 23 yX6_restores cX6_restores 2 none 0 0 [.ref (G.2.2.1 0)] M o := by
  intro sz
  refine zOf (by decide) (Nat.le_of_ble_eq_true rfl) ?_
  intro p e R Q s m args below meth c hRm hsz hQ C0 hP hS ls hl
  subst hsz
  replace hRm : R = { frames := 0, cells := 0, slots := 0, locals := 0 } := hRm
  have hl : lv_has ls 2 [(0, .ref (G.2.2.1 0))] := hl
  have hx := C0.1
  have hb := C0.2.1
  have hown := C0.2.2.2.1
  have hts := C0.2.2.2.2.1
  have L18 : ∀ (n18 : Nat), ∀ (x1 : Int32) (M : zM) (H : Heap) (locs : List Loc) (ls : Array Slot), lv_has ls 2 [(0, .ref (G.2.2.1 0)), (1, .int x1)] → va_P G.1 zcl (zw G shM 23 M) H → va_S (zA G 23 s.heap.size) s.heap H locs → fX6_restores_L18 n18 x1 M = some o → W p l e R s m args below meth c H locs 0 0 Q (F0 m 18 ls []) := by
    intro n18
    induction n18 with
    | zero => intro x1 M H locs ls hl hP hS hf; exact zn_s (show none = some o from hf)
    | succ n18 ih18 =>
      intro x1 M H locs ls hl hP hS hf
      replace hf : fX6_restores_B18 (fX6_restores_L18 n18) x1 M = some o := hf
      unfold fX6_restores_B18 at hf
      refine lv_iload_n hx hb dX6_restores_18 rfl (lv_at hl 1 rfl) ?_
      refine lv_iconst (v := (5 : Int32)) hx hb dX6_restores_19 (by decide) ?_
      refine lv_icmp_ge (tgt := 53) hx hb dX6_restores_20 (by decide) (fun c_3 => ?_) (fun c_3 => ?_)
      · replace hf := zI_t c_3 hf
        exact ze_v C0 hP hS hf dX6_restores_53 hQ
      · replace hf := zI_f c_3 hf
        refine lv_aload_n hx hb dX6_restores_23 rfl (lv_at hl 0 rfl) ?_
        refine zr_getq (C := RX6) (T := TX6) (n := 51) C0 hP 0 (by decide) shM_0 5 3 rfl (by decide) uw_X6 mw_403 rfl dX6_restores_24 ?_
        refine lv_iload_n hx hb dX6_restores_27 rfl (lv_at hl 1 rfl) ?_
        refine lv_aload_n hx hb dX6_restores_28 rfl (lv_at hl 0 rfl) ?_
        refine zr_getq (C := RX6) (T := TX6) (n := 51) C0 hP 0 (by decide) shM_0 30 12 rfl (by decide) uw_X6 mw_547 rfl dX6_restores_29 ?_
        refine lv_iload_n hx hb dX6_restores_32 rfl (lv_at hl 1 rfl) ?_
        obtain ⟨hg_4, hf⟩ := zG_o hf
        refine zr_iald C0 hP 12 (by decide) shM_12 hg_4 dX6_restores_33 ?_
        obtain ⟨hg_5, hf⟩ := zG_o hf
        refine zr_iast C0 hJ hP hS 3 (by decide) shM_3 hg_5 dX6_restores_34 (fun H locs hP hS => ?_)
        obtain ⟨M_6, eM_6, hf⟩ := zL_o hf
        have hP : va_P G.1 zcl (zw G shM 23 M_6) H := by rw [eM_6]; exact hP
        refine lv_aload_n hx hb dX6_restores_35 rfl (lv_at hl 0 rfl) ?_
        refine zr_getq (C := RX6) (T := TX6) (n := 51) C0 hP 0 (by decide) shM_0 6 4 rfl (by decide) uw_X6 mw_404 rfl dX6_restores_36 ?_
        refine lv_iload_n hx hb dX6_restores_39 rfl (lv_at hl 1 rfl) ?_
        refine lv_aload_n hx hb dX6_restores_40 rfl (lv_at hl 0 rfl) ?_
        refine zr_getq (C := RX6) (T := TX6) (n := 51) C0 hP 0 (by decide) shM_0 31 13 rfl (by decide) uw_X6 mw_548 rfl dX6_restores_41 ?_
        refine lv_iload_n hx hb dX6_restores_44 rfl (lv_at hl 1 rfl) ?_
        obtain ⟨hg_7, hf⟩ := zG_o hf
        refine zr_iald C0 hP 13 (by decide) shM_13 hg_7 dX6_restores_45 ?_
        obtain ⟨hg_8, hf⟩ := zG_o hf
        refine zr_iast C0 hJ hP hS 4 (by decide) shM_4 hg_8 dX6_restores_46 (fun H locs hP hS => ?_)
        obtain ⟨M_9, eM_9, hf⟩ := zL_o hf
        have hP : va_P G.1 zcl (zw G shM 23 M_9) H := by rw [eM_9]; exact hP
        obtain ⟨x1_10, ex1_10, hf⟩ := zL_o hf
        refine lv_iinc (v := x1_10) (lv' := [(1, .int x1_10), (0, .ref (G.2.2.1 0))]) hx hb dX6_restores_47 hl (k := 1) rfl (by rw [ex1_10]; rfl) (by decide) rfl (fun ls hl => ?_)
        refine lv_goto (tgt := 18) hx hb dX6_restores_50 (by decide) ?_
        exact ih18 x1_10 M_9 H locs ls (lv_sub hl [1, 0] rfl) hP hS hf
  unfold fX6_restores at hf
  obtain ⟨H, eH⟩ : ∃ H, H = s.heap := ⟨_, rfl⟩
  obtain ⟨locs, el⟩ : ∃ locs : List Loc, locs = [] := ⟨_, rfl⟩
  rw [← eH] at hP ⊢
  have hS : va_S (zA G 23 s.heap.size) s.heap H locs := by rw [eH, el]; exact hS
  rw [← el]
  refine lv_aload_n hx hb dX6_restores_0 rfl (lv_at hl 0 rfl) ?_
  refine lv_aload_n hx hb dX6_restores_1 rfl (lv_at hl 0 rfl) ?_
  refine zr_get (C := RX6) (T := TX6) (n := 51) C0 hP 0 (by decide) shM_0 28 rfl (by decide) uw_X6 mw_545 rfl dX6_restores_2 ?_
  refine zr_put (C := RX6) (T := TX6) (n := 51) C0 hJ hP hS 0 (by decide) shM_0 0 rfl (by decide) uw_X6 tyX6 tyX6_ok nmX6 mw_400 rfl rfl ⟨rfl, rfl⟩ dX6_restores_5 (fun H locs hP hS => ?_)
  obtain ⟨M_1, eM_1, hf⟩ := zL_o hf
  have hP : va_P G.1 zcl (zw G shM 23 M_1) H := by rw [eM_1]; exact hP
  refine lv_aload_n hx hb dX6_restores_8 rfl (lv_at hl 0 rfl) ?_
  refine lv_aload_n hx hb dX6_restores_9 rfl (lv_at hl 0 rfl) ?_
  refine zr_get (C := RX6) (T := TX6) (n := 51) C0 hP 0 (by decide) shM_0 29 rfl (by decide) uw_X6 mw_546 rfl dX6_restores_10 ?_
  refine zr_put (C := RX6) (T := TX6) (n := 51) C0 hJ hP hS 0 (by decide) shM_0 1 rfl (by decide) uw_X6 tyX6 tyX6_ok nmX6 mw_401 rfl rfl ⟨rfl, rfl⟩ dX6_restores_13 (fun H locs hP hS => ?_)
  obtain ⟨M_2, eM_2, hf⟩ := zL_o hf
  have hP : va_P G.1 zcl (zw G shM 23 M_2) H := by rw [eM_2]; exact hP
  refine lv_iconst (v := (0 : Int32)) hx hb dX6_restores_16 (by decide) ?_
  refine lv_istore_n (lv' := [(1, .int (0 : Int32)), (0, .ref (G.2.2.1 0))]) hx hb dX6_restores_17 rfl hl (by decide) rfl (fun ls hl => ?_)
  exact L18 zF (0 : Int32) M_2 H locs ls (lv_sub hl [1, 0] rfl) hP hS hf
def fX6_run_J83 (v0 : Int32) (M : zM) : Option (Int32 × zM) :=
  zV (fX6_restores M) fun M_21 =>
  some (v0, M_21)
def fX6_run_B37 (r37 : Int32 → Int32 → Int32 → Int32 → zM → Option (Int32 × zM)) (x1 : Int32) (x2 : Int32) (x3 : Int32) (x4 : Int32) (M : zM) : Option (Int32 × zM) :=
  if x2 ≤ x4 then
    if x3 = (0 : Int32) then
      zG (zin x1 5) <|
      fX6_run_J83 (M.1 3 x1.toNatClampNeg) M
    else
      if x3 = (1 : Int32) then
        zB (fX6_minutes x1 M) fun r_25 M_23 =>
        fX6_run_J83 r_25 M_23
      else
        zB (fX6_allRue M) fun r_20 M_18 =>
        fX6_run_J83 r_20 M_18
  else
    zV (fX6_goes M) fun M_27 =>
    zL (x4 + (1 : Int32)) fun x4_29 =>
    r37 x1 x2 x3 x4_29 M_27
def fX6_run_L37 : Nat → Int32 → Int32 → Int32 → Int32 → zM → Option (Int32 × zM)
  | 0 => fun _ _ _ _ _ => none
  | j9 + 1 => fX6_run_B37 (fX6_run_L37 j9)
def fX6_run (x1 : Int32) (x2 : Int32) (x3 : Int32) (M : zM) : Option (Int32 × zM) :=
  zB (fX6_isOne x1 M) fun r_3 M_1 =>
  if r_3 = (0 : Int32) then
    some ((-2 : Int32), M_1)
  else
    zB (fX6_within x2 (0 : Int32) (40 : Int32) M_1) fun r_7 M_5 =>
    if r_7 = (0 : Int32) then
      some ((-2 : Int32), M_5)
    else
      zB (fX6_within x3 (0 : Int32) (2 : Int32) M_5) fun r_11 M_9 =>
      if r_11 = (0 : Int32) then
        some ((-2 : Int32), M_9)
      else
        zV (fX6_keeps M_9) fun M_13 =>
        fX6_run_L37 zF x1 x2 x3 (0 : Int32) M_13
set_option maxHeartbeats 4000000 in
set_option maxRecDepth 100000 in
theorem mtX6_run (l : Launch) (G : zGr) (hJ : zJ G 23) (x1 : Int32) (x2 : Int32) (x3 : Int32) (M : zM) (o : Int32 × zM) (hf : fX6_run x1 x2 x3 M = some o) : zMi l G shM 23 yX6_run cX6_run 5 (some .int) 5 113 [.ref (G.2.2.1 0), .int x1, .int x2, .int x3] M o := by
  intro sz
  refine zOf (by decide) (Nat.le_of_ble_eq_true rfl) ?_
  intro p e R Q s m args below meth c hRm hsz hQ C0 hP hS ls hl
  subst hsz
  replace hRm : R = { frames := 5, cells := 0, slots := 0, locals := 113 } := hRm
  have hl : lv_has ls 5 [(0, .ref (G.2.2.1 0)), (1, .int x1), (2, .int x2), (3, .int x3)] := hl
  have hx := C0.1
  have hb := C0.2.1
  have hown := C0.2.2.2.1
  have hts := C0.2.2.2.2.1
  have J83 : ∀ (v0 : Int32) (M : zM) (H : Heap) (locs : List Loc) (ls : Array Slot), lv_has ls 5 [(0, .ref (G.2.2.1 0))] → va_P G.1 zcl (zw G shM 23 M) H → va_S (zA G 23 s.heap.size) s.heap H locs → fX6_run_J83 v0 M = some o → W p l e R s m args below meth c H locs 0 0 Q (F0 m 83 ls [.int v0]) := by
    intro v0 M H locs ls hl hP hS hf
    unfold fX6_run_J83 at hf
    refine lv_istore (lv' := [(4, .int v0), (0, .ref (G.2.2.1 0))]) hx hb dX6_run_83 hl (by decide) rfl (fun ls hl => ?_)
    refine lv_aload_n hx hb dX6_run_85 rfl (lv_at hl 1 rfl) ?_
    obtain ⟨M_21, hc_22, hf⟩ := zV_o hf
    refine zc_vv (As := []) (rest := []) C0 hP hS hl.1 0 (mtX6_restores l G hJ M _ hc_22) lk_X6_249 (by decide) shM_0 (T := TX6) (n' := 51) rfl ds_X6_restores (by rw [hRm]; exact ⟨Nat.le_of_ble_eq_true rfl, Nat.le_of_ble_eq_true rfl⟩) rfl rfl (Nat.le_of_ble_eq_true rfl) dX6_run_86 ⟨Nat.zero_le _, Nat.zero_le _⟩ (fun H locs hP hS => ?_)
    refine lv_iload hx hb dX6_run_89 (lv_at hl 0 rfl) ?_
    exact ze_i C0 hP hS hf dX6_run_91 hQ
  have L37 : ∀ (n37 : Nat), ∀ (x1 : Int32) (x2 : Int32) (x3 : Int32) (x4 : Int32) (M : zM) (H : Heap) (locs : List Loc) (ls : Array Slot), lv_has ls 5 [(0, .ref (G.2.2.1 0)), (1, .int x1), (2, .int x2), (3, .int x3), (4, .int x4)] → va_P G.1 zcl (zw G shM 23 M) H → va_S (zA G 23 s.heap.size) s.heap H locs → fX6_run_L37 n37 x1 x2 x3 x4 M = some o → W p l e R s m args below meth c H locs 0 0 Q (F0 m 37 ls []) := by
    intro n37
    induction n37 with
    | zero => intro x1 x2 x3 x4 M H locs ls hl hP hS hf; exact zn_s (show none = some o from hf)
    | succ n37 ih37 =>
      intro x1 x2 x3 x4 M H locs ls hl hP hS hf
      replace hf : fX6_run_B37 (fX6_run_L37 n37) x1 x2 x3 x4 M = some o := hf
      unfold fX6_run_B37 at hf
      refine lv_iload hx hb dX6_run_37 (lv_at hl 4 rfl) ?_
      refine lv_iload_n hx hb dX6_run_39 rfl (lv_at hl 2 rfl) ?_
      refine lv_icmp_ge (tgt := 53) hx hb dX6_run_40 (by decide) (fun c_15 => ?_) (fun c_15 => ?_)
      · replace hf := zI_t c_15 hf
        refine lv_iload_n hx hb dX6_run_53 rfl (lv_at hl 3 rfl) ?_
        refine lv_if_ne (tgt := 66) hx hb dX6_run_54 (by decide) (fun c_16 => ?_) (fun c_16 => ?_)
        · replace hf := zI_f c_16 hf
          refine lv_iload_n hx hb dX6_run_66 rfl (lv_at hl 3 rfl) ?_
          refine lv_iconst (v := (1 : Int32)) hx hb dX6_run_67 (by decide) ?_
          refine lv_icmp_ne (tgt := 79) hx hb dX6_run_68 (by decide) (fun c_17 => ?_) (fun c_17 => ?_)
          · replace hf := zI_f c_17 hf
            refine lv_aload_n hx hb dX6_run_79 rfl (lv_at hl 0 rfl) ?_
            obtain ⟨r_20, M_18, hc_19, hf⟩ := zB_o hf
            refine zc_vi (As := []) (rest := []) C0 hP hS hl.1 0 (mtX6_allRue l G hJ M _ hc_19) lk_X6_233 (by decide) shM_0 (T := TX6) (n' := 51) rfl ds_X6_allRue (by rw [hRm]; exact ⟨Nat.le_of_ble_eq_true rfl, Nat.le_of_ble_eq_true rfl⟩) rfl rfl (Nat.le_of_ble_eq_true rfl) dX6_run_80 ⟨Nat.zero_le _, Nat.zero_le _⟩ (fun H locs hP hS => ?_)
            exact J83 r_20 M_18 H locs ls (lv_sub hl [0] rfl) hP hS hf
          · replace hf := zI_t c_17 hf
            refine lv_aload_n hx hb dX6_run_71 rfl (lv_at hl 0 rfl) ?_
            refine lv_iload_n hx hb dX6_run_72 rfl (lv_at hl 1 rfl) ?_
            obtain ⟨r_25, M_23, hc_24, hf⟩ := zB_o hf
            refine zc_vi (As := [.int x1]) (rest := []) C0 hP hS hl.1 0 (mtX6_minutes l G hJ x1 M _ hc_24) lk_X6_120 (by decide) shM_0 (T := TX6) (n' := 51) rfl ds_X6_minutes (by rw [hRm]; exact ⟨Nat.le_of_ble_eq_true rfl, Nat.le_of_ble_eq_true rfl⟩) rfl rfl (Nat.le_of_ble_eq_true rfl) dX6_run_73 ⟨Nat.zero_le _, Nat.zero_le _⟩ (fun H locs hP hS => ?_)
            refine lv_goto (tgt := 83) hx hb dX6_run_76 (by decide) ?_
            exact J83 r_25 M_23 H locs ls (lv_sub hl [0] rfl) hP hS hf
        · replace hf := zI_t c_16 hf
          refine lv_aload_n hx hb dX6_run_57 rfl (lv_at hl 0 rfl) ?_
          refine zr_getq (C := RX6) (T := TX6) (n := 51) C0 hP 0 (by decide) shM_0 5 3 rfl (by decide) uw_X6 mw_403 rfl dX6_run_58 ?_
          refine lv_iload_n hx hb dX6_run_61 rfl (lv_at hl 1 rfl) ?_
          obtain ⟨hg_26, hf⟩ := zG_o hf
          refine zr_iald C0 hP 3 (by decide) shM_3 hg_26 dX6_run_62 ?_
          refine lv_goto (tgt := 83) hx hb dX6_run_63 (by decide) ?_
          exact J83 (M.1 3 x1.toNatClampNeg) M H locs ls (lv_sub hl [0] rfl) hP hS hf
      · replace hf := zI_f c_15 hf
        refine lv_aload_n hx hb dX6_run_43 rfl (lv_at hl 0 rfl) ?_
        obtain ⟨M_27, hc_28, hf⟩ := zV_o hf
        refine zc_vv (As := []) (rest := []) C0 hP hS hl.1 0 (mtX6_goes l G hJ M _ hc_28) lk_X6_230 (by decide) shM_0 (T := TX6) (n' := 51) rfl ds_X6_goes (by rw [hRm]; exact ⟨Nat.le_of_ble_eq_true rfl, Nat.le_of_ble_eq_true rfl⟩) rfl rfl (Nat.le_of_ble_eq_true rfl) dX6_run_44 ⟨Nat.zero_le _, Nat.zero_le _⟩ (fun H locs hP hS => ?_)
        obtain ⟨x4_29, ex4_29, hf⟩ := zL_o hf
        refine lv_iinc (v := x4_29) (lv' := [(4, .int x4_29), (0, .ref (G.2.2.1 0)), (1, .int x1), (2, .int x2), (3, .int x3)]) hx hb dX6_run_47 hl (k := 4) rfl (by rw [ex4_29]; rfl) (by decide) rfl (fun ls hl => ?_)
        refine lv_goto (tgt := 37) hx hb dX6_run_50 (by decide) ?_
        exact ih37 x1 x2 x3 x4_29 M_27 H locs ls (lv_sub hl [1, 2, 3, 4, 0] rfl) hP hS hf
  unfold fX6_run at hf
  obtain ⟨H, eH⟩ : ∃ H, H = s.heap := ⟨_, rfl⟩
  obtain ⟨locs, el⟩ : ∃ locs : List Loc, locs = [] := ⟨_, rfl⟩
  rw [← eH] at hP ⊢
  have hS : va_S (zA G 23 s.heap.size) s.heap H locs := by rw [eH, el]; exact hS
  rw [← el]
  refine lv_aload_n hx hb dX6_run_0 rfl (lv_at hl 0 rfl) ?_
  refine lv_iload_n hx hb dX6_run_1 rfl (lv_at hl 1 rfl) ?_
  obtain ⟨r_3, M_1, hc_2, hf⟩ := zB_o hf
  refine zc_vi (As := [.int x1]) (rest := []) C0 hP hS hl.1 0 (mtX6_isOne l G hJ x1 M _ hc_2) lk_X6_92 (by decide) shM_0 (T := TX6) (n' := 51) rfl ds_X6_isOne (by rw [hRm]; exact ⟨Nat.le_of_ble_eq_true rfl, Nat.le_of_ble_eq_true rfl⟩) rfl rfl (Nat.le_of_ble_eq_true rfl) dX6_run_2 ⟨Nat.zero_le _, Nat.zero_le _⟩ (fun H locs hP hS => ?_)
  refine lv_if_eq (tgt := 27) hx hb dX6_run_5 (by decide) (fun c_4 => ?_) (fun c_4 => ?_)
  · replace hf := zI_t c_4 hf
    refine lv_bipush (v := (-2 : Int32)) hx hb dX6_run_27 (by decide) ?_
    exact ze_i C0 hP hS hf dX6_run_29 hQ
  · replace hf := zI_f c_4 hf
    refine lv_iload_n hx hb dX6_run_8 rfl (lv_at hl 2 rfl) ?_
    refine lv_iconst (v := (0 : Int32)) hx hb dX6_run_9 (by decide) ?_
    refine lv_bipush (v := (40 : Int32)) hx hb dX6_run_10 (by decide) ?_
    obtain ⟨r_7, M_5, hc_6, hf⟩ := zB_o hf
    refine zc_si (As := [.int x2, .int (0 : Int32), .int (40 : Int32)]) (rest := []) C0 hP hS hl.1 (mtX6_within l G hJ x2 (0 : Int32) (40 : Int32) M_1 _ hc_6) ls_X6_88 ds_X6_within (by rw [hRm]; exact ⟨Nat.le_of_ble_eq_true rfl, Nat.le_of_ble_eq_true rfl⟩) rfl rfl (Nat.le_of_ble_eq_true rfl) dX6_run_12 ⟨Nat.zero_le _, Nat.zero_le _⟩ (fun H locs hP hS => ?_)
    refine lv_if_eq (tgt := 27) hx hb dX6_run_15 (by decide) (fun c_8 => ?_) (fun c_8 => ?_)
    · replace hf := zI_t c_8 hf
      refine lv_bipush (v := (-2 : Int32)) hx hb dX6_run_27 (by decide) ?_
      exact ze_i C0 hP hS hf dX6_run_29 hQ
    · replace hf := zI_f c_8 hf
      refine lv_iload_n hx hb dX6_run_18 rfl (lv_at hl 3 rfl) ?_
      refine lv_iconst (v := (0 : Int32)) hx hb dX6_run_19 (by decide) ?_
      refine lv_iconst (v := (2 : Int32)) hx hb dX6_run_20 (by decide) ?_
      obtain ⟨r_11, M_9, hc_10, hf⟩ := zB_o hf
      refine zc_si (As := [.int x3, .int (0 : Int32), .int (2 : Int32)]) (rest := []) C0 hP hS hl.1 (mtX6_within l G hJ x3 (0 : Int32) (2 : Int32) M_5 _ hc_10) ls_X6_88 ds_X6_within (by rw [hRm]; exact ⟨Nat.le_of_ble_eq_true rfl, Nat.le_of_ble_eq_true rfl⟩) rfl rfl (Nat.le_of_ble_eq_true rfl) dX6_run_21 ⟨Nat.zero_le _, Nat.zero_le _⟩ (fun H locs hP hS => ?_)
      refine lv_if_ne (tgt := 30) hx hb dX6_run_24 (by decide) (fun c_12 => ?_) (fun c_12 => ?_)
      · replace hf := zI_f c_12 hf
        refine lv_aload_n hx hb dX6_run_30 rfl (lv_at hl 0 rfl) ?_
        obtain ⟨M_13, hc_14, hf⟩ := zV_o hf
        refine zc_vv (As := []) (rest := []) C0 hP hS hl.1 0 (mtX6_keeps l G hJ M_9 _ hc_14) lk_X6_246 (by decide) shM_0 (T := TX6) (n' := 51) rfl ds_X6_keeps (by rw [hRm]; exact ⟨Nat.le_of_ble_eq_true rfl, Nat.le_of_ble_eq_true rfl⟩) rfl rfl (Nat.le_of_ble_eq_true rfl) dX6_run_31 ⟨Nat.zero_le _, Nat.zero_le _⟩ (fun H locs hP hS => ?_)
        refine lv_iconst (v := (0 : Int32)) hx hb dX6_run_34 (by decide) ?_
        refine lv_istore (lv' := [(4, .int (0 : Int32)), (0, .ref (G.2.2.1 0)), (1, .int x1), (2, .int x2), (3, .int x3)]) hx hb dX6_run_35 hl (by decide) rfl (fun ls hl => ?_)
        exact L37 zF x1 x2 x3 (0 : Int32) M_13 H locs ls (lv_sub hl [1, 2, 3, 4, 0] rfl) hP hS hf
      · replace hf := zI_t c_12 hf
        refine lv_bipush (v := (-2 : Int32)) hx hb dX6_run_27 (by decide) ?_
        exact ze_i C0 hP hS hf dX6_run_29 hQ
def fX6_longest_B6 (r6 : Int32 → Int32 → Int32 → zM → Option (Int32 × zM)) (x1 : Int32) (x2 : Int32) (x3 : Int32) (M : zM) : Option (Int32 × zM) :=
  if (M.1 0 2) ≤ x3 then
    some (x1, M)
  else
    zB (fX6_minutes x3 M) fun r_4 M_2 =>
    if x1 = (-1 : Int32) then
      zL (x3 + (1 : Int32)) fun x3_6 =>
      r6 x3 r_4 x3_6 M_2
    else
      if x2 < r_4 then
        zL (x3 + (1 : Int32)) fun x3_8 =>
        r6 x3 r_4 x3_8 M_2
      else
        zL (x3 + (1 : Int32)) fun x3_9 =>
        r6 x1 x2 x3_9 M_2
def fX6_longest_L6 : Nat → Int32 → Int32 → Int32 → zM → Option (Int32 × zM)
  | 0 => fun _ _ _ _ => none
  | j9 + 1 => fX6_longest_B6 (fX6_longest_L6 j9)
def fX6_longest (M : zM) : Option (Int32 × zM) :=
  fX6_longest_L6 zF (-1 : Int32) (0 : Int32) (0 : Int32) M
set_option maxHeartbeats 4000000 in
set_option maxRecDepth 100000 in
theorem mtX6_longest (l : Launch) (G : zGr) (hJ : zJ G 23) (M : zM) (o : Int32 × zM) (hf : fX6_longest M = some o) : zMi l G shM 23 yX6_longest cX6_longest 5 (some .int) 5 113 [.ref (G.2.2.1 0)] M o := by
  intro sz
  refine zOf (by decide) (Nat.le_of_ble_eq_true rfl) ?_
  intro p e R Q s m args below meth c hRm hsz hQ C0 hP hS ls hl
  subst hsz
  replace hRm : R = { frames := 5, cells := 0, slots := 0, locals := 113 } := hRm
  have hl : lv_has ls 5 [(0, .ref (G.2.2.1 0))] := hl
  have hx := C0.1
  have hb := C0.2.1
  have hown := C0.2.2.2.1
  have hts := C0.2.2.2.2.1
  have L6 : ∀ (n6 : Nat), ∀ (x1 : Int32) (x2 : Int32) (x3 : Int32) (M : zM) (H : Heap) (locs : List Loc) (ls : Array Slot), lv_has ls 5 [(0, .ref (G.2.2.1 0)), (1, .int x1), (2, .int x2), (3, .int x3)] → va_P G.1 zcl (zw G shM 23 M) H → va_S (zA G 23 s.heap.size) s.heap H locs → fX6_longest_L6 n6 x1 x2 x3 M = some o → W p l e R s m args below meth c H locs 0 0 Q (F0 m 6 ls []) := by
    intro n6
    induction n6 with
    | zero => intro x1 x2 x3 M H locs ls hl hP hS hf; exact zn_s (show none = some o from hf)
    | succ n6 ih6 =>
      intro x1 x2 x3 M H locs ls hl hP hS hf
      replace hf : fX6_longest_B6 (fX6_longest_L6 n6) x1 x2 x3 M = some o := hf
      unfold fX6_longest_B6 at hf
      refine lv_iload_n hx hb dX6_longest_6 rfl (lv_at hl 3 rfl) ?_
      refine lv_aload_n hx hb dX6_longest_7 rfl (lv_at hl 0 rfl) ?_
      refine zr_get (C := RX6) (T := TX6) (n := 51) C0 hP 0 (by decide) shM_0 2 rfl (by decide) uw_X6 mw_391 rfl dX6_longest_8 ?_
      refine lv_icmp_ge (tgt := 46) hx hb dX6_longest_11 (by decide) (fun c_1 => ?_) (fun c_1 => ?_)
      · replace hf := zI_t c_1 hf
        refine lv_iload_n hx hb dX6_longest_46 rfl (lv_at hl 1 rfl) ?_
        exact ze_i C0 hP hS hf dX6_longest_47 hQ
      · replace hf := zI_f c_1 hf
        refine lv_aload_n hx hb dX6_longest_14 rfl (lv_at hl 0 rfl) ?_
        refine lv_iload_n hx hb dX6_longest_15 rfl (lv_at hl 3 rfl) ?_
        obtain ⟨r_4, M_2, hc_3, hf⟩ := zB_o hf
        refine zc_vi (As := [.int x3]) (rest := []) C0 hP hS hl.1 0 (mtX6_minutes l G hJ x3 M _ hc_3) lk_X6_120 (by decide) shM_0 (T := TX6) (n' := 51) rfl ds_X6_minutes (by rw [hRm]; exact ⟨Nat.le_of_ble_eq_true rfl, Nat.le_of_ble_eq_true rfl⟩) rfl rfl (Nat.le_of_ble_eq_true rfl) dX6_longest_16 ⟨Nat.zero_le _, Nat.zero_le _⟩ (fun H locs hP hS => ?_)
        refine lv_istore (lv' := [(4, .int r_4), (0, .ref (G.2.2.1 0)), (1, .int x1), (2, .int x2), (3, .int x3)]) hx hb dX6_longest_19 hl (by decide) rfl (fun ls hl => ?_)
        refine lv_iload_n hx hb dX6_longest_21 rfl (lv_at hl 2 rfl) ?_
        refine lv_iconst (v := (-1 : Int32)) hx hb dX6_longest_22 (by decide) ?_
        refine lv_icmp_eq (tgt := 35) hx hb dX6_longest_23 (by decide) (fun c_5 => ?_) (fun c_5 => ?_)
        · replace hf := zI_t c_5 hf
          refine lv_iload hx hb dX6_longest_35 (lv_at hl 0 rfl) ?_
          refine lv_istore_n (lv' := [(2, .int r_4), (4, .int r_4), (0, .ref (G.2.2.1 0)), (1, .int x1), (3, .int x3)]) hx hb dX6_longest_37 rfl hl (by decide) rfl (fun ls hl => ?_)
          refine lv_iload_n hx hb dX6_longest_38 rfl (lv_at hl 4 rfl) ?_
          refine lv_istore_n (lv' := [(1, .int x3), (2, .int r_4), (4, .int r_4), (0, .ref (G.2.2.1 0)), (3, .int x3)]) hx hb dX6_longest_39 rfl hl (by decide) rfl (fun ls hl => ?_)
          obtain ⟨x3_6, ex3_6, hf⟩ := zL_o hf
          refine lv_iinc (v := x3_6) (lv' := [(3, .int x3_6), (1, .int x3), (2, .int r_4), (4, .int r_4), (0, .ref (G.2.2.1 0))]) hx hb dX6_longest_40 hl (k := 4) rfl (by rw [ex3_6]; rfl) (by decide) rfl (fun ls hl => ?_)
          refine lv_goto (tgt := 6) hx hb dX6_longest_43 (by decide) ?_
          exact ih6 x3 r_4 x3_6 M_2 H locs ls (lv_sub hl [4, 1, 2, 0] rfl) hP hS hf
        · replace hf := zI_f c_5 hf
          refine lv_iload hx hb dX6_longest_26 (lv_at hl 0 rfl) ?_
          refine lv_iload_n hx hb dX6_longest_28 rfl (lv_at hl 3 rfl) ?_
          refine lv_icmp_gt (tgt := 35) hx hb dX6_longest_29 (by decide) (fun c_7 => ?_) (fun c_7 => ?_)
          · replace hf := zI_t c_7 hf
            refine lv_iload hx hb dX6_longest_35 (lv_at hl 0 rfl) ?_
            refine lv_istore_n (lv' := [(2, .int r_4), (4, .int r_4), (0, .ref (G.2.2.1 0)), (1, .int x1), (3, .int x3)]) hx hb dX6_longest_37 rfl hl (by decide) rfl (fun ls hl => ?_)
            refine lv_iload_n hx hb dX6_longest_38 rfl (lv_at hl 4 rfl) ?_
            refine lv_istore_n (lv' := [(1, .int x3), (2, .int r_4), (4, .int r_4), (0, .ref (G.2.2.1 0)), (3, .int x3)]) hx hb dX6_longest_39 rfl hl (by decide) rfl (fun ls hl => ?_)
            obtain ⟨x3_8, ex3_8, hf⟩ := zL_o hf
            refine lv_iinc (v := x3_8) (lv' := [(3, .int x3_8), (1, .int x3), (2, .int r_4), (4, .int r_4), (0, .ref (G.2.2.1 0))]) hx hb dX6_longest_40 hl (k := 4) rfl (by rw [ex3_8]; rfl) (by decide) rfl (fun ls hl => ?_)
            refine lv_goto (tgt := 6) hx hb dX6_longest_43 (by decide) ?_
            exact ih6 x3 r_4 x3_8 M_2 H locs ls (lv_sub hl [4, 1, 2, 0] rfl) hP hS hf
          · replace hf := zI_f c_7 hf
            refine lv_goto (tgt := 40) hx hb dX6_longest_32 (by decide) ?_
            obtain ⟨x3_9, ex3_9, hf⟩ := zL_o hf
            refine lv_iinc (v := x3_9) (lv' := [(3, .int x3_9), (4, .int r_4), (0, .ref (G.2.2.1 0)), (1, .int x1), (2, .int x2)]) hx hb dX6_longest_40 hl (k := 4) rfl (by rw [ex3_9]; rfl) (by decide) rfl (fun ls hl => ?_)
            refine lv_goto (tgt := 6) hx hb dX6_longest_43 (by decide) ?_
            exact ih6 x1 x2 x3_9 M_2 H locs ls (lv_sub hl [2, 3, 4, 0] rfl) hP hS hf
  unfold fX6_longest at hf
  obtain ⟨H, eH⟩ : ∃ H, H = s.heap := ⟨_, rfl⟩
  obtain ⟨locs, el⟩ : ∃ locs : List Loc, locs = [] := ⟨_, rfl⟩
  rw [← eH] at hP ⊢
  have hS : va_S (zA G 23 s.heap.size) s.heap H locs := by rw [eH, el]; exact hS
  rw [← el]
  refine lv_iconst (v := (-1 : Int32)) hx hb dX6_longest_0 (by decide) ?_
  refine lv_istore_n (lv' := [(1, .int (-1 : Int32)), (0, .ref (G.2.2.1 0))]) hx hb dX6_longest_1 rfl hl (by decide) rfl (fun ls hl => ?_)
  refine lv_iconst (v := (0 : Int32)) hx hb dX6_longest_2 (by decide) ?_
  refine lv_istore_n (lv' := [(2, .int (0 : Int32)), (1, .int (-1 : Int32)), (0, .ref (G.2.2.1 0))]) hx hb dX6_longest_3 rfl hl (by decide) rfl (fun ls hl => ?_)
  refine lv_iconst (v := (0 : Int32)) hx hb dX6_longest_4 (by decide) ?_
  refine lv_istore_n (lv' := [(3, .int (0 : Int32)), (2, .int (0 : Int32)), (1, .int (-1 : Int32)), (0, .ref (G.2.2.1 0))]) hx hb dX6_longest_5 rfl hl (by decide) rfl (fun ls hl => ?_)
  exact L6 zF (-1 : Int32) (0 : Int32) (0 : Int32) M H locs ls (lv_sub hl [3, 2, 1, 0] rfl) hP hS hf
def fX6_clogged_B4 (r4 : Int32 → Int32 → zM → Option (Int32 × zM)) (x1 : Int32) (x2 : Int32) (M : zM) : Option (Int32 × zM) :=
  if (M.1 0 2) ≤ x2 then
    some (x1, M)
  else
    zB (fX6_isClogged x2 M) fun r_4 M_2 =>
    if r_4 = (0 : Int32) then
      zL (x2 + (1 : Int32)) fun x2_6 =>
      r4 x1 x2_6 M_2
    else
      zL (x1 ||| (zshl (1 : Int32) x2)) fun x1_7 =>
      zL (x2 + (1 : Int32)) fun x2_8 =>
      r4 x1_7 x2_8 M_2
def fX6_clogged_L4 : Nat → Int32 → Int32 → zM → Option (Int32 × zM)
  | 0 => fun _ _ _ => none
  | j9 + 1 => fX6_clogged_B4 (fX6_clogged_L4 j9)
def fX6_clogged (M : zM) : Option (Int32 × zM) :=
  fX6_clogged_L4 zF (0 : Int32) (0 : Int32) M
set_option maxHeartbeats 4000000 in
set_option maxRecDepth 100000 in
theorem mtX6_clogged (l : Launch) (G : zGr) (hJ : zJ G 23) (M : zM) (o : Int32 × zM) (hf : fX6_clogged M = some o) : zMi l G shM 23 yX6_clogged cX6_clogged 3 (some .int) 4 91 [.ref (G.2.2.1 0)] M o := by
  intro sz
  refine zOf (by decide) (Nat.le_of_ble_eq_true rfl) ?_
  intro p e R Q s m args below meth c hRm hsz hQ C0 hP hS ls hl
  subst hsz
  replace hRm : R = { frames := 4, cells := 0, slots := 0, locals := 91 } := hRm
  have hl : lv_has ls 3 [(0, .ref (G.2.2.1 0))] := hl
  have hx := C0.1
  have hb := C0.2.1
  have hown := C0.2.2.2.1
  have hts := C0.2.2.2.2.1
  have L4 : ∀ (n4 : Nat), ∀ (x1 : Int32) (x2 : Int32) (M : zM) (H : Heap) (locs : List Loc) (ls : Array Slot), lv_has ls 3 [(0, .ref (G.2.2.1 0)), (1, .int x1), (2, .int x2)] → va_P G.1 zcl (zw G shM 23 M) H → va_S (zA G 23 s.heap.size) s.heap H locs → fX6_clogged_L4 n4 x1 x2 M = some o → W p l e R s m args below meth c H locs 0 0 Q (F0 m 4 ls []) := by
    intro n4
    induction n4 with
    | zero => intro x1 x2 M H locs ls hl hP hS hf; exact zn_s (show none = some o from hf)
    | succ n4 ih4 =>
      intro x1 x2 M H locs ls hl hP hS hf
      replace hf : fX6_clogged_B4 (fX6_clogged_L4 n4) x1 x2 M = some o := hf
      unfold fX6_clogged_B4 at hf
      refine lv_iload_n hx hb dX6_clogged_4 rfl (lv_at hl 2 rfl) ?_
      refine lv_aload_n hx hb dX6_clogged_5 rfl (lv_at hl 0 rfl) ?_
      refine zr_get (C := RX6) (T := TX6) (n := 51) C0 hP 0 (by decide) shM_0 2 rfl (by decide) uw_X6 mw_391 rfl dX6_clogged_6 ?_
      refine lv_icmp_ge (tgt := 32) hx hb dX6_clogged_9 (by decide) (fun c_1 => ?_) (fun c_1 => ?_)
      · replace hf := zI_t c_1 hf
        refine lv_iload_n hx hb dX6_clogged_32 rfl (lv_at hl 1 rfl) ?_
        exact ze_i C0 hP hS hf dX6_clogged_33 hQ
      · replace hf := zI_f c_1 hf
        refine lv_aload_n hx hb dX6_clogged_12 rfl (lv_at hl 0 rfl) ?_
        refine lv_iload_n hx hb dX6_clogged_13 rfl (lv_at hl 2 rfl) ?_
        obtain ⟨r_4, M_2, hc_3, hf⟩ := zB_o hf
        refine zc_vi (As := [.int x2]) (rest := []) C0 hP hS hl.1 0 (mtX6_isClogged l G hJ x2 M _ hc_3) lk_X6_114 (by decide) shM_0 (T := TX6) (n' := 51) rfl ds_X6_isClogged (by rw [hRm]; exact ⟨Nat.le_of_ble_eq_true rfl, Nat.le_of_ble_eq_true rfl⟩) rfl rfl (Nat.le_of_ble_eq_true rfl) dX6_clogged_14 ⟨Nat.zero_le _, Nat.zero_le _⟩ (fun H locs hP hS => ?_)
        refine lv_if_eq (tgt := 26) hx hb dX6_clogged_17 (by decide) (fun c_5 => ?_) (fun c_5 => ?_)
        · replace hf := zI_t c_5 hf
          obtain ⟨x2_6, ex2_6, hf⟩ := zL_o hf
          refine lv_iinc (v := x2_6) (lv' := [(2, .int x2_6), (0, .ref (G.2.2.1 0)), (1, .int x1)]) hx hb dX6_clogged_26 hl (k := 2) rfl (by rw [ex2_6]; rfl) (by decide) rfl (fun ls hl => ?_)
          refine lv_goto (tgt := 4) hx hb dX6_clogged_29 (by decide) ?_
          exact ih4 x1 x2_6 M_2 H locs ls (lv_sub hl [1, 2, 0] rfl) hP hS hf
        · replace hf := zI_f c_5 hf
          refine lv_iload_n hx hb dX6_clogged_20 rfl (lv_at hl 1 rfl) ?_
          refine lv_iconst (v := (1 : Int32)) hx hb dX6_clogged_21 (by decide) ?_
          refine lv_iload_n hx hb dX6_clogged_22 rfl (lv_at hl 2 rfl) ?_
          refine zo_ishl hx hb dX6_clogged_23 ?_
          refine lv_ior hx hb dX6_clogged_24 ?_
          refine lv_topi (fun x1_7 ex1_7 => ?_)
          replace hf := zL_e ex1_7 hf
          refine lv_istore_n (lv' := [(1, .int x1_7), (0, .ref (G.2.2.1 0)), (2, .int x2)]) hx hb dX6_clogged_25 rfl hl (by decide) rfl (fun ls hl => ?_)
          obtain ⟨x2_8, ex2_8, hf⟩ := zL_o hf
          refine lv_iinc (v := x2_8) (lv' := [(2, .int x2_8), (1, .int x1_7), (0, .ref (G.2.2.1 0))]) hx hb dX6_clogged_26 hl (k := 2) rfl (by rw [ex2_8]; rfl) (by decide) rfl (fun ls hl => ?_)
          refine lv_goto (tgt := 4) hx hb dX6_clogged_29 (by decide) ?_
          exact ih4 x1_7 x2_8 M_2 H locs ls (lv_sub hl [2, 1, 0] rfl) hP hS hf
  unfold fX6_clogged at hf
  obtain ⟨H, eH⟩ : ∃ H, H = s.heap := ⟨_, rfl⟩
  obtain ⟨locs, el⟩ : ∃ locs : List Loc, locs = [] := ⟨_, rfl⟩
  rw [← eH] at hP ⊢
  have hS : va_S (zA G 23 s.heap.size) s.heap H locs := by rw [eH, el]; exact hS
  rw [← el]
  refine lv_iconst (v := (0 : Int32)) hx hb dX6_clogged_0 (by decide) ?_
  refine lv_istore_n (lv' := [(1, .int (0 : Int32)), (0, .ref (G.2.2.1 0))]) hx hb dX6_clogged_1 rfl hl (by decide) rfl (fun ls hl => ?_)
  refine lv_iconst (v := (0 : Int32)) hx hb dX6_clogged_2 (by decide) ?_
  refine lv_istore_n (lv' := [(2, .int (0 : Int32)), (1, .int (0 : Int32)), (0, .ref (G.2.2.1 0))]) hx hb dX6_clogged_3 rfl hl (by decide) rfl (fun ls hl => ?_)
  exact L4 zF (0 : Int32) (0 : Int32) M H locs ls (lv_sub hl [2, 1, 0] rfl) hP hS hf
def fX6_all (x1 : Int32) (M : zM) : Option (Int32 × zM) :=
  zB (fX6_longest M) fun r_3 M_1 =>
  if x1 = (0 : Int32) then
    some (r_3, M_1)
  else
    if x1 = (1 : Int32) then
      if r_3 = (-1 : Int32) then
        some ((0 : Int32), M_1)
      else
        zB (fX6_minutes r_3 M_1) fun r_9 M_7 =>
        some (r_9, M_7)
    else
      if x1 = (2 : Int32) then
        zB (fX6_clogged M_1) fun r_13 M_11 =>
        some (r_13, M_11)
      else
        if x1 = (3 : Int32) then
          zB (fX6_mostRue M_1) fun r_17 M_15 =>
          some (r_17, M_15)
        else
          some ((-2 : Int32), M_1)
set_option maxHeartbeats 4000000 in
set_option maxRecDepth 100000 in
theorem mtX6_all (l : Launch) (G : zGr) (hJ : zJ G 23) (x1 : Int32) (M : zM) (o : Int32 × zM) (hf : fX6_all x1 M = some o) : zMi l G shM 23 yX6_all cX6_all 3 (some .int) 6 137 [.ref (G.2.2.1 0), .int x1] M o := by
  intro sz
  refine zOf (by decide) (Nat.le_of_ble_eq_true rfl) ?_
  intro p e R Q s m args below meth c hRm hsz hQ C0 hP hS ls hl
  subst hsz
  replace hRm : R = { frames := 6, cells := 0, slots := 0, locals := 137 } := hRm
  have hl : lv_has ls 3 [(0, .ref (G.2.2.1 0)), (1, .int x1)] := hl
  have hx := C0.1
  have hb := C0.2.1
  have hown := C0.2.2.2.1
  have hts := C0.2.2.2.2.1
  unfold fX6_all at hf
  obtain ⟨H, eH⟩ : ∃ H, H = s.heap := ⟨_, rfl⟩
  obtain ⟨locs, el⟩ : ∃ locs : List Loc, locs = [] := ⟨_, rfl⟩
  rw [← eH] at hP ⊢
  have hS : va_S (zA G 23 s.heap.size) s.heap H locs := by rw [eH, el]; exact hS
  rw [← el]
  refine lv_aload_n hx hb dX6_all_0 rfl (lv_at hl 0 rfl) ?_
  obtain ⟨r_3, M_1, hc_2, hf⟩ := zB_o hf
  refine zc_vi (As := []) (rest := []) C0 hP hS hl.1 0 (mtX6_longest l G hJ M _ hc_2) lk_X6_252 (by decide) shM_0 (T := TX6) (n' := 51) rfl ds_X6_longest (by rw [hRm]; exact ⟨Nat.le_of_ble_eq_true rfl, Nat.le_of_ble_eq_true rfl⟩) rfl rfl (Nat.le_of_ble_eq_true rfl) dX6_all_1 ⟨Nat.zero_le _, Nat.zero_le _⟩ (fun H locs hP hS => ?_)
  refine lv_istore_n (lv' := [(2, .int r_3), (0, .ref (G.2.2.1 0)), (1, .int x1)]) hx hb dX6_all_4 rfl hl (by decide) rfl (fun ls hl => ?_)
  refine lv_iload_n hx hb dX6_all_5 rfl (lv_at hl 2 rfl) ?_
  refine if c_4 : x1 = (0 : Int32) then ?_ else ?_
  · replace hf := zI_t c_4 hf
    refine lv_tableIn (tgt := 36) hx hb dX6_all_6 (by rw [c_4]; decide) (by rw [c_4]; decide) (off := 30) (by rw [c_4]; decide) (by decide) ?_
    refine lv_iload_n hx hb dX6_all_36 rfl (lv_at hl 0 rfl) ?_
    exact ze_i C0 hP hS hf dX6_all_37 hQ
  · replace hf := zI_f c_4 hf
    refine if c_5 : x1 = (1 : Int32) then ?_ else ?_
    · replace hf := zI_t c_5 hf
      refine lv_tableIn (tgt := 38) hx hb dX6_all_6 (by rw [c_5]; decide) (by rw [c_5]; decide) (off := 32) (by rw [c_5]; decide) (by decide) ?_
      refine lv_iload_n hx hb dX6_all_38 rfl (lv_at hl 0 rfl) ?_
      refine lv_iconst (v := (-1 : Int32)) hx hb dX6_all_39 (by decide) ?_
      refine lv_icmp_ne (tgt := 47) hx hb dX6_all_40 (by decide) (fun c_6 => ?_) (fun c_6 => ?_)
      · replace hf := zI_f c_6 hf
        refine lv_aload_n hx hb dX6_all_47 rfl (lv_at hl 1 rfl) ?_
        refine lv_iload_n hx hb dX6_all_48 rfl (lv_at hl 0 rfl) ?_
        obtain ⟨r_9, M_7, hc_8, hf⟩ := zB_o hf
        refine zc_vi (As := [.int r_3]) (rest := []) C0 hP hS hl.1 0 (mtX6_minutes l G hJ r_3 M_1 _ hc_8) lk_X6_120 (by decide) shM_0 (T := TX6) (n' := 51) rfl ds_X6_minutes (by rw [hRm]; exact ⟨Nat.le_of_ble_eq_true rfl, Nat.le_of_ble_eq_true rfl⟩) rfl rfl (Nat.le_of_ble_eq_true rfl) dX6_all_49 ⟨Nat.zero_le _, Nat.zero_le _⟩ (fun H locs hP hS => ?_)
        exact ze_i C0 hP hS hf dX6_all_52 hQ
      · replace hf := zI_t c_6 hf
        refine lv_iconst (v := (0 : Int32)) hx hb dX6_all_43 (by decide) ?_
        refine lv_goto (tgt := 52) hx hb dX6_all_44 (by decide) ?_
        exact ze_i C0 hP hS hf dX6_all_52 hQ
    · replace hf := zI_f c_5 hf
      refine if c_10 : x1 = (2 : Int32) then ?_ else ?_
      · replace hf := zI_t c_10 hf
        refine lv_tableIn (tgt := 53) hx hb dX6_all_6 (by rw [c_10]; decide) (by rw [c_10]; decide) (off := 47) (by rw [c_10]; decide) (by decide) ?_
        refine lv_aload_n hx hb dX6_all_53 rfl (lv_at hl 1 rfl) ?_
        obtain ⟨r_13, M_11, hc_12, hf⟩ := zB_o hf
        refine zc_vi (As := []) (rest := []) C0 hP hS hl.1 0 (mtX6_clogged l G hJ M_1 _ hc_12) lk_X6_255 (by decide) shM_0 (T := TX6) (n' := 51) rfl ds_X6_clogged (by rw [hRm]; exact ⟨Nat.le_of_ble_eq_true rfl, Nat.le_of_ble_eq_true rfl⟩) rfl rfl (Nat.le_of_ble_eq_true rfl) dX6_all_54 ⟨Nat.zero_le _, Nat.zero_le _⟩ (fun H locs hP hS => ?_)
        exact ze_i C0 hP hS hf dX6_all_57 hQ
      · replace hf := zI_f c_10 hf
        refine if c_14 : x1 = (3 : Int32) then ?_ else ?_
        · replace hf := zI_t c_14 hf
          refine lv_tableIn (tgt := 58) hx hb dX6_all_6 (by rw [c_14]; decide) (by rw [c_14]; decide) (off := 52) (by rw [c_14]; decide) (by decide) ?_
          refine lv_aload_n hx hb dX6_all_58 rfl (lv_at hl 1 rfl) ?_
          obtain ⟨r_17, M_15, hc_16, hf⟩ := zB_o hf
          refine zc_vi (As := []) (rest := []) C0 hP hS hl.1 0 (mtX6_mostRue l G hJ M_1 _ hc_16) lk_X6_218 (by decide) shM_0 (T := TX6) (n' := 51) rfl ds_X6_mostRue (by rw [hRm]; exact ⟨Nat.le_of_ble_eq_true rfl, Nat.le_of_ble_eq_true rfl⟩) rfl rfl (Nat.le_of_ble_eq_true rfl) dX6_all_59 ⟨Nat.zero_le _, Nat.zero_le _⟩ (fun H locs hP hS => ?_)
          exact ze_i C0 hP hS hf dX6_all_62 hQ
        · replace hf := zI_f c_14 hf
          have tc_4 := lv_neT (a := 0) c_4 (by decide)
          have tc_5 := lv_neT (a := 1) c_5 (by decide)
          have tc_10 := lv_neT (a := 2) c_10 (by decide)
          have tc_14 := lv_neT (a := 3) c_14 (by decide)
          refine lv_tableOut (tgt := 63) hx hb dX6_all_6 (by omega) (by decide) ?_
          refine lv_bipush (v := (-2 : Int32)) hx hb dX6_all_63 (by decide) ?_
          exact ze_i C0 hP hS hf dX6_all_65 hQ
def fX6_pours (x1 : Int32) (M : zM) : Option (zM) :=
  zB (fX6_minutes (x1 / (100 : Int32)) M) fun r_3 M_1 =>
  zL (zu M_1 0 33 r_3) fun M_4 =>
  zB (fX6_minutes (zrm (x1 / (10 : Int32)) (10 : Int32)) M_4) fun r_7 M_5 =>
  zL (zu M_5 0 34 r_7) fun M_8 =>
  zB (fX6_minutes (zrm x1 (10 : Int32)) M_8) fun r_11 M_9 =>
  zL (zu M_9 0 35 r_11) fun M_12 =>
  some M_12
set_option maxHeartbeats 4000000 in
set_option maxRecDepth 100000 in
theorem mtX6_pours (l : Launch) (G : zGr) (hJ : zJ G 23) (x1 : Int32) (M : zM) (o : zM) (hf : fX6_pours x1 M = some o) : zMv l G shM 23 yX6_pours cX6_pours 2 none 5 113 [.ref (G.2.2.1 0), .int x1] M o := by
  intro sz
  refine zOf (by decide) (Nat.le_of_ble_eq_true rfl) ?_
  intro p e R Q s m args below meth c hRm hsz hQ C0 hP hS ls hl
  subst hsz
  replace hRm : R = { frames := 5, cells := 0, slots := 0, locals := 113 } := hRm
  have hl : lv_has ls 2 [(0, .ref (G.2.2.1 0)), (1, .int x1)] := hl
  have hx := C0.1
  have hb := C0.2.1
  have hown := C0.2.2.2.1
  have hts := C0.2.2.2.2.1
  unfold fX6_pours at hf
  obtain ⟨H, eH⟩ : ∃ H, H = s.heap := ⟨_, rfl⟩
  obtain ⟨locs, el⟩ : ∃ locs : List Loc, locs = [] := ⟨_, rfl⟩
  rw [← eH] at hP ⊢
  have hS : va_S (zA G 23 s.heap.size) s.heap H locs := by rw [eH, el]; exact hS
  rw [← el]
  refine lv_aload_n hx hb dX6_pours_0 rfl (lv_at hl 0 rfl) ?_
  refine lv_aload_n hx hb dX6_pours_1 rfl (lv_at hl 0 rfl) ?_
  refine lv_iload_n hx hb dX6_pours_2 rfl (lv_at hl 1 rfl) ?_
  refine lv_bipush (v := (100 : Int32)) hx hb dX6_pours_3 (by decide) ?_
  refine lv_idiv hx hb dX6_pours_5 (by decide) ?_
  obtain ⟨r_3, M_1, hc_2, hf⟩ := zB_o hf
  refine zc_vi (As := [.int (x1 / (100 : Int32))]) (rest := [.ref (G.2.2.1 0)]) C0 hP hS hl.1 0 (mtX6_minutes l G hJ (x1 / (100 : Int32)) M _ hc_2) lk_X6_120 (by decide) shM_0 (T := TX6) (n' := 51) rfl ds_X6_minutes (by rw [hRm]; exact ⟨Nat.le_of_ble_eq_true rfl, Nat.le_of_ble_eq_true rfl⟩) rfl rfl (Nat.le_of_ble_eq_true rfl) dX6_pours_6 ⟨Nat.zero_le _, Nat.zero_le _⟩ (fun H locs hP hS => ?_)
  refine zr_put (C := RX6) (T := TX6) (n := 51) C0 hJ hP hS 0 (by decide) shM_0 33 rfl (by decide) uw_X6 tyX6 tyX6_ok nmX6 mw_565 rfl rfl ⟨rfl, rfl⟩ dX6_pours_9 (fun H locs hP hS => ?_)
  obtain ⟨M_4, eM_4, hf⟩ := zL_o hf
  have hP : va_P G.1 zcl (zw G shM 23 M_4) H := by rw [eM_4]; exact hP
  refine lv_aload_n hx hb dX6_pours_12 rfl (lv_at hl 0 rfl) ?_
  refine lv_aload_n hx hb dX6_pours_13 rfl (lv_at hl 0 rfl) ?_
  refine lv_iload_n hx hb dX6_pours_14 rfl (lv_at hl 1 rfl) ?_
  refine lv_bipush (v := (10 : Int32)) hx hb dX6_pours_15 (by decide) ?_
  refine lv_idiv hx hb dX6_pours_17 (by decide) ?_
  refine lv_bipush (v := (10 : Int32)) hx hb dX6_pours_18 (by decide) ?_
  refine zo_irem hx hb dX6_pours_20 (by decide) ?_
  obtain ⟨r_7, M_5, hc_6, hf⟩ := zB_o hf
  refine zc_vi (As := [.int (zrm (x1 / (10 : Int32)) (10 : Int32))]) (rest := [.ref (G.2.2.1 0)]) C0 hP hS hl.1 0 (mtX6_minutes l G hJ (zrm (x1 / (10 : Int32)) (10 : Int32)) M_4 _ hc_6) lk_X6_120 (by decide) shM_0 (T := TX6) (n' := 51) rfl ds_X6_minutes (by rw [hRm]; exact ⟨Nat.le_of_ble_eq_true rfl, Nat.le_of_ble_eq_true rfl⟩) rfl rfl (Nat.le_of_ble_eq_true rfl) dX6_pours_21 ⟨Nat.zero_le _, Nat.zero_le _⟩ (fun H locs hP hS => ?_)
  refine zr_put (C := RX6) (T := TX6) (n := 51) C0 hJ hP hS 0 (by decide) shM_0 34 rfl (by decide) uw_X6 tyX6 tyX6_ok nmX6 mw_566 rfl rfl ⟨rfl, rfl⟩ dX6_pours_24 (fun H locs hP hS => ?_)
  obtain ⟨M_8, eM_8, hf⟩ := zL_o hf
  have hP : va_P G.1 zcl (zw G shM 23 M_8) H := by rw [eM_8]; exact hP
  refine lv_aload_n hx hb dX6_pours_27 rfl (lv_at hl 0 rfl) ?_
  refine lv_aload_n hx hb dX6_pours_28 rfl (lv_at hl 0 rfl) ?_
  refine lv_iload_n hx hb dX6_pours_29 rfl (lv_at hl 1 rfl) ?_
  refine lv_bipush (v := (10 : Int32)) hx hb dX6_pours_30 (by decide) ?_
  refine zo_irem hx hb dX6_pours_32 (by decide) ?_
  obtain ⟨r_11, M_9, hc_10, hf⟩ := zB_o hf
  refine zc_vi (As := [.int (zrm x1 (10 : Int32))]) (rest := [.ref (G.2.2.1 0)]) C0 hP hS hl.1 0 (mtX6_minutes l G hJ (zrm x1 (10 : Int32)) M_8 _ hc_10) lk_X6_120 (by decide) shM_0 (T := TX6) (n' := 51) rfl ds_X6_minutes (by rw [hRm]; exact ⟨Nat.le_of_ble_eq_true rfl, Nat.le_of_ble_eq_true rfl⟩) rfl rfl (Nat.le_of_ble_eq_true rfl) dX6_pours_33 ⟨Nat.zero_le _, Nat.zero_le _⟩ (fun H locs hP hS => ?_)
  refine zr_put (C := RX6) (T := TX6) (n := 51) C0 hJ hP hS 0 (by decide) shM_0 35 rfl (by decide) uw_X6 tyX6 tyX6_ok nmX6 mw_567 rfl rfl ⟨rfl, rfl⟩ dX6_pours_36 (fun H locs hP hS => ?_)
  obtain ⟨M_12, eM_12, hf⟩ := zL_o hf
  have hP : va_P G.1 zcl (zw G shM 23 M_12) H := by rw [eM_12]; exact hP
  exact ze_v C0 hP hS hf dX6_pours_39 hQ
def fX6_turned_J108 (x3 : Int32) (x4 : Int32) (x5 : Int32) (x6 : Int32) (M : zM) : Option (zM) :=
  zL (zu M 0 39 x6) fun M_9 =>
  zB (fX6_bound (x3 - x6) (0 : Int32) (9 : Int32) M_9) fun r_12 M_10 =>
  zB (fX6_bound (x4 - x6) (0 : Int32) (9 : Int32) M_10) fun r_15 M_13 =>
  zB (fX6_bound (x5 - x6) (0 : Int32) (9 : Int32) M_13) fun r_18 M_16 =>
  zL (zu M_16 0 38 ((((100 : Int32) * r_12) + ((10 : Int32) * r_15)) + r_18)) fun M_19 =>
  some M_19
def fX6_turned_J87 (x3 : Int32) (x4 : Int32) (x5 : Int32) (x6 : Int32) (M : zM) : Option (zM) :=
  if x5 ≤ (0 : Int32) then
    fX6_turned_J108 x3 x4 x5 x6 M
  else
    if x6 = (0 : Int32) then
      fX6_turned_J108 x3 x4 x5 x5 M
    else
      if x6 ≤ x5 then
        fX6_turned_J108 x3 x4 x5 x6 M
      else
        fX6_turned_J108 x3 x4 x5 x5 M
def fX6_turned_J63 (x3 : Int32) (x4 : Int32) (x5 : Int32) (M : zM) : Option (zM) :=
  if x4 ≤ (0 : Int32) then
    fX6_turned_J87 x3 x4 x5 x3 M
  else
    if x3 = (0 : Int32) then
      fX6_turned_J87 x3 x4 x5 x4 M
    else
      if x3 ≤ x4 then
        fX6_turned_J87 x3 x4 x5 x3 M
      else
        fX6_turned_J87 x3 x4 x5 x4 M
def fX6_turned_J33 (x2 : Int32) (x3 : Int32) (x4 : Int32) (x5 : Int32) (M : zM) : Option (zM) :=
  if (x2 &&& (2 : Int32)) = (0 : Int32) then
    if (x2 &&& (4 : Int32)) = (0 : Int32) then
      fX6_turned_J63 x3 x4 x5 M
    else
      zL ((M.1 0 35) - x5) fun x5_24 =>
      fX6_turned_J63 x3 x4 x5_24 M
  else
    zL ((M.1 0 34) - x4) fun x4_25 =>
    if (x2 &&& (4 : Int32)) = (0 : Int32) then
      fX6_turned_J63 x3 x4_25 x5 M
    else
      zL ((M.1 0 35) - x5) fun x5_27 =>
      fX6_turned_J63 x3 x4_25 x5_27 M
def fX6_turned (x1 : Int32) (x2 : Int32) (M : zM) : Option (zM) :=
  zL (x1 / (100 : Int32)) fun x3_1 =>
  zL (zrm (x1 / (10 : Int32)) (10 : Int32)) fun x4_2 =>
  zL (zrm x1 (10 : Int32)) fun x5_3 =>
  if (x2 &&& (1 : Int32)) = (0 : Int32) then
    fX6_turned_J33 x2 x3_1 x4_2 x5_3 M
  else
    zL ((M.1 0 33) - x3_1) fun x3_28 =>
    fX6_turned_J33 x2 x3_28 x4_2 x5_3 M
set_option maxHeartbeats 4000000 in
set_option maxRecDepth 100000 in
theorem mtX6_turned (l : Launch) (G : zGr) (hJ : zJ G 23) (x1 : Int32) (x2 : Int32) (M : zM) (o : zM) (hf : fX6_turned x1 x2 M = some o) : zMv l G shM 23 yX6_turned cX6_turned 7 none 1 22 [.ref (G.2.2.1 0), .int x1, .int x2] M o := by
  intro sz
  refine zOf (by decide) (Nat.le_of_ble_eq_true rfl) ?_
  intro p e R Q s m args below meth c hRm hsz hQ C0 hP hS ls hl
  subst hsz
  replace hRm : R = { frames := 1, cells := 0, slots := 0, locals := 22 } := hRm
  have hl : lv_has ls 7 [(0, .ref (G.2.2.1 0)), (1, .int x1), (2, .int x2)] := hl
  have hx := C0.1
  have hb := C0.2.1
  have hown := C0.2.2.2.1
  have hts := C0.2.2.2.2.1
  have J108 : ∀ (x3 : Int32) (x4 : Int32) (x5 : Int32) (x6 : Int32) (M : zM) (H : Heap) (locs : List Loc) (ls : Array Slot), lv_has ls 7 [(0, .ref (G.2.2.1 0)), (3, .int x3), (4, .int x4), (5, .int x5), (6, .int x6)] → va_P G.1 zcl (zw G shM 23 M) H → va_S (zA G 23 s.heap.size) s.heap H locs → fX6_turned_J108 x3 x4 x5 x6 M = some o → W p l e R s m args below meth c H locs 0 0 Q (F0 m 108 ls []) := by
    intro x3 x4 x5 x6 M H locs ls hl hP hS hf
    unfold fX6_turned_J108 at hf
    refine lv_aload_n hx hb dX6_turned_108 rfl (lv_at hl 0 rfl) ?_
    refine lv_iload hx hb dX6_turned_109 (lv_at hl 4 rfl) ?_
    refine zr_put (C := RX6) (T := TX6) (n := 51) C0 hJ hP hS 0 (by decide) shM_0 39 rfl (by decide) uw_X6 tyX6 tyX6_ok nmX6 mw_568 rfl rfl ⟨rfl, rfl⟩ dX6_turned_111 (fun H locs hP hS => ?_)
    obtain ⟨M_9, eM_9, hf⟩ := zL_o hf
    have hP : va_P G.1 zcl (zw G shM 23 M_9) H := by rw [eM_9]; exact hP
    refine lv_aload_n hx hb dX6_turned_114 rfl (lv_at hl 0 rfl) ?_
    refine lv_bipush (v := (100 : Int32)) hx hb dX6_turned_115 (by decide) ?_
    refine lv_iload_n hx hb dX6_turned_117 rfl (lv_at hl 1 rfl) ?_
    refine lv_iload hx hb dX6_turned_118 (lv_at hl 4 rfl) ?_
    refine lv_isub hx hb dX6_turned_120 ?_
    refine lv_iconst (v := (0 : Int32)) hx hb dX6_turned_121 (by decide) ?_
    refine lv_bipush (v := (9 : Int32)) hx hb dX6_turned_122 (by decide) ?_
    obtain ⟨r_12, M_10, hc_11, hf⟩ := zB_o hf
    refine zc_si (As := [.int (x3 - x6), .int (0 : Int32), .int (9 : Int32)]) (rest := [.int (100 : Int32), .ref (G.2.2.1 0)]) C0 hP hS hl.1 (mtX6_bound l G hJ (x3 - x6) (0 : Int32) (9 : Int32) M_9 _ hc_11) ls_X6_227 ds_X6_bound (by rw [hRm]; exact ⟨Nat.le_of_ble_eq_true rfl, Nat.le_of_ble_eq_true rfl⟩) rfl rfl (Nat.le_of_ble_eq_true rfl) dX6_turned_124 ⟨Nat.zero_le _, Nat.zero_le _⟩ (fun H locs hP hS => ?_)
    refine lv_imul hx hb dX6_turned_127 ?_
    refine lv_bipush (v := (10 : Int32)) hx hb dX6_turned_128 (by decide) ?_
    refine lv_iload hx hb dX6_turned_130 (lv_at hl 2 rfl) ?_
    refine lv_iload hx hb dX6_turned_132 (lv_at hl 4 rfl) ?_
    refine lv_isub hx hb dX6_turned_134 ?_
    refine lv_iconst (v := (0 : Int32)) hx hb dX6_turned_135 (by decide) ?_
    refine lv_bipush (v := (9 : Int32)) hx hb dX6_turned_136 (by decide) ?_
    obtain ⟨r_15, M_13, hc_14, hf⟩ := zB_o hf
    refine zc_si (As := [.int (x4 - x6), .int (0 : Int32), .int (9 : Int32)]) (rest := [.int (10 : Int32), .int ((100 : Int32) * r_12), .ref (G.2.2.1 0)]) C0 hP hS hl.1 (mtX6_bound l G hJ (x4 - x6) (0 : Int32) (9 : Int32) M_10 _ hc_14) ls_X6_227 ds_X6_bound (by rw [hRm]; exact ⟨Nat.le_of_ble_eq_true rfl, Nat.le_of_ble_eq_true rfl⟩) rfl rfl (Nat.le_of_ble_eq_true rfl) dX6_turned_138 ⟨Nat.zero_le _, Nat.zero_le _⟩ (fun H locs hP hS => ?_)
    refine lv_imul hx hb dX6_turned_141 ?_
    refine lv_iadd hx hb dX6_turned_142 ?_
    refine lv_iload hx hb dX6_turned_143 (lv_at hl 3 rfl) ?_
    refine lv_iload hx hb dX6_turned_145 (lv_at hl 4 rfl) ?_
    refine lv_isub hx hb dX6_turned_147 ?_
    refine lv_iconst (v := (0 : Int32)) hx hb dX6_turned_148 (by decide) ?_
    refine lv_bipush (v := (9 : Int32)) hx hb dX6_turned_149 (by decide) ?_
    obtain ⟨r_18, M_16, hc_17, hf⟩ := zB_o hf
    refine zc_si (As := [.int (x5 - x6), .int (0 : Int32), .int (9 : Int32)]) (rest := [.int (((100 : Int32) * r_12) + ((10 : Int32) * r_15)), .ref (G.2.2.1 0)]) C0 hP hS hl.1 (mtX6_bound l G hJ (x5 - x6) (0 : Int32) (9 : Int32) M_13 _ hc_17) ls_X6_227 ds_X6_bound (by rw [hRm]; exact ⟨Nat.le_of_ble_eq_true rfl, Nat.le_of_ble_eq_true rfl⟩) rfl rfl (Nat.le_of_ble_eq_true rfl) dX6_turned_151 ⟨Nat.zero_le _, Nat.zero_le _⟩ (fun H locs hP hS => ?_)
    refine lv_iadd hx hb dX6_turned_154 ?_
    refine zr_put (C := RX6) (T := TX6) (n := 51) C0 hJ hP hS 0 (by decide) shM_0 38 rfl (by decide) uw_X6 tyX6 tyX6_ok nmX6 mw_569 rfl rfl ⟨rfl, rfl⟩ dX6_turned_155 (fun H locs hP hS => ?_)
    obtain ⟨M_19, eM_19, hf⟩ := zL_o hf
    have hP : va_P G.1 zcl (zw G shM 23 M_19) H := by rw [eM_19]; exact hP
    exact ze_v C0 hP hS hf dX6_turned_158 hQ
  have J87 : ∀ (x3 : Int32) (x4 : Int32) (x5 : Int32) (x6 : Int32) (M : zM) (H : Heap) (locs : List Loc) (ls : Array Slot), lv_has ls 7 [(0, .ref (G.2.2.1 0)), (3, .int x3), (4, .int x4), (5, .int x5), (6, .int x6)] → va_P G.1 zcl (zw G shM 23 M) H → va_S (zA G 23 s.heap.size) s.heap H locs → fX6_turned_J87 x3 x4 x5 x6 M = some o → W p l e R s m args below meth c H locs 0 0 Q (F0 m 87 ls []) := by
    intro x3 x4 x5 x6 M H locs ls hl hP hS hf
    unfold fX6_turned_J87 at hf
    refine lv_iload hx hb dX6_turned_87 (lv_at hl 3 rfl) ?_
    refine lv_if_le (tgt := 108) hx hb dX6_turned_89 (by decide) (fun c_8 => ?_) (fun c_8 => ?_)
    · replace hf := zI_t c_8 hf
      exact J108 x3 x4 x5 x6 M H locs ls (lv_sub hl [0, 1, 2, 3, 4] rfl) hP hS hf
    · replace hf := zI_f c_8 hf
      refine lv_iload hx hb dX6_turned_92 (lv_at hl 4 rfl) ?_
      refine lv_if_eq (tgt := 104) hx hb dX6_turned_94 (by decide) (fun c_20 => ?_) (fun c_20 => ?_)
      · replace hf := zI_t c_20 hf
        refine lv_iload hx hb dX6_turned_104 (lv_at hl 3 rfl) ?_
        refine lv_istore (lv' := [(6, .int x5), (0, .ref (G.2.2.1 0)), (3, .int x3), (4, .int x4), (5, .int x5)]) hx hb dX6_turned_106 hl (by decide) rfl (fun ls hl => ?_)
        exact J108 x3 x4 x5 x5 M H locs ls (lv_sub hl [1, 2, 3, 4, 0] rfl) hP hS hf
      · replace hf := zI_f c_20 hf
        refine lv_iload hx hb dX6_turned_97 (lv_at hl 3 rfl) ?_
        refine lv_iload hx hb dX6_turned_99 (lv_at hl 4 rfl) ?_
        refine lv_icmp_ge (tgt := 108) hx hb dX6_turned_101 (by decide) (fun c_21 => ?_) (fun c_21 => ?_)
        · replace hf := zI_t c_21 hf
          exact J108 x3 x4 x5 x6 M H locs ls (lv_sub hl [0, 1, 2, 3, 4] rfl) hP hS hf
        · replace hf := zI_f c_21 hf
          refine lv_iload hx hb dX6_turned_104 (lv_at hl 3 rfl) ?_
          refine lv_istore (lv' := [(6, .int x5), (0, .ref (G.2.2.1 0)), (3, .int x3), (4, .int x4), (5, .int x5)]) hx hb dX6_turned_106 hl (by decide) rfl (fun ls hl => ?_)
          exact J108 x3 x4 x5 x5 M H locs ls (lv_sub hl [1, 2, 3, 4, 0] rfl) hP hS hf
  have J63 : ∀ (x3 : Int32) (x4 : Int32) (x5 : Int32) (M : zM) (H : Heap) (locs : List Loc) (ls : Array Slot), lv_has ls 7 [(0, .ref (G.2.2.1 0)), (3, .int x3), (4, .int x4), (5, .int x5)] → va_P G.1 zcl (zw G shM 23 M) H → va_S (zA G 23 s.heap.size) s.heap H locs → fX6_turned_J63 x3 x4 x5 M = some o → W p l e R s m args below meth c H locs 0 0 Q (F0 m 63 ls []) := by
    intro x3 x4 x5 M H locs ls hl hP hS hf
    unfold fX6_turned_J63 at hf
    refine lv_iload_n hx hb dX6_turned_63 rfl (lv_at hl 1 rfl) ?_
    refine lv_istore (lv' := [(6, .int x3), (0, .ref (G.2.2.1 0)), (3, .int x3), (4, .int x4), (5, .int x5)]) hx hb dX6_turned_64 hl (by decide) rfl (fun ls hl => ?_)
    refine lv_iload hx hb dX6_turned_66 (lv_at hl 3 rfl) ?_
    refine lv_if_le (tgt := 87) hx hb dX6_turned_68 (by decide) (fun c_7 => ?_) (fun c_7 => ?_)
    · replace hf := zI_t c_7 hf
      exact J87 x3 x4 x5 x3 M H locs ls (lv_sub hl [1, 2, 3, 4, 0] rfl) hP hS hf
    · replace hf := zI_f c_7 hf
      refine lv_iload hx hb dX6_turned_71 (lv_at hl 0 rfl) ?_
      refine lv_if_eq (tgt := 83) hx hb dX6_turned_73 (by decide) (fun c_22 => ?_) (fun c_22 => ?_)
      · replace hf := zI_t c_22 hf
        refine lv_iload hx hb dX6_turned_83 (lv_at hl 3 rfl) ?_
        refine lv_istore (lv' := [(6, .int x4), (0, .ref (G.2.2.1 0)), (3, .int x3), (4, .int x4), (5, .int x5)]) hx hb dX6_turned_85 hl (by decide) rfl (fun ls hl => ?_)
        exact J87 x3 x4 x5 x4 M H locs ls (lv_sub hl [1, 2, 3, 4, 0] rfl) hP hS hf
      · replace hf := zI_f c_22 hf
        refine lv_iload hx hb dX6_turned_76 (lv_at hl 3 rfl) ?_
        refine lv_iload hx hb dX6_turned_78 (lv_at hl 0 rfl) ?_
        refine lv_icmp_ge (tgt := 87) hx hb dX6_turned_80 (by decide) (fun c_23 => ?_) (fun c_23 => ?_)
        · replace hf := zI_t c_23 hf
          exact J87 x3 x4 x5 x3 M H locs ls (lv_sub hl [1, 2, 3, 4, 0] rfl) hP hS hf
        · replace hf := zI_f c_23 hf
          refine lv_iload hx hb dX6_turned_83 (lv_at hl 3 rfl) ?_
          refine lv_istore (lv' := [(6, .int x4), (0, .ref (G.2.2.1 0)), (3, .int x3), (4, .int x4), (5, .int x5)]) hx hb dX6_turned_85 hl (by decide) rfl (fun ls hl => ?_)
          exact J87 x3 x4 x5 x4 M H locs ls (lv_sub hl [1, 2, 3, 4, 0] rfl) hP hS hf
  have J33 : ∀ (x2 : Int32) (x3 : Int32) (x4 : Int32) (x5 : Int32) (M : zM) (H : Heap) (locs : List Loc) (ls : Array Slot), lv_has ls 7 [(0, .ref (G.2.2.1 0)), (2, .int x2), (3, .int x3), (4, .int x4), (5, .int x5)] → va_P G.1 zcl (zw G shM 23 M) H → va_S (zA G 23 s.heap.size) s.heap H locs → fX6_turned_J33 x2 x3 x4 x5 M = some o → W p l e R s m args below meth c H locs 0 0 Q (F0 m 33 ls []) := by
    intro x2 x3 x4 x5 M H locs ls hl hP hS hf
    unfold fX6_turned_J33 at hf
    refine lv_iload_n hx hb dX6_turned_33 rfl (lv_at hl 1 rfl) ?_
    refine lv_iconst (v := (2 : Int32)) hx hb dX6_turned_34 (by decide) ?_
    refine lv_iand hx hb dX6_turned_35 ?_
    refine lv_if_eq (tgt := 48) hx hb dX6_turned_36 (by decide) (fun c_5 => ?_) (fun c_5 => ?_)
    · replace hf := zI_t c_5 hf
      refine lv_iload_n hx hb dX6_turned_48 rfl (lv_at hl 1 rfl) ?_
      refine lv_iconst (v := (4 : Int32)) hx hb dX6_turned_49 (by decide) ?_
      refine lv_iand hx hb dX6_turned_50 ?_
      refine lv_if_eq (tgt := 63) hx hb dX6_turned_51 (by decide) (fun c_6 => ?_) (fun c_6 => ?_)
      · replace hf := zI_t c_6 hf
        exact J63 x3 x4 x5 M H locs ls (lv_sub hl [0, 2, 3, 4] rfl) hP hS hf
      · replace hf := zI_f c_6 hf
        refine lv_aload_n hx hb dX6_turned_54 rfl (lv_at hl 0 rfl) ?_
        refine zr_get (C := RX6) (T := TX6) (n := 51) C0 hP 0 (by decide) shM_0 35 rfl (by decide) uw_X6 mw_567 rfl dX6_turned_55 ?_
        refine lv_iload hx hb dX6_turned_58 (lv_at hl 4 rfl) ?_
        refine lv_isub hx hb dX6_turned_60 ?_
        refine lv_topi (fun x5_24 ex5_24 => ?_)
        replace hf := zL_e ex5_24 hf
        refine lv_istore (lv' := [(5, .int x5_24), (0, .ref (G.2.2.1 0)), (2, .int x2), (3, .int x3), (4, .int x4)]) hx hb dX6_turned_61 hl (by decide) rfl (fun ls hl => ?_)
        exact J63 x3 x4 x5_24 M H locs ls (lv_sub hl [1, 3, 4, 0] rfl) hP hS hf
    · replace hf := zI_f c_5 hf
      refine lv_aload_n hx hb dX6_turned_39 rfl (lv_at hl 0 rfl) ?_
      refine zr_get (C := RX6) (T := TX6) (n := 51) C0 hP 0 (by decide) shM_0 34 rfl (by decide) uw_X6 mw_566 rfl dX6_turned_40 ?_
      refine lv_iload hx hb dX6_turned_43 (lv_at hl 3 rfl) ?_
      refine lv_isub hx hb dX6_turned_45 ?_
      refine lv_topi (fun x4_25 ex4_25 => ?_)
      replace hf := zL_e ex4_25 hf
      refine lv_istore (lv' := [(4, .int x4_25), (0, .ref (G.2.2.1 0)), (2, .int x2), (3, .int x3), (5, .int x5)]) hx hb dX6_turned_46 hl (by decide) rfl (fun ls hl => ?_)
      refine lv_iload_n hx hb dX6_turned_48 rfl (lv_at hl 2 rfl) ?_
      refine lv_iconst (v := (4 : Int32)) hx hb dX6_turned_49 (by decide) ?_
      refine lv_iand hx hb dX6_turned_50 ?_
      refine lv_if_eq (tgt := 63) hx hb dX6_turned_51 (by decide) (fun c_26 => ?_) (fun c_26 => ?_)
      · replace hf := zI_t c_26 hf
        exact J63 x3 x4_25 x5 M H locs ls (lv_sub hl [1, 3, 0, 4] rfl) hP hS hf
      · replace hf := zI_f c_26 hf
        refine lv_aload_n hx hb dX6_turned_54 rfl (lv_at hl 1 rfl) ?_
        refine zr_get (C := RX6) (T := TX6) (n := 51) C0 hP 0 (by decide) shM_0 35 rfl (by decide) uw_X6 mw_567 rfl dX6_turned_55 ?_
        refine lv_iload hx hb dX6_turned_58 (lv_at hl 4 rfl) ?_
        refine lv_isub hx hb dX6_turned_60 ?_
        refine lv_topi (fun x5_27 ex5_27 => ?_)
        replace hf := zL_e ex5_27 hf
        refine lv_istore (lv' := [(5, .int x5_27), (4, .int x4_25), (0, .ref (G.2.2.1 0)), (2, .int x2), (3, .int x3)]) hx hb dX6_turned_61 hl (by decide) rfl (fun ls hl => ?_)
        exact J63 x3 x4_25 x5_27 M H locs ls (lv_sub hl [2, 4, 1, 0] rfl) hP hS hf
  unfold fX6_turned at hf
  obtain ⟨H, eH⟩ : ∃ H, H = s.heap := ⟨_, rfl⟩
  obtain ⟨locs, el⟩ : ∃ locs : List Loc, locs = [] := ⟨_, rfl⟩
  rw [← eH] at hP ⊢
  have hS : va_S (zA G 23 s.heap.size) s.heap H locs := by rw [eH, el]; exact hS
  rw [← el]
  refine lv_iload_n hx hb dX6_turned_0 rfl (lv_at hl 1 rfl) ?_
  refine lv_bipush (v := (100 : Int32)) hx hb dX6_turned_1 (by decide) ?_
  refine lv_idiv hx hb dX6_turned_3 (by decide) ?_
  refine lv_topi (fun x3_1 ex3_1 => ?_)
  replace hf := zL_e ex3_1 hf
  refine lv_istore_n (lv' := [(3, .int x3_1), (0, .ref (G.2.2.1 0)), (1, .int x1), (2, .int x2)]) hx hb dX6_turned_4 rfl hl (by decide) rfl (fun ls hl => ?_)
  refine lv_iload_n hx hb dX6_turned_5 rfl (lv_at hl 2 rfl) ?_
  refine lv_bipush (v := (10 : Int32)) hx hb dX6_turned_6 (by decide) ?_
  refine lv_idiv hx hb dX6_turned_8 (by decide) ?_
  refine lv_bipush (v := (10 : Int32)) hx hb dX6_turned_9 (by decide) ?_
  refine zo_irem hx hb dX6_turned_11 (by decide) ?_
  refine lv_topi (fun x4_2 ex4_2 => ?_)
  replace hf := zL_e ex4_2 hf
  refine lv_istore (lv' := [(4, .int x4_2), (3, .int x3_1), (0, .ref (G.2.2.1 0)), (1, .int x1), (2, .int x2)]) hx hb dX6_turned_12 hl (by decide) rfl (fun ls hl => ?_)
  refine lv_iload_n hx hb dX6_turned_14 rfl (lv_at hl 3 rfl) ?_
  refine lv_bipush (v := (10 : Int32)) hx hb dX6_turned_15 (by decide) ?_
  refine zo_irem hx hb dX6_turned_17 (by decide) ?_
  refine lv_topi (fun x5_3 ex5_3 => ?_)
  replace hf := zL_e ex5_3 hf
  refine lv_istore (lv' := [(5, .int x5_3), (4, .int x4_2), (3, .int x3_1), (0, .ref (G.2.2.1 0)), (1, .int x1), (2, .int x2)]) hx hb dX6_turned_18 hl (by decide) rfl (fun ls hl => ?_)
  refine lv_iload_n hx hb dX6_turned_20 rfl (lv_at hl 5 rfl) ?_
  refine lv_iconst (v := (1 : Int32)) hx hb dX6_turned_21 (by decide) ?_
  refine lv_iand hx hb dX6_turned_22 ?_
  refine lv_if_eq (tgt := 33) hx hb dX6_turned_23 (by decide) (fun c_4 => ?_) (fun c_4 => ?_)
  · replace hf := zI_t c_4 hf
    exact J33 x2 x3_1 x4_2 x5_3 M H locs ls (lv_sub hl [3, 5, 2, 1, 0] rfl) hP hS hf
  · replace hf := zI_f c_4 hf
    refine lv_aload_n hx hb dX6_turned_26 rfl (lv_at hl 3 rfl) ?_
    refine zr_get (C := RX6) (T := TX6) (n := 51) C0 hP 0 (by decide) shM_0 33 rfl (by decide) uw_X6 mw_565 rfl dX6_turned_27 ?_
    refine lv_iload_n hx hb dX6_turned_30 rfl (lv_at hl 2 rfl) ?_
    refine lv_isub hx hb dX6_turned_31 ?_
    refine lv_topi (fun x3_28 ex3_28 => ?_)
    replace hf := zL_e ex3_28 hf
    refine lv_istore_n (lv' := [(3, .int x3_28), (5, .int x5_3), (4, .int x4_2), (0, .ref (G.2.2.1 0)), (1, .int x1), (2, .int x2)]) hx hb dX6_turned_32 rfl hl (by decide) rfl (fun ls hl => ?_)
    exact J33 x2 x3_28 x4_2 x5_3 M H locs ls (lv_sub hl [3, 5, 0, 2, 1] rfl) hP hS hf
def fX6_sizeOf (x0 : Int32) (M : zM) : Option (Int32 × zM) :=
  some ((((x0 &&& (1 : Int32)) + ((zshr x0 (1 : Int32)) &&& (1 : Int32))) + ((zshr x0 (2 : Int32)) &&& (1 : Int32))), M)
set_option maxHeartbeats 4000000 in
set_option maxRecDepth 100000 in
theorem mtX6_sizeOf (l : Launch) (G : zGr) (hJ : zJ G 23) (x0 : Int32) (M : zM) (o : Int32 × zM) (hf : fX6_sizeOf x0 M = some o) : zMi l G shM 23 yX6_sizeOf cX6_sizeOf 1 (some .int) 0 0 [.int x0] M o := by
  intro sz
  refine zOf (by decide) (Nat.le_of_ble_eq_true rfl) ?_
  intro p e R Q s m args below meth c hRm hsz hQ C0 hP hS ls hl
  subst hsz
  replace hRm : R = { frames := 0, cells := 0, slots := 0, locals := 0 } := hRm
  have hl : lv_has ls 1 [(0, .int x0)] := hl
  have hx := C0.1
  have hb := C0.2.1
  have hown := C0.2.2.2.1
  have hts := C0.2.2.2.2.1
  unfold fX6_sizeOf at hf
  obtain ⟨H, eH⟩ : ∃ H, H = s.heap := ⟨_, rfl⟩
  obtain ⟨locs, el⟩ : ∃ locs : List Loc, locs = [] := ⟨_, rfl⟩
  rw [← eH] at hP ⊢
  have hS : va_S (zA G 23 s.heap.size) s.heap H locs := by rw [eH, el]; exact hS
  rw [← el]
  refine lv_iload_n hx hb dX6_sizeOf_0 rfl (lv_at hl 0 rfl) ?_
  refine lv_iconst (v := (1 : Int32)) hx hb dX6_sizeOf_1 (by decide) ?_
  refine lv_iand hx hb dX6_sizeOf_2 ?_
  refine lv_iload_n hx hb dX6_sizeOf_3 rfl (lv_at hl 0 rfl) ?_
  refine lv_iconst (v := (1 : Int32)) hx hb dX6_sizeOf_4 (by decide) ?_
  refine zo_ishr hx hb dX6_sizeOf_5 ?_
  refine lv_iconst (v := (1 : Int32)) hx hb dX6_sizeOf_6 (by decide) ?_
  refine lv_iand hx hb dX6_sizeOf_7 ?_
  refine lv_iadd hx hb dX6_sizeOf_8 ?_
  refine lv_iload_n hx hb dX6_sizeOf_9 rfl (lv_at hl 0 rfl) ?_
  refine lv_iconst (v := (2 : Int32)) hx hb dX6_sizeOf_10 (by decide) ?_
  refine zo_ishr hx hb dX6_sizeOf_11 ?_
  refine lv_iconst (v := (1 : Int32)) hx hb dX6_sizeOf_12 (by decide) ?_
  refine lv_iand hx hb dX6_sizeOf_13 ?_
  refine lv_iadd hx hb dX6_sizeOf_14 ?_
  exact ze_i C0 hP hS hf dX6_sizeOf_15 hQ
def fX6_toldTimes_B73 (r34 : Int64 → Int32 → zM → Option (Int64 × zM)) (r43 : Int64 → Int32 → Int32 → zM → Option (Int64 × zM)) (r73 : Int64 → Int32 → Int32 → Int32 → zM → Option (Int64 × zM)) (x1 : Int64) (x3 : Int32) (x4 : Int32) (x5 : Int32) (M : zM) : Option (Int64 × zM) :=
  if (8 : Int32) ≤ x5 then
    zL (x4 + (1 : Int32)) fun x4_8 =>
    r43 x1 x3 x4_8 M
  else
    zV (fX6_turned x4 x5 M) fun M_9 =>
    if (M_9.1 0 39) = (0 : Int32) then
      zL (x5 + (1 : Int32)) fun x5_12 =>
      r73 x1 x3 x4 x5_12 M_9
    else
      if (x3 + (M_9.1 0 39)) ≤ (30 : Int32) then
        zG (zin (((1000 : Int32) * (x3 + (M_9.1 0 39))) + (M_9.1 0 38)) 31000) <|
        zL (zu M_9 15 (((1000 : Int32) * (x3 + (M_9.1 0 39))) + (M_9.1 0 38)).toNatClampNeg (zbt (1 : Int32))) fun M_15 =>
        zL (x1 ||| (zlshl (1 : Int64) (x3 + (M_15.1 0 39)))) fun x1_16 =>
        zL (x5 + (1 : Int32)) fun x5_17 =>
        r73 x1_16 x3 x4 x5_17 M_15
      else
        zL (x5 + (1 : Int32)) fun x5_18 =>
        r73 x1 x3 x4 x5_18 M_9
def fX6_toldTimes_L73 (r34 : Int64 → Int32 → zM → Option (Int64 × zM)) (r43 : Int64 → Int32 → Int32 → zM → Option (Int64 × zM)) : Nat → Int64 → Int32 → Int32 → Int32 → zM → Option (Int64 × zM)
  | 0 => fun _ _ _ _ _ => none
  | j9 + 1 => fX6_toldTimes_B73 r34 r43 (fX6_toldTimes_L73 r34 r43 j9)
def fX6_toldTimes_B43 (r34 : Int64 → Int32 → zM → Option (Int64 × zM)) (r43 : Int64 → Int32 → Int32 → zM → Option (Int64 × zM)) (x1 : Int64) (x3 : Int32) (x4 : Int32) (M : zM) : Option (Int64 × zM) :=
  if (1000 : Int32) ≤ x4 then
    zL (x3 + (1 : Int32)) fun x3_4 =>
    r34 x1 x3_4 M
  else
    zG (zin (((1000 : Int32) * x3) + x4) 31000) <|
    if (M.1 15 (((1000 : Int32) * x3) + x4).toNatClampNeg) = (0 : Int32) then
      zL (x4 + (1 : Int32)) fun x4_19 =>
      r43 x1 x3 x4_19 M
    else
      fX6_toldTimes_L73 r34 r43 zF x1 x3 x4 (0 : Int32) M
def fX6_toldTimes_L43 (r34 : Int64 → Int32 → zM → Option (Int64 × zM)) : Nat → Int64 → Int32 → Int32 → zM → Option (Int64 × zM)
  | 0 => fun _ _ _ _ => none
  | j9 + 1 => fX6_toldTimes_B43 r34 (fX6_toldTimes_L43 r34 j9)
def fX6_toldTimes_B34 (r34 : Int64 → Int32 → zM → Option (Int64 × zM)) (x1 : Int64) (x3 : Int32) (M : zM) : Option (Int64 × zM) :=
  if (30 : Int32) ≤ x3 then
    some (x1, M)
  else
    fX6_toldTimes_L43 r34 zF x1 x3 (0 : Int32) M
def fX6_toldTimes_L34 : Nat → Int64 → Int32 → zM → Option (Int64 × zM)
  | 0 => fun _ _ _ => none
  | j9 + 1 => fX6_toldTimes_B34 (fX6_toldTimes_L34 j9)
def fX6_toldTimes_B2 (r2 : Int32 → zM → Option (Int64 × zM)) (x1 : Int32) (M : zM) : Option (Int64 × zM) :=
  if (31000 : Int32) ≤ x1 then
    fX6_toldTimes_L34 zF (0 : Int64) (0 : Int32) M
  else
    if x1 = (0 : Int32) then
      zG (zin x1 31000) <|
      zL (zu M 15 x1.toNatClampNeg (zbt (1 : Int32))) fun M_25 =>
      zL (x1 + (1 : Int32)) fun x1_26 =>
      r2 x1_26 M_25
    else
      zG (zin x1 31000) <|
      zL (zu M 15 x1.toNatClampNeg (zbt (0 : Int32))) fun M_22 =>
      zL (x1 + (1 : Int32)) fun x1_23 =>
      r2 x1_23 M_22
def fX6_toldTimes_L2 : Nat → Int32 → zM → Option (Int64 × zM)
  | 0 => fun _ _ => none
  | j9 + 1 => fX6_toldTimes_B2 (fX6_toldTimes_L2 j9)
def fX6_toldTimes (M : zM) : Option (Int64 × zM) :=
  fX6_toldTimes_L2 zF (0 : Int32) M
set_option maxHeartbeats 4000000 in
set_option maxRecDepth 100000 in
theorem mtX6_toldTimes (l : Launch) (G : zGr) (hJ : zJ G 23) (M : zM) (o : Int64 × zM) (hf : fX6_toldTimes M = some o) : zMl l G shM 23 yX6_toldTimes cX6_toldTimes 6 (some .long) 2 48 [.ref (G.2.2.1 0)] M o := by
  intro sz
  refine zOf (by decide) (Nat.le_of_ble_eq_true rfl) ?_
  intro p e R Q s m args below meth c hRm hsz hQ C0 hP hS ls hl
  subst hsz
  replace hRm : R = { frames := 2, cells := 0, slots := 0, locals := 48 } := hRm
  have hl : lv_has ls 6 [(0, .ref (G.2.2.1 0))] := hl
  have hx := C0.1
  have hb := C0.2.1
  have hown := C0.2.2.2.1
  have hts := C0.2.2.2.2.1
  have L34 : ∀ (n34 : Nat), ∀ (x1 : Int64) (x3 : Int32) (M : zM) (H : Heap) (locs : List Loc) (ls : Array Slot), lv_has ls 6 [(0, .ref (G.2.2.1 0)), (1, .long x1), (3, .int x3)] → va_P G.1 zcl (zw G shM 23 M) H → va_S (zA G 23 s.heap.size) s.heap H locs → fX6_toldTimes_L34 n34 x1 x3 M = some o → W p l e R s m args below meth c H locs 0 0 Q (F0 m 34 ls []) := by
    intro n34
    induction n34 with
    | zero => intro x1 x3 M H locs ls hl hP hS hf; exact zn_s (show none = some o from hf)
    | succ n34 ih34 =>
      have L43 : ∀ (n43 : Nat), ∀ (x1 : Int64) (x3 : Int32) (x4 : Int32) (M : zM) (H : Heap) (locs : List Loc) (ls : Array Slot), lv_has ls 6 [(0, .ref (G.2.2.1 0)), (1, .long x1), (3, .int x3), (4, .int x4)] → va_P G.1 zcl (zw G shM 23 M) H → va_S (zA G 23 s.heap.size) s.heap H locs → fX6_toldTimes_L43 (fX6_toldTimes_L34 n34) n43 x1 x3 x4 M = some o → W p l e R s m args below meth c H locs 0 0 Q (F0 m 43 ls []) := by
        intro n43
        induction n43 with
        | zero => intro x1 x3 x4 M H locs ls hl hP hS hf; exact zn_s (show none = some o from hf)
        | succ n43 ih43 =>
          have L73 : ∀ (n73 : Nat), ∀ (x1 : Int64) (x3 : Int32) (x4 : Int32) (x5 : Int32) (M : zM) (H : Heap) (locs : List Loc) (ls : Array Slot), lv_has ls 6 [(0, .ref (G.2.2.1 0)), (1, .long x1), (3, .int x3), (4, .int x4), (5, .int x5)] → va_P G.1 zcl (zw G shM 23 M) H → va_S (zA G 23 s.heap.size) s.heap H locs → fX6_toldTimes_L73 (fX6_toldTimes_L34 n34) (fX6_toldTimes_L43 (fX6_toldTimes_L34 n34) n43) n73 x1 x3 x4 x5 M = some o → W p l e R s m args below meth c H locs 0 0 Q (F0 m 73 ls []) := by
            intro n73
            induction n73 with
            | zero => intro x1 x3 x4 x5 M H locs ls hl hP hS hf; exact zn_s (show none = some o from hf)
            | succ n73 ih73 =>
              intro x1 x3 x4 x5 M H locs ls hl hP hS hf
              replace hf : fX6_toldTimes_B73 (fX6_toldTimes_L34 n34) (fX6_toldTimes_L43 (fX6_toldTimes_L34 n34) n43) (fX6_toldTimes_L73 (fX6_toldTimes_L34 n34) (fX6_toldTimes_L43 (fX6_toldTimes_L34 n34) n43) n73) x1 x3 x4 x5 M = some o := hf
              unfold fX6_toldTimes_B73 at hf
              refine lv_iload hx hb dX6_toldTimes_73 (lv_at hl 4 rfl) ?_
              refine lv_bipush (v := (8 : Int32)) hx hb dX6_toldTimes_75 (by decide) ?_
              refine lv_icmp_ge (tgt := 147) hx hb dX6_toldTimes_77 (by decide) (fun c_7 => ?_) (fun c_7 => ?_)
              · replace hf := zI_t c_7 hf
                obtain ⟨x4_8, ex4_8, hf⟩ := zL_o hf
                refine lv_iinc (v := x4_8) (lv' := [(4, .int x4_8), (0, .ref (G.2.2.1 0)), (1, .long x1), (3, .int x3), (5, .int x5)]) hx hb dX6_toldTimes_147 hl (k := 3) rfl (by rw [ex4_8]; rfl) (by decide) rfl (fun ls hl => ?_)
                refine lv_goto (tgt := 43) hx hb dX6_toldTimes_150 (by decide) ?_
                exact ih43 x1 x3 x4_8 M H locs ls (lv_sub hl [1, 2, 3, 0] rfl) hP hS hf
              · replace hf := zI_f c_7 hf
                refine lv_aload_n hx hb dX6_toldTimes_80 rfl (lv_at hl 0 rfl) ?_
                refine lv_iload hx hb dX6_toldTimes_81 (lv_at hl 3 rfl) ?_
                refine lv_iload hx hb dX6_toldTimes_83 (lv_at hl 4 rfl) ?_
                obtain ⟨M_9, hc_10, hf⟩ := zV_o hf
                refine zc_vv (As := [.int x4, .int x5]) (rest := []) C0 hP hS hl.1 0 (mtX6_turned l G hJ x4 x5 M _ hc_10) lk_X6_272 (by decide) shM_0 (T := TX6) (n' := 51) rfl ds_X6_turned (by rw [hRm]; exact ⟨Nat.le_of_ble_eq_true rfl, Nat.le_of_ble_eq_true rfl⟩) rfl rfl (Nat.le_of_ble_eq_true rfl) dX6_toldTimes_85 ⟨Nat.zero_le _, Nat.zero_le _⟩ (fun H locs hP hS => ?_)
                refine lv_aload_n hx hb dX6_toldTimes_88 rfl (lv_at hl 0 rfl) ?_
                refine zr_get (C := RX6) (T := TX6) (n := 51) C0 hP 0 (by decide) shM_0 39 rfl (by decide) uw_X6 mw_568 rfl dX6_toldTimes_89 ?_
                refine lv_if_eq (tgt := 141) hx hb dX6_toldTimes_92 (by decide) (fun c_11 => ?_) (fun c_11 => ?_)
                · replace hf := zI_t c_11 hf
                  obtain ⟨x5_12, ex5_12, hf⟩ := zL_o hf
                  refine lv_iinc (v := x5_12) (lv' := [(5, .int x5_12), (0, .ref (G.2.2.1 0)), (1, .long x1), (3, .int x3), (4, .int x4)]) hx hb dX6_toldTimes_141 hl (k := 4) rfl (by rw [ex5_12]; rfl) (by decide) rfl (fun ls hl => ?_)
                  refine lv_goto (tgt := 73) hx hb dX6_toldTimes_144 (by decide) ?_
                  exact ih73 x1 x3 x4 x5_12 M_9 H locs ls (lv_sub hl [1, 2, 3, 4, 0] rfl) hP hS hf
                · replace hf := zI_f c_11 hf
                  refine lv_iload_n hx hb dX6_toldTimes_95 rfl (lv_at hl 2 rfl) ?_
                  refine lv_aload_n hx hb dX6_toldTimes_96 rfl (lv_at hl 0 rfl) ?_
                  refine zr_get (C := RX6) (T := TX6) (n := 51) C0 hP 0 (by decide) shM_0 39 rfl (by decide) uw_X6 mw_568 rfl dX6_toldTimes_97 ?_
                  refine lv_iadd hx hb dX6_toldTimes_100 ?_
                  refine lv_bipush (v := (30 : Int32)) hx hb dX6_toldTimes_101 (by decide) ?_
                  refine lv_icmp_le (tgt := 109) hx hb dX6_toldTimes_103 (by decide) (fun c_13 => ?_) (fun c_13 => ?_)
                  · replace hf := zI_t c_13 hf
                    refine lv_aload_n hx hb dX6_toldTimes_109 rfl (lv_at hl 0 rfl) ?_
                    refine zr_getq (C := RX6) (T := TX6) (n := 51) C0 hP 0 (by decide) shM_0 36 15 rfl (by decide) uw_X6 mw_570 rfl dX6_toldTimes_110 ?_
                    refine lv_sipush (v := (1000 : Int32)) hx hb dX6_toldTimes_113 (by decide) ?_
                    refine lv_iload_n hx hb dX6_toldTimes_116 rfl (lv_at hl 2 rfl) ?_
                    refine lv_aload_n hx hb dX6_toldTimes_117 rfl (lv_at hl 0 rfl) ?_
                    refine zr_get (C := RX6) (T := TX6) (n := 51) C0 hP 0 (by decide) shM_0 39 rfl (by decide) uw_X6 mw_568 rfl dX6_toldTimes_118 ?_
                    refine lv_iadd hx hb dX6_toldTimes_121 ?_
                    refine lv_imul hx hb dX6_toldTimes_122 ?_
                    refine lv_aload_n hx hb dX6_toldTimes_123 rfl (lv_at hl 0 rfl) ?_
                    refine zr_get (C := RX6) (T := TX6) (n := 51) C0 hP 0 (by decide) shM_0 38 rfl (by decide) uw_X6 mw_569 rfl dX6_toldTimes_124 ?_
                    refine lv_iadd hx hb dX6_toldTimes_127 ?_
                    refine lv_iconst (v := (1 : Int32)) hx hb dX6_toldTimes_128 (by decide) ?_
                    obtain ⟨hg_14, hf⟩ := zG_o hf
                    refine zr_zast C0 hJ hP hS 15 (by decide) shM_15 hg_14 dX6_toldTimes_129 (fun H locs hP hS => ?_)
                    obtain ⟨M_15, eM_15, hf⟩ := zL_o hf
                    have hP : va_P G.1 zcl (zw G shM 23 M_15) H := by rw [eM_15]; exact hP
                    refine lv_lload_n hx hb dX6_toldTimes_130 rfl (lv_at hl 1 rfl) ?_
                    refine lv_lconst (v := (1 : Int64)) hx hb dX6_toldTimes_131 (by decide) ?_
                    refine lv_iload_n hx hb dX6_toldTimes_132 rfl (lv_at hl 2 rfl) ?_
                    refine lv_aload_n hx hb dX6_toldTimes_133 rfl (lv_at hl 0 rfl) ?_
                    refine zr_get (C := RX6) (T := TX6) (n := 51) C0 hP 0 (by decide) shM_0 39 rfl (by decide) uw_X6 mw_568 rfl dX6_toldTimes_134 ?_
                    refine lv_iadd hx hb dX6_toldTimes_137 ?_
                    refine zo_lshl hx hb dX6_toldTimes_138 ?_
                    refine lv_lor hx hb dX6_toldTimes_139 ?_
                    refine lv_topl (fun x1_16 ex1_16 => ?_)
                    replace hf := zL_e ex1_16 hf
                    refine lv_lstore_n (lv' := [(1, .long x1_16), (0, .ref (G.2.2.1 0)), (3, .int x3), (4, .int x4), (5, .int x5)]) hx hb dX6_toldTimes_140 rfl hl (by decide) rfl (fun ls hl => ?_)
                    obtain ⟨x5_17, ex5_17, hf⟩ := zL_o hf
                    refine lv_iinc (v := x5_17) (lv' := [(5, .int x5_17), (1, .long x1_16), (0, .ref (G.2.2.1 0)), (3, .int x3), (4, .int x4)]) hx hb dX6_toldTimes_141 hl (k := 4) rfl (by rw [ex5_17]; rfl) (by decide) rfl (fun ls hl => ?_)
                    refine lv_goto (tgt := 73) hx hb dX6_toldTimes_144 (by decide) ?_
                    exact ih73 x1_16 x3 x4 x5_17 M_15 H locs ls (lv_sub hl [2, 1, 3, 4, 0] rfl) hP hS hf
                  · replace hf := zI_f c_13 hf
                    refine lv_goto (tgt := 141) hx hb dX6_toldTimes_106 (by decide) ?_
                    obtain ⟨x5_18, ex5_18, hf⟩ := zL_o hf
                    refine lv_iinc (v := x5_18) (lv' := [(5, .int x5_18), (0, .ref (G.2.2.1 0)), (1, .long x1), (3, .int x3), (4, .int x4)]) hx hb dX6_toldTimes_141 hl (k := 4) rfl (by rw [ex5_18]; rfl) (by decide) rfl (fun ls hl => ?_)
                    refine lv_goto (tgt := 73) hx hb dX6_toldTimes_144 (by decide) ?_
                    exact ih73 x1 x3 x4 x5_18 M_9 H locs ls (lv_sub hl [1, 2, 3, 4, 0] rfl) hP hS hf
          intro x1 x3 x4 M H locs ls hl hP hS hf
          replace hf : fX6_toldTimes_B43 (fX6_toldTimes_L34 n34) (fX6_toldTimes_L43 (fX6_toldTimes_L34 n34) n43) x1 x3 x4 M = some o := hf
          unfold fX6_toldTimes_B43 at hf
          refine lv_iload hx hb dX6_toldTimes_43 (lv_at hl 3 rfl) ?_
          refine lv_sipush (v := (1000 : Int32)) hx hb dX6_toldTimes_45 (by decide) ?_
          refine lv_icmp_ge (tgt := 153) hx hb dX6_toldTimes_48 (by decide) (fun c_3 => ?_) (fun c_3 => ?_)
          · replace hf := zI_t c_3 hf
            obtain ⟨x3_4, ex3_4, hf⟩ := zL_o hf
            refine lv_iinc (v := x3_4) (lv' := [(3, .int x3_4), (0, .ref (G.2.2.1 0)), (1, .long x1), (4, .int x4)]) hx hb dX6_toldTimes_153 hl (k := 2) rfl (by rw [ex3_4]; rfl) (by decide) rfl (fun ls hl => ?_)
            refine lv_goto (tgt := 34) hx hb dX6_toldTimes_156 (by decide) ?_
            exact ih34 x1 x3_4 M H locs ls (lv_sub hl [1, 2, 0] rfl) hP hS hf
          · replace hf := zI_f c_3 hf
            refine lv_aload_n hx hb dX6_toldTimes_51 rfl (lv_at hl 0 rfl) ?_
            refine zr_getq (C := RX6) (T := TX6) (n := 51) C0 hP 0 (by decide) shM_0 36 15 rfl (by decide) uw_X6 mw_570 rfl dX6_toldTimes_52 ?_
            refine lv_sipush (v := (1000 : Int32)) hx hb dX6_toldTimes_55 (by decide) ?_
            refine lv_iload_n hx hb dX6_toldTimes_58 rfl (lv_at hl 2 rfl) ?_
            refine lv_imul hx hb dX6_toldTimes_59 ?_
            refine lv_iload hx hb dX6_toldTimes_60 (lv_at hl 3 rfl) ?_
            refine lv_iadd hx hb dX6_toldTimes_62 ?_
            obtain ⟨hg_5, hf⟩ := zG_o hf
            refine zr_zald C0 hP 15 (by decide) shM_15 hg_5 dX6_toldTimes_63 ?_
            refine lv_if_ne (tgt := 70) hx hb dX6_toldTimes_64 (by decide) (fun c_6 => ?_) (fun c_6 => ?_)
            · replace hf := zI_f c_6 hf
              refine lv_iconst (v := (0 : Int32)) hx hb dX6_toldTimes_70 (by decide) ?_
              refine lv_istore (lv' := [(5, .int (0 : Int32)), (0, .ref (G.2.2.1 0)), (1, .long x1), (3, .int x3), (4, .int x4)]) hx hb dX6_toldTimes_71 hl (by decide) rfl (fun ls hl => ?_)
              exact L73 zF x1 x3 x4 (0 : Int32) M H locs ls (lv_sub hl [1, 2, 3, 4, 0] rfl) hP hS hf
            · replace hf := zI_t c_6 hf
              refine lv_goto (tgt := 147) hx hb dX6_toldTimes_67 (by decide) ?_
              obtain ⟨x4_19, ex4_19, hf⟩ := zL_o hf
              refine lv_iinc (v := x4_19) (lv' := [(4, .int x4_19), (0, .ref (G.2.2.1 0)), (1, .long x1), (3, .int x3)]) hx hb dX6_toldTimes_147 hl (k := 3) rfl (by rw [ex4_19]; rfl) (by decide) rfl (fun ls hl => ?_)
              refine lv_goto (tgt := 43) hx hb dX6_toldTimes_150 (by decide) ?_
              exact ih43 x1 x3 x4_19 M H locs ls (lv_sub hl [1, 2, 3, 0] rfl) hP hS hf
      intro x1 x3 M H locs ls hl hP hS hf
      replace hf : fX6_toldTimes_B34 (fX6_toldTimes_L34 n34) x1 x3 M = some o := hf
      unfold fX6_toldTimes_B34 at hf
      refine lv_iload_n hx hb dX6_toldTimes_34 rfl (lv_at hl 2 rfl) ?_
      refine lv_bipush (v := (30 : Int32)) hx hb dX6_toldTimes_35 (by decide) ?_
      refine lv_icmp_ge (tgt := 159) hx hb dX6_toldTimes_37 (by decide) (fun c_2 => ?_) (fun c_2 => ?_)
      · replace hf := zI_t c_2 hf
        refine lv_lload_n hx hb dX6_toldTimes_159 rfl (lv_at hl 1 rfl) ?_
        exact ze_l C0 hP hS hf dX6_toldTimes_160 hQ
      · replace hf := zI_f c_2 hf
        refine lv_iconst (v := (0 : Int32)) hx hb dX6_toldTimes_40 (by decide) ?_
        refine lv_istore (lv' := [(4, .int (0 : Int32)), (0, .ref (G.2.2.1 0)), (1, .long x1), (3, .int x3)]) hx hb dX6_toldTimes_41 hl (by decide) rfl (fun ls hl => ?_)
        exact L43 zF x1 x3 (0 : Int32) M H locs ls (lv_sub hl [1, 2, 3, 0] rfl) hP hS hf
  have L2 : ∀ (n2 : Nat), ∀ (x1 : Int32) (M : zM) (H : Heap) (locs : List Loc) (ls : Array Slot), lv_has ls 6 [(0, .ref (G.2.2.1 0)), (1, .int x1)] → va_P G.1 zcl (zw G shM 23 M) H → va_S (zA G 23 s.heap.size) s.heap H locs → fX6_toldTimes_L2 n2 x1 M = some o → W p l e R s m args below meth c H locs 0 0 Q (F0 m 2 ls []) := by
    intro n2
    induction n2 with
    | zero => intro x1 M H locs ls hl hP hS hf; exact zn_s (show none = some o from hf)
    | succ n2 ih2 =>
      intro x1 M H locs ls hl hP hS hf
      replace hf : fX6_toldTimes_B2 (fX6_toldTimes_L2 n2) x1 M = some o := hf
      unfold fX6_toldTimes_B2 at hf
      refine lv_iload_n hx hb dX6_toldTimes_2 rfl (lv_at hl 1 rfl) ?_
      refine lv_sipush (v := (31000 : Int32)) hx hb dX6_toldTimes_3 (by decide) ?_
      refine lv_icmp_ge (tgt := 30) hx hb dX6_toldTimes_6 (by decide) (fun c_1 => ?_) (fun c_1 => ?_)
      · replace hf := zI_t c_1 hf
        refine lv_lconst (v := (0 : Int64)) hx hb dX6_toldTimes_30 (by decide) ?_
        refine lv_lstore_n (lv' := [(1, .long (0 : Int64)), (0, .ref (G.2.2.1 0))]) hx hb dX6_toldTimes_31 rfl hl (by decide) rfl (fun ls hl => ?_)
        refine lv_iconst (v := (0 : Int32)) hx hb dX6_toldTimes_32 (by decide) ?_
        refine lv_istore_n (lv' := [(3, .int (0 : Int32)), (1, .long (0 : Int64)), (0, .ref (G.2.2.1 0))]) hx hb dX6_toldTimes_33 rfl hl (by decide) rfl (fun ls hl => ?_)
        exact L34 zF (0 : Int64) (0 : Int32) M H locs ls (lv_sub hl [2, 1, 0] rfl) hP hS hf
      · replace hf := zI_f c_1 hf
        refine lv_aload_n hx hb dX6_toldTimes_9 rfl (lv_at hl 0 rfl) ?_
        refine zr_getq (C := RX6) (T := TX6) (n := 51) C0 hP 0 (by decide) shM_0 36 15 rfl (by decide) uw_X6 mw_570 rfl dX6_toldTimes_10 ?_
        refine lv_iload_n hx hb dX6_toldTimes_13 rfl (lv_at hl 1 rfl) ?_
        refine lv_iload_n hx hb dX6_toldTimes_14 rfl (lv_at hl 1 rfl) ?_
        refine lv_if_ne (tgt := 22) hx hb dX6_toldTimes_15 (by decide) (fun c_20 => ?_) (fun c_20 => ?_)
        · replace hf := zI_f c_20 hf
          refine lv_iconst (v := (0 : Int32)) hx hb dX6_toldTimes_22 (by decide) ?_
          obtain ⟨hg_21, hf⟩ := zG_o hf
          refine zr_zast C0 hJ hP hS 15 (by decide) shM_15 hg_21 dX6_toldTimes_23 (fun H locs hP hS => ?_)
          obtain ⟨M_22, eM_22, hf⟩ := zL_o hf
          have hP : va_P G.1 zcl (zw G shM 23 M_22) H := by rw [eM_22]; exact hP
          obtain ⟨x1_23, ex1_23, hf⟩ := zL_o hf
          refine lv_iinc (v := x1_23) (lv' := [(1, .int x1_23), (0, .ref (G.2.2.1 0))]) hx hb dX6_toldTimes_24 hl (k := 1) rfl (by rw [ex1_23]; rfl) (by decide) rfl (fun ls hl => ?_)
          refine lv_goto (tgt := 2) hx hb dX6_toldTimes_27 (by decide) ?_
          exact ih2 x1_23 M_22 H locs ls (lv_sub hl [1, 0] rfl) hP hS hf
        · replace hf := zI_t c_20 hf
          refine lv_iconst (v := (1 : Int32)) hx hb dX6_toldTimes_18 (by decide) ?_
          refine lv_goto (tgt := 23) hx hb dX6_toldTimes_19 (by decide) ?_
          obtain ⟨hg_24, hf⟩ := zG_o hf
          refine zr_zast C0 hJ hP hS 15 (by decide) shM_15 hg_24 dX6_toldTimes_23 (fun H locs hP hS => ?_)
          obtain ⟨M_25, eM_25, hf⟩ := zL_o hf
          have hP : va_P G.1 zcl (zw G shM 23 M_25) H := by rw [eM_25]; exact hP
          obtain ⟨x1_26, ex1_26, hf⟩ := zL_o hf
          refine lv_iinc (v := x1_26) (lv' := [(1, .int x1_26), (0, .ref (G.2.2.1 0))]) hx hb dX6_toldTimes_24 hl (k := 1) rfl (by rw [ex1_26]; rfl) (by decide) rfl (fun ls hl => ?_)
          refine lv_goto (tgt := 2) hx hb dX6_toldTimes_27 (by decide) ?_
          exact ih2 x1_26 M_25 H locs ls (lv_sub hl [1, 0] rfl) hP hS hf
  unfold fX6_toldTimes at hf
  obtain ⟨H, eH⟩ : ∃ H, H = s.heap := ⟨_, rfl⟩
  obtain ⟨locs, el⟩ : ∃ locs : List Loc, locs = [] := ⟨_, rfl⟩
  rw [← eH] at hP ⊢
  have hS : va_S (zA G 23 s.heap.size) s.heap H locs := by rw [eH, el]; exact hS
  rw [← el]
  refine lv_iconst (v := (0 : Int32)) hx hb dX6_toldTimes_0 (by decide) ?_
  refine lv_istore_n (lv' := [(1, .int (0 : Int32)), (0, .ref (G.2.2.1 0))]) hx hb dX6_toldTimes_1 rfl hl (by decide) rfl (fun ls hl => ?_)
  exact L2 zF (0 : Int32) M H locs ls (lv_sub hl [1, 0] rfl) hP hS hf
def fX6_times (x1 : Int32) (M : zM) : Option (Int64 × zM) :=
  zB (fX6_areThree x1 M) fun r_3 M_1 =>
  if r_3 = (0 : Int32) then
    some ((-4611686018427387904 : Int64), M_1)
  else
    zV (fX6_pours x1 M_1) fun M_5 =>
    zB (fX6_toldTimes M_5) fun r_9 M_7 =>
    some (r_9, M_7)
set_option maxHeartbeats 4000000 in
set_option maxRecDepth 100000 in
theorem mtX6_times (l : Launch) (G : zGr) (hJ : zJ G 23) (x1 : Int32) (M : zM) (o : Int64 × zM) (hf : fX6_times x1 M = some o) : zMl l G shM 23 yX6_times cX6_times 2 (some .long) 6 134 [.ref (G.2.2.1 0), .int x1] M o := by
  intro sz
  refine zOf (by decide) (Nat.le_of_ble_eq_true rfl) ?_
  intro p e R Q s m args below meth c hRm hsz hQ C0 hP hS ls hl
  subst hsz
  replace hRm : R = { frames := 6, cells := 0, slots := 0, locals := 134 } := hRm
  have hl : lv_has ls 2 [(0, .ref (G.2.2.1 0)), (1, .int x1)] := hl
  have hx := C0.1
  have hb := C0.2.1
  have hown := C0.2.2.2.1
  have hts := C0.2.2.2.2.1
  unfold fX6_times at hf
  obtain ⟨H, eH⟩ : ∃ H, H = s.heap := ⟨_, rfl⟩
  obtain ⟨locs, el⟩ : ∃ locs : List Loc, locs = [] := ⟨_, rfl⟩
  rw [← eH] at hP ⊢
  have hS : va_S (zA G 23 s.heap.size) s.heap H locs := by rw [eH, el]; exact hS
  rw [← el]
  refine lv_aload_n hx hb dX6_times_0 rfl (lv_at hl 0 rfl) ?_
  refine lv_iload_n hx hb dX6_times_1 rfl (lv_at hl 1 rfl) ?_
  obtain ⟨r_3, M_1, hc_2, hf⟩ := zB_o hf
  refine zc_vi (As := [.int x1]) (rest := []) C0 hP hS hl.1 0 (mtX6_areThree l G hJ x1 M _ hc_2) lk_X6_276 (by decide) shM_0 (T := TX6) (n' := 51) rfl ds_X6_areThree (by rw [hRm]; exact ⟨Nat.le_of_ble_eq_true rfl, Nat.le_of_ble_eq_true rfl⟩) rfl rfl (Nat.le_of_ble_eq_true rfl) dX6_times_2 ⟨Nat.zero_le _, Nat.zero_le _⟩ (fun H locs hP hS => ?_)
  refine lv_if_ne (tgt := 12) hx hb dX6_times_5 (by decide) (fun c_4 => ?_) (fun c_4 => ?_)
  · replace hf := zI_f c_4 hf
    refine lv_aload_n hx hb dX6_times_12 rfl (lv_at hl 0 rfl) ?_
    refine lv_iload_n hx hb dX6_times_13 rfl (lv_at hl 1 rfl) ?_
    obtain ⟨M_5, hc_6, hf⟩ := zV_o hf
    refine zc_vv (As := [.int x1]) (rest := []) C0 hP hS hl.1 0 (mtX6_pours l G hJ x1 M_1 _ hc_6) lk_X6_281 (by decide) shM_0 (T := TX6) (n' := 51) rfl ds_X6_pours (by rw [hRm]; exact ⟨Nat.le_of_ble_eq_true rfl, Nat.le_of_ble_eq_true rfl⟩) rfl rfl (Nat.le_of_ble_eq_true rfl) dX6_times_14 ⟨Nat.zero_le _, Nat.zero_le _⟩ (fun H locs hP hS => ?_)
    refine lv_aload_n hx hb dX6_times_17 rfl (lv_at hl 0 rfl) ?_
    obtain ⟨r_9, M_7, hc_8, hf⟩ := zB_o hf
    refine zc_vl (As := []) (rest := []) C0 hP hS hl.1 0 (mtX6_toldTimes l G hJ M_5 _ hc_8) lk_X6_284 (by decide) shM_0 (T := TX6) (n' := 51) rfl ds_X6_toldTimes (by rw [hRm]; exact ⟨Nat.le_of_ble_eq_true rfl, Nat.le_of_ble_eq_true rfl⟩) rfl rfl (Nat.le_of_ble_eq_true rfl) dX6_times_18 ⟨Nat.zero_le _, Nat.zero_le _⟩ (fun H locs hP hS => ?_)
    exact ze_l C0 hP hS hf dX6_times_21 hQ
  · replace hf := zI_t c_4 hf
    refine lv_ldc2 (v := (-4611686018427387904 : Int64)) hx hb hown (hts _ mw_587) dX6_times_8 ?_
    exact ze_l C0 hP hS hf dX6_times_11 hQ
def fX6_isWay (x1 : Int32) (x2 : Int32) (x3 : Int32) (M : zM) : Option (Int32 × zM) :=
  if (M.1 0 33) < x1 then
    some ((0 : Int32), M)
  else
    if (M.1 0 34) < x2 then
      some ((0 : Int32), M)
    else
      if (M.1 0 35) < x3 then
        some ((0 : Int32), M)
      else
        some ((1 : Int32), M)
set_option maxHeartbeats 4000000 in
set_option maxRecDepth 100000 in
theorem mtX6_isWay (l : Launch) (G : zGr) (hJ : zJ G 23) (x1 : Int32) (x2 : Int32) (x3 : Int32) (M : zM) (o : Int32 × zM) (hf : fX6_isWay x1 x2 x3 M = some o) : zMi l G shM 23 yX6_isWay cX6_isWay 4 (some .boolean) 0 0 [.ref (G.2.2.1 0), .int x1, .int x2, .int x3] M o := by
  intro sz
  refine zOf (by decide) (Nat.le_of_ble_eq_true rfl) ?_
  intro p e R Q s m args below meth c hRm hsz hQ C0 hP hS ls hl
  subst hsz
  replace hRm : R = { frames := 0, cells := 0, slots := 0, locals := 0 } := hRm
  have hl : lv_has ls 4 [(0, .ref (G.2.2.1 0)), (1, .int x1), (2, .int x2), (3, .int x3)] := hl
  have hx := C0.1
  have hb := C0.2.1
  have hown := C0.2.2.2.1
  have hts := C0.2.2.2.2.1
  unfold fX6_isWay at hf
  obtain ⟨H, eH⟩ : ∃ H, H = s.heap := ⟨_, rfl⟩
  obtain ⟨locs, el⟩ : ∃ locs : List Loc, locs = [] := ⟨_, rfl⟩
  rw [← eH] at hP ⊢
  have hS : va_S (zA G 23 s.heap.size) s.heap H locs := by rw [eH, el]; exact hS
  rw [← el]
  refine lv_iload_n hx hb dX6_isWay_0 rfl (lv_at hl 1 rfl) ?_
  refine lv_aload_n hx hb dX6_isWay_1 rfl (lv_at hl 0 rfl) ?_
  refine zr_get (C := RX6) (T := TX6) (n := 51) C0 hP 0 (by decide) shM_0 33 rfl (by decide) uw_X6 mw_565 rfl dX6_isWay_2 ?_
  refine lv_icmp_gt (tgt := 28) hx hb dX6_isWay_5 (by decide) (fun c_1 => ?_) (fun c_1 => ?_)
  · replace hf := zI_t c_1 hf
    refine lv_iconst (v := (0 : Int32)) hx hb dX6_isWay_28 (by decide) ?_
    exact ze_z C0 hP hS (by decide) hf dX6_isWay_29 hQ
  · replace hf := zI_f c_1 hf
    refine lv_iload_n hx hb dX6_isWay_8 rfl (lv_at hl 2 rfl) ?_
    refine lv_aload_n hx hb dX6_isWay_9 rfl (lv_at hl 0 rfl) ?_
    refine zr_get (C := RX6) (T := TX6) (n := 51) C0 hP 0 (by decide) shM_0 34 rfl (by decide) uw_X6 mw_566 rfl dX6_isWay_10 ?_
    refine lv_icmp_gt (tgt := 28) hx hb dX6_isWay_13 (by decide) (fun c_2 => ?_) (fun c_2 => ?_)
    · replace hf := zI_t c_2 hf
      refine lv_iconst (v := (0 : Int32)) hx hb dX6_isWay_28 (by decide) ?_
      exact ze_z C0 hP hS (by decide) hf dX6_isWay_29 hQ
    · replace hf := zI_f c_2 hf
      refine lv_iload_n hx hb dX6_isWay_16 rfl (lv_at hl 3 rfl) ?_
      refine lv_aload_n hx hb dX6_isWay_17 rfl (lv_at hl 0 rfl) ?_
      refine zr_get (C := RX6) (T := TX6) (n := 51) C0 hP 0 (by decide) shM_0 35 rfl (by decide) uw_X6 mw_567 rfl dX6_isWay_18 ?_
      refine lv_icmp_gt (tgt := 28) hx hb dX6_isWay_21 (by decide) (fun c_3 => ?_) (fun c_3 => ?_)
      · replace hf := zI_t c_3 hf
        refine lv_iconst (v := (0 : Int32)) hx hb dX6_isWay_28 (by decide) ?_
        exact ze_z C0 hP hS (by decide) hf dX6_isWay_29 hQ
      · replace hf := zI_f c_3 hf
        refine lv_iconst (v := (1 : Int32)) hx hb dX6_isWay_24 (by decide) ?_
        refine lv_goto (tgt := 29) hx hb dX6_isWay_25 (by decide) ?_
        exact ze_z C0 hP hS (by decide) hf dX6_isWay_29 hQ
def fX6_byFirst (x1 : Int32) (x2 : Int32) (x3 : Int32) (x4 : Int32) (M : zM) : Option (Int32 × zM) :=
  zV (fX6_turned x3 x4 M) fun M_1 =>
  zL (x2 + (M_1.1 0 39)) fun x5_3 =>
  if (M_1.1 0 39) = (0 : Int32) then
    some ((9999 : Int32), M_1)
  else
    if x5_3 ≤ x1 then
      if x5_3 = x1 then
        zB (fX6_sizeOf x4 M_1) fun r_13 M_11 =>
        some (r_13, M_11)
      else
        zB (fX6_sizeOf x4 M_1) fun r_9 M_7 =>
        zG (zin (((1000 : Int32) * x5_3) + (M_7.1 0 38)) 31000) <|
        some ((r_9 + (M_7.1 16 (((1000 : Int32) * x5_3) + (M_7.1 0 38)).toNatClampNeg)), M_7)
    else
      some ((9999 : Int32), M_1)
set_option maxHeartbeats 4000000 in
set_option maxRecDepth 100000 in
theorem mtX6_byFirst (l : Launch) (G : zGr) (hJ : zJ G 23) (x1 : Int32) (x2 : Int32) (x3 : Int32) (x4 : Int32) (M : zM) (o : Int32 × zM) (hf : fX6_byFirst x1 x2 x3 x4 M = some o) : zMi l G shM 23 yX6_byFirst cX6_byFirst 6 (some .int) 2 48 [.ref (G.2.2.1 0), .int x1, .int x2, .int x3, .int x4] M o := by
  intro sz
  refine zOf (by decide) (Nat.le_of_ble_eq_true rfl) ?_
  intro p e R Q s m args below meth c hRm hsz hQ C0 hP hS ls hl
  subst hsz
  replace hRm : R = { frames := 2, cells := 0, slots := 0, locals := 48 } := hRm
  have hl : lv_has ls 6 [(0, .ref (G.2.2.1 0)), (1, .int x1), (2, .int x2), (3, .int x3), (4, .int x4)] := hl
  have hx := C0.1
  have hb := C0.2.1
  have hown := C0.2.2.2.1
  have hts := C0.2.2.2.2.1
  unfold fX6_byFirst at hf
  obtain ⟨H, eH⟩ : ∃ H, H = s.heap := ⟨_, rfl⟩
  obtain ⟨locs, el⟩ : ∃ locs : List Loc, locs = [] := ⟨_, rfl⟩
  rw [← eH] at hP ⊢
  have hS : va_S (zA G 23 s.heap.size) s.heap H locs := by rw [eH, el]; exact hS
  rw [← el]
  refine lv_aload_n hx hb dX6_byFirst_0 rfl (lv_at hl 0 rfl) ?_
  refine lv_iload_n hx hb dX6_byFirst_1 rfl (lv_at hl 3 rfl) ?_
  refine lv_iload hx hb dX6_byFirst_2 (lv_at hl 4 rfl) ?_
  obtain ⟨M_1, hc_2, hf⟩ := zV_o hf
  refine zc_vv (As := [.int x3, .int x4]) (rest := []) C0 hP hS hl.1 0 (mtX6_turned l G hJ x3 x4 M _ hc_2) lk_X6_272 (by decide) shM_0 (T := TX6) (n' := 51) rfl ds_X6_turned (by rw [hRm]; exact ⟨Nat.le_of_ble_eq_true rfl, Nat.le_of_ble_eq_true rfl⟩) rfl rfl (Nat.le_of_ble_eq_true rfl) dX6_byFirst_4 ⟨Nat.zero_le _, Nat.zero_le _⟩ (fun H locs hP hS => ?_)
  refine lv_iload_n hx hb dX6_byFirst_7 rfl (lv_at hl 2 rfl) ?_
  refine lv_aload_n hx hb dX6_byFirst_8 rfl (lv_at hl 0 rfl) ?_
  refine zr_get (C := RX6) (T := TX6) (n := 51) C0 hP 0 (by decide) shM_0 39 rfl (by decide) uw_X6 mw_568 rfl dX6_byFirst_9 ?_
  refine lv_iadd hx hb dX6_byFirst_12 ?_
  refine lv_topi (fun x5_3 ex5_3 => ?_)
  replace hf := zL_e ex5_3 hf
  refine lv_istore (lv' := [(5, .int x5_3), (0, .ref (G.2.2.1 0)), (1, .int x1), (2, .int x2), (3, .int x3), (4, .int x4)]) hx hb dX6_byFirst_13 hl (by decide) rfl (fun ls hl => ?_)
  refine lv_aload_n hx hb dX6_byFirst_15 rfl (lv_at hl 1 rfl) ?_
  refine zr_get (C := RX6) (T := TX6) (n := 51) C0 hP 0 (by decide) shM_0 39 rfl (by decide) uw_X6 mw_568 rfl dX6_byFirst_16 ?_
  refine lv_if_eq (tgt := 28) hx hb dX6_byFirst_19 (by decide) (fun c_4 => ?_) (fun c_4 => ?_)
  · replace hf := zI_t c_4 hf
    refine lv_sipush (v := (9999 : Int32)) hx hb dX6_byFirst_28 (by decide) ?_
    exact ze_i C0 hP hS hf dX6_byFirst_31 hQ
  · replace hf := zI_f c_4 hf
    refine lv_iload hx hb dX6_byFirst_22 (lv_at hl 0 rfl) ?_
    refine lv_iload_n hx hb dX6_byFirst_24 rfl (lv_at hl 2 rfl) ?_
    refine lv_icmp_le (tgt := 32) hx hb dX6_byFirst_25 (by decide) (fun c_5 => ?_) (fun c_5 => ?_)
    · replace hf := zI_t c_5 hf
      refine lv_iload hx hb dX6_byFirst_32 (lv_at hl 0 rfl) ?_
      refine lv_iload_n hx hb dX6_byFirst_34 rfl (lv_at hl 2 rfl) ?_
      refine lv_icmp_ne (tgt := 46) hx hb dX6_byFirst_35 (by decide) (fun c_6 => ?_) (fun c_6 => ?_)
      · replace hf := zI_f c_6 hf
        refine lv_iload hx hb dX6_byFirst_46 (lv_at hl 5 rfl) ?_
        obtain ⟨r_9, M_7, hc_8, hf⟩ := zB_o hf
        refine zc_si (As := [.int x4]) (rest := []) C0 hP hS hl.1 (mtX6_sizeOf l G hJ x4 M_1 _ hc_8) ls_X6_295 ds_X6_sizeOf (by rw [hRm]; exact ⟨Nat.le_of_ble_eq_true rfl, Nat.le_of_ble_eq_true rfl⟩) rfl rfl (Nat.le_of_ble_eq_true rfl) dX6_byFirst_48 ⟨Nat.zero_le _, Nat.zero_le _⟩ (fun H locs hP hS => ?_)
        refine lv_aload_n hx hb dX6_byFirst_51 rfl (lv_at hl 1 rfl) ?_
        refine zr_getq (C := RX6) (T := TX6) (n := 51) C0 hP 0 (by decide) shM_0 37 16 rfl (by decide) uw_X6 mw_591 rfl dX6_byFirst_52 ?_
        refine lv_sipush (v := (1000 : Int32)) hx hb dX6_byFirst_55 (by decide) ?_
        refine lv_iload hx hb dX6_byFirst_58 (lv_at hl 0 rfl) ?_
        refine lv_imul hx hb dX6_byFirst_60 ?_
        refine lv_aload_n hx hb dX6_byFirst_61 rfl (lv_at hl 1 rfl) ?_
        refine zr_get (C := RX6) (T := TX6) (n := 51) C0 hP 0 (by decide) shM_0 38 rfl (by decide) uw_X6 mw_569 rfl dX6_byFirst_62 ?_
        refine lv_iadd hx hb dX6_byFirst_65 ?_
        obtain ⟨hg_10, hf⟩ := zG_o hf
        refine zr_iald C0 hP 16 (by decide) shM_16 hg_10 dX6_byFirst_66 ?_
        refine lv_iadd hx hb dX6_byFirst_67 ?_
        exact ze_i C0 hP hS hf dX6_byFirst_68 hQ
      · replace hf := zI_t c_6 hf
        refine lv_iload hx hb dX6_byFirst_38 (lv_at hl 5 rfl) ?_
        obtain ⟨r_13, M_11, hc_12, hf⟩ := zB_o hf
        refine zc_si (As := [.int x4]) (rest := []) C0 hP hS hl.1 (mtX6_sizeOf l G hJ x4 M_1 _ hc_12) ls_X6_295 ds_X6_sizeOf (by rw [hRm]; exact ⟨Nat.le_of_ble_eq_true rfl, Nat.le_of_ble_eq_true rfl⟩) rfl rfl (Nat.le_of_ble_eq_true rfl) dX6_byFirst_40 ⟨Nat.zero_le _, Nat.zero_le _⟩ (fun H locs hP hS => ?_)
        refine lv_goto (tgt := 68) hx hb dX6_byFirst_43 (by decide) ?_
        exact ze_i C0 hP hS hf dX6_byFirst_68 hQ
    · replace hf := zI_f c_5 hf
      refine lv_sipush (v := (9999 : Int32)) hx hb dX6_byFirst_28 (by decide) ?_
      exact ze_i C0 hP hS hf dX6_byFirst_31 hQ
def fX6_counts_B60 (r4 : Int32 → Int32 → zM → Option (zM)) (r10 : Int32 → Int32 → Int32 → zM → Option (zM)) (r60 : Int32 → Int32 → Int32 → Int32 → zM → Option (zM)) (x1 : Int32) (x2 : Int32) (x3 : Int32) (x4 : Int32) (M : zM) : Option (zM) :=
  if (8 : Int32) ≤ x4 then
    zL (x3 + (1 : Int32)) fun x3_12 =>
    r10 x1 x2 x3_12 M
  else
    zB (fX6_byFirst x1 x2 x3 x4 M) fun r_15 M_13 =>
    zG (zin (((1000 : Int32) * x2) + x3) 31000) <|
    if (M_13.1 16 (((1000 : Int32) * x2) + x3).toNatClampNeg) ≤ r_15 then
      zL (x4 + (1 : Int32)) fun x4_18 =>
      r60 x1 x2 x3 x4_18 M_13
    else
      zG (zin (((1000 : Int32) * x2) + x3) 31000) <|
      zL (zu M_13 16 (((1000 : Int32) * x2) + x3).toNatClampNeg r_15) fun M_20 =>
      zL (x4 + (1 : Int32)) fun x4_21 =>
      r60 x1 x2 x3 x4_21 M_20
def fX6_counts_L60 (r4 : Int32 → Int32 → zM → Option (zM)) (r10 : Int32 → Int32 → Int32 → zM → Option (zM)) : Nat → Int32 → Int32 → Int32 → Int32 → zM → Option (zM)
  | 0 => fun _ _ _ _ _ => none
  | j9 + 1 => fX6_counts_B60 r4 r10 (fX6_counts_L60 r4 r10 j9)
def fX6_counts_B10 (r4 : Int32 → Int32 → zM → Option (zM)) (r10 : Int32 → Int32 → Int32 → zM → Option (zM)) (x1 : Int32) (x2 : Int32) (x3 : Int32) (M : zM) : Option (zM) :=
  if (1000 : Int32) ≤ x3 then
    zL (x2 + (-1 : Int32)) fun x2_4 =>
    r4 x1 x2_4 M
  else
    zG (zin (((1000 : Int32) * x2) + x3) 31000) <|
    zL (zu M 16 (((1000 : Int32) * x2) + x3).toNatClampNeg (9999 : Int32)) fun M_6 =>
    zB (fX6_isWay (x3 / (100 : Int32)) (zrm (x3 / (10 : Int32)) (10 : Int32)) (zrm x3 (10 : Int32)) M_6) fun r_9 M_7 =>
    if r_9 = (0 : Int32) then
      zL (x3 + (1 : Int32)) fun x3_22 =>
      r10 x1 x2 x3_22 M_7
    else
      fX6_counts_L60 r4 r10 zF x1 x2 x3 (0 : Int32) M_7
def fX6_counts_L10 (r4 : Int32 → Int32 → zM → Option (zM)) : Nat → Int32 → Int32 → Int32 → zM → Option (zM)
  | 0 => fun _ _ _ _ => none
  | j9 + 1 => fX6_counts_B10 r4 (fX6_counts_L10 r4 j9)
def fX6_counts_B4 (r4 : Int32 → Int32 → zM → Option (zM)) (x1 : Int32) (x2 : Int32) (M : zM) : Option (zM) :=
  if x2 < (0 : Int32) then
    some M
  else
    fX6_counts_L10 r4 zF x1 x2 (0 : Int32) M
def fX6_counts_L4 : Nat → Int32 → Int32 → zM → Option (zM)
  | 0 => fun _ _ _ => none
  | j9 + 1 => fX6_counts_B4 (fX6_counts_L4 j9)
def fX6_counts (x1 : Int32) (M : zM) : Option (zM) :=
  zL (x1 - (1 : Int32)) fun x2_1 =>
  fX6_counts_L4 zF x1 x2_1 M
set_option maxHeartbeats 4000000 in
set_option maxRecDepth 100000 in
theorem mtX6_counts (l : Launch) (G : zGr) (hJ : zJ G 23) (x1 : Int32) (M : zM) (o : zM) (hf : fX6_counts x1 M = some o) : zMv l G shM 23 yX6_counts cX6_counts 6 none 3 73 [.ref (G.2.2.1 0), .int x1] M o := by
  intro sz
  refine zOf (by decide) (Nat.le_of_ble_eq_true rfl) ?_
  intro p e R Q s m args below meth c hRm hsz hQ C0 hP hS ls hl
  subst hsz
  replace hRm : R = { frames := 3, cells := 0, slots := 0, locals := 73 } := hRm
  have hl : lv_has ls 6 [(0, .ref (G.2.2.1 0)), (1, .int x1)] := hl
  have hx := C0.1
  have hb := C0.2.1
  have hown := C0.2.2.2.1
  have hts := C0.2.2.2.2.1
  have L4 : ∀ (n4 : Nat), ∀ (x1 : Int32) (x2 : Int32) (M : zM) (H : Heap) (locs : List Loc) (ls : Array Slot), lv_has ls 6 [(0, .ref (G.2.2.1 0)), (1, .int x1), (2, .int x2)] → va_P G.1 zcl (zw G shM 23 M) H → va_S (zA G 23 s.heap.size) s.heap H locs → fX6_counts_L4 n4 x1 x2 M = some o → W p l e R s m args below meth c H locs 0 0 Q (F0 m 4 ls []) := by
    intro n4
    induction n4 with
    | zero => intro x1 x2 M H locs ls hl hP hS hf; exact zn_s (show none = some o from hf)
    | succ n4 ih4 =>
      have L10 : ∀ (n10 : Nat), ∀ (x1 : Int32) (x2 : Int32) (x3 : Int32) (M : zM) (H : Heap) (locs : List Loc) (ls : Array Slot), lv_has ls 6 [(0, .ref (G.2.2.1 0)), (1, .int x1), (2, .int x2), (3, .int x3)] → va_P G.1 zcl (zw G shM 23 M) H → va_S (zA G 23 s.heap.size) s.heap H locs → fX6_counts_L10 (fX6_counts_L4 n4) n10 x1 x2 x3 M = some o → W p l e R s m args below meth c H locs 0 0 Q (F0 m 10 ls []) := by
        intro n10
        induction n10 with
        | zero => intro x1 x2 x3 M H locs ls hl hP hS hf; exact zn_s (show none = some o from hf)
        | succ n10 ih10 =>
          have L60 : ∀ (n60 : Nat), ∀ (x1 : Int32) (x2 : Int32) (x3 : Int32) (x4 : Int32) (M : zM) (H : Heap) (locs : List Loc) (ls : Array Slot), lv_has ls 6 [(0, .ref (G.2.2.1 0)), (1, .int x1), (2, .int x2), (3, .int x3), (4, .int x4)] → va_P G.1 zcl (zw G shM 23 M) H → va_S (zA G 23 s.heap.size) s.heap H locs → fX6_counts_L60 (fX6_counts_L4 n4) (fX6_counts_L10 (fX6_counts_L4 n4) n10) n60 x1 x2 x3 x4 M = some o → W p l e R s m args below meth c H locs 0 0 Q (F0 m 60 ls []) := by
            intro n60
            induction n60 with
            | zero => intro x1 x2 x3 x4 M H locs ls hl hP hS hf; exact zn_s (show none = some o from hf)
            | succ n60 ih60 =>
              intro x1 x2 x3 x4 M H locs ls hl hP hS hf
              replace hf : fX6_counts_B60 (fX6_counts_L4 n4) (fX6_counts_L10 (fX6_counts_L4 n4) n10) (fX6_counts_L60 (fX6_counts_L4 n4) (fX6_counts_L10 (fX6_counts_L4 n4) n10) n60) x1 x2 x3 x4 M = some o := hf
              unfold fX6_counts_B60 at hf
              refine lv_iload hx hb dX6_counts_60 (lv_at hl 4 rfl) ?_
              refine lv_bipush (v := (8 : Int32)) hx hb dX6_counts_62 (by decide) ?_
              refine lv_icmp_ge (tgt := 115) hx hb dX6_counts_64 (by decide) (fun c_11 => ?_) (fun c_11 => ?_)
              · replace hf := zI_t c_11 hf
                obtain ⟨x3_12, ex3_12, hf⟩ := zL_o hf
                refine lv_iinc (v := x3_12) (lv' := [(3, .int x3_12), (0, .ref (G.2.2.1 0)), (1, .int x1), (2, .int x2), (4, .int x4)]) hx hb dX6_counts_115 hl (k := 3) rfl (by rw [ex3_12]; rfl) (by decide) rfl (fun ls hl => ?_)
                refine lv_goto (tgt := 10) hx hb dX6_counts_118 (by decide) ?_
                exact ih10 x1 x2 x3_12 M H locs ls (lv_sub hl [1, 2, 3, 0] rfl) hP hS hf
              · replace hf := zI_f c_11 hf
                refine lv_aload_n hx hb dX6_counts_67 rfl (lv_at hl 0 rfl) ?_
                refine lv_iload_n hx hb dX6_counts_68 rfl (lv_at hl 1 rfl) ?_
                refine lv_iload_n hx hb dX6_counts_69 rfl (lv_at hl 2 rfl) ?_
                refine lv_iload_n hx hb dX6_counts_70 rfl (lv_at hl 3 rfl) ?_
                refine lv_iload hx hb dX6_counts_71 (lv_at hl 4 rfl) ?_
                obtain ⟨r_15, M_13, hc_14, hf⟩ := zB_o hf
                refine zc_vi (As := [.int x1, .int x2, .int x3, .int x4]) (rest := []) C0 hP hS hl.1 0 (mtX6_byFirst l G hJ x1 x2 x3 x4 M _ hc_14) lk_X6_291 (by decide) shM_0 (T := TX6) (n' := 51) rfl ds_X6_byFirst (by rw [hRm]; exact ⟨Nat.le_of_ble_eq_true rfl, Nat.le_of_ble_eq_true rfl⟩) rfl rfl (Nat.le_of_ble_eq_true rfl) dX6_counts_73 ⟨Nat.zero_le _, Nat.zero_le _⟩ (fun H locs hP hS => ?_)
                refine lv_istore (lv' := [(5, .int r_15), (0, .ref (G.2.2.1 0)), (1, .int x1), (2, .int x2), (3, .int x3), (4, .int x4)]) hx hb dX6_counts_76 hl (by decide) rfl (fun ls hl => ?_)
                refine lv_iload hx hb dX6_counts_78 (lv_at hl 0 rfl) ?_
                refine lv_aload_n hx hb dX6_counts_80 rfl (lv_at hl 1 rfl) ?_
                refine zr_getq (C := RX6) (T := TX6) (n := 51) C0 hP 0 (by decide) shM_0 37 16 rfl (by decide) uw_X6 mw_591 rfl dX6_counts_81 ?_
                refine lv_sipush (v := (1000 : Int32)) hx hb dX6_counts_84 (by decide) ?_
                refine lv_iload_n hx hb dX6_counts_87 rfl (lv_at hl 3 rfl) ?_
                refine lv_imul hx hb dX6_counts_88 ?_
                refine lv_iload_n hx hb dX6_counts_89 rfl (lv_at hl 4 rfl) ?_
                refine lv_iadd hx hb dX6_counts_90 ?_
                obtain ⟨hg_16, hf⟩ := zG_o hf
                refine zr_iald C0 hP 16 (by decide) shM_16 hg_16 dX6_counts_91 ?_
                refine lv_icmp_ge (tgt := 109) hx hb dX6_counts_92 (by decide) (fun c_17 => ?_) (fun c_17 => ?_)
                · replace hf := zI_t c_17 hf
                  obtain ⟨x4_18, ex4_18, hf⟩ := zL_o hf
                  refine lv_iinc (v := x4_18) (lv' := [(4, .int x4_18), (5, .int r_15), (0, .ref (G.2.2.1 0)), (1, .int x1), (2, .int x2), (3, .int x3)]) hx hb dX6_counts_109 hl (k := 5) rfl (by rw [ex4_18]; rfl) (by decide) rfl (fun ls hl => ?_)
                  refine lv_goto (tgt := 60) hx hb dX6_counts_112 (by decide) ?_
                  exact ih60 x1 x2 x3 x4_18 M_13 H locs ls (lv_sub hl [2, 3, 4, 5, 0] rfl) hP hS hf
                · replace hf := zI_f c_17 hf
                  refine lv_aload_n hx hb dX6_counts_95 rfl (lv_at hl 1 rfl) ?_
                  refine zr_getq (C := RX6) (T := TX6) (n := 51) C0 hP 0 (by decide) shM_0 37 16 rfl (by decide) uw_X6 mw_591 rfl dX6_counts_96 ?_
                  refine lv_sipush (v := (1000 : Int32)) hx hb dX6_counts_99 (by decide) ?_
                  refine lv_iload_n hx hb dX6_counts_102 rfl (lv_at hl 3 rfl) ?_
                  refine lv_imul hx hb dX6_counts_103 ?_
                  refine lv_iload_n hx hb dX6_counts_104 rfl (lv_at hl 4 rfl) ?_
                  refine lv_iadd hx hb dX6_counts_105 ?_
                  refine lv_iload hx hb dX6_counts_106 (lv_at hl 0 rfl) ?_
                  obtain ⟨hg_19, hf⟩ := zG_o hf
                  refine zr_iast C0 hJ hP hS 16 (by decide) shM_16 hg_19 dX6_counts_108 (fun H locs hP hS => ?_)
                  obtain ⟨M_20, eM_20, hf⟩ := zL_o hf
                  have hP : va_P G.1 zcl (zw G shM 23 M_20) H := by rw [eM_20]; exact hP
                  obtain ⟨x4_21, ex4_21, hf⟩ := zL_o hf
                  refine lv_iinc (v := x4_21) (lv' := [(4, .int x4_21), (5, .int r_15), (0, .ref (G.2.2.1 0)), (1, .int x1), (2, .int x2), (3, .int x3)]) hx hb dX6_counts_109 hl (k := 5) rfl (by rw [ex4_21]; rfl) (by decide) rfl (fun ls hl => ?_)
                  refine lv_goto (tgt := 60) hx hb dX6_counts_112 (by decide) ?_
                  exact ih60 x1 x2 x3 x4_21 M_20 H locs ls (lv_sub hl [2, 3, 4, 5, 0] rfl) hP hS hf
          intro x1 x2 x3 M H locs ls hl hP hS hf
          replace hf : fX6_counts_B10 (fX6_counts_L4 n4) (fX6_counts_L10 (fX6_counts_L4 n4) n10) x1 x2 x3 M = some o := hf
          unfold fX6_counts_B10 at hf
          refine lv_iload_n hx hb dX6_counts_10 rfl (lv_at hl 3 rfl) ?_
          refine lv_sipush (v := (1000 : Int32)) hx hb dX6_counts_11 (by decide) ?_
          refine lv_icmp_ge (tgt := 121) hx hb dX6_counts_14 (by decide) (fun c_3 => ?_) (fun c_3 => ?_)
          · replace hf := zI_t c_3 hf
            obtain ⟨x2_4, ex2_4, hf⟩ := zL_o hf
            refine lv_iinc (v := x2_4) (lv' := [(2, .int x2_4), (0, .ref (G.2.2.1 0)), (1, .int x1), (3, .int x3)]) hx hb dX6_counts_121 hl (k := 2) rfl (by rw [ex2_4]; rfl) (by decide) rfl (fun ls hl => ?_)
            refine lv_goto (tgt := 4) hx hb dX6_counts_124 (by decide) ?_
            exact ih4 x1 x2_4 M H locs ls (lv_sub hl [1, 2, 0] rfl) hP hS hf
          · replace hf := zI_f c_3 hf
            refine lv_aload_n hx hb dX6_counts_17 rfl (lv_at hl 0 rfl) ?_
            refine zr_getq (C := RX6) (T := TX6) (n := 51) C0 hP 0 (by decide) shM_0 37 16 rfl (by decide) uw_X6 mw_591 rfl dX6_counts_18 ?_
            refine lv_sipush (v := (1000 : Int32)) hx hb dX6_counts_21 (by decide) ?_
            refine lv_iload_n hx hb dX6_counts_24 rfl (lv_at hl 2 rfl) ?_
            refine lv_imul hx hb dX6_counts_25 ?_
            refine lv_iload_n hx hb dX6_counts_26 rfl (lv_at hl 3 rfl) ?_
            refine lv_iadd hx hb dX6_counts_27 ?_
            refine lv_sipush (v := (9999 : Int32)) hx hb dX6_counts_28 (by decide) ?_
            obtain ⟨hg_5, hf⟩ := zG_o hf
            refine zr_iast C0 hJ hP hS 16 (by decide) shM_16 hg_5 dX6_counts_31 (fun H locs hP hS => ?_)
            obtain ⟨M_6, eM_6, hf⟩ := zL_o hf
            have hP : va_P G.1 zcl (zw G shM 23 M_6) H := by rw [eM_6]; exact hP
            refine lv_aload_n hx hb dX6_counts_32 rfl (lv_at hl 0 rfl) ?_
            refine lv_iload_n hx hb dX6_counts_33 rfl (lv_at hl 3 rfl) ?_
            refine lv_bipush (v := (100 : Int32)) hx hb dX6_counts_34 (by decide) ?_
            refine lv_idiv hx hb dX6_counts_36 (by decide) ?_
            refine lv_iload_n hx hb dX6_counts_37 rfl (lv_at hl 3 rfl) ?_
            refine lv_bipush (v := (10 : Int32)) hx hb dX6_counts_38 (by decide) ?_
            refine lv_idiv hx hb dX6_counts_40 (by decide) ?_
            refine lv_bipush (v := (10 : Int32)) hx hb dX6_counts_41 (by decide) ?_
            refine zo_irem hx hb dX6_counts_43 (by decide) ?_
            refine lv_iload_n hx hb dX6_counts_44 rfl (lv_at hl 3 rfl) ?_
            refine lv_bipush (v := (10 : Int32)) hx hb dX6_counts_45 (by decide) ?_
            refine zo_irem hx hb dX6_counts_47 (by decide) ?_
            obtain ⟨r_9, M_7, hc_8, hf⟩ := zB_o hf
            refine zc_vi (As := [.int (x3 / (100 : Int32)), .int (zrm (x3 / (10 : Int32)) (10 : Int32)), .int (zrm x3 (10 : Int32))]) (rest := []) C0 hP hS hl.1 0 (mtX6_isWay l G hJ (x3 / (100 : Int32)) (zrm (x3 / (10 : Int32)) (10 : Int32)) (zrm x3 (10 : Int32)) M_6 _ hc_8) lk_X6_288 (by decide) shM_0 (T := TX6) (n' := 51) rfl ds_X6_isWay (by rw [hRm]; exact ⟨Nat.le_of_ble_eq_true rfl, Nat.le_of_ble_eq_true rfl⟩) rfl rfl (Nat.le_of_ble_eq_true rfl) dX6_counts_48 ⟨Nat.zero_le _, Nat.zero_le _⟩ (fun H locs hP hS => ?_)
            refine lv_if_ne (tgt := 57) hx hb dX6_counts_51 (by decide) (fun c_10 => ?_) (fun c_10 => ?_)
            · replace hf := zI_f c_10 hf
              refine lv_iconst (v := (0 : Int32)) hx hb dX6_counts_57 (by decide) ?_
              refine lv_istore (lv' := [(4, .int (0 : Int32)), (0, .ref (G.2.2.1 0)), (1, .int x1), (2, .int x2), (3, .int x3)]) hx hb dX6_counts_58 hl (by decide) rfl (fun ls hl => ?_)
              exact L60 zF x1 x2 x3 (0 : Int32) M_7 H locs ls (lv_sub hl [1, 2, 3, 4, 0] rfl) hP hS hf
            · replace hf := zI_t c_10 hf
              refine lv_goto (tgt := 115) hx hb dX6_counts_54 (by decide) ?_
              obtain ⟨x3_22, ex3_22, hf⟩ := zL_o hf
              refine lv_iinc (v := x3_22) (lv' := [(3, .int x3_22), (0, .ref (G.2.2.1 0)), (1, .int x1), (2, .int x2)]) hx hb dX6_counts_115 hl (k := 3) rfl (by rw [ex3_22]; rfl) (by decide) rfl (fun ls hl => ?_)
              refine lv_goto (tgt := 10) hx hb dX6_counts_118 (by decide) ?_
              exact ih10 x1 x2 x3_22 M_7 H locs ls (lv_sub hl [1, 2, 3, 0] rfl) hP hS hf
      intro x1 x2 M H locs ls hl hP hS hf
      replace hf : fX6_counts_B4 (fX6_counts_L4 n4) x1 x2 M = some o := hf
      unfold fX6_counts_B4 at hf
      refine lv_iload_n hx hb dX6_counts_4 rfl (lv_at hl 2 rfl) ?_
      refine lv_if_lt (tgt := 127) hx hb dX6_counts_5 (by decide) (fun c_2 => ?_) (fun c_2 => ?_)
      · replace hf := zI_t c_2 hf
        exact ze_v C0 hP hS hf dX6_counts_127 hQ
      · replace hf := zI_f c_2 hf
        refine lv_iconst (v := (0 : Int32)) hx hb dX6_counts_8 (by decide) ?_
        refine lv_istore_n (lv' := [(3, .int (0 : Int32)), (0, .ref (G.2.2.1 0)), (1, .int x1), (2, .int x2)]) hx hb dX6_counts_9 rfl hl (by decide) rfl (fun ls hl => ?_)
        exact L10 zF x1 x2 (0 : Int32) M H locs ls (lv_sub hl [1, 2, 3, 0] rfl) hP hS hf
  unfold fX6_counts at hf
  obtain ⟨H, eH⟩ : ∃ H, H = s.heap := ⟨_, rfl⟩
  obtain ⟨locs, el⟩ : ∃ locs : List Loc, locs = [] := ⟨_, rfl⟩
  rw [← eH] at hP ⊢
  have hS : va_S (zA G 23 s.heap.size) s.heap H locs := by rw [eH, el]; exact hS
  rw [← el]
  refine lv_iload_n hx hb dX6_counts_0 rfl (lv_at hl 1 rfl) ?_
  refine lv_iconst (v := (1 : Int32)) hx hb dX6_counts_1 (by decide) ?_
  refine lv_isub hx hb dX6_counts_2 ?_
  refine lv_topi (fun x2_1 ex2_1 => ?_)
  replace hf := zL_e ex2_1 hf
  refine lv_istore_n (lv' := [(2, .int x2_1), (0, .ref (G.2.2.1 0)), (1, .int x1)]) hx hb dX6_counts_3 rfl hl (by decide) rfl (fun ls hl => ?_)
  exact L4 zF x1 x2_1 M H locs ls (lv_sub hl [1, 2, 0] rfl) hP hS hf

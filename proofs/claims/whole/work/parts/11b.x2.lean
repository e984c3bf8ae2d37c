def fX2_readEither_B8 (g_readBoth : Int32 → zM → Option (Int32 × zM)) (r8 : Int32 → Int32 → Int32 → zM → Option (Int32 × zM)) (x1 : Int32) (x2 : Int32) (x3 : Int32) (M : zM) : Option (Int32 × zM) :=
  if (160 : Int32) ≤ x3 then
    zG (zbo x2) <|
    some (x2, M)
  else
    if x2 = (0 : Int32) then
      zG (zbo x2) <|
      some (x2, M)
    else
      if (M.1 2 6) = (7 : Int32) then
        zV (fX2_next M) fun M_10 =>
        zB (g_readBoth x1 M_10) fun r_14 M_12 =>
        zV (fX2_emit (20007 : Int32) M_12) fun M_15 =>
        zL (x3 + (1 : Int32)) fun x3_17 =>
        r8 x1 r_14 x3_17 M_15
      else
        zG (zbo x2) <|
        some (x2, M)
def fX2_readEither_L8 (g_readBoth : Int32 → zM → Option (Int32 × zM)) : Nat → Int32 → Int32 → Int32 → zM → Option (Int32 × zM)
  | 0 => fun _ _ _ _ => none
  | j9 + 1 => fX2_readEither_B8 g_readBoth (fX2_readEither_L8 g_readBoth j9)
def fX2_readEither (g_readBoth : Int32 → zM → Option (Int32 × zM)) (x1 : Int32) (M : zM) : Option (Int32 × zM) :=
  zB (g_readBoth x1 M) fun r_3 M_1 =>
  fX2_readEither_L8 g_readBoth zF x1 r_3 (0 : Int32) M_1
set_option maxHeartbeats 4000000 in
set_option maxRecDepth 100000 in
theorem mtX2_readEither (l : Launch) (G : zGr) (hJ : zJ G 64) (g_readBoth : Int32 → zM → Option (Int32 × zM)) (fr lo : Nat) (hfr : 7 ≤ fr) (hlo : 152 ≤ lo) (k_readBoth : ∀ (x1 : Int32) (M : zM) (o : Int32 × zM), g_readBoth x1 M = some o → zMi l G shX 64 yX2_readBoth cX2_readBoth 4 (some .boolean) fr lo [.ref (G.2.2.1 2), .int x1] M o) (x1 : Int32) (M : zM) (o : Int32 × zM) (hf : fX2_readEither g_readBoth x1 M = some o) : zMi l G shX 64 yX2_readEither cX2_readEither 4 (some .boolean) (fr + 1) (lo + 40) [.ref (G.2.2.1 2), .int x1] M o := by
  intro sz
  refine zOf (by decide) (Nat.le_of_ble_eq_true rfl) ?_
  intro p e R Q s m args below meth c hRm hsz hQ C0 hP hS ls hl
  subst hsz
  replace hRm : R = { frames := fr + 1, cells := 0, slots := 0, locals := lo + 40 } := hRm
  have hl : lv_has ls 4 [(0, .ref (G.2.2.1 2)), (1, .int x1)] := hl
  have hx := C0.1
  have hb := C0.2.1
  have hown := C0.2.2.2.1
  have hts := C0.2.2.2.2.1
  have L8 : ∀ (n8 : Nat), ∀ (x1 : Int32) (x2 : Int32) (x3 : Int32) (M : zM) (H : Heap) (locs : List Loc) (ls : Array Slot), lv_has ls 4 [(0, .ref (G.2.2.1 2)), (1, .int x1), (2, .int x2), (3, .int x3)] → va_P G.1 zcl (zw G shX 64 M) H → va_S (zA G 64 s.heap.size) s.heap H locs → fX2_readEither_L8 g_readBoth n8 x1 x2 x3 M = some o → W p l e R s m args below meth c H locs 0 0 Q (F0 m 8 ls []) := by
    intro n8
    induction n8 with
    | zero => intro x1 x2 x3 M H locs ls hl hP hS hf; exact zn_s (show none = some o from hf)
    | succ n8 ih8 =>
      intro x1 x2 x3 M H locs ls hl hP hS hf
      replace hf : fX2_readEither_B8 g_readBoth (fX2_readEither_L8 g_readBoth n8) x1 x2 x3 M = some o := hf
      unfold fX2_readEither_B8 at hf
      refine lv_iload_n hx hb dX2_readEither_8 rfl (lv_at hl 3 rfl) ?_
      refine lv_sipush (v := (160 : Int32)) hx hb dX2_readEither_9 (by decide) ?_
      refine lv_icmp_ge (tgt := 51) hx hb dX2_readEither_12 (by decide) (fun c_4 => ?_) (fun c_4 => ?_)
      · replace hf := zI_t c_4 hf
        refine lv_iload_n hx hb dX2_readEither_51 rfl (lv_at hl 2 rfl) ?_
        obtain ⟨hg_5, hf⟩ := zG_o hf
        exact ze_z C0 hP hS hg_5 hf dX2_readEither_52 hQ
      · replace hf := zI_f c_4 hf
        refine lv_iload_n hx hb dX2_readEither_15 rfl (lv_at hl 2 rfl) ?_
        refine lv_if_eq (tgt := 51) hx hb dX2_readEither_16 (by decide) (fun c_6 => ?_) (fun c_6 => ?_)
        · replace hf := zI_t c_6 hf
          refine lv_iload_n hx hb dX2_readEither_51 rfl (lv_at hl 2 rfl) ?_
          obtain ⟨hg_7, hf⟩ := zG_o hf
          exact ze_z C0 hP hS hg_7 hf dX2_readEither_52 hQ
        · replace hf := zI_f c_6 hf
          refine lv_aload_n hx hb dX2_readEither_19 rfl (lv_at hl 0 rfl) ?_
          refine zr_get (C := RX2) (T := TX2) (n := 9) C0 hP 2 (by decide) shX_2 6 rfl (by decide) uw_X2 mw_181 rfl dX2_readEither_20 ?_
          refine lv_bipush (v := (7 : Int32)) hx hb dX2_readEither_23 (by decide) ?_
          refine lv_icmp_ne (tgt := 51) hx hb dX2_readEither_25 (by decide) (fun c_8 => ?_) (fun c_8 => ?_)
          · replace hf := zI_f c_8 hf
            refine lv_iload_n hx hb dX2_readEither_51 rfl (lv_at hl 2 rfl) ?_
            obtain ⟨hg_9, hf⟩ := zG_o hf
            exact ze_z C0 hP hS hg_9 hf dX2_readEither_52 hQ
          · replace hf := zI_t c_8 hf
            refine lv_aload_n hx hb dX2_readEither_28 rfl (lv_at hl 0 rfl) ?_
            obtain ⟨M_10, hc_11, hf⟩ := zV_o hf
            refine zc_vv (As := []) (rest := []) C0 hP hS hl.1 2 (mtX2_next l G hJ M _ hc_11) lk_X2_31 (by decide) shX_2 (T := TX2) (n' := 9) rfl ds_X2_next (by rw [hRm]; exact ⟨by show 6 + 1 ≤ fr + 1; omega, by show 8 + (1 + 11) + 132 ≤ lo + 40; omega⟩) rfl rfl (Nat.le_of_ble_eq_true rfl) dX2_readEither_29 ⟨Nat.zero_le _, Nat.zero_le _⟩ (fun H locs hP hS => ?_)
            refine lv_aload_n hx hb dX2_readEither_32 rfl (lv_at hl 0 rfl) ?_
            refine lv_iload_n hx hb dX2_readEither_33 rfl (lv_at hl 1 rfl) ?_
            obtain ⟨r_14, M_12, hc_13, hf⟩ := zB_o hf
            refine zc_vi (As := [.int x1]) (rest := []) C0 hP hS hl.1 2 (k_readBoth x1 M_10 _ hc_13) lk_X2_44 (by decide) shX_2 (T := TX2) (n' := 9) rfl ds_X2_readBoth (by rw [hRm]; exact ⟨Nat.le_refl _, by show 8 + (4 + 11) + lo ≤ lo + 40; omega⟩) rfl rfl (Nat.le_of_ble_eq_true rfl) dX2_readEither_34 ⟨Nat.zero_le _, Nat.zero_le _⟩ (fun H locs hP hS => ?_)
            refine lv_istore_n (lv' := [(2, .int r_14), (0, .ref (G.2.2.1 2)), (1, .int x1), (3, .int x3)]) hx hb dX2_readEither_37 rfl hl (by decide) rfl (fun ls hl => ?_)
            refine lv_aload_n hx hb dX2_readEither_38 rfl (lv_at hl 1 rfl) ?_
            refine lv_sipush (v := (20007 : Int32)) hx hb dX2_readEither_39 (by decide) ?_
            obtain ⟨M_15, hc_16, hf⟩ := zV_o hf
            refine zc_vv (As := [.int (20007 : Int32)]) (rest := []) C0 hP hS hl.1 2 (mtX2_emit l G hJ (20007 : Int32) M_12 _ hc_16) lk_X2_49 (by decide) shX_2 (T := TX2) (n' := 9) rfl ds_X2_emit (by rw [hRm]; exact ⟨by show 0 + 1 ≤ fr + 1; omega, by show 8 + (2 + 11) + 0 ≤ lo + 40; omega⟩) rfl rfl (Nat.le_of_ble_eq_true rfl) dX2_readEither_42 ⟨Nat.zero_le _, Nat.zero_le _⟩ (fun H locs hP hS => ?_)
            obtain ⟨x3_17, ex3_17, hf⟩ := zL_o hf
            refine lv_iinc (v := x3_17) (lv' := [(3, .int x3_17), (2, .int r_14), (0, .ref (G.2.2.1 2)), (1, .int x1)]) hx hb dX2_readEither_45 hl (k := 3) rfl (by rw [ex3_17]; rfl) (by decide) rfl (fun ls hl => ?_)
            refine lv_goto (tgt := 8) hx hb dX2_readEither_48 (by decide) ?_
            exact ih8 x1 r_14 x3_17 M_15 H locs ls (lv_sub hl [2, 3, 1, 0] rfl) hP hS hf
  unfold fX2_readEither at hf
  obtain ⟨H, eH⟩ : ∃ H, H = s.heap := ⟨_, rfl⟩
  obtain ⟨locs, el⟩ : ∃ locs : List Loc, locs = [] := ⟨_, rfl⟩
  rw [← eH] at hP ⊢
  have hS : va_S (zA G 64 s.heap.size) s.heap H locs := by rw [eH, el]; exact hS
  rw [← el]
  refine lv_aload_n hx hb dX2_readEither_0 rfl (lv_at hl 0 rfl) ?_
  refine lv_iload_n hx hb dX2_readEither_1 rfl (lv_at hl 1 rfl) ?_
  obtain ⟨r_3, M_1, hc_2, hf⟩ := zB_o hf
  refine zc_vi (As := [.int x1]) (rest := []) C0 hP hS hl.1 2 (k_readBoth x1 M _ hc_2) lk_X2_44 (by decide) shX_2 (T := TX2) (n' := 9) rfl ds_X2_readBoth (by rw [hRm]; exact ⟨Nat.le_refl _, by show 8 + (4 + 11) + lo ≤ lo + 40; omega⟩) rfl rfl (Nat.le_of_ble_eq_true rfl) dX2_readEither_2 ⟨Nat.zero_le _, Nat.zero_le _⟩ (fun H locs hP hS => ?_)
  refine lv_istore_n (lv' := [(2, .int r_3), (0, .ref (G.2.2.1 2)), (1, .int x1)]) hx hb dX2_readEither_5 rfl hl (by decide) rfl (fun ls hl => ?_)
  refine lv_iconst (v := (0 : Int32)) hx hb dX2_readEither_6 (by decide) ?_
  refine lv_istore_n (lv' := [(3, .int (0 : Int32)), (2, .int r_3), (0, .ref (G.2.2.1 2)), (1, .int x1)]) hx hb dX2_readEither_7 rfl hl (by decide) rfl (fun ls hl => ?_)
  exact L8 zF x1 r_3 (0 : Int32) M_1 H locs ls (lv_sub hl [2, 3, 1, 0] rfl) hP hS hf
def fX2_readBoth_B8 (g_readDenied : Int32 → zM → Option (Int32 × zM)) (r8 : Int32 → Int32 → Int32 → zM → Option (Int32 × zM)) (x1 : Int32) (x2 : Int32) (x3 : Int32) (M : zM) : Option (Int32 × zM) :=
  if (160 : Int32) ≤ x3 then
    zG (zbo x2) <|
    some (x2, M)
  else
    if x2 = (0 : Int32) then
      zG (zbo x2) <|
      some (x2, M)
    else
      if (M.1 2 6) = (8 : Int32) then
        zV (fX2_next M) fun M_10 =>
        zB (g_readDenied x1 M_10) fun r_14 M_12 =>
        zV (fX2_emit (20008 : Int32) M_12) fun M_15 =>
        zL (x3 + (1 : Int32)) fun x3_17 =>
        r8 x1 r_14 x3_17 M_15
      else
        zG (zbo x2) <|
        some (x2, M)
def fX2_readBoth_L8 (g_readDenied : Int32 → zM → Option (Int32 × zM)) : Nat → Int32 → Int32 → Int32 → zM → Option (Int32 × zM)
  | 0 => fun _ _ _ _ => none
  | j9 + 1 => fX2_readBoth_B8 g_readDenied (fX2_readBoth_L8 g_readDenied j9)
def fX2_readBoth (g_readDenied : Int32 → zM → Option (Int32 × zM)) (x1 : Int32) (M : zM) : Option (Int32 × zM) :=
  zB (g_readDenied x1 M) fun r_3 M_1 =>
  fX2_readBoth_L8 g_readDenied zF x1 r_3 (0 : Int32) M_1
set_option maxHeartbeats 4000000 in
set_option maxRecDepth 100000 in
theorem mtX2_readBoth (l : Launch) (G : zGr) (hJ : zJ G 64) (g_readDenied : Int32 → zM → Option (Int32 × zM)) (fr lo : Nat) (hfr : 7 ≤ fr) (hlo : 152 ≤ lo) (k_readDenied : ∀ (x1 : Int32) (M : zM) (o : Int32 × zM), g_readDenied x1 M = some o → zMi l G shX 64 yX2_readDenied cX2_readDenied 4 (some .boolean) fr lo [.ref (G.2.2.1 2), .int x1] M o) (x1 : Int32) (M : zM) (o : Int32 × zM) (hf : fX2_readBoth g_readDenied x1 M = some o) : zMi l G shX 64 yX2_readBoth cX2_readBoth 4 (some .boolean) (fr + 1) (lo + 40) [.ref (G.2.2.1 2), .int x1] M o := by
  intro sz
  refine zOf (by decide) (Nat.le_of_ble_eq_true rfl) ?_
  intro p e R Q s m args below meth c hRm hsz hQ C0 hP hS ls hl
  subst hsz
  replace hRm : R = { frames := fr + 1, cells := 0, slots := 0, locals := lo + 40 } := hRm
  have hl : lv_has ls 4 [(0, .ref (G.2.2.1 2)), (1, .int x1)] := hl
  have hx := C0.1
  have hb := C0.2.1
  have hown := C0.2.2.2.1
  have hts := C0.2.2.2.2.1
  have L8 : ∀ (n8 : Nat), ∀ (x1 : Int32) (x2 : Int32) (x3 : Int32) (M : zM) (H : Heap) (locs : List Loc) (ls : Array Slot), lv_has ls 4 [(0, .ref (G.2.2.1 2)), (1, .int x1), (2, .int x2), (3, .int x3)] → va_P G.1 zcl (zw G shX 64 M) H → va_S (zA G 64 s.heap.size) s.heap H locs → fX2_readBoth_L8 g_readDenied n8 x1 x2 x3 M = some o → W p l e R s m args below meth c H locs 0 0 Q (F0 m 8 ls []) := by
    intro n8
    induction n8 with
    | zero => intro x1 x2 x3 M H locs ls hl hP hS hf; exact zn_s (show none = some o from hf)
    | succ n8 ih8 =>
      intro x1 x2 x3 M H locs ls hl hP hS hf
      replace hf : fX2_readBoth_B8 g_readDenied (fX2_readBoth_L8 g_readDenied n8) x1 x2 x3 M = some o := hf
      unfold fX2_readBoth_B8 at hf
      refine lv_iload_n hx hb dX2_readBoth_8 rfl (lv_at hl 3 rfl) ?_
      refine lv_sipush (v := (160 : Int32)) hx hb dX2_readBoth_9 (by decide) ?_
      refine lv_icmp_ge (tgt := 51) hx hb dX2_readBoth_12 (by decide) (fun c_4 => ?_) (fun c_4 => ?_)
      · replace hf := zI_t c_4 hf
        refine lv_iload_n hx hb dX2_readBoth_51 rfl (lv_at hl 2 rfl) ?_
        obtain ⟨hg_5, hf⟩ := zG_o hf
        exact ze_z C0 hP hS hg_5 hf dX2_readBoth_52 hQ
      · replace hf := zI_f c_4 hf
        refine lv_iload_n hx hb dX2_readBoth_15 rfl (lv_at hl 2 rfl) ?_
        refine lv_if_eq (tgt := 51) hx hb dX2_readBoth_16 (by decide) (fun c_6 => ?_) (fun c_6 => ?_)
        · replace hf := zI_t c_6 hf
          refine lv_iload_n hx hb dX2_readBoth_51 rfl (lv_at hl 2 rfl) ?_
          obtain ⟨hg_7, hf⟩ := zG_o hf
          exact ze_z C0 hP hS hg_7 hf dX2_readBoth_52 hQ
        · replace hf := zI_f c_6 hf
          refine lv_aload_n hx hb dX2_readBoth_19 rfl (lv_at hl 0 rfl) ?_
          refine zr_get (C := RX2) (T := TX2) (n := 9) C0 hP 2 (by decide) shX_2 6 rfl (by decide) uw_X2 mw_181 rfl dX2_readBoth_20 ?_
          refine lv_bipush (v := (8 : Int32)) hx hb dX2_readBoth_23 (by decide) ?_
          refine lv_icmp_ne (tgt := 51) hx hb dX2_readBoth_25 (by decide) (fun c_8 => ?_) (fun c_8 => ?_)
          · replace hf := zI_f c_8 hf
            refine lv_iload_n hx hb dX2_readBoth_51 rfl (lv_at hl 2 rfl) ?_
            obtain ⟨hg_9, hf⟩ := zG_o hf
            exact ze_z C0 hP hS hg_9 hf dX2_readBoth_52 hQ
          · replace hf := zI_t c_8 hf
            refine lv_aload_n hx hb dX2_readBoth_28 rfl (lv_at hl 0 rfl) ?_
            obtain ⟨M_10, hc_11, hf⟩ := zV_o hf
            refine zc_vv (As := []) (rest := []) C0 hP hS hl.1 2 (mtX2_next l G hJ M _ hc_11) lk_X2_31 (by decide) shX_2 (T := TX2) (n' := 9) rfl ds_X2_next (by rw [hRm]; exact ⟨by show 6 + 1 ≤ fr + 1; omega, by show 8 + (1 + 11) + 132 ≤ lo + 40; omega⟩) rfl rfl (Nat.le_of_ble_eq_true rfl) dX2_readBoth_29 ⟨Nat.zero_le _, Nat.zero_le _⟩ (fun H locs hP hS => ?_)
            refine lv_aload_n hx hb dX2_readBoth_32 rfl (lv_at hl 0 rfl) ?_
            refine lv_iload_n hx hb dX2_readBoth_33 rfl (lv_at hl 1 rfl) ?_
            obtain ⟨r_14, M_12, hc_13, hf⟩ := zB_o hf
            refine zc_vi (As := [.int x1]) (rest := []) C0 hP hS hl.1 2 (k_readDenied x1 M_10 _ hc_13) lk_X2_53 (by decide) shX_2 (T := TX2) (n' := 9) rfl ds_X2_readDenied (by rw [hRm]; exact ⟨Nat.le_refl _, by show 8 + (4 + 11) + lo ≤ lo + 40; omega⟩) rfl rfl (Nat.le_of_ble_eq_true rfl) dX2_readBoth_34 ⟨Nat.zero_le _, Nat.zero_le _⟩ (fun H locs hP hS => ?_)
            refine lv_istore_n (lv' := [(2, .int r_14), (0, .ref (G.2.2.1 2)), (1, .int x1), (3, .int x3)]) hx hb dX2_readBoth_37 rfl hl (by decide) rfl (fun ls hl => ?_)
            refine lv_aload_n hx hb dX2_readBoth_38 rfl (lv_at hl 1 rfl) ?_
            refine lv_sipush (v := (20008 : Int32)) hx hb dX2_readBoth_39 (by decide) ?_
            obtain ⟨M_15, hc_16, hf⟩ := zV_o hf
            refine zc_vv (As := [.int (20008 : Int32)]) (rest := []) C0 hP hS hl.1 2 (mtX2_emit l G hJ (20008 : Int32) M_12 _ hc_16) lk_X2_49 (by decide) shX_2 (T := TX2) (n' := 9) rfl ds_X2_emit (by rw [hRm]; exact ⟨by show 0 + 1 ≤ fr + 1; omega, by show 8 + (2 + 11) + 0 ≤ lo + 40; omega⟩) rfl rfl (Nat.le_of_ble_eq_true rfl) dX2_readBoth_42 ⟨Nat.zero_le _, Nat.zero_le _⟩ (fun H locs hP hS => ?_)
            obtain ⟨x3_17, ex3_17, hf⟩ := zL_o hf
            refine lv_iinc (v := x3_17) (lv' := [(3, .int x3_17), (2, .int r_14), (0, .ref (G.2.2.1 2)), (1, .int x1)]) hx hb dX2_readBoth_45 hl (k := 3) rfl (by rw [ex3_17]; rfl) (by decide) rfl (fun ls hl => ?_)
            refine lv_goto (tgt := 8) hx hb dX2_readBoth_48 (by decide) ?_
            exact ih8 x1 r_14 x3_17 M_15 H locs ls (lv_sub hl [2, 3, 1, 0] rfl) hP hS hf
  unfold fX2_readBoth at hf
  obtain ⟨H, eH⟩ : ∃ H, H = s.heap := ⟨_, rfl⟩
  obtain ⟨locs, el⟩ : ∃ locs : List Loc, locs = [] := ⟨_, rfl⟩
  rw [← eH] at hP ⊢
  have hS : va_S (zA G 64 s.heap.size) s.heap H locs := by rw [eH, el]; exact hS
  rw [← el]
  refine lv_aload_n hx hb dX2_readBoth_0 rfl (lv_at hl 0 rfl) ?_
  refine lv_iload_n hx hb dX2_readBoth_1 rfl (lv_at hl 1 rfl) ?_
  obtain ⟨r_3, M_1, hc_2, hf⟩ := zB_o hf
  refine zc_vi (As := [.int x1]) (rest := []) C0 hP hS hl.1 2 (k_readDenied x1 M _ hc_2) lk_X2_53 (by decide) shX_2 (T := TX2) (n' := 9) rfl ds_X2_readDenied (by rw [hRm]; exact ⟨Nat.le_refl _, by show 8 + (4 + 11) + lo ≤ lo + 40; omega⟩) rfl rfl (Nat.le_of_ble_eq_true rfl) dX2_readBoth_2 ⟨Nat.zero_le _, Nat.zero_le _⟩ (fun H locs hP hS => ?_)
  refine lv_istore_n (lv' := [(2, .int r_3), (0, .ref (G.2.2.1 2)), (1, .int x1)]) hx hb dX2_readBoth_5 rfl hl (by decide) rfl (fun ls hl => ?_)
  refine lv_iconst (v := (0 : Int32)) hx hb dX2_readBoth_6 (by decide) ?_
  refine lv_istore_n (lv' := [(3, .int (0 : Int32)), (2, .int r_3), (0, .ref (G.2.2.1 2)), (1, .int x1)]) hx hb dX2_readBoth_7 rfl hl (by decide) rfl (fun ls hl => ?_)
  exact L8 zF x1 r_3 (0 : Int32) M_1 H locs ls (lv_sub hl [2, 3, 1, 0] rfl) hP hS hf
def fX2_readDenied_J65 (g_readDenied : Int32 → zM → Option (Int32 × zM)) (g_readSum : Int32 → zM → Option (Int32 × zM)) (x1 : Int32) (M : zM) : Option (Int32 × zM) :=
  zL (M.1 2 6) fun x3_8 =>
  zV (fX2_next M) fun M_9 =>
  zB (g_readSum x1 M_9) fun r_13 M_11 =>
  zV (fX2_emit ((20000 : Int32) + x3_8) M_11) fun M_14 =>
  zG (zbo r_13) <|
  some (r_13, M_14)
def fX2_readDenied (g_readDenied : Int32 → zM → Option (Int32 × zM)) (g_readSum : Int32 → zM → Option (Int32 × zM)) (x1 : Int32) (M : zM) : Option (Int32 × zM) :=
  if (M.1 2 6) = (9 : Int32) then
    if x1 < (5 : Int32) then
      zV (fX2_next M) fun M_20 =>
      zB (g_readDenied (x1 + (1 : Int32)) M_20) fun r_24 M_22 =>
      zV (fX2_emit (30001 : Int32) M_22) fun M_25 =>
      zG (zbo r_24) <|
      some (r_24, M_25)
    else
      some ((0 : Int32), M)
  else
    zB (g_readSum x1 M) fun r_4 M_2 =>
    if r_4 = (0 : Int32) then
      zG (zbo r_4) <|
      some (r_4, M_2)
    else
      if (M_2.1 2 6) = (60 : Int32) then
        fX2_readDenied_J65 g_readDenied g_readSum x1 M_2
      else
        if (M_2.1 2 6) = (61 : Int32) then
          fX2_readDenied_J65 g_readDenied g_readSum x1 M_2
        else
          zG (zbo r_4) <|
          some (r_4, M_2)
set_option maxHeartbeats 4000000 in
set_option maxRecDepth 100000 in
theorem mtX2_readDenied (l : Launch) (G : zGr) (hJ : zJ G 64) (g_readDenied : Int32 → zM → Option (Int32 × zM)) (g_readSum : Int32 → zM → Option (Int32 × zM)) (fr lo : Nat) (hfr : 7 ≤ fr) (hlo : 152 ≤ lo) (k_readDenied : ∀ (x1 : Int32) (M : zM) (o : Int32 × zM), g_readDenied x1 M = some o → zMi l G shX 64 yX2_readDenied cX2_readDenied 4 (some .boolean) fr lo [.ref (G.2.2.1 2), .int x1] M o) (k_readSum : ∀ (x1 : Int32) (M : zM) (o : Int32 × zM), g_readSum x1 M = some o → zMi l G shX 64 yX2_readSum cX2_readSum 5 (some .boolean) fr lo [.ref (G.2.2.1 2), .int x1] M o) (x1 : Int32) (M : zM) (o : Int32 × zM) (hf : fX2_readDenied g_readDenied g_readSum x1 M = some o) : zMi l G shX 64 yX2_readDenied cX2_readDenied 4 (some .boolean) (fr + 1) (lo + 40) [.ref (G.2.2.1 2), .int x1] M o := by
  intro sz
  refine zOf (by decide) (Nat.le_of_ble_eq_true rfl) ?_
  intro p e R Q s m args below meth c hRm hsz hQ C0 hP hS ls hl
  subst hsz
  replace hRm : R = { frames := fr + 1, cells := 0, slots := 0, locals := lo + 40 } := hRm
  have hl : lv_has ls 4 [(0, .ref (G.2.2.1 2)), (1, .int x1)] := hl
  have hx := C0.1
  have hb := C0.2.1
  have hown := C0.2.2.2.1
  have hts := C0.2.2.2.2.1
  have J65 : ∀ (x1 : Int32) (M : zM) (H : Heap) (locs : List Loc) (ls : Array Slot), lv_has ls 4 [(0, .ref (G.2.2.1 2)), (1, .int x1)] → va_P G.1 zcl (zw G shX 64 M) H → va_S (zA G 64 s.heap.size) s.heap H locs → fX2_readDenied_J65 g_readDenied g_readSum x1 M = some o → W p l e R s m args below meth c H locs 0 0 Q (F0 m 65 ls []) := by
    intro x1 M H locs ls hl hP hS hf
    unfold fX2_readDenied_J65 at hf
    refine lv_aload_n hx hb dX2_readDenied_65 rfl (lv_at hl 0 rfl) ?_
    refine zr_get (C := RX2) (T := TX2) (n := 9) C0 hP 2 (by decide) shX_2 6 rfl (by decide) uw_X2 mw_181 rfl dX2_readDenied_66 ?_
    refine lv_topi (fun x3_8 ex3_8 => ?_)
    replace hf := zL_e ex3_8 hf
    refine lv_istore_n (lv' := [(3, .int x3_8), (0, .ref (G.2.2.1 2)), (1, .int x1)]) hx hb dX2_readDenied_69 rfl hl (by decide) rfl (fun ls hl => ?_)
    refine lv_aload_n hx hb dX2_readDenied_70 rfl (lv_at hl 1 rfl) ?_
    obtain ⟨M_9, hc_10, hf⟩ := zV_o hf
    refine zc_vv (As := []) (rest := []) C0 hP hS hl.1 2 (mtX2_next l G hJ M _ hc_10) lk_X2_31 (by decide) shX_2 (T := TX2) (n' := 9) rfl ds_X2_next (by rw [hRm]; exact ⟨by show 6 + 1 ≤ fr + 1; omega, by show 8 + (1 + 11) + 132 ≤ lo + 40; omega⟩) rfl rfl (Nat.le_of_ble_eq_true rfl) dX2_readDenied_71 ⟨Nat.zero_le _, Nat.zero_le _⟩ (fun H locs hP hS => ?_)
    refine lv_aload_n hx hb dX2_readDenied_74 rfl (lv_at hl 1 rfl) ?_
    refine lv_iload_n hx hb dX2_readDenied_75 rfl (lv_at hl 2 rfl) ?_
    obtain ⟨r_13, M_11, hc_12, hf⟩ := zB_o hf
    refine zc_vi (As := [.int x1]) (rest := []) C0 hP hS hl.1 2 (k_readSum x1 M_9 _ hc_12) lk_X2_56 (by decide) shX_2 (T := TX2) (n' := 9) rfl ds_X2_readSum (by rw [hRm]; exact ⟨Nat.le_refl _, by show 8 + (5 + 11) + lo ≤ lo + 40; omega⟩) rfl rfl (Nat.le_of_ble_eq_true rfl) dX2_readDenied_76 ⟨Nat.zero_le _, Nat.zero_le _⟩ (fun H locs hP hS => ?_)
    refine lv_istore_n (lv' := [(2, .int r_13), (3, .int x3_8), (0, .ref (G.2.2.1 2)), (1, .int x1)]) hx hb dX2_readDenied_79 rfl hl (by decide) rfl (fun ls hl => ?_)
    refine lv_aload_n hx hb dX2_readDenied_80 rfl (lv_at hl 2 rfl) ?_
    refine lv_sipush (v := (20000 : Int32)) hx hb dX2_readDenied_81 (by decide) ?_
    refine lv_iload_n hx hb dX2_readDenied_84 rfl (lv_at hl 1 rfl) ?_
    refine lv_iadd hx hb dX2_readDenied_85 ?_
    obtain ⟨M_14, hc_15, hf⟩ := zV_o hf
    refine zc_vv (As := [.int ((20000 : Int32) + x3_8)]) (rest := []) C0 hP hS hl.1 2 (mtX2_emit l G hJ ((20000 : Int32) + x3_8) M_11 _ hc_15) lk_X2_49 (by decide) shX_2 (T := TX2) (n' := 9) rfl ds_X2_emit (by rw [hRm]; exact ⟨by show 0 + 1 ≤ fr + 1; omega, by show 8 + (2 + 11) + 0 ≤ lo + 40; omega⟩) rfl rfl (Nat.le_of_ble_eq_true rfl) dX2_readDenied_86 ⟨Nat.zero_le _, Nat.zero_le _⟩ (fun H locs hP hS => ?_)
    refine lv_iload_n hx hb dX2_readDenied_89 rfl (lv_at hl 0 rfl) ?_
    obtain ⟨hg_16, hf⟩ := zG_o hf
    exact ze_z C0 hP hS hg_16 hf dX2_readDenied_90 hQ
  unfold fX2_readDenied at hf
  obtain ⟨H, eH⟩ : ∃ H, H = s.heap := ⟨_, rfl⟩
  obtain ⟨locs, el⟩ : ∃ locs : List Loc, locs = [] := ⟨_, rfl⟩
  rw [← eH] at hP ⊢
  have hS : va_S (zA G 64 s.heap.size) s.heap H locs := by rw [eH, el]; exact hS
  rw [← el]
  refine lv_aload_n hx hb dX2_readDenied_0 rfl (lv_at hl 0 rfl) ?_
  refine zr_get (C := RX2) (T := TX2) (n := 9) C0 hP 2 (by decide) shX_2 6 rfl (by decide) uw_X2 mw_181 rfl dX2_readDenied_1 ?_
  refine lv_bipush (v := (9 : Int32)) hx hb dX2_readDenied_4 (by decide) ?_
  refine lv_icmp_ne (tgt := 37) hx hb dX2_readDenied_6 (by decide) (fun c_1 => ?_) (fun c_1 => ?_)
  · replace hf := zI_f c_1 hf
    refine lv_aload_n hx hb dX2_readDenied_37 rfl (lv_at hl 0 rfl) ?_
    refine lv_iload_n hx hb dX2_readDenied_38 rfl (lv_at hl 1 rfl) ?_
    obtain ⟨r_4, M_2, hc_3, hf⟩ := zB_o hf
    refine zc_vi (As := [.int x1]) (rest := []) C0 hP hS hl.1 2 (k_readSum x1 M _ hc_3) lk_X2_56 (by decide) shX_2 (T := TX2) (n' := 9) rfl ds_X2_readSum (by rw [hRm]; exact ⟨Nat.le_refl _, by show 8 + (5 + 11) + lo ≤ lo + 40; omega⟩) rfl rfl (Nat.le_of_ble_eq_true rfl) dX2_readDenied_39 ⟨Nat.zero_le _, Nat.zero_le _⟩ (fun H locs hP hS => ?_)
    refine lv_istore_n (lv' := [(2, .int r_4), (0, .ref (G.2.2.1 2)), (1, .int x1)]) hx hb dX2_readDenied_42 rfl hl (by decide) rfl (fun ls hl => ?_)
    refine lv_iload_n hx hb dX2_readDenied_43 rfl (lv_at hl 0 rfl) ?_
    refine lv_if_eq (tgt := 89) hx hb dX2_readDenied_44 (by decide) (fun c_5 => ?_) (fun c_5 => ?_)
    · replace hf := zI_t c_5 hf
      refine lv_iload_n hx hb dX2_readDenied_89 rfl (lv_at hl 0 rfl) ?_
      obtain ⟨hg_6, hf⟩ := zG_o hf
      exact ze_z C0 hP hS hg_6 hf dX2_readDenied_90 hQ
    · replace hf := zI_f c_5 hf
      refine lv_aload_n hx hb dX2_readDenied_47 rfl (lv_at hl 1 rfl) ?_
      refine zr_get (C := RX2) (T := TX2) (n := 9) C0 hP 2 (by decide) shX_2 6 rfl (by decide) uw_X2 mw_181 rfl dX2_readDenied_48 ?_
      refine lv_bipush (v := (60 : Int32)) hx hb dX2_readDenied_51 (by decide) ?_
      refine lv_icmp_eq (tgt := 65) hx hb dX2_readDenied_53 (by decide) (fun c_7 => ?_) (fun c_7 => ?_)
      · replace hf := zI_t c_7 hf
        exact J65 x1 M_2 H locs ls (lv_sub hl [1, 2] rfl) hP hS hf
      · replace hf := zI_f c_7 hf
        refine lv_aload_n hx hb dX2_readDenied_56 rfl (lv_at hl 1 rfl) ?_
        refine zr_get (C := RX2) (T := TX2) (n := 9) C0 hP 2 (by decide) shX_2 6 rfl (by decide) uw_X2 mw_181 rfl dX2_readDenied_57 ?_
        refine lv_bipush (v := (61 : Int32)) hx hb dX2_readDenied_60 (by decide) ?_
        refine lv_icmp_ne (tgt := 89) hx hb dX2_readDenied_62 (by decide) (fun c_17 => ?_) (fun c_17 => ?_)
        · replace hf := zI_f c_17 hf
          refine lv_iload_n hx hb dX2_readDenied_89 rfl (lv_at hl 0 rfl) ?_
          obtain ⟨hg_18, hf⟩ := zG_o hf
          exact ze_z C0 hP hS hg_18 hf dX2_readDenied_90 hQ
        · replace hf := zI_t c_17 hf
          exact J65 x1 M_2 H locs ls (lv_sub hl [1, 2] rfl) hP hS hf
  · replace hf := zI_t c_1 hf
    refine lv_iload_n hx hb dX2_readDenied_9 rfl (lv_at hl 1 rfl) ?_
    refine lv_iconst (v := (5 : Int32)) hx hb dX2_readDenied_10 (by decide) ?_
    refine lv_icmp_lt (tgt := 16) hx hb dX2_readDenied_11 (by decide) (fun c_19 => ?_) (fun c_19 => ?_)
    · replace hf := zI_t c_19 hf
      refine lv_aload_n hx hb dX2_readDenied_16 rfl (lv_at hl 0 rfl) ?_
      obtain ⟨M_20, hc_21, hf⟩ := zV_o hf
      refine zc_vv (As := []) (rest := []) C0 hP hS hl.1 2 (mtX2_next l G hJ M _ hc_21) lk_X2_31 (by decide) shX_2 (T := TX2) (n' := 9) rfl ds_X2_next (by rw [hRm]; exact ⟨by show 6 + 1 ≤ fr + 1; omega, by show 8 + (1 + 11) + 132 ≤ lo + 40; omega⟩) rfl rfl (Nat.le_of_ble_eq_true rfl) dX2_readDenied_17 ⟨Nat.zero_le _, Nat.zero_le _⟩ (fun H locs hP hS => ?_)
      refine lv_aload_n hx hb dX2_readDenied_20 rfl (lv_at hl 0 rfl) ?_
      refine lv_iload_n hx hb dX2_readDenied_21 rfl (lv_at hl 1 rfl) ?_
      refine lv_iconst (v := (1 : Int32)) hx hb dX2_readDenied_22 (by decide) ?_
      refine lv_iadd hx hb dX2_readDenied_23 ?_
      obtain ⟨r_24, M_22, hc_23, hf⟩ := zB_o hf
      refine zc_vi (As := [.int (x1 + (1 : Int32))]) (rest := []) C0 hP hS hl.1 2 (k_readDenied (x1 + (1 : Int32)) M_20 _ hc_23) lk_X2_53 (by decide) shX_2 (T := TX2) (n' := 9) rfl ds_X2_readDenied (by rw [hRm]; exact ⟨Nat.le_refl _, by show 8 + (4 + 11) + lo ≤ lo + 40; omega⟩) rfl rfl (Nat.le_of_ble_eq_true rfl) dX2_readDenied_24 ⟨Nat.zero_le _, Nat.zero_le _⟩ (fun H locs hP hS => ?_)
      refine lv_istore_n (lv' := [(2, .int r_24), (0, .ref (G.2.2.1 2)), (1, .int x1)]) hx hb dX2_readDenied_27 rfl hl (by decide) rfl (fun ls hl => ?_)
      refine lv_aload_n hx hb dX2_readDenied_28 rfl (lv_at hl 1 rfl) ?_
      refine lv_sipush (v := (30001 : Int32)) hx hb dX2_readDenied_29 (by decide) ?_
      obtain ⟨M_25, hc_26, hf⟩ := zV_o hf
      refine zc_vv (As := [.int (30001 : Int32)]) (rest := []) C0 hP hS hl.1 2 (mtX2_emit l G hJ (30001 : Int32) M_22 _ hc_26) lk_X2_49 (by decide) shX_2 (T := TX2) (n' := 9) rfl ds_X2_emit (by rw [hRm]; exact ⟨by show 0 + 1 ≤ fr + 1; omega, by show 8 + (2 + 11) + 0 ≤ lo + 40; omega⟩) rfl rfl (Nat.le_of_ble_eq_true rfl) dX2_readDenied_32 ⟨Nat.zero_le _, Nat.zero_le _⟩ (fun H locs hP hS => ?_)
      refine lv_iload_n hx hb dX2_readDenied_35 rfl (lv_at hl 0 rfl) ?_
      obtain ⟨hg_27, hf⟩ := zG_o hf
      exact ze_z C0 hP hS hg_27 hf dX2_readDenied_36 hQ
    · replace hf := zI_f c_19 hf
      refine lv_iconst (v := (0 : Int32)) hx hb dX2_readDenied_14 (by decide) ?_
      exact ze_z C0 hP hS (by decide) hf dX2_readDenied_15 hQ
def fX2_readSum_J37 (g_readTerm : Int32 → zM → Option (Int32 × zM)) (r8 : Int32 → Int32 → Int32 → zM → Option (Int32 × zM)) (x1 : Int32) (x3 : Int32) (M : zM) : Option (Int32 × zM) :=
  zL (M.1 2 6) fun x4_9 =>
  zV (fX2_next M) fun M_10 =>
  zB (g_readTerm x1 M_10) fun r_14 M_12 =>
  zV (fX2_emit ((20000 : Int32) + x4_9) M_12) fun M_15 =>
  zL (x3 + (1 : Int32)) fun x3_17 =>
  r8 x1 r_14 x3_17 M_15
def fX2_readSum_B8 (g_readTerm : Int32 → zM → Option (Int32 × zM)) (r8 : Int32 → Int32 → Int32 → zM → Option (Int32 × zM)) (x1 : Int32) (x2 : Int32) (x3 : Int32) (M : zM) : Option (Int32 × zM) :=
  if (160 : Int32) ≤ x3 then
    zG (zbo x2) <|
    some (x2, M)
  else
    if x2 = (0 : Int32) then
      zG (zbo x2) <|
      some (x2, M)
    else
      if (M.1 2 6) = (43 : Int32) then
        fX2_readSum_J37 g_readTerm r8 x1 x3 M
      else
        if (M.1 2 6) = (45 : Int32) then
          fX2_readSum_J37 g_readTerm r8 x1 x3 M
        else
          zG (zbo x2) <|
          some (x2, M)
def fX2_readSum_L8 (g_readTerm : Int32 → zM → Option (Int32 × zM)) : Nat → Int32 → Int32 → Int32 → zM → Option (Int32 × zM)
  | 0 => fun _ _ _ _ => none
  | j9 + 1 => fX2_readSum_B8 g_readTerm (fX2_readSum_L8 g_readTerm j9)
def fX2_readSum (g_readTerm : Int32 → zM → Option (Int32 × zM)) (x1 : Int32) (M : zM) : Option (Int32 × zM) :=
  zB (g_readTerm x1 M) fun r_3 M_1 =>
  fX2_readSum_L8 g_readTerm zF x1 r_3 (0 : Int32) M_1
set_option maxHeartbeats 4000000 in
set_option maxRecDepth 100000 in
theorem mtX2_readSum (l : Launch) (G : zGr) (hJ : zJ G 64) (g_readTerm : Int32 → zM → Option (Int32 × zM)) (fr lo : Nat) (hfr : 7 ≤ fr) (hlo : 152 ≤ lo) (k_readTerm : ∀ (x1 : Int32) (M : zM) (o : Int32 × zM), g_readTerm x1 M = some o → zMi l G shX 64 yX2_readTerm cX2_readTerm 4 (some .boolean) fr lo [.ref (G.2.2.1 2), .int x1] M o) (x1 : Int32) (M : zM) (o : Int32 × zM) (hf : fX2_readSum g_readTerm x1 M = some o) : zMi l G shX 64 yX2_readSum cX2_readSum 5 (some .boolean) (fr + 1) (lo + 40) [.ref (G.2.2.1 2), .int x1] M o := by
  intro sz
  refine zOf (by decide) (Nat.le_of_ble_eq_true rfl) ?_
  intro p e R Q s m args below meth c hRm hsz hQ C0 hP hS ls hl
  subst hsz
  replace hRm : R = { frames := fr + 1, cells := 0, slots := 0, locals := lo + 40 } := hRm
  have hl : lv_has ls 5 [(0, .ref (G.2.2.1 2)), (1, .int x1)] := hl
  have hx := C0.1
  have hb := C0.2.1
  have hown := C0.2.2.2.1
  have hts := C0.2.2.2.2.1
  have L8 : ∀ (n8 : Nat), ∀ (x1 : Int32) (x2 : Int32) (x3 : Int32) (M : zM) (H : Heap) (locs : List Loc) (ls : Array Slot), lv_has ls 5 [(0, .ref (G.2.2.1 2)), (1, .int x1), (2, .int x2), (3, .int x3)] → va_P G.1 zcl (zw G shX 64 M) H → va_S (zA G 64 s.heap.size) s.heap H locs → fX2_readSum_L8 g_readTerm n8 x1 x2 x3 M = some o → W p l e R s m args below meth c H locs 0 0 Q (F0 m 8 ls []) := by
    intro n8
    induction n8 with
    | zero => intro x1 x2 x3 M H locs ls hl hP hS hf; exact zn_s (show none = some o from hf)
    | succ n8 ih8 =>
      have J37 : ∀ (x1 : Int32) (x3 : Int32) (M : zM) (H : Heap) (locs : List Loc) (ls : Array Slot), lv_has ls 5 [(0, .ref (G.2.2.1 2)), (1, .int x1), (3, .int x3)] → va_P G.1 zcl (zw G shX 64 M) H → va_S (zA G 64 s.heap.size) s.heap H locs → fX2_readSum_J37 g_readTerm (fX2_readSum_L8 g_readTerm n8) x1 x3 M = some o → W p l e R s m args below meth c H locs 0 0 Q (F0 m 37 ls []) := by
        intro x1 x3 M H locs ls hl hP hS hf
        unfold fX2_readSum_J37 at hf
        refine lv_aload_n hx hb dX2_readSum_37 rfl (lv_at hl 0 rfl) ?_
        refine zr_get (C := RX2) (T := TX2) (n := 9) C0 hP 2 (by decide) shX_2 6 rfl (by decide) uw_X2 mw_181 rfl dX2_readSum_38 ?_
        refine lv_topi (fun x4_9 ex4_9 => ?_)
        replace hf := zL_e ex4_9 hf
        refine lv_istore (lv' := [(4, .int x4_9), (0, .ref (G.2.2.1 2)), (1, .int x1), (3, .int x3)]) hx hb dX2_readSum_41 hl (by decide) rfl (fun ls hl => ?_)
        refine lv_aload_n hx hb dX2_readSum_43 rfl (lv_at hl 1 rfl) ?_
        obtain ⟨M_10, hc_11, hf⟩ := zV_o hf
        refine zc_vv (As := []) (rest := []) C0 hP hS hl.1 2 (mtX2_next l G hJ M _ hc_11) lk_X2_31 (by decide) shX_2 (T := TX2) (n' := 9) rfl ds_X2_next (by rw [hRm]; exact ⟨by show 6 + 1 ≤ fr + 1; omega, by show 8 + (1 + 11) + 132 ≤ lo + 40; omega⟩) rfl rfl (Nat.le_of_ble_eq_true rfl) dX2_readSum_44 ⟨Nat.zero_le _, Nat.zero_le _⟩ (fun H locs hP hS => ?_)
        refine lv_aload_n hx hb dX2_readSum_47 rfl (lv_at hl 1 rfl) ?_
        refine lv_iload_n hx hb dX2_readSum_48 rfl (lv_at hl 2 rfl) ?_
        obtain ⟨r_14, M_12, hc_13, hf⟩ := zB_o hf
        refine zc_vi (As := [.int x1]) (rest := []) C0 hP hS hl.1 2 (k_readTerm x1 M_10 _ hc_13) lk_X2_59 (by decide) shX_2 (T := TX2) (n' := 9) rfl ds_X2_readTerm (by rw [hRm]; exact ⟨Nat.le_refl _, by show 8 + (4 + 11) + lo ≤ lo + 40; omega⟩) rfl rfl (Nat.le_of_ble_eq_true rfl) dX2_readSum_49 ⟨Nat.zero_le _, Nat.zero_le _⟩ (fun H locs hP hS => ?_)
        refine lv_istore_n (lv' := [(2, .int r_14), (4, .int x4_9), (0, .ref (G.2.2.1 2)), (1, .int x1), (3, .int x3)]) hx hb dX2_readSum_52 rfl hl (by decide) rfl (fun ls hl => ?_)
        refine lv_aload_n hx hb dX2_readSum_53 rfl (lv_at hl 2 rfl) ?_
        refine lv_sipush (v := (20000 : Int32)) hx hb dX2_readSum_54 (by decide) ?_
        refine lv_iload hx hb dX2_readSum_57 (lv_at hl 1 rfl) ?_
        refine lv_iadd hx hb dX2_readSum_59 ?_
        obtain ⟨M_15, hc_16, hf⟩ := zV_o hf
        refine zc_vv (As := [.int ((20000 : Int32) + x4_9)]) (rest := []) C0 hP hS hl.1 2 (mtX2_emit l G hJ ((20000 : Int32) + x4_9) M_12 _ hc_16) lk_X2_49 (by decide) shX_2 (T := TX2) (n' := 9) rfl ds_X2_emit (by rw [hRm]; exact ⟨by show 0 + 1 ≤ fr + 1; omega, by show 8 + (2 + 11) + 0 ≤ lo + 40; omega⟩) rfl rfl (Nat.le_of_ble_eq_true rfl) dX2_readSum_60 ⟨Nat.zero_le _, Nat.zero_le _⟩ (fun H locs hP hS => ?_)
        obtain ⟨x3_17, ex3_17, hf⟩ := zL_o hf
        refine lv_iinc (v := x3_17) (lv' := [(3, .int x3_17), (2, .int r_14), (4, .int x4_9), (0, .ref (G.2.2.1 2)), (1, .int x1)]) hx hb dX2_readSum_63 hl (k := 4) rfl (by rw [ex3_17]; rfl) (by decide) rfl (fun ls hl => ?_)
        refine lv_goto (tgt := 8) hx hb dX2_readSum_66 (by decide) ?_
        exact ih8 x1 r_14 x3_17 M_15 H locs ls (lv_sub hl [3, 4, 1, 0] rfl) hP hS hf
      intro x1 x2 x3 M H locs ls hl hP hS hf
      replace hf : fX2_readSum_B8 g_readTerm (fX2_readSum_L8 g_readTerm n8) x1 x2 x3 M = some o := hf
      unfold fX2_readSum_B8 at hf
      refine lv_iload_n hx hb dX2_readSum_8 rfl (lv_at hl 3 rfl) ?_
      refine lv_sipush (v := (160 : Int32)) hx hb dX2_readSum_9 (by decide) ?_
      refine lv_icmp_ge (tgt := 69) hx hb dX2_readSum_12 (by decide) (fun c_4 => ?_) (fun c_4 => ?_)
      · replace hf := zI_t c_4 hf
        refine lv_iload_n hx hb dX2_readSum_69 rfl (lv_at hl 2 rfl) ?_
        obtain ⟨hg_5, hf⟩ := zG_o hf
        exact ze_z C0 hP hS hg_5 hf dX2_readSum_70 hQ
      · replace hf := zI_f c_4 hf
        refine lv_iload_n hx hb dX2_readSum_15 rfl (lv_at hl 2 rfl) ?_
        refine lv_if_eq (tgt := 69) hx hb dX2_readSum_16 (by decide) (fun c_6 => ?_) (fun c_6 => ?_)
        · replace hf := zI_t c_6 hf
          refine lv_iload_n hx hb dX2_readSum_69 rfl (lv_at hl 2 rfl) ?_
          obtain ⟨hg_7, hf⟩ := zG_o hf
          exact ze_z C0 hP hS hg_7 hf dX2_readSum_70 hQ
        · replace hf := zI_f c_6 hf
          refine lv_aload_n hx hb dX2_readSum_19 rfl (lv_at hl 0 rfl) ?_
          refine zr_get (C := RX2) (T := TX2) (n := 9) C0 hP 2 (by decide) shX_2 6 rfl (by decide) uw_X2 mw_181 rfl dX2_readSum_20 ?_
          refine lv_bipush (v := (43 : Int32)) hx hb dX2_readSum_23 (by decide) ?_
          refine lv_icmp_eq (tgt := 37) hx hb dX2_readSum_25 (by decide) (fun c_8 => ?_) (fun c_8 => ?_)
          · replace hf := zI_t c_8 hf
            exact J37 x1 x3 M H locs ls (lv_sub hl [0, 1, 3] rfl) hP hS hf
          · replace hf := zI_f c_8 hf
            refine lv_aload_n hx hb dX2_readSum_28 rfl (lv_at hl 0 rfl) ?_
            refine zr_get (C := RX2) (T := TX2) (n := 9) C0 hP 2 (by decide) shX_2 6 rfl (by decide) uw_X2 mw_181 rfl dX2_readSum_29 ?_
            refine lv_bipush (v := (45 : Int32)) hx hb dX2_readSum_32 (by decide) ?_
            refine lv_icmp_ne (tgt := 69) hx hb dX2_readSum_34 (by decide) (fun c_18 => ?_) (fun c_18 => ?_)
            · replace hf := zI_f c_18 hf
              refine lv_iload_n hx hb dX2_readSum_69 rfl (lv_at hl 2 rfl) ?_
              obtain ⟨hg_19, hf⟩ := zG_o hf
              exact ze_z C0 hP hS hg_19 hf dX2_readSum_70 hQ
            · replace hf := zI_t c_18 hf
              exact J37 x1 x3 M H locs ls (lv_sub hl [0, 1, 3] rfl) hP hS hf
  unfold fX2_readSum at hf
  obtain ⟨H, eH⟩ : ∃ H, H = s.heap := ⟨_, rfl⟩
  obtain ⟨locs, el⟩ : ∃ locs : List Loc, locs = [] := ⟨_, rfl⟩
  rw [← eH] at hP ⊢
  have hS : va_S (zA G 64 s.heap.size) s.heap H locs := by rw [eH, el]; exact hS
  rw [← el]
  refine lv_aload_n hx hb dX2_readSum_0 rfl (lv_at hl 0 rfl) ?_
  refine lv_iload_n hx hb dX2_readSum_1 rfl (lv_at hl 1 rfl) ?_
  obtain ⟨r_3, M_1, hc_2, hf⟩ := zB_o hf
  refine zc_vi (As := [.int x1]) (rest := []) C0 hP hS hl.1 2 (k_readTerm x1 M _ hc_2) lk_X2_59 (by decide) shX_2 (T := TX2) (n' := 9) rfl ds_X2_readTerm (by rw [hRm]; exact ⟨Nat.le_refl _, by show 8 + (4 + 11) + lo ≤ lo + 40; omega⟩) rfl rfl (Nat.le_of_ble_eq_true rfl) dX2_readSum_2 ⟨Nat.zero_le _, Nat.zero_le _⟩ (fun H locs hP hS => ?_)
  refine lv_istore_n (lv' := [(2, .int r_3), (0, .ref (G.2.2.1 2)), (1, .int x1)]) hx hb dX2_readSum_5 rfl hl (by decide) rfl (fun ls hl => ?_)
  refine lv_iconst (v := (0 : Int32)) hx hb dX2_readSum_6 (by decide) ?_
  refine lv_istore_n (lv' := [(3, .int (0 : Int32)), (2, .int r_3), (0, .ref (G.2.2.1 2)), (1, .int x1)]) hx hb dX2_readSum_7 rfl hl (by decide) rfl (fun ls hl => ?_)
  exact L8 zF x1 r_3 (0 : Int32) M_1 H locs ls (lv_sub hl [2, 3, 1, 0] rfl) hP hS hf
def fX2_readTerm_B8 (g_readOne : Int32 → zM → Option (Int32 × zM)) (r8 : Int32 → Int32 → Int32 → zM → Option (Int32 × zM)) (x1 : Int32) (x2 : Int32) (x3 : Int32) (M : zM) : Option (Int32 × zM) :=
  if (160 : Int32) ≤ x3 then
    zG (zbo x2) <|
    some (x2, M)
  else
    if x2 = (0 : Int32) then
      zG (zbo x2) <|
      some (x2, M)
    else
      if (M.1 2 6) = (42 : Int32) then
        zV (fX2_next M) fun M_10 =>
        zB (g_readOne x1 M_10) fun r_14 M_12 =>
        zV (fX2_emit (20042 : Int32) M_12) fun M_15 =>
        zL (x3 + (1 : Int32)) fun x3_17 =>
        r8 x1 r_14 x3_17 M_15
      else
        zG (zbo x2) <|
        some (x2, M)
def fX2_readTerm_L8 (g_readOne : Int32 → zM → Option (Int32 × zM)) : Nat → Int32 → Int32 → Int32 → zM → Option (Int32 × zM)
  | 0 => fun _ _ _ _ => none
  | j9 + 1 => fX2_readTerm_B8 g_readOne (fX2_readTerm_L8 g_readOne j9)
def fX2_readTerm (g_readOne : Int32 → zM → Option (Int32 × zM)) (x1 : Int32) (M : zM) : Option (Int32 × zM) :=
  zB (g_readOne x1 M) fun r_3 M_1 =>
  fX2_readTerm_L8 g_readOne zF x1 r_3 (0 : Int32) M_1
set_option maxHeartbeats 4000000 in
set_option maxRecDepth 100000 in
theorem mtX2_readTerm (l : Launch) (G : zGr) (hJ : zJ G 64) (g_readOne : Int32 → zM → Option (Int32 × zM)) (fr lo : Nat) (hfr : 7 ≤ fr) (hlo : 152 ≤ lo) (k_readOne : ∀ (x1 : Int32) (M : zM) (o : Int32 × zM), g_readOne x1 M = some o → zMi l G shX 64 yX2_readOne cX2_readOne 3 (some .boolean) fr lo [.ref (G.2.2.1 2), .int x1] M o) (x1 : Int32) (M : zM) (o : Int32 × zM) (hf : fX2_readTerm g_readOne x1 M = some o) : zMi l G shX 64 yX2_readTerm cX2_readTerm 4 (some .boolean) (fr + 1) (lo + 40) [.ref (G.2.2.1 2), .int x1] M o := by
  intro sz
  refine zOf (by decide) (Nat.le_of_ble_eq_true rfl) ?_
  intro p e R Q s m args below meth c hRm hsz hQ C0 hP hS ls hl
  subst hsz
  replace hRm : R = { frames := fr + 1, cells := 0, slots := 0, locals := lo + 40 } := hRm
  have hl : lv_has ls 4 [(0, .ref (G.2.2.1 2)), (1, .int x1)] := hl
  have hx := C0.1
  have hb := C0.2.1
  have hown := C0.2.2.2.1
  have hts := C0.2.2.2.2.1
  have L8 : ∀ (n8 : Nat), ∀ (x1 : Int32) (x2 : Int32) (x3 : Int32) (M : zM) (H : Heap) (locs : List Loc) (ls : Array Slot), lv_has ls 4 [(0, .ref (G.2.2.1 2)), (1, .int x1), (2, .int x2), (3, .int x3)] → va_P G.1 zcl (zw G shX 64 M) H → va_S (zA G 64 s.heap.size) s.heap H locs → fX2_readTerm_L8 g_readOne n8 x1 x2 x3 M = some o → W p l e R s m args below meth c H locs 0 0 Q (F0 m 8 ls []) := by
    intro n8
    induction n8 with
    | zero => intro x1 x2 x3 M H locs ls hl hP hS hf; exact zn_s (show none = some o from hf)
    | succ n8 ih8 =>
      intro x1 x2 x3 M H locs ls hl hP hS hf
      replace hf : fX2_readTerm_B8 g_readOne (fX2_readTerm_L8 g_readOne n8) x1 x2 x3 M = some o := hf
      unfold fX2_readTerm_B8 at hf
      refine lv_iload_n hx hb dX2_readTerm_8 rfl (lv_at hl 3 rfl) ?_
      refine lv_sipush (v := (160 : Int32)) hx hb dX2_readTerm_9 (by decide) ?_
      refine lv_icmp_ge (tgt := 51) hx hb dX2_readTerm_12 (by decide) (fun c_4 => ?_) (fun c_4 => ?_)
      · replace hf := zI_t c_4 hf
        refine lv_iload_n hx hb dX2_readTerm_51 rfl (lv_at hl 2 rfl) ?_
        obtain ⟨hg_5, hf⟩ := zG_o hf
        exact ze_z C0 hP hS hg_5 hf dX2_readTerm_52 hQ
      · replace hf := zI_f c_4 hf
        refine lv_iload_n hx hb dX2_readTerm_15 rfl (lv_at hl 2 rfl) ?_
        refine lv_if_eq (tgt := 51) hx hb dX2_readTerm_16 (by decide) (fun c_6 => ?_) (fun c_6 => ?_)
        · replace hf := zI_t c_6 hf
          refine lv_iload_n hx hb dX2_readTerm_51 rfl (lv_at hl 2 rfl) ?_
          obtain ⟨hg_7, hf⟩ := zG_o hf
          exact ze_z C0 hP hS hg_7 hf dX2_readTerm_52 hQ
        · replace hf := zI_f c_6 hf
          refine lv_aload_n hx hb dX2_readTerm_19 rfl (lv_at hl 0 rfl) ?_
          refine zr_get (C := RX2) (T := TX2) (n := 9) C0 hP 2 (by decide) shX_2 6 rfl (by decide) uw_X2 mw_181 rfl dX2_readTerm_20 ?_
          refine lv_bipush (v := (42 : Int32)) hx hb dX2_readTerm_23 (by decide) ?_
          refine lv_icmp_ne (tgt := 51) hx hb dX2_readTerm_25 (by decide) (fun c_8 => ?_) (fun c_8 => ?_)
          · replace hf := zI_f c_8 hf
            refine lv_iload_n hx hb dX2_readTerm_51 rfl (lv_at hl 2 rfl) ?_
            obtain ⟨hg_9, hf⟩ := zG_o hf
            exact ze_z C0 hP hS hg_9 hf dX2_readTerm_52 hQ
          · replace hf := zI_t c_8 hf
            refine lv_aload_n hx hb dX2_readTerm_28 rfl (lv_at hl 0 rfl) ?_
            obtain ⟨M_10, hc_11, hf⟩ := zV_o hf
            refine zc_vv (As := []) (rest := []) C0 hP hS hl.1 2 (mtX2_next l G hJ M _ hc_11) lk_X2_31 (by decide) shX_2 (T := TX2) (n' := 9) rfl ds_X2_next (by rw [hRm]; exact ⟨by show 6 + 1 ≤ fr + 1; omega, by show 8 + (1 + 11) + 132 ≤ lo + 40; omega⟩) rfl rfl (Nat.le_of_ble_eq_true rfl) dX2_readTerm_29 ⟨Nat.zero_le _, Nat.zero_le _⟩ (fun H locs hP hS => ?_)
            refine lv_aload_n hx hb dX2_readTerm_32 rfl (lv_at hl 0 rfl) ?_
            refine lv_iload_n hx hb dX2_readTerm_33 rfl (lv_at hl 1 rfl) ?_
            obtain ⟨r_14, M_12, hc_13, hf⟩ := zB_o hf
            refine zc_vi (As := [.int x1]) (rest := []) C0 hP hS hl.1 2 (k_readOne x1 M_10 _ hc_13) lk_X2_62 (by decide) shX_2 (T := TX2) (n' := 9) rfl ds_X2_readOne (by rw [hRm]; exact ⟨Nat.le_refl _, by show 8 + (3 + 11) + lo ≤ lo + 40; omega⟩) rfl rfl (Nat.le_of_ble_eq_true rfl) dX2_readTerm_34 ⟨Nat.zero_le _, Nat.zero_le _⟩ (fun H locs hP hS => ?_)
            refine lv_istore_n (lv' := [(2, .int r_14), (0, .ref (G.2.2.1 2)), (1, .int x1), (3, .int x3)]) hx hb dX2_readTerm_37 rfl hl (by decide) rfl (fun ls hl => ?_)
            refine lv_aload_n hx hb dX2_readTerm_38 rfl (lv_at hl 1 rfl) ?_
            refine lv_sipush (v := (20042 : Int32)) hx hb dX2_readTerm_39 (by decide) ?_
            obtain ⟨M_15, hc_16, hf⟩ := zV_o hf
            refine zc_vv (As := [.int (20042 : Int32)]) (rest := []) C0 hP hS hl.1 2 (mtX2_emit l G hJ (20042 : Int32) M_12 _ hc_16) lk_X2_49 (by decide) shX_2 (T := TX2) (n' := 9) rfl ds_X2_emit (by rw [hRm]; exact ⟨by show 0 + 1 ≤ fr + 1; omega, by show 8 + (2 + 11) + 0 ≤ lo + 40; omega⟩) rfl rfl (Nat.le_of_ble_eq_true rfl) dX2_readTerm_42 ⟨Nat.zero_le _, Nat.zero_le _⟩ (fun H locs hP hS => ?_)
            obtain ⟨x3_17, ex3_17, hf⟩ := zL_o hf
            refine lv_iinc (v := x3_17) (lv' := [(3, .int x3_17), (2, .int r_14), (0, .ref (G.2.2.1 2)), (1, .int x1)]) hx hb dX2_readTerm_45 hl (k := 3) rfl (by rw [ex3_17]; rfl) (by decide) rfl (fun ls hl => ?_)
            refine lv_goto (tgt := 8) hx hb dX2_readTerm_48 (by decide) ?_
            exact ih8 x1 r_14 x3_17 M_15 H locs ls (lv_sub hl [2, 3, 1, 0] rfl) hP hS hf
  unfold fX2_readTerm at hf
  obtain ⟨H, eH⟩ : ∃ H, H = s.heap := ⟨_, rfl⟩
  obtain ⟨locs, el⟩ : ∃ locs : List Loc, locs = [] := ⟨_, rfl⟩
  rw [← eH] at hP ⊢
  have hS : va_S (zA G 64 s.heap.size) s.heap H locs := by rw [eH, el]; exact hS
  rw [← el]
  refine lv_aload_n hx hb dX2_readTerm_0 rfl (lv_at hl 0 rfl) ?_
  refine lv_iload_n hx hb dX2_readTerm_1 rfl (lv_at hl 1 rfl) ?_
  obtain ⟨r_3, M_1, hc_2, hf⟩ := zB_o hf
  refine zc_vi (As := [.int x1]) (rest := []) C0 hP hS hl.1 2 (k_readOne x1 M _ hc_2) lk_X2_62 (by decide) shX_2 (T := TX2) (n' := 9) rfl ds_X2_readOne (by rw [hRm]; exact ⟨Nat.le_refl _, by show 8 + (3 + 11) + lo ≤ lo + 40; omega⟩) rfl rfl (Nat.le_of_ble_eq_true rfl) dX2_readTerm_2 ⟨Nat.zero_le _, Nat.zero_le _⟩ (fun H locs hP hS => ?_)
  refine lv_istore_n (lv' := [(2, .int r_3), (0, .ref (G.2.2.1 2)), (1, .int x1)]) hx hb dX2_readTerm_5 rfl hl (by decide) rfl (fun ls hl => ?_)
  refine lv_iconst (v := (0 : Int32)) hx hb dX2_readTerm_6 (by decide) ?_
  refine lv_istore_n (lv' := [(3, .int (0 : Int32)), (2, .int r_3), (0, .ref (G.2.2.1 2)), (1, .int x1)]) hx hb dX2_readTerm_7 rfl hl (by decide) rfl (fun ls hl => ?_)
  exact L8 zF x1 r_3 (0 : Int32) M_1 H locs ls (lv_sub hl [2, 3, 1, 0] rfl) hP hS hf
def fX2_readOne_J40 (g_readEither : Int32 → zM → Option (Int32 × zM)) (g_readOne : Int32 → zM → Option (Int32 × zM)) (v0 : Int32) (M : zM) : Option (Int32 × zM) :=
  zV (fX2_emit v0 M) fun M_3 =>
  zV (fX2_next M_3) fun M_5 =>
  some ((1 : Int32), M_5)
def fX2_readOne_J67 (g_readEither : Int32 → zM → Option (Int32 × zM)) (g_readOne : Int32 → zM → Option (Int32 × zM)) (x1 : Int32) (M : zM) : Option (Int32 × zM) :=
  if x1 < (5 : Int32) then
    if (M.1 2 6) = (45 : Int32) then
      zV (fX2_next M) fun M_20 =>
      zB (g_readOne (x1 + (1 : Int32)) M_20) fun r_24 M_22 =>
      zV (fX2_emit (30000 : Int32) M_22) fun M_25 =>
      zG (zbo r_24) <|
      some (r_24, M_25)
    else
      zV (fX2_next M) fun M_11 =>
      zB (g_readEither (x1 + (1 : Int32)) M_11) fun r_15 M_13 =>
      if r_15 = (0 : Int32) then
        some ((0 : Int32), M_13)
      else
        if (M_13.1 2 6) = (41 : Int32) then
          zV (fX2_next M_13) fun M_18 =>
          some ((1 : Int32), M_18)
        else
          some ((0 : Int32), M_13)
  else
    some ((0 : Int32), M)
def fX2_readOne (g_readEither : Int32 → zM → Option (Int32 × zM)) (g_readOne : Int32 → zM → Option (Int32 × zM)) (x1 : Int32) (M : zM) : Option (Int32 × zM) :=
  if (M.1 2 6) = (2 : Int32) then
    if (M.1 2 6) = (2 : Int32) then
      fX2_readOne_J40 g_readEither g_readOne (M.1 2 8) M
    else
      fX2_readOne_J40 g_readEither g_readOne ((10000 : Int32) + (M.1 2 8)) M
  else
    if (M.1 2 6) = (3 : Int32) then
      if (M.1 2 6) = (2 : Int32) then
        fX2_readOne_J40 g_readEither g_readOne (M.1 2 8) M
      else
        fX2_readOne_J40 g_readEither g_readOne ((10000 : Int32) + (M.1 2 8)) M
    else
      if (M.1 2 6) = (45 : Int32) then
        fX2_readOne_J67 g_readEither g_readOne x1 M
      else
        if (M.1 2 6) = (40 : Int32) then
          fX2_readOne_J67 g_readEither g_readOne x1 M
        else
          some ((0 : Int32), M)
set_option maxHeartbeats 4000000 in
set_option maxRecDepth 100000 in
theorem mtX2_readOne (l : Launch) (G : zGr) (hJ : zJ G 64) (g_readEither : Int32 → zM → Option (Int32 × zM)) (g_readOne : Int32 → zM → Option (Int32 × zM)) (fr lo : Nat) (hfr : 7 ≤ fr) (hlo : 152 ≤ lo) (k_readEither : ∀ (x1 : Int32) (M : zM) (o : Int32 × zM), g_readEither x1 M = some o → zMi l G shX 64 yX2_readEither cX2_readEither 4 (some .boolean) fr lo [.ref (G.2.2.1 2), .int x1] M o) (k_readOne : ∀ (x1 : Int32) (M : zM) (o : Int32 × zM), g_readOne x1 M = some o → zMi l G shX 64 yX2_readOne cX2_readOne 3 (some .boolean) fr lo [.ref (G.2.2.1 2), .int x1] M o) (x1 : Int32) (M : zM) (o : Int32 × zM) (hf : fX2_readOne g_readEither g_readOne x1 M = some o) : zMi l G shX 64 yX2_readOne cX2_readOne 3 (some .boolean) (fr + 1) (lo + 40) [.ref (G.2.2.1 2), .int x1] M o := by
  intro sz
  refine zOf (by decide) (Nat.le_of_ble_eq_true rfl) ?_
  intro p e R Q s m args below meth c hRm hsz hQ C0 hP hS ls hl
  subst hsz
  replace hRm : R = { frames := fr + 1, cells := 0, slots := 0, locals := lo + 40 } := hRm
  have hl : lv_has ls 3 [(0, .ref (G.2.2.1 2)), (1, .int x1)] := hl
  have hx := C0.1
  have hb := C0.2.1
  have hown := C0.2.2.2.1
  have hts := C0.2.2.2.2.1
  have J40 : ∀ (v0 : Int32) (M : zM) (H : Heap) (locs : List Loc) (ls : Array Slot), lv_has ls 3 [(0, .ref (G.2.2.1 2))] → va_P G.1 zcl (zw G shX 64 M) H → va_S (zA G 64 s.heap.size) s.heap H locs → fX2_readOne_J40 g_readEither g_readOne v0 M = some o → W p l e R s m args below meth c H locs 0 0 Q (F0 m 40 ls [.int v0, .ref (G.2.2.1 2)]) := by
    intro v0 M H locs ls hl hP hS hf
    unfold fX2_readOne_J40 at hf
    obtain ⟨M_3, hc_4, hf⟩ := zV_o hf
    refine zc_vv (As := [.int v0]) (rest := []) C0 hP hS hl.1 2 (mtX2_emit l G hJ v0 M _ hc_4) lk_X2_49 (by decide) shX_2 (T := TX2) (n' := 9) rfl ds_X2_emit (by rw [hRm]; exact ⟨by show 0 + 1 ≤ fr + 1; omega, by show 8 + (2 + 11) + 0 ≤ lo + 40; omega⟩) rfl rfl (Nat.le_of_ble_eq_true rfl) dX2_readOne_40 ⟨Nat.zero_le _, Nat.zero_le _⟩ (fun H locs hP hS => ?_)
    refine lv_aload_n hx hb dX2_readOne_43 rfl (lv_at hl 0 rfl) ?_
    obtain ⟨M_5, hc_6, hf⟩ := zV_o hf
    refine zc_vv (As := []) (rest := []) C0 hP hS hl.1 2 (mtX2_next l G hJ M_3 _ hc_6) lk_X2_31 (by decide) shX_2 (T := TX2) (n' := 9) rfl ds_X2_next (by rw [hRm]; exact ⟨by show 6 + 1 ≤ fr + 1; omega, by show 8 + (1 + 11) + 132 ≤ lo + 40; omega⟩) rfl rfl (Nat.le_of_ble_eq_true rfl) dX2_readOne_44 ⟨Nat.zero_le _, Nat.zero_le _⟩ (fun H locs hP hS => ?_)
    refine lv_iconst (v := (1 : Int32)) hx hb dX2_readOne_47 (by decide) ?_
    exact ze_z C0 hP hS (by decide) hf dX2_readOne_48 hQ
  have J67 : ∀ (x1 : Int32) (M : zM) (H : Heap) (locs : List Loc) (ls : Array Slot), lv_has ls 3 [(0, .ref (G.2.2.1 2)), (1, .int x1)] → va_P G.1 zcl (zw G shX 64 M) H → va_S (zA G 64 s.heap.size) s.heap H locs → fX2_readOne_J67 g_readEither g_readOne x1 M = some o → W p l e R s m args below meth c H locs 0 0 Q (F0 m 67 ls []) := by
    intro x1 M H locs ls hl hP hS hf
    unfold fX2_readOne_J67 at hf
    refine lv_iload_n hx hb dX2_readOne_67 rfl (lv_at hl 1 rfl) ?_
    refine lv_iconst (v := (5 : Int32)) hx hb dX2_readOne_68 (by decide) ?_
    refine lv_icmp_lt (tgt := 74) hx hb dX2_readOne_69 (by decide) (fun c_9 => ?_) (fun c_9 => ?_)
    · replace hf := zI_t c_9 hf
      refine lv_aload_n hx hb dX2_readOne_74 rfl (lv_at hl 0 rfl) ?_
      refine zr_get (C := RX2) (T := TX2) (n := 9) C0 hP 2 (by decide) shX_2 6 rfl (by decide) uw_X2 mw_181 rfl dX2_readOne_75 ?_
      refine lv_bipush (v := (45 : Int32)) hx hb dX2_readOne_78 (by decide) ?_
      refine lv_icmp_ne (tgt := 104) hx hb dX2_readOne_80 (by decide) (fun c_10 => ?_) (fun c_10 => ?_)
      · replace hf := zI_f c_10 hf
        refine lv_aload_n hx hb dX2_readOne_104 rfl (lv_at hl 0 rfl) ?_
        obtain ⟨M_11, hc_12, hf⟩ := zV_o hf
        refine zc_vv (As := []) (rest := []) C0 hP hS hl.1 2 (mtX2_next l G hJ M _ hc_12) lk_X2_31 (by decide) shX_2 (T := TX2) (n' := 9) rfl ds_X2_next (by rw [hRm]; exact ⟨by show 6 + 1 ≤ fr + 1; omega, by show 8 + (1 + 11) + 132 ≤ lo + 40; omega⟩) rfl rfl (Nat.le_of_ble_eq_true rfl) dX2_readOne_105 ⟨Nat.zero_le _, Nat.zero_le _⟩ (fun H locs hP hS => ?_)
        refine lv_aload_n hx hb dX2_readOne_108 rfl (lv_at hl 0 rfl) ?_
        refine lv_iload_n hx hb dX2_readOne_109 rfl (lv_at hl 1 rfl) ?_
        refine lv_iconst (v := (1 : Int32)) hx hb dX2_readOne_110 (by decide) ?_
        refine lv_iadd hx hb dX2_readOne_111 ?_
        obtain ⟨r_15, M_13, hc_14, hf⟩ := zB_o hf
        refine zc_vi (As := [.int (x1 + (1 : Int32))]) (rest := []) C0 hP hS hl.1 2 (k_readEither (x1 + (1 : Int32)) M_11 _ hc_14) lk_X2_40 (by decide) shX_2 (T := TX2) (n' := 9) rfl ds_X2_readEither (by rw [hRm]; exact ⟨Nat.le_refl _, by show 8 + (4 + 11) + lo ≤ lo + 40; omega⟩) rfl rfl (Nat.le_of_ble_eq_true rfl) dX2_readOne_112 ⟨Nat.zero_le _, Nat.zero_le _⟩ (fun H locs hP hS => ?_)
        refine lv_if_eq (tgt := 127) hx hb dX2_readOne_115 (by decide) (fun c_16 => ?_) (fun c_16 => ?_)
        · replace hf := zI_t c_16 hf
          refine lv_iconst (v := (0 : Int32)) hx hb dX2_readOne_127 (by decide) ?_
          exact ze_z C0 hP hS (by decide) hf dX2_readOne_128 hQ
        · replace hf := zI_f c_16 hf
          refine lv_aload_n hx hb dX2_readOne_118 rfl (lv_at hl 0 rfl) ?_
          refine zr_get (C := RX2) (T := TX2) (n := 9) C0 hP 2 (by decide) shX_2 6 rfl (by decide) uw_X2 mw_181 rfl dX2_readOne_119 ?_
          refine lv_bipush (v := (41 : Int32)) hx hb dX2_readOne_122 (by decide) ?_
          refine lv_icmp_eq (tgt := 129) hx hb dX2_readOne_124 (by decide) (fun c_17 => ?_) (fun c_17 => ?_)
          · replace hf := zI_t c_17 hf
            refine lv_aload_n hx hb dX2_readOne_129 rfl (lv_at hl 0 rfl) ?_
            obtain ⟨M_18, hc_19, hf⟩ := zV_o hf
            refine zc_vv (As := []) (rest := []) C0 hP hS hl.1 2 (mtX2_next l G hJ M_13 _ hc_19) lk_X2_31 (by decide) shX_2 (T := TX2) (n' := 9) rfl ds_X2_next (by rw [hRm]; exact ⟨by show 6 + 1 ≤ fr + 1; omega, by show 8 + (1 + 11) + 132 ≤ lo + 40; omega⟩) rfl rfl (Nat.le_of_ble_eq_true rfl) dX2_readOne_130 ⟨Nat.zero_le _, Nat.zero_le _⟩ (fun H locs hP hS => ?_)
            refine lv_iconst (v := (1 : Int32)) hx hb dX2_readOne_133 (by decide) ?_
            exact ze_z C0 hP hS (by decide) hf dX2_readOne_134 hQ
          · replace hf := zI_f c_17 hf
            refine lv_iconst (v := (0 : Int32)) hx hb dX2_readOne_127 (by decide) ?_
            exact ze_z C0 hP hS (by decide) hf dX2_readOne_128 hQ
      · replace hf := zI_t c_10 hf
        refine lv_aload_n hx hb dX2_readOne_83 rfl (lv_at hl 0 rfl) ?_
        obtain ⟨M_20, hc_21, hf⟩ := zV_o hf
        refine zc_vv (As := []) (rest := []) C0 hP hS hl.1 2 (mtX2_next l G hJ M _ hc_21) lk_X2_31 (by decide) shX_2 (T := TX2) (n' := 9) rfl ds_X2_next (by rw [hRm]; exact ⟨by show 6 + 1 ≤ fr + 1; omega, by show 8 + (1 + 11) + 132 ≤ lo + 40; omega⟩) rfl rfl (Nat.le_of_ble_eq_true rfl) dX2_readOne_84 ⟨Nat.zero_le _, Nat.zero_le _⟩ (fun H locs hP hS => ?_)
        refine lv_aload_n hx hb dX2_readOne_87 rfl (lv_at hl 0 rfl) ?_
        refine lv_iload_n hx hb dX2_readOne_88 rfl (lv_at hl 1 rfl) ?_
        refine lv_iconst (v := (1 : Int32)) hx hb dX2_readOne_89 (by decide) ?_
        refine lv_iadd hx hb dX2_readOne_90 ?_
        obtain ⟨r_24, M_22, hc_23, hf⟩ := zB_o hf
        refine zc_vi (As := [.int (x1 + (1 : Int32))]) (rest := []) C0 hP hS hl.1 2 (k_readOne (x1 + (1 : Int32)) M_20 _ hc_23) lk_X2_62 (by decide) shX_2 (T := TX2) (n' := 9) rfl ds_X2_readOne (by rw [hRm]; exact ⟨Nat.le_refl _, by show 8 + (3 + 11) + lo ≤ lo + 40; omega⟩) rfl rfl (Nat.le_of_ble_eq_true rfl) dX2_readOne_91 ⟨Nat.zero_le _, Nat.zero_le _⟩ (fun H locs hP hS => ?_)
        refine lv_istore_n (lv' := [(2, .int r_24), (0, .ref (G.2.2.1 2)), (1, .int x1)]) hx hb dX2_readOne_94 rfl hl (by decide) rfl (fun ls hl => ?_)
        refine lv_aload_n hx hb dX2_readOne_95 rfl (lv_at hl 1 rfl) ?_
        refine lv_sipush (v := (30000 : Int32)) hx hb dX2_readOne_96 (by decide) ?_
        obtain ⟨M_25, hc_26, hf⟩ := zV_o hf
        refine zc_vv (As := [.int (30000 : Int32)]) (rest := []) C0 hP hS hl.1 2 (mtX2_emit l G hJ (30000 : Int32) M_22 _ hc_26) lk_X2_49 (by decide) shX_2 (T := TX2) (n' := 9) rfl ds_X2_emit (by rw [hRm]; exact ⟨by show 0 + 1 ≤ fr + 1; omega, by show 8 + (2 + 11) + 0 ≤ lo + 40; omega⟩) rfl rfl (Nat.le_of_ble_eq_true rfl) dX2_readOne_99 ⟨Nat.zero_le _, Nat.zero_le _⟩ (fun H locs hP hS => ?_)
        refine lv_iload_n hx hb dX2_readOne_102 rfl (lv_at hl 0 rfl) ?_
        obtain ⟨hg_27, hf⟩ := zG_o hf
        exact ze_z C0 hP hS hg_27 hf dX2_readOne_103 hQ
    · replace hf := zI_f c_9 hf
      refine lv_iconst (v := (0 : Int32)) hx hb dX2_readOne_72 (by decide) ?_
      exact ze_z C0 hP hS (by decide) hf dX2_readOne_73 hQ
  unfold fX2_readOne at hf
  obtain ⟨H, eH⟩ : ∃ H, H = s.heap := ⟨_, rfl⟩
  obtain ⟨locs, el⟩ : ∃ locs : List Loc, locs = [] := ⟨_, rfl⟩
  rw [← eH] at hP ⊢
  have hS : va_S (zA G 64 s.heap.size) s.heap H locs := by rw [eH, el]; exact hS
  rw [← el]
  refine lv_aload_n hx hb dX2_readOne_0 rfl (lv_at hl 0 rfl) ?_
  refine zr_get (C := RX2) (T := TX2) (n := 9) C0 hP 2 (by decide) shX_2 6 rfl (by decide) uw_X2 mw_181 rfl dX2_readOne_1 ?_
  refine lv_iconst (v := (2 : Int32)) hx hb dX2_readOne_4 (by decide) ?_
  refine lv_icmp_eq (tgt := 16) hx hb dX2_readOne_5 (by decide) (fun c_1 => ?_) (fun c_1 => ?_)
  · replace hf := zI_t c_1 hf
    refine lv_aload_n hx hb dX2_readOne_16 rfl (lv_at hl 0 rfl) ?_
    refine lv_aload_n hx hb dX2_readOne_17 rfl (lv_at hl 0 rfl) ?_
    refine zr_get (C := RX2) (T := TX2) (n := 9) C0 hP 2 (by decide) shX_2 6 rfl (by decide) uw_X2 mw_181 rfl dX2_readOne_18 ?_
    refine lv_iconst (v := (2 : Int32)) hx hb dX2_readOne_21 (by decide) ?_
    refine lv_icmp_ne (tgt := 32) hx hb dX2_readOne_22 (by decide) (fun c_2 => ?_) (fun c_2 => ?_)
    · replace hf := zI_f c_2 hf
      refine lv_sipush (v := (10000 : Int32)) hx hb dX2_readOne_32 (by decide) ?_
      refine lv_aload_n hx hb dX2_readOne_35 rfl (lv_at hl 0 rfl) ?_
      refine zr_get (C := RX2) (T := TX2) (n := 9) C0 hP 2 (by decide) shX_2 8 rfl (by decide) uw_X2 mw_178 rfl dX2_readOne_36 ?_
      refine lv_iadd hx hb dX2_readOne_39 ?_
      exact J40 ((10000 : Int32) + (M.1 2 8)) M H locs ls (lv_sub hl [0] rfl) hP hS hf
    · replace hf := zI_t c_2 hf
      refine lv_aload_n hx hb dX2_readOne_25 rfl (lv_at hl 0 rfl) ?_
      refine zr_get (C := RX2) (T := TX2) (n := 9) C0 hP 2 (by decide) shX_2 8 rfl (by decide) uw_X2 mw_178 rfl dX2_readOne_26 ?_
      refine lv_goto (tgt := 40) hx hb dX2_readOne_29 (by decide) ?_
      exact J40 (M.1 2 8) M H locs ls (lv_sub hl [0] rfl) hP hS hf
  · replace hf := zI_f c_1 hf
    refine lv_aload_n hx hb dX2_readOne_8 rfl (lv_at hl 0 rfl) ?_
    refine zr_get (C := RX2) (T := TX2) (n := 9) C0 hP 2 (by decide) shX_2 6 rfl (by decide) uw_X2 mw_181 rfl dX2_readOne_9 ?_
    refine lv_iconst (v := (3 : Int32)) hx hb dX2_readOne_12 (by decide) ?_
    refine lv_icmp_ne (tgt := 49) hx hb dX2_readOne_13 (by decide) (fun c_7 => ?_) (fun c_7 => ?_)
    · replace hf := zI_f c_7 hf
      refine lv_aload_n hx hb dX2_readOne_49 rfl (lv_at hl 0 rfl) ?_
      refine zr_get (C := RX2) (T := TX2) (n := 9) C0 hP 2 (by decide) shX_2 6 rfl (by decide) uw_X2 mw_181 rfl dX2_readOne_50 ?_
      refine lv_bipush (v := (45 : Int32)) hx hb dX2_readOne_53 (by decide) ?_
      refine lv_icmp_eq (tgt := 67) hx hb dX2_readOne_55 (by decide) (fun c_8 => ?_) (fun c_8 => ?_)
      · replace hf := zI_t c_8 hf
        exact J67 x1 M H locs ls (lv_sub hl [0, 1] rfl) hP hS hf
      · replace hf := zI_f c_8 hf
        refine lv_aload_n hx hb dX2_readOne_58 rfl (lv_at hl 0 rfl) ?_
        refine zr_get (C := RX2) (T := TX2) (n := 9) C0 hP 2 (by decide) shX_2 6 rfl (by decide) uw_X2 mw_181 rfl dX2_readOne_59 ?_
        refine lv_bipush (v := (40 : Int32)) hx hb dX2_readOne_62 (by decide) ?_
        refine lv_icmp_ne (tgt := 72) hx hb dX2_readOne_64 (by decide) (fun c_28 => ?_) (fun c_28 => ?_)
        · replace hf := zI_f c_28 hf
          refine lv_iconst (v := (0 : Int32)) hx hb dX2_readOne_72 (by decide) ?_
          exact ze_z C0 hP hS (by decide) hf dX2_readOne_73 hQ
        · replace hf := zI_t c_28 hf
          exact J67 x1 M H locs ls (lv_sub hl [0, 1] rfl) hP hS hf
    · replace hf := zI_t c_7 hf
      refine lv_aload_n hx hb dX2_readOne_16 rfl (lv_at hl 0 rfl) ?_
      refine lv_aload_n hx hb dX2_readOne_17 rfl (lv_at hl 0 rfl) ?_
      refine zr_get (C := RX2) (T := TX2) (n := 9) C0 hP 2 (by decide) shX_2 6 rfl (by decide) uw_X2 mw_181 rfl dX2_readOne_18 ?_
      refine lv_iconst (v := (2 : Int32)) hx hb dX2_readOne_21 (by decide) ?_
      refine lv_icmp_ne (tgt := 32) hx hb dX2_readOne_22 (by decide) (fun c_29 => ?_) (fun c_29 => ?_)
      · replace hf := zI_f c_29 hf
        refine lv_sipush (v := (10000 : Int32)) hx hb dX2_readOne_32 (by decide) ?_
        refine lv_aload_n hx hb dX2_readOne_35 rfl (lv_at hl 0 rfl) ?_
        refine zr_get (C := RX2) (T := TX2) (n := 9) C0 hP 2 (by decide) shX_2 8 rfl (by decide) uw_X2 mw_178 rfl dX2_readOne_36 ?_
        refine lv_iadd hx hb dX2_readOne_39 ?_
        exact J40 ((10000 : Int32) + (M.1 2 8)) M H locs ls (lv_sub hl [0] rfl) hP hS hf
      · replace hf := zI_t c_29 hf
        refine lv_aload_n hx hb dX2_readOne_25 rfl (lv_at hl 0 rfl) ?_
        refine zr_get (C := RX2) (T := TX2) (n := 9) C0 hP 2 (by decide) shX_2 8 rfl (by decide) uw_X2 mw_178 rfl dX2_readOne_26 ?_
        refine lv_goto (tgt := 40) hx hb dX2_readOne_29 (by decide) ?_
        exact J40 (M.1 2 8) M H locs ls (lv_sub hl [0] rfl) hP hS hf
abbrev zRd : Type := Int32 → zM → Option (Int32 × zM)
def frd : Nat → zRd × zRd × zRd × zRd × zRd × zRd
  | 0 => (fun _ _ => none, fun _ _ => none, fun _ _ => none, fun _ _ => none, fun _ _ => none, fun _ _ => none)
  | d + 1 => (fX2_readEither (frd d).2.1, fX2_readBoth (frd d).2.2.1, fX2_readDenied (frd d).2.2.1 (frd d).2.2.2.1, fX2_readSum (frd d).2.2.2.2.1, fX2_readTerm (frd d).2.2.2.2.2, fX2_readOne (frd d).1 (frd d).2.2.2.2.2)
theorem crd (l : Launch) (G : zGr) (hJ : zJ G 64) : ∀ d : Nat, (∀ (x1 : Int32) (M : zM) (o : Int32 × zM), (frd d).1 x1 M = some o → zMi l G shX 64 yX2_readEither cX2_readEither 4 (some .boolean) (7 + d) (152 + 40 * d) [.ref (G.2.2.1 2), .int x1] M o) ∧ (∀ (x1 : Int32) (M : zM) (o : Int32 × zM), (frd d).2.1 x1 M = some o → zMi l G shX 64 yX2_readBoth cX2_readBoth 4 (some .boolean) (7 + d) (152 + 40 * d) [.ref (G.2.2.1 2), .int x1] M o) ∧ (∀ (x1 : Int32) (M : zM) (o : Int32 × zM), (frd d).2.2.1 x1 M = some o → zMi l G shX 64 yX2_readDenied cX2_readDenied 4 (some .boolean) (7 + d) (152 + 40 * d) [.ref (G.2.2.1 2), .int x1] M o) ∧ (∀ (x1 : Int32) (M : zM) (o : Int32 × zM), (frd d).2.2.2.1 x1 M = some o → zMi l G shX 64 yX2_readSum cX2_readSum 5 (some .boolean) (7 + d) (152 + 40 * d) [.ref (G.2.2.1 2), .int x1] M o) ∧ (∀ (x1 : Int32) (M : zM) (o : Int32 × zM), (frd d).2.2.2.2.1 x1 M = some o → zMi l G shX 64 yX2_readTerm cX2_readTerm 4 (some .boolean) (7 + d) (152 + 40 * d) [.ref (G.2.2.1 2), .int x1] M o) ∧ (∀ (x1 : Int32) (M : zM) (o : Int32 × zM), (frd d).2.2.2.2.2 x1 M = some o → zMi l G shX 64 yX2_readOne cX2_readOne 3 (some .boolean) (7 + d) (152 + 40 * d) [.ref (G.2.2.1 2), .int x1] M o) := by
  intro d
  induction d with
  | zero => exact ⟨fun _ _ _ h => zn_s h, fun _ _ _ h => zn_s h, fun _ _ _ h => zn_s h, fun _ _ _ h => zn_s h, fun _ _ _ h => zn_s h, fun _ _ _ h => zn_s h⟩
  | succ d ih =>
    obtain ⟨k_readEither, k_readBoth, k_readDenied, k_readSum, k_readTerm, k_readOne⟩ := ih
    exact ⟨fun x1 M o h => mtX2_readEither l G hJ _ (7 + d) (152 + 40 * d) (by omega) (by omega) k_readBoth x1 M o h, fun x1 M o h => mtX2_readBoth l G hJ _ (7 + d) (152 + 40 * d) (by omega) (by omega) k_readDenied x1 M o h, fun x1 M o h => mtX2_readDenied l G hJ _ _ (7 + d) (152 + 40 * d) (by omega) (by omega) k_readDenied k_readSum x1 M o h, fun x1 M o h => mtX2_readSum l G hJ _ (7 + d) (152 + 40 * d) (by omega) (by omega) k_readTerm x1 M o h, fun x1 M o h => mtX2_readTerm l G hJ _ (7 + d) (152 + 40 * d) (by omega) (by omega) k_readOne x1 M o h, fun x1 M o h => mtX2_readOne l G hJ _ _ (7 + d) (152 + 40 * d) (by omega) (by omega) k_readEither k_readOne x1 M o h⟩
def fX2_readTop : zRd := (frd 60).1
theorem mtX2_readTop (l : Launch) (G : zGr) (hJ : zJ G 64) (x1 : Int32) (M : zM) (o : Int32 × zM) (hf : fX2_readTop x1 M = some o) : zMi l G shX 64 yX2_readEither cX2_readEither 4 (some .boolean) 67 2552 [.ref (G.2.2.1 2), .int x1] M o := (crd l G hJ 60).1 x1 M o hf
def fX2_read_B16 (r16 : Int32 → zM → Option (Int32 × zM)) (x1 : Int32) (M : zM) : Option (Int32 × zM) :=
  if (3 : Int32) ≤ x1 then
    if (M.1 2 6) = (0 : Int32) then
      some ((-1 : Int32), M)
    else
      some ((M.1 2 7), M)
  else
    if (M.1 2 6) = ((4 : Int32) + x1) then
      zV (fX2_next M) fun M_8 =>
      zB (fX2_readTop (0 : Int32) M_8) fun r_12 M_10 =>
      if r_12 = (0 : Int32) then
        some ((M_10.1 2 7), M_10)
      else
        if (M_10.1 2 6) = (59 : Int32) then
          zG (zin x1 3) <|
          zL (zu M_10 5 x1.toNatClampNeg (M_10.1 2 4)) fun M_16 =>
          zV (fX2_next M_16) fun M_17 =>
          zL (x1 + (1 : Int32)) fun x1_19 =>
          r16 x1_19 M_17
        else
          some ((M_10.1 2 7), M_10)
    else
      some ((M.1 2 7), M)
def fX2_read_L16 : Nat → Int32 → zM → Option (Int32 × zM)
  | 0 => fun _ _ => none
  | j9 + 1 => fX2_read_B16 (fX2_read_L16 j9)
def fX2_read (M : zM) : Option (Int32 × zM) :=
  zL (zu M 2 5 (0 : Int32)) fun M_1 =>
  zL (zu M_1 2 4 (0 : Int32)) fun M_2 =>
  zV (fX2_next M_2) fun M_3 =>
  fX2_read_L16 zF (0 : Int32) M_3
set_option maxHeartbeats 4000000 in
set_option maxRecDepth 100000 in
theorem mtX2_read (l : Launch) (G : zGr) (hJ : zJ G 64) (M : zM) (o : Int32 × zM) (hf : fX2_read M = some o) : zMi l G shX 64 yX2_read cX2_read 2 (some .int) 68 2575 [.ref (G.2.2.1 2)] M o := by
  intro sz
  refine zOf (by decide) (Nat.le_of_ble_eq_true rfl) ?_
  intro p e R Q s m args below meth c hRm hsz hQ C0 hP hS ls hl
  subst hsz
  replace hRm : R = { frames := 68, cells := 0, slots := 0, locals := 2575 } := hRm
  have hl : lv_has ls 2 [(0, .ref (G.2.2.1 2))] := hl
  have hx := C0.1
  have hb := C0.2.1
  have hown := C0.2.2.2.1
  have hts := C0.2.2.2.2.1
  have L16 : ∀ (n16 : Nat), ∀ (x1 : Int32) (M : zM) (H : Heap) (locs : List Loc) (ls : Array Slot), lv_has ls 2 [(0, .ref (G.2.2.1 2)), (1, .int x1)] → va_P G.1 zcl (zw G shX 64 M) H → va_S (zA G 64 s.heap.size) s.heap H locs → fX2_read_L16 n16 x1 M = some o → W p l e R s m args below meth c H locs 0 0 Q (F0 m 16 ls []) := by
    intro n16
    induction n16 with
    | zero => intro x1 M H locs ls hl hP hS hf; exact zn_s (show none = some o from hf)
    | succ n16 ih16 =>
      intro x1 M H locs ls hl hP hS hf
      replace hf : fX2_read_B16 (fX2_read_L16 n16) x1 M = some o := hf
      unfold fX2_read_B16 at hf
      refine lv_iload_n hx hb dX2_read_16 rfl (lv_at hl 1 rfl) ?_
      refine lv_iconst (v := (3 : Int32)) hx hb dX2_read_17 (by decide) ?_
      refine lv_icmp_ge (tgt := 82) hx hb dX2_read_18 (by decide) (fun c_5 => ?_) (fun c_5 => ?_)
      · replace hf := zI_t c_5 hf
        refine lv_aload_n hx hb dX2_read_82 rfl (lv_at hl 0 rfl) ?_
        refine zr_get (C := RX2) (T := TX2) (n := 9) C0 hP 2 (by decide) shX_2 6 rfl (by decide) uw_X2 mw_181 rfl dX2_read_83 ?_
        refine lv_if_ne (tgt := 93) hx hb dX2_read_86 (by decide) (fun c_6 => ?_) (fun c_6 => ?_)
        · replace hf := zI_f c_6 hf
          refine lv_aload_n hx hb dX2_read_93 rfl (lv_at hl 0 rfl) ?_
          refine zr_get (C := RX2) (T := TX2) (n := 9) C0 hP 2 (by decide) shX_2 7 rfl (by decide) uw_X2 mw_180 rfl dX2_read_94 ?_
          exact ze_i C0 hP hS hf dX2_read_97 hQ
        · replace hf := zI_t c_6 hf
          refine lv_iconst (v := (-1 : Int32)) hx hb dX2_read_89 (by decide) ?_
          refine lv_goto (tgt := 97) hx hb dX2_read_90 (by decide) ?_
          exact ze_i C0 hP hS hf dX2_read_97 hQ
      · replace hf := zI_f c_5 hf
        refine lv_aload_n hx hb dX2_read_21 rfl (lv_at hl 0 rfl) ?_
        refine zr_get (C := RX2) (T := TX2) (n := 9) C0 hP 2 (by decide) shX_2 6 rfl (by decide) uw_X2 mw_181 rfl dX2_read_22 ?_
        refine lv_iconst (v := (4 : Int32)) hx hb dX2_read_25 (by decide) ?_
        refine lv_iload_n hx hb dX2_read_26 rfl (lv_at hl 1 rfl) ?_
        refine lv_iadd hx hb dX2_read_27 ?_
        refine lv_icmp_eq (tgt := 36) hx hb dX2_read_28 (by decide) (fun c_7 => ?_) (fun c_7 => ?_)
        · replace hf := zI_t c_7 hf
          refine lv_aload_n hx hb dX2_read_36 rfl (lv_at hl 0 rfl) ?_
          obtain ⟨M_8, hc_9, hf⟩ := zV_o hf
          refine zc_vv (As := []) (rest := []) C0 hP hS hl.1 2 (mtX2_next l G hJ M _ hc_9) lk_X2_31 (by decide) shX_2 (T := TX2) (n' := 9) rfl ds_X2_next (by rw [hRm]; exact ⟨Nat.le_of_ble_eq_true rfl, Nat.le_of_ble_eq_true rfl⟩) rfl rfl (Nat.le_of_ble_eq_true rfl) dX2_read_37 ⟨Nat.zero_le _, Nat.zero_le _⟩ (fun H locs hP hS => ?_)
          refine lv_aload_n hx hb dX2_read_40 rfl (lv_at hl 0 rfl) ?_
          refine lv_iconst (v := (0 : Int32)) hx hb dX2_read_41 (by decide) ?_
          obtain ⟨r_12, M_10, hc_11, hf⟩ := zB_o hf
          refine zc_vi (As := [.int (0 : Int32)]) (rest := []) C0 hP hS hl.1 2 (mtX2_readTop l G hJ (0 : Int32) M_8 _ hc_11) lk_X2_40 (by decide) shX_2 (T := TX2) (n' := 9) rfl ds_X2_readEither (by rw [hRm]; exact ⟨Nat.le_of_ble_eq_true rfl, Nat.le_of_ble_eq_true rfl⟩) rfl rfl (Nat.le_of_ble_eq_true rfl) dX2_read_42 ⟨Nat.zero_le _, Nat.zero_le _⟩ (fun H locs hP hS => ?_)
          refine lv_if_eq (tgt := 57) hx hb dX2_read_45 (by decide) (fun c_13 => ?_) (fun c_13 => ?_)
          · replace hf := zI_t c_13 hf
            refine lv_aload_n hx hb dX2_read_57 rfl (lv_at hl 0 rfl) ?_
            refine zr_get (C := RX2) (T := TX2) (n := 9) C0 hP 2 (by decide) shX_2 7 rfl (by decide) uw_X2 mw_180 rfl dX2_read_58 ?_
            exact ze_i C0 hP hS hf dX2_read_61 hQ
          · replace hf := zI_f c_13 hf
            refine lv_aload_n hx hb dX2_read_48 rfl (lv_at hl 0 rfl) ?_
            refine zr_get (C := RX2) (T := TX2) (n := 9) C0 hP 2 (by decide) shX_2 6 rfl (by decide) uw_X2 mw_181 rfl dX2_read_49 ?_
            refine lv_bipush (v := (59 : Int32)) hx hb dX2_read_52 (by decide) ?_
            refine lv_icmp_eq (tgt := 62) hx hb dX2_read_54 (by decide) (fun c_14 => ?_) (fun c_14 => ?_)
            · replace hf := zI_t c_14 hf
              refine lv_aload_n hx hb dX2_read_62 rfl (lv_at hl 0 rfl) ?_
              refine zr_getq (C := RX2) (T := TX2) (n := 9) C0 hP 2 (by decide) shX_2 2 5 rfl (by decide) uw_X2 mw_244 rfl dX2_read_63 ?_
              refine lv_iload_n hx hb dX2_read_66 rfl (lv_at hl 1 rfl) ?_
              refine lv_aload_n hx hb dX2_read_67 rfl (lv_at hl 0 rfl) ?_
              refine zr_get (C := RX2) (T := TX2) (n := 9) C0 hP 2 (by decide) shX_2 4 rfl (by decide) uw_X2 mw_176 rfl dX2_read_68 ?_
              obtain ⟨hg_15, hf⟩ := zG_o hf
              refine zr_iast C0 hJ hP hS 5 (by decide) shX_5 hg_15 dX2_read_71 (fun H locs hP hS => ?_)
              obtain ⟨M_16, eM_16, hf⟩ := zL_o hf
              have hP : va_P G.1 zcl (zw G shX 64 M_16) H := by rw [eM_16]; exact hP
              refine lv_aload_n hx hb dX2_read_72 rfl (lv_at hl 0 rfl) ?_
              obtain ⟨M_17, hc_18, hf⟩ := zV_o hf
              refine zc_vv (As := []) (rest := []) C0 hP hS hl.1 2 (mtX2_next l G hJ M_16 _ hc_18) lk_X2_31 (by decide) shX_2 (T := TX2) (n' := 9) rfl ds_X2_next (by rw [hRm]; exact ⟨Nat.le_of_ble_eq_true rfl, Nat.le_of_ble_eq_true rfl⟩) rfl rfl (Nat.le_of_ble_eq_true rfl) dX2_read_73 ⟨Nat.zero_le _, Nat.zero_le _⟩ (fun H locs hP hS => ?_)
              obtain ⟨x1_19, ex1_19, hf⟩ := zL_o hf
              refine lv_iinc (v := x1_19) (lv' := [(1, .int x1_19), (0, .ref (G.2.2.1 2))]) hx hb dX2_read_76 hl (k := 1) rfl (by rw [ex1_19]; rfl) (by decide) rfl (fun ls hl => ?_)
              refine lv_goto (tgt := 16) hx hb dX2_read_79 (by decide) ?_
              exact ih16 x1_19 M_17 H locs ls (lv_sub hl [1, 0] rfl) hP hS hf
            · replace hf := zI_f c_14 hf
              refine lv_aload_n hx hb dX2_read_57 rfl (lv_at hl 0 rfl) ?_
              refine zr_get (C := RX2) (T := TX2) (n := 9) C0 hP 2 (by decide) shX_2 7 rfl (by decide) uw_X2 mw_180 rfl dX2_read_58 ?_
              exact ze_i C0 hP hS hf dX2_read_61 hQ
        · replace hf := zI_f c_7 hf
          refine lv_aload_n hx hb dX2_read_31 rfl (lv_at hl 0 rfl) ?_
          refine zr_get (C := RX2) (T := TX2) (n := 9) C0 hP 2 (by decide) shX_2 7 rfl (by decide) uw_X2 mw_180 rfl dX2_read_32 ?_
          exact ze_i C0 hP hS hf dX2_read_35 hQ
  unfold fX2_read at hf
  obtain ⟨H, eH⟩ : ∃ H, H = s.heap := ⟨_, rfl⟩
  obtain ⟨locs, el⟩ : ∃ locs : List Loc, locs = [] := ⟨_, rfl⟩
  rw [← eH] at hP ⊢
  have hS : va_S (zA G 64 s.heap.size) s.heap H locs := by rw [eH, el]; exact hS
  rw [← el]
  refine lv_aload_n hx hb dX2_read_0 rfl (lv_at hl 0 rfl) ?_
  refine lv_iconst (v := (0 : Int32)) hx hb dX2_read_1 (by decide) ?_
  refine zr_put (C := RX2) (T := TX2) (n := 9) C0 hJ hP hS 2 (by decide) shX_2 5 rfl (by decide) uw_X2 tyX2 tyX2_ok nmX2 mw_179 rfl rfl ⟨rfl, rfl⟩ dX2_read_2 (fun H locs hP hS => ?_)
  obtain ⟨M_1, eM_1, hf⟩ := zL_o hf
  have hP : va_P G.1 zcl (zw G shX 64 M_1) H := by rw [eM_1]; exact hP
  refine lv_aload_n hx hb dX2_read_5 rfl (lv_at hl 0 rfl) ?_
  refine lv_iconst (v := (0 : Int32)) hx hb dX2_read_6 (by decide) ?_
  refine zr_put (C := RX2) (T := TX2) (n := 9) C0 hJ hP hS 2 (by decide) shX_2 4 rfl (by decide) uw_X2 tyX2 tyX2_ok nmX2 mw_176 rfl rfl ⟨rfl, rfl⟩ dX2_read_7 (fun H locs hP hS => ?_)
  obtain ⟨M_2, eM_2, hf⟩ := zL_o hf
  have hP : va_P G.1 zcl (zw G shX 64 M_2) H := by rw [eM_2]; exact hP
  refine lv_aload_n hx hb dX2_read_10 rfl (lv_at hl 0 rfl) ?_
  obtain ⟨M_3, hc_4, hf⟩ := zV_o hf
  refine zc_vv (As := []) (rest := []) C0 hP hS hl.1 2 (mtX2_next l G hJ M_2 _ hc_4) lk_X2_31 (by decide) shX_2 (T := TX2) (n' := 9) rfl ds_X2_next (by rw [hRm]; exact ⟨Nat.le_of_ble_eq_true rfl, Nat.le_of_ble_eq_true rfl⟩) rfl rfl (Nat.le_of_ble_eq_true rfl) dX2_read_11 ⟨Nat.zero_le _, Nat.zero_le _⟩ (fun H locs hP hS => ?_)
  refine lv_iconst (v := (0 : Int32)) hx hb dX2_read_14 (by decide) ?_
  refine lv_istore_n (lv' := [(1, .int (0 : Int32)), (0, .ref (G.2.2.1 2))]) hx hb dX2_read_15 rfl hl (by decide) rfl (fun ls hl => ?_)
  exact L16 zF (0 : Int32) M_3 H locs ls (lv_sub hl [1, 0] rfl) hP hS hf

def fX1_turned (x0 : Int32) (x1 : Int32) (x2 : Int32) (M : zM) : Option (Int32 × zM) :=
  if x2 = (0 : Int32) then
    some (x0, M)
  else
    some ((x1 - x0), M)
set_option maxHeartbeats 4000000 in
set_option maxRecDepth 100000 in
theorem mtX1_turned (l : Launch) (G : zGr) (hJ : zJ G 64) (x0 : Int32) (x1 : Int32) (x2 : Int32) (M : zM) (o : Int32 × zM) (hf : fX1_turned x0 x1 x2 M = some o) : zMi l G shX 64 yX1_turned cX1_turned 3 (some .int) 0 0 [.int x0, .int x1, .int x2] M o := by
  intro sz
  refine zOf (by decide) (Nat.le_of_ble_eq_true rfl) ?_
  intro p e R Q s m args below meth c hRm hsz hQ C0 hP hS ls hl
  subst hsz
  replace hRm : R = { frames := 0, cells := 0, slots := 0, locals := 0 } := hRm
  have hl : lv_has ls 3 [(0, .int x0), (1, .int x1), (2, .int x2)] := hl
  have hx := C0.1
  have hb := C0.2.1
  have hown := C0.2.2.2.1
  have hts := C0.2.2.2.2.1
  unfold fX1_turned at hf
  obtain ⟨H, eH⟩ : ∃ H, H = s.heap := ⟨_, rfl⟩
  obtain ⟨locs, el⟩ : ∃ locs : List Loc, locs = [] := ⟨_, rfl⟩
  rw [← eH] at hP ⊢
  have hS : va_S (zA G 64 s.heap.size) s.heap H locs := by rw [eH, el]; exact hS
  rw [← el]
  refine lv_iload_n hx hb dX1_turned_0 rfl (lv_at hl 2 rfl) ?_
  refine lv_if_ne (tgt := 8) hx hb dX1_turned_1 (by decide) (fun c_1 => ?_) (fun c_1 => ?_)
  · replace hf := zI_f c_1 hf
    refine lv_iload_n hx hb dX1_turned_8 rfl (lv_at hl 1 rfl) ?_
    refine lv_iload_n hx hb dX1_turned_9 rfl (lv_at hl 0 rfl) ?_
    refine lv_isub hx hb dX1_turned_10 ?_
    exact ze_i C0 hP hS hf dX1_turned_11 hQ
  · replace hf := zI_t c_1 hf
    refine lv_iload_n hx hb dX1_turned_4 rfl (lv_at hl 0 rfl) ?_
    refine lv_goto (tgt := 11) hx hb dX1_turned_5 (by decide) ?_
    exact ze_i C0 hP hS hf dX1_turned_11 hQ
def fX1_sooner (x0 : Int32) (x1 : Int32) (M : zM) : Option (Int32 × zM) :=
  if x0 = (0 : Int32) then
    some (x1, M)
  else
    if x1 = (0 : Int32) then
      some (x0, M)
    else
      some ((zmin x0 x1), M)
set_option maxHeartbeats 4000000 in
set_option maxRecDepth 100000 in
theorem mtX1_sooner (l : Launch) (G : zGr) (hJ : zJ G 64) (x0 : Int32) (x1 : Int32) (M : zM) (o : Int32 × zM) (hf : fX1_sooner x0 x1 M = some o) : zMi l G shX 64 yX1_sooner cX1_sooner 2 (some .int) 1 24 [.int x0, .int x1] M o := by
  intro sz
  refine zOf (by decide) (Nat.le_of_ble_eq_true rfl) ?_
  intro p e R Q s m args below meth c hRm hsz hQ C0 hP hS ls hl
  subst hsz
  replace hRm : R = { frames := 1, cells := 0, slots := 0, locals := 24 } := hRm
  have hl : lv_has ls 2 [(0, .int x0), (1, .int x1)] := hl
  have hx := C0.1
  have hb := C0.2.1
  have hown := C0.2.2.2.1
  have hts := C0.2.2.2.2.1
  unfold fX1_sooner at hf
  obtain ⟨H, eH⟩ : ∃ H, H = s.heap := ⟨_, rfl⟩
  obtain ⟨locs, el⟩ : ∃ locs : List Loc, locs = [] := ⟨_, rfl⟩
  rw [← eH] at hP ⊢
  have hS : va_S (zA G 64 s.heap.size) s.heap H locs := by rw [eH, el]; exact hS
  rw [← el]
  refine lv_iload_n hx hb dX1_sooner_0 rfl (lv_at hl 0 rfl) ?_
  refine lv_if_ne (tgt := 6) hx hb dX1_sooner_1 (by decide) (fun c_1 => ?_) (fun c_1 => ?_)
  · replace hf := zI_f c_1 hf
    refine lv_iload_n hx hb dX1_sooner_6 rfl (lv_at hl 1 rfl) ?_
    refine lv_if_ne (tgt := 14) hx hb dX1_sooner_7 (by decide) (fun c_2 => ?_) (fun c_2 => ?_)
    · replace hf := zI_f c_2 hf
      refine lv_iload_n hx hb dX1_sooner_14 rfl (lv_at hl 0 rfl) ?_
      refine lv_iload_n hx hb dX1_sooner_15 rfl (lv_at hl 1 rfl) ?_
      refine zo_min C0 hl.1 mw_125 mw_32 mw_29 mw_33 (by rw [hRm]; exact Nat.le_of_ble_eq_true rfl) (by rw [hRm]; exact Nat.le_of_ble_eq_true rfl) ⟨Nat.zero_le _, Nat.zero_le _⟩ dX1_sooner_16 ?_
      exact ze_i C0 hP hS hf dX1_sooner_19 hQ
    · replace hf := zI_t c_2 hf
      refine lv_iload_n hx hb dX1_sooner_10 rfl (lv_at hl 0 rfl) ?_
      refine lv_goto (tgt := 19) hx hb dX1_sooner_11 (by decide) ?_
      exact ze_i C0 hP hS hf dX1_sooner_19 hQ
  · replace hf := zI_t c_1 hf
    refine lv_iload_n hx hb dX1_sooner_4 rfl (lv_at hl 1 rfl) ?_
    exact ze_i C0 hP hS hf dX1_sooner_5 hQ
def fX1_withSet (x0 : Int64) (x2 : Int32) (M : zM) : Option (Int64 × zM) :=
  zL ((zrml x0 (100 : Int64)).toInt32) fun x3_1 =>
  zB (fJ6_bitCount_0f7a4 x2 M) fun r_4 M_2 =>
  zL ((x0 + (r_4.toInt64 * (100000000000 : Int64))) + (1 : Int64)) fun x4_5 =>
  if x3_1 < (0 : Int32) then
    some (x4_5, M_2)
  else
    if (9 : Int32) ≤ x3_1 then
      some (x4_5, M_2)
    else
      zG (zin x3_1 9) <|
      some ((x4_5 + ((x2 + (1 : Int32)).toInt64 * (zPL x3_1.toNatClampNeg))), M_2)
set_option maxHeartbeats 4000000 in
set_option maxRecDepth 100000 in
theorem mtX1_withSet (l : Launch) (G : zGr) (hJ : zJ G 64) (x0 : Int64) (x2 : Int32) (M : zM) (o : Int64 × zM) (hf : fX1_withSet x0 x2 M = some o) : zMl l G shX 64 yX1_withSet cX1_withSet 6 (some .long) 1 20 [.long x0, .int x2] M o := by
  intro sz
  refine zOf (by decide) (Nat.le_of_ble_eq_true rfl) ?_
  intro p e R Q s m args below meth c hRm hsz hQ C0 hP hS ls hl
  subst hsz
  replace hRm : R = { frames := 1, cells := 0, slots := 0, locals := 20 } := hRm
  have hl : lv_has ls 6 [(0, .long x0), (2, .int x2)] := hl
  have hx := C0.1
  have hb := C0.2.1
  have hown := C0.2.2.2.1
  have hts := C0.2.2.2.2.1
  unfold fX1_withSet at hf
  obtain ⟨H, eH⟩ : ∃ H, H = s.heap := ⟨_, rfl⟩
  obtain ⟨locs, el⟩ : ∃ locs : List Loc, locs = [] := ⟨_, rfl⟩
  rw [← eH] at hP ⊢
  have hS : va_S (zA G 64 s.heap.size) s.heap H locs := by rw [eH, el]; exact hS
  rw [← el]
  refine lv_lload_n hx hb dX1_withSet_0 rfl (lv_at hl 0 rfl) ?_
  refine lv_ldc2 (v := (100 : Int64)) hx hb hown (hts _ mw_126) dX1_withSet_1 ?_
  refine zo_lrem hx hb dX1_withSet_4 (by decide) ?_
  refine zo_l2i hx hb dX1_withSet_5 ?_
  refine lv_topi (fun x3_1 ex3_1 => ?_)
  replace hf := zL_e ex3_1 hf
  refine lv_istore_n (lv' := [(3, .int x3_1), (0, .long x0), (2, .int x2)]) hx hb dX1_withSet_6 rfl hl (by decide) rfl (fun ls hl => ?_)
  refine lv_lload_n hx hb dX1_withSet_7 rfl (lv_at hl 1 rfl) ?_
  refine lv_iload_n hx hb dX1_withSet_8 rfl (lv_at hl 2 rfl) ?_
  obtain ⟨r_4, M_2, hc_3, hf⟩ := zB_o hf
  refine zc_si (As := [.int x2]) (rest := [.long x0]) C0 hP hS hl.1 (mtJ6_bitCount_0f7a4 l G hJ x2 M _ hc_3) ls_X1_89 ds_J6_bitCount_0f7a4 (by rw [hRm]; exact ⟨Nat.le_of_ble_eq_true rfl, Nat.le_of_ble_eq_true rfl⟩) rfl rfl (Nat.le_of_ble_eq_true rfl) dX1_withSet_9 ⟨Nat.zero_le _, Nat.zero_le _⟩ (fun H locs hP hS => ?_)
  refine zo_i2l hx hb dX1_withSet_12 ?_
  refine lv_ldc2 (v := (100000000000 : Int64)) hx hb hown (hts _ mw_131) dX1_withSet_13 ?_
  refine lv_lmul hx hb dX1_withSet_16 ?_
  refine lv_ladd hx hb dX1_withSet_17 ?_
  refine lv_lconst (v := (1 : Int64)) hx hb dX1_withSet_18 (by decide) ?_
  refine lv_ladd hx hb dX1_withSet_19 ?_
  refine lv_topl (fun x4_5 ex4_5 => ?_)
  replace hf := zL_e ex4_5 hf
  refine lv_lstore (lv' := [(4, .long x4_5), (3, .int x3_1), (0, .long x0), (2, .int x2)]) hx hb dX1_withSet_20 hl (by decide) rfl (fun ls hl => ?_)
  refine lv_iload_n hx hb dX1_withSet_22 rfl (lv_at hl 1 rfl) ?_
  refine lv_if_lt (tgt := 48) hx hb dX1_withSet_23 (by decide) (fun c_6 => ?_) (fun c_6 => ?_)
  · replace hf := zI_t c_6 hf
    refine lv_lload hx hb dX1_withSet_48 (lv_at hl 0 rfl) ?_
    exact ze_l C0 hP hS hf dX1_withSet_50 hQ
  · replace hf := zI_f c_6 hf
    refine lv_iload_n hx hb dX1_withSet_26 rfl (lv_at hl 1 rfl) ?_
    refine lv_bipush (v := (9 : Int32)) hx hb dX1_withSet_27 (by decide) ?_
    refine lv_icmp_ge (tgt := 48) hx hb dX1_withSet_29 (by decide) (fun c_7 => ?_) (fun c_7 => ?_)
    · replace hf := zI_t c_7 hf
      refine lv_lload hx hb dX1_withSet_48 (lv_at hl 0 rfl) ?_
      exact ze_l C0 hP hS hf dX1_withSet_50 hQ
    · replace hf := zI_f c_7 hf
      refine lv_lload hx hb dX1_withSet_32 (lv_at hl 0 rfl) ?_
      refine lv_iload_n hx hb dX1_withSet_34 rfl (lv_at hl 3 rfl) ?_
      refine lv_iconst (v := (1 : Int32)) hx hb dX1_withSet_35 (by decide) ?_
      refine lv_iadd hx hb dX1_withSet_36 ?_
      refine zo_i2l hx hb dX1_withSet_37 ?_
      refine zo_gets C0 hS mw_132 dX1_withSet_38 ?_
      refine lv_iload_n hx hb dX1_withSet_41 rfl (lv_at hl 1 rfl) ?_
      obtain ⟨hg_8, hf⟩ := zG_o hf
      refine zo_lalP C0 hS hg_8 dX1_withSet_42 ?_
      refine lv_lmul hx hb dX1_withSet_43 ?_
      refine lv_ladd hx hb dX1_withSet_44 ?_
      refine lv_goto (tgt := 50) hx hb dX1_withSet_45 (by decide) ?_
      exact ze_l C0 hP hS hf dX1_withSet_50 hQ
def fX1_turnSets_B3 (r3 : Int32 → Int32 → Int64 → Int32 → zM → Option (zM)) (x1 : Int32) (x2 : Int32) (x3 : Int64) (x5 : Int32) (M : zM) : Option (zM) :=
  if (8 : Int32) ≤ x5 then
    some M
  else
    zB (fX1_turned (x2 / (100 : Int32)) (M.1 6 3) (x5 &&& (1 : Int32)) M) fun r_4 M_2 =>
    zB (fX1_turned (zrm (x2 / (10 : Int32)) (10 : Int32)) (M_2.1 6 4) (x5 &&& (2 : Int32)) M_2) fun r_7 M_5 =>
    zB (fX1_turned (zrm x2 (10 : Int32)) (M_5.1 6 5) (x5 &&& (4 : Int32)) M_5) fun r_10 M_8 =>
    zB (fX1_sooner r_7 r_10 M_8) fun r_13 M_11 =>
    zB (fX1_sooner r_4 r_13 M_11) fun r_16 M_14 =>
    zL (x1 + r_16) fun x10_17 =>
    if r_16 ≤ (0 : Int32) then
      zL (x5 + (1 : Int32)) fun x5_19 =>
      r3 x1 x2 x3 x5_19 M_14
    else
      if (30 : Int32) < x10_17 then
        zL (x5 + (1 : Int32)) fun x5_21 =>
        r3 x1 x2 x3 x5_21 M_14
      else
        zL ((((zmax (0 : Int32) (r_4 - r_16)) * (100 : Int32)) + ((zmax (0 : Int32) (r_7 - r_16)) * (10 : Int32))) + (zmax (0 : Int32) (r_10 - r_16))) fun x11_22 =>
        zL (((zrm x10_17 (10 : Int32)) * (1000 : Int32)) + x11_22) fun x12_23 =>
        zG (zin x12_23 10000) <|
        zB (fX1_withSet x3 x5 M_14) fun r_27 M_25 =>
        zG (zin x12_23 10000) <|
        zL (zul M_25 7 x12_23.toNatClampNeg (zminl (M_14.2 7 x12_23.toNatClampNeg) r_27)) fun M_29 =>
        zL (x5 + (1 : Int32)) fun x5_30 =>
        r3 x1 x2 x3 x5_30 M_29
def fX1_turnSets_L3 : Nat → Int32 → Int32 → Int64 → Int32 → zM → Option (zM)
  | 0 => fun _ _ _ _ _ => none
  | j9 + 1 => fX1_turnSets_B3 (fX1_turnSets_L3 j9)
def fX1_turnSets (x1 : Int32) (x2 : Int32) (x3 : Int64) (M : zM) : Option (zM) :=
  fX1_turnSets_L3 zF x1 x2 x3 (0 : Int32) M
set_option maxHeartbeats 4000000 in
set_option maxRecDepth 100000 in
theorem mtX1_turnSets (l : Launch) (G : zGr) (hJ : zJ G 64) (x1 : Int32) (x2 : Int32) (x3 : Int64) (M : zM) (o : zM) (hf : fX1_turnSets x1 x2 x3 M = some o) : zMv l G shX 64 yX1_turnSets cX1_turnSets 13 none 2 45 [.ref (G.2.2.1 6), .int x1, .int x2, .long x3] M o := by
  intro sz
  refine zOf (by decide) (Nat.le_of_ble_eq_true rfl) ?_
  intro p e R Q s m args below meth c hRm hsz hQ C0 hP hS ls hl
  subst hsz
  replace hRm : R = { frames := 2, cells := 0, slots := 0, locals := 45 } := hRm
  have hl : lv_has ls 13 [(0, .ref (G.2.2.1 6)), (1, .int x1), (2, .int x2), (3, .long x3)] := hl
  have hx := C0.1
  have hb := C0.2.1
  have hown := C0.2.2.2.1
  have hts := C0.2.2.2.2.1
  have L3 : ∀ (n3 : Nat), ∀ (x1 : Int32) (x2 : Int32) (x3 : Int64) (x5 : Int32) (M : zM) (H : Heap) (locs : List Loc) (ls : Array Slot), lv_has ls 13 [(0, .ref (G.2.2.1 6)), (1, .int x1), (2, .int x2), (3, .long x3), (5, .int x5)] → va_P G.1 zcl (zw G shX 64 M) H → va_S (zA G 64 s.heap.size) s.heap H locs → fX1_turnSets_L3 n3 x1 x2 x3 x5 M = some o → W p l e R s m args below meth c H locs 0 0 Q (F0 m 3 ls []) := by
    intro n3
    induction n3 with
    | zero => intro x1 x2 x3 x5 M H locs ls hl hP hS hf; exact zn_s (show none = some o from hf)
    | succ n3 ih3 =>
      intro x1 x2 x3 x5 M H locs ls hl hP hS hf
      replace hf : fX1_turnSets_B3 (fX1_turnSets_L3 n3) x1 x2 x3 x5 M = some o := hf
      unfold fX1_turnSets_B3 at hf
      refine lv_iload hx hb dX1_turnSets_3 (lv_at hl 4 rfl) ?_
      refine lv_bipush (v := (8 : Int32)) hx hb dX1_turnSets_5 (by decide) ?_
      refine lv_icmp_ge (tgt := 176) hx hb dX1_turnSets_7 (by decide) (fun c_1 => ?_) (fun c_1 => ?_)
      · replace hf := zI_t c_1 hf
        exact ze_v C0 hP hS hf dX1_turnSets_176 hQ
      · replace hf := zI_f c_1 hf
        refine lv_iload_n hx hb dX1_turnSets_10 rfl (lv_at hl 2 rfl) ?_
        refine lv_bipush (v := (100 : Int32)) hx hb dX1_turnSets_11 (by decide) ?_
        refine lv_idiv hx hb dX1_turnSets_13 (by decide) ?_
        refine lv_aload_n hx hb dX1_turnSets_14 rfl (lv_at hl 0 rfl) ?_
        refine zr_get (C := RX1) (T := TX1) (n := 7) C0 hP 6 (by decide) shX_6 3 rfl (by decide) uw_X1 mw_133 rfl dX1_turnSets_15 ?_
        refine lv_iload hx hb dX1_turnSets_18 (lv_at hl 4 rfl) ?_
        refine lv_iconst (v := (1 : Int32)) hx hb dX1_turnSets_20 (by decide) ?_
        refine lv_iand hx hb dX1_turnSets_21 ?_
        obtain ⟨r_4, M_2, hc_3, hf⟩ := zB_o hf
        refine zc_si (As := [.int (x2 / (100 : Int32)), .int (M.1 6 3), .int (x5 &&& (1 : Int32))]) (rest := []) C0 hP hS hl.1 (mtX1_turned l G hJ (x2 / (100 : Int32)) (M.1 6 3) (x5 &&& (1 : Int32)) M _ hc_3) ls_X1_72 ds_X1_turned (by rw [hRm]; exact ⟨Nat.le_of_ble_eq_true rfl, Nat.le_of_ble_eq_true rfl⟩) rfl rfl (Nat.le_of_ble_eq_true rfl) dX1_turnSets_22 ⟨Nat.zero_le _, Nat.zero_le _⟩ (fun H locs hP hS => ?_)
        refine lv_istore (lv' := [(6, .int r_4), (0, .ref (G.2.2.1 6)), (1, .int x1), (2, .int x2), (3, .long x3), (5, .int x5)]) hx hb dX1_turnSets_25 hl (by decide) rfl (fun ls hl => ?_)
        refine lv_iload_n hx hb dX1_turnSets_27 rfl (lv_at hl 3 rfl) ?_
        refine lv_bipush (v := (10 : Int32)) hx hb dX1_turnSets_28 (by decide) ?_
        refine lv_idiv hx hb dX1_turnSets_30 (by decide) ?_
        refine lv_bipush (v := (10 : Int32)) hx hb dX1_turnSets_31 (by decide) ?_
        refine zo_irem hx hb dX1_turnSets_33 (by decide) ?_
        refine lv_aload_n hx hb dX1_turnSets_34 rfl (lv_at hl 1 rfl) ?_
        refine zr_get (C := RX1) (T := TX1) (n := 7) C0 hP 6 (by decide) shX_6 4 rfl (by decide) uw_X1 mw_138 rfl dX1_turnSets_35 ?_
        refine lv_iload hx hb dX1_turnSets_38 (lv_at hl 5 rfl) ?_
        refine lv_iconst (v := (2 : Int32)) hx hb dX1_turnSets_40 (by decide) ?_
        refine lv_iand hx hb dX1_turnSets_41 ?_
        obtain ⟨r_7, M_5, hc_6, hf⟩ := zB_o hf
        refine zc_si (As := [.int (zrm (x2 / (10 : Int32)) (10 : Int32)), .int (M_2.1 6 4), .int (x5 &&& (2 : Int32))]) (rest := []) C0 hP hS hl.1 (mtX1_turned l G hJ (zrm (x2 / (10 : Int32)) (10 : Int32)) (M_2.1 6 4) (x5 &&& (2 : Int32)) M_2 _ hc_6) ls_X1_72 ds_X1_turned (by rw [hRm]; exact ⟨Nat.le_of_ble_eq_true rfl, Nat.le_of_ble_eq_true rfl⟩) rfl rfl (Nat.le_of_ble_eq_true rfl) dX1_turnSets_42 ⟨Nat.zero_le _, Nat.zero_le _⟩ (fun H locs hP hS => ?_)
        refine lv_istore (lv' := [(7, .int r_7), (6, .int r_4), (0, .ref (G.2.2.1 6)), (1, .int x1), (2, .int x2), (3, .long x3), (5, .int x5)]) hx hb dX1_turnSets_45 hl (by decide) rfl (fun ls hl => ?_)
        refine lv_iload_n hx hb dX1_turnSets_47 rfl (lv_at hl 4 rfl) ?_
        refine lv_bipush (v := (10 : Int32)) hx hb dX1_turnSets_48 (by decide) ?_
        refine zo_irem hx hb dX1_turnSets_50 (by decide) ?_
        refine lv_aload_n hx hb dX1_turnSets_51 rfl (lv_at hl 2 rfl) ?_
        refine zr_get (C := RX1) (T := TX1) (n := 7) C0 hP 6 (by decide) shX_6 5 rfl (by decide) uw_X1 mw_139 rfl dX1_turnSets_52 ?_
        refine lv_iload hx hb dX1_turnSets_55 (lv_at hl 6 rfl) ?_
        refine lv_iconst (v := (4 : Int32)) hx hb dX1_turnSets_57 (by decide) ?_
        refine lv_iand hx hb dX1_turnSets_58 ?_
        obtain ⟨r_10, M_8, hc_9, hf⟩ := zB_o hf
        refine zc_si (As := [.int (zrm x2 (10 : Int32)), .int (M_5.1 6 5), .int (x5 &&& (4 : Int32))]) (rest := []) C0 hP hS hl.1 (mtX1_turned l G hJ (zrm x2 (10 : Int32)) (M_5.1 6 5) (x5 &&& (4 : Int32)) M_5 _ hc_9) ls_X1_72 ds_X1_turned (by rw [hRm]; exact ⟨Nat.le_of_ble_eq_true rfl, Nat.le_of_ble_eq_true rfl⟩) rfl rfl (Nat.le_of_ble_eq_true rfl) dX1_turnSets_59 ⟨Nat.zero_le _, Nat.zero_le _⟩ (fun H locs hP hS => ?_)
        refine lv_istore (lv' := [(8, .int r_10), (7, .int r_7), (6, .int r_4), (0, .ref (G.2.2.1 6)), (1, .int x1), (2, .int x2), (3, .long x3), (5, .int x5)]) hx hb dX1_turnSets_62 hl (by decide) rfl (fun ls hl => ?_)
        refine lv_iload hx hb dX1_turnSets_64 (lv_at hl 2 rfl) ?_
        refine lv_iload hx hb dX1_turnSets_66 (lv_at hl 1 rfl) ?_
        refine lv_iload hx hb dX1_turnSets_68 (lv_at hl 0 rfl) ?_
        obtain ⟨r_13, M_11, hc_12, hf⟩ := zB_o hf
        refine zc_si (As := [.int r_7, .int r_10]) (rest := [.int r_4]) C0 hP hS hl.1 (mtX1_sooner l G hJ r_7 r_10 M_8 _ hc_12) ls_X1_76 ds_X1_sooner (by rw [hRm]; exact ⟨Nat.le_of_ble_eq_true rfl, Nat.le_of_ble_eq_true rfl⟩) rfl rfl (Nat.le_of_ble_eq_true rfl) dX1_turnSets_70 ⟨Nat.zero_le _, Nat.zero_le _⟩ (fun H locs hP hS => ?_)
        obtain ⟨r_16, M_14, hc_15, hf⟩ := zB_o hf
        refine zc_si (As := [.int r_4, .int r_13]) (rest := []) C0 hP hS hl.1 (mtX1_sooner l G hJ r_4 r_13 M_11 _ hc_15) ls_X1_76 ds_X1_sooner (by rw [hRm]; exact ⟨Nat.le_of_ble_eq_true rfl, Nat.le_of_ble_eq_true rfl⟩) rfl rfl (Nat.le_of_ble_eq_true rfl) dX1_turnSets_73 ⟨Nat.zero_le _, Nat.zero_le _⟩ (fun H locs hP hS => ?_)
        refine lv_istore (lv' := [(9, .int r_16), (8, .int r_10), (7, .int r_7), (6, .int r_4), (0, .ref (G.2.2.1 6)), (1, .int x1), (2, .int x2), (3, .long x3), (5, .int x5)]) hx hb dX1_turnSets_76 hl (by decide) rfl (fun ls hl => ?_)
        refine lv_iload_n hx hb dX1_turnSets_78 rfl (lv_at hl 5 rfl) ?_
        refine lv_iload hx hb dX1_turnSets_79 (lv_at hl 0 rfl) ?_
        refine lv_iadd hx hb dX1_turnSets_81 ?_
        refine lv_topi (fun x10_17 ex10_17 => ?_)
        replace hf := zL_e ex10_17 hf
        refine lv_istore (lv' := [(10, .int x10_17), (9, .int r_16), (8, .int r_10), (7, .int r_7), (6, .int r_4), (0, .ref (G.2.2.1 6)), (1, .int x1), (2, .int x2), (3, .long x3), (5, .int x5)]) hx hb dX1_turnSets_82 hl (by decide) rfl (fun ls hl => ?_)
        refine lv_iload hx hb dX1_turnSets_84 (lv_at hl 1 rfl) ?_
        refine lv_if_le (tgt := 170) hx hb dX1_turnSets_86 (by decide) (fun c_18 => ?_) (fun c_18 => ?_)
        · replace hf := zI_t c_18 hf
          obtain ⟨x5_19, ex5_19, hf⟩ := zL_o hf
          refine lv_iinc (v := x5_19) (lv' := [(5, .int x5_19), (10, .int x10_17), (9, .int r_16), (8, .int r_10), (7, .int r_7), (6, .int r_4), (0, .ref (G.2.2.1 6)), (1, .int x1), (2, .int x2), (3, .long x3)]) hx hb dX1_turnSets_170 hl (k := 9) rfl (by rw [ex5_19]; rfl) (by decide) rfl (fun ls hl => ?_)
          refine lv_goto (tgt := 3) hx hb dX1_turnSets_173 (by decide) ?_
          exact ih3 x1 x2 x3 x5_19 M_14 H locs ls (lv_sub hl [6, 7, 8, 9, 0] rfl) hP hS hf
        · replace hf := zI_f c_18 hf
          refine lv_iload hx hb dX1_turnSets_89 (lv_at hl 0 rfl) ?_
          refine lv_bipush (v := (30 : Int32)) hx hb dX1_turnSets_91 (by decide) ?_
          refine lv_icmp_gt (tgt := 170) hx hb dX1_turnSets_93 (by decide) (fun c_20 => ?_) (fun c_20 => ?_)
          · replace hf := zI_t c_20 hf
            obtain ⟨x5_21, ex5_21, hf⟩ := zL_o hf
            refine lv_iinc (v := x5_21) (lv' := [(5, .int x5_21), (10, .int x10_17), (9, .int r_16), (8, .int r_10), (7, .int r_7), (6, .int r_4), (0, .ref (G.2.2.1 6)), (1, .int x1), (2, .int x2), (3, .long x3)]) hx hb dX1_turnSets_170 hl (k := 9) rfl (by rw [ex5_21]; rfl) (by decide) rfl (fun ls hl => ?_)
            refine lv_goto (tgt := 3) hx hb dX1_turnSets_173 (by decide) ?_
            exact ih3 x1 x2 x3 x5_21 M_14 H locs ls (lv_sub hl [6, 7, 8, 9, 0] rfl) hP hS hf
          · replace hf := zI_f c_20 hf
            refine lv_iconst (v := (0 : Int32)) hx hb dX1_turnSets_96 (by decide) ?_
            refine lv_iload hx hb dX1_turnSets_97 (lv_at hl 4 rfl) ?_
            refine lv_iload hx hb dX1_turnSets_99 (lv_at hl 1 rfl) ?_
            refine lv_isub hx hb dX1_turnSets_101 ?_
            refine zo_max C0 hl.1 mw_143 mw_28 mw_29 mw_30 (by rw [hRm]; exact Nat.le_of_ble_eq_true rfl) (by rw [hRm]; exact Nat.le_of_ble_eq_true rfl) ⟨Nat.zero_le _, Nat.zero_le _⟩ dX1_turnSets_102 ?_
            refine lv_bipush (v := (100 : Int32)) hx hb dX1_turnSets_105 (by decide) ?_
            refine lv_imul hx hb dX1_turnSets_107 ?_
            refine lv_iconst (v := (0 : Int32)) hx hb dX1_turnSets_108 (by decide) ?_
            refine lv_iload hx hb dX1_turnSets_109 (lv_at hl 3 rfl) ?_
            refine lv_iload hx hb dX1_turnSets_111 (lv_at hl 1 rfl) ?_
            refine lv_isub hx hb dX1_turnSets_113 ?_
            refine zo_max C0 hl.1 mw_143 mw_28 mw_29 mw_30 (by rw [hRm]; exact Nat.le_of_ble_eq_true rfl) (by rw [hRm]; exact Nat.le_of_ble_eq_true rfl) ⟨Nat.zero_le _, Nat.zero_le _⟩ dX1_turnSets_114 ?_
            refine lv_bipush (v := (10 : Int32)) hx hb dX1_turnSets_117 (by decide) ?_
            refine lv_imul hx hb dX1_turnSets_119 ?_
            refine lv_iadd hx hb dX1_turnSets_120 ?_
            refine lv_iconst (v := (0 : Int32)) hx hb dX1_turnSets_121 (by decide) ?_
            refine lv_iload hx hb dX1_turnSets_122 (lv_at hl 2 rfl) ?_
            refine lv_iload hx hb dX1_turnSets_124 (lv_at hl 1 rfl) ?_
            refine lv_isub hx hb dX1_turnSets_126 ?_
            refine zo_max C0 hl.1 mw_143 mw_28 mw_29 mw_30 (by rw [hRm]; exact Nat.le_of_ble_eq_true rfl) (by rw [hRm]; exact Nat.le_of_ble_eq_true rfl) ⟨Nat.zero_le _, Nat.zero_le _⟩ dX1_turnSets_127 ?_
            refine lv_iadd hx hb dX1_turnSets_130 ?_
            refine lv_topi (fun x11_22 ex11_22 => ?_)
            replace hf := zL_e ex11_22 hf
            refine lv_istore (lv' := [(11, .int x11_22), (10, .int x10_17), (9, .int r_16), (8, .int r_10), (7, .int r_7), (6, .int r_4), (0, .ref (G.2.2.1 6)), (1, .int x1), (2, .int x2), (3, .long x3), (5, .int x5)]) hx hb dX1_turnSets_131 hl (by decide) rfl (fun ls hl => ?_)
            refine lv_iload hx hb dX1_turnSets_133 (lv_at hl 1 rfl) ?_
            refine lv_bipush (v := (10 : Int32)) hx hb dX1_turnSets_135 (by decide) ?_
            refine zo_irem hx hb dX1_turnSets_137 (by decide) ?_
            refine lv_sipush (v := (1000 : Int32)) hx hb dX1_turnSets_138 (by decide) ?_
            refine lv_imul hx hb dX1_turnSets_141 ?_
            refine lv_iload hx hb dX1_turnSets_142 (lv_at hl 0 rfl) ?_
            refine lv_iadd hx hb dX1_turnSets_144 ?_
            refine lv_topi (fun x12_23 ex12_23 => ?_)
            replace hf := zL_e ex12_23 hf
            refine lv_istore (lv' := [(12, .int x12_23), (11, .int x11_22), (10, .int x10_17), (9, .int r_16), (8, .int r_10), (7, .int r_7), (6, .int r_4), (0, .ref (G.2.2.1 6)), (1, .int x1), (2, .int x2), (3, .long x3), (5, .int x5)]) hx hb dX1_turnSets_145 hl (by decide) rfl (fun ls hl => ?_)
            refine lv_aload_n hx hb dX1_turnSets_147 rfl (lv_at hl 7 rfl) ?_
            refine zr_getq (C := RX1) (T := TX1) (n := 7) C0 hP 6 (by decide) shX_6 0 7 rfl (by decide) uw_X1 mw_144 rfl dX1_turnSets_148 ?_
            refine lv_iload hx hb dX1_turnSets_151 (lv_at hl 0 rfl) ?_
            refine lv_aload_n hx hb dX1_turnSets_153 rfl (lv_at hl 7 rfl) ?_
            refine zr_getq (C := RX1) (T := TX1) (n := 7) C0 hP 6 (by decide) shX_6 0 7 rfl (by decide) uw_X1 mw_144 rfl dX1_turnSets_154 ?_
            refine lv_iload hx hb dX1_turnSets_157 (lv_at hl 0 rfl) ?_
            obtain ⟨hg_24, hf⟩ := zG_o hf
            refine zr_lald C0 hP 7 (by decide) shX_7 hg_24 dX1_turnSets_159 ?_
            refine lv_lload_n hx hb dX1_turnSets_160 rfl (lv_at hl 10 rfl) ?_
            refine lv_iload hx hb dX1_turnSets_161 (lv_at hl 11 rfl) ?_
            obtain ⟨r_27, M_25, hc_26, hf⟩ := zB_o hf
            refine zc_sl (As := [.long x3, .int x5]) (rest := [.long (M_14.2 7 x12_23.toNatClampNeg), .int x12_23, .ref (G.2.2.1 7)]) C0 hP hS hl.1 (mtX1_withSet l G hJ x3 x5 M_14 _ hc_26) ls_X1_83 ds_X1_withSet (by rw [hRm]; exact ⟨Nat.le_of_ble_eq_true rfl, Nat.le_of_ble_eq_true rfl⟩) rfl rfl (Nat.le_of_ble_eq_true rfl) dX1_turnSets_163 ⟨Nat.zero_le _, Nat.zero_le _⟩ (fun H locs hP hS => ?_)
            refine zo_minl C0 hl.1 mw_148 mw_149 mw_29 mw_150 (by rw [hRm]; exact Nat.le_of_ble_eq_true rfl) (by rw [hRm]; exact Nat.le_of_ble_eq_true rfl) ⟨Nat.zero_le _, Nat.zero_le _⟩ dX1_turnSets_166 ?_
            obtain ⟨hg_28, hf⟩ := zG_o hf
            refine zr_last C0 hJ hP hS 7 (by decide) shX_7 hg_28 dX1_turnSets_169 (fun H locs hP hS => ?_)
            obtain ⟨M_29, eM_29, hf⟩ := zL_o hf
            have hP : va_P G.1 zcl (zw G shX 64 M_29) H := by rw [eM_29]; exact hP
            obtain ⟨x5_30, ex5_30, hf⟩ := zL_o hf
            refine lv_iinc (v := x5_30) (lv' := [(5, .int x5_30), (12, .int x12_23), (11, .int x11_22), (10, .int x10_17), (9, .int r_16), (8, .int r_10), (7, .int r_7), (6, .int r_4), (0, .ref (G.2.2.1 6)), (1, .int x1), (2, .int x2), (3, .long x3)]) hx hb dX1_turnSets_170 hl (k := 11) rfl (by rw [ex5_30]; rfl) (by decide) rfl (fun ls hl => ?_)
            refine lv_goto (tgt := 3) hx hb dX1_turnSets_173 (by decide) ?_
            exact ih3 x1 x2 x3 x5_30 M_29 H locs ls (lv_sub hl [8, 9, 10, 11, 0] rfl) hP hS hf
  unfold fX1_turnSets at hf
  obtain ⟨H, eH⟩ : ∃ H, H = s.heap := ⟨_, rfl⟩
  obtain ⟨locs, el⟩ : ∃ locs : List Loc, locs = [] := ⟨_, rfl⟩
  rw [← eH] at hP ⊢
  have hS : va_S (zA G 64 s.heap.size) s.heap H locs := by rw [eH, el]; exact hS
  rw [← el]
  refine lv_iconst (v := (0 : Int32)) hx hb dX1_turnSets_0 (by decide) ?_
  refine lv_istore (lv' := [(5, .int (0 : Int32)), (0, .ref (G.2.2.1 6)), (1, .int x1), (2, .int x2), (3, .long x3)]) hx hb dX1_turnSets_1 hl (by decide) rfl (fun ls hl => ?_)
  exact L3 zF x1 x2 x3 (0 : Int32) M H locs ls (lv_sub hl [1, 2, 3, 4, 0] rfl) hP hS hf
def fX1_passMinute_B16 (r16 : Int32 → Int32 → Int64 → Int32 → zM → Option (Int64 × zM)) (x1 : Int32) (x2 : Int32) (x3 : Int64) (x5 : Int32) (M : zM) : Option (Int64 × zM) :=
  if (1000 : Int32) ≤ x5 then
    some (x3, M)
  else
    zG (zin (x2 + x5) 10000) <|
    zL (M.2 7 (x2 + x5).toNatClampNeg) fun x6_4 =>
    if (zcmp x6_4 (9223372036854775807 : Int64)) = (0 : Int32) then
      zL (x5 + (1 : Int32)) fun x5_6 =>
      r16 x1 x2 x3 x5_6 M
    else
      zG (zin (x2 + x5) 10000) <|
      zL (zul M 7 (x2 + x5).toNatClampNeg (9223372036854775807 : Int64)) fun M_8 =>
      zL (zminl x3 x6_4) fun x3_9 =>
      zV (fX1_turnSets x1 x5 x6_4 M_8) fun M_10 =>
      zL (x5 + (1 : Int32)) fun x5_12 =>
      r16 x1 x2 x3_9 x5_12 M_10
def fX1_passMinute_L16 : Nat → Int32 → Int32 → Int64 → Int32 → zM → Option (Int64 × zM)
  | 0 => fun _ _ _ _ _ => none
  | j9 + 1 => fX1_passMinute_B16 (fX1_passMinute_L16 j9)
def fX1_passMinute (x1 : Int32) (M : zM) : Option (Int64 × zM) :=
  zL ((zrm x1 (10 : Int32)) * (1000 : Int32)) fun x2_1 =>
  fX1_passMinute_L16 zF x1 x2_1 (9223372036854775807 : Int64) (0 : Int32) M
set_option maxHeartbeats 4000000 in
set_option maxRecDepth 100000 in
theorem mtX1_passMinute (l : Launch) (G : zGr) (hJ : zJ G 64) (x1 : Int32) (M : zM) (o : Int64 × zM) (hf : fX1_passMinute x1 M = some o) : zMl l G shX 64 yX1_passMinute cX1_passMinute 8 (some .long) 3 77 [.ref (G.2.2.1 6), .int x1] M o := by
  intro sz
  refine zOf (by decide) (Nat.le_of_ble_eq_true rfl) ?_
  intro p e R Q s m args below meth c hRm hsz hQ C0 hP hS ls hl
  subst hsz
  replace hRm : R = { frames := 3, cells := 0, slots := 0, locals := 77 } := hRm
  have hl : lv_has ls 8 [(0, .ref (G.2.2.1 6)), (1, .int x1)] := hl
  have hx := C0.1
  have hb := C0.2.1
  have hown := C0.2.2.2.1
  have hts := C0.2.2.2.2.1
  have L16 : ∀ (n16 : Nat), ∀ (x1 : Int32) (x2 : Int32) (x3 : Int64) (x5 : Int32) (M : zM) (H : Heap) (locs : List Loc) (ls : Array Slot), lv_has ls 8 [(0, .ref (G.2.2.1 6)), (1, .int x1), (2, .int x2), (3, .long x3), (5, .int x5)] → va_P G.1 zcl (zw G shX 64 M) H → va_S (zA G 64 s.heap.size) s.heap H locs → fX1_passMinute_L16 n16 x1 x2 x3 x5 M = some o → W p l e R s m args below meth c H locs 0 0 Q (F0 m 16 ls []) := by
    intro n16
    induction n16 with
    | zero => intro x1 x2 x3 x5 M H locs ls hl hP hS hf; exact zn_s (show none = some o from hf)
    | succ n16 ih16 =>
      intro x1 x2 x3 x5 M H locs ls hl hP hS hf
      replace hf : fX1_passMinute_B16 (fX1_passMinute_L16 n16) x1 x2 x3 x5 M = some o := hf
      unfold fX1_passMinute_B16 at hf
      refine lv_iload hx hb dX1_passMinute_16 (lv_at hl 4 rfl) ?_
      refine lv_sipush (v := (1000 : Int32)) hx hb dX1_passMinute_18 (by decide) ?_
      refine lv_icmp_ge (tgt := 78) hx hb dX1_passMinute_21 (by decide) (fun c_2 => ?_) (fun c_2 => ?_)
      · replace hf := zI_t c_2 hf
        refine lv_lload_n hx hb dX1_passMinute_78 rfl (lv_at hl 3 rfl) ?_
        exact ze_l C0 hP hS hf dX1_passMinute_79 hQ
      · replace hf := zI_f c_2 hf
        refine lv_aload_n hx hb dX1_passMinute_24 rfl (lv_at hl 0 rfl) ?_
        refine zr_getq (C := RX1) (T := TX1) (n := 7) C0 hP 6 (by decide) shX_6 0 7 rfl (by decide) uw_X1 mw_144 rfl dX1_passMinute_25 ?_
        refine lv_iload_n hx hb dX1_passMinute_28 rfl (lv_at hl 2 rfl) ?_
        refine lv_iload hx hb dX1_passMinute_29 (lv_at hl 4 rfl) ?_
        refine lv_iadd hx hb dX1_passMinute_31 ?_
        obtain ⟨hg_3, hf⟩ := zG_o hf
        refine zr_lald C0 hP 7 (by decide) shX_7 hg_3 dX1_passMinute_32 ?_
        refine lv_topl (fun x6_4 ex6_4 => ?_)
        replace hf := zL_e ex6_4 hf
        refine lv_lstore (lv' := [(6, .long x6_4), (0, .ref (G.2.2.1 6)), (1, .int x1), (2, .int x2), (3, .long x3), (5, .int x5)]) hx hb dX1_passMinute_33 hl (by decide) rfl (fun ls hl => ?_)
        refine lv_lload hx hb dX1_passMinute_35 (lv_at hl 0 rfl) ?_
        refine lv_ldc2 (v := (9223372036854775807 : Int64)) hx hb hown (hts _ mw_151) dX1_passMinute_37 ?_
        refine zo_lcmp hx hb dX1_passMinute_40 ?_
        refine lv_if_eq (tgt := 72) hx hb dX1_passMinute_41 (by decide) (fun c_5 => ?_) (fun c_5 => ?_)
        · replace hf := zI_t c_5 hf
          obtain ⟨x5_6, ex5_6, hf⟩ := zL_o hf
          refine lv_iinc (v := x5_6) (lv' := [(5, .int x5_6), (6, .long x6_4), (0, .ref (G.2.2.1 6)), (1, .int x1), (2, .int x2), (3, .long x3)]) hx hb dX1_passMinute_72 hl (k := 5) rfl (by rw [ex5_6]; rfl) (by decide) rfl (fun ls hl => ?_)
          refine lv_goto (tgt := 16) hx hb dX1_passMinute_75 (by decide) ?_
          exact ih16 x1 x2 x3 x5_6 M H locs ls (lv_sub hl [2, 3, 4, 5, 0] rfl) hP hS hf
        · replace hf := zI_f c_5 hf
          refine lv_aload_n hx hb dX1_passMinute_44 rfl (lv_at hl 1 rfl) ?_
          refine zr_getq (C := RX1) (T := TX1) (n := 7) C0 hP 6 (by decide) shX_6 0 7 rfl (by decide) uw_X1 mw_144 rfl dX1_passMinute_45 ?_
          refine lv_iload_n hx hb dX1_passMinute_48 rfl (lv_at hl 3 rfl) ?_
          refine lv_iload hx hb dX1_passMinute_49 (lv_at hl 5 rfl) ?_
          refine lv_iadd hx hb dX1_passMinute_51 ?_
          refine lv_ldc2 (v := (9223372036854775807 : Int64)) hx hb hown (hts _ mw_151) dX1_passMinute_52 ?_
          obtain ⟨hg_7, hf⟩ := zG_o hf
          refine zr_last C0 hJ hP hS 7 (by decide) shX_7 hg_7 dX1_passMinute_55 (fun H locs hP hS => ?_)
          obtain ⟨M_8, eM_8, hf⟩ := zL_o hf
          have hP : va_P G.1 zcl (zw G shX 64 M_8) H := by rw [eM_8]; exact hP
          refine lv_lload_n hx hb dX1_passMinute_56 rfl (lv_at hl 4 rfl) ?_
          refine lv_lload hx hb dX1_passMinute_57 (lv_at hl 0 rfl) ?_
          refine zo_minl C0 hl.1 mw_148 mw_149 mw_29 mw_150 (by rw [hRm]; exact Nat.le_of_ble_eq_true rfl) (by rw [hRm]; exact Nat.le_of_ble_eq_true rfl) ⟨Nat.zero_le _, Nat.zero_le _⟩ dX1_passMinute_59 ?_
          refine lv_topl (fun x3_9 ex3_9 => ?_)
          replace hf := zL_e ex3_9 hf
          refine lv_lstore_n (lv' := [(3, .long x3_9), (6, .long x6_4), (0, .ref (G.2.2.1 6)), (1, .int x1), (2, .int x2), (5, .int x5)]) hx hb dX1_passMinute_62 rfl hl (by decide) rfl (fun ls hl => ?_)
          refine lv_aload_n hx hb dX1_passMinute_63 rfl (lv_at hl 2 rfl) ?_
          refine lv_iload_n hx hb dX1_passMinute_64 rfl (lv_at hl 3 rfl) ?_
          refine lv_iload hx hb dX1_passMinute_65 (lv_at hl 5 rfl) ?_
          refine lv_lload hx hb dX1_passMinute_67 (lv_at hl 1 rfl) ?_
          obtain ⟨M_10, hc_11, hf⟩ := zV_o hf
          refine zc_vv (As := [.int x1, .int x5, .long x6_4]) (rest := []) C0 hP hS hl.1 6 (mtX1_turnSets l G hJ x1 x5 x6_4 M_8 _ hc_11) lk_X1_68 (by decide) shX_6 (T := TX1) (n' := 7) rfl ds_X1_turnSets (by rw [hRm]; exact ⟨Nat.le_of_ble_eq_true rfl, Nat.le_of_ble_eq_true rfl⟩) rfl rfl (Nat.le_of_ble_eq_true rfl) dX1_passMinute_69 ⟨Nat.zero_le _, Nat.zero_le _⟩ (fun H locs hP hS => ?_)
          obtain ⟨x5_12, ex5_12, hf⟩ := zL_o hf
          refine lv_iinc (v := x5_12) (lv' := [(5, .int x5_12), (3, .long x3_9), (6, .long x6_4), (0, .ref (G.2.2.1 6)), (1, .int x1), (2, .int x2)]) hx hb dX1_passMinute_72 hl (k := 5) rfl (by rw [ex5_12]; rfl) (by decide) rfl (fun ls hl => ?_)
          refine lv_goto (tgt := 16) hx hb dX1_passMinute_75 (by decide) ?_
          exact ih16 x1 x2 x3_9 x5_12 M_10 H locs ls (lv_sub hl [3, 4, 5, 1, 0] rfl) hP hS hf
  unfold fX1_passMinute at hf
  obtain ⟨H, eH⟩ : ∃ H, H = s.heap := ⟨_, rfl⟩
  obtain ⟨locs, el⟩ : ∃ locs : List Loc, locs = [] := ⟨_, rfl⟩
  rw [← eH] at hP ⊢
  have hS : va_S (zA G 64 s.heap.size) s.heap H locs := by rw [eH, el]; exact hS
  rw [← el]
  refine lv_iload_n hx hb dX1_passMinute_0 rfl (lv_at hl 1 rfl) ?_
  refine lv_bipush (v := (10 : Int32)) hx hb dX1_passMinute_1 (by decide) ?_
  refine zo_irem hx hb dX1_passMinute_3 (by decide) ?_
  refine lv_sipush (v := (1000 : Int32)) hx hb dX1_passMinute_4 (by decide) ?_
  refine lv_imul hx hb dX1_passMinute_7 ?_
  refine lv_topi (fun x2_1 ex2_1 => ?_)
  replace hf := zL_e ex2_1 hf
  refine lv_istore_n (lv' := [(2, .int x2_1), (0, .ref (G.2.2.1 6)), (1, .int x1)]) hx hb dX1_passMinute_8 rfl hl (by decide) rfl (fun ls hl => ?_)
  refine lv_ldc2 (v := (9223372036854775807 : Int64)) hx hb hown (hts _ mw_151) dX1_passMinute_9 ?_
  refine lv_lstore_n (lv' := [(3, .long (9223372036854775807 : Int64)), (2, .int x2_1), (0, .ref (G.2.2.1 6)), (1, .int x1)]) hx hb dX1_passMinute_12 rfl hl (by decide) rfl (fun ls hl => ?_)
  refine lv_iconst (v := (0 : Int32)) hx hb dX1_passMinute_13 (by decide) ?_
  refine lv_istore (lv' := [(5, .int (0 : Int32)), (3, .long (9223372036854775807 : Int64)), (2, .int x2_1), (0, .ref (G.2.2.1 6)), (1, .int x1)]) hx hb dX1_passMinute_14 hl (by decide) rfl (fun ls hl => ?_)
  exact L16 zF x1 x2_1 (9223372036854775807 : Int64) (0 : Int32) M H locs ls (lv_sub hl [3, 4, 2, 1, 0] rfl) hP hS hf
def fX1_lay_B64 (r64 : Int32 → zM → Option (zM)) (x5 : Int32) (M : zM) : Option (zM) :=
  if (30 : Int32) < x5 then
    some M
  else
    zB (fX1_passMinute x5 M) fun r_13 M_11 =>
    zG (zin x5 31) <|
    zL (zul M_11 8 x5.toNatClampNeg r_13) fun M_15 =>
    zL (x5 + (1 : Int32)) fun x5_16 =>
    r64 x5_16 M_15
def fX1_lay_L64 : Nat → Int32 → zM → Option (zM)
  | 0 => fun _ _ => none
  | j9 + 1 => fX1_lay_B64 (fX1_lay_L64 j9)
def fX1_lay (x1 : Int32) (x2 : Int32) (x3 : Int32) (M : zM) : Option (zM) :=
  zL (((x1 * (100 : Int32)) + (x2 * (10 : Int32))) + x3) fun x4_1 =>
  if x4_1 = (M.1 6 6) then
    some M
  else
    zL (zu M 6 6 x4_1) fun M_3 =>
    zL (zu M_3 6 3 x1) fun M_4 =>
    zL (zu M_4 6 4 x2) fun M_5 =>
    zL (zu M_5 6 5 x3) fun M_6 =>
    zV (fJ7_fill_d0a16 7 10000 (9223372036854775807 : Int64) M_6) fun M_7 =>
    zL (zul M_7 7 (0 : Int32).toNatClampNeg (0 : Int64)) fun M_9 =>
    fX1_lay_L64 zF (0 : Int32) M_9
set_option maxHeartbeats 4000000 in
set_option maxRecDepth 100000 in
theorem mtX1_lay (l : Launch) (G : zGr) (hJ : zJ G 64) (x1 : Int32) (x2 : Int32) (x3 : Int32) (M : zM) (o : zM) (hf : fX1_lay x1 x2 x3 M = some o) : zMv l G shX 64 yX1_lay cX1_lay 6 none 4 104 [.ref (G.2.2.1 6), .int x1, .int x2, .int x3] M o := by
  intro sz
  refine zOf (by decide) (Nat.le_of_ble_eq_true rfl) ?_
  intro p e R Q s m args below meth c hRm hsz hQ C0 hP hS ls hl
  subst hsz
  replace hRm : R = { frames := 4, cells := 0, slots := 0, locals := 104 } := hRm
  have hl : lv_has ls 6 [(0, .ref (G.2.2.1 6)), (1, .int x1), (2, .int x2), (3, .int x3)] := hl
  have hx := C0.1
  have hb := C0.2.1
  have hown := C0.2.2.2.1
  have hts := C0.2.2.2.2.1
  have L64 : ∀ (n64 : Nat), ∀ (x5 : Int32) (M : zM) (H : Heap) (locs : List Loc) (ls : Array Slot), lv_has ls 6 [(0, .ref (G.2.2.1 6)), (5, .int x5)] → va_P G.1 zcl (zw G shX 64 M) H → va_S (zA G 64 s.heap.size) s.heap H locs → fX1_lay_L64 n64 x5 M = some o → W p l e R s m args below meth c H locs 0 0 Q (F0 m 64 ls []) := by
    intro n64
    induction n64 with
    | zero => intro x5 M H locs ls hl hP hS hf; exact zn_s (show none = some o from hf)
    | succ n64 ih64 =>
      intro x5 M H locs ls hl hP hS hf
      replace hf : fX1_lay_B64 (fX1_lay_L64 n64) x5 M = some o := hf
      unfold fX1_lay_B64 at hf
      refine lv_iload hx hb dX1_lay_64 (lv_at hl 1 rfl) ?_
      refine lv_bipush (v := (30 : Int32)) hx hb dX1_lay_66 (by decide) ?_
      refine lv_icmp_gt (tgt := 90) hx hb dX1_lay_68 (by decide) (fun c_10 => ?_) (fun c_10 => ?_)
      · replace hf := zI_t c_10 hf
        exact ze_v C0 hP hS hf dX1_lay_90 hQ
      · replace hf := zI_f c_10 hf
        refine lv_aload_n hx hb dX1_lay_71 rfl (lv_at hl 0 rfl) ?_
        refine zr_getq (C := RX1) (T := TX1) (n := 7) C0 hP 6 (by decide) shX_6 1 8 rfl (by decide) uw_X1 mw_160 rfl dX1_lay_72 ?_
        refine lv_iload hx hb dX1_lay_75 (lv_at hl 1 rfl) ?_
        refine lv_aload_n hx hb dX1_lay_77 rfl (lv_at hl 0 rfl) ?_
        refine lv_iload hx hb dX1_lay_78 (lv_at hl 1 rfl) ?_
        obtain ⟨r_13, M_11, hc_12, hf⟩ := zB_o hf
        refine zc_vl (As := [.int x5]) (rest := [.int x5, .ref (G.2.2.1 8)]) C0 hP hS hl.1 6 (mtX1_passMinute l G hJ x5 M _ hc_12) lk_X1_51 (by decide) shX_6 (T := TX1) (n' := 7) rfl ds_X1_passMinute (by rw [hRm]; exact ⟨Nat.le_of_ble_eq_true rfl, Nat.le_of_ble_eq_true rfl⟩) rfl rfl (Nat.le_of_ble_eq_true rfl) dX1_lay_80 ⟨Nat.zero_le _, Nat.zero_le _⟩ (fun H locs hP hS => ?_)
        obtain ⟨hg_14, hf⟩ := zG_o hf
        refine zr_last C0 hJ hP hS 8 (by decide) shX_8 hg_14 dX1_lay_83 (fun H locs hP hS => ?_)
        obtain ⟨M_15, eM_15, hf⟩ := zL_o hf
        have hP : va_P G.1 zcl (zw G shX 64 M_15) H := by rw [eM_15]; exact hP
        obtain ⟨x5_16, ex5_16, hf⟩ := zL_o hf
        refine lv_iinc (v := x5_16) (lv' := [(5, .int x5_16), (0, .ref (G.2.2.1 6))]) hx hb dX1_lay_84 hl (k := 1) rfl (by rw [ex5_16]; rfl) (by decide) rfl (fun ls hl => ?_)
        refine lv_goto (tgt := 64) hx hb dX1_lay_87 (by decide) ?_
        exact ih64 x5_16 M_15 H locs ls (lv_sub hl [1, 0] rfl) hP hS hf
  unfold fX1_lay at hf
  obtain ⟨H, eH⟩ : ∃ H, H = s.heap := ⟨_, rfl⟩
  obtain ⟨locs, el⟩ : ∃ locs : List Loc, locs = [] := ⟨_, rfl⟩
  rw [← eH] at hP ⊢
  have hS : va_S (zA G 64 s.heap.size) s.heap H locs := by rw [eH, el]; exact hS
  rw [← el]
  refine lv_iload_n hx hb dX1_lay_0 rfl (lv_at hl 1 rfl) ?_
  refine lv_bipush (v := (100 : Int32)) hx hb dX1_lay_1 (by decide) ?_
  refine lv_imul hx hb dX1_lay_3 ?_
  refine lv_iload_n hx hb dX1_lay_4 rfl (lv_at hl 2 rfl) ?_
  refine lv_bipush (v := (10 : Int32)) hx hb dX1_lay_5 (by decide) ?_
  refine lv_imul hx hb dX1_lay_7 ?_
  refine lv_iadd hx hb dX1_lay_8 ?_
  refine lv_iload_n hx hb dX1_lay_9 rfl (lv_at hl 3 rfl) ?_
  refine lv_iadd hx hb dX1_lay_10 ?_
  refine lv_topi (fun x4_1 ex4_1 => ?_)
  replace hf := zL_e ex4_1 hf
  refine lv_istore (lv' := [(4, .int x4_1), (0, .ref (G.2.2.1 6)), (1, .int x1), (2, .int x2), (3, .int x3)]) hx hb dX1_lay_11 hl (by decide) rfl (fun ls hl => ?_)
  refine lv_iload hx hb dX1_lay_13 (lv_at hl 0 rfl) ?_
  refine lv_aload_n hx hb dX1_lay_15 rfl (lv_at hl 1 rfl) ?_
  refine zr_get (C := RX1) (T := TX1) (n := 7) C0 hP 6 (by decide) shX_6 6 rfl (by decide) uw_X1 mw_156 rfl dX1_lay_16 ?_
  refine lv_icmp_ne (tgt := 23) hx hb dX1_lay_19 (by decide) (fun c_2 => ?_) (fun c_2 => ?_)
  · replace hf := zI_f c_2 hf
    refine lv_aload_n hx hb dX1_lay_23 rfl (lv_at hl 1 rfl) ?_
    refine lv_iload hx hb dX1_lay_24 (lv_at hl 0 rfl) ?_
    refine zr_put (C := RX1) (T := TX1) (n := 7) C0 hJ hP hS 6 (by decide) shX_6 6 rfl (by decide) uw_X1 tyX1 tyX1_ok nmX1 mw_156 rfl rfl ⟨rfl, rfl⟩ dX1_lay_26 (fun H locs hP hS => ?_)
    obtain ⟨M_3, eM_3, hf⟩ := zL_o hf
    have hP : va_P G.1 zcl (zw G shX 64 M_3) H := by rw [eM_3]; exact hP
    refine lv_aload_n hx hb dX1_lay_29 rfl (lv_at hl 1 rfl) ?_
    refine lv_iload_n hx hb dX1_lay_30 rfl (lv_at hl 2 rfl) ?_
    refine zr_put (C := RX1) (T := TX1) (n := 7) C0 hJ hP hS 6 (by decide) shX_6 3 rfl (by decide) uw_X1 tyX1 tyX1_ok nmX1 mw_133 rfl rfl ⟨rfl, rfl⟩ dX1_lay_31 (fun H locs hP hS => ?_)
    obtain ⟨M_4, eM_4, hf⟩ := zL_o hf
    have hP : va_P G.1 zcl (zw G shX 64 M_4) H := by rw [eM_4]; exact hP
    refine lv_aload_n hx hb dX1_lay_34 rfl (lv_at hl 1 rfl) ?_
    refine lv_iload_n hx hb dX1_lay_35 rfl (lv_at hl 3 rfl) ?_
    refine zr_put (C := RX1) (T := TX1) (n := 7) C0 hJ hP hS 6 (by decide) shX_6 4 rfl (by decide) uw_X1 tyX1 tyX1_ok nmX1 mw_138 rfl rfl ⟨rfl, rfl⟩ dX1_lay_36 (fun H locs hP hS => ?_)
    obtain ⟨M_5, eM_5, hf⟩ := zL_o hf
    have hP : va_P G.1 zcl (zw G shX 64 M_5) H := by rw [eM_5]; exact hP
    refine lv_aload_n hx hb dX1_lay_39 rfl (lv_at hl 1 rfl) ?_
    refine lv_iload_n hx hb dX1_lay_40 rfl (lv_at hl 4 rfl) ?_
    refine zr_put (C := RX1) (T := TX1) (n := 7) C0 hJ hP hS 6 (by decide) shX_6 5 rfl (by decide) uw_X1 tyX1 tyX1_ok nmX1 mw_139 rfl rfl ⟨rfl, rfl⟩ dX1_lay_41 (fun H locs hP hS => ?_)
    obtain ⟨M_6, eM_6, hf⟩ := zL_o hf
    have hP : va_P G.1 zcl (zw G shX 64 M_6) H := by rw [eM_6]; exact hP
    refine lv_aload_n hx hb dX1_lay_44 rfl (lv_at hl 1 rfl) ?_
    refine zr_getq (C := RX1) (T := TX1) (n := 7) C0 hP 6 (by decide) shX_6 0 7 rfl (by decide) uw_X1 mw_144 rfl dX1_lay_45 ?_
    refine lv_ldc2 (v := (9223372036854775807 : Int64)) hx hb hown (hts _ mw_151) dX1_lay_48 ?_
    obtain ⟨M_7, hc_8, hf⟩ := zV_o hf
    refine zc_sv (As := [.ref (G.2.2.1 7), .long (9223372036854775807 : Int64)]) (rest := []) C0 hP hS hl.1 (mtJ7_fill_d0a16 l G hJ 7 10000 (by decide) shX_7 (9223372036854775807 : Int64) M_6 _ hc_8) ls_X1_45 ds_J7_fill_d0a16 (by rw [hRm]; exact ⟨Nat.le_of_ble_eq_true rfl, Nat.le_of_ble_eq_true rfl⟩) rfl rfl (Nat.le_of_ble_eq_true rfl) dX1_lay_51 ⟨Nat.zero_le _, Nat.zero_le _⟩ (fun H locs hP hS => ?_)
    refine lv_aload_n hx hb dX1_lay_54 rfl (lv_at hl 1 rfl) ?_
    refine zr_getq (C := RX1) (T := TX1) (n := 7) C0 hP 6 (by decide) shX_6 0 7 rfl (by decide) uw_X1 mw_144 rfl dX1_lay_55 ?_
    refine lv_iconst (v := (0 : Int32)) hx hb dX1_lay_58 (by decide) ?_
    refine lv_lconst (v := (0 : Int64)) hx hb dX1_lay_59 (by decide) ?_
    refine zr_last C0 hJ hP hS 7 (by decide) shX_7 (by decide) dX1_lay_60 (fun H locs hP hS => ?_)
    obtain ⟨M_9, eM_9, hf⟩ := zL_o hf
    have hP : va_P G.1 zcl (zw G shX 64 M_9) H := by rw [eM_9]; exact hP
    refine lv_iconst (v := (0 : Int32)) hx hb dX1_lay_61 (by decide) ?_
    refine lv_istore (lv' := [(5, .int (0 : Int32)), (4, .int x4_1), (0, .ref (G.2.2.1 6)), (1, .int x1), (2, .int x2), (3, .int x3)]) hx hb dX1_lay_62 hl (by decide) rfl (fun ls hl => ?_)
    exact L64 zF (0 : Int32) M_9 H locs ls (lv_sub hl [2, 0] rfl) hP hS hf
  · replace hf := zI_t c_2 hf
    exact ze_v C0 hP hS hf dX1_lay_22 hQ
def fX1_timesLaid_B4 (r4 : Int32 → Int32 → zM → Option (Int32 × zM)) (x1 : Int32) (x2 : Int32) (M : zM) : Option (Int32 × zM) :=
  if (30 : Int32) < x2 then
    some (x1, M)
  else
    zG (zin x2 31) <|
    if (zcmp (M.2 8 x2.toNatClampNeg) (9223372036854775807 : Int64)) = (0 : Int32) then
      zL (x2 + (1 : Int32)) fun x2_4 =>
      r4 x1 x2_4 M
    else
      zL (x1 ||| (zshl (1 : Int32) x2)) fun x1_5 =>
      zL (x2 + (1 : Int32)) fun x2_6 =>
      r4 x1_5 x2_6 M
def fX1_timesLaid_L4 : Nat → Int32 → Int32 → zM → Option (Int32 × zM)
  | 0 => fun _ _ _ => none
  | j9 + 1 => fX1_timesLaid_B4 (fX1_timesLaid_L4 j9)
def fX1_timesLaid (M : zM) : Option (Int32 × zM) :=
  fX1_timesLaid_L4 zF (0 : Int32) (1 : Int32) M
set_option maxHeartbeats 4000000 in
set_option maxRecDepth 100000 in
theorem mtX1_timesLaid (l : Launch) (G : zGr) (hJ : zJ G 64) (M : zM) (o : Int32 × zM) (hf : fX1_timesLaid M = some o) : zMi l G shX 64 yX1_timesLaid cX1_timesLaid 3 (some .int) 0 0 [.ref (G.2.2.1 6)] M o := by
  intro sz
  refine zOf (by decide) (Nat.le_of_ble_eq_true rfl) ?_
  intro p e R Q s m args below meth c hRm hsz hQ C0 hP hS ls hl
  subst hsz
  replace hRm : R = { frames := 0, cells := 0, slots := 0, locals := 0 } := hRm
  have hl : lv_has ls 3 [(0, .ref (G.2.2.1 6))] := hl
  have hx := C0.1
  have hb := C0.2.1
  have hown := C0.2.2.2.1
  have hts := C0.2.2.2.2.1
  have L4 : ∀ (n4 : Nat), ∀ (x1 : Int32) (x2 : Int32) (M : zM) (H : Heap) (locs : List Loc) (ls : Array Slot), lv_has ls 3 [(0, .ref (G.2.2.1 6)), (1, .int x1), (2, .int x2)] → va_P G.1 zcl (zw G shX 64 M) H → va_S (zA G 64 s.heap.size) s.heap H locs → fX1_timesLaid_L4 n4 x1 x2 M = some o → W p l e R s m args below meth c H locs 0 0 Q (F0 m 4 ls []) := by
    intro n4
    induction n4 with
    | zero => intro x1 x2 M H locs ls hl hP hS hf; exact zn_s (show none = some o from hf)
    | succ n4 ih4 =>
      intro x1 x2 M H locs ls hl hP hS hf
      replace hf : fX1_timesLaid_B4 (fX1_timesLaid_L4 n4) x1 x2 M = some o := hf
      unfold fX1_timesLaid_B4 at hf
      refine lv_iload_n hx hb dX1_timesLaid_4 rfl (lv_at hl 2 rfl) ?_
      refine lv_bipush (v := (30 : Int32)) hx hb dX1_timesLaid_5 (by decide) ?_
      refine lv_icmp_gt (tgt := 35) hx hb dX1_timesLaid_7 (by decide) (fun c_1 => ?_) (fun c_1 => ?_)
      · replace hf := zI_t c_1 hf
        refine lv_iload_n hx hb dX1_timesLaid_35 rfl (lv_at hl 1 rfl) ?_
        exact ze_i C0 hP hS hf dX1_timesLaid_36 hQ
      · replace hf := zI_f c_1 hf
        refine lv_aload_n hx hb dX1_timesLaid_10 rfl (lv_at hl 0 rfl) ?_
        refine zr_getq (C := RX1) (T := TX1) (n := 7) C0 hP 6 (by decide) shX_6 1 8 rfl (by decide) uw_X1 mw_160 rfl dX1_timesLaid_11 ?_
        refine lv_iload_n hx hb dX1_timesLaid_14 rfl (lv_at hl 2 rfl) ?_
        obtain ⟨hg_2, hf⟩ := zG_o hf
        refine zr_lald C0 hP 8 (by decide) shX_8 hg_2 dX1_timesLaid_15 ?_
        refine lv_ldc2 (v := (9223372036854775807 : Int64)) hx hb hown (hts _ mw_151) dX1_timesLaid_16 ?_
        refine zo_lcmp hx hb dX1_timesLaid_19 ?_
        refine lv_if_eq (tgt := 29) hx hb dX1_timesLaid_20 (by decide) (fun c_3 => ?_) (fun c_3 => ?_)
        · replace hf := zI_t c_3 hf
          obtain ⟨x2_4, ex2_4, hf⟩ := zL_o hf
          refine lv_iinc (v := x2_4) (lv' := [(2, .int x2_4), (0, .ref (G.2.2.1 6)), (1, .int x1)]) hx hb dX1_timesLaid_29 hl (k := 2) rfl (by rw [ex2_4]; rfl) (by decide) rfl (fun ls hl => ?_)
          refine lv_goto (tgt := 4) hx hb dX1_timesLaid_32 (by decide) ?_
          exact ih4 x1 x2_4 M H locs ls (lv_sub hl [1, 2, 0] rfl) hP hS hf
        · replace hf := zI_f c_3 hf
          refine lv_iload_n hx hb dX1_timesLaid_23 rfl (lv_at hl 1 rfl) ?_
          refine lv_iconst (v := (1 : Int32)) hx hb dX1_timesLaid_24 (by decide) ?_
          refine lv_iload_n hx hb dX1_timesLaid_25 rfl (lv_at hl 2 rfl) ?_
          refine zo_ishl hx hb dX1_timesLaid_26 ?_
          refine lv_ior hx hb dX1_timesLaid_27 ?_
          refine lv_topi (fun x1_5 ex1_5 => ?_)
          replace hf := zL_e ex1_5 hf
          refine lv_istore_n (lv' := [(1, .int x1_5), (0, .ref (G.2.2.1 6)), (2, .int x2)]) hx hb dX1_timesLaid_28 rfl hl (by decide) rfl (fun ls hl => ?_)
          obtain ⟨x2_6, ex2_6, hf⟩ := zL_o hf
          refine lv_iinc (v := x2_6) (lv' := [(2, .int x2_6), (1, .int x1_5), (0, .ref (G.2.2.1 6))]) hx hb dX1_timesLaid_29 hl (k := 2) rfl (by rw [ex2_6]; rfl) (by decide) rfl (fun ls hl => ?_)
          refine lv_goto (tgt := 4) hx hb dX1_timesLaid_32 (by decide) ?_
          exact ih4 x1_5 x2_6 M H locs ls (lv_sub hl [2, 1, 0] rfl) hP hS hf
  unfold fX1_timesLaid at hf
  obtain ⟨H, eH⟩ : ∃ H, H = s.heap := ⟨_, rfl⟩
  obtain ⟨locs, el⟩ : ∃ locs : List Loc, locs = [] := ⟨_, rfl⟩
  rw [← eH] at hP ⊢
  have hS : va_S (zA G 64 s.heap.size) s.heap H locs := by rw [eH, el]; exact hS
  rw [← el]
  refine lv_iconst (v := (0 : Int32)) hx hb dX1_timesLaid_0 (by decide) ?_
  refine lv_istore_n (lv' := [(1, .int (0 : Int32)), (0, .ref (G.2.2.1 6))]) hx hb dX1_timesLaid_1 rfl hl (by decide) rfl (fun ls hl => ?_)
  refine lv_iconst (v := (1 : Int32)) hx hb dX1_timesLaid_2 (by decide) ?_
  refine lv_istore_n (lv' := [(2, .int (1 : Int32)), (1, .int (0 : Int32)), (0, .ref (G.2.2.1 6))]) hx hb dX1_timesLaid_3 rfl hl (by decide) rfl (fun ls hl => ?_)
  exact L4 zF (0 : Int32) (1 : Int32) M H locs ls (lv_sub hl [2, 1, 0] rfl) hP hS hf
def fX1_timesOf (x1 : Int32) (x2 : Int32) (x3 : Int32) (M : zM) : Option (Int32 × zM) :=
  zL (((x1 * (100 : Int32)) + (x2 * (10 : Int32))) + x3) fun x4_1 =>
  if x4_1 < (0 : Int32) then
    some ((0 : Int32), M)
  else
    if x4_1 < (1000 : Int32) then
      zG (zin x4_1 1000) <|
      if (M.1 9 x4_1.toNatClampNeg) = (0 : Int32) then
        zV (fX1_lay x1 x2 x3 M) fun M_7 =>
        zB (fX1_timesLaid M_7) fun r_11 M_9 =>
        zG (zin x4_1 1000) <|
        zL (zu M_9 9 x4_1.toNatClampNeg ((1 : Int32) ||| r_11)) fun M_13 =>
        zG (zin x4_1 1000) <|
        some (((M_13.1 9 x4_1.toNatClampNeg) &&& (-2 : Int32)), M_13)
      else
        zG (zin x4_1 1000) <|
        some (((M.1 9 x4_1.toNatClampNeg) &&& (-2 : Int32)), M)
    else
      some ((0 : Int32), M)
set_option maxHeartbeats 4000000 in
set_option maxRecDepth 100000 in
theorem mtX1_timesOf (l : Launch) (G : zGr) (hJ : zJ G 64) (x1 : Int32) (x2 : Int32) (x3 : Int32) (M : zM) (o : Int32 × zM) (hf : fX1_timesOf x1 x2 x3 M = some o) : zMi l G shX 64 yX1_timesOf cX1_timesOf 5 (some .int) 5 129 [.ref (G.2.2.1 6), .int x1, .int x2, .int x3] M o := by
  intro sz
  refine zOf (by decide) (Nat.le_of_ble_eq_true rfl) ?_
  intro p e R Q s m args below meth c hRm hsz hQ C0 hP hS ls hl
  subst hsz
  replace hRm : R = { frames := 5, cells := 0, slots := 0, locals := 129 } := hRm
  have hl : lv_has ls 5 [(0, .ref (G.2.2.1 6)), (1, .int x1), (2, .int x2), (3, .int x3)] := hl
  have hx := C0.1
  have hb := C0.2.1
  have hown := C0.2.2.2.1
  have hts := C0.2.2.2.2.1
  unfold fX1_timesOf at hf
  obtain ⟨H, eH⟩ : ∃ H, H = s.heap := ⟨_, rfl⟩
  obtain ⟨locs, el⟩ : ∃ locs : List Loc, locs = [] := ⟨_, rfl⟩
  rw [← eH] at hP ⊢
  have hS : va_S (zA G 64 s.heap.size) s.heap H locs := by rw [eH, el]; exact hS
  rw [← el]
  refine lv_iload_n hx hb dX1_timesOf_0 rfl (lv_at hl 1 rfl) ?_
  refine lv_bipush (v := (100 : Int32)) hx hb dX1_timesOf_1 (by decide) ?_
  refine lv_imul hx hb dX1_timesOf_3 ?_
  refine lv_iload_n hx hb dX1_timesOf_4 rfl (lv_at hl 2 rfl) ?_
  refine lv_bipush (v := (10 : Int32)) hx hb dX1_timesOf_5 (by decide) ?_
  refine lv_imul hx hb dX1_timesOf_7 ?_
  refine lv_iadd hx hb dX1_timesOf_8 ?_
  refine lv_iload_n hx hb dX1_timesOf_9 rfl (lv_at hl 3 rfl) ?_
  refine lv_iadd hx hb dX1_timesOf_10 ?_
  refine lv_topi (fun x4_1 ex4_1 => ?_)
  replace hf := zL_e ex4_1 hf
  refine lv_istore (lv' := [(4, .int x4_1), (0, .ref (G.2.2.1 6)), (1, .int x1), (2, .int x2), (3, .int x3)]) hx hb dX1_timesOf_11 hl (by decide) rfl (fun ls hl => ?_)
  refine lv_iload hx hb dX1_timesOf_13 (lv_at hl 0 rfl) ?_
  refine lv_if_lt (tgt := 26) hx hb dX1_timesOf_15 (by decide) (fun c_2 => ?_) (fun c_2 => ?_)
  · replace hf := zI_t c_2 hf
    refine lv_iconst (v := (0 : Int32)) hx hb dX1_timesOf_26 (by decide) ?_
    exact ze_i C0 hP hS hf dX1_timesOf_27 hQ
  · replace hf := zI_f c_2 hf
    refine lv_iload hx hb dX1_timesOf_18 (lv_at hl 0 rfl) ?_
    refine lv_sipush (v := (1000 : Int32)) hx hb dX1_timesOf_20 (by decide) ?_
    refine lv_icmp_lt (tgt := 28) hx hb dX1_timesOf_23 (by decide) (fun c_3 => ?_) (fun c_3 => ?_)
    · replace hf := zI_t c_3 hf
      refine lv_aload_n hx hb dX1_timesOf_28 rfl (lv_at hl 1 rfl) ?_
      refine zr_getq (C := RX1) (T := TX1) (n := 7) C0 hP 6 (by decide) shX_6 2 9 rfl (by decide) uw_X1 mw_165 rfl dX1_timesOf_29 ?_
      refine lv_iload hx hb dX1_timesOf_32 (lv_at hl 0 rfl) ?_
      obtain ⟨hg_4, hf⟩ := zG_o hf
      refine zr_iald C0 hP 9 (by decide) shX_9 hg_4 dX1_timesOf_34 ?_
      refine lv_if_ne (tgt := 58) hx hb dX1_timesOf_35 (by decide) (fun c_5 => ?_) (fun c_5 => ?_)
      · replace hf := zI_f c_5 hf
        refine lv_aload_n hx hb dX1_timesOf_58 rfl (lv_at hl 1 rfl) ?_
        refine zr_getq (C := RX1) (T := TX1) (n := 7) C0 hP 6 (by decide) shX_6 2 9 rfl (by decide) uw_X1 mw_165 rfl dX1_timesOf_59 ?_
        refine lv_iload hx hb dX1_timesOf_62 (lv_at hl 0 rfl) ?_
        obtain ⟨hg_6, hf⟩ := zG_o hf
        refine zr_iald C0 hP 9 (by decide) shX_9 hg_6 dX1_timesOf_64 ?_
        refine lv_bipush (v := (-2 : Int32)) hx hb dX1_timesOf_65 (by decide) ?_
        refine lv_iand hx hb dX1_timesOf_67 ?_
        exact ze_i C0 hP hS hf dX1_timesOf_68 hQ
      · replace hf := zI_t c_5 hf
        refine lv_aload_n hx hb dX1_timesOf_38 rfl (lv_at hl 1 rfl) ?_
        refine lv_iload_n hx hb dX1_timesOf_39 rfl (lv_at hl 2 rfl) ?_
        refine lv_iload_n hx hb dX1_timesOf_40 rfl (lv_at hl 3 rfl) ?_
        refine lv_iload_n hx hb dX1_timesOf_41 rfl (lv_at hl 4 rfl) ?_
        obtain ⟨M_7, hc_8, hf⟩ := zV_o hf
        refine zc_vv (As := [.int x1, .int x2, .int x3]) (rest := []) C0 hP hS hl.1 6 (mtX1_lay l G hJ x1 x2 x3 M _ hc_8) lk_X1_26 (by decide) shX_6 (T := TX1) (n' := 7) rfl ds_X1_lay (by rw [hRm]; exact ⟨Nat.le_of_ble_eq_true rfl, Nat.le_of_ble_eq_true rfl⟩) rfl rfl (Nat.le_of_ble_eq_true rfl) dX1_timesOf_42 ⟨Nat.zero_le _, Nat.zero_le _⟩ (fun H locs hP hS => ?_)
        refine lv_aload_n hx hb dX1_timesOf_45 rfl (lv_at hl 1 rfl) ?_
        refine zr_getq (C := RX1) (T := TX1) (n := 7) C0 hP 6 (by decide) shX_6 2 9 rfl (by decide) uw_X1 mw_165 rfl dX1_timesOf_46 ?_
        refine lv_iload hx hb dX1_timesOf_49 (lv_at hl 0 rfl) ?_
        refine lv_iconst (v := (1 : Int32)) hx hb dX1_timesOf_51 (by decide) ?_
        refine lv_aload_n hx hb dX1_timesOf_52 rfl (lv_at hl 1 rfl) ?_
        obtain ⟨r_11, M_9, hc_10, hf⟩ := zB_o hf
        refine zc_vi (As := []) (rest := [.int (1 : Int32), .int x4_1, .ref (G.2.2.1 9)]) C0 hP hS hl.1 6 (mtX1_timesLaid l G hJ M_7 _ hc_10) lk_X1_30 (by decide) shX_6 (T := TX1) (n' := 7) rfl ds_X1_timesLaid (by rw [hRm]; exact ⟨Nat.le_of_ble_eq_true rfl, Nat.le_of_ble_eq_true rfl⟩) rfl rfl (Nat.le_of_ble_eq_true rfl) dX1_timesOf_53 ⟨Nat.zero_le _, Nat.zero_le _⟩ (fun H locs hP hS => ?_)
        refine lv_ior hx hb dX1_timesOf_56 ?_
        obtain ⟨hg_12, hf⟩ := zG_o hf
        refine zr_iast C0 hJ hP hS 9 (by decide) shX_9 hg_12 dX1_timesOf_57 (fun H locs hP hS => ?_)
        obtain ⟨M_13, eM_13, hf⟩ := zL_o hf
        have hP : va_P G.1 zcl (zw G shX 64 M_13) H := by rw [eM_13]; exact hP
        refine lv_aload_n hx hb dX1_timesOf_58 rfl (lv_at hl 1 rfl) ?_
        refine zr_getq (C := RX1) (T := TX1) (n := 7) C0 hP 6 (by decide) shX_6 2 9 rfl (by decide) uw_X1 mw_165 rfl dX1_timesOf_59 ?_
        refine lv_iload hx hb dX1_timesOf_62 (lv_at hl 0 rfl) ?_
        obtain ⟨hg_14, hf⟩ := zG_o hf
        refine zr_iald C0 hP 9 (by decide) shX_9 hg_14 dX1_timesOf_64 ?_
        refine lv_bipush (v := (-2 : Int32)) hx hb dX1_timesOf_65 (by decide) ?_
        refine lv_iand hx hb dX1_timesOf_67 ?_
        exact ze_i C0 hP hS hf dX1_timesOf_68 hQ
    · replace hf := zI_f c_3 hf
      refine lv_iconst (v := (0 : Int32)) hx hb dX1_timesOf_26 (by decide) ?_
      exact ze_i C0 hP hS hf dX1_timesOf_27 hQ
def fX1_turnsTill (x1 : Int32) (M : zM) : Option (Int32 × zM) :=
  zG (zin x1 31) <|
  zL (M.2 8 x1.toNatClampNeg) fun x2_2 =>
  if (zcmp x2_2 (9223372036854775807 : Int64)) = (0 : Int32) then
    some ((-1 : Int32), M)
  else
    some ((x2_2 / (100000000000 : Int64)).toInt32, M)
set_option maxHeartbeats 4000000 in
set_option maxRecDepth 100000 in
theorem mtX1_turnsTill (l : Launch) (G : zGr) (hJ : zJ G 64) (x1 : Int32) (M : zM) (o : Int32 × zM) (hf : fX1_turnsTill x1 M = some o) : zMi l G shX 64 yX1_turnsTill cX1_turnsTill 4 (some .int) 0 0 [.ref (G.2.2.1 6), .int x1] M o := by
  intro sz
  refine zOf (by decide) (Nat.le_of_ble_eq_true rfl) ?_
  intro p e R Q s m args below meth c hRm hsz hQ C0 hP hS ls hl
  subst hsz
  replace hRm : R = { frames := 0, cells := 0, slots := 0, locals := 0 } := hRm
  have hl : lv_has ls 4 [(0, .ref (G.2.2.1 6)), (1, .int x1)] := hl
  have hx := C0.1
  have hb := C0.2.1
  have hown := C0.2.2.2.1
  have hts := C0.2.2.2.2.1
  unfold fX1_turnsTill at hf
  obtain ⟨H, eH⟩ : ∃ H, H = s.heap := ⟨_, rfl⟩
  obtain ⟨locs, el⟩ : ∃ locs : List Loc, locs = [] := ⟨_, rfl⟩
  rw [← eH] at hP ⊢
  have hS : va_S (zA G 64 s.heap.size) s.heap H locs := by rw [eH, el]; exact hS
  rw [← el]
  refine lv_aload_n hx hb dX1_turnsTill_0 rfl (lv_at hl 0 rfl) ?_
  refine zr_getq (C := RX1) (T := TX1) (n := 7) C0 hP 6 (by decide) shX_6 1 8 rfl (by decide) uw_X1 mw_160 rfl dX1_turnsTill_1 ?_
  refine lv_iload_n hx hb dX1_turnsTill_4 rfl (lv_at hl 1 rfl) ?_
  obtain ⟨hg_1, hf⟩ := zG_o hf
  refine zr_lald C0 hP 8 (by decide) shX_8 hg_1 dX1_turnsTill_5 ?_
  refine lv_topl (fun x2_2 ex2_2 => ?_)
  replace hf := zL_e ex2_2 hf
  refine lv_lstore_n (lv' := [(2, .long x2_2), (0, .ref (G.2.2.1 6)), (1, .int x1)]) hx hb dX1_turnsTill_6 rfl hl (by decide) rfl (fun ls hl => ?_)
  refine lv_lload_n hx hb dX1_turnsTill_7 rfl (lv_at hl 0 rfl) ?_
  refine lv_ldc2 (v := (9223372036854775807 : Int64)) hx hb hown (hts _ mw_151) dX1_turnsTill_8 ?_
  refine zo_lcmp hx hb dX1_turnsTill_11 ?_
  refine lv_if_ne (tgt := 19) hx hb dX1_turnsTill_12 (by decide) (fun c_3 => ?_) (fun c_3 => ?_)
  · replace hf := zI_f c_3 hf
    refine lv_lload_n hx hb dX1_turnsTill_19 rfl (lv_at hl 0 rfl) ?_
    refine lv_ldc2 (v := (100000000000 : Int64)) hx hb hown (hts _ mw_131) dX1_turnsTill_20 ?_
    refine lv_ldiv hx hb dX1_turnsTill_23 (by decide) ?_
    refine zo_l2i hx hb dX1_turnsTill_24 ?_
    exact ze_i C0 hP hS hf dX1_turnsTill_25 hQ
  · replace hf := zI_t c_3 hf
    refine lv_iconst (v := (-1 : Int32)) hx hb dX1_turnsTill_15 (by decide) ?_
    refine lv_goto (tgt := 25) hx hb dX1_turnsTill_16 (by decide) ?_
    exact ze_i C0 hP hS hf dX1_turnsTill_25 hQ
def fX1_wayTill (x1 : Int32) (M : zM) : Option (Int32 × zM) :=
  zG (zin x1 31) <|
  zL (M.2 8 x1.toNatClampNeg) fun x2_2 =>
  zL ((zrml x2_2 (100 : Int64)).toInt32) fun x4_3 =>
  if (zcmp x2_2 (9223372036854775807 : Int64)) = (0 : Int32) then
    some ((-1 : Int32), M)
  else
    if x4_3 < (1 : Int32) then
      some ((-1 : Int32), M)
    else
      if x4_3 ≤ (9 : Int32) then
        zG (zin (x4_3 - (1 : Int32)) 9) <|
        zL (zPL (x4_3 - (1 : Int32)).toNatClampNeg) fun x5_8 =>
        if (0 : Int32) < (zcmp x5_8 (0 : Int64)) then
          zG (znzl x5_8) <|
          some (((zrml x2_2 (100000000000 : Int64)) / x5_8).toInt32, M)
        else
          some ((-1 : Int32), M)
      else
        some ((-1 : Int32), M)
set_option maxHeartbeats 4000000 in
set_option maxRecDepth 100000 in
theorem mtX1_wayTill (l : Launch) (G : zGr) (hJ : zJ G 64) (x1 : Int32) (M : zM) (o : Int32 × zM) (hf : fX1_wayTill x1 M = some o) : zMi l G shX 64 yX1_wayTill cX1_wayTill 7 (some .int) 0 0 [.ref (G.2.2.1 6), .int x1] M o := by
  intro sz
  refine zOf (by decide) (Nat.le_of_ble_eq_true rfl) ?_
  intro p e R Q s m args below meth c hRm hsz hQ C0 hP hS ls hl
  subst hsz
  replace hRm : R = { frames := 0, cells := 0, slots := 0, locals := 0 } := hRm
  have hl : lv_has ls 7 [(0, .ref (G.2.2.1 6)), (1, .int x1)] := hl
  have hx := C0.1
  have hb := C0.2.1
  have hown := C0.2.2.2.1
  have hts := C0.2.2.2.2.1
  unfold fX1_wayTill at hf
  obtain ⟨H, eH⟩ : ∃ H, H = s.heap := ⟨_, rfl⟩
  obtain ⟨locs, el⟩ : ∃ locs : List Loc, locs = [] := ⟨_, rfl⟩
  rw [← eH] at hP ⊢
  have hS : va_S (zA G 64 s.heap.size) s.heap H locs := by rw [eH, el]; exact hS
  rw [← el]
  refine lv_aload_n hx hb dX1_wayTill_0 rfl (lv_at hl 0 rfl) ?_
  refine zr_getq (C := RX1) (T := TX1) (n := 7) C0 hP 6 (by decide) shX_6 1 8 rfl (by decide) uw_X1 mw_160 rfl dX1_wayTill_1 ?_
  refine lv_iload_n hx hb dX1_wayTill_4 rfl (lv_at hl 1 rfl) ?_
  obtain ⟨hg_1, hf⟩ := zG_o hf
  refine zr_lald C0 hP 8 (by decide) shX_8 hg_1 dX1_wayTill_5 ?_
  refine lv_topl (fun x2_2 ex2_2 => ?_)
  replace hf := zL_e ex2_2 hf
  refine lv_lstore_n (lv' := [(2, .long x2_2), (0, .ref (G.2.2.1 6)), (1, .int x1)]) hx hb dX1_wayTill_6 rfl hl (by decide) rfl (fun ls hl => ?_)
  refine lv_lload_n hx hb dX1_wayTill_7 rfl (lv_at hl 0 rfl) ?_
  refine lv_ldc2 (v := (100 : Int64)) hx hb hown (hts _ mw_126) dX1_wayTill_8 ?_
  refine zo_lrem hx hb dX1_wayTill_11 (by decide) ?_
  refine zo_l2i hx hb dX1_wayTill_12 ?_
  refine lv_topi (fun x4_3 ex4_3 => ?_)
  replace hf := zL_e ex4_3 hf
  refine lv_istore (lv' := [(4, .int x4_3), (2, .long x2_2), (0, .ref (G.2.2.1 6)), (1, .int x1)]) hx hb dX1_wayTill_13 hl (by decide) rfl (fun ls hl => ?_)
  refine lv_lload_n hx hb dX1_wayTill_15 rfl (lv_at hl 1 rfl) ?_
  refine lv_ldc2 (v := (9223372036854775807 : Int64)) hx hb hown (hts _ mw_151) dX1_wayTill_16 ?_
  refine zo_lcmp hx hb dX1_wayTill_19 ?_
  refine lv_if_eq (tgt := 36) hx hb dX1_wayTill_20 (by decide) (fun c_4 => ?_) (fun c_4 => ?_)
  · replace hf := zI_t c_4 hf
    refine lv_iconst (v := (-1 : Int32)) hx hb dX1_wayTill_36 (by decide) ?_
    exact ze_i C0 hP hS hf dX1_wayTill_37 hQ
  · replace hf := zI_f c_4 hf
    refine lv_iload hx hb dX1_wayTill_23 (lv_at hl 0 rfl) ?_
    refine lv_iconst (v := (1 : Int32)) hx hb dX1_wayTill_25 (by decide) ?_
    refine lv_icmp_lt (tgt := 36) hx hb dX1_wayTill_26 (by decide) (fun c_5 => ?_) (fun c_5 => ?_)
    · replace hf := zI_t c_5 hf
      refine lv_iconst (v := (-1 : Int32)) hx hb dX1_wayTill_36 (by decide) ?_
      exact ze_i C0 hP hS hf dX1_wayTill_37 hQ
    · replace hf := zI_f c_5 hf
      refine lv_iload hx hb dX1_wayTill_29 (lv_at hl 0 rfl) ?_
      refine lv_bipush (v := (9 : Int32)) hx hb dX1_wayTill_31 (by decide) ?_
      refine lv_icmp_le (tgt := 38) hx hb dX1_wayTill_33 (by decide) (fun c_6 => ?_) (fun c_6 => ?_)
      · replace hf := zI_t c_6 hf
        refine zo_gets C0 hS mw_132 dX1_wayTill_38 ?_
        refine lv_iload hx hb dX1_wayTill_41 (lv_at hl 0 rfl) ?_
        refine lv_iconst (v := (1 : Int32)) hx hb dX1_wayTill_43 (by decide) ?_
        refine lv_isub hx hb dX1_wayTill_44 ?_
        obtain ⟨hg_7, hf⟩ := zG_o hf
        refine zo_lalP C0 hS hg_7 dX1_wayTill_45 ?_
        refine lv_topl (fun x5_8 ex5_8 => ?_)
        replace hf := zL_e ex5_8 hf
        refine lv_lstore (lv' := [(5, .long x5_8), (4, .int x4_3), (2, .long x2_2), (0, .ref (G.2.2.1 6)), (1, .int x1)]) hx hb dX1_wayTill_46 hl (by decide) rfl (fun ls hl => ?_)
        refine lv_lload hx hb dX1_wayTill_48 (lv_at hl 0 rfl) ?_
        refine lv_lconst (v := (0 : Int64)) hx hb dX1_wayTill_50 (by decide) ?_
        refine zo_lcmp hx hb dX1_wayTill_51 ?_
        refine lv_if_gt (tgt := 59) hx hb dX1_wayTill_52 (by decide) (fun c_9 => ?_) (fun c_9 => ?_)
        · replace hf := zI_t c_9 hf
          refine lv_lload_n hx hb dX1_wayTill_59 rfl (lv_at hl 2 rfl) ?_
          refine lv_ldc2 (v := (100000000000 : Int64)) hx hb hown (hts _ mw_131) dX1_wayTill_60 ?_
          refine zo_lrem hx hb dX1_wayTill_63 (by decide) ?_
          refine lv_lload hx hb dX1_wayTill_64 (lv_at hl 0 rfl) ?_
          obtain ⟨hg_10, hf⟩ := zG_o hf
          refine lv_ldiv hx hb dX1_wayTill_66 (znzl_i hg_10) ?_
          refine zo_l2i hx hb dX1_wayTill_67 ?_
          exact ze_i C0 hP hS hf dX1_wayTill_68 hQ
        · replace hf := zI_f c_9 hf
          refine lv_iconst (v := (-1 : Int32)) hx hb dX1_wayTill_55 (by decide) ?_
          refine lv_goto (tgt := 68) hx hb dX1_wayTill_56 (by decide) ?_
          exact ze_i C0 hP hS hf dX1_wayTill_68 hQ
      · replace hf := zI_f c_6 hf
        refine lv_iconst (v := (-1 : Int32)) hx hb dX1_wayTill_36 (by decide) ?_
        exact ze_i C0 hP hS hf dX1_wayTill_37 hQ

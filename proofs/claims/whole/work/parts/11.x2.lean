def fX2_add (x1 : Int32) (M : zM) : Option (Int32 × zM) :=
  if (M.1 2 3) < (160 : Int32) then
    zG (zin (M.1 2 3) 160) <|
    zL (zu M 3 (M.1 2 3).toNatClampNeg x1) fun M_3 =>
    zL (zu M_3 2 3 ((M_3.1 2 3) + (1 : Int32))) fun M_4 =>
    some ((M_4.1 2 3), M_4)
  else
    some ((-4 : Int32), M)
set_option maxHeartbeats 4000000 in
set_option maxRecDepth 100000 in
theorem mtX2_add (l : Launch) (G : zGr) (hJ : zJ G 64) (x1 : Int32) (M : zM) (o : Int32 × zM) (hf : fX2_add x1 M = some o) : zMi l G shX 64 yX2_add cX2_add 2 (some .int) 0 0 [.ref (G.2.2.1 2), .int x1] M o := by
  intro sz
  refine zOf (by decide) (Nat.le_of_ble_eq_true rfl) ?_
  intro p e R Q s m args below meth c hRm hsz hQ C0 hP hS ls hl
  subst hsz
  replace hRm : R = { frames := 0, cells := 0, slots := 0, locals := 0 } := hRm
  have hl : lv_has ls 2 [(0, .ref (G.2.2.1 2)), (1, .int x1)] := hl
  have hx := C0.1
  have hb := C0.2.1
  have hown := C0.2.2.2.1
  have hts := C0.2.2.2.2.1
  unfold fX2_add at hf
  obtain ⟨H, eH⟩ : ∃ H, H = s.heap := ⟨_, rfl⟩
  obtain ⟨locs, el⟩ : ∃ locs : List Loc, locs = [] := ⟨_, rfl⟩
  rw [← eH] at hP ⊢
  have hS : va_S (zA G 64 s.heap.size) s.heap H locs := by rw [eH, el]; exact hS
  rw [← el]
  refine lv_aload_n hx hb dX2_add_0 rfl (lv_at hl 0 rfl) ?_
  refine zr_get (C := RX2) (T := TX2) (n := 9) C0 hP 2 (by decide) shX_2 3 rfl (by decide) uw_X2 mw_174 rfl dX2_add_1 ?_
  refine lv_sipush (v := (160 : Int32)) hx hb dX2_add_4 (by decide) ?_
  refine lv_icmp_lt (tgt := 13) hx hb dX2_add_7 (by decide) (fun c_1 => ?_) (fun c_1 => ?_)
  · replace hf := zI_t c_1 hf
    refine lv_aload_n hx hb dX2_add_13 rfl (lv_at hl 0 rfl) ?_
    refine zr_getq (C := RX2) (T := TX2) (n := 9) C0 hP 2 (by decide) shX_2 0 3 rfl (by decide) uw_X2 mw_175 rfl dX2_add_14 ?_
    refine lv_aload_n hx hb dX2_add_17 rfl (lv_at hl 0 rfl) ?_
    refine zr_get (C := RX2) (T := TX2) (n := 9) C0 hP 2 (by decide) shX_2 3 rfl (by decide) uw_X2 mw_174 rfl dX2_add_18 ?_
    refine lv_iload_n hx hb dX2_add_21 rfl (lv_at hl 1 rfl) ?_
    obtain ⟨hg_2, hf⟩ := zG_o hf
    refine zr_iast C0 hJ hP hS 3 (by decide) shX_3 hg_2 dX2_add_22 (fun H locs hP hS => ?_)
    obtain ⟨M_3, eM_3, hf⟩ := zL_o hf
    have hP : va_P G.1 zcl (zw G shX 64 M_3) H := by rw [eM_3]; exact hP
    refine lv_aload_n hx hb dX2_add_23 rfl (lv_at hl 0 rfl) ?_
    refine lv_dup hx hb dX2_add_24 rfl ?_
    refine zr_get (C := RX2) (T := TX2) (n := 9) C0 hP 2 (by decide) shX_2 3 rfl (by decide) uw_X2 mw_174 rfl dX2_add_25 ?_
    refine lv_iconst (v := (1 : Int32)) hx hb dX2_add_28 (by decide) ?_
    refine lv_iadd hx hb dX2_add_29 ?_
    refine zr_put (C := RX2) (T := TX2) (n := 9) C0 hJ hP hS 2 (by decide) shX_2 3 rfl (by decide) uw_X2 tyX2 tyX2_ok nmX2 mw_174 rfl rfl ⟨rfl, rfl⟩ dX2_add_30 (fun H locs hP hS => ?_)
    obtain ⟨M_4, eM_4, hf⟩ := zL_o hf
    have hP : va_P G.1 zcl (zw G shX 64 M_4) H := by rw [eM_4]; exact hP
    refine lv_aload_n hx hb dX2_add_33 rfl (lv_at hl 0 rfl) ?_
    refine zr_get (C := RX2) (T := TX2) (n := 9) C0 hP 2 (by decide) shX_2 3 rfl (by decide) uw_X2 mw_174 rfl dX2_add_34 ?_
    exact ze_i C0 hP hS hf dX2_add_37 hQ
  · replace hf := zI_f c_1 hf
    refine lv_bipush (v := (-4 : Int32)) hx hb dX2_add_10 (by decide) ?_
    exact ze_i C0 hP hS hf dX2_add_12 hQ
def fX2_emit (x1 : Int32) (M : zM) : Option (zM) :=
  if (160 : Int32) ≤ (M.1 2 4) then
    some M
  else
    zG (zin (M.1 2 4) 160) <|
    zL (zu M 4 (M.1 2 4).toNatClampNeg x1) fun M_3 =>
    zL (zu M_3 2 4 ((M_3.1 2 4) + (1 : Int32))) fun M_4 =>
    some M_4
set_option maxHeartbeats 4000000 in
set_option maxRecDepth 100000 in
theorem mtX2_emit (l : Launch) (G : zGr) (hJ : zJ G 64) (x1 : Int32) (M : zM) (o : zM) (hf : fX2_emit x1 M = some o) : zMv l G shX 64 yX2_emit cX2_emit 2 none 0 0 [.ref (G.2.2.1 2), .int x1] M o := by
  intro sz
  refine zOf (by decide) (Nat.le_of_ble_eq_true rfl) ?_
  intro p e R Q s m args below meth c hRm hsz hQ C0 hP hS ls hl
  subst hsz
  replace hRm : R = { frames := 0, cells := 0, slots := 0, locals := 0 } := hRm
  have hl : lv_has ls 2 [(0, .ref (G.2.2.1 2)), (1, .int x1)] := hl
  have hx := C0.1
  have hb := C0.2.1
  have hown := C0.2.2.2.1
  have hts := C0.2.2.2.2.1
  unfold fX2_emit at hf
  obtain ⟨H, eH⟩ : ∃ H, H = s.heap := ⟨_, rfl⟩
  obtain ⟨locs, el⟩ : ∃ locs : List Loc, locs = [] := ⟨_, rfl⟩
  rw [← eH] at hP ⊢
  have hS : va_S (zA G 64 s.heap.size) s.heap H locs := by rw [eH, el]; exact hS
  rw [← el]
  refine lv_aload_n hx hb dX2_emit_0 rfl (lv_at hl 0 rfl) ?_
  refine zr_get (C := RX2) (T := TX2) (n := 9) C0 hP 2 (by decide) shX_2 4 rfl (by decide) uw_X2 mw_176 rfl dX2_emit_1 ?_
  refine lv_sipush (v := (160 : Int32)) hx hb dX2_emit_4 (by decide) ?_
  refine lv_icmp_ge (tgt := 30) hx hb dX2_emit_7 (by decide) (fun c_1 => ?_) (fun c_1 => ?_)
  · replace hf := zI_t c_1 hf
    exact ze_v C0 hP hS hf dX2_emit_30 hQ
  · replace hf := zI_f c_1 hf
    refine lv_aload_n hx hb dX2_emit_10 rfl (lv_at hl 0 rfl) ?_
    refine zr_getq (C := RX2) (T := TX2) (n := 9) C0 hP 2 (by decide) shX_2 1 4 rfl (by decide) uw_X2 mw_177 rfl dX2_emit_11 ?_
    refine lv_aload_n hx hb dX2_emit_14 rfl (lv_at hl 0 rfl) ?_
    refine zr_get (C := RX2) (T := TX2) (n := 9) C0 hP 2 (by decide) shX_2 4 rfl (by decide) uw_X2 mw_176 rfl dX2_emit_15 ?_
    refine lv_iload_n hx hb dX2_emit_18 rfl (lv_at hl 1 rfl) ?_
    obtain ⟨hg_2, hf⟩ := zG_o hf
    refine zr_iast C0 hJ hP hS 4 (by decide) shX_4 hg_2 dX2_emit_19 (fun H locs hP hS => ?_)
    obtain ⟨M_3, eM_3, hf⟩ := zL_o hf
    have hP : va_P G.1 zcl (zw G shX 64 M_3) H := by rw [eM_3]; exact hP
    refine lv_aload_n hx hb dX2_emit_20 rfl (lv_at hl 0 rfl) ?_
    refine lv_dup hx hb dX2_emit_21 rfl ?_
    refine zr_get (C := RX2) (T := TX2) (n := 9) C0 hP 2 (by decide) shX_2 4 rfl (by decide) uw_X2 mw_176 rfl dX2_emit_22 ?_
    refine lv_iconst (v := (1 : Int32)) hx hb dX2_emit_25 (by decide) ?_
    refine lv_iadd hx hb dX2_emit_26 ?_
    refine zr_put (C := RX2) (T := TX2) (n := 9) C0 hJ hP hS 2 (by decide) shX_2 4 rfl (by decide) uw_X2 tyX2 tyX2_ok nmX2 mw_176 rfl rfl ⟨rfl, rfl⟩ dX2_emit_27 (fun H locs hP hS => ?_)
    obtain ⟨M_4, eM_4, hf⟩ := zL_o hf
    have hP : va_P G.1 zcl (zw G shX 64 M_4) H := by rw [eM_4]; exact hP
    exact ze_v C0 hP hS hf dX2_emit_30 hQ
def fX2_isDigit (x1 : Int32) (M : zM) : Option (Int32 × zM) :=
  zG (zin x1 160) <|
  if (M.1 3 x1.toNatClampNeg) < (48 : Int32) then
    some ((0 : Int32), M)
  else
    zG (zin x1 160) <|
    if (57 : Int32) < (M.1 3 x1.toNatClampNeg) then
      some ((0 : Int32), M)
    else
      some ((1 : Int32), M)
set_option maxHeartbeats 4000000 in
set_option maxRecDepth 100000 in
theorem mtX2_isDigit (l : Launch) (G : zGr) (hJ : zJ G 64) (x1 : Int32) (M : zM) (o : Int32 × zM) (hf : fX2_isDigit x1 M = some o) : zMi l G shX 64 yX2_isDigit cX2_isDigit 2 (some .boolean) 0 0 [.ref (G.2.2.1 2), .int x1] M o := by
  intro sz
  refine zOf (by decide) (Nat.le_of_ble_eq_true rfl) ?_
  intro p e R Q s m args below meth c hRm hsz hQ C0 hP hS ls hl
  subst hsz
  replace hRm : R = { frames := 0, cells := 0, slots := 0, locals := 0 } := hRm
  have hl : lv_has ls 2 [(0, .ref (G.2.2.1 2)), (1, .int x1)] := hl
  have hx := C0.1
  have hb := C0.2.1
  have hown := C0.2.2.2.1
  have hts := C0.2.2.2.2.1
  unfold fX2_isDigit at hf
  obtain ⟨H, eH⟩ : ∃ H, H = s.heap := ⟨_, rfl⟩
  obtain ⟨locs, el⟩ : ∃ locs : List Loc, locs = [] := ⟨_, rfl⟩
  rw [← eH] at hP ⊢
  have hS : va_S (zA G 64 s.heap.size) s.heap H locs := by rw [eH, el]; exact hS
  rw [← el]
  refine lv_aload_n hx hb dX2_isDigit_0 rfl (lv_at hl 0 rfl) ?_
  refine zr_getq (C := RX2) (T := TX2) (n := 9) C0 hP 2 (by decide) shX_2 0 3 rfl (by decide) uw_X2 mw_175 rfl dX2_isDigit_1 ?_
  refine lv_iload_n hx hb dX2_isDigit_4 rfl (lv_at hl 1 rfl) ?_
  obtain ⟨hg_1, hf⟩ := zG_o hf
  refine zr_iald C0 hP 3 (by decide) shX_3 hg_1 dX2_isDigit_5 ?_
  refine lv_bipush (v := (48 : Int32)) hx hb dX2_isDigit_6 (by decide) ?_
  refine lv_icmp_lt (tgt := 26) hx hb dX2_isDigit_8 (by decide) (fun c_2 => ?_) (fun c_2 => ?_)
  · replace hf := zI_t c_2 hf
    refine lv_iconst (v := (0 : Int32)) hx hb dX2_isDigit_26 (by decide) ?_
    exact ze_z C0 hP hS (by decide) hf dX2_isDigit_27 hQ
  · replace hf := zI_f c_2 hf
    refine lv_aload_n hx hb dX2_isDigit_11 rfl (lv_at hl 0 rfl) ?_
    refine zr_getq (C := RX2) (T := TX2) (n := 9) C0 hP 2 (by decide) shX_2 0 3 rfl (by decide) uw_X2 mw_175 rfl dX2_isDigit_12 ?_
    refine lv_iload_n hx hb dX2_isDigit_15 rfl (lv_at hl 1 rfl) ?_
    obtain ⟨hg_3, hf⟩ := zG_o hf
    refine zr_iald C0 hP 3 (by decide) shX_3 hg_3 dX2_isDigit_16 ?_
    refine lv_bipush (v := (57 : Int32)) hx hb dX2_isDigit_17 (by decide) ?_
    refine lv_icmp_gt (tgt := 26) hx hb dX2_isDigit_19 (by decide) (fun c_4 => ?_) (fun c_4 => ?_)
    · replace hf := zI_t c_4 hf
      refine lv_iconst (v := (0 : Int32)) hx hb dX2_isDigit_26 (by decide) ?_
      exact ze_z C0 hP hS (by decide) hf dX2_isDigit_27 hQ
    · replace hf := zI_f c_4 hf
      refine lv_iconst (v := (1 : Int32)) hx hb dX2_isDigit_22 (by decide) ?_
      refine lv_goto (tgt := 27) hx hb dX2_isDigit_23 (by decide) ?_
      exact ze_z C0 hP hS (by decide) hf dX2_isDigit_27 hQ
def fX2_isLetter (x1 : Int32) (M : zM) : Option (Int32 × zM) :=
  zG (zin x1 160) <|
  if (M.1 3 x1.toNatClampNeg) < (97 : Int32) then
    some ((0 : Int32), M)
  else
    zG (zin x1 160) <|
    if (122 : Int32) < (M.1 3 x1.toNatClampNeg) then
      some ((0 : Int32), M)
    else
      some ((1 : Int32), M)
set_option maxHeartbeats 4000000 in
set_option maxRecDepth 100000 in
theorem mtX2_isLetter (l : Launch) (G : zGr) (hJ : zJ G 64) (x1 : Int32) (M : zM) (o : Int32 × zM) (hf : fX2_isLetter x1 M = some o) : zMi l G shX 64 yX2_isLetter cX2_isLetter 2 (some .boolean) 0 0 [.ref (G.2.2.1 2), .int x1] M o := by
  intro sz
  refine zOf (by decide) (Nat.le_of_ble_eq_true rfl) ?_
  intro p e R Q s m args below meth c hRm hsz hQ C0 hP hS ls hl
  subst hsz
  replace hRm : R = { frames := 0, cells := 0, slots := 0, locals := 0 } := hRm
  have hl : lv_has ls 2 [(0, .ref (G.2.2.1 2)), (1, .int x1)] := hl
  have hx := C0.1
  have hb := C0.2.1
  have hown := C0.2.2.2.1
  have hts := C0.2.2.2.2.1
  unfold fX2_isLetter at hf
  obtain ⟨H, eH⟩ : ∃ H, H = s.heap := ⟨_, rfl⟩
  obtain ⟨locs, el⟩ : ∃ locs : List Loc, locs = [] := ⟨_, rfl⟩
  rw [← eH] at hP ⊢
  have hS : va_S (zA G 64 s.heap.size) s.heap H locs := by rw [eH, el]; exact hS
  rw [← el]
  refine lv_aload_n hx hb dX2_isLetter_0 rfl (lv_at hl 0 rfl) ?_
  refine zr_getq (C := RX2) (T := TX2) (n := 9) C0 hP 2 (by decide) shX_2 0 3 rfl (by decide) uw_X2 mw_175 rfl dX2_isLetter_1 ?_
  refine lv_iload_n hx hb dX2_isLetter_4 rfl (lv_at hl 1 rfl) ?_
  obtain ⟨hg_1, hf⟩ := zG_o hf
  refine zr_iald C0 hP 3 (by decide) shX_3 hg_1 dX2_isLetter_5 ?_
  refine lv_bipush (v := (97 : Int32)) hx hb dX2_isLetter_6 (by decide) ?_
  refine lv_icmp_lt (tgt := 26) hx hb dX2_isLetter_8 (by decide) (fun c_2 => ?_) (fun c_2 => ?_)
  · replace hf := zI_t c_2 hf
    refine lv_iconst (v := (0 : Int32)) hx hb dX2_isLetter_26 (by decide) ?_
    exact ze_z C0 hP hS (by decide) hf dX2_isLetter_27 hQ
  · replace hf := zI_f c_2 hf
    refine lv_aload_n hx hb dX2_isLetter_11 rfl (lv_at hl 0 rfl) ?_
    refine zr_getq (C := RX2) (T := TX2) (n := 9) C0 hP 2 (by decide) shX_2 0 3 rfl (by decide) uw_X2 mw_175 rfl dX2_isLetter_12 ?_
    refine lv_iload_n hx hb dX2_isLetter_15 rfl (lv_at hl 1 rfl) ?_
    obtain ⟨hg_3, hf⟩ := zG_o hf
    refine zr_iald C0 hP 3 (by decide) shX_3 hg_3 dX2_isLetter_16 ?_
    refine lv_bipush (v := (122 : Int32)) hx hb dX2_isLetter_17 (by decide) ?_
    refine lv_icmp_gt (tgt := 26) hx hb dX2_isLetter_19 (by decide) (fun c_4 => ?_) (fun c_4 => ?_)
    · replace hf := zI_t c_4 hf
      refine lv_iconst (v := (0 : Int32)) hx hb dX2_isLetter_26 (by decide) ?_
      exact ze_z C0 hP hS (by decide) hf dX2_isLetter_27 hQ
    · replace hf := zI_f c_4 hf
      refine lv_iconst (v := (1 : Int32)) hx hb dX2_isLetter_22 (by decide) ?_
      refine lv_goto (tgt := 27) hx hb dX2_isLetter_23 (by decide) ?_
      exact ze_z C0 hP hS (by decide) hf dX2_isLetter_27 hQ
def fX2_nextNumber_J77 (M : zM) : Option (zM) :=
  if ((M.1 2 5) - (M.1 2 7)) ≤ (4 : Int32) then
    zL (zu M 2 6 (2 : Int32)) fun M_4 =>
    some M_4
  else
    zL (zu M 2 6 (1 : Int32)) fun M_5 =>
    some M_5
def fX2_nextNumber_B5 (r5 : zM → Option (zM)) (M : zM) : Option (zM) :=
  if (M.1 2 3) ≤ (M.1 2 5) then
    fX2_nextNumber_J77 M
  else
    zB (fX2_isDigit (M.1 2 5) M) fun r_8 M_6 =>
    if r_8 = (0 : Int32) then
      fX2_nextNumber_J77 M_6
    else
      if (4 : Int32) ≤ ((M_6.1 2 5) - (M_6.1 2 7)) then
        zL (zu M_6 2 5 ((M_6.1 2 5) + (1 : Int32))) fun M_11 =>
        r5 M_11
      else
        zG (zin (M_6.1 2 5) 160) <|
        zL (zu M_6 2 8 ((((M_6.1 2 8) * (10 : Int32)) + (M_6.1 3 (M_6.1 2 5).toNatClampNeg)) - (48 : Int32))) fun M_13 =>
        zL (zu M_13 2 5 ((M_13.1 2 5) + (1 : Int32))) fun M_14 =>
        r5 M_14
def fX2_nextNumber_L5 : Nat → zM → Option (zM)
  | 0 => fun _ => none
  | j9 + 1 => fX2_nextNumber_B5 (fX2_nextNumber_L5 j9)
def fX2_nextNumber (M : zM) : Option (zM) :=
  zL (zu M 2 8 (0 : Int32)) fun M_1 =>
  fX2_nextNumber_L5 zF M_1
set_option maxHeartbeats 4000000 in
set_option maxRecDepth 100000 in
theorem mtX2_nextNumber (l : Launch) (G : zGr) (hJ : zJ G 64) (M : zM) (o : zM) (hf : fX2_nextNumber M = some o) : zMv l G shX 64 yX2_nextNumber cX2_nextNumber 1 none 1 21 [.ref (G.2.2.1 2)] M o := by
  intro sz
  refine zOf (by decide) (Nat.le_of_ble_eq_true rfl) ?_
  intro p e R Q s m args below meth c hRm hsz hQ C0 hP hS ls hl
  subst hsz
  replace hRm : R = { frames := 1, cells := 0, slots := 0, locals := 21 } := hRm
  have hl : lv_has ls 1 [(0, .ref (G.2.2.1 2))] := hl
  have hx := C0.1
  have hb := C0.2.1
  have hown := C0.2.2.2.1
  have hts := C0.2.2.2.2.1
  have J77 : ∀ (M : zM) (H : Heap) (locs : List Loc) (ls : Array Slot), lv_has ls 1 [(0, .ref (G.2.2.1 2))] → va_P G.1 zcl (zw G shX 64 M) H → va_S (zA G 64 s.heap.size) s.heap H locs → fX2_nextNumber_J77 M = some o → W p l e R s m args below meth c H locs 0 0 Q (F0 m 77 ls []) := by
    intro M H locs ls hl hP hS hf
    unfold fX2_nextNumber_J77 at hf
    refine lv_aload_n hx hb dX2_nextNumber_77 rfl (lv_at hl 0 rfl) ?_
    refine lv_aload_n hx hb dX2_nextNumber_78 rfl (lv_at hl 0 rfl) ?_
    refine zr_get (C := RX2) (T := TX2) (n := 9) C0 hP 2 (by decide) shX_2 5 rfl (by decide) uw_X2 mw_179 rfl dX2_nextNumber_79 ?_
    refine lv_aload_n hx hb dX2_nextNumber_82 rfl (lv_at hl 0 rfl) ?_
    refine zr_get (C := RX2) (T := TX2) (n := 9) C0 hP 2 (by decide) shX_2 7 rfl (by decide) uw_X2 mw_180 rfl dX2_nextNumber_83 ?_
    refine lv_isub hx hb dX2_nextNumber_86 ?_
    refine lv_iconst (v := (4 : Int32)) hx hb dX2_nextNumber_87 (by decide) ?_
    refine lv_icmp_le (tgt := 95) hx hb dX2_nextNumber_88 (by decide) (fun c_3 => ?_) (fun c_3 => ?_)
    · replace hf := zI_t c_3 hf
      refine lv_iconst (v := (2 : Int32)) hx hb dX2_nextNumber_95 (by decide) ?_
      refine zr_put (C := RX2) (T := TX2) (n := 9) C0 hJ hP hS 2 (by decide) shX_2 6 rfl (by decide) uw_X2 tyX2 tyX2_ok nmX2 mw_181 rfl rfl ⟨rfl, rfl⟩ dX2_nextNumber_96 (fun H locs hP hS => ?_)
      obtain ⟨M_4, eM_4, hf⟩ := zL_o hf
      have hP : va_P G.1 zcl (zw G shX 64 M_4) H := by rw [eM_4]; exact hP
      exact ze_v C0 hP hS hf dX2_nextNumber_99 hQ
    · replace hf := zI_f c_3 hf
      refine lv_iconst (v := (1 : Int32)) hx hb dX2_nextNumber_91 (by decide) ?_
      refine lv_goto (tgt := 96) hx hb dX2_nextNumber_92 (by decide) ?_
      refine zr_put (C := RX2) (T := TX2) (n := 9) C0 hJ hP hS 2 (by decide) shX_2 6 rfl (by decide) uw_X2 tyX2 tyX2_ok nmX2 mw_181 rfl rfl ⟨rfl, rfl⟩ dX2_nextNumber_96 (fun H locs hP hS => ?_)
      obtain ⟨M_5, eM_5, hf⟩ := zL_o hf
      have hP : va_P G.1 zcl (zw G shX 64 M_5) H := by rw [eM_5]; exact hP
      exact ze_v C0 hP hS hf dX2_nextNumber_99 hQ
  have L5 : ∀ (n5 : Nat), ∀ (M : zM) (H : Heap) (locs : List Loc) (ls : Array Slot), lv_has ls 1 [(0, .ref (G.2.2.1 2))] → va_P G.1 zcl (zw G shX 64 M) H → va_S (zA G 64 s.heap.size) s.heap H locs → fX2_nextNumber_L5 n5 M = some o → W p l e R s m args below meth c H locs 0 0 Q (F0 m 5 ls []) := by
    intro n5
    induction n5 with
    | zero => intro M H locs ls hl hP hS hf; exact zn_s (show none = some o from hf)
    | succ n5 ih5 =>
      intro M H locs ls hl hP hS hf
      replace hf : fX2_nextNumber_B5 (fX2_nextNumber_L5 n5) M = some o := hf
      unfold fX2_nextNumber_B5 at hf
      refine lv_aload_n hx hb dX2_nextNumber_5 rfl (lv_at hl 0 rfl) ?_
      refine zr_get (C := RX2) (T := TX2) (n := 9) C0 hP 2 (by decide) shX_2 5 rfl (by decide) uw_X2 mw_179 rfl dX2_nextNumber_6 ?_
      refine lv_aload_n hx hb dX2_nextNumber_9 rfl (lv_at hl 0 rfl) ?_
      refine zr_get (C := RX2) (T := TX2) (n := 9) C0 hP 2 (by decide) shX_2 3 rfl (by decide) uw_X2 mw_174 rfl dX2_nextNumber_10 ?_
      refine lv_icmp_ge (tgt := 77) hx hb dX2_nextNumber_13 (by decide) (fun c_2 => ?_) (fun c_2 => ?_)
      · replace hf := zI_t c_2 hf
        exact J77 M H locs ls (lv_sub hl [0] rfl) hP hS hf
      · replace hf := zI_f c_2 hf
        refine lv_aload_n hx hb dX2_nextNumber_16 rfl (lv_at hl 0 rfl) ?_
        refine lv_aload_n hx hb dX2_nextNumber_17 rfl (lv_at hl 0 rfl) ?_
        refine zr_get (C := RX2) (T := TX2) (n := 9) C0 hP 2 (by decide) shX_2 5 rfl (by decide) uw_X2 mw_179 rfl dX2_nextNumber_18 ?_
        obtain ⟨r_8, M_6, hc_7, hf⟩ := zB_o hf
        refine zc_vi (As := [.int (M.1 2 5)]) (rest := []) C0 hP hS hl.1 2 (mtX2_isDigit l G hJ (M.1 2 5) M _ hc_7) lk_X2_68 (by decide) shX_2 (T := TX2) (n' := 9) rfl ds_X2_isDigit (by rw [hRm]; exact ⟨Nat.le_of_ble_eq_true rfl, Nat.le_of_ble_eq_true rfl⟩) rfl rfl (Nat.le_of_ble_eq_true rfl) dX2_nextNumber_21 ⟨Nat.zero_le _, Nat.zero_le _⟩ (fun H locs hP hS => ?_)
        refine lv_if_eq (tgt := 77) hx hb dX2_nextNumber_24 (by decide) (fun c_9 => ?_) (fun c_9 => ?_)
        · replace hf := zI_t c_9 hf
          exact J77 M_6 H locs ls (lv_sub hl [0] rfl) hP hS hf
        · replace hf := zI_f c_9 hf
          refine lv_aload_n hx hb dX2_nextNumber_27 rfl (lv_at hl 0 rfl) ?_
          refine zr_get (C := RX2) (T := TX2) (n := 9) C0 hP 2 (by decide) shX_2 5 rfl (by decide) uw_X2 mw_179 rfl dX2_nextNumber_28 ?_
          refine lv_aload_n hx hb dX2_nextNumber_31 rfl (lv_at hl 0 rfl) ?_
          refine zr_get (C := RX2) (T := TX2) (n := 9) C0 hP 2 (by decide) shX_2 7 rfl (by decide) uw_X2 mw_180 rfl dX2_nextNumber_32 ?_
          refine lv_isub hx hb dX2_nextNumber_35 ?_
          refine lv_iconst (v := (4 : Int32)) hx hb dX2_nextNumber_36 (by decide) ?_
          refine lv_icmp_ge (tgt := 64) hx hb dX2_nextNumber_37 (by decide) (fun c_10 => ?_) (fun c_10 => ?_)
          · replace hf := zI_t c_10 hf
            refine lv_aload_n hx hb dX2_nextNumber_64 rfl (lv_at hl 0 rfl) ?_
            refine lv_dup hx hb dX2_nextNumber_65 rfl ?_
            refine zr_get (C := RX2) (T := TX2) (n := 9) C0 hP 2 (by decide) shX_2 5 rfl (by decide) uw_X2 mw_179 rfl dX2_nextNumber_66 ?_
            refine lv_iconst (v := (1 : Int32)) hx hb dX2_nextNumber_69 (by decide) ?_
            refine lv_iadd hx hb dX2_nextNumber_70 ?_
            refine zr_put (C := RX2) (T := TX2) (n := 9) C0 hJ hP hS 2 (by decide) shX_2 5 rfl (by decide) uw_X2 tyX2 tyX2_ok nmX2 mw_179 rfl rfl ⟨rfl, rfl⟩ dX2_nextNumber_71 (fun H locs hP hS => ?_)
            obtain ⟨M_11, eM_11, hf⟩ := zL_o hf
            have hP : va_P G.1 zcl (zw G shX 64 M_11) H := by rw [eM_11]; exact hP
            refine lv_goto (tgt := 5) hx hb dX2_nextNumber_74 (by decide) ?_
            exact ih5 M_11 H locs ls (lv_sub hl [0] rfl) hP hS hf
          · replace hf := zI_f c_10 hf
            refine lv_aload_n hx hb dX2_nextNumber_40 rfl (lv_at hl 0 rfl) ?_
            refine lv_aload_n hx hb dX2_nextNumber_41 rfl (lv_at hl 0 rfl) ?_
            refine zr_get (C := RX2) (T := TX2) (n := 9) C0 hP 2 (by decide) shX_2 8 rfl (by decide) uw_X2 mw_178 rfl dX2_nextNumber_42 ?_
            refine lv_bipush (v := (10 : Int32)) hx hb dX2_nextNumber_45 (by decide) ?_
            refine lv_imul hx hb dX2_nextNumber_47 ?_
            refine lv_aload_n hx hb dX2_nextNumber_48 rfl (lv_at hl 0 rfl) ?_
            refine zr_getq (C := RX2) (T := TX2) (n := 9) C0 hP 2 (by decide) shX_2 0 3 rfl (by decide) uw_X2 mw_175 rfl dX2_nextNumber_49 ?_
            refine lv_aload_n hx hb dX2_nextNumber_52 rfl (lv_at hl 0 rfl) ?_
            refine zr_get (C := RX2) (T := TX2) (n := 9) C0 hP 2 (by decide) shX_2 5 rfl (by decide) uw_X2 mw_179 rfl dX2_nextNumber_53 ?_
            obtain ⟨hg_12, hf⟩ := zG_o hf
            refine zr_iald C0 hP 3 (by decide) shX_3 hg_12 dX2_nextNumber_56 ?_
            refine lv_iadd hx hb dX2_nextNumber_57 ?_
            refine lv_bipush (v := (48 : Int32)) hx hb dX2_nextNumber_58 (by decide) ?_
            refine lv_isub hx hb dX2_nextNumber_60 ?_
            refine zr_put (C := RX2) (T := TX2) (n := 9) C0 hJ hP hS 2 (by decide) shX_2 8 rfl (by decide) uw_X2 tyX2 tyX2_ok nmX2 mw_178 rfl rfl ⟨rfl, rfl⟩ dX2_nextNumber_61 (fun H locs hP hS => ?_)
            obtain ⟨M_13, eM_13, hf⟩ := zL_o hf
            have hP : va_P G.1 zcl (zw G shX 64 M_13) H := by rw [eM_13]; exact hP
            refine lv_aload_n hx hb dX2_nextNumber_64 rfl (lv_at hl 0 rfl) ?_
            refine lv_dup hx hb dX2_nextNumber_65 rfl ?_
            refine zr_get (C := RX2) (T := TX2) (n := 9) C0 hP 2 (by decide) shX_2 5 rfl (by decide) uw_X2 mw_179 rfl dX2_nextNumber_66 ?_
            refine lv_iconst (v := (1 : Int32)) hx hb dX2_nextNumber_69 (by decide) ?_
            refine lv_iadd hx hb dX2_nextNumber_70 ?_
            refine zr_put (C := RX2) (T := TX2) (n := 9) C0 hJ hP hS 2 (by decide) shX_2 5 rfl (by decide) uw_X2 tyX2 tyX2_ok nmX2 mw_179 rfl rfl ⟨rfl, rfl⟩ dX2_nextNumber_71 (fun H locs hP hS => ?_)
            obtain ⟨M_14, eM_14, hf⟩ := zL_o hf
            have hP : va_P G.1 zcl (zw G shX 64 M_14) H := by rw [eM_14]; exact hP
            refine lv_goto (tgt := 5) hx hb dX2_nextNumber_74 (by decide) ?_
            exact ih5 M_14 H locs ls (lv_sub hl [0] rfl) hP hS hf
  unfold fX2_nextNumber at hf
  obtain ⟨H, eH⟩ : ∃ H, H = s.heap := ⟨_, rfl⟩
  obtain ⟨locs, el⟩ : ∃ locs : List Loc, locs = [] := ⟨_, rfl⟩
  rw [← eH] at hP ⊢
  have hS : va_S (zA G 64 s.heap.size) s.heap H locs := by rw [eH, el]; exact hS
  rw [← el]
  refine lv_aload_n hx hb dX2_nextNumber_0 rfl (lv_at hl 0 rfl) ?_
  refine lv_iconst (v := (0 : Int32)) hx hb dX2_nextNumber_1 (by decide) ?_
  refine zr_put (C := RX2) (T := TX2) (n := 9) C0 hJ hP hS 2 (by decide) shX_2 8 rfl (by decide) uw_X2 tyX2 tyX2_ok nmX2 mw_178 rfl rfl ⟨rfl, rfl⟩ dX2_nextNumber_2 (fun H locs hP hS => ?_)
  obtain ⟨M_1, eM_1, hf⟩ := zL_o hf
  have hP : va_P G.1 zcl (zw G shX 64 M_1) H := by rw [eM_1]; exact hP
  exact L5 zF M_1 H locs ls (lv_sub hl [0] rfl) hP hS hf
def fX2_wordNumber_B11 (r11 : Int32 → Int32 → Int32 → Int32 → Int32 → Int32 → zM → Option (Int32 × zM)) (x1 : Int32) (x2 : Int32) (x3 : Int32) (x4 : Int32) (x5 : Int32) (x6 : Int32) (M : zM) : Option (Int32 × zM) :=
  zB (fJ0_length_8abf5 1 M) fun r_3 M_1 =>
  if r_3 ≤ x6 then
    some ((-1 : Int32), M_1)
  else
    zB (fJ0_charAt_5068e 1 x6 M_1) fun r_7 M_5 =>
    if r_7 = (32 : Int32) then
      if x5 = (0 : Int32) then
        zL (x3 + (1 : Int32)) fun x3_10 =>
        zL (x6 + (1 : Int32)) fun x6_11 =>
        r11 x1 x2 x3_10 x1 (1 : Int32) x6_11 M_5
      else
        if x4 = x2 then
          some (x3, M_5)
        else
          zL (x3 + (1 : Int32)) fun x3_13 =>
          zL (x6 + (1 : Int32)) fun x6_14 =>
          r11 x1 x2 x3_13 x1 (1 : Int32) x6_14 M_5
    else
      if x5 = (0 : Int32) then
        zL (x4 + (1 : Int32)) fun x4_16 =>
        zL (x6 + (1 : Int32)) fun x6_17 =>
        r11 x1 x2 x3 x4_16 (0 : Int32) x6_17 M_5
      else
        if x2 ≤ x4 then
          zL (x4 + (1 : Int32)) fun x4_19 =>
          zL (x6 + (1 : Int32)) fun x6_20 =>
          r11 x1 x2 x3 x4_19 (0 : Int32) x6_20 M_5
        else
          zG (zin x4 160) <|
          if (M_5.1 3 x4.toNatClampNeg) = r_7 then
            zL (x4 + (1 : Int32)) fun x4_25 =>
            zL (x6 + (1 : Int32)) fun x6_26 =>
            r11 x1 x2 x3 x4_25 (1 : Int32) x6_26 M_5
          else
            zL (x4 + (1 : Int32)) fun x4_23 =>
            zL (x6 + (1 : Int32)) fun x6_24 =>
            r11 x1 x2 x3 x4_23 (0 : Int32) x6_24 M_5
def fX2_wordNumber_L11 : Nat → Int32 → Int32 → Int32 → Int32 → Int32 → Int32 → zM → Option (Int32 × zM)
  | 0 => fun _ _ _ _ _ _ _ => none
  | j9 + 1 => fX2_wordNumber_B11 (fX2_wordNumber_L11 j9)
def fX2_wordNumber (x1 : Int32) (x2 : Int32) (M : zM) : Option (Int32 × zM) :=
  fX2_wordNumber_L11 zF x1 x2 (0 : Int32) x1 (1 : Int32) (0 : Int32) M
set_option maxHeartbeats 4000000 in
set_option maxRecDepth 100000 in
theorem mtX2_wordNumber (l : Launch) (G : zGr) (hJ : zJ G 64) (x1 : Int32) (x2 : Int32) (M : zM) (o : Int32 × zM) (hf : fX2_wordNumber x1 x2 M = some o) : zMi l G shX 64 yX2_wordNumber cX2_wordNumber 8 (some .int) 4 85 [.ref (G.2.2.1 2), .int x1, .int x2] M o := by
  intro sz
  refine zOf (by decide) (Nat.le_of_ble_eq_true rfl) ?_
  intro p e R Q s m args below meth c hRm hsz hQ C0 hP hS ls hl
  subst hsz
  replace hRm : R = { frames := 4, cells := 0, slots := 0, locals := 85 } := hRm
  have hl : lv_has ls 8 [(0, .ref (G.2.2.1 2)), (1, .int x1), (2, .int x2)] := hl
  have hx := C0.1
  have hb := C0.2.1
  have hown := C0.2.2.2.1
  have hts := C0.2.2.2.2.1
  have L11 : ∀ (n11 : Nat), ∀ (x1 : Int32) (x2 : Int32) (x3 : Int32) (x4 : Int32) (x5 : Int32) (x6 : Int32) (M : zM) (H : Heap) (locs : List Loc) (ls : Array Slot), lv_has ls 8 [(0, .ref (G.2.2.1 2)), (1, .int x1), (2, .int x2), (3, .int x3), (4, .int x4), (5, .int x5), (6, .int x6)] → va_P G.1 zcl (zw G shX 64 M) H → va_S (zA G 64 s.heap.size) s.heap H locs → fX2_wordNumber_L11 n11 x1 x2 x3 x4 x5 x6 M = some o → W p l e R s m args below meth c H locs 0 0 Q (F0 m 11 ls []) := by
    intro n11
    induction n11 with
    | zero => intro x1 x2 x3 x4 x5 x6 M H locs ls hl hP hS hf; exact zn_s (show none = some o from hf)
    | succ n11 ih11 =>
      intro x1 x2 x3 x4 x5 x6 M H locs ls hl hP hS hf
      replace hf : fX2_wordNumber_B11 (fX2_wordNumber_L11 n11) x1 x2 x3 x4 x5 x6 M = some o := hf
      unfold fX2_wordNumber_B11 at hf
      refine lv_iload hx hb dX2_wordNumber_11 (lv_at hl 6 rfl) ?_
      refine va_ldcS hx hb hown (C0.2.2.2.2.2.2.2.2.2.2.2.1 1 _ rfl) dX2_wordNumber_13 ?_
      obtain ⟨r_3, M_1, hc_2, hf⟩ := zB_o hf
      refine zc_xi (As := []) (rest := [.int x6]) C0 hP hS hl.1 1 (by decide) (mtJ0_length_8abf5 l G hJ 1 (by decide) M _ hc_2) lk_X2_94 rfl ds_J0_length_8abf5 (by rw [hRm]; exact ⟨Nat.le_of_ble_eq_true rfl, Nat.le_of_ble_eq_true rfl⟩) rfl rfl (Nat.le_of_ble_eq_true rfl) dX2_wordNumber_15 ⟨Nat.zero_le _, Nat.zero_le _⟩ (fun H locs hP hS => ?_)
      refine lv_icmp_ge (tgt := 101) hx hb dX2_wordNumber_18 (by decide) (fun c_4 => ?_) (fun c_4 => ?_)
      · replace hf := zI_t c_4 hf
        refine lv_iconst (v := (-1 : Int32)) hx hb dX2_wordNumber_101 (by decide) ?_
        exact ze_i C0 hP hS hf dX2_wordNumber_102 hQ
      · replace hf := zI_f c_4 hf
        refine va_ldcS hx hb hown (C0.2.2.2.2.2.2.2.2.2.2.2.1 1 _ rfl) dX2_wordNumber_21 ?_
        refine lv_iload hx hb dX2_wordNumber_23 (lv_at hl 6 rfl) ?_
        obtain ⟨r_7, M_5, hc_6, hf⟩ := zB_o hf
        refine zc_xi (As := [.int x6]) (rest := []) C0 hP hS hl.1 1 (by decide) (mtJ0_charAt_5068e l G hJ 1 (by decide) x6 M_1 _ hc_6) lk_X2_98 rfl ds_J0_charAt_5068e (by rw [hRm]; exact ⟨Nat.le_of_ble_eq_true rfl, Nat.le_of_ble_eq_true rfl⟩) rfl rfl (Nat.le_of_ble_eq_true rfl) dX2_wordNumber_25 ⟨Nat.zero_le _, Nat.zero_le _⟩ (fun H locs hP hS => ?_)
        refine lv_istore (lv' := [(7, .int r_7), (0, .ref (G.2.2.1 2)), (1, .int x1), (2, .int x2), (3, .int x3), (4, .int x4), (5, .int x5), (6, .int x6)]) hx hb dX2_wordNumber_28 hl (by decide) rfl (fun ls hl => ?_)
        refine lv_iload hx hb dX2_wordNumber_30 (lv_at hl 0 rfl) ?_
        refine lv_bipush (v := (32 : Int32)) hx hb dX2_wordNumber_32 (by decide) ?_
        refine lv_icmp_eq (tgt := 73) hx hb dX2_wordNumber_34 (by decide) (fun c_8 => ?_) (fun c_8 => ?_)
        · replace hf := zI_t c_8 hf
          refine lv_iload hx hb dX2_wordNumber_73 (lv_at hl 6 rfl) ?_
          refine lv_if_eq (tgt := 86) hx hb dX2_wordNumber_75 (by decide) (fun c_9 => ?_) (fun c_9 => ?_)
          · replace hf := zI_t c_9 hf
            obtain ⟨x3_10, ex3_10, hf⟩ := zL_o hf
            refine lv_iinc (v := x3_10) (lv' := [(3, .int x3_10), (7, .int r_7), (0, .ref (G.2.2.1 2)), (1, .int x1), (2, .int x2), (4, .int x4), (5, .int x5), (6, .int x6)]) hx hb dX2_wordNumber_86 hl (k := 4) rfl (by rw [ex3_10]; rfl) (by decide) rfl (fun ls hl => ?_)
            refine lv_iload_n hx hb dX2_wordNumber_89 rfl (lv_at hl 3 rfl) ?_
            refine lv_istore (lv' := [(4, .int x1), (3, .int x3_10), (7, .int r_7), (0, .ref (G.2.2.1 2)), (1, .int x1), (2, .int x2), (5, .int x5), (6, .int x6)]) hx hb dX2_wordNumber_90 hl (by decide) rfl (fun ls hl => ?_)
            refine lv_iconst (v := (1 : Int32)) hx hb dX2_wordNumber_92 (by decide) ?_
            refine lv_istore (lv' := [(5, .int (1 : Int32)), (4, .int x1), (3, .int x3_10), (7, .int r_7), (0, .ref (G.2.2.1 2)), (1, .int x1), (2, .int x2), (6, .int x6)]) hx hb dX2_wordNumber_93 hl (by decide) rfl (fun ls hl => ?_)
            obtain ⟨x6_11, ex6_11, hf⟩ := zL_o hf
            refine lv_iinc (v := x6_11) (lv' := [(6, .int x6_11), (5, .int (1 : Int32)), (4, .int x1), (3, .int x3_10), (7, .int r_7), (0, .ref (G.2.2.1 2)), (1, .int x1), (2, .int x2)]) hx hb dX2_wordNumber_95 hl (k := 7) rfl (by rw [ex6_11]; rfl) (by decide) rfl (fun ls hl => ?_)
            refine lv_goto (tgt := 11) hx hb dX2_wordNumber_98 (by decide) ?_
            exact ih11 x1 x2 x3_10 x1 (1 : Int32) x6_11 M_5 H locs ls (lv_sub hl [5, 6, 7, 3, 2, 1, 0] rfl) hP hS hf
          · replace hf := zI_f c_9 hf
            refine lv_iload hx hb dX2_wordNumber_78 (lv_at hl 5 rfl) ?_
            refine lv_iload_n hx hb dX2_wordNumber_80 rfl (lv_at hl 3 rfl) ?_
            refine lv_icmp_ne (tgt := 86) hx hb dX2_wordNumber_81 (by decide) (fun c_12 => ?_) (fun c_12 => ?_)
            · replace hf := zI_f c_12 hf
              obtain ⟨x3_13, ex3_13, hf⟩ := zL_o hf
              refine lv_iinc (v := x3_13) (lv' := [(3, .int x3_13), (7, .int r_7), (0, .ref (G.2.2.1 2)), (1, .int x1), (2, .int x2), (4, .int x4), (5, .int x5), (6, .int x6)]) hx hb dX2_wordNumber_86 hl (k := 4) rfl (by rw [ex3_13]; rfl) (by decide) rfl (fun ls hl => ?_)
              refine lv_iload_n hx hb dX2_wordNumber_89 rfl (lv_at hl 3 rfl) ?_
              refine lv_istore (lv' := [(4, .int x1), (3, .int x3_13), (7, .int r_7), (0, .ref (G.2.2.1 2)), (1, .int x1), (2, .int x2), (5, .int x5), (6, .int x6)]) hx hb dX2_wordNumber_90 hl (by decide) rfl (fun ls hl => ?_)
              refine lv_iconst (v := (1 : Int32)) hx hb dX2_wordNumber_92 (by decide) ?_
              refine lv_istore (lv' := [(5, .int (1 : Int32)), (4, .int x1), (3, .int x3_13), (7, .int r_7), (0, .ref (G.2.2.1 2)), (1, .int x1), (2, .int x2), (6, .int x6)]) hx hb dX2_wordNumber_93 hl (by decide) rfl (fun ls hl => ?_)
              obtain ⟨x6_14, ex6_14, hf⟩ := zL_o hf
              refine lv_iinc (v := x6_14) (lv' := [(6, .int x6_14), (5, .int (1 : Int32)), (4, .int x1), (3, .int x3_13), (7, .int r_7), (0, .ref (G.2.2.1 2)), (1, .int x1), (2, .int x2)]) hx hb dX2_wordNumber_95 hl (k := 7) rfl (by rw [ex6_14]; rfl) (by decide) rfl (fun ls hl => ?_)
              refine lv_goto (tgt := 11) hx hb dX2_wordNumber_98 (by decide) ?_
              exact ih11 x1 x2 x3_13 x1 (1 : Int32) x6_14 M_5 H locs ls (lv_sub hl [5, 6, 7, 3, 2, 1, 0] rfl) hP hS hf
            · replace hf := zI_t c_12 hf
              refine lv_iload_n hx hb dX2_wordNumber_84 rfl (lv_at hl 4 rfl) ?_
              exact ze_i C0 hP hS hf dX2_wordNumber_85 hQ
        · replace hf := zI_f c_8 hf
          refine lv_iload hx hb dX2_wordNumber_37 (lv_at hl 6 rfl) ?_
          refine lv_if_eq (tgt := 64) hx hb dX2_wordNumber_39 (by decide) (fun c_15 => ?_) (fun c_15 => ?_)
          · replace hf := zI_t c_15 hf
            refine lv_iconst (v := (0 : Int32)) hx hb dX2_wordNumber_64 (by decide) ?_
            refine lv_istore (lv' := [(5, .int (0 : Int32)), (7, .int r_7), (0, .ref (G.2.2.1 2)), (1, .int x1), (2, .int x2), (3, .int x3), (4, .int x4), (6, .int x6)]) hx hb dX2_wordNumber_65 hl (by decide) rfl (fun ls hl => ?_)
            obtain ⟨x4_16, ex4_16, hf⟩ := zL_o hf
            refine lv_iinc (v := x4_16) (lv' := [(4, .int x4_16), (5, .int (0 : Int32)), (7, .int r_7), (0, .ref (G.2.2.1 2)), (1, .int x1), (2, .int x2), (3, .int x3), (6, .int x6)]) hx hb dX2_wordNumber_67 hl (k := 6) rfl (by rw [ex4_16]; rfl) (by decide) rfl (fun ls hl => ?_)
            refine lv_goto (tgt := 95) hx hb dX2_wordNumber_70 (by decide) ?_
            obtain ⟨x6_17, ex6_17, hf⟩ := zL_o hf
            refine lv_iinc (v := x6_17) (lv' := [(6, .int x6_17), (4, .int x4_16), (5, .int (0 : Int32)), (7, .int r_7), (0, .ref (G.2.2.1 2)), (1, .int x1), (2, .int x2), (3, .int x3)]) hx hb dX2_wordNumber_95 hl (k := 7) rfl (by rw [ex6_17]; rfl) (by decide) rfl (fun ls hl => ?_)
            refine lv_goto (tgt := 11) hx hb dX2_wordNumber_98 (by decide) ?_
            exact ih11 x1 x2 x3 x4_16 (0 : Int32) x6_17 M_5 H locs ls (lv_sub hl [4, 5, 6, 7, 1, 2, 0] rfl) hP hS hf
          · replace hf := zI_f c_15 hf
            refine lv_iload hx hb dX2_wordNumber_42 (lv_at hl 5 rfl) ?_
            refine lv_iload_n hx hb dX2_wordNumber_44 rfl (lv_at hl 3 rfl) ?_
            refine lv_icmp_ge (tgt := 64) hx hb dX2_wordNumber_45 (by decide) (fun c_18 => ?_) (fun c_18 => ?_)
            · replace hf := zI_t c_18 hf
              refine lv_iconst (v := (0 : Int32)) hx hb dX2_wordNumber_64 (by decide) ?_
              refine lv_istore (lv' := [(5, .int (0 : Int32)), (7, .int r_7), (0, .ref (G.2.2.1 2)), (1, .int x1), (2, .int x2), (3, .int x3), (4, .int x4), (6, .int x6)]) hx hb dX2_wordNumber_65 hl (by decide) rfl (fun ls hl => ?_)
              obtain ⟨x4_19, ex4_19, hf⟩ := zL_o hf
              refine lv_iinc (v := x4_19) (lv' := [(4, .int x4_19), (5, .int (0 : Int32)), (7, .int r_7), (0, .ref (G.2.2.1 2)), (1, .int x1), (2, .int x2), (3, .int x3), (6, .int x6)]) hx hb dX2_wordNumber_67 hl (k := 6) rfl (by rw [ex4_19]; rfl) (by decide) rfl (fun ls hl => ?_)
              refine lv_goto (tgt := 95) hx hb dX2_wordNumber_70 (by decide) ?_
              obtain ⟨x6_20, ex6_20, hf⟩ := zL_o hf
              refine lv_iinc (v := x6_20) (lv' := [(6, .int x6_20), (4, .int x4_19), (5, .int (0 : Int32)), (7, .int r_7), (0, .ref (G.2.2.1 2)), (1, .int x1), (2, .int x2), (3, .int x3)]) hx hb dX2_wordNumber_95 hl (k := 7) rfl (by rw [ex6_20]; rfl) (by decide) rfl (fun ls hl => ?_)
              refine lv_goto (tgt := 11) hx hb dX2_wordNumber_98 (by decide) ?_
              exact ih11 x1 x2 x3 x4_19 (0 : Int32) x6_20 M_5 H locs ls (lv_sub hl [4, 5, 6, 7, 1, 2, 0] rfl) hP hS hf
            · replace hf := zI_f c_18 hf
              refine lv_aload_n hx hb dX2_wordNumber_48 rfl (lv_at hl 1 rfl) ?_
              refine zr_getq (C := RX2) (T := TX2) (n := 9) C0 hP 2 (by decide) shX_2 0 3 rfl (by decide) uw_X2 mw_175 rfl dX2_wordNumber_49 ?_
              refine lv_iload hx hb dX2_wordNumber_52 (lv_at hl 5 rfl) ?_
              obtain ⟨hg_21, hf⟩ := zG_o hf
              refine zr_iald C0 hP 3 (by decide) shX_3 hg_21 dX2_wordNumber_54 ?_
              refine lv_iload hx hb dX2_wordNumber_55 (lv_at hl 0 rfl) ?_
              refine lv_icmp_ne (tgt := 64) hx hb dX2_wordNumber_57 (by decide) (fun c_22 => ?_) (fun c_22 => ?_)
              · replace hf := zI_f c_22 hf
                refine lv_iconst (v := (0 : Int32)) hx hb dX2_wordNumber_64 (by decide) ?_
                refine lv_istore (lv' := [(5, .int (0 : Int32)), (7, .int r_7), (0, .ref (G.2.2.1 2)), (1, .int x1), (2, .int x2), (3, .int x3), (4, .int x4), (6, .int x6)]) hx hb dX2_wordNumber_65 hl (by decide) rfl (fun ls hl => ?_)
                obtain ⟨x4_23, ex4_23, hf⟩ := zL_o hf
                refine lv_iinc (v := x4_23) (lv' := [(4, .int x4_23), (5, .int (0 : Int32)), (7, .int r_7), (0, .ref (G.2.2.1 2)), (1, .int x1), (2, .int x2), (3, .int x3), (6, .int x6)]) hx hb dX2_wordNumber_67 hl (k := 6) rfl (by rw [ex4_23]; rfl) (by decide) rfl (fun ls hl => ?_)
                refine lv_goto (tgt := 95) hx hb dX2_wordNumber_70 (by decide) ?_
                obtain ⟨x6_24, ex6_24, hf⟩ := zL_o hf
                refine lv_iinc (v := x6_24) (lv' := [(6, .int x6_24), (4, .int x4_23), (5, .int (0 : Int32)), (7, .int r_7), (0, .ref (G.2.2.1 2)), (1, .int x1), (2, .int x2), (3, .int x3)]) hx hb dX2_wordNumber_95 hl (k := 7) rfl (by rw [ex6_24]; rfl) (by decide) rfl (fun ls hl => ?_)
                refine lv_goto (tgt := 11) hx hb dX2_wordNumber_98 (by decide) ?_
                exact ih11 x1 x2 x3 x4_23 (0 : Int32) x6_24 M_5 H locs ls (lv_sub hl [4, 5, 6, 7, 1, 2, 0] rfl) hP hS hf
              · replace hf := zI_t c_22 hf
                refine lv_iconst (v := (1 : Int32)) hx hb dX2_wordNumber_60 (by decide) ?_
                refine lv_goto (tgt := 65) hx hb dX2_wordNumber_61 (by decide) ?_
                refine lv_istore (lv' := [(5, .int (1 : Int32)), (7, .int r_7), (0, .ref (G.2.2.1 2)), (1, .int x1), (2, .int x2), (3, .int x3), (4, .int x4), (6, .int x6)]) hx hb dX2_wordNumber_65 hl (by decide) rfl (fun ls hl => ?_)
                obtain ⟨x4_25, ex4_25, hf⟩ := zL_o hf
                refine lv_iinc (v := x4_25) (lv' := [(4, .int x4_25), (5, .int (1 : Int32)), (7, .int r_7), (0, .ref (G.2.2.1 2)), (1, .int x1), (2, .int x2), (3, .int x3), (6, .int x6)]) hx hb dX2_wordNumber_67 hl (k := 6) rfl (by rw [ex4_25]; rfl) (by decide) rfl (fun ls hl => ?_)
                refine lv_goto (tgt := 95) hx hb dX2_wordNumber_70 (by decide) ?_
                obtain ⟨x6_26, ex6_26, hf⟩ := zL_o hf
                refine lv_iinc (v := x6_26) (lv' := [(6, .int x6_26), (4, .int x4_25), (5, .int (1 : Int32)), (7, .int r_7), (0, .ref (G.2.2.1 2)), (1, .int x1), (2, .int x2), (3, .int x3)]) hx hb dX2_wordNumber_95 hl (k := 7) rfl (by rw [ex6_26]; rfl) (by decide) rfl (fun ls hl => ?_)
                refine lv_goto (tgt := 11) hx hb dX2_wordNumber_98 (by decide) ?_
                exact ih11 x1 x2 x3 x4_25 (1 : Int32) x6_26 M_5 H locs ls (lv_sub hl [4, 5, 6, 7, 1, 2, 0] rfl) hP hS hf
  unfold fX2_wordNumber at hf
  obtain ⟨H, eH⟩ : ∃ H, H = s.heap := ⟨_, rfl⟩
  obtain ⟨locs, el⟩ : ∃ locs : List Loc, locs = [] := ⟨_, rfl⟩
  rw [← eH] at hP ⊢
  have hS : va_S (zA G 64 s.heap.size) s.heap H locs := by rw [eH, el]; exact hS
  rw [← el]
  refine lv_iconst (v := (0 : Int32)) hx hb dX2_wordNumber_0 (by decide) ?_
  refine lv_istore_n (lv' := [(3, .int (0 : Int32)), (0, .ref (G.2.2.1 2)), (1, .int x1), (2, .int x2)]) hx hb dX2_wordNumber_1 rfl hl (by decide) rfl (fun ls hl => ?_)
  refine lv_iload_n hx hb dX2_wordNumber_2 rfl (lv_at hl 2 rfl) ?_
  refine lv_istore (lv' := [(4, .int x1), (3, .int (0 : Int32)), (0, .ref (G.2.2.1 2)), (1, .int x1), (2, .int x2)]) hx hb dX2_wordNumber_3 hl (by decide) rfl (fun ls hl => ?_)
  refine lv_iconst (v := (1 : Int32)) hx hb dX2_wordNumber_5 (by decide) ?_
  refine lv_istore (lv' := [(5, .int (1 : Int32)), (4, .int x1), (3, .int (0 : Int32)), (0, .ref (G.2.2.1 2)), (1, .int x1), (2, .int x2)]) hx hb dX2_wordNumber_6 hl (by decide) rfl (fun ls hl => ?_)
  refine lv_iconst (v := (0 : Int32)) hx hb dX2_wordNumber_8 (by decide) ?_
  refine lv_istore (lv' := [(6, .int (0 : Int32)), (5, .int (1 : Int32)), (4, .int x1), (3, .int (0 : Int32)), (0, .ref (G.2.2.1 2)), (1, .int x1), (2, .int x2)]) hx hb dX2_wordNumber_9 hl (by decide) rfl (fun ls hl => ?_)
  exact L11 zF x1 x2 (0 : Int32) x1 (1 : Int32) (0 : Int32) M H locs ls (lv_sub hl [4, 5, 6, 3, 2, 1, 0] rfl) hP hS hf
def fX2_nextWord_J35 (M : zM) : Option (zM) :=
  zB (fX2_wordNumber (M.1 2 7) (M.1 2 5) M) fun r_4 M_2 =>
  zL (zu M_2 2 8 r_4) fun M_5 =>
  if (M_5.1 2 8) = (-1 : Int32) then
    zL (zu M_5 2 6 (1 : Int32)) fun M_10 =>
    some M_10
  else
    if (6 : Int32) ≤ (M_5.1 2 8) then
      zL (zu M_5 2 6 (((4 : Int32) + (M_5.1 2 8)) - (6 : Int32))) fun M_8 =>
      some M_8
    else
      zL (zu M_5 2 6 (3 : Int32)) fun M_9 =>
      some M_9
def fX2_nextWord_B0 (r0 : zM → Option (zM)) (M : zM) : Option (zM) :=
  if (M.1 2 3) ≤ (M.1 2 5) then
    fX2_nextWord_J35 M
  else
    zB (fX2_isLetter (M.1 2 5) M) fun r_13 M_11 =>
    if r_13 = (0 : Int32) then
      fX2_nextWord_J35 M_11
    else
      zL (zu M_11 2 5 ((M_11.1 2 5) + (1 : Int32))) fun M_15 =>
      r0 M_15
def fX2_nextWord_L0 : Nat → zM → Option (zM)
  | 0 => fun _ => none
  | j9 + 1 => fX2_nextWord_B0 (fX2_nextWord_L0 j9)
def fX2_nextWord (M : zM) : Option (zM) :=
  fX2_nextWord_L0 zF M
set_option maxHeartbeats 4000000 in
set_option maxRecDepth 100000 in
theorem mtX2_nextWord (l : Launch) (G : zGr) (hJ : zJ G 64) (M : zM) (o : zM) (hf : fX2_nextWord M = some o) : zMv l G shX 64 yX2_nextWord cX2_nextWord 1 none 5 112 [.ref (G.2.2.1 2)] M o := by
  intro sz
  refine zOf (by decide) (Nat.le_of_ble_eq_true rfl) ?_
  intro p e R Q s m args below meth c hRm hsz hQ C0 hP hS ls hl
  subst hsz
  replace hRm : R = { frames := 5, cells := 0, slots := 0, locals := 112 } := hRm
  have hl : lv_has ls 1 [(0, .ref (G.2.2.1 2))] := hl
  have hx := C0.1
  have hb := C0.2.1
  have hown := C0.2.2.2.1
  have hts := C0.2.2.2.2.1
  have J35 : ∀ (M : zM) (H : Heap) (locs : List Loc) (ls : Array Slot), lv_has ls 1 [(0, .ref (G.2.2.1 2))] → va_P G.1 zcl (zw G shX 64 M) H → va_S (zA G 64 s.heap.size) s.heap H locs → fX2_nextWord_J35 M = some o → W p l e R s m args below meth c H locs 0 0 Q (F0 m 35 ls []) := by
    intro M H locs ls hl hP hS hf
    unfold fX2_nextWord_J35 at hf
    refine lv_aload_n hx hb dX2_nextWord_35 rfl (lv_at hl 0 rfl) ?_
    refine lv_aload_n hx hb dX2_nextWord_36 rfl (lv_at hl 0 rfl) ?_
    refine lv_aload_n hx hb dX2_nextWord_37 rfl (lv_at hl 0 rfl) ?_
    refine zr_get (C := RX2) (T := TX2) (n := 9) C0 hP 2 (by decide) shX_2 7 rfl (by decide) uw_X2 mw_180 rfl dX2_nextWord_38 ?_
    refine lv_aload_n hx hb dX2_nextWord_41 rfl (lv_at hl 0 rfl) ?_
    refine zr_get (C := RX2) (T := TX2) (n := 9) C0 hP 2 (by decide) shX_2 5 rfl (by decide) uw_X2 mw_179 rfl dX2_nextWord_42 ?_
    obtain ⟨r_4, M_2, hc_3, hf⟩ := zB_o hf
    refine zc_vi (As := [.int (M.1 2 7), .int (M.1 2 5)]) (rest := [.ref (G.2.2.1 2)]) C0 hP hS hl.1 2 (mtX2_wordNumber l G hJ (M.1 2 7) (M.1 2 5) M _ hc_3) lk_X2_88 (by decide) shX_2 (T := TX2) (n' := 9) rfl ds_X2_wordNumber (by rw [hRm]; exact ⟨Nat.le_of_ble_eq_true rfl, Nat.le_of_ble_eq_true rfl⟩) rfl rfl (Nat.le_of_ble_eq_true rfl) dX2_nextWord_45 ⟨Nat.zero_le _, Nat.zero_le _⟩ (fun H locs hP hS => ?_)
    refine zr_put (C := RX2) (T := TX2) (n := 9) C0 hJ hP hS 2 (by decide) shX_2 8 rfl (by decide) uw_X2 tyX2 tyX2_ok nmX2 mw_178 rfl rfl ⟨rfl, rfl⟩ dX2_nextWord_48 (fun H locs hP hS => ?_)
    obtain ⟨M_5, eM_5, hf⟩ := zL_o hf
    have hP : va_P G.1 zcl (zw G shX 64 M_5) H := by rw [eM_5]; exact hP
    refine lv_aload_n hx hb dX2_nextWord_51 rfl (lv_at hl 0 rfl) ?_
    refine zr_get (C := RX2) (T := TX2) (n := 9) C0 hP 2 (by decide) shX_2 8 rfl (by decide) uw_X2 mw_178 rfl dX2_nextWord_52 ?_
    refine lv_iconst (v := (-1 : Int32)) hx hb dX2_nextWord_55 (by decide) ?_
    refine lv_icmp_ne (tgt := 67) hx hb dX2_nextWord_56 (by decide) (fun c_6 => ?_) (fun c_6 => ?_)
    · replace hf := zI_f c_6 hf
      refine lv_aload_n hx hb dX2_nextWord_67 rfl (lv_at hl 0 rfl) ?_
      refine lv_aload_n hx hb dX2_nextWord_68 rfl (lv_at hl 0 rfl) ?_
      refine zr_get (C := RX2) (T := TX2) (n := 9) C0 hP 2 (by decide) shX_2 8 rfl (by decide) uw_X2 mw_178 rfl dX2_nextWord_69 ?_
      refine lv_bipush (v := (6 : Int32)) hx hb dX2_nextWord_72 (by decide) ?_
      refine lv_icmp_ge (tgt := 81) hx hb dX2_nextWord_74 (by decide) (fun c_7 => ?_) (fun c_7 => ?_)
      · replace hf := zI_t c_7 hf
        refine lv_iconst (v := (4 : Int32)) hx hb dX2_nextWord_81 (by decide) ?_
        refine lv_aload_n hx hb dX2_nextWord_82 rfl (lv_at hl 0 rfl) ?_
        refine zr_get (C := RX2) (T := TX2) (n := 9) C0 hP 2 (by decide) shX_2 8 rfl (by decide) uw_X2 mw_178 rfl dX2_nextWord_83 ?_
        refine lv_iadd hx hb dX2_nextWord_86 ?_
        refine lv_bipush (v := (6 : Int32)) hx hb dX2_nextWord_87 (by decide) ?_
        refine lv_isub hx hb dX2_nextWord_89 ?_
        refine zr_put (C := RX2) (T := TX2) (n := 9) C0 hJ hP hS 2 (by decide) shX_2 6 rfl (by decide) uw_X2 tyX2 tyX2_ok nmX2 mw_181 rfl rfl ⟨rfl, rfl⟩ dX2_nextWord_90 (fun H locs hP hS => ?_)
        obtain ⟨M_8, eM_8, hf⟩ := zL_o hf
        have hP : va_P G.1 zcl (zw G shX 64 M_8) H := by rw [eM_8]; exact hP
        exact ze_v C0 hP hS hf dX2_nextWord_93 hQ
      · replace hf := zI_f c_7 hf
        refine lv_iconst (v := (3 : Int32)) hx hb dX2_nextWord_77 (by decide) ?_
        refine lv_goto (tgt := 90) hx hb dX2_nextWord_78 (by decide) ?_
        refine zr_put (C := RX2) (T := TX2) (n := 9) C0 hJ hP hS 2 (by decide) shX_2 6 rfl (by decide) uw_X2 tyX2 tyX2_ok nmX2 mw_181 rfl rfl ⟨rfl, rfl⟩ dX2_nextWord_90 (fun H locs hP hS => ?_)
        obtain ⟨M_9, eM_9, hf⟩ := zL_o hf
        have hP : va_P G.1 zcl (zw G shX 64 M_9) H := by rw [eM_9]; exact hP
        exact ze_v C0 hP hS hf dX2_nextWord_93 hQ
    · replace hf := zI_t c_6 hf
      refine lv_aload_n hx hb dX2_nextWord_59 rfl (lv_at hl 0 rfl) ?_
      refine lv_iconst (v := (1 : Int32)) hx hb dX2_nextWord_60 (by decide) ?_
      refine zr_put (C := RX2) (T := TX2) (n := 9) C0 hJ hP hS 2 (by decide) shX_2 6 rfl (by decide) uw_X2 tyX2 tyX2_ok nmX2 mw_181 rfl rfl ⟨rfl, rfl⟩ dX2_nextWord_61 (fun H locs hP hS => ?_)
      obtain ⟨M_10, eM_10, hf⟩ := zL_o hf
      have hP : va_P G.1 zcl (zw G shX 64 M_10) H := by rw [eM_10]; exact hP
      refine lv_goto (tgt := 93) hx hb dX2_nextWord_64 (by decide) ?_
      exact ze_v C0 hP hS hf dX2_nextWord_93 hQ
  have L0 : ∀ (n0 : Nat), ∀ (M : zM) (H : Heap) (locs : List Loc) (ls : Array Slot), lv_has ls 1 [(0, .ref (G.2.2.1 2))] → va_P G.1 zcl (zw G shX 64 M) H → va_S (zA G 64 s.heap.size) s.heap H locs → fX2_nextWord_L0 n0 M = some o → W p l e R s m args below meth c H locs 0 0 Q (F0 m 0 ls []) := by
    intro n0
    induction n0 with
    | zero => intro M H locs ls hl hP hS hf; exact zn_s (show none = some o from hf)
    | succ n0 ih0 =>
      intro M H locs ls hl hP hS hf
      replace hf : fX2_nextWord_B0 (fX2_nextWord_L0 n0) M = some o := hf
      unfold fX2_nextWord_B0 at hf
      refine lv_aload_n hx hb dX2_nextWord_0 rfl (lv_at hl 0 rfl) ?_
      refine zr_get (C := RX2) (T := TX2) (n := 9) C0 hP 2 (by decide) shX_2 5 rfl (by decide) uw_X2 mw_179 rfl dX2_nextWord_1 ?_
      refine lv_aload_n hx hb dX2_nextWord_4 rfl (lv_at hl 0 rfl) ?_
      refine zr_get (C := RX2) (T := TX2) (n := 9) C0 hP 2 (by decide) shX_2 3 rfl (by decide) uw_X2 mw_174 rfl dX2_nextWord_5 ?_
      refine lv_icmp_ge (tgt := 35) hx hb dX2_nextWord_8 (by decide) (fun c_1 => ?_) (fun c_1 => ?_)
      · replace hf := zI_t c_1 hf
        exact J35 M H locs ls (lv_sub hl [0] rfl) hP hS hf
      · replace hf := zI_f c_1 hf
        refine lv_aload_n hx hb dX2_nextWord_11 rfl (lv_at hl 0 rfl) ?_
        refine lv_aload_n hx hb dX2_nextWord_12 rfl (lv_at hl 0 rfl) ?_
        refine zr_get (C := RX2) (T := TX2) (n := 9) C0 hP 2 (by decide) shX_2 5 rfl (by decide) uw_X2 mw_179 rfl dX2_nextWord_13 ?_
        obtain ⟨r_13, M_11, hc_12, hf⟩ := zB_o hf
        refine zc_vi (As := [.int (M.1 2 5)]) (rest := []) C0 hP hS hl.1 2 (mtX2_isLetter l G hJ (M.1 2 5) M _ hc_12) lk_X2_74 (by decide) shX_2 (T := TX2) (n' := 9) rfl ds_X2_isLetter (by rw [hRm]; exact ⟨Nat.le_of_ble_eq_true rfl, Nat.le_of_ble_eq_true rfl⟩) rfl rfl (Nat.le_of_ble_eq_true rfl) dX2_nextWord_16 ⟨Nat.zero_le _, Nat.zero_le _⟩ (fun H locs hP hS => ?_)
        refine lv_if_eq (tgt := 35) hx hb dX2_nextWord_19 (by decide) (fun c_14 => ?_) (fun c_14 => ?_)
        · replace hf := zI_t c_14 hf
          exact J35 M_11 H locs ls (lv_sub hl [0] rfl) hP hS hf
        · replace hf := zI_f c_14 hf
          refine lv_aload_n hx hb dX2_nextWord_22 rfl (lv_at hl 0 rfl) ?_
          refine lv_dup hx hb dX2_nextWord_23 rfl ?_
          refine zr_get (C := RX2) (T := TX2) (n := 9) C0 hP 2 (by decide) shX_2 5 rfl (by decide) uw_X2 mw_179 rfl dX2_nextWord_24 ?_
          refine lv_iconst (v := (1 : Int32)) hx hb dX2_nextWord_27 (by decide) ?_
          refine lv_iadd hx hb dX2_nextWord_28 ?_
          refine zr_put (C := RX2) (T := TX2) (n := 9) C0 hJ hP hS 2 (by decide) shX_2 5 rfl (by decide) uw_X2 tyX2 tyX2_ok nmX2 mw_179 rfl rfl ⟨rfl, rfl⟩ dX2_nextWord_29 (fun H locs hP hS => ?_)
          obtain ⟨M_15, eM_15, hf⟩ := zL_o hf
          have hP : va_P G.1 zcl (zw G shX 64 M_15) H := by rw [eM_15]; exact hP
          refine lv_goto (tgt := 0) hx hb dX2_nextWord_32 (by decide) ?_
          exact ih0 M_15 H locs ls (lv_sub hl [0] rfl) hP hS hf
  unfold fX2_nextWord at hf
  obtain ⟨H, eH⟩ : ∃ H, H = s.heap := ⟨_, rfl⟩
  obtain ⟨locs, el⟩ : ∃ locs : List Loc, locs = [] := ⟨_, rfl⟩
  rw [← eH] at hP ⊢
  have hS : va_S (zA G 64 s.heap.size) s.heap H locs := by rw [eH, el]; exact hS
  rw [← el]
  exact L0 zF M H locs ls (lv_sub hl [0] rfl) hP hS hf
def fX2_next_J52 (M : zM) : Option (zM) :=
  zL (zu M 2 7 (M.1 2 5)) fun M_2 =>
  if (M_2.1 2 5) < (M_2.1 2 3) then
    zB (fX2_isDigit (M_2.1 2 5) M_2) fun r_6 M_4 =>
    if r_6 = (0 : Int32) then
      zB (fX2_isLetter (M_4.1 2 5) M_4) fun r_10 M_8 =>
      if r_10 = (0 : Int32) then
        zG (zin (M_8.1 2 5) 160) <|
        zB (fJ0_indexOf_0f7a4 2 (zi2c (M_8.1 3 (M_8.1 2 5).toNatClampNeg)) M_8) fun r_15 M_13 =>
        if r_15 < (0 : Int32) then
          zL (zu M_13 2 6 (1 : Int32)) fun M_17 =>
          zL (zu M_17 2 5 ((M_17.1 2 5) + (1 : Int32))) fun M_18 =>
          some M_18
        else
          zG (zin (M_13.1 2 5) 160) <|
          zL (zu M_13 2 6 (M_13.1 3 (M_13.1 2 5).toNatClampNeg)) fun M_20 =>
          zL (zu M_20 2 5 ((M_20.1 2 5) + (1 : Int32))) fun M_21 =>
          some M_21
      else
        zV (fX2_nextWord M_8) fun M_22 =>
        some M_22
    else
      zV (fX2_nextNumber M_4) fun M_24 =>
      some M_24
  else
    zL (zu M_2 2 6 (0 : Int32)) fun M_26 =>
    some M_26
def fX2_next_B0 (r0 : zM → Option (zM)) (M : zM) : Option (zM) :=
  if (M.1 2 3) ≤ (M.1 2 5) then
    fX2_next_J52 M
  else
    zG (zin (M.1 2 5) 160) <|
    if (M.1 3 (M.1 2 5).toNatClampNeg) = (32 : Int32) then
      zL (zu M 2 5 ((M.1 2 5) + (1 : Int32))) fun M_29 =>
      r0 M_29
    else
      zG (zin (M.1 2 5) 160) <|
      if (M.1 3 (M.1 2 5).toNatClampNeg) = (10 : Int32) then
        zL (zu M 2 5 ((M.1 2 5) + (1 : Int32))) fun M_32 =>
        r0 M_32
      else
        fX2_next_J52 M
def fX2_next_L0 : Nat → zM → Option (zM)
  | 0 => fun _ => none
  | j9 + 1 => fX2_next_B0 (fX2_next_L0 j9)
def fX2_next (M : zM) : Option (zM) :=
  fX2_next_L0 zF M
set_option maxHeartbeats 4000000 in
set_option maxRecDepth 100000 in
theorem mtX2_next (l : Launch) (G : zGr) (hJ : zJ G 64) (M : zM) (o : zM) (hf : fX2_next M = some o) : zMv l G shX 64 yX2_next cX2_next 1 none 6 132 [.ref (G.2.2.1 2)] M o := by
  intro sz
  refine zOf (by decide) (Nat.le_of_ble_eq_true rfl) ?_
  intro p e R Q s m args below meth c hRm hsz hQ C0 hP hS ls hl
  subst hsz
  replace hRm : R = { frames := 6, cells := 0, slots := 0, locals := 132 } := hRm
  have hl : lv_has ls 1 [(0, .ref (G.2.2.1 2))] := hl
  have hx := C0.1
  have hb := C0.2.1
  have hown := C0.2.2.2.1
  have hts := C0.2.2.2.2.1
  have J52 : ∀ (M : zM) (H : Heap) (locs : List Loc) (ls : Array Slot), lv_has ls 1 [(0, .ref (G.2.2.1 2))] → va_P G.1 zcl (zw G shX 64 M) H → va_S (zA G 64 s.heap.size) s.heap H locs → fX2_next_J52 M = some o → W p l e R s m args below meth c H locs 0 0 Q (F0 m 52 ls []) := by
    intro M H locs ls hl hP hS hf
    unfold fX2_next_J52 at hf
    refine lv_aload_n hx hb dX2_next_52 rfl (lv_at hl 0 rfl) ?_
    refine lv_aload_n hx hb dX2_next_53 rfl (lv_at hl 0 rfl) ?_
    refine zr_get (C := RX2) (T := TX2) (n := 9) C0 hP 2 (by decide) shX_2 5 rfl (by decide) uw_X2 mw_179 rfl dX2_next_54 ?_
    refine zr_put (C := RX2) (T := TX2) (n := 9) C0 hJ hP hS 2 (by decide) shX_2 7 rfl (by decide) uw_X2 tyX2 tyX2_ok nmX2 mw_180 rfl rfl ⟨rfl, rfl⟩ dX2_next_57 (fun H locs hP hS => ?_)
    obtain ⟨M_2, eM_2, hf⟩ := zL_o hf
    have hP : va_P G.1 zcl (zw G shX 64 M_2) H := by rw [eM_2]; exact hP
    refine lv_aload_n hx hb dX2_next_60 rfl (lv_at hl 0 rfl) ?_
    refine zr_get (C := RX2) (T := TX2) (n := 9) C0 hP 2 (by decide) shX_2 5 rfl (by decide) uw_X2 mw_179 rfl dX2_next_61 ?_
    refine lv_aload_n hx hb dX2_next_64 rfl (lv_at hl 0 rfl) ?_
    refine zr_get (C := RX2) (T := TX2) (n := 9) C0 hP 2 (by decide) shX_2 3 rfl (by decide) uw_X2 mw_174 rfl dX2_next_65 ?_
    refine lv_icmp_lt (tgt := 79) hx hb dX2_next_68 (by decide) (fun c_3 => ?_) (fun c_3 => ?_)
    · replace hf := zI_t c_3 hf
      refine lv_aload_n hx hb dX2_next_79 rfl (lv_at hl 0 rfl) ?_
      refine lv_aload_n hx hb dX2_next_80 rfl (lv_at hl 0 rfl) ?_
      refine zr_get (C := RX2) (T := TX2) (n := 9) C0 hP 2 (by decide) shX_2 5 rfl (by decide) uw_X2 mw_179 rfl dX2_next_81 ?_
      obtain ⟨r_6, M_4, hc_5, hf⟩ := zB_o hf
      refine zc_vi (As := [.int (M_2.1 2 5)]) (rest := []) C0 hP hS hl.1 2 (mtX2_isDigit l G hJ (M_2.1 2 5) M_2 _ hc_5) lk_X2_68 (by decide) shX_2 (T := TX2) (n' := 9) rfl ds_X2_isDigit (by rw [hRm]; exact ⟨Nat.le_of_ble_eq_true rfl, Nat.le_of_ble_eq_true rfl⟩) rfl rfl (Nat.le_of_ble_eq_true rfl) dX2_next_84 ⟨Nat.zero_le _, Nat.zero_le _⟩ (fun H locs hP hS => ?_)
      refine lv_if_eq (tgt := 97) hx hb dX2_next_87 (by decide) (fun c_7 => ?_) (fun c_7 => ?_)
      · replace hf := zI_t c_7 hf
        refine lv_aload_n hx hb dX2_next_97 rfl (lv_at hl 0 rfl) ?_
        refine lv_aload_n hx hb dX2_next_98 rfl (lv_at hl 0 rfl) ?_
        refine zr_get (C := RX2) (T := TX2) (n := 9) C0 hP 2 (by decide) shX_2 5 rfl (by decide) uw_X2 mw_179 rfl dX2_next_99 ?_
        obtain ⟨r_10, M_8, hc_9, hf⟩ := zB_o hf
        refine zc_vi (As := [.int (M_4.1 2 5)]) (rest := []) C0 hP hS hl.1 2 (mtX2_isLetter l G hJ (M_4.1 2 5) M_4 _ hc_9) lk_X2_74 (by decide) shX_2 (T := TX2) (n' := 9) rfl ds_X2_isLetter (by rw [hRm]; exact ⟨Nat.le_of_ble_eq_true rfl, Nat.le_of_ble_eq_true rfl⟩) rfl rfl (Nat.le_of_ble_eq_true rfl) dX2_next_102 ⟨Nat.zero_le _, Nat.zero_le _⟩ (fun H locs hP hS => ?_)
        refine lv_if_eq (tgt := 115) hx hb dX2_next_105 (by decide) (fun c_11 => ?_) (fun c_11 => ?_)
        · replace hf := zI_t c_11 hf
          refine lv_aload_n hx hb dX2_next_115 rfl (lv_at hl 0 rfl) ?_
          refine va_ldcS hx hb hown (C0.2.2.2.2.2.2.2.2.2.2.2.1 2 _ rfl) dX2_next_116 ?_
          refine lv_aload_n hx hb dX2_next_118 rfl (lv_at hl 0 rfl) ?_
          refine zr_getq (C := RX2) (T := TX2) (n := 9) C0 hP 2 (by decide) shX_2 0 3 rfl (by decide) uw_X2 mw_175 rfl dX2_next_119 ?_
          refine lv_aload_n hx hb dX2_next_122 rfl (lv_at hl 0 rfl) ?_
          refine zr_get (C := RX2) (T := TX2) (n := 9) C0 hP 2 (by decide) shX_2 5 rfl (by decide) uw_X2 mw_179 rfl dX2_next_123 ?_
          obtain ⟨hg_12, hf⟩ := zG_o hf
          refine zr_iald C0 hP 3 (by decide) shX_3 hg_12 dX2_next_126 ?_
          refine zo_i2c hx hb dX2_next_127 ?_
          obtain ⟨r_15, M_13, hc_14, hf⟩ := zB_o hf
          refine zc_xi (As := [.int (zi2c (M_8.1 3 (M_8.1 2 5).toNatClampNeg))]) (rest := [.ref (G.2.2.1 2)]) C0 hP hS hl.1 2 (by decide) (mtJ0_indexOf_0f7a4 l G hJ 2 (by decide) (zi2c (M_8.1 3 (M_8.1 2 5).toNatClampNeg)) M_8 _ hc_14) lk_X2_82 rfl ds_J0_indexOf_0f7a4 (by rw [hRm]; exact ⟨Nat.le_of_ble_eq_true rfl, Nat.le_of_ble_eq_true rfl⟩) rfl rfl (Nat.le_of_ble_eq_true rfl) dX2_next_128 ⟨Nat.zero_le _, Nat.zero_le _⟩ (fun H locs hP hS => ?_)
          refine lv_if_lt (tgt := 146) hx hb dX2_next_131 (by decide) (fun c_16 => ?_) (fun c_16 => ?_)
          · replace hf := zI_t c_16 hf
            refine lv_iconst (v := (1 : Int32)) hx hb dX2_next_146 (by decide) ?_
            refine zr_put (C := RX2) (T := TX2) (n := 9) C0 hJ hP hS 2 (by decide) shX_2 6 rfl (by decide) uw_X2 tyX2 tyX2_ok nmX2 mw_181 rfl rfl ⟨rfl, rfl⟩ dX2_next_147 (fun H locs hP hS => ?_)
            obtain ⟨M_17, eM_17, hf⟩ := zL_o hf
            have hP : va_P G.1 zcl (zw G shX 64 M_17) H := by rw [eM_17]; exact hP
            refine lv_aload_n hx hb dX2_next_150 rfl (lv_at hl 0 rfl) ?_
            refine lv_dup hx hb dX2_next_151 rfl ?_
            refine zr_get (C := RX2) (T := TX2) (n := 9) C0 hP 2 (by decide) shX_2 5 rfl (by decide) uw_X2 mw_179 rfl dX2_next_152 ?_
            refine lv_iconst (v := (1 : Int32)) hx hb dX2_next_155 (by decide) ?_
            refine lv_iadd hx hb dX2_next_156 ?_
            refine zr_put (C := RX2) (T := TX2) (n := 9) C0 hJ hP hS 2 (by decide) shX_2 5 rfl (by decide) uw_X2 tyX2 tyX2_ok nmX2 mw_179 rfl rfl ⟨rfl, rfl⟩ dX2_next_157 (fun H locs hP hS => ?_)
            obtain ⟨M_18, eM_18, hf⟩ := zL_o hf
            have hP : va_P G.1 zcl (zw G shX 64 M_18) H := by rw [eM_18]; exact hP
            exact ze_v C0 hP hS hf dX2_next_160 hQ
          · replace hf := zI_f c_16 hf
            refine lv_aload_n hx hb dX2_next_134 rfl (lv_at hl 0 rfl) ?_
            refine zr_getq (C := RX2) (T := TX2) (n := 9) C0 hP 2 (by decide) shX_2 0 3 rfl (by decide) uw_X2 mw_175 rfl dX2_next_135 ?_
            refine lv_aload_n hx hb dX2_next_138 rfl (lv_at hl 0 rfl) ?_
            refine zr_get (C := RX2) (T := TX2) (n := 9) C0 hP 2 (by decide) shX_2 5 rfl (by decide) uw_X2 mw_179 rfl dX2_next_139 ?_
            obtain ⟨hg_19, hf⟩ := zG_o hf
            refine zr_iald C0 hP 3 (by decide) shX_3 hg_19 dX2_next_142 ?_
            refine lv_goto (tgt := 147) hx hb dX2_next_143 (by decide) ?_
            refine zr_put (C := RX2) (T := TX2) (n := 9) C0 hJ hP hS 2 (by decide) shX_2 6 rfl (by decide) uw_X2 tyX2 tyX2_ok nmX2 mw_181 rfl rfl ⟨rfl, rfl⟩ dX2_next_147 (fun H locs hP hS => ?_)
            obtain ⟨M_20, eM_20, hf⟩ := zL_o hf
            have hP : va_P G.1 zcl (zw G shX 64 M_20) H := by rw [eM_20]; exact hP
            refine lv_aload_n hx hb dX2_next_150 rfl (lv_at hl 0 rfl) ?_
            refine lv_dup hx hb dX2_next_151 rfl ?_
            refine zr_get (C := RX2) (T := TX2) (n := 9) C0 hP 2 (by decide) shX_2 5 rfl (by decide) uw_X2 mw_179 rfl dX2_next_152 ?_
            refine lv_iconst (v := (1 : Int32)) hx hb dX2_next_155 (by decide) ?_
            refine lv_iadd hx hb dX2_next_156 ?_
            refine zr_put (C := RX2) (T := TX2) (n := 9) C0 hJ hP hS 2 (by decide) shX_2 5 rfl (by decide) uw_X2 tyX2 tyX2_ok nmX2 mw_179 rfl rfl ⟨rfl, rfl⟩ dX2_next_157 (fun H locs hP hS => ?_)
            obtain ⟨M_21, eM_21, hf⟩ := zL_o hf
            have hP : va_P G.1 zcl (zw G shX 64 M_21) H := by rw [eM_21]; exact hP
            exact ze_v C0 hP hS hf dX2_next_160 hQ
        · replace hf := zI_f c_11 hf
          refine lv_aload_n hx hb dX2_next_108 rfl (lv_at hl 0 rfl) ?_
          obtain ⟨M_22, hc_23, hf⟩ := zV_o hf
          refine zc_vv (As := []) (rest := []) C0 hP hS hl.1 2 (mtX2_nextWord l G hJ M_8 _ hc_23) lk_X2_77 (by decide) shX_2 (T := TX2) (n' := 9) rfl ds_X2_nextWord (by rw [hRm]; exact ⟨Nat.le_of_ble_eq_true rfl, Nat.le_of_ble_eq_true rfl⟩) rfl rfl (Nat.le_of_ble_eq_true rfl) dX2_next_109 ⟨Nat.zero_le _, Nat.zero_le _⟩ (fun H locs hP hS => ?_)
          refine lv_goto (tgt := 160) hx hb dX2_next_112 (by decide) ?_
          exact ze_v C0 hP hS hf dX2_next_160 hQ
      · replace hf := zI_f c_7 hf
        refine lv_aload_n hx hb dX2_next_90 rfl (lv_at hl 0 rfl) ?_
        obtain ⟨M_24, hc_25, hf⟩ := zV_o hf
        refine zc_vv (As := []) (rest := []) C0 hP hS hl.1 2 (mtX2_nextNumber l G hJ M_4 _ hc_25) lk_X2_71 (by decide) shX_2 (T := TX2) (n' := 9) rfl ds_X2_nextNumber (by rw [hRm]; exact ⟨Nat.le_of_ble_eq_true rfl, Nat.le_of_ble_eq_true rfl⟩) rfl rfl (Nat.le_of_ble_eq_true rfl) dX2_next_91 ⟨Nat.zero_le _, Nat.zero_le _⟩ (fun H locs hP hS => ?_)
        refine lv_goto (tgt := 160) hx hb dX2_next_94 (by decide) ?_
        exact ze_v C0 hP hS hf dX2_next_160 hQ
    · replace hf := zI_f c_3 hf
      refine lv_aload_n hx hb dX2_next_71 rfl (lv_at hl 0 rfl) ?_
      refine lv_iconst (v := (0 : Int32)) hx hb dX2_next_72 (by decide) ?_
      refine zr_put (C := RX2) (T := TX2) (n := 9) C0 hJ hP hS 2 (by decide) shX_2 6 rfl (by decide) uw_X2 tyX2 tyX2_ok nmX2 mw_181 rfl rfl ⟨rfl, rfl⟩ dX2_next_73 (fun H locs hP hS => ?_)
      obtain ⟨M_26, eM_26, hf⟩ := zL_o hf
      have hP : va_P G.1 zcl (zw G shX 64 M_26) H := by rw [eM_26]; exact hP
      refine lv_goto (tgt := 160) hx hb dX2_next_76 (by decide) ?_
      exact ze_v C0 hP hS hf dX2_next_160 hQ
  have L0 : ∀ (n0 : Nat), ∀ (M : zM) (H : Heap) (locs : List Loc) (ls : Array Slot), lv_has ls 1 [(0, .ref (G.2.2.1 2))] → va_P G.1 zcl (zw G shX 64 M) H → va_S (zA G 64 s.heap.size) s.heap H locs → fX2_next_L0 n0 M = some o → W p l e R s m args below meth c H locs 0 0 Q (F0 m 0 ls []) := by
    intro n0
    induction n0 with
    | zero => intro M H locs ls hl hP hS hf; exact zn_s (show none = some o from hf)
    | succ n0 ih0 =>
      intro M H locs ls hl hP hS hf
      replace hf : fX2_next_B0 (fX2_next_L0 n0) M = some o := hf
      unfold fX2_next_B0 at hf
      refine lv_aload_n hx hb dX2_next_0 rfl (lv_at hl 0 rfl) ?_
      refine zr_get (C := RX2) (T := TX2) (n := 9) C0 hP 2 (by decide) shX_2 5 rfl (by decide) uw_X2 mw_179 rfl dX2_next_1 ?_
      refine lv_aload_n hx hb dX2_next_4 rfl (lv_at hl 0 rfl) ?_
      refine zr_get (C := RX2) (T := TX2) (n := 9) C0 hP 2 (by decide) shX_2 3 rfl (by decide) uw_X2 mw_174 rfl dX2_next_5 ?_
      refine lv_icmp_ge (tgt := 52) hx hb dX2_next_8 (by decide) (fun c_1 => ?_) (fun c_1 => ?_)
      · replace hf := zI_t c_1 hf
        exact J52 M H locs ls (lv_sub hl [0] rfl) hP hS hf
      · replace hf := zI_f c_1 hf
        refine lv_aload_n hx hb dX2_next_11 rfl (lv_at hl 0 rfl) ?_
        refine zr_getq (C := RX2) (T := TX2) (n := 9) C0 hP 2 (by decide) shX_2 0 3 rfl (by decide) uw_X2 mw_175 rfl dX2_next_12 ?_
        refine lv_aload_n hx hb dX2_next_15 rfl (lv_at hl 0 rfl) ?_
        refine zr_get (C := RX2) (T := TX2) (n := 9) C0 hP 2 (by decide) shX_2 5 rfl (by decide) uw_X2 mw_179 rfl dX2_next_16 ?_
        obtain ⟨hg_27, hf⟩ := zG_o hf
        refine zr_iald C0 hP 3 (by decide) shX_3 hg_27 dX2_next_19 ?_
        refine lv_bipush (v := (32 : Int32)) hx hb dX2_next_20 (by decide) ?_
        refine lv_icmp_eq (tgt := 39) hx hb dX2_next_22 (by decide) (fun c_28 => ?_) (fun c_28 => ?_)
        · replace hf := zI_t c_28 hf
          refine lv_aload_n hx hb dX2_next_39 rfl (lv_at hl 0 rfl) ?_
          refine lv_dup hx hb dX2_next_40 rfl ?_
          refine zr_get (C := RX2) (T := TX2) (n := 9) C0 hP 2 (by decide) shX_2 5 rfl (by decide) uw_X2 mw_179 rfl dX2_next_41 ?_
          refine lv_iconst (v := (1 : Int32)) hx hb dX2_next_44 (by decide) ?_
          refine lv_iadd hx hb dX2_next_45 ?_
          refine zr_put (C := RX2) (T := TX2) (n := 9) C0 hJ hP hS 2 (by decide) shX_2 5 rfl (by decide) uw_X2 tyX2 tyX2_ok nmX2 mw_179 rfl rfl ⟨rfl, rfl⟩ dX2_next_46 (fun H locs hP hS => ?_)
          obtain ⟨M_29, eM_29, hf⟩ := zL_o hf
          have hP : va_P G.1 zcl (zw G shX 64 M_29) H := by rw [eM_29]; exact hP
          refine lv_goto (tgt := 0) hx hb dX2_next_49 (by decide) ?_
          exact ih0 M_29 H locs ls (lv_sub hl [0] rfl) hP hS hf
        · replace hf := zI_f c_28 hf
          refine lv_aload_n hx hb dX2_next_25 rfl (lv_at hl 0 rfl) ?_
          refine zr_getq (C := RX2) (T := TX2) (n := 9) C0 hP 2 (by decide) shX_2 0 3 rfl (by decide) uw_X2 mw_175 rfl dX2_next_26 ?_
          refine lv_aload_n hx hb dX2_next_29 rfl (lv_at hl 0 rfl) ?_
          refine zr_get (C := RX2) (T := TX2) (n := 9) C0 hP 2 (by decide) shX_2 5 rfl (by decide) uw_X2 mw_179 rfl dX2_next_30 ?_
          obtain ⟨hg_30, hf⟩ := zG_o hf
          refine zr_iald C0 hP 3 (by decide) shX_3 hg_30 dX2_next_33 ?_
          refine lv_bipush (v := (10 : Int32)) hx hb dX2_next_34 (by decide) ?_
          refine lv_icmp_ne (tgt := 52) hx hb dX2_next_36 (by decide) (fun c_31 => ?_) (fun c_31 => ?_)
          · replace hf := zI_f c_31 hf
            exact J52 M H locs ls (lv_sub hl [0] rfl) hP hS hf
          · replace hf := zI_t c_31 hf
            refine lv_aload_n hx hb dX2_next_39 rfl (lv_at hl 0 rfl) ?_
            refine lv_dup hx hb dX2_next_40 rfl ?_
            refine zr_get (C := RX2) (T := TX2) (n := 9) C0 hP 2 (by decide) shX_2 5 rfl (by decide) uw_X2 mw_179 rfl dX2_next_41 ?_
            refine lv_iconst (v := (1 : Int32)) hx hb dX2_next_44 (by decide) ?_
            refine lv_iadd hx hb dX2_next_45 ?_
            refine zr_put (C := RX2) (T := TX2) (n := 9) C0 hJ hP hS 2 (by decide) shX_2 5 rfl (by decide) uw_X2 tyX2 tyX2_ok nmX2 mw_179 rfl rfl ⟨rfl, rfl⟩ dX2_next_46 (fun H locs hP hS => ?_)
            obtain ⟨M_32, eM_32, hf⟩ := zL_o hf
            have hP : va_P G.1 zcl (zw G shX 64 M_32) H := by rw [eM_32]; exact hP
            refine lv_goto (tgt := 0) hx hb dX2_next_49 (by decide) ?_
            exact ih0 M_32 H locs ls (lv_sub hl [0] rfl) hP hS hf
  unfold fX2_next at hf
  obtain ⟨H, eH⟩ : ∃ H, H = s.heap := ⟨_, rfl⟩
  obtain ⟨locs, el⟩ : ∃ locs : List Loc, locs = [] := ⟨_, rfl⟩
  rw [← eH] at hP ⊢
  have hS : va_S (zA G 64 s.heap.size) s.heap H locs := by rw [eH, el]; exact hS
  rw [← el]
  exact L0 zF M H locs ls (lv_sub hl [0] rfl) hP hS hf

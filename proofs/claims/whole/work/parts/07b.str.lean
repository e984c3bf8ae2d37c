def fJ0_coder_7d493 (i : Nat) (M : zM) : Option (Int32 × zM) :=
  some ((0 : Int32), M)
set_option maxHeartbeats 4000000 in
set_option maxRecDepth 100000 in
theorem mtJ0_coder_7d493 (l : Launch) (G : zGr) (hJ : zJ G 64) (i : Nat) (hi : i < 3) (M : zM) (o : Int32 × zM) (hf : fJ0_coder_7d493 i M = some o) : zMi l G shX 64 yJ0_coder_7d493 cJ0_coder_7d493 1 (some .byte) 0 0 [.ref (G.2.2.2 (1 + i))] M o := by
  intro sz
  refine zOf (by decide) (Nat.le_of_ble_eq_true rfl) ?_
  intro p e R Q s m args below meth c hRm hsz hQ C0 hP hS ls hl
  subst hsz
  replace hRm : R = { frames := 0, cells := 0, slots := 0, locals := 0 } := hRm
  have hl : lv_has ls 1 [(0, .ref (G.2.2.2 (1 + i)))] := hl
  have hx := C0.1
  have hb := C0.2.1
  have hown := C0.2.2.2.1
  have hts := C0.2.2.2.2.1
  unfold fJ0_coder_7d493 at hf
  obtain ⟨H, eH⟩ : ∃ H, H = s.heap := ⟨_, rfl⟩
  obtain ⟨locs, el⟩ : ∃ locs : List Loc, locs = [] := ⟨_, rfl⟩
  rw [← eH] at hP ⊢
  have hS : va_S (zA G 64 s.heap.size) s.heap H locs := by rw [eH, el]; exact hS
  rw [← el]
  refine zo_getCS C0 hS mw_0 dJ0_coder_7d493_0 ?_
  refine lv_if_eq (tgt := 13) hx hb dJ0_coder_7d493_3 (by decide) (fun c_1 => absurd c_1 (by decide)) (fun _ => ?_)
  refine lv_aload_n hx hb dJ0_coder_7d493_6 rfl (lv_at hl 0 rfl) ?_
  refine zo_scod C0 hS i hi mw_1 dJ0_coder_7d493_7 ?_
  refine lv_goto (tgt := 14) hx hb dJ0_coder_7d493_10 (by decide) ?_
  exact ze_n C0 hP hS (by decide) hf dJ0_coder_7d493_14 hQ
def fJ0_isLatin1_aae02 (i : Nat) (M : zM) : Option (Int32 × zM) :=
  some ((1 : Int32), M)
set_option maxHeartbeats 4000000 in
set_option maxRecDepth 100000 in
theorem mtJ0_isLatin1_aae02 (l : Launch) (G : zGr) (hJ : zJ G 64) (i : Nat) (hi : i < 3) (M : zM) (o : Int32 × zM) (hf : fJ0_isLatin1_aae02 i M = some o) : zMi l G shX 64 yJ0_isLatin1_aae02 cJ0_isLatin1_aae02 1 (some .boolean) 0 0 [.ref (G.2.2.2 (1 + i))] M o := by
  intro sz
  refine zOf (by decide) (Nat.le_of_ble_eq_true rfl) ?_
  intro p e R Q s m args below meth c hRm hsz hQ C0 hP hS ls hl
  subst hsz
  replace hRm : R = { frames := 0, cells := 0, slots := 0, locals := 0 } := hRm
  have hl : lv_has ls 1 [(0, .ref (G.2.2.2 (1 + i)))] := hl
  have hx := C0.1
  have hb := C0.2.1
  have hown := C0.2.2.2.1
  have hts := C0.2.2.2.2.1
  unfold fJ0_isLatin1_aae02 at hf
  obtain ⟨H, eH⟩ : ∃ H, H = s.heap := ⟨_, rfl⟩
  obtain ⟨locs, el⟩ : ∃ locs : List Loc, locs = [] := ⟨_, rfl⟩
  rw [← eH] at hP ⊢
  have hS : va_S (zA G 64 s.heap.size) s.heap H locs := by rw [eH, el]; exact hS
  rw [← el]
  refine zo_getCS C0 hS mw_0 dJ0_isLatin1_aae02_0 ?_
  refine lv_if_eq (tgt := 17) hx hb dJ0_isLatin1_aae02_3 (by decide) (fun c_1 => absurd c_1 (by decide)) (fun _ => ?_)
  refine lv_aload_n hx hb dJ0_isLatin1_aae02_6 rfl (lv_at hl 0 rfl) ?_
  refine zo_scod C0 hS i hi mw_1 dJ0_isLatin1_aae02_7 ?_
  refine lv_if_ne (tgt := 17) hx hb dJ0_isLatin1_aae02_10 (by decide) (fun c_2 => absurd c_2 (by decide)) (fun _ => ?_)
  refine lv_iconst (v := (1 : Int32)) hx hb dJ0_isLatin1_aae02_13 (by decide) ?_
  refine lv_goto (tgt := 18) hx hb dJ0_isLatin1_aae02_14 (by decide) ?_
  exact ze_z C0 hP hS (by decide) hf dJ0_isLatin1_aae02_18 hQ
def fJ0_length_8abf5 (i : Nat) (M : zM) : Option (Int32 × zM) :=
  zB (fJ0_coder_7d493 i M) fun r_3 M_1 =>
  some ((zshr (Int32.ofNat (zSl.getD i 0)) r_3), M_1)
set_option maxHeartbeats 4000000 in
set_option maxRecDepth 100000 in
theorem mtJ0_length_8abf5 (l : Launch) (G : zGr) (hJ : zJ G 64) (i : Nat) (hi : i < 3) (M : zM) (o : Int32 × zM) (hf : fJ0_length_8abf5 i M = some o) : zMi l G shX 64 yJ0_length_8abf5 cJ0_length_8abf5 1 (some .int) 1 20 [.ref (G.2.2.2 (1 + i))] M o := by
  intro sz
  refine zOf (by decide) (Nat.le_of_ble_eq_true rfl) ?_
  intro p e R Q s m args below meth c hRm hsz hQ C0 hP hS ls hl
  subst hsz
  replace hRm : R = { frames := 1, cells := 0, slots := 0, locals := 20 } := hRm
  have hl : lv_has ls 1 [(0, .ref (G.2.2.2 (1 + i)))] := hl
  have hx := C0.1
  have hb := C0.2.1
  have hown := C0.2.2.2.1
  have hts := C0.2.2.2.2.1
  unfold fJ0_length_8abf5 at hf
  obtain ⟨H, eH⟩ : ∃ H, H = s.heap := ⟨_, rfl⟩
  obtain ⟨locs, el⟩ : ∃ locs : List Loc, locs = [] := ⟨_, rfl⟩
  rw [← eH] at hP ⊢
  have hS : va_S (zA G 64 s.heap.size) s.heap H locs := by rw [eH, el]; exact hS
  rw [← el]
  refine lv_aload_n hx hb dJ0_length_8abf5_0 rfl (lv_at hl 0 rfl) ?_
  refine zo_sval C0 hS i hi mw_2 dJ0_length_8abf5_1 ?_
  refine zo_slen C0 hS i hi dJ0_length_8abf5_4 ?_
  refine lv_aload_n hx hb dJ0_length_8abf5_5 rfl (lv_at hl 0 rfl) ?_
  obtain ⟨r_3, M_1, hc_2, hf⟩ := zB_o hf
  refine zc_xi (As := []) (rest := [.int (Int32.ofNat (zSl.getD i 0))]) C0 hP hS hl.1 i hi (mtJ0_coder_7d493 l G hJ i hi M _ hc_2) lk_J0_335 rfl ds_J0_coder_7d493 (by rw [hRm]; exact ⟨Nat.le_of_ble_eq_true rfl, Nat.le_of_ble_eq_true rfl⟩) rfl rfl (Nat.le_of_ble_eq_true rfl) dJ0_length_8abf5_6 ⟨Nat.zero_le _, Nat.zero_le _⟩ (fun H locs hP hS => ?_)
  refine zo_ishr hx hb dJ0_length_8abf5_9 ?_
  exact ze_i C0 hP hS hf dJ0_length_8abf5_10 hQ
def fJ3_checkIndex_8e157 (x0 : Int32) (x1 : Int32) (M : zM) : Option (Int32 × zM) :=
  if x0 < (0 : Int32) then
    none
  else
    if x0 < x1 then
      some (x0, M)
    else
      none
set_option maxHeartbeats 4000000 in
set_option maxRecDepth 100000 in
theorem mtJ3_checkIndex_8e157N (l : Launch) (G : zGr) (hJ : zJ G 64) (x0 : Int32) (x1 : Int32) (M : zM) (o : Int32 × zM) (hf : fJ3_checkIndex_8e157 x0 x1 M = some o) : zMi l G shX 64 yJ3_checkIndex_8e157 cJ3_checkIndex_8e157 3 (some .int) 0 0 [.int x0, .int x1, .null] M o := by
  intro sz
  refine zOf (by decide) (Nat.le_of_ble_eq_true rfl) ?_
  intro p e R Q s m args below meth c hRm hsz hQ C0 hP hS ls hl
  subst hsz
  replace hRm : R = { frames := 0, cells := 0, slots := 0, locals := 0 } := hRm
  have hl : lv_has ls 3 [(0, .int x0), (1, .int x1), (2, .null)] := hl
  have hx := C0.1
  have hb := C0.2.1
  have hown := C0.2.2.2.1
  have hts := C0.2.2.2.2.1
  unfold fJ3_checkIndex_8e157 at hf
  obtain ⟨H, eH⟩ : ∃ H, H = s.heap := ⟨_, rfl⟩
  obtain ⟨locs, el⟩ : ∃ locs : List Loc, locs = [] := ⟨_, rfl⟩
  rw [← eH] at hP ⊢
  have hS : va_S (zA G 64 s.heap.size) s.heap H locs := by rw [eH, el]; exact hS
  rw [← el]
  refine lv_iload_n hx hb dJ3_checkIndex_8e157_0 rfl (lv_at hl 0 rfl) ?_
  refine lv_if_lt (tgt := 9) hx hb dJ3_checkIndex_8e157_1 (by decide) (fun c_1 => ?_) (fun c_1 => ?_)
  · replace hf := zI_t c_1 hf
    refine lv_aload_nN hx hb dJ3_checkIndex_8e157_9 rfl (lv_at hl 2 rfl) ?_
    refine lv_iload_n hx hb dJ3_checkIndex_8e157_10 rfl (lv_at hl 0 rfl) ?_
    refine lv_iload_n hx hb dJ3_checkIndex_8e157_11 rfl (lv_at hl 1 rfl) ?_
    exact zn_s hf
  · replace hf := zI_f c_1 hf
    refine lv_iload_n hx hb dJ3_checkIndex_8e157_4 rfl (lv_at hl 0 rfl) ?_
    refine lv_iload_n hx hb dJ3_checkIndex_8e157_5 rfl (lv_at hl 1 rfl) ?_
    refine lv_icmp_lt (tgt := 16) hx hb dJ3_checkIndex_8e157_6 (by decide) (fun c_2 => ?_) (fun c_2 => ?_)
    · replace hf := zI_t c_2 hf
      refine lv_iload_n hx hb dJ3_checkIndex_8e157_16 rfl (lv_at hl 0 rfl) ?_
      exact ze_i C0 hP hS hf dJ3_checkIndex_8e157_17 hQ
    · replace hf := zI_f c_2 hf
      refine lv_aload_nN hx hb dJ3_checkIndex_8e157_9 rfl (lv_at hl 2 rfl) ?_
      refine lv_iload_n hx hb dJ3_checkIndex_8e157_10 rfl (lv_at hl 0 rfl) ?_
      refine lv_iload_n hx hb dJ3_checkIndex_8e157_11 rfl (lv_at hl 1 rfl) ?_
      exact zn_s hf
set_option maxHeartbeats 4000000 in
set_option maxRecDepth 100000 in
theorem mtJ3_checkIndex_8e157R (l : Launch) (G : zGr) (hJ : zJ G 64) (tq : Nat) (x0 : Int32) (x1 : Int32) (M : zM) (o : Int32 × zM) (hf : fJ3_checkIndex_8e157 x0 x1 M = some o) : zMi l G shX 64 yJ3_checkIndex_8e157 cJ3_checkIndex_8e157 3 (some .int) 0 0 [.int x0, .int x1, .ref tq] M o := by
  intro sz
  refine zOf (by decide) (Nat.le_of_ble_eq_true rfl) ?_
  intro p e R Q s m args below meth c hRm hsz hQ C0 hP hS ls hl
  subst hsz
  replace hRm : R = { frames := 0, cells := 0, slots := 0, locals := 0 } := hRm
  have hl : lv_has ls 3 [(0, .int x0), (1, .int x1), (2, .ref tq)] := hl
  have hx := C0.1
  have hb := C0.2.1
  have hown := C0.2.2.2.1
  have hts := C0.2.2.2.2.1
  unfold fJ3_checkIndex_8e157 at hf
  obtain ⟨H, eH⟩ : ∃ H, H = s.heap := ⟨_, rfl⟩
  obtain ⟨locs, el⟩ : ∃ locs : List Loc, locs = [] := ⟨_, rfl⟩
  rw [← eH] at hP ⊢
  have hS : va_S (zA G 64 s.heap.size) s.heap H locs := by rw [eH, el]; exact hS
  rw [← el]
  refine lv_iload_n hx hb dJ3_checkIndex_8e157_0 rfl (lv_at hl 0 rfl) ?_
  refine lv_if_lt (tgt := 9) hx hb dJ3_checkIndex_8e157_1 (by decide) (fun c_1 => ?_) (fun c_1 => ?_)
  · replace hf := zI_t c_1 hf
    refine lv_aload_n hx hb dJ3_checkIndex_8e157_9 rfl (lv_at hl 2 rfl) ?_
    refine lv_iload_n hx hb dJ3_checkIndex_8e157_10 rfl (lv_at hl 0 rfl) ?_
    refine lv_iload_n hx hb dJ3_checkIndex_8e157_11 rfl (lv_at hl 1 rfl) ?_
    exact zn_s hf
  · replace hf := zI_f c_1 hf
    refine lv_iload_n hx hb dJ3_checkIndex_8e157_4 rfl (lv_at hl 0 rfl) ?_
    refine lv_iload_n hx hb dJ3_checkIndex_8e157_5 rfl (lv_at hl 1 rfl) ?_
    refine lv_icmp_lt (tgt := 16) hx hb dJ3_checkIndex_8e157_6 (by decide) (fun c_2 => ?_) (fun c_2 => ?_)
    · replace hf := zI_t c_2 hf
      refine lv_iload_n hx hb dJ3_checkIndex_8e157_16 rfl (lv_at hl 0 rfl) ?_
      exact ze_i C0 hP hS hf dJ3_checkIndex_8e157_17 hQ
    · replace hf := zI_f c_2 hf
      refine lv_aload_n hx hb dJ3_checkIndex_8e157_9 rfl (lv_at hl 2 rfl) ?_
      refine lv_iload_n hx hb dJ3_checkIndex_8e157_10 rfl (lv_at hl 0 rfl) ?_
      refine lv_iload_n hx hb dJ3_checkIndex_8e157_11 rfl (lv_at hl 1 rfl) ?_
      exact zn_s hf
def fJ0_checkIndex_df160 (x0 : Int32) (x1 : Int32) (M : zM) : Option (zM) :=
  zB (fJ3_checkIndex_8e157 x0 x1 M) fun r_3 M_1 =>
  some M_1
set_option maxHeartbeats 4000000 in
set_option maxRecDepth 100000 in
theorem mtJ0_checkIndex_df160 (l : Launch) (G : zGr) (hJ : zJ G 64) (x0 : Int32) (x1 : Int32) (M : zM) (o : zM) (hf : fJ0_checkIndex_df160 x0 x1 M = some o) : zMv l G shX 64 yJ0_checkIndex_df160 cJ0_checkIndex_df160 2 none 1 22 [.int x0, .int x1] M o := by
  intro sz
  refine zOf (by decide) (Nat.le_of_ble_eq_true rfl) ?_
  intro p e R Q s m args below meth c hRm hsz hQ C0 hP hS ls hl
  subst hsz
  replace hRm : R = { frames := 1, cells := 0, slots := 0, locals := 22 } := hRm
  have hl : lv_has ls 2 [(0, .int x0), (1, .int x1)] := hl
  have hx := C0.1
  have hb := C0.2.1
  have hown := C0.2.2.2.1
  have hts := C0.2.2.2.2.1
  unfold fJ0_checkIndex_df160 at hf
  obtain ⟨H, eH⟩ : ∃ H, H = s.heap := ⟨_, rfl⟩
  obtain ⟨locs, el⟩ : ∃ locs : List Loc, locs = [] := ⟨_, rfl⟩
  rw [← eH] at hP ⊢
  have hS : va_S (zA G 64 s.heap.size) s.heap H locs := by rw [eH, el]; exact hS
  rw [← el]
  refine lv_iload_n hx hb dJ0_checkIndex_df160_0 rfl (lv_at hl 0 rfl) ?_
  refine lv_iload_n hx hb dJ0_checkIndex_df160_1 rfl (lv_at hl 1 rfl) ?_
  refine zo_getsq C0 hS mw_8 dJ0_checkIndex_df160_2 ?_ (fun tq => ?_)
  · obtain ⟨r_3, M_1, hc_2, hf⟩ := zB_o hf
    refine zc_si (As := [.int x0, .int x1, .null]) (rest := []) C0 hP hS hl.1 (mtJ3_checkIndex_8e157N l G hJ x0 x1 M _ hc_2) ls_J0_1059 ds_J3_checkIndex_8e157 (by rw [hRm]; exact ⟨Nat.le_of_ble_eq_true rfl, Nat.le_of_ble_eq_true rfl⟩) rfl rfl (Nat.le_of_ble_eq_true rfl) dJ0_checkIndex_df160_5 ⟨Nat.zero_le _, Nat.zero_le _⟩ (fun H locs hP hS => ?_)
    refine lv_pop hx hb dJ0_checkIndex_df160_8 rfl ?_
    exact ze_v C0 hP hS hf dJ0_checkIndex_df160_9 hQ
  · obtain ⟨r_3, M_1, hc_2, hf⟩ := zB_o hf
    refine zc_si (As := [.int x0, .int x1, .ref tq]) (rest := []) C0 hP hS hl.1 (mtJ3_checkIndex_8e157R l G hJ tq x0 x1 M _ hc_2) ls_J0_1059 ds_J3_checkIndex_8e157 (by rw [hRm]; exact ⟨Nat.le_of_ble_eq_true rfl, Nat.le_of_ble_eq_true rfl⟩) rfl rfl (Nat.le_of_ble_eq_true rfl) dJ0_checkIndex_df160_5 ⟨Nat.zero_le _, Nat.zero_le _⟩ (fun H locs hP hS => ?_)
    refine lv_pop hx hb dJ0_checkIndex_df160_8 rfl ?_
    exact ze_v C0 hP hS hf dJ0_checkIndex_df160_9 hQ
def fJ1_charAt_3b067 (i : Nat) (x1 : Int32) (M : zM) : Option (Int32 × zM) :=
  zV (fJ0_checkIndex_df160 x1 (Int32.ofNat (zSl.getD i 0)) M) fun M_1 =>
  zG (zin x1 (zSl.getD i 0)) <|
  some ((zi2c (((zSb.getD i []).getD x1.toNatClampNeg 0) &&& (255 : Int32))), M_1)
set_option maxHeartbeats 4000000 in
set_option maxRecDepth 100000 in
theorem mtJ1_charAt_3b067 (l : Launch) (G : zGr) (hJ : zJ G 64) (i : Nat) (hi : i < 3) (x1 : Int32) (M : zM) (o : Int32 × zM) (hf : fJ1_charAt_3b067 i x1 M = some o) : zMi l G shX 64 yJ1_charAt_3b067 cJ1_charAt_3b067 2 (some .char) 2 43 [.ref (G.2.2.2 (4 + i)), .int x1] M o := by
  intro sz
  refine zOf (by decide) (Nat.le_of_ble_eq_true rfl) ?_
  intro p e R Q s m args below meth c hRm hsz hQ C0 hP hS ls hl
  subst hsz
  replace hRm : R = { frames := 2, cells := 0, slots := 0, locals := 43 } := hRm
  have hl : lv_has ls 2 [(0, .ref (G.2.2.2 (4 + i))), (1, .int x1)] := hl
  have hx := C0.1
  have hb := C0.2.1
  have hown := C0.2.2.2.1
  have hts := C0.2.2.2.2.1
  unfold fJ1_charAt_3b067 at hf
  obtain ⟨H, eH⟩ : ∃ H, H = s.heap := ⟨_, rfl⟩
  obtain ⟨locs, el⟩ : ∃ locs : List Loc, locs = [] := ⟨_, rfl⟩
  rw [← eH] at hP ⊢
  have hS : va_S (zA G 64 s.heap.size) s.heap H locs := by rw [eH, el]; exact hS
  rw [← el]
  refine lv_iload_n hx hb dJ1_charAt_3b067_0 rfl (lv_at hl 1 rfl) ?_
  refine lv_aload_n hx hb dJ1_charAt_3b067_1 rfl (lv_at hl 0 rfl) ?_
  refine zo_slen C0 hS i hi dJ1_charAt_3b067_2 ?_
  obtain ⟨M_1, hc_2, hf⟩ := zV_o hf
  refine zc_sv (As := [.int x1, .int (Int32.ofNat (zSl.getD i 0))]) (rest := []) C0 hP hS hl.1 (mtJ0_checkIndex_df160 l G hJ x1 (Int32.ofNat (zSl.getD i 0)) M _ hc_2) ls_J1_9 ds_J0_checkIndex_df160 (by rw [hRm]; exact ⟨Nat.le_of_ble_eq_true rfl, Nat.le_of_ble_eq_true rfl⟩) rfl rfl (Nat.le_of_ble_eq_true rfl) dJ1_charAt_3b067_3 ⟨Nat.zero_le _, Nat.zero_le _⟩ (fun H locs hP hS => ?_)
  refine lv_aload_n hx hb dJ1_charAt_3b067_6 rfl (lv_at hl 0 rfl) ?_
  refine lv_iload_n hx hb dJ1_charAt_3b067_7 rfl (lv_at hl 1 rfl) ?_
  obtain ⟨hg_3, hf⟩ := zG_o hf
  refine zo_sbal C0 hS i hi hg_3 dJ1_charAt_3b067_8 ?_
  refine lv_sipush (v := (255 : Int32)) hx hb dJ1_charAt_3b067_9 (by decide) ?_
  refine lv_iand hx hb dJ1_charAt_3b067_12 ?_
  refine zo_i2c hx hb dJ1_charAt_3b067_13 ?_
  exact ze_n C0 hP hS (zi2c_n _) hf dJ1_charAt_3b067_14 hQ
def fJ0_charAt_5068e (i : Nat) (x1 : Int32) (M : zM) : Option (Int32 × zM) :=
  zB (fJ0_isLatin1_aae02 i M) fun r_3 M_1 =>
  if r_3 = (0 : Int32) then
    none
  else
    zB (fJ1_charAt_3b067 i x1 M_1) fun r_7 M_5 =>
    zG (zch r_7) <|
    some (r_7, M_5)
set_option maxHeartbeats 4000000 in
set_option maxRecDepth 100000 in
theorem mtJ0_charAt_5068e (l : Launch) (G : zGr) (hJ : zJ G 64) (i : Nat) (hi : i < 3) (x1 : Int32) (M : zM) (o : Int32 × zM) (hf : fJ0_charAt_5068e i x1 M = some o) : zMi l G shX 64 yJ0_charAt_5068e cJ0_charAt_5068e 2 (some .char) 3 64 [.ref (G.2.2.2 (1 + i)), .int x1] M o := by
  intro sz
  refine zOf (by decide) (Nat.le_of_ble_eq_true rfl) ?_
  intro p e R Q s m args below meth c hRm hsz hQ C0 hP hS ls hl
  subst hsz
  replace hRm : R = { frames := 3, cells := 0, slots := 0, locals := 64 } := hRm
  have hl : lv_has ls 2 [(0, .ref (G.2.2.2 (1 + i))), (1, .int x1)] := hl
  have hx := C0.1
  have hb := C0.2.1
  have hown := C0.2.2.2.1
  have hts := C0.2.2.2.2.1
  unfold fJ0_charAt_5068e at hf
  obtain ⟨H, eH⟩ : ∃ H, H = s.heap := ⟨_, rfl⟩
  obtain ⟨locs, el⟩ : ∃ locs : List Loc, locs = [] := ⟨_, rfl⟩
  rw [← eH] at hP ⊢
  have hS : va_S (zA G 64 s.heap.size) s.heap H locs := by rw [eH, el]; exact hS
  rw [← el]
  refine lv_aload_n hx hb dJ0_charAt_5068e_0 rfl (lv_at hl 0 rfl) ?_
  obtain ⟨r_3, M_1, hc_2, hf⟩ := zB_o hf
  refine zc_xi (As := []) (rest := []) C0 hP hS hl.1 i hi (mtJ0_isLatin1_aae02 l G hJ i hi M _ hc_2) lk_J0_492 rfl ds_J0_isLatin1_aae02 (by rw [hRm]; exact ⟨Nat.le_of_ble_eq_true rfl, Nat.le_of_ble_eq_true rfl⟩) rfl rfl (Nat.le_of_ble_eq_true rfl) dJ0_charAt_5068e_1 ⟨Nat.zero_le _, Nat.zero_le _⟩ (fun H locs hP hS => ?_)
  refine lv_if_eq (tgt := 16) hx hb dJ0_charAt_5068e_4 (by decide) (fun c_4 => ?_) (fun c_4 => ?_)
  · replace hf := zI_t c_4 hf
    refine lv_aload_n hx hb dJ0_charAt_5068e_16 rfl (lv_at hl 0 rfl) ?_
    refine zo_sval C0 hS i hi mw_2 dJ0_charAt_5068e_17 ?_
    refine lv_iload_n hx hb dJ0_charAt_5068e_20 rfl (lv_at hl 1 rfl) ?_
    exact zn_s hf
  · replace hf := zI_f c_4 hf
    refine lv_aload_n hx hb dJ0_charAt_5068e_7 rfl (lv_at hl 0 rfl) ?_
    refine zo_sval C0 hS i hi mw_2 dJ0_charAt_5068e_8 ?_
    refine lv_iload_n hx hb dJ0_charAt_5068e_11 rfl (lv_at hl 1 rfl) ?_
    obtain ⟨r_7, M_5, hc_6, hf⟩ := zB_o hf
    refine zc_si (As := [.ref (G.2.2.2 (4 + i)), .int x1]) (rest := []) C0 hP hS hl.1 (mtJ1_charAt_3b067 l G hJ i hi x1 M_1 _ hc_6) ls_J0_495 ds_J1_charAt_3b067 (by rw [hRm]; exact ⟨Nat.le_of_ble_eq_true rfl, Nat.le_of_ble_eq_true rfl⟩) rfl rfl (Nat.le_of_ble_eq_true rfl) dJ0_charAt_5068e_12 ⟨Nat.zero_le _, Nat.zero_le _⟩ (fun H locs hP hS => ?_)
    obtain ⟨hg_8, hf⟩ := zG_o hf
    exact ze_n C0 hP hS (zch_i hg_8) hf dJ0_charAt_5068e_15 hQ
def fJ1_canEncode_9a6ad (x0 : Int32) (M : zM) : Option (Int32 × zM) :=
  if x0 < (0 : Int32) then
    some ((0 : Int32), M)
  else
    if (255 : Int32) < x0 then
      some ((0 : Int32), M)
    else
      some ((1 : Int32), M)
set_option maxHeartbeats 4000000 in
set_option maxRecDepth 100000 in
theorem mtJ1_canEncode_9a6ad (l : Launch) (G : zGr) (hJ : zJ G 64) (x0 : Int32) (M : zM) (o : Int32 × zM) (hf : fJ1_canEncode_9a6ad x0 M = some o) : zMi l G shX 64 yJ1_canEncode_9a6ad cJ1_canEncode_9a6ad 1 (some .boolean) 0 0 [.int x0] M o := by
  intro sz
  refine zOf (by decide) (Nat.le_of_ble_eq_true rfl) ?_
  intro p e R Q s m args below meth c hRm hsz hQ C0 hP hS ls hl
  subst hsz
  replace hRm : R = { frames := 0, cells := 0, slots := 0, locals := 0 } := hRm
  have hl : lv_has ls 1 [(0, .int x0)] := hl
  have hx := C0.1
  have hb := C0.2.1
  have hown := C0.2.2.2.1
  have hts := C0.2.2.2.2.1
  unfold fJ1_canEncode_9a6ad at hf
  obtain ⟨H, eH⟩ : ∃ H, H = s.heap := ⟨_, rfl⟩
  obtain ⟨locs, el⟩ : ∃ locs : List Loc, locs = [] := ⟨_, rfl⟩
  rw [← eH] at hP ⊢
  have hS : va_S (zA G 64 s.heap.size) s.heap H locs := by rw [eH, el]; exact hS
  rw [← el]
  refine lv_iload_n hx hb dJ1_canEncode_9a6ad_0 rfl (lv_at hl 0 rfl) ?_
  refine lv_if_lt (tgt := 15) hx hb dJ1_canEncode_9a6ad_1 (by decide) (fun c_1 => ?_) (fun c_1 => ?_)
  · replace hf := zI_t c_1 hf
    refine lv_iconst (v := (0 : Int32)) hx hb dJ1_canEncode_9a6ad_15 (by decide) ?_
    exact ze_z C0 hP hS (by decide) hf dJ1_canEncode_9a6ad_16 hQ
  · replace hf := zI_f c_1 hf
    refine lv_iload_n hx hb dJ1_canEncode_9a6ad_4 rfl (lv_at hl 0 rfl) ?_
    refine lv_sipush (v := (255 : Int32)) hx hb dJ1_canEncode_9a6ad_5 (by decide) ?_
    refine lv_icmp_gt (tgt := 15) hx hb dJ1_canEncode_9a6ad_8 (by decide) (fun c_2 => ?_) (fun c_2 => ?_)
    · replace hf := zI_t c_2 hf
      refine lv_iconst (v := (0 : Int32)) hx hb dJ1_canEncode_9a6ad_15 (by decide) ?_
      exact ze_z C0 hP hS (by decide) hf dJ1_canEncode_9a6ad_16 hQ
    · replace hf := zI_f c_2 hf
      refine lv_iconst (v := (1 : Int32)) hx hb dJ1_canEncode_9a6ad_11 (by decide) ?_
      refine lv_goto (tgt := 16) hx hb dJ1_canEncode_9a6ad_12 (by decide) ?_
      exact ze_z C0 hP hS (by decide) hf dJ1_canEncode_9a6ad_16 hQ
def fJ1_indexOfChar_4cfef_B7 (i : Nat) (r7 : Int32 → Int32 → Int32 → zM → Option (Int32 × zM)) (x3 : Int32) (x4 : Int32) (x5 : Int32) (M : zM) : Option (Int32 × zM) :=
  if x3 ≤ x5 then
    some ((-1 : Int32), M)
  else
    zG (zin x5 (zSl.getD i 0)) <|
    if ((zSb.getD i []).getD x5.toNatClampNeg 0) = x4 then
      some (x5, M)
    else
      zL (x5 + (1 : Int32)) fun x5_5 =>
      r7 x3 x4 x5_5 M
def fJ1_indexOfChar_4cfef_L7 (i : Nat) : Nat → Int32 → Int32 → Int32 → zM → Option (Int32 × zM)
  | 0 => fun _ _ _ _ => none
  | j9 + 1 => fJ1_indexOfChar_4cfef_B7 i (fJ1_indexOfChar_4cfef_L7 i j9)
def fJ1_indexOfChar_4cfef (i : Nat) (x1 : Int32) (x2 : Int32) (x3 : Int32) (M : zM) : Option (Int32 × zM) :=
  zL (zi2b x1) fun x4_1 =>
  fJ1_indexOfChar_4cfef_L7 i zF x3 x4_1 x2 M
set_option maxHeartbeats 4000000 in
set_option maxRecDepth 100000 in
theorem mtJ1_indexOfChar_4cfef (l : Launch) (G : zGr) (hJ : zJ G 64) (i : Nat) (hi : i < 3) (x1 : Int32) (x2 : Int32) (x3 : Int32) (M : zM) (o : Int32 × zM) (hf : fJ1_indexOfChar_4cfef i x1 x2 x3 M = some o) : zMi l G shX 64 yJ1_indexOfChar_4cfef cJ1_indexOfChar_4cfef 6 (some .int) 0 0 [.ref (G.2.2.2 (4 + i)), .int x1, .int x2, .int x3] M o := by
  intro sz
  refine zOf (by decide) (Nat.le_of_ble_eq_true rfl) ?_
  intro p e R Q s m args below meth c hRm hsz hQ C0 hP hS ls hl
  subst hsz
  replace hRm : R = { frames := 0, cells := 0, slots := 0, locals := 0 } := hRm
  have hl : lv_has ls 6 [(0, .ref (G.2.2.2 (4 + i))), (1, .int x1), (2, .int x2), (3, .int x3)] := hl
  have hx := C0.1
  have hb := C0.2.1
  have hown := C0.2.2.2.1
  have hts := C0.2.2.2.2.1
  have L7 : ∀ (n7 : Nat), ∀ (x3 : Int32) (x4 : Int32) (x5 : Int32) (M : zM) (H : Heap) (locs : List Loc) (ls : Array Slot), lv_has ls 6 [(0, .ref (G.2.2.2 (4 + i))), (3, .int x3), (4, .int x4), (5, .int x5)] → va_P G.1 zcl (zw G shX 64 M) H → va_S (zA G 64 s.heap.size) s.heap H locs → fJ1_indexOfChar_4cfef_L7 i n7 x3 x4 x5 M = some o → W p l e R s m args below meth c H locs 0 0 Q (F0 m 7 ls []) := by
    intro n7
    induction n7 with
    | zero => intro x3 x4 x5 M H locs ls hl hP hS hf; exact zn_s (show none = some o from hf)
    | succ n7 ih7 =>
      intro x3 x4 x5 M H locs ls hl hP hS hf
      replace hf : fJ1_indexOfChar_4cfef_B7 i (fJ1_indexOfChar_4cfef_L7 i n7) x3 x4 x5 M = some o := hf
      unfold fJ1_indexOfChar_4cfef_B7 at hf
      refine lv_iload hx hb dJ1_indexOfChar_4cfef_7 (lv_at hl 3 rfl) ?_
      refine lv_iload_n hx hb dJ1_indexOfChar_4cfef_9 rfl (lv_at hl 1 rfl) ?_
      refine lv_icmp_ge (tgt := 31) hx hb dJ1_indexOfChar_4cfef_10 (by decide) (fun c_2 => ?_) (fun c_2 => ?_)
      · replace hf := zI_t c_2 hf
        refine lv_iconst (v := (-1 : Int32)) hx hb dJ1_indexOfChar_4cfef_31 (by decide) ?_
        exact ze_i C0 hP hS hf dJ1_indexOfChar_4cfef_32 hQ
      · replace hf := zI_f c_2 hf
        refine lv_aload_n hx hb dJ1_indexOfChar_4cfef_13 rfl (lv_at hl 0 rfl) ?_
        refine lv_iload hx hb dJ1_indexOfChar_4cfef_14 (lv_at hl 3 rfl) ?_
        obtain ⟨hg_3, hf⟩ := zG_o hf
        refine zo_sbal C0 hS i hi hg_3 dJ1_indexOfChar_4cfef_16 ?_
        refine lv_iload hx hb dJ1_indexOfChar_4cfef_17 (lv_at hl 2 rfl) ?_
        refine lv_icmp_ne (tgt := 25) hx hb dJ1_indexOfChar_4cfef_19 (by decide) (fun c_4 => ?_) (fun c_4 => ?_)
        · replace hf := zI_f c_4 hf
          obtain ⟨x5_5, ex5_5, hf⟩ := zL_o hf
          refine lv_iinc (v := x5_5) (lv' := [(5, .int x5_5), (0, .ref (G.2.2.2 (4 + i))), (3, .int x3), (4, .int x4)]) hx hb dJ1_indexOfChar_4cfef_25 hl (k := 3) rfl (by rw [ex5_5]; rfl) (by decide) rfl (fun ls hl => ?_)
          refine lv_goto (tgt := 7) hx hb dJ1_indexOfChar_4cfef_28 (by decide) ?_
          exact ih7 x3 x4 x5_5 M H locs ls (lv_sub hl [1, 2, 3, 0] rfl) hP hS hf
        · replace hf := zI_t c_4 hf
          refine lv_iload hx hb dJ1_indexOfChar_4cfef_22 (lv_at hl 3 rfl) ?_
          exact ze_i C0 hP hS hf dJ1_indexOfChar_4cfef_24 hQ
  unfold fJ1_indexOfChar_4cfef at hf
  obtain ⟨H, eH⟩ : ∃ H, H = s.heap := ⟨_, rfl⟩
  obtain ⟨locs, el⟩ : ∃ locs : List Loc, locs = [] := ⟨_, rfl⟩
  rw [← eH] at hP ⊢
  have hS : va_S (zA G 64 s.heap.size) s.heap H locs := by rw [eH, el]; exact hS
  rw [← el]
  refine lv_iload_n hx hb dJ1_indexOfChar_4cfef_0 rfl (lv_at hl 1 rfl) ?_
  refine zo_i2b hx hb dJ1_indexOfChar_4cfef_1 ?_
  refine lv_topi (fun x4_1 ex4_1 => ?_)
  replace hf := zL_e ex4_1 hf
  refine lv_istore (lv' := [(4, .int x4_1), (0, .ref (G.2.2.2 (4 + i))), (1, .int x1), (2, .int x2), (3, .int x3)]) hx hb dJ1_indexOfChar_4cfef_2 hl (by decide) rfl (fun ls hl => ?_)
  refine lv_iload_n hx hb dJ1_indexOfChar_4cfef_4 rfl (lv_at hl 3 rfl) ?_
  refine lv_istore (lv' := [(5, .int x2), (4, .int x4_1), (0, .ref (G.2.2.2 (4 + i))), (1, .int x1), (2, .int x2), (3, .int x3)]) hx hb dJ1_indexOfChar_4cfef_5 hl (by decide) rfl (fun ls hl => ?_)
  exact L7 zF x3 x4_1 x2 M H locs ls (lv_sub hl [2, 5, 1, 0] rfl) hP hS hf
def fJ1_indexOf_4cfef (i : Nat) (x1 : Int32) (x2 : Int32) (x3 : Int32) (M : zM) : Option (Int32 × zM) :=
  zB (fJ1_canEncode_9a6ad x1 M) fun r_3 M_1 =>
  if r_3 = (0 : Int32) then
    some ((-1 : Int32), M_1)
  else
    zL (zmax x2 (0 : Int32)) fun x2_5 =>
    zL (zmin x3 (Int32.ofNat (zSl.getD i 0))) fun x3_6 =>
    if x2_5 < x3_6 then
      zB (fJ1_indexOfChar_4cfef i x1 x2_5 x3_6 M_1) fun r_10 M_8 =>
      some (r_10, M_8)
    else
      some ((-1 : Int32), M_1)
set_option maxHeartbeats 4000000 in
set_option maxRecDepth 100000 in
theorem mtJ1_indexOf_4cfef (l : Launch) (G : zGr) (hJ : zJ G 64) (i : Nat) (hi : i < 3) (x1 : Int32) (x2 : Int32) (x3 : Int32) (M : zM) (o : Int32 × zM) (hf : fJ1_indexOf_4cfef i x1 x2 x3 M = some o) : zMi l G shX 64 yJ1_indexOf_4cfef cJ1_indexOf_4cfef 4 (some .int) 1 25 [.ref (G.2.2.2 (4 + i)), .int x1, .int x2, .int x3] M o := by
  intro sz
  refine zOf (by decide) (Nat.le_of_ble_eq_true rfl) ?_
  intro p e R Q s m args below meth c hRm hsz hQ C0 hP hS ls hl
  subst hsz
  replace hRm : R = { frames := 1, cells := 0, slots := 0, locals := 25 } := hRm
  have hl : lv_has ls 4 [(0, .ref (G.2.2.2 (4 + i))), (1, .int x1), (2, .int x2), (3, .int x3)] := hl
  have hx := C0.1
  have hb := C0.2.1
  have hown := C0.2.2.2.1
  have hts := C0.2.2.2.2.1
  unfold fJ1_indexOf_4cfef at hf
  obtain ⟨H, eH⟩ : ∃ H, H = s.heap := ⟨_, rfl⟩
  obtain ⟨locs, el⟩ : ∃ locs : List Loc, locs = [] := ⟨_, rfl⟩
  rw [← eH] at hP ⊢
  have hS : va_S (zA G 64 s.heap.size) s.heap H locs := by rw [eH, el]; exact hS
  rw [← el]
  refine lv_iload_n hx hb dJ1_indexOf_4cfef_0 rfl (lv_at hl 1 rfl) ?_
  obtain ⟨r_3, M_1, hc_2, hf⟩ := zB_o hf
  refine zc_si (As := [.int x1]) (rest := []) C0 hP hS hl.1 (mtJ1_canEncode_9a6ad l G hJ x1 M _ hc_2) ls_J1_88 ds_J1_canEncode_9a6ad (by rw [hRm]; exact ⟨Nat.le_of_ble_eq_true rfl, Nat.le_of_ble_eq_true rfl⟩) rfl rfl (Nat.le_of_ble_eq_true rfl) dJ1_indexOf_4cfef_1 ⟨Nat.zero_le _, Nat.zero_le _⟩ (fun H locs hP hS => ?_)
  refine lv_if_ne (tgt := 9) hx hb dJ1_indexOf_4cfef_4 (by decide) (fun c_4 => ?_) (fun c_4 => ?_)
  · replace hf := zI_f c_4 hf
    refine lv_iload_n hx hb dJ1_indexOf_4cfef_9 rfl (lv_at hl 2 rfl) ?_
    refine lv_iconst (v := (0 : Int32)) hx hb dJ1_indexOf_4cfef_10 (by decide) ?_
    refine zo_max C0 hl.1 mw_27 mw_28 mw_29 mw_30 (by rw [hRm]; exact Nat.le_of_ble_eq_true rfl) (by rw [hRm]; exact Nat.le_of_ble_eq_true rfl) ⟨Nat.zero_le _, Nat.zero_le _⟩ dJ1_indexOf_4cfef_11 ?_
    refine lv_topi (fun x2_5 ex2_5 => ?_)
    replace hf := zL_e ex2_5 hf
    refine lv_istore_n (lv' := [(2, .int x2_5), (0, .ref (G.2.2.2 (4 + i))), (1, .int x1), (3, .int x3)]) hx hb dJ1_indexOf_4cfef_14 rfl hl (by decide) rfl (fun ls hl => ?_)
    refine lv_iload_n hx hb dJ1_indexOf_4cfef_15 rfl (lv_at hl 3 rfl) ?_
    refine lv_aload_n hx hb dJ1_indexOf_4cfef_16 rfl (lv_at hl 1 rfl) ?_
    refine zo_slen C0 hS i hi dJ1_indexOf_4cfef_17 ?_
    refine zo_min C0 hl.1 mw_31 mw_32 mw_29 mw_33 (by rw [hRm]; exact Nat.le_of_ble_eq_true rfl) (by rw [hRm]; exact Nat.le_of_ble_eq_true rfl) ⟨Nat.zero_le _, Nat.zero_le _⟩ dJ1_indexOf_4cfef_18 ?_
    refine lv_topi (fun x3_6 ex3_6 => ?_)
    replace hf := zL_e ex3_6 hf
    refine lv_istore_n (lv' := [(3, .int x3_6), (2, .int x2_5), (0, .ref (G.2.2.2 (4 + i))), (1, .int x1)]) hx hb dJ1_indexOf_4cfef_21 rfl hl (by decide) rfl (fun ls hl => ?_)
    refine lv_iload_n hx hb dJ1_indexOf_4cfef_22 rfl (lv_at hl 1 rfl) ?_
    refine lv_iload_n hx hb dJ1_indexOf_4cfef_23 rfl (lv_at hl 0 rfl) ?_
    refine lv_icmp_lt (tgt := 29) hx hb dJ1_indexOf_4cfef_24 (by decide) (fun c_7 => ?_) (fun c_7 => ?_)
    · replace hf := zI_t c_7 hf
      refine lv_aload_n hx hb dJ1_indexOf_4cfef_29 rfl (lv_at hl 2 rfl) ?_
      refine lv_iload_n hx hb dJ1_indexOf_4cfef_30 rfl (lv_at hl 3 rfl) ?_
      refine lv_iload_n hx hb dJ1_indexOf_4cfef_31 rfl (lv_at hl 1 rfl) ?_
      refine lv_iload_n hx hb dJ1_indexOf_4cfef_32 rfl (lv_at hl 0 rfl) ?_
      obtain ⟨r_10, M_8, hc_9, hf⟩ := zB_o hf
      refine zc_si (As := [.ref (G.2.2.2 (4 + i)), .int x1, .int x2_5, .int x3_6]) (rest := []) C0 hP hS hl.1 (mtJ1_indexOfChar_4cfef l G hJ i hi x1 x2_5 x3_6 M_1 _ hc_9) ls_J1_95 ds_J1_indexOfChar_4cfef (by rw [hRm]; exact ⟨Nat.le_of_ble_eq_true rfl, Nat.le_of_ble_eq_true rfl⟩) rfl rfl (Nat.le_of_ble_eq_true rfl) dJ1_indexOf_4cfef_33 ⟨Nat.zero_le _, Nat.zero_le _⟩ (fun H locs hP hS => ?_)
      exact ze_i C0 hP hS hf dJ1_indexOf_4cfef_36 hQ
    · replace hf := zI_f c_7 hf
      refine lv_iconst (v := (-1 : Int32)) hx hb dJ1_indexOf_4cfef_27 (by decide) ?_
      exact ze_i C0 hP hS hf dJ1_indexOf_4cfef_28 hQ
  · replace hf := zI_t c_4 hf
    refine lv_iconst (v := (-1 : Int32)) hx hb dJ1_indexOf_4cfef_7 (by decide) ?_
    exact ze_i C0 hP hS hf dJ1_indexOf_4cfef_8 hQ
def fJ0_indexOf_7cf53 (i : Nat) (x1 : Int32) (x2 : Int32) (M : zM) : Option (Int32 × zM) :=
  zB (fJ0_isLatin1_aae02 i M) fun r_3 M_1 =>
  if r_3 = (0 : Int32) then
    zB (fJ0_length_8abf5 i M_1) fun r_7 M_5 =>
    none
  else
    zB (fJ0_length_8abf5 i M_1) fun r_10 M_8 =>
    zB (fJ1_indexOf_4cfef i x1 x2 r_10 M_8) fun r_13 M_11 =>
    some (r_13, M_11)
set_option maxHeartbeats 4000000 in
set_option maxRecDepth 100000 in
theorem mtJ0_indexOf_7cf53 (l : Launch) (G : zGr) (hJ : zJ G 64) (i : Nat) (hi : i < 3) (x1 : Int32) (x2 : Int32) (M : zM) (o : Int32 × zM) (hf : fJ0_indexOf_7cf53 i x1 x2 M = some o) : zMi l G shX 64 yJ0_indexOf_7cf53 cJ0_indexOf_7cf53 3 (some .int) 2 48 [.ref (G.2.2.2 (1 + i)), .int x1, .int x2] M o := by
  intro sz
  refine zOf (by decide) (Nat.le_of_ble_eq_true rfl) ?_
  intro p e R Q s m args below meth c hRm hsz hQ C0 hP hS ls hl
  subst hsz
  replace hRm : R = { frames := 2, cells := 0, slots := 0, locals := 48 } := hRm
  have hl : lv_has ls 3 [(0, .ref (G.2.2.2 (1 + i))), (1, .int x1), (2, .int x2)] := hl
  have hx := C0.1
  have hb := C0.2.1
  have hown := C0.2.2.2.1
  have hts := C0.2.2.2.2.1
  unfold fJ0_indexOf_7cf53 at hf
  obtain ⟨H, eH⟩ : ∃ H, H = s.heap := ⟨_, rfl⟩
  obtain ⟨locs, el⟩ : ∃ locs : List Loc, locs = [] := ⟨_, rfl⟩
  rw [← eH] at hP ⊢
  have hS : va_S (zA G 64 s.heap.size) s.heap H locs := by rw [eH, el]; exact hS
  rw [← el]
  refine lv_aload_n hx hb dJ0_indexOf_7cf53_0 rfl (lv_at hl 0 rfl) ?_
  obtain ⟨r_3, M_1, hc_2, hf⟩ := zB_o hf
  refine zc_xi (As := []) (rest := []) C0 hP hS hl.1 i hi (mtJ0_isLatin1_aae02 l G hJ i hi M _ hc_2) lk_J0_492 rfl ds_J0_isLatin1_aae02 (by rw [hRm]; exact ⟨Nat.le_of_ble_eq_true rfl, Nat.le_of_ble_eq_true rfl⟩) rfl rfl (Nat.le_of_ble_eq_true rfl) dJ0_indexOf_7cf53_1 ⟨Nat.zero_le _, Nat.zero_le _⟩ (fun H locs hP hS => ?_)
  refine lv_if_eq (tgt := 23) hx hb dJ0_indexOf_7cf53_4 (by decide) (fun c_4 => ?_) (fun c_4 => ?_)
  · replace hf := zI_t c_4 hf
    refine lv_aload_n hx hb dJ0_indexOf_7cf53_23 rfl (lv_at hl 0 rfl) ?_
    refine zo_sval C0 hS i hi mw_2 dJ0_indexOf_7cf53_24 ?_
    refine lv_iload_n hx hb dJ0_indexOf_7cf53_27 rfl (lv_at hl 1 rfl) ?_
    refine lv_iload_n hx hb dJ0_indexOf_7cf53_28 rfl (lv_at hl 2 rfl) ?_
    refine lv_aload_n hx hb dJ0_indexOf_7cf53_29 rfl (lv_at hl 0 rfl) ?_
    obtain ⟨r_7, M_5, hc_6, hf⟩ := zB_o hf
    refine zc_xi (As := []) (rest := [.int x2, .int x1, .ref (G.2.2.2 (4 + i))]) C0 hP hS hl.1 i hi (mtJ0_length_8abf5 l G hJ i hi M_1 _ hc_6) lk_J0_505 rfl ds_J0_length_8abf5 (by rw [hRm]; exact ⟨Nat.le_of_ble_eq_true rfl, Nat.le_of_ble_eq_true rfl⟩) rfl rfl (Nat.le_of_ble_eq_true rfl) dJ0_indexOf_7cf53_30 ⟨Nat.zero_le _, Nat.zero_le _⟩ (fun H locs hP hS => ?_)
    exact zn_s hf
  · replace hf := zI_f c_4 hf
    refine lv_aload_n hx hb dJ0_indexOf_7cf53_7 rfl (lv_at hl 0 rfl) ?_
    refine zo_sval C0 hS i hi mw_2 dJ0_indexOf_7cf53_8 ?_
    refine lv_iload_n hx hb dJ0_indexOf_7cf53_11 rfl (lv_at hl 1 rfl) ?_
    refine lv_iload_n hx hb dJ0_indexOf_7cf53_12 rfl (lv_at hl 2 rfl) ?_
    refine lv_aload_n hx hb dJ0_indexOf_7cf53_13 rfl (lv_at hl 0 rfl) ?_
    obtain ⟨r_10, M_8, hc_9, hf⟩ := zB_o hf
    refine zc_xi (As := []) (rest := [.int x2, .int x1, .ref (G.2.2.2 (4 + i))]) C0 hP hS hl.1 i hi (mtJ0_length_8abf5 l G hJ i hi M_1 _ hc_9) lk_J0_505 rfl ds_J0_length_8abf5 (by rw [hRm]; exact ⟨Nat.le_of_ble_eq_true rfl, Nat.le_of_ble_eq_true rfl⟩) rfl rfl (Nat.le_of_ble_eq_true rfl) dJ0_indexOf_7cf53_14 ⟨Nat.zero_le _, Nat.zero_le _⟩ (fun H locs hP hS => ?_)
    obtain ⟨r_13, M_11, hc_12, hf⟩ := zB_o hf
    refine zc_si (As := [.ref (G.2.2.2 (4 + i)), .int x1, .int x2, .int r_10]) (rest := []) C0 hP hS hl.1 (mtJ1_indexOf_4cfef l G hJ i hi x1 x2 r_10 M_8 _ hc_12) ls_J0_637 ds_J1_indexOf_4cfef (by rw [hRm]; exact ⟨Nat.le_of_ble_eq_true rfl, Nat.le_of_ble_eq_true rfl⟩) rfl rfl (Nat.le_of_ble_eq_true rfl) dJ0_indexOf_7cf53_17 ⟨Nat.zero_le _, Nat.zero_le _⟩ (fun H locs hP hS => ?_)
    refine lv_goto (tgt := 36) hx hb dJ0_indexOf_7cf53_20 (by decide) ?_
    exact ze_i C0 hP hS hf dJ0_indexOf_7cf53_36 hQ
def fJ0_indexOf_0f7a4 (i : Nat) (x1 : Int32) (M : zM) : Option (Int32 × zM) :=
  zB (fJ0_indexOf_7cf53 i x1 (0 : Int32) M) fun r_3 M_1 =>
  some (r_3, M_1)
set_option maxHeartbeats 4000000 in
set_option maxRecDepth 100000 in
theorem mtJ0_indexOf_0f7a4 (l : Launch) (G : zGr) (hJ : zJ G 64) (i : Nat) (hi : i < 3) (x1 : Int32) (M : zM) (o : Int32 × zM) (hf : fJ0_indexOf_0f7a4 i x1 M = some o) : zMi l G shX 64 yJ0_indexOf_0f7a4 cJ0_indexOf_0f7a4 2 (some .int) 3 70 [.ref (G.2.2.2 (1 + i)), .int x1] M o := by
  intro sz
  refine zOf (by decide) (Nat.le_of_ble_eq_true rfl) ?_
  intro p e R Q s m args below meth c hRm hsz hQ C0 hP hS ls hl
  subst hsz
  replace hRm : R = { frames := 3, cells := 0, slots := 0, locals := 70 } := hRm
  have hl : lv_has ls 2 [(0, .ref (G.2.2.2 (1 + i))), (1, .int x1)] := hl
  have hx := C0.1
  have hb := C0.2.1
  have hown := C0.2.2.2.1
  have hts := C0.2.2.2.2.1
  unfold fJ0_indexOf_0f7a4 at hf
  obtain ⟨H, eH⟩ : ∃ H, H = s.heap := ⟨_, rfl⟩
  obtain ⟨locs, el⟩ : ∃ locs : List Loc, locs = [] := ⟨_, rfl⟩
  rw [← eH] at hP ⊢
  have hS : va_S (zA G 64 s.heap.size) s.heap H locs := by rw [eH, el]; exact hS
  rw [← el]
  refine lv_aload_n hx hb dJ0_indexOf_0f7a4_0 rfl (lv_at hl 0 rfl) ?_
  refine lv_iload_n hx hb dJ0_indexOf_0f7a4_1 rfl (lv_at hl 1 rfl) ?_
  refine lv_iconst (v := (0 : Int32)) hx hb dJ0_indexOf_0f7a4_2 (by decide) ?_
  obtain ⟨r_3, M_1, hc_2, hf⟩ := zB_o hf
  refine zc_xi (As := [.int x1, .int (0 : Int32)]) (rest := []) C0 hP hS hl.1 i hi (mtJ0_indexOf_7cf53 l G hJ i hi x1 (0 : Int32) M _ hc_2) lk_J0_633 rfl ds_J0_indexOf_7cf53 (by rw [hRm]; exact ⟨Nat.le_of_ble_eq_true rfl, Nat.le_of_ble_eq_true rfl⟩) rfl rfl (Nat.le_of_ble_eq_true rfl) dJ0_indexOf_0f7a4_3 ⟨Nat.zero_le _, Nat.zero_le _⟩ (fun H locs hP hS => ?_)
  exact ze_i C0 hP hS hf dJ0_indexOf_0f7a4_6 hQ

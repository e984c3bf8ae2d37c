def fX5_within (x0 : Int32) (x1 : Int32) (x2 : Int32) (M : zM) : Option (Int32 × zM) :=
  if x0 < x1 then
    some ((0 : Int32), M)
  else
    if x2 < x0 then
      some ((0 : Int32), M)
    else
      some ((1 : Int32), M)
set_option maxHeartbeats 4000000 in
set_option maxRecDepth 100000 in
theorem mtX5_within (l : Launch) (G : zGr) (hJ : zJ G 64) (x0 : Int32) (x1 : Int32) (x2 : Int32) (M : zM) (o : Int32 × zM) (hf : fX5_within x0 x1 x2 M = some o) : zMi l G shX 64 yX5_within cX5_within 3 (some .boolean) 0 0 [.int x0, .int x1, .int x2] M o := by
  intro sz
  refine zOf (by decide) (Nat.le_of_ble_eq_true rfl) ?_
  intro p e R Q s m args below meth c hRm hsz hQ C0 hP hS ls hl
  subst hsz
  replace hRm : R = { frames := 0, cells := 0, slots := 0, locals := 0 } := hRm
  have hl : lv_has ls 3 [(0, .int x0), (1, .int x1), (2, .int x2)] := hl
  have hx := C0.1
  have hb := C0.2.1
  have hown := C0.2.2.2.1
  have hts := C0.2.2.2.2.1
  unfold fX5_within at hf
  obtain ⟨H, eH⟩ : ∃ H, H = s.heap := ⟨_, rfl⟩
  obtain ⟨locs, el⟩ : ∃ locs : List Loc, locs = [] := ⟨_, rfl⟩
  rw [← eH] at hP ⊢
  have hS : va_S (zA G 64 s.heap.size) s.heap H locs := by rw [eH, el]; exact hS
  rw [← el]
  refine lv_iload_n hx hb dX5_within_0 rfl (lv_at hl 0 rfl) ?_
  refine lv_iload_n hx hb dX5_within_1 rfl (lv_at hl 1 rfl) ?_
  refine lv_icmp_lt (tgt := 14) hx hb dX5_within_2 (by decide) (fun c_1 => ?_) (fun c_1 => ?_)
  · replace hf := zI_t c_1 hf
    refine lv_iconst (v := (0 : Int32)) hx hb dX5_within_14 (by decide) ?_
    exact ze_z C0 hP hS (by decide) hf dX5_within_15 hQ
  · replace hf := zI_f c_1 hf
    refine lv_iload_n hx hb dX5_within_5 rfl (lv_at hl 0 rfl) ?_
    refine lv_iload_n hx hb dX5_within_6 rfl (lv_at hl 2 rfl) ?_
    refine lv_icmp_gt (tgt := 14) hx hb dX5_within_7 (by decide) (fun c_2 => ?_) (fun c_2 => ?_)
    · replace hf := zI_t c_2 hf
      refine lv_iconst (v := (0 : Int32)) hx hb dX5_within_14 (by decide) ?_
      exact ze_z C0 hP hS (by decide) hf dX5_within_15 hQ
    · replace hf := zI_f c_2 hf
      refine lv_iconst (v := (1 : Int32)) hx hb dX5_within_10 (by decide) ?_
      refine lv_goto (tgt := 15) hx hb dX5_within_11 (by decide) ?_
      exact ze_z C0 hP hS (by decide) hf dX5_within_15 hQ
def fX5_bounded (x0 : Int32) (x1 : Int32) (x2 : Int32) (M : zM) : Option (Int32 × zM) :=
  some ((zmax x1 (zmin x2 x0)), M)
set_option maxHeartbeats 4000000 in
set_option maxRecDepth 100000 in
theorem mtX5_bounded (l : Launch) (G : zGr) (hJ : zJ G 64) (x0 : Int32) (x1 : Int32) (x2 : Int32) (M : zM) (o : Int32 × zM) (hf : fX5_bounded x0 x1 x2 M = some o) : zMi l G shX 64 yX5_bounded cX5_bounded 3 (some .int) 1 24 [.int x0, .int x1, .int x2] M o := by
  intro sz
  refine zOf (by decide) (Nat.le_of_ble_eq_true rfl) ?_
  intro p e R Q s m args below meth c hRm hsz hQ C0 hP hS ls hl
  subst hsz
  replace hRm : R = { frames := 1, cells := 0, slots := 0, locals := 24 } := hRm
  have hl : lv_has ls 3 [(0, .int x0), (1, .int x1), (2, .int x2)] := hl
  have hx := C0.1
  have hb := C0.2.1
  have hown := C0.2.2.2.1
  have hts := C0.2.2.2.2.1
  unfold fX5_bounded at hf
  obtain ⟨H, eH⟩ : ∃ H, H = s.heap := ⟨_, rfl⟩
  obtain ⟨locs, el⟩ : ∃ locs : List Loc, locs = [] := ⟨_, rfl⟩
  rw [← eH] at hP ⊢
  have hS : va_S (zA G 64 s.heap.size) s.heap H locs := by rw [eH, el]; exact hS
  rw [← el]
  refine lv_iload_n hx hb dX5_bounded_0 rfl (lv_at hl 1 rfl) ?_
  refine lv_iload_n hx hb dX5_bounded_1 rfl (lv_at hl 2 rfl) ?_
  refine lv_iload_n hx hb dX5_bounded_2 rfl (lv_at hl 0 rfl) ?_
  refine zo_min C0 hl.1 mw_48 mw_32 mw_29 mw_33 (by rw [hRm]; exact Nat.le_of_ble_eq_true rfl) (by rw [hRm]; exact Nat.le_of_ble_eq_true rfl) ⟨Nat.zero_le _, Nat.zero_le _⟩ dX5_bounded_3 ?_
  refine zo_max C0 hl.1 mw_49 mw_28 mw_29 mw_30 (by rw [hRm]; exact Nat.le_of_ble_eq_true rfl) (by rw [hRm]; exact Nat.le_of_ble_eq_true rfl) ⟨Nat.zero_le _, Nat.zero_le _⟩ dX5_bounded_6 ?_
  exact ze_i C0 hP hS hf dX5_bounded_9 hQ
def fX5_heldMost (x0 : Int32) (M : zM) : Option (Int32 × zM) :=
  if x0 = (0 : Int32) then
    some ((999 : Int32), M)
  else
    if x0 = (1 : Int32) then
      some ((9 : Int32), M)
    else
      if x0 = (2 : Int32) then
        some ((9 : Int32), M)
      else
        if x0 = (3 : Int32) then
          some ((999 : Int32), M)
        else
          if x0 = (4 : Int32) then
            some ((999 : Int32), M)
          else
            some ((9 : Int32), M)
set_option maxHeartbeats 4000000 in
set_option maxRecDepth 100000 in
theorem mtX5_heldMost (l : Launch) (G : zGr) (hJ : zJ G 64) (x0 : Int32) (M : zM) (o : Int32 × zM) (hf : fX5_heldMost x0 M = some o) : zMi l G shX 64 yX5_heldMost cX5_heldMost 1 (some .int) 0 0 [.int x0] M o := by
  intro sz
  refine zOf (by decide) (Nat.le_of_ble_eq_true rfl) ?_
  intro p e R Q s m args below meth c hRm hsz hQ C0 hP hS ls hl
  subst hsz
  replace hRm : R = { frames := 0, cells := 0, slots := 0, locals := 0 } := hRm
  have hl : lv_has ls 1 [(0, .int x0)] := hl
  have hx := C0.1
  have hb := C0.2.1
  have hown := C0.2.2.2.1
  have hts := C0.2.2.2.2.1
  unfold fX5_heldMost at hf
  obtain ⟨H, eH⟩ : ∃ H, H = s.heap := ⟨_, rfl⟩
  obtain ⟨locs, el⟩ : ∃ locs : List Loc, locs = [] := ⟨_, rfl⟩
  rw [← eH] at hP ⊢
  have hS : va_S (zA G 64 s.heap.size) s.heap H locs := by rw [eH, el]; exact hS
  rw [← el]
  refine lv_iload_n hx hb dX5_heldMost_0 rfl (lv_at hl 0 rfl) ?_
  refine if c_1 : x0 = (0 : Int32) then ?_ else ?_
  · replace hf := zI_t c_1 hf
    refine lv_tableIn (tgt := 36) hx hb dX5_heldMost_1 (by rw [c_1]; decide) (by rw [c_1]; decide) (off := 35) (by rw [c_1]; decide) (by decide) ?_
    refine lv_sipush (v := (999 : Int32)) hx hb dX5_heldMost_36 (by decide) ?_
    exact ze_i C0 hP hS hf dX5_heldMost_39 hQ
  · replace hf := zI_f c_1 hf
    refine if c_2 : x0 = (1 : Int32) then ?_ else ?_
    · replace hf := zI_t c_2 hf
      refine lv_tableIn (tgt := 48) hx hb dX5_heldMost_1 (by rw [c_2]; decide) (by rw [c_2]; decide) (off := 47) (by rw [c_2]; decide) (by decide) ?_
      refine lv_bipush (v := (9 : Int32)) hx hb dX5_heldMost_48 (by decide) ?_
      exact ze_i C0 hP hS hf dX5_heldMost_50 hQ
    · replace hf := zI_f c_2 hf
      refine if c_3 : x0 = (2 : Int32) then ?_ else ?_
      · replace hf := zI_t c_3 hf
        refine lv_tableIn (tgt := 48) hx hb dX5_heldMost_1 (by rw [c_3]; decide) (by rw [c_3]; decide) (off := 47) (by rw [c_3]; decide) (by decide) ?_
        refine lv_bipush (v := (9 : Int32)) hx hb dX5_heldMost_48 (by decide) ?_
        exact ze_i C0 hP hS hf dX5_heldMost_50 hQ
      · replace hf := zI_f c_3 hf
        refine if c_4 : x0 = (3 : Int32) then ?_ else ?_
        · replace hf := zI_t c_4 hf
          refine lv_tableIn (tgt := 40) hx hb dX5_heldMost_1 (by rw [c_4]; decide) (by rw [c_4]; decide) (off := 39) (by rw [c_4]; decide) (by decide) ?_
          refine lv_sipush (v := (999 : Int32)) hx hb dX5_heldMost_40 (by decide) ?_
          exact ze_i C0 hP hS hf dX5_heldMost_43 hQ
        · replace hf := zI_f c_4 hf
          refine if c_5 : x0 = (4 : Int32) then ?_ else ?_
          · replace hf := zI_t c_5 hf
            refine lv_tableIn (tgt := 44) hx hb dX5_heldMost_1 (by rw [c_5]; decide) (by rw [c_5]; decide) (off := 43) (by rw [c_5]; decide) (by decide) ?_
            refine lv_sipush (v := (999 : Int32)) hx hb dX5_heldMost_44 (by decide) ?_
            exact ze_i C0 hP hS hf dX5_heldMost_47 hQ
          · replace hf := zI_f c_5 hf
            have tc_1 := lv_neT (a := 0) c_1 (by decide)
            have tc_2 := lv_neT (a := 1) c_2 (by decide)
            have tc_3 := lv_neT (a := 2) c_3 (by decide)
            have tc_4 := lv_neT (a := 3) c_4 (by decide)
            have tc_5 := lv_neT (a := 4) c_5 (by decide)
            refine lv_tableOut (tgt := 48) hx hb dX5_heldMost_1 (by omega) (by decide) ?_
            refine lv_bipush (v := (9 : Int32)) hx hb dX5_heldMost_48 (by decide) ?_
            exact ze_i C0 hP hS hf dX5_heldMost_50 hQ
def fX5_isMinute (x0 : Int32) (M : zM) : Option (Int32 × zM) :=
  zB (fX5_within x0 (1 : Int32) (30 : Int32) M) fun r_3 M_1 =>
  zG (zbo r_3) <|
  some (r_3, M_1)
set_option maxHeartbeats 4000000 in
set_option maxRecDepth 100000 in
theorem mtX5_isMinute (l : Launch) (G : zGr) (hJ : zJ G 64) (x0 : Int32) (M : zM) (o : Int32 × zM) (hf : fX5_isMinute x0 M = some o) : zMi l G shX 64 yX5_isMinute cX5_isMinute 1 (some .boolean) 1 22 [.int x0] M o := by
  intro sz
  refine zOf (by decide) (Nat.le_of_ble_eq_true rfl) ?_
  intro p e R Q s m args below meth c hRm hsz hQ C0 hP hS ls hl
  subst hsz
  replace hRm : R = { frames := 1, cells := 0, slots := 0, locals := 22 } := hRm
  have hl : lv_has ls 1 [(0, .int x0)] := hl
  have hx := C0.1
  have hb := C0.2.1
  have hown := C0.2.2.2.1
  have hts := C0.2.2.2.2.1
  unfold fX5_isMinute at hf
  obtain ⟨H, eH⟩ : ∃ H, H = s.heap := ⟨_, rfl⟩
  obtain ⟨locs, el⟩ : ∃ locs : List Loc, locs = [] := ⟨_, rfl⟩
  rw [← eH] at hP ⊢
  have hS : va_S (zA G 64 s.heap.size) s.heap H locs := by rw [eH, el]; exact hS
  rw [← el]
  refine lv_iload_n hx hb dX5_isMinute_0 rfl (lv_at hl 0 rfl) ?_
  refine lv_iconst (v := (1 : Int32)) hx hb dX5_isMinute_1 (by decide) ?_
  refine lv_bipush (v := (30 : Int32)) hx hb dX5_isMinute_2 (by decide) ?_
  obtain ⟨r_3, M_1, hc_2, hf⟩ := zB_o hf
  refine zc_si (As := [.int x0, .int (1 : Int32), .int (30 : Int32)]) (rest := []) C0 hP hS hl.1 (mtX5_within l G hJ x0 (1 : Int32) (30 : Int32) M _ hc_2) ls_X5_78 ds_X5_within (by rw [hRm]; exact ⟨Nat.le_of_ble_eq_true rfl, Nat.le_of_ble_eq_true rfl⟩) rfl rfl (Nat.le_of_ble_eq_true rfl) dX5_isMinute_4 ⟨Nat.zero_le _, Nat.zero_le _⟩ (fun H locs hP hS => ?_)
  obtain ⟨hg_4, hf⟩ := zG_o hf
  exact ze_z C0 hP hS hg_4 hf dX5_isMinute_7 hQ
def fX5_nextTold_B2 (r2 : Int32 → Int32 → zM → Option (Int32 × zM)) (x0 : Int32) (x2 : Int32) (M : zM) : Option (Int32 × zM) :=
  if (30 : Int32) < x2 then
    some ((-1 : Int32), M)
  else
    if ((zshr x0 x2) &&& (1 : Int32)) = (1 : Int32) then
      some (x2, M)
    else
      zL (x2 + (1 : Int32)) fun x2_3 =>
      r2 x0 x2_3 M
def fX5_nextTold_L2 : Nat → Int32 → Int32 → zM → Option (Int32 × zM)
  | 0 => fun _ _ _ => none
  | j9 + 1 => fX5_nextTold_B2 (fX5_nextTold_L2 j9)
def fX5_nextTold (x0 : Int32) (x1 : Int32) (M : zM) : Option (Int32 × zM) :=
  fX5_nextTold_L2 zF x0 x1 M
set_option maxHeartbeats 4000000 in
set_option maxRecDepth 100000 in
theorem mtX5_nextTold (l : Launch) (G : zGr) (hJ : zJ G 64) (x0 : Int32) (x1 : Int32) (M : zM) (o : Int32 × zM) (hf : fX5_nextTold x0 x1 M = some o) : zMi l G shX 64 yX5_nextTold cX5_nextTold 3 (some .int) 0 0 [.int x0, .int x1] M o := by
  intro sz
  refine zOf (by decide) (Nat.le_of_ble_eq_true rfl) ?_
  intro p e R Q s m args below meth c hRm hsz hQ C0 hP hS ls hl
  subst hsz
  replace hRm : R = { frames := 0, cells := 0, slots := 0, locals := 0 } := hRm
  have hl : lv_has ls 3 [(0, .int x0), (1, .int x1)] := hl
  have hx := C0.1
  have hb := C0.2.1
  have hown := C0.2.2.2.1
  have hts := C0.2.2.2.2.1
  have L2 : ∀ (n2 : Nat), ∀ (x0 : Int32) (x2 : Int32) (M : zM) (H : Heap) (locs : List Loc) (ls : Array Slot), lv_has ls 3 [(0, .int x0), (2, .int x2)] → va_P G.1 zcl (zw G shX 64 M) H → va_S (zA G 64 s.heap.size) s.heap H locs → fX5_nextTold_L2 n2 x0 x2 M = some o → W p l e R s m args below meth c H locs 0 0 Q (F0 m 2 ls []) := by
    intro n2
    induction n2 with
    | zero => intro x0 x2 M H locs ls hl hP hS hf; exact zn_s (show none = some o from hf)
    | succ n2 ih2 =>
      intro x0 x2 M H locs ls hl hP hS hf
      replace hf : fX5_nextTold_B2 (fX5_nextTold_L2 n2) x0 x2 M = some o := hf
      unfold fX5_nextTold_B2 at hf
      refine lv_iload_n hx hb dX5_nextTold_2 rfl (lv_at hl 1 rfl) ?_
      refine lv_bipush (v := (30 : Int32)) hx hb dX5_nextTold_3 (by decide) ?_
      refine lv_icmp_gt (tgt := 25) hx hb dX5_nextTold_5 (by decide) (fun c_1 => ?_) (fun c_1 => ?_)
      · replace hf := zI_t c_1 hf
        refine lv_iconst (v := (-1 : Int32)) hx hb dX5_nextTold_25 (by decide) ?_
        exact ze_i C0 hP hS hf dX5_nextTold_26 hQ
      · replace hf := zI_f c_1 hf
        refine lv_iload_n hx hb dX5_nextTold_8 rfl (lv_at hl 0 rfl) ?_
        refine lv_iload_n hx hb dX5_nextTold_9 rfl (lv_at hl 1 rfl) ?_
        refine zo_ishr hx hb dX5_nextTold_10 ?_
        refine lv_iconst (v := (1 : Int32)) hx hb dX5_nextTold_11 (by decide) ?_
        refine lv_iand hx hb dX5_nextTold_12 ?_
        refine lv_iconst (v := (1 : Int32)) hx hb dX5_nextTold_13 (by decide) ?_
        refine lv_icmp_ne (tgt := 19) hx hb dX5_nextTold_14 (by decide) (fun c_2 => ?_) (fun c_2 => ?_)
        · replace hf := zI_f c_2 hf
          obtain ⟨x2_3, ex2_3, hf⟩ := zL_o hf
          refine lv_iinc (v := x2_3) (lv' := [(2, .int x2_3), (0, .int x0)]) hx hb dX5_nextTold_19 hl (k := 1) rfl (by rw [ex2_3]; rfl) (by decide) rfl (fun ls hl => ?_)
          refine lv_goto (tgt := 2) hx hb dX5_nextTold_22 (by decide) ?_
          exact ih2 x0 x2_3 M H locs ls (lv_sub hl [1, 0] rfl) hP hS hf
        · replace hf := zI_t c_2 hf
          refine lv_iload_n hx hb dX5_nextTold_17 rfl (lv_at hl 1 rfl) ?_
          exact ze_i C0 hP hS hf dX5_nextTold_18 hQ
  unfold fX5_nextTold at hf
  obtain ⟨H, eH⟩ : ∃ H, H = s.heap := ⟨_, rfl⟩
  obtain ⟨locs, el⟩ : ∃ locs : List Loc, locs = [] := ⟨_, rfl⟩
  rw [← eH] at hP ⊢
  have hS : va_S (zA G 64 s.heap.size) s.heap H locs := by rw [eH, el]; exact hS
  rw [← el]
  refine lv_iload_n hx hb dX5_nextTold_0 rfl (lv_at hl 1 rfl) ?_
  refine lv_istore_n (lv' := [(2, .int x1), (0, .int x0), (1, .int x1)]) hx hb dX5_nextTold_1 rfl hl (by decide) rfl (fun ls hl => ?_)
  exact L2 zF x0 x1 M H locs ls (lv_sub hl [1, 0] rfl) hP hS hf
def fX5_greatestShared_B4 (r4 : Int32 → Int32 → Int32 → Int32 → zM → Option (Int32 × zM)) (x0 : Int32) (x1 : Int32) (x2 : Int32) (x3 : Int32) (M : zM) : Option (Int32 × zM) :=
  if x1 < x3 then
    some (x2, M)
  else
    zG (znz x3) <|
    if (zrm x0 x3) = (0 : Int32) then
      zG (znz x3) <|
      if (zrm x1 x3) = (0 : Int32) then
        zL (x3 + (1 : Int32)) fun x3_8 =>
        r4 x0 x1 x3 x3_8 M
      else
        zL (x3 + (1 : Int32)) fun x3_7 =>
        r4 x0 x1 x2 x3_7 M
    else
      zL (x3 + (1 : Int32)) fun x3_4 =>
      r4 x0 x1 x2 x3_4 M
def fX5_greatestShared_L4 : Nat → Int32 → Int32 → Int32 → Int32 → zM → Option (Int32 × zM)
  | 0 => fun _ _ _ _ _ => none
  | j9 + 1 => fX5_greatestShared_B4 (fX5_greatestShared_L4 j9)
def fX5_greatestShared (x0 : Int32) (x1 : Int32) (M : zM) : Option (Int32 × zM) :=
  fX5_greatestShared_L4 zF x0 x1 (1 : Int32) (2 : Int32) M
set_option maxHeartbeats 4000000 in
set_option maxRecDepth 100000 in
theorem mtX5_greatestShared (l : Launch) (G : zGr) (hJ : zJ G 64) (x0 : Int32) (x1 : Int32) (M : zM) (o : Int32 × zM) (hf : fX5_greatestShared x0 x1 M = some o) : zMi l G shX 64 yX5_greatestShared cX5_greatestShared 4 (some .int) 0 0 [.int x0, .int x1] M o := by
  intro sz
  refine zOf (by decide) (Nat.le_of_ble_eq_true rfl) ?_
  intro p e R Q s m args below meth c hRm hsz hQ C0 hP hS ls hl
  subst hsz
  replace hRm : R = { frames := 0, cells := 0, slots := 0, locals := 0 } := hRm
  have hl : lv_has ls 4 [(0, .int x0), (1, .int x1)] := hl
  have hx := C0.1
  have hb := C0.2.1
  have hown := C0.2.2.2.1
  have hts := C0.2.2.2.2.1
  have L4 : ∀ (n4 : Nat), ∀ (x0 : Int32) (x1 : Int32) (x2 : Int32) (x3 : Int32) (M : zM) (H : Heap) (locs : List Loc) (ls : Array Slot), lv_has ls 4 [(0, .int x0), (1, .int x1), (2, .int x2), (3, .int x3)] → va_P G.1 zcl (zw G shX 64 M) H → va_S (zA G 64 s.heap.size) s.heap H locs → fX5_greatestShared_L4 n4 x0 x1 x2 x3 M = some o → W p l e R s m args below meth c H locs 0 0 Q (F0 m 4 ls []) := by
    intro n4
    induction n4 with
    | zero => intro x0 x1 x2 x3 M H locs ls hl hP hS hf; exact zn_s (show none = some o from hf)
    | succ n4 ih4 =>
      intro x0 x1 x2 x3 M H locs ls hl hP hS hf
      replace hf : fX5_greatestShared_B4 (fX5_greatestShared_L4 n4) x0 x1 x2 x3 M = some o := hf
      unfold fX5_greatestShared_B4 at hf
      refine lv_iload_n hx hb dX5_greatestShared_4 rfl (lv_at hl 3 rfl) ?_
      refine lv_iload_n hx hb dX5_greatestShared_5 rfl (lv_at hl 1 rfl) ?_
      refine lv_icmp_gt (tgt := 29) hx hb dX5_greatestShared_6 (by decide) (fun c_1 => ?_) (fun c_1 => ?_)
      · replace hf := zI_t c_1 hf
        refine lv_iload_n hx hb dX5_greatestShared_29 rfl (lv_at hl 2 rfl) ?_
        exact ze_i C0 hP hS hf dX5_greatestShared_30 hQ
      · replace hf := zI_f c_1 hf
        refine lv_iload_n hx hb dX5_greatestShared_9 rfl (lv_at hl 0 rfl) ?_
        refine lv_iload_n hx hb dX5_greatestShared_10 rfl (lv_at hl 3 rfl) ?_
        obtain ⟨hg_2, hf⟩ := zG_o hf
        refine zo_irem hx hb dX5_greatestShared_11 (znz_i hg_2) ?_
        refine lv_if_ne (tgt := 23) hx hb dX5_greatestShared_12 (by decide) (fun c_3 => ?_) (fun c_3 => ?_)
        · replace hf := zI_f c_3 hf
          obtain ⟨x3_4, ex3_4, hf⟩ := zL_o hf
          refine lv_iinc (v := x3_4) (lv' := [(3, .int x3_4), (0, .int x0), (1, .int x1), (2, .int x2)]) hx hb dX5_greatestShared_23 hl (k := 3) rfl (by rw [ex3_4]; rfl) (by decide) rfl (fun ls hl => ?_)
          refine lv_goto (tgt := 4) hx hb dX5_greatestShared_26 (by decide) ?_
          exact ih4 x0 x1 x2 x3_4 M H locs ls (lv_sub hl [1, 2, 3, 0] rfl) hP hS hf
        · replace hf := zI_t c_3 hf
          refine lv_iload_n hx hb dX5_greatestShared_15 rfl (lv_at hl 1 rfl) ?_
          refine lv_iload_n hx hb dX5_greatestShared_16 rfl (lv_at hl 3 rfl) ?_
          obtain ⟨hg_5, hf⟩ := zG_o hf
          refine zo_irem hx hb dX5_greatestShared_17 (znz_i hg_5) ?_
          refine lv_if_ne (tgt := 23) hx hb dX5_greatestShared_18 (by decide) (fun c_6 => ?_) (fun c_6 => ?_)
          · replace hf := zI_f c_6 hf
            obtain ⟨x3_7, ex3_7, hf⟩ := zL_o hf
            refine lv_iinc (v := x3_7) (lv' := [(3, .int x3_7), (0, .int x0), (1, .int x1), (2, .int x2)]) hx hb dX5_greatestShared_23 hl (k := 3) rfl (by rw [ex3_7]; rfl) (by decide) rfl (fun ls hl => ?_)
            refine lv_goto (tgt := 4) hx hb dX5_greatestShared_26 (by decide) ?_
            exact ih4 x0 x1 x2 x3_7 M H locs ls (lv_sub hl [1, 2, 3, 0] rfl) hP hS hf
          · replace hf := zI_t c_6 hf
            refine lv_iload_n hx hb dX5_greatestShared_21 rfl (lv_at hl 3 rfl) ?_
            refine lv_istore_n (lv' := [(2, .int x3), (0, .int x0), (1, .int x1), (3, .int x3)]) hx hb dX5_greatestShared_22 rfl hl (by decide) rfl (fun ls hl => ?_)
            obtain ⟨x3_8, ex3_8, hf⟩ := zL_o hf
            refine lv_iinc (v := x3_8) (lv' := [(3, .int x3_8), (2, .int x3), (0, .int x0), (1, .int x1)]) hx hb dX5_greatestShared_23 hl (k := 3) rfl (by rw [ex3_8]; rfl) (by decide) rfl (fun ls hl => ?_)
            refine lv_goto (tgt := 4) hx hb dX5_greatestShared_26 (by decide) ?_
            exact ih4 x0 x1 x3 x3_8 M H locs ls (lv_sub hl [2, 3, 1, 0] rfl) hP hS hf
  unfold fX5_greatestShared at hf
  obtain ⟨H, eH⟩ : ∃ H, H = s.heap := ⟨_, rfl⟩
  obtain ⟨locs, el⟩ : ∃ locs : List Loc, locs = [] := ⟨_, rfl⟩
  rw [← eH] at hP ⊢
  have hS : va_S (zA G 64 s.heap.size) s.heap H locs := by rw [eH, el]; exact hS
  rw [← el]
  refine lv_iconst (v := (1 : Int32)) hx hb dX5_greatestShared_0 (by decide) ?_
  refine lv_istore_n (lv' := [(2, .int (1 : Int32)), (0, .int x0), (1, .int x1)]) hx hb dX5_greatestShared_1 rfl hl (by decide) rfl (fun ls hl => ?_)
  refine lv_iconst (v := (2 : Int32)) hx hb dX5_greatestShared_2 (by decide) ?_
  refine lv_istore_n (lv' := [(3, .int (2 : Int32)), (2, .int (1 : Int32)), (0, .int x0), (1, .int x1)]) hx hb dX5_greatestShared_3 rfl hl (by decide) rfl (fun ls hl => ?_)
  exact L4 zF x0 x1 (1 : Int32) (2 : Int32) M H locs ls (lv_sub hl [2, 3, 1, 0] rfl) hP hS hf
def fX5_kindAbove (x0 : Int32) (M : zM) : Option (Int32 × zM) :=
  if x0 = (3 : Int32) then
    some ((1 : Int32), M)
  else
    if x0 = (4 : Int32) then
      some ((2 : Int32), M)
    else
      some ((0 : Int32), M)
set_option maxHeartbeats 4000000 in
set_option maxRecDepth 100000 in
theorem mtX5_kindAbove (l : Launch) (G : zGr) (hJ : zJ G 64) (x0 : Int32) (M : zM) (o : Int32 × zM) (hf : fX5_kindAbove x0 M = some o) : zMi l G shX 64 yX5_kindAbove cX5_kindAbove 1 (some .int) 0 0 [.int x0] M o := by
  intro sz
  refine zOf (by decide) (Nat.le_of_ble_eq_true rfl) ?_
  intro p e R Q s m args below meth c hRm hsz hQ C0 hP hS ls hl
  subst hsz
  replace hRm : R = { frames := 0, cells := 0, slots := 0, locals := 0 } := hRm
  have hl : lv_has ls 1 [(0, .int x0)] := hl
  have hx := C0.1
  have hb := C0.2.1
  have hown := C0.2.2.2.1
  have hts := C0.2.2.2.2.1
  unfold fX5_kindAbove at hf
  obtain ⟨H, eH⟩ : ∃ H, H = s.heap := ⟨_, rfl⟩
  obtain ⟨locs, el⟩ : ∃ locs : List Loc, locs = [] := ⟨_, rfl⟩
  rw [← eH] at hP ⊢
  have hS : va_S (zA G 64 s.heap.size) s.heap H locs := by rw [eH, el]; exact hS
  rw [← el]
  refine lv_iload_n hx hb dX5_kindAbove_0 rfl (lv_at hl 0 rfl) ?_
  refine if c_1 : x0 = (3 : Int32) then ?_ else ?_
  · replace hf := zI_t c_1 hf
    refine lv_lookup (tgt := 28) hx hb dX5_kindAbove_1 (by decide) (off := 27) (by rw [c_1]; decide) (by decide) ?_
    refine lv_iconst (v := (1 : Int32)) hx hb dX5_kindAbove_28 (by decide) ?_
    exact ze_i C0 hP hS hf dX5_kindAbove_29 hQ
  · replace hf := zI_f c_1 hf
    refine if c_2 : x0 = (4 : Int32) then ?_ else ?_
    · replace hf := zI_t c_2 hf
      refine lv_lookup (tgt := 30) hx hb dX5_kindAbove_1 (by decide) (off := 29) (by rw [c_2]; decide) (by decide) ?_
      refine lv_iconst (v := (2 : Int32)) hx hb dX5_kindAbove_30 (by decide) ?_
      exact ze_i C0 hP hS hf dX5_kindAbove_31 hQ
    · replace hf := zI_f c_2 hf
      refine lv_lookup (tgt := 32) hx hb dX5_kindAbove_1 (by decide) (off := 31) (by show Op.lookupswitch.offset [(3, 27), (4, 29)] _ _ = _; rw [lv_osw c_1 (by decide), lv_osw c_2 (by decide)]; rfl) (by decide) ?_
      refine lv_iconst (v := (0 : Int32)) hx hb dX5_kindAbove_32 (by decide) ?_
      exact ze_i C0 hP hS hf dX5_kindAbove_33 hQ
def fX5_isUnder_J30 (x1 : Int32) (x2 : Int32) (M : zM) : Option (Int32 × zM) :=
  if x2 = x1 then
    some ((1 : Int32), M)
  else
    some ((0 : Int32), M)
def fX5_isUnder_B4 (r4 : Int32 → Int32 → Int32 → zM → Option (Int32 × zM)) (x1 : Int32) (x2 : Int32) (x3 : Int32) (M : zM) : Option (Int32 × zM) :=
  if (6 : Int32) ≤ x3 then
    fX5_isUnder_J30 x1 x2 M
  else
    if x2 = x1 then
      fX5_isUnder_J30 x1 x2 M
    else
      if x2 = (0 : Int32) then
        fX5_isUnder_J30 x1 x2 M
      else
        zB (fX5_kindAbove x2 M) fun r_7 M_5 =>
        zL (x3 + (1 : Int32)) fun x3_8 =>
        r4 x1 r_7 x3_8 M_5
def fX5_isUnder_L4 : Nat → Int32 → Int32 → Int32 → zM → Option (Int32 × zM)
  | 0 => fun _ _ _ _ => none
  | j9 + 1 => fX5_isUnder_B4 (fX5_isUnder_L4 j9)
def fX5_isUnder (x0 : Int32) (x1 : Int32) (M : zM) : Option (Int32 × zM) :=
  fX5_isUnder_L4 zF x1 x0 (0 : Int32) M
set_option maxHeartbeats 4000000 in
set_option maxRecDepth 100000 in
theorem mtX5_isUnder (l : Launch) (G : zGr) (hJ : zJ G 64) (x0 : Int32) (x1 : Int32) (M : zM) (o : Int32 × zM) (hf : fX5_isUnder x0 x1 M = some o) : zMi l G shX 64 yX5_isUnder cX5_isUnder 4 (some .boolean) 1 20 [.int x0, .int x1] M o := by
  intro sz
  refine zOf (by decide) (Nat.le_of_ble_eq_true rfl) ?_
  intro p e R Q s m args below meth c hRm hsz hQ C0 hP hS ls hl
  subst hsz
  replace hRm : R = { frames := 1, cells := 0, slots := 0, locals := 20 } := hRm
  have hl : lv_has ls 4 [(0, .int x0), (1, .int x1)] := hl
  have hx := C0.1
  have hb := C0.2.1
  have hown := C0.2.2.2.1
  have hts := C0.2.2.2.2.1
  have J30 : ∀ (x1 : Int32) (x2 : Int32) (M : zM) (H : Heap) (locs : List Loc) (ls : Array Slot), lv_has ls 4 [(1, .int x1), (2, .int x2)] → va_P G.1 zcl (zw G shX 64 M) H → va_S (zA G 64 s.heap.size) s.heap H locs → fX5_isUnder_J30 x1 x2 M = some o → W p l e R s m args below meth c H locs 0 0 Q (F0 m 30 ls []) := by
    intro x1 x2 M H locs ls hl hP hS hf
    unfold fX5_isUnder_J30 at hf
    refine lv_iload_n hx hb dX5_isUnder_30 rfl (lv_at hl 1 rfl) ?_
    refine lv_iload_n hx hb dX5_isUnder_31 rfl (lv_at hl 0 rfl) ?_
    refine lv_icmp_ne (tgt := 39) hx hb dX5_isUnder_32 (by decide) (fun c_2 => ?_) (fun c_2 => ?_)
    · replace hf := zI_f c_2 hf
      refine lv_iconst (v := (0 : Int32)) hx hb dX5_isUnder_39 (by decide) ?_
      exact ze_z C0 hP hS (by decide) hf dX5_isUnder_40 hQ
    · replace hf := zI_t c_2 hf
      refine lv_iconst (v := (1 : Int32)) hx hb dX5_isUnder_35 (by decide) ?_
      refine lv_goto (tgt := 40) hx hb dX5_isUnder_36 (by decide) ?_
      exact ze_z C0 hP hS (by decide) hf dX5_isUnder_40 hQ
  have L4 : ∀ (n4 : Nat), ∀ (x1 : Int32) (x2 : Int32) (x3 : Int32) (M : zM) (H : Heap) (locs : List Loc) (ls : Array Slot), lv_has ls 4 [(1, .int x1), (2, .int x2), (3, .int x3)] → va_P G.1 zcl (zw G shX 64 M) H → va_S (zA G 64 s.heap.size) s.heap H locs → fX5_isUnder_L4 n4 x1 x2 x3 M = some o → W p l e R s m args below meth c H locs 0 0 Q (F0 m 4 ls []) := by
    intro n4
    induction n4 with
    | zero => intro x1 x2 x3 M H locs ls hl hP hS hf; exact zn_s (show none = some o from hf)
    | succ n4 ih4 =>
      intro x1 x2 x3 M H locs ls hl hP hS hf
      replace hf : fX5_isUnder_B4 (fX5_isUnder_L4 n4) x1 x2 x3 M = some o := hf
      unfold fX5_isUnder_B4 at hf
      refine lv_iload_n hx hb dX5_isUnder_4 rfl (lv_at hl 2 rfl) ?_
      refine lv_bipush (v := (6 : Int32)) hx hb dX5_isUnder_5 (by decide) ?_
      refine lv_icmp_ge (tgt := 30) hx hb dX5_isUnder_7 (by decide) (fun c_1 => ?_) (fun c_1 => ?_)
      · replace hf := zI_t c_1 hf
        exact J30 x1 x2 M H locs ls (lv_sub hl [0, 1] rfl) hP hS hf
      · replace hf := zI_f c_1 hf
        refine lv_iload_n hx hb dX5_isUnder_10 rfl (lv_at hl 1 rfl) ?_
        refine lv_iload_n hx hb dX5_isUnder_11 rfl (lv_at hl 0 rfl) ?_
        refine lv_icmp_eq (tgt := 30) hx hb dX5_isUnder_12 (by decide) (fun c_3 => ?_) (fun c_3 => ?_)
        · replace hf := zI_t c_3 hf
          exact J30 x1 x2 M H locs ls (lv_sub hl [0, 1] rfl) hP hS hf
        · replace hf := zI_f c_3 hf
          refine lv_iload_n hx hb dX5_isUnder_15 rfl (lv_at hl 1 rfl) ?_
          refine lv_if_eq (tgt := 30) hx hb dX5_isUnder_16 (by decide) (fun c_4 => ?_) (fun c_4 => ?_)
          · replace hf := zI_t c_4 hf
            exact J30 x1 x2 M H locs ls (lv_sub hl [0, 1] rfl) hP hS hf
          · replace hf := zI_f c_4 hf
            refine lv_iload_n hx hb dX5_isUnder_19 rfl (lv_at hl 1 rfl) ?_
            obtain ⟨r_7, M_5, hc_6, hf⟩ := zB_o hf
            refine zc_si (As := [.int x2]) (rest := []) C0 hP hS hl.1 (mtX5_kindAbove l G hJ x2 M _ hc_6) ls_X5_257 ds_X5_kindAbove (by rw [hRm]; exact ⟨Nat.le_of_ble_eq_true rfl, Nat.le_of_ble_eq_true rfl⟩) rfl rfl (Nat.le_of_ble_eq_true rfl) dX5_isUnder_20 ⟨Nat.zero_le _, Nat.zero_le _⟩ (fun H locs hP hS => ?_)
            refine lv_istore_n (lv' := [(2, .int r_7), (1, .int x1), (3, .int x3)]) hx hb dX5_isUnder_23 rfl hl (by decide) rfl (fun ls hl => ?_)
            obtain ⟨x3_8, ex3_8, hf⟩ := zL_o hf
            refine lv_iinc (v := x3_8) (lv' := [(3, .int x3_8), (2, .int r_7), (1, .int x1)]) hx hb dX5_isUnder_24 hl (k := 2) rfl (by rw [ex3_8]; rfl) (by decide) rfl (fun ls hl => ?_)
            refine lv_goto (tgt := 4) hx hb dX5_isUnder_27 (by decide) ?_
            exact ih4 x1 r_7 x3_8 M_5 H locs ls (lv_sub hl [2, 1, 0] rfl) hP hS hf
  unfold fX5_isUnder at hf
  obtain ⟨H, eH⟩ : ∃ H, H = s.heap := ⟨_, rfl⟩
  obtain ⟨locs, el⟩ : ∃ locs : List Loc, locs = [] := ⟨_, rfl⟩
  rw [← eH] at hP ⊢
  have hS : va_S (zA G 64 s.heap.size) s.heap H locs := by rw [eH, el]; exact hS
  rw [← el]
  refine lv_iload_n hx hb dX5_isUnder_0 rfl (lv_at hl 0 rfl) ?_
  refine lv_istore_n (lv' := [(2, .int x0), (0, .int x0), (1, .int x1)]) hx hb dX5_isUnder_1 rfl hl (by decide) rfl (fun ls hl => ?_)
  refine lv_iconst (v := (0 : Int32)) hx hb dX5_isUnder_2 (by decide) ?_
  refine lv_istore_n (lv' := [(3, .int (0 : Int32)), (2, .int x0), (0, .int x0), (1, .int x1)]) hx hb dX5_isUnder_3 rfl hl (by decide) rfl (fun ls hl => ?_)
  exact L4 zF x1 x0 (0 : Int32) M H locs ls (lv_sub hl [3, 1, 0] rfl) hP hS hf
def fJ7_fill_53178_B5 (a : Nat) (n : Nat) (r5 : Int32 → Int32 → Int32 → zM → Option (zM)) (x1 : Int32) (x2 : Int32) (x3 : Int32) (M : zM) : Option (zM) :=
  if x3 ≤ x2 then
    some M
  else
    zG (zin x2 n) <|
    zL (zu M a x2.toNatClampNeg x1) fun M_4 =>
    zL (x2 + (1 : Int32)) fun x2_5 =>
    r5 x1 x2_5 x3 M_4
def fJ7_fill_53178_L5 (a : Nat) (n : Nat) : Nat → Int32 → Int32 → Int32 → zM → Option (zM)
  | 0 => fun _ _ _ _ => none
  | j9 + 1 => fJ7_fill_53178_B5 a n (fJ7_fill_53178_L5 a n j9)
def fJ7_fill_53178 (a : Nat) (n : Nat) (x1 : Int32) (M : zM) : Option (zM) :=
  zL (Int32.ofNat n) fun x3_1 =>
  fJ7_fill_53178_L5 a n zF x1 (0 : Int32) x3_1 M
set_option maxHeartbeats 4000000 in
set_option maxRecDepth 100000 in
theorem mtJ7_fill_53178 (l : Launch) (G : zGr) (hJ : zJ G 64) (a : Nat) (n : Nat) (ha : a < 64) (ka : shX a = .inr (0, n, 0, 0)) (x1 : Int32) (M : zM) (o : zM) (hf : fJ7_fill_53178 a n x1 M = some o) : zMv l G shX 64 yJ7_fill_53178 cJ7_fill_53178 4 none 0 0 [.ref (G.2.2.1 a), .int x1] M o := by
  intro sz
  refine zOf (by decide) (Nat.le_of_ble_eq_true rfl) ?_
  intro p e R Q s m args below meth c hRm hsz hQ C0 hP hS ls hl
  subst hsz
  replace hRm : R = { frames := 0, cells := 0, slots := 0, locals := 0 } := hRm
  have hl : lv_has ls 4 [(0, .ref (G.2.2.1 a)), (1, .int x1)] := hl
  have hx := C0.1
  have hb := C0.2.1
  have hown := C0.2.2.2.1
  have hts := C0.2.2.2.2.1
  have L5 : ∀ (n5 : Nat), ∀ (x1 : Int32) (x2 : Int32) (x3 : Int32) (M : zM) (H : Heap) (locs : List Loc) (ls : Array Slot), lv_has ls 4 [(0, .ref (G.2.2.1 a)), (1, .int x1), (2, .int x2), (3, .int x3)] → va_P G.1 zcl (zw G shX 64 M) H → va_S (zA G 64 s.heap.size) s.heap H locs → fJ7_fill_53178_L5 a n n5 x1 x2 x3 M = some o → W p l e R s m args below meth c H locs 0 0 Q (F0 m 5 ls []) := by
    intro n5
    induction n5 with
    | zero => intro x1 x2 x3 M H locs ls hl hP hS hf; exact zn_s (show none = some o from hf)
    | succ n5 ih5 =>
      intro x1 x2 x3 M H locs ls hl hP hS hf
      replace hf : fJ7_fill_53178_B5 a n (fJ7_fill_53178_L5 a n n5) x1 x2 x3 M = some o := hf
      unfold fJ7_fill_53178_B5 at hf
      refine lv_iload_n hx hb dJ7_fill_53178_5 rfl (lv_at hl 2 rfl) ?_
      refine lv_iload_n hx hb dJ7_fill_53178_6 rfl (lv_at hl 3 rfl) ?_
      refine lv_icmp_ge (tgt := 20) hx hb dJ7_fill_53178_7 (by decide) (fun c_2 => ?_) (fun c_2 => ?_)
      · replace hf := zI_t c_2 hf
        exact ze_v C0 hP hS hf dJ7_fill_53178_20 hQ
      · replace hf := zI_f c_2 hf
        refine lv_aload_n hx hb dJ7_fill_53178_10 rfl (lv_at hl 0 rfl) ?_
        refine lv_iload_n hx hb dJ7_fill_53178_11 rfl (lv_at hl 2 rfl) ?_
        refine lv_iload_n hx hb dJ7_fill_53178_12 rfl (lv_at hl 1 rfl) ?_
        obtain ⟨hg_3, hf⟩ := zG_o hf
        refine zr_iast C0 hJ hP hS a ha ka hg_3 dJ7_fill_53178_13 (fun H locs hP hS => ?_)
        obtain ⟨M_4, eM_4, hf⟩ := zL_o hf
        have hP : va_P G.1 zcl (zw G shX 64 M_4) H := by rw [eM_4]; exact hP
        obtain ⟨x2_5, ex2_5, hf⟩ := zL_o hf
        refine lv_iinc (v := x2_5) (lv' := [(2, .int x2_5), (0, .ref (G.2.2.1 a)), (1, .int x1), (3, .int x3)]) hx hb dJ7_fill_53178_14 hl (k := 2) rfl (by rw [ex2_5]; rfl) (by decide) rfl (fun ls hl => ?_)
        refine lv_goto (tgt := 5) hx hb dJ7_fill_53178_17 (by decide) ?_
        exact ih5 x1 x2_5 x3 M_4 H locs ls (lv_sub hl [1, 2, 0, 3] rfl) hP hS hf
  unfold fJ7_fill_53178 at hf
  obtain ⟨H, eH⟩ : ∃ H, H = s.heap := ⟨_, rfl⟩
  obtain ⟨locs, el⟩ : ∃ locs : List Loc, locs = [] := ⟨_, rfl⟩
  rw [← eH] at hP ⊢
  have hS : va_S (zA G 64 s.heap.size) s.heap H locs := by rw [eH, el]; exact hS
  rw [← el]
  refine lv_iconst (v := (0 : Int32)) hx hb dJ7_fill_53178_0 (by decide) ?_
  refine lv_istore_n (lv' := [(2, .int (0 : Int32)), (0, .ref (G.2.2.1 a)), (1, .int x1)]) hx hb dJ7_fill_53178_1 rfl hl (by decide) rfl (fun ls hl => ?_)
  refine lv_aload_n hx hb dJ7_fill_53178_2 rfl (lv_at hl 1 rfl) ?_
  refine zr_alen (v := (Int32.ofNat n)) C0 hP a ha ka (by decide) rfl dJ7_fill_53178_3 ?_
  refine lv_topi (fun x3_1 ex3_1 => ?_)
  replace hf := zL_e ex3_1 hf
  refine lv_istore_n (lv' := [(3, .int x3_1), (2, .int (0 : Int32)), (0, .ref (G.2.2.1 a)), (1, .int x1)]) hx hb dJ7_fill_53178_4 rfl hl (by decide) rfl (fun ls hl => ?_)
  exact L5 zF x1 (0 : Int32) x3_1 M H locs ls (lv_sub hl [2, 3, 1, 0] rfl) hP hS hf
def fJ7_fill_d0a16_B6 (a : Nat) (n : Nat) (r6 : Int64 → Int32 → Int32 → zM → Option (zM)) (x1 : Int64) (x3 : Int32) (x4 : Int32) (M : zM) : Option (zM) :=
  if x4 ≤ x3 then
    some M
  else
    zG (zin x3 n) <|
    zL (zul M a x3.toNatClampNeg x1) fun M_4 =>
    zL (x3 + (1 : Int32)) fun x3_5 =>
    r6 x1 x3_5 x4 M_4
def fJ7_fill_d0a16_L6 (a : Nat) (n : Nat) : Nat → Int64 → Int32 → Int32 → zM → Option (zM)
  | 0 => fun _ _ _ _ => none
  | j9 + 1 => fJ7_fill_d0a16_B6 a n (fJ7_fill_d0a16_L6 a n j9)
def fJ7_fill_d0a16 (a : Nat) (n : Nat) (x1 : Int64) (M : zM) : Option (zM) :=
  zL (Int32.ofNat n) fun x4_1 =>
  fJ7_fill_d0a16_L6 a n zF x1 (0 : Int32) x4_1 M
set_option maxHeartbeats 4000000 in
set_option maxRecDepth 100000 in
theorem mtJ7_fill_d0a16 (l : Launch) (G : zGr) (hJ : zJ G 64) (a : Nat) (n : Nat) (ha : a < 64) (ka : shX a = .inr (1, n, 0, 0)) (x1 : Int64) (M : zM) (o : zM) (hf : fJ7_fill_d0a16 a n x1 M = some o) : zMv l G shX 64 yJ7_fill_d0a16 cJ7_fill_d0a16 5 none 0 0 [.ref (G.2.2.1 a), .long x1] M o := by
  intro sz
  refine zOf (by decide) (Nat.le_of_ble_eq_true rfl) ?_
  intro p e R Q s m args below meth c hRm hsz hQ C0 hP hS ls hl
  subst hsz
  replace hRm : R = { frames := 0, cells := 0, slots := 0, locals := 0 } := hRm
  have hl : lv_has ls 5 [(0, .ref (G.2.2.1 a)), (1, .long x1)] := hl
  have hx := C0.1
  have hb := C0.2.1
  have hown := C0.2.2.2.1
  have hts := C0.2.2.2.2.1
  have L6 : ∀ (n6 : Nat), ∀ (x1 : Int64) (x3 : Int32) (x4 : Int32) (M : zM) (H : Heap) (locs : List Loc) (ls : Array Slot), lv_has ls 5 [(0, .ref (G.2.2.1 a)), (1, .long x1), (3, .int x3), (4, .int x4)] → va_P G.1 zcl (zw G shX 64 M) H → va_S (zA G 64 s.heap.size) s.heap H locs → fJ7_fill_d0a16_L6 a n n6 x1 x3 x4 M = some o → W p l e R s m args below meth c H locs 0 0 Q (F0 m 6 ls []) := by
    intro n6
    induction n6 with
    | zero => intro x1 x3 x4 M H locs ls hl hP hS hf; exact zn_s (show none = some o from hf)
    | succ n6 ih6 =>
      intro x1 x3 x4 M H locs ls hl hP hS hf
      replace hf : fJ7_fill_d0a16_B6 a n (fJ7_fill_d0a16_L6 a n n6) x1 x3 x4 M = some o := hf
      unfold fJ7_fill_d0a16_B6 at hf
      refine lv_iload_n hx hb dJ7_fill_d0a16_6 rfl (lv_at hl 2 rfl) ?_
      refine lv_iload hx hb dJ7_fill_d0a16_7 (lv_at hl 3 rfl) ?_
      refine lv_icmp_ge (tgt := 22) hx hb dJ7_fill_d0a16_9 (by decide) (fun c_2 => ?_) (fun c_2 => ?_)
      · replace hf := zI_t c_2 hf
        exact ze_v C0 hP hS hf dJ7_fill_d0a16_22 hQ
      · replace hf := zI_f c_2 hf
        refine lv_aload_n hx hb dJ7_fill_d0a16_12 rfl (lv_at hl 0 rfl) ?_
        refine lv_iload_n hx hb dJ7_fill_d0a16_13 rfl (lv_at hl 2 rfl) ?_
        refine lv_lload_n hx hb dJ7_fill_d0a16_14 rfl (lv_at hl 1 rfl) ?_
        obtain ⟨hg_3, hf⟩ := zG_o hf
        refine zr_last C0 hJ hP hS a ha ka hg_3 dJ7_fill_d0a16_15 (fun H locs hP hS => ?_)
        obtain ⟨M_4, eM_4, hf⟩ := zL_o hf
        have hP : va_P G.1 zcl (zw G shX 64 M_4) H := by rw [eM_4]; exact hP
        obtain ⟨x3_5, ex3_5, hf⟩ := zL_o hf
        refine lv_iinc (v := x3_5) (lv' := [(3, .int x3_5), (0, .ref (G.2.2.1 a)), (1, .long x1), (4, .int x4)]) hx hb dJ7_fill_d0a16_16 hl (k := 2) rfl (by rw [ex3_5]; rfl) (by decide) rfl (fun ls hl => ?_)
        refine lv_goto (tgt := 6) hx hb dJ7_fill_d0a16_19 (by decide) ?_
        exact ih6 x1 x3_5 x4 M_4 H locs ls (lv_sub hl [1, 2, 0, 3] rfl) hP hS hf
  unfold fJ7_fill_d0a16 at hf
  obtain ⟨H, eH⟩ : ∃ H, H = s.heap := ⟨_, rfl⟩
  obtain ⟨locs, el⟩ : ∃ locs : List Loc, locs = [] := ⟨_, rfl⟩
  rw [← eH] at hP ⊢
  have hS : va_S (zA G 64 s.heap.size) s.heap H locs := by rw [eH, el]; exact hS
  rw [← el]
  refine lv_iconst (v := (0 : Int32)) hx hb dJ7_fill_d0a16_0 (by decide) ?_
  refine lv_istore_n (lv' := [(3, .int (0 : Int32)), (0, .ref (G.2.2.1 a)), (1, .long x1)]) hx hb dJ7_fill_d0a16_1 rfl hl (by decide) rfl (fun ls hl => ?_)
  refine lv_aload_n hx hb dJ7_fill_d0a16_2 rfl (lv_at hl 1 rfl) ?_
  refine zr_alen (v := (Int32.ofNat n)) C0 hP a ha ka (by decide) rfl dJ7_fill_d0a16_3 ?_
  refine lv_topi (fun x4_1 ex4_1 => ?_)
  replace hf := zL_e ex4_1 hf
  refine lv_istore (lv' := [(4, .int x4_1), (3, .int (0 : Int32)), (0, .ref (G.2.2.1 a)), (1, .long x1)]) hx hb dJ7_fill_d0a16_4 hl (by decide) rfl (fun ls hl => ?_)
  exact L6 zF x1 (0 : Int32) x4_1 M H locs ls (lv_sub hl [2, 3, 1, 0] rfl) hP hS hf
def fJ6_bitCount_0f7a4 (x0 : Int32) (M : zM) : Option (Int32 × zM) :=
  zL (x0 - ((zushr x0 (1 : Int32)) &&& (1431655765 : Int32))) fun x0_1 =>
  zL ((x0_1 &&& (858993459 : Int32)) + ((zushr x0_1 (2 : Int32)) &&& (858993459 : Int32))) fun x0_2 =>
  zL ((x0_2 + (zushr x0_2 (4 : Int32))) &&& (252645135 : Int32)) fun x0_3 =>
  zL (x0_3 + (zushr x0_3 (8 : Int32))) fun x0_4 =>
  zL (x0_4 + (zushr x0_4 (16 : Int32))) fun x0_5 =>
  some ((x0_5 &&& (63 : Int32)), M)
set_option maxHeartbeats 4000000 in
set_option maxRecDepth 100000 in
theorem mtJ6_bitCount_0f7a4 (l : Launch) (G : zGr) (hJ : zJ G 64) (x0 : Int32) (M : zM) (o : Int32 × zM) (hf : fJ6_bitCount_0f7a4 x0 M = some o) : zMi l G shX 64 yJ6_bitCount_0f7a4 cJ6_bitCount_0f7a4 1 (some .int) 0 0 [.int x0] M o := by
  intro sz
  refine zOf (by decide) (Nat.le_of_ble_eq_true rfl) ?_
  intro p e R Q s m args below meth c hRm hsz hQ C0 hP hS ls hl
  subst hsz
  replace hRm : R = { frames := 0, cells := 0, slots := 0, locals := 0 } := hRm
  have hl : lv_has ls 1 [(0, .int x0)] := hl
  have hx := C0.1
  have hb := C0.2.1
  have hown := C0.2.2.2.1
  have hts := C0.2.2.2.2.1
  unfold fJ6_bitCount_0f7a4 at hf
  obtain ⟨H, eH⟩ : ∃ H, H = s.heap := ⟨_, rfl⟩
  obtain ⟨locs, el⟩ : ∃ locs : List Loc, locs = [] := ⟨_, rfl⟩
  rw [← eH] at hP ⊢
  have hS : va_S (zA G 64 s.heap.size) s.heap H locs := by rw [eH, el]; exact hS
  rw [← el]
  refine lv_iload_n hx hb dJ6_bitCount_0f7a4_0 rfl (lv_at hl 0 rfl) ?_
  refine lv_iload_n hx hb dJ6_bitCount_0f7a4_1 rfl (lv_at hl 0 rfl) ?_
  refine lv_iconst (v := (1 : Int32)) hx hb dJ6_bitCount_0f7a4_2 (by decide) ?_
  refine zo_iushr hx hb dJ6_bitCount_0f7a4_3 ?_
  refine lv_ldcw (v := (1431655765 : Int32)) hx hb hown (hts _ mw_57) dJ6_bitCount_0f7a4_4 ?_
  refine lv_iand hx hb dJ6_bitCount_0f7a4_7 ?_
  refine lv_isub hx hb dJ6_bitCount_0f7a4_8 ?_
  refine lv_topi (fun x0_1 ex0_1 => ?_)
  replace hf := zL_e ex0_1 hf
  refine lv_istore_n (lv' := [(0, .int x0_1)]) hx hb dJ6_bitCount_0f7a4_9 rfl hl (by decide) rfl (fun ls hl => ?_)
  refine lv_iload_n hx hb dJ6_bitCount_0f7a4_10 rfl (lv_at hl 0 rfl) ?_
  refine lv_ldcw (v := (858993459 : Int32)) hx hb hown (hts _ mw_58) dJ6_bitCount_0f7a4_11 ?_
  refine lv_iand hx hb dJ6_bitCount_0f7a4_14 ?_
  refine lv_iload_n hx hb dJ6_bitCount_0f7a4_15 rfl (lv_at hl 0 rfl) ?_
  refine lv_iconst (v := (2 : Int32)) hx hb dJ6_bitCount_0f7a4_16 (by decide) ?_
  refine zo_iushr hx hb dJ6_bitCount_0f7a4_17 ?_
  refine lv_ldcw (v := (858993459 : Int32)) hx hb hown (hts _ mw_58) dJ6_bitCount_0f7a4_18 ?_
  refine lv_iand hx hb dJ6_bitCount_0f7a4_21 ?_
  refine lv_iadd hx hb dJ6_bitCount_0f7a4_22 ?_
  refine lv_topi (fun x0_2 ex0_2 => ?_)
  replace hf := zL_e ex0_2 hf
  refine lv_istore_n (lv' := [(0, .int x0_2)]) hx hb dJ6_bitCount_0f7a4_23 rfl hl (by decide) rfl (fun ls hl => ?_)
  refine lv_iload_n hx hb dJ6_bitCount_0f7a4_24 rfl (lv_at hl 0 rfl) ?_
  refine lv_iload_n hx hb dJ6_bitCount_0f7a4_25 rfl (lv_at hl 0 rfl) ?_
  refine lv_iconst (v := (4 : Int32)) hx hb dJ6_bitCount_0f7a4_26 (by decide) ?_
  refine zo_iushr hx hb dJ6_bitCount_0f7a4_27 ?_
  refine lv_iadd hx hb dJ6_bitCount_0f7a4_28 ?_
  refine lv_ldcw (v := (252645135 : Int32)) hx hb hown (hts _ mw_59) dJ6_bitCount_0f7a4_29 ?_
  refine lv_iand hx hb dJ6_bitCount_0f7a4_32 ?_
  refine lv_topi (fun x0_3 ex0_3 => ?_)
  replace hf := zL_e ex0_3 hf
  refine lv_istore_n (lv' := [(0, .int x0_3)]) hx hb dJ6_bitCount_0f7a4_33 rfl hl (by decide) rfl (fun ls hl => ?_)
  refine lv_iload_n hx hb dJ6_bitCount_0f7a4_34 rfl (lv_at hl 0 rfl) ?_
  refine lv_iload_n hx hb dJ6_bitCount_0f7a4_35 rfl (lv_at hl 0 rfl) ?_
  refine lv_bipush (v := (8 : Int32)) hx hb dJ6_bitCount_0f7a4_36 (by decide) ?_
  refine zo_iushr hx hb dJ6_bitCount_0f7a4_38 ?_
  refine lv_iadd hx hb dJ6_bitCount_0f7a4_39 ?_
  refine lv_topi (fun x0_4 ex0_4 => ?_)
  replace hf := zL_e ex0_4 hf
  refine lv_istore_n (lv' := [(0, .int x0_4)]) hx hb dJ6_bitCount_0f7a4_40 rfl hl (by decide) rfl (fun ls hl => ?_)
  refine lv_iload_n hx hb dJ6_bitCount_0f7a4_41 rfl (lv_at hl 0 rfl) ?_
  refine lv_iload_n hx hb dJ6_bitCount_0f7a4_42 rfl (lv_at hl 0 rfl) ?_
  refine lv_bipush (v := (16 : Int32)) hx hb dJ6_bitCount_0f7a4_43 (by decide) ?_
  refine zo_iushr hx hb dJ6_bitCount_0f7a4_45 ?_
  refine lv_iadd hx hb dJ6_bitCount_0f7a4_46 ?_
  refine lv_topi (fun x0_5 ex0_5 => ?_)
  replace hf := zL_e ex0_5 hf
  refine lv_istore_n (lv' := [(0, .int x0_5)]) hx hb dJ6_bitCount_0f7a4_47 rfl hl (by decide) rfl (fun ls hl => ?_)
  refine lv_iload_n hx hb dJ6_bitCount_0f7a4_48 rfl (lv_at hl 0 rfl) ?_
  refine lv_bipush (v := (63 : Int32)) hx hb dJ6_bitCount_0f7a4_49 (by decide) ?_
  refine lv_iand hx hb dJ6_bitCount_0f7a4_51 ?_
  exact ze_i C0 hP hS hf dJ6_bitCount_0f7a4_52 hQ
def fX0_become (q : Nat) (x1 : Int32) (x2 : Int32) (M : zM) : Option (zM) :=
  zL (zu M q 1 x1) fun M_1 =>
  zL (zu M_1 q 2 x2) fun M_2 =>
  zV (fJ7_fill_53178 (q + 1) 40 (0 : Int32) M_2) fun M_3 =>
  some M_3
set_option maxHeartbeats 4000000 in
set_option maxRecDepth 100000 in
theorem mtX0_become (l : Launch) (G : zGr) (hJ : zJ G 64) (q : Nat) (hq : isS q) (x1 : Int32) (x2 : Int32) (M : zM) (o : zM) (hf : fX0_become q x1 x2 M = some o) : zMv l G shX 64 yX0_become cX0_become 3 none 1 23 [.ref (G.2.2.1 q), .int x1, .int x2] M o := by
  intro sz
  refine zOf (by decide) (Nat.le_of_ble_eq_true rfl) ?_
  intro p e R Q s m args below meth c hRm hsz hQ C0 hP hS ls hl
  subst hsz
  replace hRm : R = { frames := 1, cells := 0, slots := 0, locals := 23 } := hRm
  have hl : lv_has ls 3 [(0, .ref (G.2.2.1 q)), (1, .int x1), (2, .int x2)] := hl
  have hx := C0.1
  have hb := C0.2.1
  have hown := C0.2.2.2.1
  have hts := C0.2.2.2.2.1
  unfold fX0_become at hf
  obtain ⟨H, eH⟩ : ∃ H, H = s.heap := ⟨_, rfl⟩
  obtain ⟨locs, el⟩ : ∃ locs : List Loc, locs = [] := ⟨_, rfl⟩
  rw [← eH] at hP ⊢
  have hS : va_S (zA G 64 s.heap.size) s.heap H locs := by rw [eH, el]; exact hS
  rw [← el]
  refine lv_aload_n hx hb dX0_become_0 rfl (lv_at hl 0 rfl) ?_
  refine lv_iload_n hx hb dX0_become_1 rfl (lv_at hl 1 rfl) ?_
  refine zr_put (C := RX0) (T := TX0) (n := 3) C0 hJ hP hS q (isS_lt hq) (isS_s hq) 1 rfl (by decide) uw_X0 tyX0 tyX0_ok nmX0 mw_60 rfl rfl ⟨rfl, rfl⟩ dX0_become_2 (fun H locs hP hS => ?_)
  obtain ⟨M_1, eM_1, hf⟩ := zL_o hf
  have hP : va_P G.1 zcl (zw G shX 64 M_1) H := by rw [eM_1]; exact hP
  refine lv_aload_n hx hb dX0_become_5 rfl (lv_at hl 0 rfl) ?_
  refine lv_iload_n hx hb dX0_become_6 rfl (lv_at hl 2 rfl) ?_
  refine zr_put (C := RX0) (T := TX0) (n := 3) C0 hJ hP hS q (isS_lt hq) (isS_s hq) 2 rfl (by decide) uw_X0 tyX0 tyX0_ok nmX0 mw_61 rfl rfl ⟨rfl, rfl⟩ dX0_become_7 (fun H locs hP hS => ?_)
  obtain ⟨M_2, eM_2, hf⟩ := zL_o hf
  have hP : va_P G.1 zcl (zw G shX 64 M_2) H := by rw [eM_2]; exact hP
  refine lv_aload_n hx hb dX0_become_10 rfl (lv_at hl 0 rfl) ?_
  refine zr_getq (C := RX0) (T := TX0) (n := 3) C0 hP q (isS_lt hq) (isS_s hq) 0 (q + 1) rfl (by decide) uw_X0 mw_62 rfl dX0_become_11 ?_
  refine lv_iconst (v := (0 : Int32)) hx hb dX0_become_14 (by decide) ?_
  obtain ⟨M_3, hc_4, hf⟩ := zV_o hf
  refine zc_sv (As := [.ref (G.2.2.1 (q + 1)), .int (0 : Int32)]) (rest := []) C0 hP hS hl.1 (mtJ7_fill_53178 l G hJ (q + 1) 40 (isS_lt1 hq) (isS_s1 hq) (0 : Int32) M_2 _ hc_4) ls_X0_22 ds_J7_fill_53178 (by rw [hRm]; exact ⟨Nat.le_of_ble_eq_true rfl, Nat.le_of_ble_eq_true rfl⟩) rfl rfl (Nat.le_of_ble_eq_true rfl) dX0_become_15 ⟨Nat.zero_le _, Nat.zero_le _⟩ (fun H locs hP hS => ?_)
  exact ze_v C0 hP hS hf dX0_become_18 hQ
def fX0_put (q : Nat) (x1 : Int32) (x2 : Int32) (M : zM) : Option (zM) :=
  if x1 < (0 : Int32) then
    some M
  else
    if (M.1 q 2) ≤ x1 then
      some M
    else
      if (M.1 q 1) = (0 : Int32) then
        zG (zin x1 40) <|
        zL (zu M (q + 1) x1.toNatClampNeg (zi2b x2)) fun M_10 =>
        some M_10
      else
        if (M.1 q 1) = (1 : Int32) then
          zG (zin x1 40) <|
          zL (zu M (q + 1) x1.toNatClampNeg (zi2s x2)) fun M_8 =>
          some M_8
        else
          zG (zin x1 40) <|
          zL (zu M (q + 1) x1.toNatClampNeg x2) fun M_6 =>
          some M_6
set_option maxHeartbeats 4000000 in
set_option maxRecDepth 100000 in
theorem mtX0_put (l : Launch) (G : zGr) (hJ : zJ G 64) (q : Nat) (hq : isS q) (x1 : Int32) (x2 : Int32) (M : zM) (o : zM) (hf : fX0_put q x1 x2 M = some o) : zMv l G shX 64 yX0_put cX0_put 3 none 0 0 [.ref (G.2.2.1 q), .int x1, .int x2] M o := by
  intro sz
  refine zOf (by decide) (Nat.le_of_ble_eq_true rfl) ?_
  intro p e R Q s m args below meth c hRm hsz hQ C0 hP hS ls hl
  subst hsz
  replace hRm : R = { frames := 0, cells := 0, slots := 0, locals := 0 } := hRm
  have hl : lv_has ls 3 [(0, .ref (G.2.2.1 q)), (1, .int x1), (2, .int x2)] := hl
  have hx := C0.1
  have hb := C0.2.1
  have hown := C0.2.2.2.1
  have hts := C0.2.2.2.2.1
  unfold fX0_put at hf
  obtain ⟨H, eH⟩ : ∃ H, H = s.heap := ⟨_, rfl⟩
  obtain ⟨locs, el⟩ : ∃ locs : List Loc, locs = [] := ⟨_, rfl⟩
  rw [← eH] at hP ⊢
  have hS : va_S (zA G 64 s.heap.size) s.heap H locs := by rw [eH, el]; exact hS
  rw [← el]
  refine lv_iload_n hx hb dX0_put_0 rfl (lv_at hl 1 rfl) ?_
  refine lv_if_lt (tgt := 44) hx hb dX0_put_1 (by decide) (fun c_1 => ?_) (fun c_1 => ?_)
  · replace hf := zI_t c_1 hf
    exact ze_v C0 hP hS hf dX0_put_44 hQ
  · replace hf := zI_f c_1 hf
    refine lv_iload_n hx hb dX0_put_4 rfl (lv_at hl 1 rfl) ?_
    refine lv_aload_n hx hb dX0_put_5 rfl (lv_at hl 0 rfl) ?_
    refine zr_get (C := RX0) (T := TX0) (n := 3) C0 hP q (isS_lt hq) (isS_s hq) 2 rfl (by decide) uw_X0 mw_61 rfl dX0_put_6 ?_
    refine lv_icmp_ge (tgt := 44) hx hb dX0_put_9 (by decide) (fun c_2 => ?_) (fun c_2 => ?_)
    · replace hf := zI_t c_2 hf
      exact ze_v C0 hP hS hf dX0_put_44 hQ
    · replace hf := zI_f c_2 hf
      refine lv_aload_n hx hb dX0_put_12 rfl (lv_at hl 0 rfl) ?_
      refine zr_getq (C := RX0) (T := TX0) (n := 3) C0 hP q (isS_lt hq) (isS_s hq) 0 (q + 1) rfl (by decide) uw_X0 mw_62 rfl dX0_put_13 ?_
      refine lv_iload_n hx hb dX0_put_16 rfl (lv_at hl 1 rfl) ?_
      refine lv_aload_n hx hb dX0_put_17 rfl (lv_at hl 0 rfl) ?_
      refine zr_get (C := RX0) (T := TX0) (n := 3) C0 hP q (isS_lt hq) (isS_s hq) 1 rfl (by decide) uw_X0 mw_60 rfl dX0_put_18 ?_
      refine lv_if_ne (tgt := 29) hx hb dX0_put_21 (by decide) (fun c_3 => ?_) (fun c_3 => ?_)
      · replace hf := zI_f c_3 hf
        refine lv_aload_n hx hb dX0_put_29 rfl (lv_at hl 0 rfl) ?_
        refine zr_get (C := RX0) (T := TX0) (n := 3) C0 hP q (isS_lt hq) (isS_s hq) 1 rfl (by decide) uw_X0 mw_60 rfl dX0_put_30 ?_
        refine lv_iconst (v := (1 : Int32)) hx hb dX0_put_33 (by decide) ?_
        refine lv_icmp_ne (tgt := 42) hx hb dX0_put_34 (by decide) (fun c_4 => ?_) (fun c_4 => ?_)
        · replace hf := zI_f c_4 hf
          refine lv_iload_n hx hb dX0_put_42 rfl (lv_at hl 2 rfl) ?_
          obtain ⟨hg_5, hf⟩ := zG_o hf
          refine zr_iast C0 hJ hP hS (q + 1) (isS_lt1 hq) (isS_s1 hq) hg_5 dX0_put_43 (fun H locs hP hS => ?_)
          obtain ⟨M_6, eM_6, hf⟩ := zL_o hf
          have hP : va_P G.1 zcl (zw G shX 64 M_6) H := by rw [eM_6]; exact hP
          exact ze_v C0 hP hS hf dX0_put_44 hQ
        · replace hf := zI_t c_4 hf
          refine lv_iload_n hx hb dX0_put_37 rfl (lv_at hl 2 rfl) ?_
          refine zo_i2s hx hb dX0_put_38 ?_
          refine lv_goto (tgt := 43) hx hb dX0_put_39 (by decide) ?_
          obtain ⟨hg_7, hf⟩ := zG_o hf
          refine zr_iast C0 hJ hP hS (q + 1) (isS_lt1 hq) (isS_s1 hq) hg_7 dX0_put_43 (fun H locs hP hS => ?_)
          obtain ⟨M_8, eM_8, hf⟩ := zL_o hf
          have hP : va_P G.1 zcl (zw G shX 64 M_8) H := by rw [eM_8]; exact hP
          exact ze_v C0 hP hS hf dX0_put_44 hQ
      · replace hf := zI_t c_3 hf
        refine lv_iload_n hx hb dX0_put_24 rfl (lv_at hl 2 rfl) ?_
        refine zo_i2b hx hb dX0_put_25 ?_
        refine lv_goto (tgt := 43) hx hb dX0_put_26 (by decide) ?_
        obtain ⟨hg_9, hf⟩ := zG_o hf
        refine zr_iast C0 hJ hP hS (q + 1) (isS_lt1 hq) (isS_s1 hq) hg_9 dX0_put_43 (fun H locs hP hS => ?_)
        obtain ⟨M_10, eM_10, hf⟩ := zL_o hf
        have hP : va_P G.1 zcl (zw G shX 64 M_10) H := by rw [eM_10]; exact hP
        exact ze_v C0 hP hS hf dX0_put_44 hQ
def fX0_at (q : Nat) (x1 : Int32) (M : zM) : Option (Int32 × zM) :=
  if x1 < (0 : Int32) then
    some ((0 : Int32), M)
  else
    if (M.1 q 2) ≤ x1 then
      some ((0 : Int32), M)
    else
      zG (zin x1 40) <|
      some ((M.1 (q + 1) x1.toNatClampNeg), M)
set_option maxHeartbeats 4000000 in
set_option maxRecDepth 100000 in
theorem mtX0_at (l : Launch) (G : zGr) (hJ : zJ G 64) (q : Nat) (hq : isS q) (x1 : Int32) (M : zM) (o : Int32 × zM) (hf : fX0_at q x1 M = some o) : zMi l G shX 64 yX0_at cX0_at 2 (some .int) 0 0 [.ref (G.2.2.1 q), .int x1] M o := by
  intro sz
  refine zOf (by decide) (Nat.le_of_ble_eq_true rfl) ?_
  intro p e R Q s m args below meth c hRm hsz hQ C0 hP hS ls hl
  subst hsz
  replace hRm : R = { frames := 0, cells := 0, slots := 0, locals := 0 } := hRm
  have hl : lv_has ls 2 [(0, .ref (G.2.2.1 q)), (1, .int x1)] := hl
  have hx := C0.1
  have hb := C0.2.1
  have hown := C0.2.2.2.1
  have hts := C0.2.2.2.2.1
  unfold fX0_at at hf
  obtain ⟨H, eH⟩ : ∃ H, H = s.heap := ⟨_, rfl⟩
  obtain ⟨locs, el⟩ : ∃ locs : List Loc, locs = [] := ⟨_, rfl⟩
  rw [← eH] at hP ⊢
  have hS : va_S (zA G 64 s.heap.size) s.heap H locs := by rw [eH, el]; exact hS
  rw [← el]
  refine lv_iload_n hx hb dX0_at_0 rfl (lv_at hl 1 rfl) ?_
  refine lv_if_lt (tgt := 21) hx hb dX0_at_1 (by decide) (fun c_1 => ?_) (fun c_1 => ?_)
  · replace hf := zI_t c_1 hf
    refine lv_iconst (v := (0 : Int32)) hx hb dX0_at_21 (by decide) ?_
    exact ze_i C0 hP hS hf dX0_at_22 hQ
  · replace hf := zI_f c_1 hf
    refine lv_iload_n hx hb dX0_at_4 rfl (lv_at hl 1 rfl) ?_
    refine lv_aload_n hx hb dX0_at_5 rfl (lv_at hl 0 rfl) ?_
    refine zr_get (C := RX0) (T := TX0) (n := 3) C0 hP q (isS_lt hq) (isS_s hq) 2 rfl (by decide) uw_X0 mw_61 rfl dX0_at_6 ?_
    refine lv_icmp_ge (tgt := 21) hx hb dX0_at_9 (by decide) (fun c_2 => ?_) (fun c_2 => ?_)
    · replace hf := zI_t c_2 hf
      refine lv_iconst (v := (0 : Int32)) hx hb dX0_at_21 (by decide) ?_
      exact ze_i C0 hP hS hf dX0_at_22 hQ
    · replace hf := zI_f c_2 hf
      refine lv_aload_n hx hb dX0_at_12 rfl (lv_at hl 0 rfl) ?_
      refine zr_getq (C := RX0) (T := TX0) (n := 3) C0 hP q (isS_lt hq) (isS_s hq) 0 (q + 1) rfl (by decide) uw_X0 mw_62 rfl dX0_at_13 ?_
      refine lv_iload_n hx hb dX0_at_16 rfl (lv_at hl 1 rfl) ?_
      obtain ⟨hg_3, hf⟩ := zG_o hf
      refine zr_iald C0 hP (q + 1) (isS_lt1 hq) (isS_s1 hq) hg_3 dX0_at_17 ?_
      refine lv_goto (tgt := 22) hx hb dX0_at_18 (by decide) ?_
      exact ze_i C0 hP hS hf dX0_at_22 hQ
def fX0_holds (q : Nat) (x1 : Int32) (x2 : Int32) (M : zM) : Option (Int32 × zM) :=
  if x1 < (0 : Int32) then
    some ((0 : Int32), M)
  else
    if x2 < (0 : Int32) then
      some ((0 : Int32), M)
    else
      if (M.1 q 2) < x1 then
        some ((0 : Int32), M)
      else
        if ((M.1 q 2) - x1) < x2 then
          some ((0 : Int32), M)
        else
          some ((1 : Int32), M)
set_option maxHeartbeats 4000000 in
set_option maxRecDepth 100000 in
theorem mtX0_holds (l : Launch) (G : zGr) (hJ : zJ G 64) (q : Nat) (hq : isS q) (x1 : Int32) (x2 : Int32) (M : zM) (o : Int32 × zM) (hf : fX0_holds q x1 x2 M = some o) : zMi l G shX 64 yX0_holds cX0_holds 3 (some .boolean) 0 0 [.ref (G.2.2.1 q), .int x1, .int x2] M o := by
  intro sz
  refine zOf (by decide) (Nat.le_of_ble_eq_true rfl) ?_
  intro p e R Q s m args below meth c hRm hsz hQ C0 hP hS ls hl
  subst hsz
  replace hRm : R = { frames := 0, cells := 0, slots := 0, locals := 0 } := hRm
  have hl : lv_has ls 3 [(0, .ref (G.2.2.1 q)), (1, .int x1), (2, .int x2)] := hl
  have hx := C0.1
  have hb := C0.2.1
  have hown := C0.2.2.2.1
  have hts := C0.2.2.2.2.1
  unfold fX0_holds at hf
  obtain ⟨H, eH⟩ : ∃ H, H = s.heap := ⟨_, rfl⟩
  obtain ⟨locs, el⟩ : ∃ locs : List Loc, locs = [] := ⟨_, rfl⟩
  rw [← eH] at hP ⊢
  have hS : va_S (zA G 64 s.heap.size) s.heap H locs := by rw [eH, el]; exact hS
  rw [← el]
  refine lv_iload_n hx hb dX0_holds_0 rfl (lv_at hl 1 rfl) ?_
  refine lv_if_lt (tgt := 30) hx hb dX0_holds_1 (by decide) (fun c_1 => ?_) (fun c_1 => ?_)
  · replace hf := zI_t c_1 hf
    refine lv_iconst (v := (0 : Int32)) hx hb dX0_holds_30 (by decide) ?_
    exact ze_z C0 hP hS (by decide) hf dX0_holds_31 hQ
  · replace hf := zI_f c_1 hf
    refine lv_iload_n hx hb dX0_holds_4 rfl (lv_at hl 2 rfl) ?_
    refine lv_if_lt (tgt := 30) hx hb dX0_holds_5 (by decide) (fun c_2 => ?_) (fun c_2 => ?_)
    · replace hf := zI_t c_2 hf
      refine lv_iconst (v := (0 : Int32)) hx hb dX0_holds_30 (by decide) ?_
      exact ze_z C0 hP hS (by decide) hf dX0_holds_31 hQ
    · replace hf := zI_f c_2 hf
      refine lv_iload_n hx hb dX0_holds_8 rfl (lv_at hl 1 rfl) ?_
      refine lv_aload_n hx hb dX0_holds_9 rfl (lv_at hl 0 rfl) ?_
      refine zr_get (C := RX0) (T := TX0) (n := 3) C0 hP q (isS_lt hq) (isS_s hq) 2 rfl (by decide) uw_X0 mw_61 rfl dX0_holds_10 ?_
      refine lv_icmp_gt (tgt := 30) hx hb dX0_holds_13 (by decide) (fun c_3 => ?_) (fun c_3 => ?_)
      · replace hf := zI_t c_3 hf
        refine lv_iconst (v := (0 : Int32)) hx hb dX0_holds_30 (by decide) ?_
        exact ze_z C0 hP hS (by decide) hf dX0_holds_31 hQ
      · replace hf := zI_f c_3 hf
        refine lv_iload_n hx hb dX0_holds_16 rfl (lv_at hl 2 rfl) ?_
        refine lv_aload_n hx hb dX0_holds_17 rfl (lv_at hl 0 rfl) ?_
        refine zr_get (C := RX0) (T := TX0) (n := 3) C0 hP q (isS_lt hq) (isS_s hq) 2 rfl (by decide) uw_X0 mw_61 rfl dX0_holds_18 ?_
        refine lv_iload_n hx hb dX0_holds_21 rfl (lv_at hl 1 rfl) ?_
        refine lv_isub hx hb dX0_holds_22 ?_
        refine lv_icmp_gt (tgt := 30) hx hb dX0_holds_23 (by decide) (fun c_4 => ?_) (fun c_4 => ?_)
        · replace hf := zI_t c_4 hf
          refine lv_iconst (v := (0 : Int32)) hx hb dX0_holds_30 (by decide) ?_
          exact ze_z C0 hP hS (by decide) hf dX0_holds_31 hQ
        · replace hf := zI_f c_4 hf
          refine lv_iconst (v := (1 : Int32)) hx hb dX0_holds_26 (by decide) ?_
          refine lv_goto (tgt := 31) hx hb dX0_holds_27 (by decide) ?_
          exact ze_z C0 hP hS (by decide) hf dX0_holds_31 hQ
def fX3_changed (x0 : Int32) (x1 : Int32) (M : zM) : Option (Int32 × zM) :=
  if x0 = (30000 : Int32) then
    some ((-x1), M)
  else
    if x1 = (0 : Int32) then
      some ((1 : Int32), M)
    else
      some ((0 : Int32), M)
set_option maxHeartbeats 4000000 in
set_option maxRecDepth 100000 in
theorem mtX3_changed (l : Launch) (G : zGr) (hJ : zJ G 64) (x0 : Int32) (x1 : Int32) (M : zM) (o : Int32 × zM) (hf : fX3_changed x0 x1 M = some o) : zMi l G shX 64 yX3_changed cX3_changed 2 (some .int) 0 0 [.int x0, .int x1] M o := by
  intro sz
  refine zOf (by decide) (Nat.le_of_ble_eq_true rfl) ?_
  intro p e R Q s m args below meth c hRm hsz hQ C0 hP hS ls hl
  subst hsz
  replace hRm : R = { frames := 0, cells := 0, slots := 0, locals := 0 } := hRm
  have hl : lv_has ls 2 [(0, .int x0), (1, .int x1)] := hl
  have hx := C0.1
  have hb := C0.2.1
  have hown := C0.2.2.2.1
  have hts := C0.2.2.2.2.1
  unfold fX3_changed at hf
  obtain ⟨H, eH⟩ : ∃ H, H = s.heap := ⟨_, rfl⟩
  obtain ⟨locs, el⟩ : ∃ locs : List Loc, locs = [] := ⟨_, rfl⟩
  rw [← eH] at hP ⊢
  have hS : va_S (zA G 64 s.heap.size) s.heap H locs := by rw [eH, el]; exact hS
  rw [← el]
  refine lv_iload_n hx hb dX3_changed_0 rfl (lv_at hl 0 rfl) ?_
  refine lv_sipush (v := (30000 : Int32)) hx hb dX3_changed_1 (by decide) ?_
  refine lv_icmp_ne (tgt := 10) hx hb dX3_changed_4 (by decide) (fun c_1 => ?_) (fun c_1 => ?_)
  · replace hf := zI_f c_1 hf
    refine lv_iload_n hx hb dX3_changed_10 rfl (lv_at hl 1 rfl) ?_
    refine lv_if_ne (tgt := 18) hx hb dX3_changed_11 (by decide) (fun c_2 => ?_) (fun c_2 => ?_)
    · replace hf := zI_f c_2 hf
      refine lv_iconst (v := (0 : Int32)) hx hb dX3_changed_18 (by decide) ?_
      exact ze_i C0 hP hS hf dX3_changed_19 hQ
    · replace hf := zI_t c_2 hf
      refine lv_iconst (v := (1 : Int32)) hx hb dX3_changed_14 (by decide) ?_
      refine lv_goto (tgt := 19) hx hb dX3_changed_15 (by decide) ?_
      exact ze_i C0 hP hS hf dX3_changed_19 hQ
  · replace hf := zI_t c_1 hf
    refine lv_iload_n hx hb dX3_changed_7 rfl (lv_at hl 1 rfl) ?_
    refine lv_ineg hx hb dX3_changed_8 ?_
    exact ze_i C0 hP hS hf dX3_changed_9 hQ
def fX3_joined (x0 : Int32) (x1 : Int32) (x2 : Int32) (M : zM) : Option (Int32 × zM) :=
  if x0 = (7 : Int32) then
    if x1 = (0 : Int32) then
      if x2 = (0 : Int32) then
        some ((0 : Int32), M)
      else
        some ((1 : Int32), M)
    else
      some ((1 : Int32), M)
  else
    if x0 = (8 : Int32) then
      if x1 = (0 : Int32) then
        some ((0 : Int32), M)
      else
        if x2 = (0 : Int32) then
          some ((0 : Int32), M)
        else
          some ((1 : Int32), M)
    else
      if x0 = (43 : Int32) then
        some ((x1 + x2), M)
      else
        if x0 = (45 : Int32) then
          some ((x1 - x2), M)
        else
          if x0 = (60 : Int32) then
            if x2 ≤ x1 then
              some ((0 : Int32), M)
            else
              some ((1 : Int32), M)
          else
            if x0 = (61 : Int32) then
              if x1 = x2 then
                some ((1 : Int32), M)
              else
                some ((0 : Int32), M)
            else
              some ((x1 * x2), M)
set_option maxHeartbeats 4000000 in
set_option maxRecDepth 100000 in
theorem mtX3_joined (l : Launch) (G : zGr) (hJ : zJ G 64) (x0 : Int32) (x1 : Int32) (x2 : Int32) (M : zM) (o : Int32 × zM) (hf : fX3_joined x0 x1 x2 M = some o) : zMi l G shX 64 yX3_joined cX3_joined 3 (some .int) 0 0 [.int x0, .int x1, .int x2] M o := by
  intro sz
  refine zOf (by decide) (Nat.le_of_ble_eq_true rfl) ?_
  intro p e R Q s m args below meth c hRm hsz hQ C0 hP hS ls hl
  subst hsz
  replace hRm : R = { frames := 0, cells := 0, slots := 0, locals := 0 } := hRm
  have hl : lv_has ls 3 [(0, .int x0), (1, .int x1), (2, .int x2)] := hl
  have hx := C0.1
  have hb := C0.2.1
  have hown := C0.2.2.2.1
  have hts := C0.2.2.2.2.1
  unfold fX3_joined at hf
  obtain ⟨H, eH⟩ : ∃ H, H = s.heap := ⟨_, rfl⟩
  obtain ⟨locs, el⟩ : ∃ locs : List Loc, locs = [] := ⟨_, rfl⟩
  rw [← eH] at hP ⊢
  have hS : va_S (zA G 64 s.heap.size) s.heap H locs := by rw [eH, el]; exact hS
  rw [← el]
  refine lv_iload_n hx hb dX3_joined_0 rfl (lv_at hl 0 rfl) ?_
  refine if c_1 : x0 = (7 : Int32) then ?_ else ?_
  · replace hf := zI_t c_1 hf
    refine lv_lookup (tgt := 60) hx hb dX3_joined_1 (by decide) (off := 59) (by rw [c_1]; decide) (by decide) ?_
    refine lv_iload_n hx hb dX3_joined_60 rfl (lv_at hl 1 rfl) ?_
    refine lv_if_ne (tgt := 68) hx hb dX3_joined_61 (by decide) (fun c_2 => ?_) (fun c_2 => ?_)
    · replace hf := zI_f c_2 hf
      refine lv_iconst (v := (1 : Int32)) hx hb dX3_joined_68 (by decide) ?_
      refine lv_goto (tgt := 73) hx hb dX3_joined_69 (by decide) ?_
      exact ze_i C0 hP hS hf dX3_joined_73 hQ
    · replace hf := zI_t c_2 hf
      refine lv_iload_n hx hb dX3_joined_64 rfl (lv_at hl 2 rfl) ?_
      refine lv_if_eq (tgt := 72) hx hb dX3_joined_65 (by decide) (fun c_3 => ?_) (fun c_3 => ?_)
      · replace hf := zI_t c_3 hf
        refine lv_iconst (v := (0 : Int32)) hx hb dX3_joined_72 (by decide) ?_
        exact ze_i C0 hP hS hf dX3_joined_73 hQ
      · replace hf := zI_f c_3 hf
        refine lv_iconst (v := (1 : Int32)) hx hb dX3_joined_68 (by decide) ?_
        refine lv_goto (tgt := 73) hx hb dX3_joined_69 (by decide) ?_
        exact ze_i C0 hP hS hf dX3_joined_73 hQ
  · replace hf := zI_f c_1 hf
    refine if c_4 : x0 = (8 : Int32) then ?_ else ?_
    · replace hf := zI_t c_4 hf
      refine lv_lookup (tgt := 74) hx hb dX3_joined_1 (by decide) (off := 73) (by rw [c_4]; decide) (by decide) ?_
      refine lv_iload_n hx hb dX3_joined_74 rfl (lv_at hl 1 rfl) ?_
      refine lv_if_eq (tgt := 86) hx hb dX3_joined_75 (by decide) (fun c_5 => ?_) (fun c_5 => ?_)
      · replace hf := zI_t c_5 hf
        refine lv_iconst (v := (0 : Int32)) hx hb dX3_joined_86 (by decide) ?_
        exact ze_i C0 hP hS hf dX3_joined_87 hQ
      · replace hf := zI_f c_5 hf
        refine lv_iload_n hx hb dX3_joined_78 rfl (lv_at hl 2 rfl) ?_
        refine lv_if_eq (tgt := 86) hx hb dX3_joined_79 (by decide) (fun c_6 => ?_) (fun c_6 => ?_)
        · replace hf := zI_t c_6 hf
          refine lv_iconst (v := (0 : Int32)) hx hb dX3_joined_86 (by decide) ?_
          exact ze_i C0 hP hS hf dX3_joined_87 hQ
        · replace hf := zI_f c_6 hf
          refine lv_iconst (v := (1 : Int32)) hx hb dX3_joined_82 (by decide) ?_
          refine lv_goto (tgt := 87) hx hb dX3_joined_83 (by decide) ?_
          exact ze_i C0 hP hS hf dX3_joined_87 hQ
    · replace hf := zI_f c_4 hf
      refine if c_7 : x0 = (43 : Int32) then ?_ else ?_
      · replace hf := zI_t c_7 hf
        refine lv_lookup (tgt := 110) hx hb dX3_joined_1 (by decide) (off := 109) (by rw [c_7]; decide) (by decide) ?_
        refine lv_iload_n hx hb dX3_joined_110 rfl (lv_at hl 1 rfl) ?_
        refine lv_iload_n hx hb dX3_joined_111 rfl (lv_at hl 2 rfl) ?_
        refine lv_iadd hx hb dX3_joined_112 ?_
        exact ze_i C0 hP hS hf dX3_joined_113 hQ
      · replace hf := zI_f c_7 hf
        refine if c_8 : x0 = (45 : Int32) then ?_ else ?_
        · replace hf := zI_t c_8 hf
          refine lv_lookup (tgt := 114) hx hb dX3_joined_1 (by decide) (off := 113) (by rw [c_8]; decide) (by decide) ?_
          refine lv_iload_n hx hb dX3_joined_114 rfl (lv_at hl 1 rfl) ?_
          refine lv_iload_n hx hb dX3_joined_115 rfl (lv_at hl 2 rfl) ?_
          refine lv_isub hx hb dX3_joined_116 ?_
          exact ze_i C0 hP hS hf dX3_joined_117 hQ
        · replace hf := zI_f c_8 hf
          refine if c_9 : x0 = (60 : Int32) then ?_ else ?_
          · replace hf := zI_t c_9 hf
            refine lv_lookup (tgt := 88) hx hb dX3_joined_1 (by decide) (off := 87) (by rw [c_9]; decide) (by decide) ?_
            refine lv_iload_n hx hb dX3_joined_88 rfl (lv_at hl 1 rfl) ?_
            refine lv_iload_n hx hb dX3_joined_89 rfl (lv_at hl 2 rfl) ?_
            refine lv_icmp_ge (tgt := 97) hx hb dX3_joined_90 (by decide) (fun c_10 => ?_) (fun c_10 => ?_)
            · replace hf := zI_t c_10 hf
              refine lv_iconst (v := (0 : Int32)) hx hb dX3_joined_97 (by decide) ?_
              exact ze_i C0 hP hS hf dX3_joined_98 hQ
            · replace hf := zI_f c_10 hf
              refine lv_iconst (v := (1 : Int32)) hx hb dX3_joined_93 (by decide) ?_
              refine lv_goto (tgt := 98) hx hb dX3_joined_94 (by decide) ?_
              exact ze_i C0 hP hS hf dX3_joined_98 hQ
          · replace hf := zI_f c_9 hf
            refine if c_11 : x0 = (61 : Int32) then ?_ else ?_
            · replace hf := zI_t c_11 hf
              refine lv_lookup (tgt := 99) hx hb dX3_joined_1 (by decide) (off := 98) (by rw [c_11]; decide) (by decide) ?_
              refine lv_iload_n hx hb dX3_joined_99 rfl (lv_at hl 1 rfl) ?_
              refine lv_iload_n hx hb dX3_joined_100 rfl (lv_at hl 2 rfl) ?_
              refine lv_icmp_ne (tgt := 108) hx hb dX3_joined_101 (by decide) (fun c_12 => ?_) (fun c_12 => ?_)
              · replace hf := zI_f c_12 hf
                refine lv_iconst (v := (0 : Int32)) hx hb dX3_joined_108 (by decide) ?_
                exact ze_i C0 hP hS hf dX3_joined_109 hQ
              · replace hf := zI_t c_12 hf
                refine lv_iconst (v := (1 : Int32)) hx hb dX3_joined_104 (by decide) ?_
                refine lv_goto (tgt := 109) hx hb dX3_joined_105 (by decide) ?_
                exact ze_i C0 hP hS hf dX3_joined_109 hQ
            · replace hf := zI_f c_11 hf
              refine lv_lookup (tgt := 118) hx hb dX3_joined_1 (by decide) (off := 117) (by show Op.lookupswitch.offset [(7, 59), (8, 73), (43, 109), (45, 113), (60, 87), (61, 98)] _ _ = _; rw [lv_osw c_1 (by decide), lv_osw c_4 (by decide), lv_osw c_7 (by decide), lv_osw c_8 (by decide), lv_osw c_9 (by decide), lv_osw c_11 (by decide)]; rfl) (by decide) ?_
              refine lv_iload_n hx hb dX3_joined_118 rfl (lv_at hl 1 rfl) ?_
              refine lv_iload_n hx hb dX3_joined_119 rfl (lv_at hl 2 rfl) ?_
              refine lv_imul hx hb dX3_joined_120 ?_
              exact ze_i C0 hP hS hf dX3_joined_121 hQ
def fX3_become_B29 (t : Nat) (r29 : Int32 → zM → Option (zM)) (x2 : Int32) (M : zM) : Option (zM) :=
  if (3 : Int32) ≤ x2 then
    some M
  else
    zG (zin x2 3) <|
    zG (zin x2 3) <|
    zL (zu M (t + 2) x2.toNatClampNeg (M.1 5 x2.toNatClampNeg)) fun M_5 =>
    zL (x2 + (1 : Int32)) fun x2_6 =>
    r29 x2_6 M_5
def fX3_become_L29 (t : Nat) : Nat → Int32 → zM → Option (zM)
  | 0 => fun _ _ => none
  | j9 + 1 => fX3_become_B29 t (fX3_become_L29 t j9)
def fX3_become_B2 (t : Nat) (r2 : Int32 → zM → Option (zM)) (x2 : Int32) (M : zM) : Option (zM) :=
  if (160 : Int32) ≤ x2 then
    fX3_become_L29 t zF (0 : Int32) M
  else
    zG (zin x2 160) <|
    zG (zin x2 160) <|
    zL (zu M (t + 1) x2.toNatClampNeg (M.1 4 x2.toNatClampNeg)) fun M_9 =>
    zL (x2 + (1 : Int32)) fun x2_10 =>
    r2 x2_10 M_9
def fX3_become_L2 (t : Nat) : Nat → Int32 → zM → Option (zM)
  | 0 => fun _ _ => none
  | j9 + 1 => fX3_become_B2 t (fX3_become_L2 t j9)
def fX3_become (t : Nat) (M : zM) : Option (zM) :=
  fX3_become_L2 t zF (0 : Int32) M
set_option maxHeartbeats 4000000 in
set_option maxRecDepth 100000 in
theorem mtX3_become (l : Launch) (G : zGr) (hJ : zJ G 64) (t : Nat) (ht : isT t) (M : zM) (o : zM) (hf : fX3_become t M = some o) : zMv l G shX 64 yX3_become cX3_become 3 none 0 0 [.ref (G.2.2.1 t), .ref (G.2.2.1 2)] M o := by
  intro sz
  refine zOf (by decide) (Nat.le_of_ble_eq_true rfl) ?_
  intro p e R Q s m args below meth c hRm hsz hQ C0 hP hS ls hl
  subst hsz
  replace hRm : R = { frames := 0, cells := 0, slots := 0, locals := 0 } := hRm
  have hl : lv_has ls 3 [(0, .ref (G.2.2.1 t)), (1, .ref (G.2.2.1 2))] := hl
  have hx := C0.1
  have hb := C0.2.1
  have hown := C0.2.2.2.1
  have hts := C0.2.2.2.2.1
  have L29 : ∀ (n29 : Nat), ∀ (x2 : Int32) (M : zM) (H : Heap) (locs : List Loc) (ls : Array Slot), lv_has ls 3 [(0, .ref (G.2.2.1 t)), (1, .ref (G.2.2.1 2)), (2, .int x2)] → va_P G.1 zcl (zw G shX 64 M) H → va_S (zA G 64 s.heap.size) s.heap H locs → fX3_become_L29 t n29 x2 M = some o → W p l e R s m args below meth c H locs 0 0 Q (F0 m 29 ls []) := by
    intro n29
    induction n29 with
    | zero => intro x2 M H locs ls hl hP hS hf; exact zn_s (show none = some o from hf)
    | succ n29 ih29 =>
      intro x2 M H locs ls hl hP hS hf
      replace hf : fX3_become_B29 t (fX3_become_L29 t n29) x2 M = some o := hf
      unfold fX3_become_B29 at hf
      refine lv_iload_n hx hb dX3_become_29 rfl (lv_at hl 2 rfl) ?_
      refine lv_iconst (v := (3 : Int32)) hx hb dX3_become_30 (by decide) ?_
      refine lv_icmp_ge (tgt := 52) hx hb dX3_become_31 (by decide) (fun c_2 => ?_) (fun c_2 => ?_)
      · replace hf := zI_t c_2 hf
        exact ze_v C0 hP hS hf dX3_become_52 hQ
      · replace hf := zI_f c_2 hf
        refine lv_aload_n hx hb dX3_become_34 rfl (lv_at hl 0 rfl) ?_
        refine zr_getq (C := RX3) (T := TX3) (n := 3) C0 hP t (isT_lt ht) (isT_s ht) 1 (t + 2) rfl (by decide) uw_X3 mw_67 rfl dX3_become_35 ?_
        refine lv_iload_n hx hb dX3_become_38 rfl (lv_at hl 2 rfl) ?_
        refine lv_aload_n hx hb dX3_become_39 rfl (lv_at hl 1 rfl) ?_
        refine zr_getqN (C := RX2) (T := TX2) (n := 9) C0 hP 2 (by decide) shX_2 2 5 rfl (by decide) uw_X2 1 rfl rfl dX3_become_40 ?_
        refine lv_iload_n hx hb dX3_become_43 rfl (lv_at hl 2 rfl) ?_
        obtain ⟨hg_3, hf⟩ := zG_o hf
        refine zr_iald C0 hP 5 (by decide) shX_5 hg_3 dX3_become_44 ?_
        obtain ⟨hg_4, hf⟩ := zG_o hf
        refine zr_iast C0 hJ hP hS (t + 2) (isT_lt2 ht) (isT_s2 ht) hg_4 dX3_become_45 (fun H locs hP hS => ?_)
        obtain ⟨M_5, eM_5, hf⟩ := zL_o hf
        have hP : va_P G.1 zcl (zw G shX 64 M_5) H := by rw [eM_5]; exact hP
        obtain ⟨x2_6, ex2_6, hf⟩ := zL_o hf
        refine lv_iinc (v := x2_6) (lv' := [(2, .int x2_6), (0, .ref (G.2.2.1 t)), (1, .ref (G.2.2.1 2))]) hx hb dX3_become_46 hl (k := 2) rfl (by rw [ex2_6]; rfl) (by decide) rfl (fun ls hl => ?_)
        refine lv_goto (tgt := 29) hx hb dX3_become_49 (by decide) ?_
        exact ih29 x2_6 M_5 H locs ls (lv_sub hl [1, 2, 0] rfl) hP hS hf
  have L2 : ∀ (n2 : Nat), ∀ (x2 : Int32) (M : zM) (H : Heap) (locs : List Loc) (ls : Array Slot), lv_has ls 3 [(0, .ref (G.2.2.1 t)), (1, .ref (G.2.2.1 2)), (2, .int x2)] → va_P G.1 zcl (zw G shX 64 M) H → va_S (zA G 64 s.heap.size) s.heap H locs → fX3_become_L2 t n2 x2 M = some o → W p l e R s m args below meth c H locs 0 0 Q (F0 m 2 ls []) := by
    intro n2
    induction n2 with
    | zero => intro x2 M H locs ls hl hP hS hf; exact zn_s (show none = some o from hf)
    | succ n2 ih2 =>
      intro x2 M H locs ls hl hP hS hf
      replace hf : fX3_become_B2 t (fX3_become_L2 t n2) x2 M = some o := hf
      unfold fX3_become_B2 at hf
      refine lv_iload_n hx hb dX3_become_2 rfl (lv_at hl 2 rfl) ?_
      refine lv_sipush (v := (160 : Int32)) hx hb dX3_become_3 (by decide) ?_
      refine lv_icmp_ge (tgt := 27) hx hb dX3_become_6 (by decide) (fun c_1 => ?_) (fun c_1 => ?_)
      · replace hf := zI_t c_1 hf
        refine lv_iconst (v := (0 : Int32)) hx hb dX3_become_27 (by decide) ?_
        refine lv_istore_n (lv' := [(2, .int (0 : Int32)), (0, .ref (G.2.2.1 t)), (1, .ref (G.2.2.1 2))]) hx hb dX3_become_28 rfl hl (by decide) rfl (fun ls hl => ?_)
        exact L29 zF (0 : Int32) M H locs ls (lv_sub hl [1, 2, 0] rfl) hP hS hf
      · replace hf := zI_f c_1 hf
        refine lv_aload_n hx hb dX3_become_9 rfl (lv_at hl 0 rfl) ?_
        refine zr_getq (C := RX3) (T := TX3) (n := 3) C0 hP t (isT_lt ht) (isT_s ht) 0 (t + 1) rfl (by decide) uw_X3 mw_68 rfl dX3_become_10 ?_
        refine lv_iload_n hx hb dX3_become_13 rfl (lv_at hl 2 rfl) ?_
        refine lv_aload_n hx hb dX3_become_14 rfl (lv_at hl 1 rfl) ?_
        refine zr_getqN (C := RX2) (T := TX2) (n := 9) C0 hP 2 (by decide) shX_2 1 4 rfl (by decide) uw_X2 0 rfl rfl dX3_become_15 ?_
        refine lv_iload_n hx hb dX3_become_18 rfl (lv_at hl 2 rfl) ?_
        obtain ⟨hg_7, hf⟩ := zG_o hf
        refine zr_iald C0 hP 4 (by decide) shX_4 hg_7 dX3_become_19 ?_
        obtain ⟨hg_8, hf⟩ := zG_o hf
        refine zr_iast C0 hJ hP hS (t + 1) (isT_lt1 ht) (isT_s1 ht) hg_8 dX3_become_20 (fun H locs hP hS => ?_)
        obtain ⟨M_9, eM_9, hf⟩ := zL_o hf
        have hP : va_P G.1 zcl (zw G shX 64 M_9) H := by rw [eM_9]; exact hP
        obtain ⟨x2_10, ex2_10, hf⟩ := zL_o hf
        refine lv_iinc (v := x2_10) (lv' := [(2, .int x2_10), (0, .ref (G.2.2.1 t)), (1, .ref (G.2.2.1 2))]) hx hb dX3_become_21 hl (k := 2) rfl (by rw [ex2_10]; rfl) (by decide) rfl (fun ls hl => ?_)
        refine lv_goto (tgt := 2) hx hb dX3_become_24 (by decide) ?_
        exact ih2 x2_10 M_9 H locs ls (lv_sub hl [1, 2, 0] rfl) hP hS hf
  unfold fX3_become at hf
  obtain ⟨H, eH⟩ : ∃ H, H = s.heap := ⟨_, rfl⟩
  obtain ⟨locs, el⟩ : ∃ locs : List Loc, locs = [] := ⟨_, rfl⟩
  rw [← eH] at hP ⊢
  have hS : va_S (zA G 64 s.heap.size) s.heap H locs := by rw [eH, el]; exact hS
  rw [← el]
  refine lv_iconst (v := (0 : Int32)) hx hb dX3_become_0 (by decide) ?_
  refine lv_istore_n (lv' := [(2, .int (0 : Int32)), (0, .ref (G.2.2.1 t)), (1, .ref (G.2.2.1 2))]) hx hb dX3_become_1 rfl hl (by decide) rfl (fun ls hl => ?_)
  exact L2 zF (0 : Int32) M H locs ls (lv_sub hl [1, 2, 0] rfl) hP hS hf
def fX3_tell_B20 (t : Nat) (nm : Nat) (r20 : Int32 → Int32 → Int32 → zM → Option (Int32 × zM)) (x1 : Int32) (x3 : Int32) (x4 : Int32) (M : zM) : Option (Int32 × zM) :=
  zG (zin x1 3) <|
  if (M.1 (t + 2) x1.toNatClampNeg) ≤ x4 then
    if x3 ≤ (0 : Int32) then
      some ((0 : Int32), M)
    else
      some ((M.1 (t + 3) (0 : Int32).toNatClampNeg), M)
  else
    zG (zin x4 160) <|
    zL (M.1 (t + 1) x4.toNatClampNeg) fun x5_8 =>
    if (20000 : Int32) ≤ x5_8 then
      if x5_8 < (30000 : Int32) then
        if x3 ≤ (1 : Int32) then
          zL (x4 + (1 : Int32)) fun x4_12 =>
          r20 x1 x3 x4_12 M
        else
          zL (x3 + (-1 : Int32)) fun x3_13 =>
          zG (zin (x3_13 - (1 : Int32)) 160) <|
          zG (zin x3_13 160) <|
          zB (fX3_joined (x5_8 - (20000 : Int32)) (M.1 (t + 3) (x3_13 - (1 : Int32)).toNatClampNeg) (M.1 (t + 3) x3_13.toNatClampNeg) M) fun r_18 M_16 =>
          zG (zin (x3_13 - (1 : Int32)) 160) <|
          zL (zu M_16 (t + 3) (x3_13 - (1 : Int32)).toNatClampNeg r_18) fun M_20 =>
          zL (x4 + (1 : Int32)) fun x4_21 =>
          r20 x1 x3_13 x4_21 M_20
      else
        if x3 ≤ (0 : Int32) then
          zL (x4 + (1 : Int32)) fun x4_23 =>
          r20 x1 x3 x4_23 M
        else
          zG (zin (x3 - (1 : Int32)) 160) <|
          zB (fX3_changed x5_8 (M.1 (t + 3) (x3 - (1 : Int32)).toNatClampNeg) M) fun r_27 M_25 =>
          zG (zin (x3 - (1 : Int32)) 160) <|
          zL (zu M_25 (t + 3) (x3 - (1 : Int32)).toNatClampNeg r_27) fun M_29 =>
          zL (x4 + (1 : Int32)) fun x4_30 =>
          r20 x1 x3 x4_30 M_29
    else
      zL (x5_8 - (10000 : Int32)) fun x6_31 =>
      if (160 : Int32) ≤ x3 then
        zL (x4 + (1 : Int32)) fun x4_33 =>
        r20 x1 x3 x4_33 M
      else
        if (6 : Int32) ≤ x6_31 then
          zL (x4 + (1 : Int32)) fun x4_35 =>
          r20 x1 x3 x4_35 M
        else
          if (0 : Int32) ≤ x6_31 then
            zG (zin x6_31 6) <|
            zG (zin x3 160) <|
            zL (zu M (t + 3) x3.toNatClampNeg (M.1 nm x6_31.toNatClampNeg)) fun M_39 =>
            zL (x3 + (1 : Int32)) fun x3_40 =>
            zL (x4 + (1 : Int32)) fun x4_41 =>
            r20 x1 x3_40 x4_41 M_39
          else
            zG (zin x3 160) <|
            zL (zu M (t + 3) x3.toNatClampNeg x5_8) fun M_43 =>
            zL (x3 + (1 : Int32)) fun x3_44 =>
            zL (x4 + (1 : Int32)) fun x4_45 =>
            r20 x1 x3_44 x4_45 M_43
def fX3_tell_L20 (t : Nat) (nm : Nat) : Nat → Int32 → Int32 → Int32 → zM → Option (Int32 × zM)
  | 0 => fun _ _ _ _ => none
  | j9 + 1 => fX3_tell_B20 t nm (fX3_tell_L20 t nm j9)
def fX3_tell (t : Nat) (nm : Nat) (x1 : Int32) (M : zM) : Option (Int32 × zM) :=
  if x1 = (0 : Int32) then
    fX3_tell_L20 t nm zF x1 (0 : Int32) (0 : Int32) M
  else
    zG (zin (x1 - (1 : Int32)) 3) <|
    zL (M.1 (t + 2) (x1 - (1 : Int32)).toNatClampNeg) fun x4_3 =>
    fX3_tell_L20 t nm zF x1 (0 : Int32) x4_3 M
set_option maxHeartbeats 4000000 in
set_option maxRecDepth 100000 in
theorem mtX3_tell (l : Launch) (G : zGr) (hJ : zJ G 64) (t : Nat) (ht : isT t) (nm : Nat) (hnm : nm < 64) (knm : shX nm = .inr (0, 6, 0, 0)) (x1 : Int32) (M : zM) (o : Int32 × zM) (hf : fX3_tell t nm x1 M = some o) : zMi l G shX 64 yX3_tell cX3_tell 7 (some .int) 1 22 [.ref (G.2.2.1 t), .int x1, .ref (G.2.2.1 nm)] M o := by
  intro sz
  refine zOf (by decide) (Nat.le_of_ble_eq_true rfl) ?_
  intro p e R Q s m args below meth c hRm hsz hQ C0 hP hS ls hl
  subst hsz
  replace hRm : R = { frames := 1, cells := 0, slots := 0, locals := 22 } := hRm
  have hl : lv_has ls 7 [(0, .ref (G.2.2.1 t)), (1, .int x1), (2, .ref (G.2.2.1 nm))] := hl
  have hx := C0.1
  have hb := C0.2.1
  have hown := C0.2.2.2.1
  have hts := C0.2.2.2.2.1
  have L20 : ∀ (n20 : Nat), ∀ (x1 : Int32) (x3 : Int32) (x4 : Int32) (M : zM) (H : Heap) (locs : List Loc) (ls : Array Slot), lv_has ls 7 [(0, .ref (G.2.2.1 t)), (1, .int x1), (2, .ref (G.2.2.1 nm)), (3, .int x3), (4, .int x4)] → va_P G.1 zcl (zw G shX 64 M) H → va_S (zA G 64 s.heap.size) s.heap H locs → fX3_tell_L20 t nm n20 x1 x3 x4 M = some o → W p l e R s m args below meth c H locs 0 0 Q (F0 m 20 ls []) := by
    intro n20
    induction n20 with
    | zero => intro x1 x3 x4 M H locs ls hl hP hS hf; exact zn_s (show none = some o from hf)
    | succ n20 ih20 =>
      intro x1 x3 x4 M H locs ls hl hP hS hf
      replace hf : fX3_tell_B20 t nm (fX3_tell_L20 t nm n20) x1 x3 x4 M = some o := hf
      unfold fX3_tell_B20 at hf
      refine lv_iload hx hb dX3_tell_20 (lv_at hl 4 rfl) ?_
      refine lv_aload_n hx hb dX3_tell_22 rfl (lv_at hl 0 rfl) ?_
      refine zr_getq (C := RX3) (T := TX3) (n := 3) C0 hP t (isT_lt ht) (isT_s ht) 1 (t + 2) rfl (by decide) uw_X3 mw_67 rfl dX3_tell_23 ?_
      refine lv_iload_n hx hb dX3_tell_26 rfl (lv_at hl 1 rfl) ?_
      obtain ⟨hg_4, hf⟩ := zG_o hf
      refine zr_iald C0 hP (t + 2) (isT_lt2 ht) (isT_s2 ht) hg_4 dX3_tell_27 ?_
      refine lv_icmp_ge (tgt := 177) hx hb dX3_tell_28 (by decide) (fun c_5 => ?_) (fun c_5 => ?_)
      · replace hf := zI_t c_5 hf
        refine lv_iload_n hx hb dX3_tell_177 rfl (lv_at hl 3 rfl) ?_
        refine lv_if_le (tgt := 190) hx hb dX3_tell_178 (by decide) (fun c_6 => ?_) (fun c_6 => ?_)
        · replace hf := zI_t c_6 hf
          refine lv_iconst (v := (0 : Int32)) hx hb dX3_tell_190 (by decide) ?_
          exact ze_i C0 hP hS hf dX3_tell_191 hQ
        · replace hf := zI_f c_6 hf
          refine lv_aload_n hx hb dX3_tell_181 rfl (lv_at hl 0 rfl) ?_
          refine zr_getq (C := RX3) (T := TX3) (n := 3) C0 hP t (isT_lt ht) (isT_s ht) 2 (t + 3) rfl (by decide) uw_X3 mw_69 rfl dX3_tell_182 ?_
          refine lv_iconst (v := (0 : Int32)) hx hb dX3_tell_185 (by decide) ?_
          refine zr_iald C0 hP (t + 3) (isT_lt3 ht) (isT_s3 ht) (by decide) dX3_tell_186 ?_
          refine lv_goto (tgt := 191) hx hb dX3_tell_187 (by decide) ?_
          exact ze_i C0 hP hS hf dX3_tell_191 hQ
      · replace hf := zI_f c_5 hf
        refine lv_aload_n hx hb dX3_tell_31 rfl (lv_at hl 0 rfl) ?_
        refine zr_getq (C := RX3) (T := TX3) (n := 3) C0 hP t (isT_lt ht) (isT_s ht) 0 (t + 1) rfl (by decide) uw_X3 mw_68 rfl dX3_tell_32 ?_
        refine lv_iload hx hb dX3_tell_35 (lv_at hl 4 rfl) ?_
        obtain ⟨hg_7, hf⟩ := zG_o hf
        refine zr_iald C0 hP (t + 1) (isT_lt1 ht) (isT_s1 ht) hg_7 dX3_tell_37 ?_
        refine lv_topi (fun x5_8 ex5_8 => ?_)
        replace hf := zL_e ex5_8 hf
        refine lv_istore (lv' := [(5, .int x5_8), (0, .ref (G.2.2.1 t)), (1, .int x1), (2, .ref (G.2.2.1 nm)), (3, .int x3), (4, .int x4)]) hx hb dX3_tell_38 hl (by decide) rfl (fun ls hl => ?_)
        refine lv_iload hx hb dX3_tell_40 (lv_at hl 0 rfl) ?_
        refine lv_sipush (v := (20000 : Int32)) hx hb dX3_tell_42 (by decide) ?_
        refine lv_icmp_ge (tgt := 96) hx hb dX3_tell_45 (by decide) (fun c_9 => ?_) (fun c_9 => ?_)
        · replace hf := zI_t c_9 hf
          refine lv_iload hx hb dX3_tell_96 (lv_at hl 0 rfl) ?_
          refine lv_sipush (v := (30000 : Int32)) hx hb dX3_tell_98 (by decide) ?_
          refine lv_icmp_lt (tgt := 132) hx hb dX3_tell_101 (by decide) (fun c_10 => ?_) (fun c_10 => ?_)
          · replace hf := zI_t c_10 hf
            refine lv_iload_n hx hb dX3_tell_132 rfl (lv_at hl 4 rfl) ?_
            refine lv_iconst (v := (1 : Int32)) hx hb dX3_tell_133 (by decide) ?_
            refine lv_icmp_le (tgt := 171) hx hb dX3_tell_134 (by decide) (fun c_11 => ?_) (fun c_11 => ?_)
            · replace hf := zI_t c_11 hf
              obtain ⟨x4_12, ex4_12, hf⟩ := zL_o hf
              refine lv_iinc (v := x4_12) (lv' := [(4, .int x4_12), (5, .int x5_8), (0, .ref (G.2.2.1 t)), (1, .int x1), (2, .ref (G.2.2.1 nm)), (3, .int x3)]) hx hb dX3_tell_171 hl (k := 5) rfl (by rw [ex4_12]; rfl) (by decide) rfl (fun ls hl => ?_)
              refine lv_goto (tgt := 20) hx hb dX3_tell_174 (by decide) ?_
              exact ih20 x1 x3 x4_12 M H locs ls (lv_sub hl [2, 3, 4, 5, 0] rfl) hP hS hf
            · replace hf := zI_f c_11 hf
              obtain ⟨x3_13, ex3_13, hf⟩ := zL_o hf
              refine lv_iinc (v := x3_13) (lv' := [(3, .int x3_13), (5, .int x5_8), (0, .ref (G.2.2.1 t)), (1, .int x1), (2, .ref (G.2.2.1 nm)), (4, .int x4)]) hx hb dX3_tell_137 hl (k := 4) rfl (by rw [ex3_13]; rfl) (by decide) rfl (fun ls hl => ?_)
              refine lv_aload_n hx hb dX3_tell_140 rfl (lv_at hl 2 rfl) ?_
              refine zr_getq (C := RX3) (T := TX3) (n := 3) C0 hP t (isT_lt ht) (isT_s ht) 2 (t + 3) rfl (by decide) uw_X3 mw_69 rfl dX3_tell_141 ?_
              refine lv_iload_n hx hb dX3_tell_144 rfl (lv_at hl 0 rfl) ?_
              refine lv_iconst (v := (1 : Int32)) hx hb dX3_tell_145 (by decide) ?_
              refine lv_isub hx hb dX3_tell_146 ?_
              refine lv_iload hx hb dX3_tell_147 (lv_at hl 1 rfl) ?_
              refine lv_sipush (v := (20000 : Int32)) hx hb dX3_tell_149 (by decide) ?_
              refine lv_isub hx hb dX3_tell_152 ?_
              refine lv_aload_n hx hb dX3_tell_153 rfl (lv_at hl 2 rfl) ?_
              refine zr_getq (C := RX3) (T := TX3) (n := 3) C0 hP t (isT_lt ht) (isT_s ht) 2 (t + 3) rfl (by decide) uw_X3 mw_69 rfl dX3_tell_154 ?_
              refine lv_iload_n hx hb dX3_tell_157 rfl (lv_at hl 0 rfl) ?_
              refine lv_iconst (v := (1 : Int32)) hx hb dX3_tell_158 (by decide) ?_
              refine lv_isub hx hb dX3_tell_159 ?_
              obtain ⟨hg_14, hf⟩ := zG_o hf
              refine zr_iald C0 hP (t + 3) (isT_lt3 ht) (isT_s3 ht) hg_14 dX3_tell_160 ?_
              refine lv_aload_n hx hb dX3_tell_161 rfl (lv_at hl 2 rfl) ?_
              refine zr_getq (C := RX3) (T := TX3) (n := 3) C0 hP t (isT_lt ht) (isT_s ht) 2 (t + 3) rfl (by decide) uw_X3 mw_69 rfl dX3_tell_162 ?_
              refine lv_iload_n hx hb dX3_tell_165 rfl (lv_at hl 0 rfl) ?_
              obtain ⟨hg_15, hf⟩ := zG_o hf
              refine zr_iald C0 hP (t + 3) (isT_lt3 ht) (isT_s3 ht) hg_15 dX3_tell_166 ?_
              obtain ⟨r_18, M_16, hc_17, hf⟩ := zB_o hf
              refine zc_si (As := [.int (x5_8 - (20000 : Int32)), .int (M.1 (t + 3) (x3_13 - (1 : Int32)).toNatClampNeg), .int (M.1 (t + 3) x3_13.toNatClampNeg)]) (rest := [.int (x3_13 - (1 : Int32)), .ref (G.2.2.1 (t + 3))]) C0 hP hS hl.1 (mtX3_joined l G hJ (x5_8 - (20000 : Int32)) (M.1 (t + 3) (x3_13 - (1 : Int32)).toNatClampNeg) (M.1 (t + 3) x3_13.toNatClampNeg) M _ hc_17) ls_X3_29 ds_X3_joined (by rw [hRm]; exact ⟨Nat.le_of_ble_eq_true rfl, Nat.le_of_ble_eq_true rfl⟩) rfl rfl (Nat.le_of_ble_eq_true rfl) dX3_tell_167 ⟨Nat.zero_le _, Nat.zero_le _⟩ (fun H locs hP hS => ?_)
              obtain ⟨hg_19, hf⟩ := zG_o hf
              refine zr_iast C0 hJ hP hS (t + 3) (isT_lt3 ht) (isT_s3 ht) hg_19 dX3_tell_170 (fun H locs hP hS => ?_)
              obtain ⟨M_20, eM_20, hf⟩ := zL_o hf
              have hP : va_P G.1 zcl (zw G shX 64 M_20) H := by rw [eM_20]; exact hP
              obtain ⟨x4_21, ex4_21, hf⟩ := zL_o hf
              refine lv_iinc (v := x4_21) (lv' := [(4, .int x4_21), (3, .int x3_13), (5, .int x5_8), (0, .ref (G.2.2.1 t)), (1, .int x1), (2, .ref (G.2.2.1 nm))]) hx hb dX3_tell_171 hl (k := 5) rfl (by rw [ex4_21]; rfl) (by decide) rfl (fun ls hl => ?_)
              refine lv_goto (tgt := 20) hx hb dX3_tell_174 (by decide) ?_
              exact ih20 x1 x3_13 x4_21 M_20 H locs ls (lv_sub hl [3, 4, 5, 1, 0] rfl) hP hS hf
          · replace hf := zI_f c_10 hf
            refine lv_iload_n hx hb dX3_tell_104 rfl (lv_at hl 4 rfl) ?_
            refine lv_if_le (tgt := 171) hx hb dX3_tell_105 (by decide) (fun c_22 => ?_) (fun c_22 => ?_)
            · replace hf := zI_t c_22 hf
              obtain ⟨x4_23, ex4_23, hf⟩ := zL_o hf
              refine lv_iinc (v := x4_23) (lv' := [(4, .int x4_23), (5, .int x5_8), (0, .ref (G.2.2.1 t)), (1, .int x1), (2, .ref (G.2.2.1 nm)), (3, .int x3)]) hx hb dX3_tell_171 hl (k := 5) rfl (by rw [ex4_23]; rfl) (by decide) rfl (fun ls hl => ?_)
              refine lv_goto (tgt := 20) hx hb dX3_tell_174 (by decide) ?_
              exact ih20 x1 x3 x4_23 M H locs ls (lv_sub hl [2, 3, 4, 5, 0] rfl) hP hS hf
            · replace hf := zI_f c_22 hf
              refine lv_aload_n hx hb dX3_tell_108 rfl (lv_at hl 1 rfl) ?_
              refine zr_getq (C := RX3) (T := TX3) (n := 3) C0 hP t (isT_lt ht) (isT_s ht) 2 (t + 3) rfl (by decide) uw_X3 mw_69 rfl dX3_tell_109 ?_
              refine lv_iload_n hx hb dX3_tell_112 rfl (lv_at hl 4 rfl) ?_
              refine lv_iconst (v := (1 : Int32)) hx hb dX3_tell_113 (by decide) ?_
              refine lv_isub hx hb dX3_tell_114 ?_
              refine lv_iload hx hb dX3_tell_115 (lv_at hl 0 rfl) ?_
              refine lv_aload_n hx hb dX3_tell_117 rfl (lv_at hl 1 rfl) ?_
              refine zr_getq (C := RX3) (T := TX3) (n := 3) C0 hP t (isT_lt ht) (isT_s ht) 2 (t + 3) rfl (by decide) uw_X3 mw_69 rfl dX3_tell_118 ?_
              refine lv_iload_n hx hb dX3_tell_121 rfl (lv_at hl 4 rfl) ?_
              refine lv_iconst (v := (1 : Int32)) hx hb dX3_tell_122 (by decide) ?_
              refine lv_isub hx hb dX3_tell_123 ?_
              obtain ⟨hg_24, hf⟩ := zG_o hf
              refine zr_iald C0 hP (t + 3) (isT_lt3 ht) (isT_s3 ht) hg_24 dX3_tell_124 ?_
              obtain ⟨r_27, M_25, hc_26, hf⟩ := zB_o hf
              refine zc_si (As := [.int x5_8, .int (M.1 (t + 3) (x3 - (1 : Int32)).toNatClampNeg)]) (rest := [.int (x3 - (1 : Int32)), .ref (G.2.2.1 (t + 3))]) C0 hP hS hl.1 (mtX3_changed l G hJ x5_8 (M.1 (t + 3) (x3 - (1 : Int32)).toNatClampNeg) M _ hc_26) ls_X3_25 ds_X3_changed (by rw [hRm]; exact ⟨Nat.le_of_ble_eq_true rfl, Nat.le_of_ble_eq_true rfl⟩) rfl rfl (Nat.le_of_ble_eq_true rfl) dX3_tell_125 ⟨Nat.zero_le _, Nat.zero_le _⟩ (fun H locs hP hS => ?_)
              obtain ⟨hg_28, hf⟩ := zG_o hf
              refine zr_iast C0 hJ hP hS (t + 3) (isT_lt3 ht) (isT_s3 ht) hg_28 dX3_tell_128 (fun H locs hP hS => ?_)
              obtain ⟨M_29, eM_29, hf⟩ := zL_o hf
              have hP : va_P G.1 zcl (zw G shX 64 M_29) H := by rw [eM_29]; exact hP
              refine lv_goto (tgt := 171) hx hb dX3_tell_129 (by decide) ?_
              obtain ⟨x4_30, ex4_30, hf⟩ := zL_o hf
              refine lv_iinc (v := x4_30) (lv' := [(4, .int x4_30), (5, .int x5_8), (0, .ref (G.2.2.1 t)), (1, .int x1), (2, .ref (G.2.2.1 nm)), (3, .int x3)]) hx hb dX3_tell_171 hl (k := 5) rfl (by rw [ex4_30]; rfl) (by decide) rfl (fun ls hl => ?_)
              refine lv_goto (tgt := 20) hx hb dX3_tell_174 (by decide) ?_
              exact ih20 x1 x3 x4_30 M_29 H locs ls (lv_sub hl [2, 3, 4, 5, 0] rfl) hP hS hf
        · replace hf := zI_f c_9 hf
          refine lv_iload hx hb dX3_tell_48 (lv_at hl 0 rfl) ?_
          refine lv_sipush (v := (10000 : Int32)) hx hb dX3_tell_50 (by decide) ?_
          refine lv_isub hx hb dX3_tell_53 ?_
          refine lv_topi (fun x6_31 ex6_31 => ?_)
          replace hf := zL_e ex6_31 hf
          refine lv_istore (lv' := [(6, .int x6_31), (5, .int x5_8), (0, .ref (G.2.2.1 t)), (1, .int x1), (2, .ref (G.2.2.1 nm)), (3, .int x3), (4, .int x4)]) hx hb dX3_tell_54 hl (by decide) rfl (fun ls hl => ?_)
          refine lv_iload_n hx hb dX3_tell_56 rfl (lv_at hl 5 rfl) ?_
          refine lv_sipush (v := (160 : Int32)) hx hb dX3_tell_57 (by decide) ?_
          refine lv_icmp_ge (tgt := 93) hx hb dX3_tell_60 (by decide) (fun c_32 => ?_) (fun c_32 => ?_)
          · replace hf := zI_t c_32 hf
            refine lv_goto (tgt := 171) hx hb dX3_tell_93 (by decide) ?_
            obtain ⟨x4_33, ex4_33, hf⟩ := zL_o hf
            refine lv_iinc (v := x4_33) (lv' := [(4, .int x4_33), (6, .int x6_31), (5, .int x5_8), (0, .ref (G.2.2.1 t)), (1, .int x1), (2, .ref (G.2.2.1 nm)), (3, .int x3)]) hx hb dX3_tell_171 hl (k := 6) rfl (by rw [ex4_33]; rfl) (by decide) rfl (fun ls hl => ?_)
            refine lv_goto (tgt := 20) hx hb dX3_tell_174 (by decide) ?_
            exact ih20 x1 x3 x4_33 M H locs ls (lv_sub hl [3, 4, 5, 6, 0] rfl) hP hS hf
          · replace hf := zI_f c_32 hf
            refine lv_iload hx hb dX3_tell_63 (lv_at hl 0 rfl) ?_
            refine lv_bipush (v := (6 : Int32)) hx hb dX3_tell_65 (by decide) ?_
            refine lv_icmp_ge (tgt := 93) hx hb dX3_tell_67 (by decide) (fun c_34 => ?_) (fun c_34 => ?_)
            · replace hf := zI_t c_34 hf
              refine lv_goto (tgt := 171) hx hb dX3_tell_93 (by decide) ?_
              obtain ⟨x4_35, ex4_35, hf⟩ := zL_o hf
              refine lv_iinc (v := x4_35) (lv' := [(4, .int x4_35), (6, .int x6_31), (5, .int x5_8), (0, .ref (G.2.2.1 t)), (1, .int x1), (2, .ref (G.2.2.1 nm)), (3, .int x3)]) hx hb dX3_tell_171 hl (k := 6) rfl (by rw [ex4_35]; rfl) (by decide) rfl (fun ls hl => ?_)
              refine lv_goto (tgt := 20) hx hb dX3_tell_174 (by decide) ?_
              exact ih20 x1 x3 x4_35 M H locs ls (lv_sub hl [3, 4, 5, 6, 0] rfl) hP hS hf
            · replace hf := zI_f c_34 hf
              refine lv_aload_n hx hb dX3_tell_70 rfl (lv_at hl 2 rfl) ?_
              refine zr_getq (C := RX3) (T := TX3) (n := 3) C0 hP t (isT_lt ht) (isT_s ht) 2 (t + 3) rfl (by decide) uw_X3 mw_69 rfl dX3_tell_71 ?_
              refine lv_iload_n hx hb dX3_tell_74 rfl (lv_at hl 5 rfl) ?_
              refine lv_iload hx hb dX3_tell_75 (lv_at hl 0 rfl) ?_
              refine lv_if_ge (tgt := 85) hx hb dX3_tell_77 (by decide) (fun c_36 => ?_) (fun c_36 => ?_)
              · replace hf := zI_t c_36 hf
                refine lv_aload_n hx hb dX3_tell_85 rfl (lv_at hl 4 rfl) ?_
                refine lv_iload hx hb dX3_tell_86 (lv_at hl 0 rfl) ?_
                obtain ⟨hg_37, hf⟩ := zG_o hf
                refine zr_iald C0 hP nm hnm knm hg_37 dX3_tell_88 ?_
                obtain ⟨hg_38, hf⟩ := zG_o hf
                refine zr_iast C0 hJ hP hS (t + 3) (isT_lt3 ht) (isT_s3 ht) hg_38 dX3_tell_89 (fun H locs hP hS => ?_)
                obtain ⟨M_39, eM_39, hf⟩ := zL_o hf
                have hP : va_P G.1 zcl (zw G shX 64 M_39) H := by rw [eM_39]; exact hP
                obtain ⟨x3_40, ex3_40, hf⟩ := zL_o hf
                refine lv_iinc (v := x3_40) (lv' := [(3, .int x3_40), (6, .int x6_31), (5, .int x5_8), (0, .ref (G.2.2.1 t)), (1, .int x1), (2, .ref (G.2.2.1 nm)), (4, .int x4)]) hx hb dX3_tell_90 hl (k := 5) rfl (by rw [ex3_40]; rfl) (by decide) rfl (fun ls hl => ?_)
                refine lv_goto (tgt := 171) hx hb dX3_tell_93 (by decide) ?_
                obtain ⟨x4_41, ex4_41, hf⟩ := zL_o hf
                refine lv_iinc (v := x4_41) (lv' := [(4, .int x4_41), (3, .int x3_40), (6, .int x6_31), (5, .int x5_8), (0, .ref (G.2.2.1 t)), (1, .int x1), (2, .ref (G.2.2.1 nm))]) hx hb dX3_tell_171 hl (k := 6) rfl (by rw [ex4_41]; rfl) (by decide) rfl (fun ls hl => ?_)
                refine lv_goto (tgt := 20) hx hb dX3_tell_174 (by decide) ?_
                exact ih20 x1 x3_40 x4_41 M_39 H locs ls (lv_sub hl [4, 5, 6, 1, 0] rfl) hP hS hf
              · replace hf := zI_f c_36 hf
                refine lv_iload hx hb dX3_tell_80 (lv_at hl 1 rfl) ?_
                refine lv_goto (tgt := 89) hx hb dX3_tell_82 (by decide) ?_
                obtain ⟨hg_42, hf⟩ := zG_o hf
                refine zr_iast C0 hJ hP hS (t + 3) (isT_lt3 ht) (isT_s3 ht) hg_42 dX3_tell_89 (fun H locs hP hS => ?_)
                obtain ⟨M_43, eM_43, hf⟩ := zL_o hf
                have hP : va_P G.1 zcl (zw G shX 64 M_43) H := by rw [eM_43]; exact hP
                obtain ⟨x3_44, ex3_44, hf⟩ := zL_o hf
                refine lv_iinc (v := x3_44) (lv' := [(3, .int x3_44), (6, .int x6_31), (5, .int x5_8), (0, .ref (G.2.2.1 t)), (1, .int x1), (2, .ref (G.2.2.1 nm)), (4, .int x4)]) hx hb dX3_tell_90 hl (k := 5) rfl (by rw [ex3_44]; rfl) (by decide) rfl (fun ls hl => ?_)
                refine lv_goto (tgt := 171) hx hb dX3_tell_93 (by decide) ?_
                obtain ⟨x4_45, ex4_45, hf⟩ := zL_o hf
                refine lv_iinc (v := x4_45) (lv' := [(4, .int x4_45), (3, .int x3_44), (6, .int x6_31), (5, .int x5_8), (0, .ref (G.2.2.1 t)), (1, .int x1), (2, .ref (G.2.2.1 nm))]) hx hb dX3_tell_171 hl (k := 6) rfl (by rw [ex4_45]; rfl) (by decide) rfl (fun ls hl => ?_)
                refine lv_goto (tgt := 20) hx hb dX3_tell_174 (by decide) ?_
                exact ih20 x1 x3_44 x4_45 M_43 H locs ls (lv_sub hl [4, 5, 6, 1, 0] rfl) hP hS hf
  unfold fX3_tell at hf
  obtain ⟨H, eH⟩ : ∃ H, H = s.heap := ⟨_, rfl⟩
  obtain ⟨locs, el⟩ : ∃ locs : List Loc, locs = [] := ⟨_, rfl⟩
  rw [← eH] at hP ⊢
  have hS : va_S (zA G 64 s.heap.size) s.heap H locs := by rw [eH, el]; exact hS
  rw [← el]
  refine lv_iconst (v := (0 : Int32)) hx hb dX3_tell_0 (by decide) ?_
  refine lv_istore_n (lv' := [(3, .int (0 : Int32)), (0, .ref (G.2.2.1 t)), (1, .int x1), (2, .ref (G.2.2.1 nm))]) hx hb dX3_tell_1 rfl hl (by decide) rfl (fun ls hl => ?_)
  refine lv_iload_n hx hb dX3_tell_2 rfl (lv_at hl 2 rfl) ?_
  refine lv_if_ne (tgt := 10) hx hb dX3_tell_3 (by decide) (fun c_1 => ?_) (fun c_1 => ?_)
  · replace hf := zI_f c_1 hf
    refine lv_aload_n hx hb dX3_tell_10 rfl (lv_at hl 1 rfl) ?_
    refine zr_getq (C := RX3) (T := TX3) (n := 3) C0 hP t (isT_lt ht) (isT_s ht) 1 (t + 2) rfl (by decide) uw_X3 mw_67 rfl dX3_tell_11 ?_
    refine lv_iload_n hx hb dX3_tell_14 rfl (lv_at hl 2 rfl) ?_
    refine lv_iconst (v := (1 : Int32)) hx hb dX3_tell_15 (by decide) ?_
    refine lv_isub hx hb dX3_tell_16 ?_
    obtain ⟨hg_2, hf⟩ := zG_o hf
    refine zr_iald C0 hP (t + 2) (isT_lt2 ht) (isT_s2 ht) hg_2 dX3_tell_17 ?_
    refine lv_topi (fun x4_3 ex4_3 => ?_)
    replace hf := zL_e ex4_3 hf
    refine lv_istore (lv' := [(4, .int x4_3), (3, .int (0 : Int32)), (0, .ref (G.2.2.1 t)), (1, .int x1), (2, .ref (G.2.2.1 nm))]) hx hb dX3_tell_18 hl (by decide) rfl (fun ls hl => ?_)
    exact L20 zF x1 (0 : Int32) x4_3 M H locs ls (lv_sub hl [2, 3, 4, 1, 0] rfl) hP hS hf
  · replace hf := zI_t c_1 hf
    refine lv_iconst (v := (0 : Int32)) hx hb dX3_tell_6 (by decide) ?_
    refine lv_goto (tgt := 18) hx hb dX3_tell_7 (by decide) ?_
    refine lv_istore (lv' := [(4, .int (0 : Int32)), (3, .int (0 : Int32)), (0, .ref (G.2.2.1 t)), (1, .int x1), (2, .ref (G.2.2.1 nm))]) hx hb dX3_tell_18 hl (by decide) rfl (fun ls hl => ?_)
    exact L20 zF x1 (0 : Int32) (0 : Int32) M H locs ls (lv_sub hl [2, 3, 4, 1, 0] rfl) hP hS hf

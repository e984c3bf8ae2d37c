def fX6_within (x0 : Int32) (x1 : Int32) (x2 : Int32) (M : zM) : Option (Int32 × zM) :=
  if x0 < x1 then
    some ((0 : Int32), M)
  else
    if x2 < x0 then
      some ((0 : Int32), M)
    else
      some ((1 : Int32), M)
set_option maxHeartbeats 4000000 in
set_option maxRecDepth 100000 in
theorem mtX6_within (l : Launch) (G : zGr) (hJ : zJ G 23) (x0 : Int32) (x1 : Int32) (x2 : Int32) (M : zM) (o : Int32 × zM) (hf : fX6_within x0 x1 x2 M = some o) : zMi l G shM 23 yX6_within cX6_within 3 (some .boolean) 0 0 [.int x0, .int x1, .int x2] M o := by
  intro sz
  refine zOf (by decide) (Nat.le_of_ble_eq_true rfl) ?_
  intro p e R Q s m args below meth c hRm hsz hQ C0 hP hS ls hl
  subst hsz
  replace hRm : R = { frames := 0, cells := 0, slots := 0, locals := 0 } := hRm
  have hl : lv_has ls 3 [(0, .int x0), (1, .int x1), (2, .int x2)] := hl
  have hx := C0.1
  have hb := C0.2.1
  have hown := C0.2.2.2.1
  have hts := C0.2.2.2.2.1
  unfold fX6_within at hf
  obtain ⟨H, eH⟩ : ∃ H, H = s.heap := ⟨_, rfl⟩
  obtain ⟨locs, el⟩ : ∃ locs : List Loc, locs = [] := ⟨_, rfl⟩
  rw [← eH] at hP ⊢
  have hS : va_S (zA G 23 s.heap.size) s.heap H locs := by rw [eH, el]; exact hS
  rw [← el]
  refine lv_iload_n hx hb dX6_within_0 rfl (lv_at hl 0 rfl) ?_
  refine lv_iload_n hx hb dX6_within_1 rfl (lv_at hl 1 rfl) ?_
  refine lv_icmp_lt (tgt := 14) hx hb dX6_within_2 (by decide) (fun c_1 => ?_) (fun c_1 => ?_)
  · replace hf := zI_t c_1 hf
    refine lv_iconst (v := (0 : Int32)) hx hb dX6_within_14 (by decide) ?_
    exact ze_z C0 hP hS (by decide) hf dX6_within_15 hQ
  · replace hf := zI_f c_1 hf
    refine lv_iload_n hx hb dX6_within_5 rfl (lv_at hl 0 rfl) ?_
    refine lv_iload_n hx hb dX6_within_6 rfl (lv_at hl 2 rfl) ?_
    refine lv_icmp_gt (tgt := 14) hx hb dX6_within_7 (by decide) (fun c_2 => ?_) (fun c_2 => ?_)
    · replace hf := zI_t c_2 hf
      refine lv_iconst (v := (0 : Int32)) hx hb dX6_within_14 (by decide) ?_
      exact ze_z C0 hP hS (by decide) hf dX6_within_15 hQ
    · replace hf := zI_f c_2 hf
      refine lv_iconst (v := (1 : Int32)) hx hb dX6_within_10 (by decide) ?_
      refine lv_goto (tgt := 15) hx hb dX6_within_11 (by decide) ?_
      exact ze_z C0 hP hS (by decide) hf dX6_within_15 hQ
def fX6_bound (x0 : Int32) (x1 : Int32) (x2 : Int32) (M : zM) : Option (Int32 × zM) :=
  if x1 ≤ x0 then
    if x0 ≤ x2 then
      some (x0, M)
    else
      some (x2, M)
  else
    some (x1, M)
set_option maxHeartbeats 4000000 in
set_option maxRecDepth 100000 in
theorem mtX6_bound (l : Launch) (G : zGr) (hJ : zJ G 23) (x0 : Int32) (x1 : Int32) (x2 : Int32) (M : zM) (o : Int32 × zM) (hf : fX6_bound x0 x1 x2 M = some o) : zMi l G shM 23 yX6_bound cX6_bound 3 (some .int) 0 0 [.int x0, .int x1, .int x2] M o := by
  intro sz
  refine zOf (by decide) (Nat.le_of_ble_eq_true rfl) ?_
  intro p e R Q s m args below meth c hRm hsz hQ C0 hP hS ls hl
  subst hsz
  replace hRm : R = { frames := 0, cells := 0, slots := 0, locals := 0 } := hRm
  have hl : lv_has ls 3 [(0, .int x0), (1, .int x1), (2, .int x2)] := hl
  have hx := C0.1
  have hb := C0.2.1
  have hown := C0.2.2.2.1
  have hts := C0.2.2.2.2.1
  unfold fX6_bound at hf
  obtain ⟨H, eH⟩ : ∃ H, H = s.heap := ⟨_, rfl⟩
  obtain ⟨locs, el⟩ : ∃ locs : List Loc, locs = [] := ⟨_, rfl⟩
  rw [← eH] at hP ⊢
  have hS : va_S (zA G 23 s.heap.size) s.heap H locs := by rw [eH, el]; exact hS
  rw [← el]
  refine lv_iload_n hx hb dX6_bound_0 rfl (lv_at hl 0 rfl) ?_
  refine lv_iload_n hx hb dX6_bound_1 rfl (lv_at hl 1 rfl) ?_
  refine lv_icmp_ge (tgt := 9) hx hb dX6_bound_2 (by decide) (fun c_1 => ?_) (fun c_1 => ?_)
  · replace hf := zI_t c_1 hf
    refine lv_iload_n hx hb dX6_bound_9 rfl (lv_at hl 0 rfl) ?_
    refine lv_iload_n hx hb dX6_bound_10 rfl (lv_at hl 2 rfl) ?_
    refine lv_icmp_le (tgt := 18) hx hb dX6_bound_11 (by decide) (fun c_2 => ?_) (fun c_2 => ?_)
    · replace hf := zI_t c_2 hf
      refine lv_iload_n hx hb dX6_bound_18 rfl (lv_at hl 0 rfl) ?_
      exact ze_i C0 hP hS hf dX6_bound_19 hQ
    · replace hf := zI_f c_2 hf
      refine lv_iload_n hx hb dX6_bound_14 rfl (lv_at hl 2 rfl) ?_
      refine lv_goto (tgt := 19) hx hb dX6_bound_15 (by decide) ?_
      exact ze_i C0 hP hS hf dX6_bound_19 hQ
  · replace hf := zI_f c_1 hf
    refine lv_iload_n hx hb dX6_bound_5 rfl (lv_at hl 1 rfl) ?_
    refine lv_goto (tgt := 19) hx hb dX6_bound_6 (by decide) ?_
    exact ze_i C0 hP hS hf dX6_bound_19 hQ
def fX6_isOne (x1 : Int32) (M : zM) : Option (Int32 × zM) :=
  zB (fX6_within x1 (0 : Int32) ((M.1 0 2) - (1 : Int32)) M) fun r_3 M_1 =>
  zG (zbo r_3) <|
  some (r_3, M_1)
set_option maxHeartbeats 4000000 in
set_option maxRecDepth 100000 in
theorem mtX6_isOne (l : Launch) (G : zGr) (hJ : zJ G 23) (x1 : Int32) (M : zM) (o : Int32 × zM) (hf : fX6_isOne x1 M = some o) : zMi l G shM 23 yX6_isOne cX6_isOne 2 (some .boolean) 1 22 [.ref (G.2.2.1 0), .int x1] M o := by
  intro sz
  refine zOf (by decide) (Nat.le_of_ble_eq_true rfl) ?_
  intro p e R Q s m args below meth c hRm hsz hQ C0 hP hS ls hl
  subst hsz
  replace hRm : R = { frames := 1, cells := 0, slots := 0, locals := 22 } := hRm
  have hl : lv_has ls 2 [(0, .ref (G.2.2.1 0)), (1, .int x1)] := hl
  have hx := C0.1
  have hb := C0.2.1
  have hown := C0.2.2.2.1
  have hts := C0.2.2.2.2.1
  unfold fX6_isOne at hf
  obtain ⟨H, eH⟩ : ∃ H, H = s.heap := ⟨_, rfl⟩
  obtain ⟨locs, el⟩ : ∃ locs : List Loc, locs = [] := ⟨_, rfl⟩
  rw [← eH] at hP ⊢
  have hS : va_S (zA G 23 s.heap.size) s.heap H locs := by rw [eH, el]; exact hS
  rw [← el]
  refine lv_iload_n hx hb dX6_isOne_0 rfl (lv_at hl 1 rfl) ?_
  refine lv_iconst (v := (0 : Int32)) hx hb dX6_isOne_1 (by decide) ?_
  refine lv_aload_n hx hb dX6_isOne_2 rfl (lv_at hl 0 rfl) ?_
  refine zr_get (C := RX6) (T := TX6) (n := 51) C0 hP 0 (by decide) shM_0 2 rfl (by decide) uw_X6 mw_391 rfl dX6_isOne_3 ?_
  refine lv_iconst (v := (1 : Int32)) hx hb dX6_isOne_6 (by decide) ?_
  refine lv_isub hx hb dX6_isOne_7 ?_
  obtain ⟨r_3, M_1, hc_2, hf⟩ := zB_o hf
  refine zc_si (As := [.int x1, .int (0 : Int32), .int ((M.1 0 2) - (1 : Int32))]) (rest := []) C0 hP hS hl.1 (mtX6_within l G hJ x1 (0 : Int32) ((M.1 0 2) - (1 : Int32)) M _ hc_2) ls_X6_88 ds_X6_within (by rw [hRm]; exact ⟨Nat.le_of_ble_eq_true rfl, Nat.le_of_ble_eq_true rfl⟩) rfl rfl (Nat.le_of_ble_eq_true rfl) dX6_isOne_8 ⟨Nat.zero_le _, Nat.zero_le _⟩ (fun H locs hP hS => ?_)
  obtain ⟨hg_4, hf⟩ := zG_o hf
  exact ze_z C0 hP hS hg_4 hf dX6_isOne_11 hQ
def fX6_areThree (x1 : Int32) (M : zM) : Option (Int32 × zM) :=
  if x1 < (0 : Int32) then
    some ((0 : Int32), M)
  else
    if x1 ≤ (999 : Int32) then
      zL (x1 / (100 : Int32)) fun x2_3 =>
      zL (zrm (x1 / (10 : Int32)) (10 : Int32)) fun x3_4 =>
      zL (zrm x1 (10 : Int32)) fun x4_5 =>
      zB (fX6_isOne x2_3 M) fun r_8 M_6 =>
      if r_8 = (0 : Int32) then
        some ((0 : Int32), M_6)
      else
        zB (fX6_isOne x3_4 M_6) fun r_12 M_10 =>
        if r_12 = (0 : Int32) then
          some ((0 : Int32), M_10)
        else
          zB (fX6_isOne x4_5 M_10) fun r_16 M_14 =>
          if r_16 = (0 : Int32) then
            some ((0 : Int32), M_14)
          else
            if x2_3 = x3_4 then
              some ((0 : Int32), M_14)
            else
              if x2_3 = x4_5 then
                some ((0 : Int32), M_14)
              else
                if x3_4 = x4_5 then
                  some ((0 : Int32), M_14)
                else
                  some ((1 : Int32), M_14)
    else
      some ((0 : Int32), M)
set_option maxHeartbeats 4000000 in
set_option maxRecDepth 100000 in
theorem mtX6_areThree (l : Launch) (G : zGr) (hJ : zJ G 23) (x1 : Int32) (M : zM) (o : Int32 × zM) (hf : fX6_areThree x1 M = some o) : zMi l G shM 23 yX6_areThree cX6_areThree 5 (some .boolean) 2 43 [.ref (G.2.2.1 0), .int x1] M o := by
  intro sz
  refine zOf (by decide) (Nat.le_of_ble_eq_true rfl) ?_
  intro p e R Q s m args below meth c hRm hsz hQ C0 hP hS ls hl
  subst hsz
  replace hRm : R = { frames := 2, cells := 0, slots := 0, locals := 43 } := hRm
  have hl : lv_has ls 5 [(0, .ref (G.2.2.1 0)), (1, .int x1)] := hl
  have hx := C0.1
  have hb := C0.2.1
  have hown := C0.2.2.2.1
  have hts := C0.2.2.2.2.1
  unfold fX6_areThree at hf
  obtain ⟨H, eH⟩ : ∃ H, H = s.heap := ⟨_, rfl⟩
  obtain ⟨locs, el⟩ : ∃ locs : List Loc, locs = [] := ⟨_, rfl⟩
  rw [← eH] at hP ⊢
  have hS : va_S (zA G 23 s.heap.size) s.heap H locs := by rw [eH, el]; exact hS
  rw [← el]
  refine lv_iload_n hx hb dX6_areThree_0 rfl (lv_at hl 1 rfl) ?_
  refine lv_if_lt (tgt := 11) hx hb dX6_areThree_1 (by decide) (fun c_1 => ?_) (fun c_1 => ?_)
  · replace hf := zI_t c_1 hf
    refine lv_iconst (v := (0 : Int32)) hx hb dX6_areThree_11 (by decide) ?_
    exact ze_z C0 hP hS (by decide) hf dX6_areThree_12 hQ
  · replace hf := zI_f c_1 hf
    refine lv_iload_n hx hb dX6_areThree_4 rfl (lv_at hl 1 rfl) ?_
    refine lv_sipush (v := (999 : Int32)) hx hb dX6_areThree_5 (by decide) ?_
    refine lv_icmp_le (tgt := 13) hx hb dX6_areThree_8 (by decide) (fun c_2 => ?_) (fun c_2 => ?_)
    · replace hf := zI_t c_2 hf
      refine lv_iload_n hx hb dX6_areThree_13 rfl (lv_at hl 1 rfl) ?_
      refine lv_bipush (v := (100 : Int32)) hx hb dX6_areThree_14 (by decide) ?_
      refine lv_idiv hx hb dX6_areThree_16 (by decide) ?_
      refine lv_topi (fun x2_3 ex2_3 => ?_)
      replace hf := zL_e ex2_3 hf
      refine lv_istore_n (lv' := [(2, .int x2_3), (0, .ref (G.2.2.1 0)), (1, .int x1)]) hx hb dX6_areThree_17 rfl hl (by decide) rfl (fun ls hl => ?_)
      refine lv_iload_n hx hb dX6_areThree_18 rfl (lv_at hl 2 rfl) ?_
      refine lv_bipush (v := (10 : Int32)) hx hb dX6_areThree_19 (by decide) ?_
      refine lv_idiv hx hb dX6_areThree_21 (by decide) ?_
      refine lv_bipush (v := (10 : Int32)) hx hb dX6_areThree_22 (by decide) ?_
      refine zo_irem hx hb dX6_areThree_24 (by decide) ?_
      refine lv_topi (fun x3_4 ex3_4 => ?_)
      replace hf := zL_e ex3_4 hf
      refine lv_istore_n (lv' := [(3, .int x3_4), (2, .int x2_3), (0, .ref (G.2.2.1 0)), (1, .int x1)]) hx hb dX6_areThree_25 rfl hl (by decide) rfl (fun ls hl => ?_)
      refine lv_iload_n hx hb dX6_areThree_26 rfl (lv_at hl 3 rfl) ?_
      refine lv_bipush (v := (10 : Int32)) hx hb dX6_areThree_27 (by decide) ?_
      refine zo_irem hx hb dX6_areThree_29 (by decide) ?_
      refine lv_topi (fun x4_5 ex4_5 => ?_)
      replace hf := zL_e ex4_5 hf
      refine lv_istore (lv' := [(4, .int x4_5), (3, .int x3_4), (2, .int x2_3), (0, .ref (G.2.2.1 0)), (1, .int x1)]) hx hb dX6_areThree_30 hl (by decide) rfl (fun ls hl => ?_)
      refine lv_aload_n hx hb dX6_areThree_32 rfl (lv_at hl 3 rfl) ?_
      refine lv_iload_n hx hb dX6_areThree_33 rfl (lv_at hl 2 rfl) ?_
      obtain ⟨r_8, M_6, hc_7, hf⟩ := zB_o hf
      refine zc_vi (As := [.int x2_3]) (rest := []) C0 hP hS hl.1 0 (mtX6_isOne l G hJ x2_3 M _ hc_7) lk_X6_92 (by decide) shM_0 (T := TX6) (n' := 51) rfl ds_X6_isOne (by rw [hRm]; exact ⟨Nat.le_of_ble_eq_true rfl, Nat.le_of_ble_eq_true rfl⟩) rfl rfl (Nat.le_of_ble_eq_true rfl) dX6_areThree_34 ⟨Nat.zero_le _, Nat.zero_le _⟩ (fun H locs hP hS => ?_)
      refine lv_if_eq (tgt := 78) hx hb dX6_areThree_37 (by decide) (fun c_9 => ?_) (fun c_9 => ?_)
      · replace hf := zI_t c_9 hf
        refine lv_iconst (v := (0 : Int32)) hx hb dX6_areThree_78 (by decide) ?_
        exact ze_z C0 hP hS (by decide) hf dX6_areThree_79 hQ
      · replace hf := zI_f c_9 hf
        refine lv_aload_n hx hb dX6_areThree_40 rfl (lv_at hl 3 rfl) ?_
        refine lv_iload_n hx hb dX6_areThree_41 rfl (lv_at hl 1 rfl) ?_
        obtain ⟨r_12, M_10, hc_11, hf⟩ := zB_o hf
        refine zc_vi (As := [.int x3_4]) (rest := []) C0 hP hS hl.1 0 (mtX6_isOne l G hJ x3_4 M_6 _ hc_11) lk_X6_92 (by decide) shM_0 (T := TX6) (n' := 51) rfl ds_X6_isOne (by rw [hRm]; exact ⟨Nat.le_of_ble_eq_true rfl, Nat.le_of_ble_eq_true rfl⟩) rfl rfl (Nat.le_of_ble_eq_true rfl) dX6_areThree_42 ⟨Nat.zero_le _, Nat.zero_le _⟩ (fun H locs hP hS => ?_)
        refine lv_if_eq (tgt := 78) hx hb dX6_areThree_45 (by decide) (fun c_13 => ?_) (fun c_13 => ?_)
        · replace hf := zI_t c_13 hf
          refine lv_iconst (v := (0 : Int32)) hx hb dX6_areThree_78 (by decide) ?_
          exact ze_z C0 hP hS (by decide) hf dX6_areThree_79 hQ
        · replace hf := zI_f c_13 hf
          refine lv_aload_n hx hb dX6_areThree_48 rfl (lv_at hl 3 rfl) ?_
          refine lv_iload hx hb dX6_areThree_49 (lv_at hl 0 rfl) ?_
          obtain ⟨r_16, M_14, hc_15, hf⟩ := zB_o hf
          refine zc_vi (As := [.int x4_5]) (rest := []) C0 hP hS hl.1 0 (mtX6_isOne l G hJ x4_5 M_10 _ hc_15) lk_X6_92 (by decide) shM_0 (T := TX6) (n' := 51) rfl ds_X6_isOne (by rw [hRm]; exact ⟨Nat.le_of_ble_eq_true rfl, Nat.le_of_ble_eq_true rfl⟩) rfl rfl (Nat.le_of_ble_eq_true rfl) dX6_areThree_51 ⟨Nat.zero_le _, Nat.zero_le _⟩ (fun H locs hP hS => ?_)
          refine lv_if_eq (tgt := 78) hx hb dX6_areThree_54 (by decide) (fun c_17 => ?_) (fun c_17 => ?_)
          · replace hf := zI_t c_17 hf
            refine lv_iconst (v := (0 : Int32)) hx hb dX6_areThree_78 (by decide) ?_
            exact ze_z C0 hP hS (by decide) hf dX6_areThree_79 hQ
          · replace hf := zI_f c_17 hf
            refine lv_iload_n hx hb dX6_areThree_57 rfl (lv_at hl 2 rfl) ?_
            refine lv_iload_n hx hb dX6_areThree_58 rfl (lv_at hl 1 rfl) ?_
            refine lv_icmp_eq (tgt := 78) hx hb dX6_areThree_59 (by decide) (fun c_18 => ?_) (fun c_18 => ?_)
            · replace hf := zI_t c_18 hf
              refine lv_iconst (v := (0 : Int32)) hx hb dX6_areThree_78 (by decide) ?_
              exact ze_z C0 hP hS (by decide) hf dX6_areThree_79 hQ
            · replace hf := zI_f c_18 hf
              refine lv_iload_n hx hb dX6_areThree_62 rfl (lv_at hl 2 rfl) ?_
              refine lv_iload hx hb dX6_areThree_63 (lv_at hl 0 rfl) ?_
              refine lv_icmp_eq (tgt := 78) hx hb dX6_areThree_65 (by decide) (fun c_19 => ?_) (fun c_19 => ?_)
              · replace hf := zI_t c_19 hf
                refine lv_iconst (v := (0 : Int32)) hx hb dX6_areThree_78 (by decide) ?_
                exact ze_z C0 hP hS (by decide) hf dX6_areThree_79 hQ
              · replace hf := zI_f c_19 hf
                refine lv_iload_n hx hb dX6_areThree_68 rfl (lv_at hl 1 rfl) ?_
                refine lv_iload hx hb dX6_areThree_69 (lv_at hl 0 rfl) ?_
                refine lv_icmp_eq (tgt := 78) hx hb dX6_areThree_71 (by decide) (fun c_20 => ?_) (fun c_20 => ?_)
                · replace hf := zI_t c_20 hf
                  refine lv_iconst (v := (0 : Int32)) hx hb dX6_areThree_78 (by decide) ?_
                  exact ze_z C0 hP hS (by decide) hf dX6_areThree_79 hQ
                · replace hf := zI_f c_20 hf
                  refine lv_iconst (v := (1 : Int32)) hx hb dX6_areThree_74 (by decide) ?_
                  refine lv_goto (tgt := 79) hx hb dX6_areThree_75 (by decide) ?_
                  exact ze_z C0 hP hS (by decide) hf dX6_areThree_79 hQ
    · replace hf := zI_f c_2 hf
      refine lv_iconst (v := (0 : Int32)) hx hb dX6_areThree_11 (by decide) ?_
      exact ze_z C0 hP hS (by decide) hf dX6_areThree_12 hQ
def fX6_isSheet (x0 : Int32) (M : zM) : Option (Int32 × zM) :=
  zB (fX6_within x0 (0 : Int32) (3 : Int32) M) fun r_3 M_1 =>
  zG (zbo r_3) <|
  some (r_3, M_1)
set_option maxHeartbeats 4000000 in
set_option maxRecDepth 100000 in
theorem mtX6_isSheet (l : Launch) (G : zGr) (hJ : zJ G 23) (x0 : Int32) (M : zM) (o : Int32 × zM) (hf : fX6_isSheet x0 M = some o) : zMi l G shM 23 yX6_isSheet cX6_isSheet 1 (some .boolean) 1 22 [.int x0] M o := by
  intro sz
  refine zOf (by decide) (Nat.le_of_ble_eq_true rfl) ?_
  intro p e R Q s m args below meth c hRm hsz hQ C0 hP hS ls hl
  subst hsz
  replace hRm : R = { frames := 1, cells := 0, slots := 0, locals := 22 } := hRm
  have hl : lv_has ls 1 [(0, .int x0)] := hl
  have hx := C0.1
  have hb := C0.2.1
  have hown := C0.2.2.2.1
  have hts := C0.2.2.2.2.1
  unfold fX6_isSheet at hf
  obtain ⟨H, eH⟩ : ∃ H, H = s.heap := ⟨_, rfl⟩
  obtain ⟨locs, el⟩ : ∃ locs : List Loc, locs = [] := ⟨_, rfl⟩
  rw [← eH] at hP ⊢
  have hS : va_S (zA G 23 s.heap.size) s.heap H locs := by rw [eH, el]; exact hS
  rw [← el]
  refine lv_iload_n hx hb dX6_isSheet_0 rfl (lv_at hl 0 rfl) ?_
  refine lv_iconst (v := (0 : Int32)) hx hb dX6_isSheet_1 (by decide) ?_
  refine lv_iconst (v := (3 : Int32)) hx hb dX6_isSheet_2 (by decide) ?_
  obtain ⟨r_3, M_1, hc_2, hf⟩ := zB_o hf
  refine zc_si (As := [.int x0, .int (0 : Int32), .int (3 : Int32)]) (rest := []) C0 hP hS hl.1 (mtX6_within l G hJ x0 (0 : Int32) (3 : Int32) M _ hc_2) ls_X6_88 ds_X6_within (by rw [hRm]; exact ⟨Nat.le_of_ble_eq_true rfl, Nat.le_of_ble_eq_true rfl⟩) rfl rfl (Nat.le_of_ble_eq_true rfl) dX6_isSheet_3 ⟨Nat.zero_le _, Nat.zero_le _⟩ (fun H locs hP hS => ?_)
  obtain ⟨hg_4, hf⟩ := zG_o hf
  exact ze_z C0 hP hS hg_4 hf dX6_isSheet_6 hQ
def fX6_isOf (x1 : Int32) (x2 : Int32) (M : zM) : Option (Int32 × zM) :=
  zB (fX6_within x1 (0 : Int32) (1 : Int32) M) fun r_3 M_1 =>
  if r_3 = (0 : Int32) then
    zB (fX6_within x1 (2 : Int32) (4 : Int32) M_1) fun r_7 M_5 =>
    if r_7 = (0 : Int32) then
      some ((0 : Int32), M_5)
    else
      zB (fX6_isOne x2 M_5) fun r_11 M_9 =>
      if r_11 = (0 : Int32) then
        some ((0 : Int32), M_9)
      else
        some ((1 : Int32), M_9)
  else
    some ((1 : Int32), M_1)
set_option maxHeartbeats 4000000 in
set_option maxRecDepth 100000 in
theorem mtX6_isOf (l : Launch) (G : zGr) (hJ : zJ G 23) (x1 : Int32) (x2 : Int32) (M : zM) (o : Int32 × zM) (hf : fX6_isOf x1 x2 M = some o) : zMi l G shM 23 yX6_isOf cX6_isOf 3 (some .boolean) 2 43 [.ref (G.2.2.1 0), .int x1, .int x2] M o := by
  intro sz
  refine zOf (by decide) (Nat.le_of_ble_eq_true rfl) ?_
  intro p e R Q s m args below meth c hRm hsz hQ C0 hP hS ls hl
  subst hsz
  replace hRm : R = { frames := 2, cells := 0, slots := 0, locals := 43 } := hRm
  have hl : lv_has ls 3 [(0, .ref (G.2.2.1 0)), (1, .int x1), (2, .int x2)] := hl
  have hx := C0.1
  have hb := C0.2.1
  have hown := C0.2.2.2.1
  have hts := C0.2.2.2.2.1
  unfold fX6_isOf at hf
  obtain ⟨H, eH⟩ : ∃ H, H = s.heap := ⟨_, rfl⟩
  obtain ⟨locs, el⟩ : ∃ locs : List Loc, locs = [] := ⟨_, rfl⟩
  rw [← eH] at hP ⊢
  have hS : va_S (zA G 23 s.heap.size) s.heap H locs := by rw [eH, el]; exact hS
  rw [← el]
  refine lv_iload_n hx hb dX6_isOf_0 rfl (lv_at hl 1 rfl) ?_
  refine lv_iconst (v := (0 : Int32)) hx hb dX6_isOf_1 (by decide) ?_
  refine lv_iconst (v := (1 : Int32)) hx hb dX6_isOf_2 (by decide) ?_
  obtain ⟨r_3, M_1, hc_2, hf⟩ := zB_o hf
  refine zc_si (As := [.int x1, .int (0 : Int32), .int (1 : Int32)]) (rest := []) C0 hP hS hl.1 (mtX6_within l G hJ x1 (0 : Int32) (1 : Int32) M _ hc_2) ls_X6_88 ds_X6_within (by rw [hRm]; exact ⟨Nat.le_of_ble_eq_true rfl, Nat.le_of_ble_eq_true rfl⟩) rfl rfl (Nat.le_of_ble_eq_true rfl) dX6_isOf_3 ⟨Nat.zero_le _, Nat.zero_le _⟩ (fun H locs hP hS => ?_)
  refine lv_if_ne (tgt := 26) hx hb dX6_isOf_6 (by decide) (fun c_4 => ?_) (fun c_4 => ?_)
  · replace hf := zI_f c_4 hf
    refine lv_iconst (v := (1 : Int32)) hx hb dX6_isOf_26 (by decide) ?_
    refine lv_goto (tgt := 31) hx hb dX6_isOf_27 (by decide) ?_
    exact ze_z C0 hP hS (by decide) hf dX6_isOf_31 hQ
  · replace hf := zI_t c_4 hf
    refine lv_iload_n hx hb dX6_isOf_9 rfl (lv_at hl 1 rfl) ?_
    refine lv_iconst (v := (2 : Int32)) hx hb dX6_isOf_10 (by decide) ?_
    refine lv_iconst (v := (4 : Int32)) hx hb dX6_isOf_11 (by decide) ?_
    obtain ⟨r_7, M_5, hc_6, hf⟩ := zB_o hf
    refine zc_si (As := [.int x1, .int (2 : Int32), .int (4 : Int32)]) (rest := []) C0 hP hS hl.1 (mtX6_within l G hJ x1 (2 : Int32) (4 : Int32) M_1 _ hc_6) ls_X6_88 ds_X6_within (by rw [hRm]; exact ⟨Nat.le_of_ble_eq_true rfl, Nat.le_of_ble_eq_true rfl⟩) rfl rfl (Nat.le_of_ble_eq_true rfl) dX6_isOf_12 ⟨Nat.zero_le _, Nat.zero_le _⟩ (fun H locs hP hS => ?_)
    refine lv_if_eq (tgt := 30) hx hb dX6_isOf_15 (by decide) (fun c_8 => ?_) (fun c_8 => ?_)
    · replace hf := zI_t c_8 hf
      refine lv_iconst (v := (0 : Int32)) hx hb dX6_isOf_30 (by decide) ?_
      exact ze_z C0 hP hS (by decide) hf dX6_isOf_31 hQ
    · replace hf := zI_f c_8 hf
      refine lv_aload_n hx hb dX6_isOf_18 rfl (lv_at hl 0 rfl) ?_
      refine lv_iload_n hx hb dX6_isOf_19 rfl (lv_at hl 2 rfl) ?_
      obtain ⟨r_11, M_9, hc_10, hf⟩ := zB_o hf
      refine zc_vi (As := [.int x2]) (rest := []) C0 hP hS hl.1 0 (mtX6_isOne l G hJ x2 M_5 _ hc_10) lk_X6_92 (by decide) shM_0 (T := TX6) (n' := 51) rfl ds_X6_isOne (by rw [hRm]; exact ⟨Nat.le_of_ble_eq_true rfl, Nat.le_of_ble_eq_true rfl⟩) rfl rfl (Nat.le_of_ble_eq_true rfl) dX6_isOf_20 ⟨Nat.zero_le _, Nat.zero_le _⟩ (fun H locs hP hS => ?_)
      refine lv_if_eq (tgt := 30) hx hb dX6_isOf_23 (by decide) (fun c_12 => ?_) (fun c_12 => ?_)
      · replace hf := zI_t c_12 hf
        refine lv_iconst (v := (0 : Int32)) hx hb dX6_isOf_30 (by decide) ?_
        exact ze_z C0 hP hS (by decide) hf dX6_isOf_31 hQ
      · replace hf := zI_f c_12 hf
        refine lv_iconst (v := (1 : Int32)) hx hb dX6_isOf_26 (by decide) ?_
        refine lv_goto (tgt := 31) hx hb dX6_isOf_27 (by decide) ?_
        exact ze_z C0 hP hS (by decide) hf dX6_isOf_31 hQ
def fX6_get (x1 : Int32) (x2 : Int32) (M : zM) : Option (Int32 × zM) :=
  if x1 = (0 : Int32) then
    some ((M.1 0 0), M)
  else
    if x1 = (1 : Int32) then
      some ((M.1 0 1), M)
    else
      if x1 = (2 : Int32) then
        zG (zin x2 5) <|
        some ((M.1 2 x2.toNatClampNeg), M)
      else
        if x1 = (3 : Int32) then
          zG (zin x2 5) <|
          some ((M.1 3 x2.toNatClampNeg), M)
        else
          zG (zin x2 5) <|
          some ((M.1 4 x2.toNatClampNeg), M)
set_option maxHeartbeats 4000000 in
set_option maxRecDepth 100000 in
theorem mtX6_get (l : Launch) (G : zGr) (hJ : zJ G 23) (x1 : Int32) (x2 : Int32) (M : zM) (o : Int32 × zM) (hf : fX6_get x1 x2 M = some o) : zMi l G shM 23 yX6_get cX6_get 3 (some .int) 0 0 [.ref (G.2.2.1 0), .int x1, .int x2] M o := by
  intro sz
  refine zOf (by decide) (Nat.le_of_ble_eq_true rfl) ?_
  intro p e R Q s m args below meth c hRm hsz hQ C0 hP hS ls hl
  subst hsz
  replace hRm : R = { frames := 0, cells := 0, slots := 0, locals := 0 } := hRm
  have hl : lv_has ls 3 [(0, .ref (G.2.2.1 0)), (1, .int x1), (2, .int x2)] := hl
  have hx := C0.1
  have hb := C0.2.1
  have hown := C0.2.2.2.1
  have hts := C0.2.2.2.2.1
  unfold fX6_get at hf
  obtain ⟨H, eH⟩ : ∃ H, H = s.heap := ⟨_, rfl⟩
  obtain ⟨locs, el⟩ : ∃ locs : List Loc, locs = [] := ⟨_, rfl⟩
  rw [← eH] at hP ⊢
  have hS : va_S (zA G 23 s.heap.size) s.heap H locs := by rw [eH, el]; exact hS
  rw [← el]
  refine lv_iload_n hx hb dX6_get_0 rfl (lv_at hl 1 rfl) ?_
  refine if c_1 : x1 = (0 : Int32) then ?_ else ?_
  · replace hf := zI_t c_1 hf
    refine lv_tableIn (tgt := 32) hx hb dX6_get_1 (by rw [c_1]; decide) (by rw [c_1]; decide) (off := 31) (by rw [c_1]; decide) (by decide) ?_
    refine lv_aload_n hx hb dX6_get_32 rfl (lv_at hl 0 rfl) ?_
    refine zr_get (C := RX6) (T := TX6) (n := 51) C0 hP 0 (by decide) shM_0 0 rfl (by decide) uw_X6 mw_400 rfl dX6_get_33 ?_
    exact ze_i C0 hP hS hf dX6_get_36 hQ
  · replace hf := zI_f c_1 hf
    refine if c_2 : x1 = (1 : Int32) then ?_ else ?_
    · replace hf := zI_t c_2 hf
      refine lv_tableIn (tgt := 37) hx hb dX6_get_1 (by rw [c_2]; decide) (by rw [c_2]; decide) (off := 36) (by rw [c_2]; decide) (by decide) ?_
      refine lv_aload_n hx hb dX6_get_37 rfl (lv_at hl 0 rfl) ?_
      refine zr_get (C := RX6) (T := TX6) (n := 51) C0 hP 0 (by decide) shM_0 1 rfl (by decide) uw_X6 mw_401 rfl dX6_get_38 ?_
      exact ze_i C0 hP hS hf dX6_get_41 hQ
    · replace hf := zI_f c_2 hf
      refine if c_3 : x1 = (2 : Int32) then ?_ else ?_
      · replace hf := zI_t c_3 hf
        refine lv_tableIn (tgt := 42) hx hb dX6_get_1 (by rw [c_3]; decide) (by rw [c_3]; decide) (off := 41) (by rw [c_3]; decide) (by decide) ?_
        refine lv_aload_n hx hb dX6_get_42 rfl (lv_at hl 0 rfl) ?_
        refine zr_getq (C := RX6) (T := TX6) (n := 51) C0 hP 0 (by decide) shM_0 4 2 rfl (by decide) uw_X6 mw_402 rfl dX6_get_43 ?_
        refine lv_iload_n hx hb dX6_get_46 rfl (lv_at hl 2 rfl) ?_
        obtain ⟨hg_4, hf⟩ := zG_o hf
        refine zr_iald C0 hP 2 (by decide) shM_2 hg_4 dX6_get_47 ?_
        exact ze_i C0 hP hS hf dX6_get_48 hQ
      · replace hf := zI_f c_3 hf
        refine if c_5 : x1 = (3 : Int32) then ?_ else ?_
        · replace hf := zI_t c_5 hf
          refine lv_tableIn (tgt := 49) hx hb dX6_get_1 (by rw [c_5]; decide) (by rw [c_5]; decide) (off := 48) (by rw [c_5]; decide) (by decide) ?_
          refine lv_aload_n hx hb dX6_get_49 rfl (lv_at hl 0 rfl) ?_
          refine zr_getq (C := RX6) (T := TX6) (n := 51) C0 hP 0 (by decide) shM_0 5 3 rfl (by decide) uw_X6 mw_403 rfl dX6_get_50 ?_
          refine lv_iload_n hx hb dX6_get_53 rfl (lv_at hl 2 rfl) ?_
          obtain ⟨hg_6, hf⟩ := zG_o hf
          refine zr_iald C0 hP 3 (by decide) shM_3 hg_6 dX6_get_54 ?_
          exact ze_i C0 hP hS hf dX6_get_55 hQ
        · replace hf := zI_f c_5 hf
          have tc_1 := lv_neT (a := 0) c_1 (by decide)
          have tc_2 := lv_neT (a := 1) c_2 (by decide)
          have tc_3 := lv_neT (a := 2) c_3 (by decide)
          have tc_5 := lv_neT (a := 3) c_5 (by decide)
          refine lv_tableOut (tgt := 56) hx hb dX6_get_1 (by omega) (by decide) ?_
          refine lv_aload_n hx hb dX6_get_56 rfl (lv_at hl 0 rfl) ?_
          refine zr_getq (C := RX6) (T := TX6) (n := 51) C0 hP 0 (by decide) shM_0 6 4 rfl (by decide) uw_X6 mw_404 rfl dX6_get_57 ?_
          refine lv_iload_n hx hb dX6_get_60 rfl (lv_at hl 2 rfl) ?_
          obtain ⟨hg_7, hf⟩ := zG_o hf
          refine zr_iald C0 hP 4 (by decide) shM_4 hg_7 dX6_get_61 ?_
          exact ze_i C0 hP hS hf dX6_get_62 hQ
def fX6_set_J29 (x1 : Int32) (x2 : Int32) (x3 : Int32) (v0 : Int32) (v1 : Int32) (v2 : Int32) (M : zM) : Option (Int32 × zM) :=
  zB (fX6_within v2 v1 v0 M) fun r_8 M_6 =>
  if r_8 = (0 : Int32) then
    some ((-2 : Int32), M_6)
  else
    zB (fX6_get x1 x2 M_6) fun r_12 M_10 =>
    if x1 = (0 : Int32) then
      zL (zu M_10 0 0 x3) fun M_14 =>
      some (r_12, M_14)
    else
      if x1 = (1 : Int32) then
        zL (zu M_10 0 1 x3) fun M_16 =>
        some (r_12, M_16)
      else
        if x1 = (2 : Int32) then
          zG (zin x2 5) <|
          zL (zu M_10 2 x2.toNatClampNeg x3) fun M_19 =>
          some (r_12, M_19)
        else
          if x1 = (3 : Int32) then
            zG (zin x2 5) <|
            zL (zu M_10 3 x2.toNatClampNeg x3) fun M_22 =>
            some (r_12, M_22)
          else
            zG (zin x2 5) <|
            zL (zu M_10 4 x2.toNatClampNeg x3) fun M_24 =>
            some (r_12, M_24)
def fX6_set (x1 : Int32) (x2 : Int32) (x3 : Int32) (M : zM) : Option (Int32 × zM) :=
  zB (fX6_isOf x1 x2 M) fun r_3 M_1 =>
  if r_3 = (0 : Int32) then
    some ((-2 : Int32), M_1)
  else
    if x1 = (1 : Int32) then
      fX6_set_J29 x1 x2 x3 (9 : Int32) (0 : Int32) x3 M_1
    else
      if x1 = (2 : Int32) then
        fX6_set_J29 x1 x2 x3 (9 : Int32) (0 : Int32) x3 M_1
      else
        fX6_set_J29 x1 x2 x3 (999 : Int32) (0 : Int32) x3 M_1
set_option maxHeartbeats 4000000 in
set_option maxRecDepth 100000 in
theorem mtX6_set (l : Launch) (G : zGr) (hJ : zJ G 23) (x1 : Int32) (x2 : Int32) (x3 : Int32) (M : zM) (o : Int32 × zM) (hf : fX6_set x1 x2 x3 M = some o) : zMi l G shM 23 yX6_set cX6_set 5 (some .int) 3 65 [.ref (G.2.2.1 0), .int x1, .int x2, .int x3] M o := by
  intro sz
  refine zOf (by decide) (Nat.le_of_ble_eq_true rfl) ?_
  intro p e R Q s m args below meth c hRm hsz hQ C0 hP hS ls hl
  subst hsz
  replace hRm : R = { frames := 3, cells := 0, slots := 0, locals := 65 } := hRm
  have hl : lv_has ls 5 [(0, .ref (G.2.2.1 0)), (1, .int x1), (2, .int x2), (3, .int x3)] := hl
  have hx := C0.1
  have hb := C0.2.1
  have hown := C0.2.2.2.1
  have hts := C0.2.2.2.2.1
  have J29 : ∀ (x1 : Int32) (x2 : Int32) (x3 : Int32) (v0 : Int32) (v1 : Int32) (v2 : Int32) (M : zM) (H : Heap) (locs : List Loc) (ls : Array Slot), lv_has ls 5 [(0, .ref (G.2.2.1 0)), (1, .int x1), (2, .int x2), (3, .int x3)] → va_P G.1 zcl (zw G shM 23 M) H → va_S (zA G 23 s.heap.size) s.heap H locs → fX6_set_J29 x1 x2 x3 v0 v1 v2 M = some o → W p l e R s m args below meth c H locs 0 0 Q (F0 m 29 ls [.int v0, .int v1, .int v2]) := by
    intro x1 x2 x3 v0 v1 v2 M H locs ls hl hP hS hf
    unfold fX6_set_J29 at hf
    obtain ⟨r_8, M_6, hc_7, hf⟩ := zB_o hf
    refine zc_si (As := [.int v2, .int v1, .int v0]) (rest := []) C0 hP hS hl.1 (mtX6_within l G hJ v2 v1 v0 M _ hc_7) ls_X6_88 ds_X6_within (by rw [hRm]; exact ⟨Nat.le_of_ble_eq_true rfl, Nat.le_of_ble_eq_true rfl⟩) rfl rfl (Nat.le_of_ble_eq_true rfl) dX6_set_29 ⟨Nat.zero_le _, Nat.zero_le _⟩ (fun H locs hP hS => ?_)
    refine lv_if_ne (tgt := 38) hx hb dX6_set_32 (by decide) (fun c_9 => ?_) (fun c_9 => ?_)
    · replace hf := zI_f c_9 hf
      refine lv_aload_n hx hb dX6_set_38 rfl (lv_at hl 0 rfl) ?_
      refine lv_iload_n hx hb dX6_set_39 rfl (lv_at hl 1 rfl) ?_
      refine lv_iload_n hx hb dX6_set_40 rfl (lv_at hl 2 rfl) ?_
      obtain ⟨r_12, M_10, hc_11, hf⟩ := zB_o hf
      refine zc_vi (As := [.int x1, .int x2]) (rest := []) C0 hP hS hl.1 0 (mtX6_get l G hJ x1 x2 M_6 _ hc_11) lk_X6_106 (by decide) shM_0 (T := TX6) (n' := 51) rfl ds_X6_get (by rw [hRm]; exact ⟨Nat.le_of_ble_eq_true rfl, Nat.le_of_ble_eq_true rfl⟩) rfl rfl (Nat.le_of_ble_eq_true rfl) dX6_set_41 ⟨Nat.zero_le _, Nat.zero_le _⟩ (fun H locs hP hS => ?_)
      refine lv_istore (lv' := [(4, .int r_12), (0, .ref (G.2.2.1 0)), (1, .int x1), (2, .int x2), (3, .int x3)]) hx hb dX6_set_44 hl (by decide) rfl (fun ls hl => ?_)
      refine lv_iload_n hx hb dX6_set_46 rfl (lv_at hl 2 rfl) ?_
      refine if c_13 : x1 = (0 : Int32) then ?_ else ?_
      · replace hf := zI_t c_13 hf
        refine lv_tableIn (tgt := 76) hx hb dX6_set_47 (by rw [c_13]; decide) (by rw [c_13]; decide) (off := 29) (by rw [c_13]; decide) (by decide) ?_
        refine lv_aload_n hx hb dX6_set_76 rfl (lv_at hl 1 rfl) ?_
        refine lv_iload_n hx hb dX6_set_77 rfl (lv_at hl 4 rfl) ?_
        refine zr_put (C := RX6) (T := TX6) (n := 51) C0 hJ hP hS 0 (by decide) shM_0 0 rfl (by decide) uw_X6 tyX6 tyX6_ok nmX6 mw_400 rfl rfl ⟨rfl, rfl⟩ dX6_set_78 (fun H locs hP hS => ?_)
        obtain ⟨M_14, eM_14, hf⟩ := zL_o hf
        have hP : va_P G.1 zcl (zw G shM 23 M_14) H := by rw [eM_14]; exact hP
        refine lv_goto (tgt := 119) hx hb dX6_set_81 (by decide) ?_
        refine lv_iload hx hb dX6_set_119 (lv_at hl 0 rfl) ?_
        exact ze_i C0 hP hS hf dX6_set_121 hQ
      · replace hf := zI_f c_13 hf
        refine if c_15 : x1 = (1 : Int32) then ?_ else ?_
        · replace hf := zI_t c_15 hf
          refine lv_tableIn (tgt := 84) hx hb dX6_set_47 (by rw [c_15]; decide) (by rw [c_15]; decide) (off := 37) (by rw [c_15]; decide) (by decide) ?_
          refine lv_aload_n hx hb dX6_set_84 rfl (lv_at hl 1 rfl) ?_
          refine lv_iload_n hx hb dX6_set_85 rfl (lv_at hl 4 rfl) ?_
          refine zr_put (C := RX6) (T := TX6) (n := 51) C0 hJ hP hS 0 (by decide) shM_0 1 rfl (by decide) uw_X6 tyX6 tyX6_ok nmX6 mw_401 rfl rfl ⟨rfl, rfl⟩ dX6_set_86 (fun H locs hP hS => ?_)
          obtain ⟨M_16, eM_16, hf⟩ := zL_o hf
          have hP : va_P G.1 zcl (zw G shM 23 M_16) H := by rw [eM_16]; exact hP
          refine lv_goto (tgt := 119) hx hb dX6_set_89 (by decide) ?_
          refine lv_iload hx hb dX6_set_119 (lv_at hl 0 rfl) ?_
          exact ze_i C0 hP hS hf dX6_set_121 hQ
        · replace hf := zI_f c_15 hf
          refine if c_17 : x1 = (2 : Int32) then ?_ else ?_
          · replace hf := zI_t c_17 hf
            refine lv_tableIn (tgt := 92) hx hb dX6_set_47 (by rw [c_17]; decide) (by rw [c_17]; decide) (off := 45) (by rw [c_17]; decide) (by decide) ?_
            refine lv_aload_n hx hb dX6_set_92 rfl (lv_at hl 1 rfl) ?_
            refine zr_getq (C := RX6) (T := TX6) (n := 51) C0 hP 0 (by decide) shM_0 4 2 rfl (by decide) uw_X6 mw_402 rfl dX6_set_93 ?_
            refine lv_iload_n hx hb dX6_set_96 rfl (lv_at hl 3 rfl) ?_
            refine lv_iload_n hx hb dX6_set_97 rfl (lv_at hl 4 rfl) ?_
            obtain ⟨hg_18, hf⟩ := zG_o hf
            refine zr_iast C0 hJ hP hS 2 (by decide) shM_2 hg_18 dX6_set_98 (fun H locs hP hS => ?_)
            obtain ⟨M_19, eM_19, hf⟩ := zL_o hf
            have hP : va_P G.1 zcl (zw G shM 23 M_19) H := by rw [eM_19]; exact hP
            refine lv_goto (tgt := 119) hx hb dX6_set_99 (by decide) ?_
            refine lv_iload hx hb dX6_set_119 (lv_at hl 0 rfl) ?_
            exact ze_i C0 hP hS hf dX6_set_121 hQ
          · replace hf := zI_f c_17 hf
            refine if c_20 : x1 = (3 : Int32) then ?_ else ?_
            · replace hf := zI_t c_20 hf
              refine lv_tableIn (tgt := 102) hx hb dX6_set_47 (by rw [c_20]; decide) (by rw [c_20]; decide) (off := 55) (by rw [c_20]; decide) (by decide) ?_
              refine lv_aload_n hx hb dX6_set_102 rfl (lv_at hl 1 rfl) ?_
              refine zr_getq (C := RX6) (T := TX6) (n := 51) C0 hP 0 (by decide) shM_0 5 3 rfl (by decide) uw_X6 mw_403 rfl dX6_set_103 ?_
              refine lv_iload_n hx hb dX6_set_106 rfl (lv_at hl 3 rfl) ?_
              refine lv_iload_n hx hb dX6_set_107 rfl (lv_at hl 4 rfl) ?_
              obtain ⟨hg_21, hf⟩ := zG_o hf
              refine zr_iast C0 hJ hP hS 3 (by decide) shM_3 hg_21 dX6_set_108 (fun H locs hP hS => ?_)
              obtain ⟨M_22, eM_22, hf⟩ := zL_o hf
              have hP : va_P G.1 zcl (zw G shM 23 M_22) H := by rw [eM_22]; exact hP
              refine lv_goto (tgt := 119) hx hb dX6_set_109 (by decide) ?_
              refine lv_iload hx hb dX6_set_119 (lv_at hl 0 rfl) ?_
              exact ze_i C0 hP hS hf dX6_set_121 hQ
            · replace hf := zI_f c_20 hf
              have tc_13 := lv_neT (a := 0) c_13 (by decide)
              have tc_15 := lv_neT (a := 1) c_15 (by decide)
              have tc_17 := lv_neT (a := 2) c_17 (by decide)
              have tc_20 := lv_neT (a := 3) c_20 (by decide)
              refine lv_tableOut (tgt := 112) hx hb dX6_set_47 (by omega) (by decide) ?_
              refine lv_aload_n hx hb dX6_set_112 rfl (lv_at hl 1 rfl) ?_
              refine zr_getq (C := RX6) (T := TX6) (n := 51) C0 hP 0 (by decide) shM_0 6 4 rfl (by decide) uw_X6 mw_404 rfl dX6_set_113 ?_
              refine lv_iload_n hx hb dX6_set_116 rfl (lv_at hl 3 rfl) ?_
              refine lv_iload_n hx hb dX6_set_117 rfl (lv_at hl 4 rfl) ?_
              obtain ⟨hg_23, hf⟩ := zG_o hf
              refine zr_iast C0 hJ hP hS 4 (by decide) shM_4 hg_23 dX6_set_118 (fun H locs hP hS => ?_)
              obtain ⟨M_24, eM_24, hf⟩ := zL_o hf
              have hP : va_P G.1 zcl (zw G shM 23 M_24) H := by rw [eM_24]; exact hP
              refine lv_iload hx hb dX6_set_119 (lv_at hl 0 rfl) ?_
              exact ze_i C0 hP hS hf dX6_set_121 hQ
    · replace hf := zI_t c_9 hf
      refine lv_bipush (v := (-2 : Int32)) hx hb dX6_set_35 (by decide) ?_
      exact ze_i C0 hP hS hf dX6_set_37 hQ
  unfold fX6_set at hf
  obtain ⟨H, eH⟩ : ∃ H, H = s.heap := ⟨_, rfl⟩
  obtain ⟨locs, el⟩ : ∃ locs : List Loc, locs = [] := ⟨_, rfl⟩
  rw [← eH] at hP ⊢
  have hS : va_S (zA G 23 s.heap.size) s.heap H locs := by rw [eH, el]; exact hS
  rw [← el]
  refine lv_aload_n hx hb dX6_set_0 rfl (lv_at hl 0 rfl) ?_
  refine lv_iload_n hx hb dX6_set_1 rfl (lv_at hl 1 rfl) ?_
  refine lv_iload_n hx hb dX6_set_2 rfl (lv_at hl 2 rfl) ?_
  obtain ⟨r_3, M_1, hc_2, hf⟩ := zB_o hf
  refine zc_vi (As := [.int x1, .int x2]) (rest := []) C0 hP hS hl.1 0 (mtX6_isOf l G hJ x1 x2 M _ hc_2) lk_X6_102 (by decide) shM_0 (T := TX6) (n' := 51) rfl ds_X6_isOf (by rw [hRm]; exact ⟨Nat.le_of_ble_eq_true rfl, Nat.le_of_ble_eq_true rfl⟩) rfl rfl (Nat.le_of_ble_eq_true rfl) dX6_set_3 ⟨Nat.zero_le _, Nat.zero_le _⟩ (fun H locs hP hS => ?_)
  refine lv_if_eq (tgt := 35) hx hb dX6_set_6 (by decide) (fun c_4 => ?_) (fun c_4 => ?_)
  · replace hf := zI_t c_4 hf
    refine lv_bipush (v := (-2 : Int32)) hx hb dX6_set_35 (by decide) ?_
    exact ze_i C0 hP hS hf dX6_set_37 hQ
  · replace hf := zI_f c_4 hf
    refine lv_iload_n hx hb dX6_set_9 rfl (lv_at hl 3 rfl) ?_
    refine lv_iconst (v := (0 : Int32)) hx hb dX6_set_10 (by decide) ?_
    refine lv_iload_n hx hb dX6_set_11 rfl (lv_at hl 1 rfl) ?_
    refine lv_iconst (v := (1 : Int32)) hx hb dX6_set_12 (by decide) ?_
    refine lv_icmp_eq (tgt := 21) hx hb dX6_set_13 (by decide) (fun c_5 => ?_) (fun c_5 => ?_)
    · replace hf := zI_t c_5 hf
      refine lv_bipush (v := (9 : Int32)) hx hb dX6_set_21 (by decide) ?_
      refine lv_goto (tgt := 29) hx hb dX6_set_23 (by decide) ?_
      exact J29 x1 x2 x3 (9 : Int32) (0 : Int32) x3 M_1 H locs ls (lv_sub hl [0, 1, 2, 3] rfl) hP hS hf
    · replace hf := zI_f c_5 hf
      refine lv_iload_n hx hb dX6_set_16 rfl (lv_at hl 1 rfl) ?_
      refine lv_iconst (v := (2 : Int32)) hx hb dX6_set_17 (by decide) ?_
      refine lv_icmp_ne (tgt := 26) hx hb dX6_set_18 (by decide) (fun c_25 => ?_) (fun c_25 => ?_)
      · replace hf := zI_f c_25 hf
        refine lv_sipush (v := (999 : Int32)) hx hb dX6_set_26 (by decide) ?_
        exact J29 x1 x2 x3 (999 : Int32) (0 : Int32) x3 M_1 H locs ls (lv_sub hl [0, 1, 2, 3] rfl) hP hS hf
      · replace hf := zI_t c_25 hf
        refine lv_bipush (v := (9 : Int32)) hx hb dX6_set_21 (by decide) ?_
        refine lv_goto (tgt := 29) hx hb dX6_set_23 (by decide) ?_
        exact J29 x1 x2 x3 (9 : Int32) (0 : Int32) x3 M_1 H locs ls (lv_sub hl [0, 1, 2, 3] rfl) hP hS hf
def fX6_person (x1 : Int32) (x2 : Int32) (x3 : Int32) (M : zM) : Option (Int32 × zM) :=
  zB (fX6_within x1 (0 : Int32) (5 : Int32) M) fun r_3 M_1 =>
  if r_3 = (0 : Int32) then
    some ((-2 : Int32), M_1)
  else
    zB (fX6_within x2 (0 : Int32) (9 : Int32) M_1) fun r_7 M_5 =>
    if r_7 = (0 : Int32) then
      some ((-2 : Int32), M_5)
    else
      zB (fX6_within x3 (0 : Int32) (999 : Int32) M_5) fun r_11 M_9 =>
      if r_11 = (0 : Int32) then
        some ((-2 : Int32), M_9)
      else
        if (M_9.1 0 2) = (5 : Int32) then
          some ((-4 : Int32), M_9)
        else
          zG (zin (M_9.1 0 2) 5) <|
          zL (zu M_9 1 (M_9.1 0 2).toNatClampNeg x1) fun M_15 =>
          zG (zin (M_15.1 0 2) 5) <|
          zL (zu M_15 2 (M_15.1 0 2).toNatClampNeg x2) fun M_17 =>
          zG (zin (M_17.1 0 2) 5) <|
          zL (zu M_17 3 (M_17.1 0 2).toNatClampNeg x3) fun M_19 =>
          zG (zin (M_19.1 0 2) 5) <|
          zL (zu M_19 4 (M_19.1 0 2).toNatClampNeg (0 : Int32)) fun M_21 =>
          zL (zu M_21 0 2 ((M_21.1 0 2) + (1 : Int32))) fun M_22 =>
          some ((M_21.1 0 2), M_22)
set_option maxHeartbeats 4000000 in
set_option maxRecDepth 100000 in
theorem mtX6_person (l : Launch) (G : zGr) (hJ : zJ G 23) (x1 : Int32) (x2 : Int32) (x3 : Int32) (M : zM) (o : Int32 × zM) (hf : fX6_person x1 x2 x3 M = some o) : zMi l G shM 23 yX6_person cX6_person 4 (some .int) 1 22 [.ref (G.2.2.1 0), .int x1, .int x2, .int x3] M o := by
  intro sz
  refine zOf (by decide) (Nat.le_of_ble_eq_true rfl) ?_
  intro p e R Q s m args below meth c hRm hsz hQ C0 hP hS ls hl
  subst hsz
  replace hRm : R = { frames := 1, cells := 0, slots := 0, locals := 22 } := hRm
  have hl : lv_has ls 4 [(0, .ref (G.2.2.1 0)), (1, .int x1), (2, .int x2), (3, .int x3)] := hl
  have hx := C0.1
  have hb := C0.2.1
  have hown := C0.2.2.2.1
  have hts := C0.2.2.2.2.1
  unfold fX6_person at hf
  obtain ⟨H, eH⟩ : ∃ H, H = s.heap := ⟨_, rfl⟩
  obtain ⟨locs, el⟩ : ∃ locs : List Loc, locs = [] := ⟨_, rfl⟩
  rw [← eH] at hP ⊢
  have hS : va_S (zA G 23 s.heap.size) s.heap H locs := by rw [eH, el]; exact hS
  rw [← el]
  refine lv_iload_n hx hb dX6_person_0 rfl (lv_at hl 1 rfl) ?_
  refine lv_iconst (v := (0 : Int32)) hx hb dX6_person_1 (by decide) ?_
  refine lv_iconst (v := (5 : Int32)) hx hb dX6_person_2 (by decide) ?_
  obtain ⟨r_3, M_1, hc_2, hf⟩ := zB_o hf
  refine zc_si (As := [.int x1, .int (0 : Int32), .int (5 : Int32)]) (rest := []) C0 hP hS hl.1 (mtX6_within l G hJ x1 (0 : Int32) (5 : Int32) M _ hc_2) ls_X6_88 ds_X6_within (by rw [hRm]; exact ⟨Nat.le_of_ble_eq_true rfl, Nat.le_of_ble_eq_true rfl⟩) rfl rfl (Nat.le_of_ble_eq_true rfl) dX6_person_3 ⟨Nat.zero_le _, Nat.zero_le _⟩ (fun H locs hP hS => ?_)
  refine lv_if_eq (tgt := 30) hx hb dX6_person_6 (by decide) (fun c_4 => ?_) (fun c_4 => ?_)
  · replace hf := zI_t c_4 hf
    refine lv_bipush (v := (-2 : Int32)) hx hb dX6_person_30 (by decide) ?_
    exact ze_i C0 hP hS hf dX6_person_32 hQ
  · replace hf := zI_f c_4 hf
    refine lv_iload_n hx hb dX6_person_9 rfl (lv_at hl 2 rfl) ?_
    refine lv_iconst (v := (0 : Int32)) hx hb dX6_person_10 (by decide) ?_
    refine lv_bipush (v := (9 : Int32)) hx hb dX6_person_11 (by decide) ?_
    obtain ⟨r_7, M_5, hc_6, hf⟩ := zB_o hf
    refine zc_si (As := [.int x2, .int (0 : Int32), .int (9 : Int32)]) (rest := []) C0 hP hS hl.1 (mtX6_within l G hJ x2 (0 : Int32) (9 : Int32) M_1 _ hc_6) ls_X6_88 ds_X6_within (by rw [hRm]; exact ⟨Nat.le_of_ble_eq_true rfl, Nat.le_of_ble_eq_true rfl⟩) rfl rfl (Nat.le_of_ble_eq_true rfl) dX6_person_13 ⟨Nat.zero_le _, Nat.zero_le _⟩ (fun H locs hP hS => ?_)
    refine lv_if_eq (tgt := 30) hx hb dX6_person_16 (by decide) (fun c_8 => ?_) (fun c_8 => ?_)
    · replace hf := zI_t c_8 hf
      refine lv_bipush (v := (-2 : Int32)) hx hb dX6_person_30 (by decide) ?_
      exact ze_i C0 hP hS hf dX6_person_32 hQ
    · replace hf := zI_f c_8 hf
      refine lv_iload_n hx hb dX6_person_19 rfl (lv_at hl 3 rfl) ?_
      refine lv_iconst (v := (0 : Int32)) hx hb dX6_person_20 (by decide) ?_
      refine lv_sipush (v := (999 : Int32)) hx hb dX6_person_21 (by decide) ?_
      obtain ⟨r_11, M_9, hc_10, hf⟩ := zB_o hf
      refine zc_si (As := [.int x3, .int (0 : Int32), .int (999 : Int32)]) (rest := []) C0 hP hS hl.1 (mtX6_within l G hJ x3 (0 : Int32) (999 : Int32) M_5 _ hc_10) ls_X6_88 ds_X6_within (by rw [hRm]; exact ⟨Nat.le_of_ble_eq_true rfl, Nat.le_of_ble_eq_true rfl⟩) rfl rfl (Nat.le_of_ble_eq_true rfl) dX6_person_24 ⟨Nat.zero_le _, Nat.zero_le _⟩ (fun H locs hP hS => ?_)
      refine lv_if_ne (tgt := 33) hx hb dX6_person_27 (by decide) (fun c_12 => ?_) (fun c_12 => ?_)
      · replace hf := zI_f c_12 hf
        refine lv_aload_n hx hb dX6_person_33 rfl (lv_at hl 0 rfl) ?_
        refine zr_get (C := RX6) (T := TX6) (n := 51) C0 hP 0 (by decide) shM_0 2 rfl (by decide) uw_X6 mw_391 rfl dX6_person_34 ?_
        refine lv_iconst (v := (5 : Int32)) hx hb dX6_person_37 (by decide) ?_
        refine lv_icmp_ne (tgt := 44) hx hb dX6_person_38 (by decide) (fun c_13 => ?_) (fun c_13 => ?_)
        · replace hf := zI_f c_13 hf
          refine lv_aload_n hx hb dX6_person_44 rfl (lv_at hl 0 rfl) ?_
          refine zr_getq (C := RX6) (T := TX6) (n := 51) C0 hP 0 (by decide) shM_0 3 1 rfl (by decide) uw_X6 mw_413 rfl dX6_person_45 ?_
          refine lv_aload_n hx hb dX6_person_48 rfl (lv_at hl 0 rfl) ?_
          refine zr_get (C := RX6) (T := TX6) (n := 51) C0 hP 0 (by decide) shM_0 2 rfl (by decide) uw_X6 mw_391 rfl dX6_person_49 ?_
          refine lv_iload_n hx hb dX6_person_52 rfl (lv_at hl 1 rfl) ?_
          obtain ⟨hg_14, hf⟩ := zG_o hf
          refine zr_iast C0 hJ hP hS 1 (by decide) shM_1 hg_14 dX6_person_53 (fun H locs hP hS => ?_)
          obtain ⟨M_15, eM_15, hf⟩ := zL_o hf
          have hP : va_P G.1 zcl (zw G shM 23 M_15) H := by rw [eM_15]; exact hP
          refine lv_aload_n hx hb dX6_person_54 rfl (lv_at hl 0 rfl) ?_
          refine zr_getq (C := RX6) (T := TX6) (n := 51) C0 hP 0 (by decide) shM_0 4 2 rfl (by decide) uw_X6 mw_402 rfl dX6_person_55 ?_
          refine lv_aload_n hx hb dX6_person_58 rfl (lv_at hl 0 rfl) ?_
          refine zr_get (C := RX6) (T := TX6) (n := 51) C0 hP 0 (by decide) shM_0 2 rfl (by decide) uw_X6 mw_391 rfl dX6_person_59 ?_
          refine lv_iload_n hx hb dX6_person_62 rfl (lv_at hl 2 rfl) ?_
          obtain ⟨hg_16, hf⟩ := zG_o hf
          refine zr_iast C0 hJ hP hS 2 (by decide) shM_2 hg_16 dX6_person_63 (fun H locs hP hS => ?_)
          obtain ⟨M_17, eM_17, hf⟩ := zL_o hf
          have hP : va_P G.1 zcl (zw G shM 23 M_17) H := by rw [eM_17]; exact hP
          refine lv_aload_n hx hb dX6_person_64 rfl (lv_at hl 0 rfl) ?_
          refine zr_getq (C := RX6) (T := TX6) (n := 51) C0 hP 0 (by decide) shM_0 5 3 rfl (by decide) uw_X6 mw_403 rfl dX6_person_65 ?_
          refine lv_aload_n hx hb dX6_person_68 rfl (lv_at hl 0 rfl) ?_
          refine zr_get (C := RX6) (T := TX6) (n := 51) C0 hP 0 (by decide) shM_0 2 rfl (by decide) uw_X6 mw_391 rfl dX6_person_69 ?_
          refine lv_iload_n hx hb dX6_person_72 rfl (lv_at hl 3 rfl) ?_
          obtain ⟨hg_18, hf⟩ := zG_o hf
          refine zr_iast C0 hJ hP hS 3 (by decide) shM_3 hg_18 dX6_person_73 (fun H locs hP hS => ?_)
          obtain ⟨M_19, eM_19, hf⟩ := zL_o hf
          have hP : va_P G.1 zcl (zw G shM 23 M_19) H := by rw [eM_19]; exact hP
          refine lv_aload_n hx hb dX6_person_74 rfl (lv_at hl 0 rfl) ?_
          refine zr_getq (C := RX6) (T := TX6) (n := 51) C0 hP 0 (by decide) shM_0 6 4 rfl (by decide) uw_X6 mw_404 rfl dX6_person_75 ?_
          refine lv_aload_n hx hb dX6_person_78 rfl (lv_at hl 0 rfl) ?_
          refine zr_get (C := RX6) (T := TX6) (n := 51) C0 hP 0 (by decide) shM_0 2 rfl (by decide) uw_X6 mw_391 rfl dX6_person_79 ?_
          refine lv_iconst (v := (0 : Int32)) hx hb dX6_person_82 (by decide) ?_
          obtain ⟨hg_20, hf⟩ := zG_o hf
          refine zr_iast C0 hJ hP hS 4 (by decide) shM_4 hg_20 dX6_person_83 (fun H locs hP hS => ?_)
          obtain ⟨M_21, eM_21, hf⟩ := zL_o hf
          have hP : va_P G.1 zcl (zw G shM 23 M_21) H := by rw [eM_21]; exact hP
          refine lv_aload_n hx hb dX6_person_84 rfl (lv_at hl 0 rfl) ?_
          refine lv_dup hx hb dX6_person_85 rfl ?_
          refine zr_get (C := RX6) (T := TX6) (n := 51) C0 hP 0 (by decide) shM_0 2 rfl (by decide) uw_X6 mw_391 rfl dX6_person_86 ?_
          refine lv_dup_x1 hx hb dX6_person_89 rfl rfl ?_
          refine lv_iconst (v := (1 : Int32)) hx hb dX6_person_90 (by decide) ?_
          refine lv_iadd hx hb dX6_person_91 ?_
          refine zr_put (C := RX6) (T := TX6) (n := 51) C0 hJ hP hS 0 (by decide) shM_0 2 rfl (by decide) uw_X6 tyX6 tyX6_ok nmX6 mw_391 rfl rfl ⟨rfl, rfl⟩ dX6_person_92 (fun H locs hP hS => ?_)
          obtain ⟨M_22, eM_22, hf⟩ := zL_o hf
          have hP : va_P G.1 zcl (zw G shM 23 M_22) H := by rw [eM_22]; exact hP
          exact ze_i C0 hP hS hf dX6_person_95 hQ
        · replace hf := zI_t c_13 hf
          refine lv_bipush (v := (-4 : Int32)) hx hb dX6_person_41 (by decide) ?_
          exact ze_i C0 hP hS hf dX6_person_43 hQ
      · replace hf := zI_t c_12 hf
        refine lv_bipush (v := (-2 : Int32)) hx hb dX6_person_30 (by decide) ?_
        exact ze_i C0 hP hS hf dX6_person_32 hQ
def fX6_mostRue_B4 (r4 : Int32 → Int32 → zM → Option (Int32 × zM)) (x1 : Int32) (x2 : Int32) (M : zM) : Option (Int32 × zM) :=
  if (M.1 0 2) ≤ x2 then
    some (x1, M)
  else
    zG (zin x2 5) <|
    if (M.1 3 x2.toNatClampNeg) ≤ x1 then
      zL (x2 + (1 : Int32)) fun x2_4 =>
      r4 x1 x2_4 M
    else
      zG (zin x2 5) <|
      zL (M.1 3 x2.toNatClampNeg) fun x1_6 =>
      zL (x2 + (1 : Int32)) fun x2_7 =>
      r4 x1_6 x2_7 M
def fX6_mostRue_L4 : Nat → Int32 → Int32 → zM → Option (Int32 × zM)
  | 0 => fun _ _ _ => none
  | j9 + 1 => fX6_mostRue_B4 (fX6_mostRue_L4 j9)
def fX6_mostRue (M : zM) : Option (Int32 × zM) :=
  fX6_mostRue_L4 zF (0 : Int32) (0 : Int32) M
set_option maxHeartbeats 4000000 in
set_option maxRecDepth 100000 in
theorem mtX6_mostRue (l : Launch) (G : zGr) (hJ : zJ G 23) (M : zM) (o : Int32 × zM) (hf : fX6_mostRue M = some o) : zMi l G shM 23 yX6_mostRue cX6_mostRue 3 (some .int) 0 0 [.ref (G.2.2.1 0)] M o := by
  intro sz
  refine zOf (by decide) (Nat.le_of_ble_eq_true rfl) ?_
  intro p e R Q s m args below meth c hRm hsz hQ C0 hP hS ls hl
  subst hsz
  replace hRm : R = { frames := 0, cells := 0, slots := 0, locals := 0 } := hRm
  have hl : lv_has ls 3 [(0, .ref (G.2.2.1 0))] := hl
  have hx := C0.1
  have hb := C0.2.1
  have hown := C0.2.2.2.1
  have hts := C0.2.2.2.2.1
  have L4 : ∀ (n4 : Nat), ∀ (x1 : Int32) (x2 : Int32) (M : zM) (H : Heap) (locs : List Loc) (ls : Array Slot), lv_has ls 3 [(0, .ref (G.2.2.1 0)), (1, .int x1), (2, .int x2)] → va_P G.1 zcl (zw G shM 23 M) H → va_S (zA G 23 s.heap.size) s.heap H locs → fX6_mostRue_L4 n4 x1 x2 M = some o → W p l e R s m args below meth c H locs 0 0 Q (F0 m 4 ls []) := by
    intro n4
    induction n4 with
    | zero => intro x1 x2 M H locs ls hl hP hS hf; exact zn_s (show none = some o from hf)
    | succ n4 ih4 =>
      intro x1 x2 M H locs ls hl hP hS hf
      replace hf : fX6_mostRue_B4 (fX6_mostRue_L4 n4) x1 x2 M = some o := hf
      unfold fX6_mostRue_B4 at hf
      refine lv_iload_n hx hb dX6_mostRue_4 rfl (lv_at hl 2 rfl) ?_
      refine lv_aload_n hx hb dX6_mostRue_5 rfl (lv_at hl 0 rfl) ?_
      refine zr_get (C := RX6) (T := TX6) (n := 51) C0 hP 0 (by decide) shM_0 2 rfl (by decide) uw_X6 mw_391 rfl dX6_mostRue_6 ?_
      refine lv_icmp_ge (tgt := 35) hx hb dX6_mostRue_9 (by decide) (fun c_1 => ?_) (fun c_1 => ?_)
      · replace hf := zI_t c_1 hf
        refine lv_iload_n hx hb dX6_mostRue_35 rfl (lv_at hl 1 rfl) ?_
        exact ze_i C0 hP hS hf dX6_mostRue_36 hQ
      · replace hf := zI_f c_1 hf
        refine lv_aload_n hx hb dX6_mostRue_12 rfl (lv_at hl 0 rfl) ?_
        refine zr_getq (C := RX6) (T := TX6) (n := 51) C0 hP 0 (by decide) shM_0 5 3 rfl (by decide) uw_X6 mw_403 rfl dX6_mostRue_13 ?_
        refine lv_iload_n hx hb dX6_mostRue_16 rfl (lv_at hl 2 rfl) ?_
        obtain ⟨hg_2, hf⟩ := zG_o hf
        refine zr_iald C0 hP 3 (by decide) shM_3 hg_2 dX6_mostRue_17 ?_
        refine lv_iload_n hx hb dX6_mostRue_18 rfl (lv_at hl 1 rfl) ?_
        refine lv_icmp_le (tgt := 29) hx hb dX6_mostRue_19 (by decide) (fun c_3 => ?_) (fun c_3 => ?_)
        · replace hf := zI_t c_3 hf
          obtain ⟨x2_4, ex2_4, hf⟩ := zL_o hf
          refine lv_iinc (v := x2_4) (lv' := [(2, .int x2_4), (0, .ref (G.2.2.1 0)), (1, .int x1)]) hx hb dX6_mostRue_29 hl (k := 2) rfl (by rw [ex2_4]; rfl) (by decide) rfl (fun ls hl => ?_)
          refine lv_goto (tgt := 4) hx hb dX6_mostRue_32 (by decide) ?_
          exact ih4 x1 x2_4 M H locs ls (lv_sub hl [1, 2, 0] rfl) hP hS hf
        · replace hf := zI_f c_3 hf
          refine lv_aload_n hx hb dX6_mostRue_22 rfl (lv_at hl 0 rfl) ?_
          refine zr_getq (C := RX6) (T := TX6) (n := 51) C0 hP 0 (by decide) shM_0 5 3 rfl (by decide) uw_X6 mw_403 rfl dX6_mostRue_23 ?_
          refine lv_iload_n hx hb dX6_mostRue_26 rfl (lv_at hl 2 rfl) ?_
          obtain ⟨hg_5, hf⟩ := zG_o hf
          refine zr_iald C0 hP 3 (by decide) shM_3 hg_5 dX6_mostRue_27 ?_
          refine lv_topi (fun x1_6 ex1_6 => ?_)
          replace hf := zL_e ex1_6 hf
          refine lv_istore_n (lv' := [(1, .int x1_6), (0, .ref (G.2.2.1 0)), (2, .int x2)]) hx hb dX6_mostRue_28 rfl hl (by decide) rfl (fun ls hl => ?_)
          obtain ⟨x2_7, ex2_7, hf⟩ := zL_o hf
          refine lv_iinc (v := x2_7) (lv' := [(2, .int x2_7), (1, .int x1_6), (0, .ref (G.2.2.1 0))]) hx hb dX6_mostRue_29 hl (k := 2) rfl (by rw [ex2_7]; rfl) (by decide) rfl (fun ls hl => ?_)
          refine lv_goto (tgt := 4) hx hb dX6_mostRue_32 (by decide) ?_
          exact ih4 x1_6 x2_7 M H locs ls (lv_sub hl [2, 1, 0] rfl) hP hS hf
  unfold fX6_mostRue at hf
  obtain ⟨H, eH⟩ : ∃ H, H = s.heap := ⟨_, rfl⟩
  obtain ⟨locs, el⟩ : ∃ locs : List Loc, locs = [] := ⟨_, rfl⟩
  rw [← eH] at hP ⊢
  have hS : va_S (zA G 23 s.heap.size) s.heap H locs := by rw [eH, el]; exact hS
  rw [← el]
  refine lv_iconst (v := (0 : Int32)) hx hb dX6_mostRue_0 (by decide) ?_
  refine lv_istore_n (lv' := [(1, .int (0 : Int32)), (0, .ref (G.2.2.1 0))]) hx hb dX6_mostRue_1 rfl hl (by decide) rfl (fun ls hl => ?_)
  refine lv_iconst (v := (0 : Int32)) hx hb dX6_mostRue_2 (by decide) ?_
  refine lv_istore_n (lv' := [(2, .int (0 : Int32)), (1, .int (0 : Int32)), (0, .ref (G.2.2.1 0))]) hx hb dX6_mostRue_3 rfl hl (by decide) rfl (fun ls hl => ?_)
  exact L4 zF (0 : Int32) (0 : Int32) M H locs ls (lv_sub hl [2, 1, 0] rfl) hP hS hf
def fX6_both (x0 : Int32) (x1 : Int32) (x2 : Int32) (M : zM) : Option (Int32 × zM) :=
  if x0 = (6 : Int32) then
    some ((x1 + x2), M)
  else
    if x0 = (7 : Int32) then
      some ((x1 - x2), M)
    else
      if x0 = (8 : Int32) then
        some ((x1 * x2), M)
      else
        if x0 = (9 : Int32) then
          if x2 ≤ x1 then
            some ((0 : Int32), M)
          else
            some ((1 : Int32), M)
        else
          if x0 = (10 : Int32) then
            if x1 = x2 then
              some ((1 : Int32), M)
            else
              some ((0 : Int32), M)
          else
            if x0 = (11 : Int32) then
              if x1 = (0 : Int32) then
                some ((0 : Int32), M)
              else
                if x2 = (0 : Int32) then
                  some ((0 : Int32), M)
                else
                  some ((1 : Int32), M)
            else
              if x1 = (0 : Int32) then
                if x2 = (0 : Int32) then
                  some ((0 : Int32), M)
                else
                  some ((1 : Int32), M)
              else
                some ((1 : Int32), M)
set_option maxHeartbeats 4000000 in
set_option maxRecDepth 100000 in
theorem mtX6_both (l : Launch) (G : zGr) (hJ : zJ G 23) (x0 : Int32) (x1 : Int32) (x2 : Int32) (M : zM) (o : Int32 × zM) (hf : fX6_both x0 x1 x2 M = some o) : zMi l G shM 23 yX6_both cX6_both 3 (some .int) 0 0 [.int x0, .int x1, .int x2] M o := by
  intro sz
  refine zOf (by decide) (Nat.le_of_ble_eq_true rfl) ?_
  intro p e R Q s m args below meth c hRm hsz hQ C0 hP hS ls hl
  subst hsz
  replace hRm : R = { frames := 0, cells := 0, slots := 0, locals := 0 } := hRm
  have hl : lv_has ls 3 [(0, .int x0), (1, .int x1), (2, .int x2)] := hl
  have hx := C0.1
  have hb := C0.2.1
  have hown := C0.2.2.2.1
  have hts := C0.2.2.2.2.1
  unfold fX6_both at hf
  obtain ⟨H, eH⟩ : ∃ H, H = s.heap := ⟨_, rfl⟩
  obtain ⟨locs, el⟩ : ∃ locs : List Loc, locs = [] := ⟨_, rfl⟩
  rw [← eH] at hP ⊢
  have hS : va_S (zA G 23 s.heap.size) s.heap H locs := by rw [eH, el]; exact hS
  rw [← el]
  refine lv_iload_n hx hb dX6_both_0 rfl (lv_at hl 0 rfl) ?_
  refine if c_1 : x0 = (6 : Int32) then ?_ else ?_
  · replace hf := zI_t c_1 hf
    refine lv_tableIn (tgt := 40) hx hb dX6_both_1 (by rw [c_1]; decide) (by rw [c_1]; decide) (off := 39) (by rw [c_1]; decide) (by decide) ?_
    refine lv_iload_n hx hb dX6_both_40 rfl (lv_at hl 1 rfl) ?_
    refine lv_iload_n hx hb dX6_both_41 rfl (lv_at hl 2 rfl) ?_
    refine lv_iadd hx hb dX6_both_42 ?_
    exact ze_i C0 hP hS hf dX6_both_43 hQ
  · replace hf := zI_f c_1 hf
    refine if c_2 : x0 = (7 : Int32) then ?_ else ?_
    · replace hf := zI_t c_2 hf
      refine lv_tableIn (tgt := 44) hx hb dX6_both_1 (by rw [c_2]; decide) (by rw [c_2]; decide) (off := 43) (by rw [c_2]; decide) (by decide) ?_
      refine lv_iload_n hx hb dX6_both_44 rfl (lv_at hl 1 rfl) ?_
      refine lv_iload_n hx hb dX6_both_45 rfl (lv_at hl 2 rfl) ?_
      refine lv_isub hx hb dX6_both_46 ?_
      exact ze_i C0 hP hS hf dX6_both_47 hQ
    · replace hf := zI_f c_2 hf
      refine if c_3 : x0 = (8 : Int32) then ?_ else ?_
      · replace hf := zI_t c_3 hf
        refine lv_tableIn (tgt := 48) hx hb dX6_both_1 (by rw [c_3]; decide) (by rw [c_3]; decide) (off := 47) (by rw [c_3]; decide) (by decide) ?_
        refine lv_iload_n hx hb dX6_both_48 rfl (lv_at hl 1 rfl) ?_
        refine lv_iload_n hx hb dX6_both_49 rfl (lv_at hl 2 rfl) ?_
        refine lv_imul hx hb dX6_both_50 ?_
        exact ze_i C0 hP hS hf dX6_both_51 hQ
      · replace hf := zI_f c_3 hf
        refine if c_4 : x0 = (9 : Int32) then ?_ else ?_
        · replace hf := zI_t c_4 hf
          refine lv_tableIn (tgt := 52) hx hb dX6_both_1 (by rw [c_4]; decide) (by rw [c_4]; decide) (off := 51) (by rw [c_4]; decide) (by decide) ?_
          refine lv_iload_n hx hb dX6_both_52 rfl (lv_at hl 1 rfl) ?_
          refine lv_iload_n hx hb dX6_both_53 rfl (lv_at hl 2 rfl) ?_
          refine lv_icmp_ge (tgt := 61) hx hb dX6_both_54 (by decide) (fun c_5 => ?_) (fun c_5 => ?_)
          · replace hf := zI_t c_5 hf
            refine lv_iconst (v := (0 : Int32)) hx hb dX6_both_61 (by decide) ?_
            exact ze_i C0 hP hS hf dX6_both_62 hQ
          · replace hf := zI_f c_5 hf
            refine lv_iconst (v := (1 : Int32)) hx hb dX6_both_57 (by decide) ?_
            refine lv_goto (tgt := 62) hx hb dX6_both_58 (by decide) ?_
            exact ze_i C0 hP hS hf dX6_both_62 hQ
        · replace hf := zI_f c_4 hf
          refine if c_6 : x0 = (10 : Int32) then ?_ else ?_
          · replace hf := zI_t c_6 hf
            refine lv_tableIn (tgt := 63) hx hb dX6_both_1 (by rw [c_6]; decide) (by rw [c_6]; decide) (off := 62) (by rw [c_6]; decide) (by decide) ?_
            refine lv_iload_n hx hb dX6_both_63 rfl (lv_at hl 1 rfl) ?_
            refine lv_iload_n hx hb dX6_both_64 rfl (lv_at hl 2 rfl) ?_
            refine lv_icmp_ne (tgt := 72) hx hb dX6_both_65 (by decide) (fun c_7 => ?_) (fun c_7 => ?_)
            · replace hf := zI_f c_7 hf
              refine lv_iconst (v := (0 : Int32)) hx hb dX6_both_72 (by decide) ?_
              exact ze_i C0 hP hS hf dX6_both_73 hQ
            · replace hf := zI_t c_7 hf
              refine lv_iconst (v := (1 : Int32)) hx hb dX6_both_68 (by decide) ?_
              refine lv_goto (tgt := 73) hx hb dX6_both_69 (by decide) ?_
              exact ze_i C0 hP hS hf dX6_both_73 hQ
          · replace hf := zI_f c_6 hf
            refine if c_8 : x0 = (11 : Int32) then ?_ else ?_
            · replace hf := zI_t c_8 hf
              refine lv_tableIn (tgt := 74) hx hb dX6_both_1 (by rw [c_8]; decide) (by rw [c_8]; decide) (off := 73) (by rw [c_8]; decide) (by decide) ?_
              refine lv_iload_n hx hb dX6_both_74 rfl (lv_at hl 1 rfl) ?_
              refine lv_if_eq (tgt := 86) hx hb dX6_both_75 (by decide) (fun c_9 => ?_) (fun c_9 => ?_)
              · replace hf := zI_t c_9 hf
                refine lv_iconst (v := (0 : Int32)) hx hb dX6_both_86 (by decide) ?_
                exact ze_i C0 hP hS hf dX6_both_87 hQ
              · replace hf := zI_f c_9 hf
                refine lv_iload_n hx hb dX6_both_78 rfl (lv_at hl 2 rfl) ?_
                refine lv_if_eq (tgt := 86) hx hb dX6_both_79 (by decide) (fun c_10 => ?_) (fun c_10 => ?_)
                · replace hf := zI_t c_10 hf
                  refine lv_iconst (v := (0 : Int32)) hx hb dX6_both_86 (by decide) ?_
                  exact ze_i C0 hP hS hf dX6_both_87 hQ
                · replace hf := zI_f c_10 hf
                  refine lv_iconst (v := (1 : Int32)) hx hb dX6_both_82 (by decide) ?_
                  refine lv_goto (tgt := 87) hx hb dX6_both_83 (by decide) ?_
                  exact ze_i C0 hP hS hf dX6_both_87 hQ
            · replace hf := zI_f c_8 hf
              have tc_1 := lv_neT (a := 6) c_1 (by decide)
              have tc_2 := lv_neT (a := 7) c_2 (by decide)
              have tc_3 := lv_neT (a := 8) c_3 (by decide)
              have tc_4 := lv_neT (a := 9) c_4 (by decide)
              have tc_6 := lv_neT (a := 10) c_6 (by decide)
              have tc_8 := lv_neT (a := 11) c_8 (by decide)
              refine lv_tableOut (tgt := 88) hx hb dX6_both_1 (by omega) (by decide) ?_
              refine lv_iload_n hx hb dX6_both_88 rfl (lv_at hl 1 rfl) ?_
              refine lv_if_ne (tgt := 96) hx hb dX6_both_89 (by decide) (fun c_11 => ?_) (fun c_11 => ?_)
              · replace hf := zI_f c_11 hf
                refine lv_iconst (v := (1 : Int32)) hx hb dX6_both_96 (by decide) ?_
                refine lv_goto (tgt := 101) hx hb dX6_both_97 (by decide) ?_
                exact ze_i C0 hP hS hf dX6_both_101 hQ
              · replace hf := zI_t c_11 hf
                refine lv_iload_n hx hb dX6_both_92 rfl (lv_at hl 2 rfl) ?_
                refine lv_if_eq (tgt := 100) hx hb dX6_both_93 (by decide) (fun c_12 => ?_) (fun c_12 => ?_)
                · replace hf := zI_t c_12 hf
                  refine lv_iconst (v := (0 : Int32)) hx hb dX6_both_100 (by decide) ?_
                  exact ze_i C0 hP hS hf dX6_both_101 hQ
                · replace hf := zI_f c_12 hf
                  refine lv_iconst (v := (1 : Int32)) hx hb dX6_both_96 (by decide) ?_
                  refine lv_goto (tgt := 101) hx hb dX6_both_97 (by decide) ?_
                  exact ze_i C0 hP hS hf dX6_both_101 hQ
def fX6_ruled_J61 (r19 : Int32 → Int32 → Int32 → Int32 → zM → Option (Int32 × zM)) (x1 : Int32) (x2 : Int32) (x3 : Int32) (x4 : Int32) (x5 : Int32) (M : zM) : Option (Int32 × zM) :=
  zL (x2 + (1 : Int32)) fun x2_8 =>
  if x5 < (15 : Int32) then
    zG (zin x5 6) <|
    zG (zin x2 200) <|
    zL (zu M 10 x2.toNatClampNeg (M.1 11 x5.toNatClampNeg)) fun M_12 =>
    zL (x4 + (1 : Int32)) fun x4_13 =>
    r19 x1 x2_8 x3 x4_13 M_12
  else
    zG (zin x2 200) <|
    zL (zu M 10 x2.toNatClampNeg (x5 - (15 : Int32))) fun M_15 =>
    zL (x4 + (1 : Int32)) fun x4_16 =>
    r19 x1 x2_8 x3 x4_16 M_15
def fX6_ruled_J151 (r19 : Int32 → Int32 → Int32 → Int32 → zM → Option (Int32 × zM)) (x1 : Int32) (x2 : Int32) (x3 : Int32) (x4 : Int32) (v0 : Int32) (v1 : Int32) (M : zM) : Option (Int32 × zM) :=
  zG (zin v1 200) <|
  zL (zu M 10 v1.toNatClampNeg v0) fun M_23 =>
  zL (x4 + (1 : Int32)) fun x4_24 =>
  r19 x1 x2 x3 x4_24 M_23
def fX6_ruled_J109 (r19 : Int32 → Int32 → Int32 → Int32 → zM → Option (Int32 × zM)) (x1 : Int32) (x2 : Int32) (x3 : Int32) (x4 : Int32) (x5 : Int32) (M : zM) : Option (Int32 × zM) :=
  if x5 = (14 : Int32) then
    zG (zin (x2 - (1 : Int32)) 200) <|
    fX6_ruled_J151 r19 x1 x2 x3 x4 (-(M.1 10 (x2 - (1 : Int32)).toNatClampNeg)) (x2 - (1 : Int32)) M
  else
    zG (zin (x2 - (1 : Int32)) 200) <|
    if (M.1 10 (x2 - (1 : Int32)).toNatClampNeg) = (0 : Int32) then
      fX6_ruled_J151 r19 x1 x2 x3 x4 (1 : Int32) (x2 - (1 : Int32)) M
    else
      fX6_ruled_J151 r19 x1 x2 x3 x4 (0 : Int32) (x2 - (1 : Int32)) M
def fX6_ruled_B19 (r19 : Int32 → Int32 → Int32 → Int32 → zM → Option (Int32 × zM)) (x1 : Int32) (x2 : Int32) (x3 : Int32) (x4 : Int32) (M : zM) : Option (Int32 × zM) :=
  zG (zin (((3 : Int32) * (M.1 0 7)) + x1) 18) <|
  if (x3 + (M.1 7 (((3 : Int32) * (M.1 0 7)) + x1).toNatClampNeg)) ≤ x4 then
    some ((M.1 10 (0 : Int32).toNatClampNeg), M)
  else
    zG (zin x4 3000) <|
    zL (M.1 8 x4.toNatClampNeg) fun x5_6 =>
    if (15 : Int32) ≤ x5_6 then
      fX6_ruled_J61 r19 x1 x2 x3 x4 x5_6 M
    else
      if (5 : Int32) < x5_6 then
        if x5_6 = (13 : Int32) then
          fX6_ruled_J109 r19 x1 x2 x3 x4 x5_6 M
        else
          if x5_6 = (14 : Int32) then
            fX6_ruled_J109 r19 x1 x2 x3 x4 x5_6 M
          else
            zL (x2 + (-1 : Int32)) fun x2_27 =>
            zG (zin (x2_27 - (1 : Int32)) 200) <|
            zG (zin x2_27 200) <|
            zB (fX6_both x5_6 (M.1 10 (x2_27 - (1 : Int32)).toNatClampNeg) (M.1 10 x2_27.toNatClampNeg) M) fun r_32 M_30 =>
            zG (zin (x2_27 - (1 : Int32)) 200) <|
            zL (zu M_30 10 (x2_27 - (1 : Int32)).toNatClampNeg r_32) fun M_34 =>
            zL (x4 + (1 : Int32)) fun x4_35 =>
            r19 x1 x2_27 x3 x4_35 M_34
      else
        fX6_ruled_J61 r19 x1 x2 x3 x4 x5_6 M
def fX6_ruled_L19 : Nat → Int32 → Int32 → Int32 → Int32 → zM → Option (Int32 × zM)
  | 0 => fun _ _ _ _ _ => none
  | j9 + 1 => fX6_ruled_B19 (fX6_ruled_L19 j9)
def fX6_ruled (x1 : Int32) (M : zM) : Option (Int32 × zM) :=
  zG (zin (((3 : Int32) * (M.1 0 7)) + x1) 18) <|
  zL (M.1 6 (((3 : Int32) * (M.1 0 7)) + x1).toNatClampNeg) fun x3_2 =>
  fX6_ruled_L19 zF x1 (0 : Int32) x3_2 x3_2 M
set_option maxHeartbeats 4000000 in
set_option maxRecDepth 100000 in
theorem mtX6_ruled (l : Launch) (G : zGr) (hJ : zJ G 23) (x1 : Int32) (M : zM) (o : Int32 × zM) (hf : fX6_ruled x1 M = some o) : zMi l G shM 23 yX6_ruled cX6_ruled 6 (some .int) 1 22 [.ref (G.2.2.1 0), .int x1] M o := by
  intro sz
  refine zOf (by decide) (Nat.le_of_ble_eq_true rfl) ?_
  intro p e R Q s m args below meth c hRm hsz hQ C0 hP hS ls hl
  subst hsz
  replace hRm : R = { frames := 1, cells := 0, slots := 0, locals := 22 } := hRm
  have hl : lv_has ls 6 [(0, .ref (G.2.2.1 0)), (1, .int x1)] := hl
  have hx := C0.1
  have hb := C0.2.1
  have hown := C0.2.2.2.1
  have hts := C0.2.2.2.2.1
  have L19 : ∀ (n19 : Nat), ∀ (x1 : Int32) (x2 : Int32) (x3 : Int32) (x4 : Int32) (M : zM) (H : Heap) (locs : List Loc) (ls : Array Slot), lv_has ls 6 [(0, .ref (G.2.2.1 0)), (1, .int x1), (2, .int x2), (3, .int x3), (4, .int x4)] → va_P G.1 zcl (zw G shM 23 M) H → va_S (zA G 23 s.heap.size) s.heap H locs → fX6_ruled_L19 n19 x1 x2 x3 x4 M = some o → W p l e R s m args below meth c H locs 0 0 Q (F0 m 19 ls []) := by
    intro n19
    induction n19 with
    | zero => intro x1 x2 x3 x4 M H locs ls hl hP hS hf; exact zn_s (show none = some o from hf)
    | succ n19 ih19 =>
      have J61 : ∀ (x1 : Int32) (x2 : Int32) (x3 : Int32) (x4 : Int32) (x5 : Int32) (M : zM) (H : Heap) (locs : List Loc) (ls : Array Slot), lv_has ls 6 [(0, .ref (G.2.2.1 0)), (1, .int x1), (2, .int x2), (3, .int x3), (4, .int x4), (5, .int x5)] → va_P G.1 zcl (zw G shM 23 M) H → va_S (zA G 23 s.heap.size) s.heap H locs → fX6_ruled_J61 (fX6_ruled_L19 n19) x1 x2 x3 x4 x5 M = some o → W p l e R s m args below meth c H locs 0 0 Q (F0 m 61 ls []) := by
        intro x1 x2 x3 x4 x5 M H locs ls hl hP hS hf
        unfold fX6_ruled_J61 at hf
        refine lv_aload_n hx hb dX6_ruled_61 rfl (lv_at hl 0 rfl) ?_
        refine zr_getq (C := RX6) (T := TX6) (n := 51) C0 hP 0 (by decide) shM_0 26 10 rfl (by decide) uw_X6 mw_417 rfl dX6_ruled_62 ?_
        refine lv_iload_n hx hb dX6_ruled_65 rfl (lv_at hl 2 rfl) ?_
        obtain ⟨x2_8, ex2_8, hf⟩ := zL_o hf
        refine lv_iinc (v := x2_8) (lv' := [(2, .int x2_8), (0, .ref (G.2.2.1 0)), (1, .int x1), (3, .int x3), (4, .int x4), (5, .int x5)]) hx hb dX6_ruled_66 hl (k := 2) rfl (by rw [ex2_8]; rfl) (by decide) rfl (fun ls hl => ?_)
        refine lv_iload hx hb dX6_ruled_69 (lv_at hl 5 rfl) ?_
        refine lv_bipush (v := (15 : Int32)) hx hb dX6_ruled_71 (by decide) ?_
        refine lv_icmp_lt (tgt := 84) hx hb dX6_ruled_73 (by decide) (fun c_9 => ?_) (fun c_9 => ?_)
        · replace hf := zI_t c_9 hf
          refine lv_aload_n hx hb dX6_ruled_84 rfl (lv_at hl 1 rfl) ?_
          refine zr_getq (C := RX6) (T := TX6) (n := 51) C0 hP 0 (by decide) shM_0 27 11 rfl (by decide) uw_X6 mw_419 rfl dX6_ruled_85 ?_
          refine lv_iload hx hb dX6_ruled_88 (lv_at hl 5 rfl) ?_
          obtain ⟨hg_10, hf⟩ := zG_o hf
          refine zr_iald C0 hP 11 (by decide) shM_11 hg_10 dX6_ruled_90 ?_
          obtain ⟨hg_11, hf⟩ := zG_o hf
          refine zr_iast C0 hJ hP hS 10 (by decide) shM_10 hg_11 dX6_ruled_91 (fun H locs hP hS => ?_)
          obtain ⟨M_12, eM_12, hf⟩ := zL_o hf
          have hP : va_P G.1 zcl (zw G shM 23 M_12) H := by rw [eM_12]; exact hP
          refine lv_goto (tgt := 185) hx hb dX6_ruled_92 (by decide) ?_
          obtain ⟨x4_13, ex4_13, hf⟩ := zL_o hf
          refine lv_iinc (v := x4_13) (lv' := [(4, .int x4_13), (2, .int x2_8), (0, .ref (G.2.2.1 0)), (1, .int x1), (3, .int x3), (5, .int x5)]) hx hb dX6_ruled_185 hl (k := 4) rfl (by rw [ex4_13]; rfl) (by decide) rfl (fun ls hl => ?_)
          refine lv_goto (tgt := 19) hx hb dX6_ruled_188 (by decide) ?_
          exact ih19 x1 x2_8 x3 x4_13 M_12 H locs ls (lv_sub hl [2, 3, 1, 4, 0] rfl) hP hS hf
        · replace hf := zI_f c_9 hf
          refine lv_iload hx hb dX6_ruled_76 (lv_at hl 5 rfl) ?_
          refine lv_bipush (v := (15 : Int32)) hx hb dX6_ruled_78 (by decide) ?_
          refine lv_isub hx hb dX6_ruled_80 ?_
          refine lv_goto (tgt := 91) hx hb dX6_ruled_81 (by decide) ?_
          obtain ⟨hg_14, hf⟩ := zG_o hf
          refine zr_iast C0 hJ hP hS 10 (by decide) shM_10 hg_14 dX6_ruled_91 (fun H locs hP hS => ?_)
          obtain ⟨M_15, eM_15, hf⟩ := zL_o hf
          have hP : va_P G.1 zcl (zw G shM 23 M_15) H := by rw [eM_15]; exact hP
          refine lv_goto (tgt := 185) hx hb dX6_ruled_92 (by decide) ?_
          obtain ⟨x4_16, ex4_16, hf⟩ := zL_o hf
          refine lv_iinc (v := x4_16) (lv' := [(4, .int x4_16), (2, .int x2_8), (0, .ref (G.2.2.1 0)), (1, .int x1), (3, .int x3), (5, .int x5)]) hx hb dX6_ruled_185 hl (k := 4) rfl (by rw [ex4_16]; rfl) (by decide) rfl (fun ls hl => ?_)
          refine lv_goto (tgt := 19) hx hb dX6_ruled_188 (by decide) ?_
          exact ih19 x1 x2_8 x3 x4_16 M_15 H locs ls (lv_sub hl [2, 3, 1, 4, 0] rfl) hP hS hf
      have J151 : ∀ (x1 : Int32) (x2 : Int32) (x3 : Int32) (x4 : Int32) (v0 : Int32) (v1 : Int32) (M : zM) (H : Heap) (locs : List Loc) (ls : Array Slot), lv_has ls 6 [(0, .ref (G.2.2.1 0)), (1, .int x1), (2, .int x2), (3, .int x3), (4, .int x4)] → va_P G.1 zcl (zw G shM 23 M) H → va_S (zA G 23 s.heap.size) s.heap H locs → fX6_ruled_J151 (fX6_ruled_L19 n19) x1 x2 x3 x4 v0 v1 M = some o → W p l e R s m args below meth c H locs 0 0 Q (F0 m 151 ls [.int v0, .int v1, .ref (G.2.2.1 10)]) := by
        intro x1 x2 x3 x4 v0 v1 M H locs ls hl hP hS hf
        unfold fX6_ruled_J151 at hf
        obtain ⟨hg_22, hf⟩ := zG_o hf
        refine zr_iast C0 hJ hP hS 10 (by decide) shM_10 hg_22 dX6_ruled_151 (fun H locs hP hS => ?_)
        obtain ⟨M_23, eM_23, hf⟩ := zL_o hf
        have hP : va_P G.1 zcl (zw G shM 23 M_23) H := by rw [eM_23]; exact hP
        refine lv_goto (tgt := 185) hx hb dX6_ruled_152 (by decide) ?_
        obtain ⟨x4_24, ex4_24, hf⟩ := zL_o hf
        refine lv_iinc (v := x4_24) (lv' := [(4, .int x4_24), (0, .ref (G.2.2.1 0)), (1, .int x1), (2, .int x2), (3, .int x3)]) hx hb dX6_ruled_185 hl (k := 4) rfl (by rw [ex4_24]; rfl) (by decide) rfl (fun ls hl => ?_)
        refine lv_goto (tgt := 19) hx hb dX6_ruled_188 (by decide) ?_
        exact ih19 x1 x2 x3 x4_24 M_23 H locs ls (lv_sub hl [1, 2, 3, 4, 0] rfl) hP hS hf
      have J109 : ∀ (x1 : Int32) (x2 : Int32) (x3 : Int32) (x4 : Int32) (x5 : Int32) (M : zM) (H : Heap) (locs : List Loc) (ls : Array Slot), lv_has ls 6 [(0, .ref (G.2.2.1 0)), (1, .int x1), (2, .int x2), (3, .int x3), (4, .int x4), (5, .int x5)] → va_P G.1 zcl (zw G shM 23 M) H → va_S (zA G 23 s.heap.size) s.heap H locs → fX6_ruled_J109 (fX6_ruled_L19 n19) x1 x2 x3 x4 x5 M = some o → W p l e R s m args below meth c H locs 0 0 Q (F0 m 109 ls []) := by
        intro x1 x2 x3 x4 x5 M H locs ls hl hP hS hf
        unfold fX6_ruled_J109 at hf
        refine lv_aload_n hx hb dX6_ruled_109 rfl (lv_at hl 0 rfl) ?_
        refine zr_getq (C := RX6) (T := TX6) (n := 51) C0 hP 0 (by decide) shM_0 26 10 rfl (by decide) uw_X6 mw_417 rfl dX6_ruled_110 ?_
        refine lv_iload_n hx hb dX6_ruled_113 rfl (lv_at hl 2 rfl) ?_
        refine lv_iconst (v := (1 : Int32)) hx hb dX6_ruled_114 (by decide) ?_
        refine lv_isub hx hb dX6_ruled_115 ?_
        refine lv_iload hx hb dX6_ruled_116 (lv_at hl 5 rfl) ?_
        refine lv_bipush (v := (14 : Int32)) hx hb dX6_ruled_118 (by decide) ?_
        refine lv_icmp_ne (tgt := 135) hx hb dX6_ruled_120 (by decide) (fun c_19 => ?_) (fun c_19 => ?_)
        · replace hf := zI_f c_19 hf
          refine lv_aload_n hx hb dX6_ruled_135 rfl (lv_at hl 0 rfl) ?_
          refine zr_getq (C := RX6) (T := TX6) (n := 51) C0 hP 0 (by decide) shM_0 26 10 rfl (by decide) uw_X6 mw_417 rfl dX6_ruled_136 ?_
          refine lv_iload_n hx hb dX6_ruled_139 rfl (lv_at hl 2 rfl) ?_
          refine lv_iconst (v := (1 : Int32)) hx hb dX6_ruled_140 (by decide) ?_
          refine lv_isub hx hb dX6_ruled_141 ?_
          obtain ⟨hg_20, hf⟩ := zG_o hf
          refine zr_iald C0 hP 10 (by decide) shM_10 hg_20 dX6_ruled_142 ?_
          refine lv_if_ne (tgt := 150) hx hb dX6_ruled_143 (by decide) (fun c_21 => ?_) (fun c_21 => ?_)
          · replace hf := zI_f c_21 hf
            refine lv_iconst (v := (0 : Int32)) hx hb dX6_ruled_150 (by decide) ?_
            exact J151 x1 x2 x3 x4 (0 : Int32) (x2 - (1 : Int32)) M H locs ls (lv_sub hl [0, 1, 2, 3, 4] rfl) hP hS hf
          · replace hf := zI_t c_21 hf
            refine lv_iconst (v := (1 : Int32)) hx hb dX6_ruled_146 (by decide) ?_
            refine lv_goto (tgt := 151) hx hb dX6_ruled_147 (by decide) ?_
            exact J151 x1 x2 x3 x4 (1 : Int32) (x2 - (1 : Int32)) M H locs ls (lv_sub hl [0, 1, 2, 3, 4] rfl) hP hS hf
        · replace hf := zI_t c_19 hf
          refine lv_aload_n hx hb dX6_ruled_123 rfl (lv_at hl 0 rfl) ?_
          refine zr_getq (C := RX6) (T := TX6) (n := 51) C0 hP 0 (by decide) shM_0 26 10 rfl (by decide) uw_X6 mw_417 rfl dX6_ruled_124 ?_
          refine lv_iload_n hx hb dX6_ruled_127 rfl (lv_at hl 2 rfl) ?_
          refine lv_iconst (v := (1 : Int32)) hx hb dX6_ruled_128 (by decide) ?_
          refine lv_isub hx hb dX6_ruled_129 ?_
          obtain ⟨hg_25, hf⟩ := zG_o hf
          refine zr_iald C0 hP 10 (by decide) shM_10 hg_25 dX6_ruled_130 ?_
          refine lv_ineg hx hb dX6_ruled_131 ?_
          refine lv_goto (tgt := 151) hx hb dX6_ruled_132 (by decide) ?_
          exact J151 x1 x2 x3 x4 (-(M.1 10 (x2 - (1 : Int32)).toNatClampNeg)) (x2 - (1 : Int32)) M H locs ls (lv_sub hl [0, 1, 2, 3, 4] rfl) hP hS hf
      intro x1 x2 x3 x4 M H locs ls hl hP hS hf
      replace hf : fX6_ruled_B19 (fX6_ruled_L19 n19) x1 x2 x3 x4 M = some o := hf
      unfold fX6_ruled_B19 at hf
      refine lv_iload hx hb dX6_ruled_19 (lv_at hl 4 rfl) ?_
      refine lv_iload_n hx hb dX6_ruled_21 rfl (lv_at hl 3 rfl) ?_
      refine lv_aload_n hx hb dX6_ruled_22 rfl (lv_at hl 0 rfl) ?_
      refine zr_getq (C := RX6) (T := TX6) (n := 51) C0 hP 0 (by decide) shM_0 12 7 rfl (by decide) uw_X6 mw_416 rfl dX6_ruled_23 ?_
      refine lv_iconst (v := (3 : Int32)) hx hb dX6_ruled_26 (by decide) ?_
      refine lv_aload_n hx hb dX6_ruled_27 rfl (lv_at hl 0 rfl) ?_
      refine zr_get (C := RX6) (T := TX6) (n := 51) C0 hP 0 (by decide) shM_0 7 rfl (by decide) uw_X6 mw_415 rfl dX6_ruled_28 ?_
      refine lv_imul hx hb dX6_ruled_31 ?_
      refine lv_iload_n hx hb dX6_ruled_32 rfl (lv_at hl 1 rfl) ?_
      refine lv_iadd hx hb dX6_ruled_33 ?_
      obtain ⟨hg_3, hf⟩ := zG_o hf
      refine zr_iald C0 hP 7 (by decide) shM_7 hg_3 dX6_ruled_34 ?_
      refine lv_iadd hx hb dX6_ruled_35 ?_
      refine lv_icmp_ge (tgt := 191) hx hb dX6_ruled_36 (by decide) (fun c_4 => ?_) (fun c_4 => ?_)
      · replace hf := zI_t c_4 hf
        refine lv_aload_n hx hb dX6_ruled_191 rfl (lv_at hl 0 rfl) ?_
        refine zr_getq (C := RX6) (T := TX6) (n := 51) C0 hP 0 (by decide) shM_0 26 10 rfl (by decide) uw_X6 mw_417 rfl dX6_ruled_192 ?_
        refine lv_iconst (v := (0 : Int32)) hx hb dX6_ruled_195 (by decide) ?_
        refine zr_iald C0 hP 10 (by decide) shM_10 (by decide) dX6_ruled_196 ?_
        exact ze_i C0 hP hS hf dX6_ruled_197 hQ
      · replace hf := zI_f c_4 hf
        refine lv_aload_n hx hb dX6_ruled_39 rfl (lv_at hl 0 rfl) ?_
        refine zr_getq (C := RX6) (T := TX6) (n := 51) C0 hP 0 (by decide) shM_0 13 8 rfl (by decide) uw_X6 mw_418 rfl dX6_ruled_40 ?_
        refine lv_iload hx hb dX6_ruled_43 (lv_at hl 4 rfl) ?_
        obtain ⟨hg_5, hf⟩ := zG_o hf
        refine zr_iald C0 hP 8 (by decide) shM_8 hg_5 dX6_ruled_45 ?_
        refine lv_topi (fun x5_6 ex5_6 => ?_)
        replace hf := zL_e ex5_6 hf
        refine lv_istore (lv' := [(5, .int x5_6), (0, .ref (G.2.2.1 0)), (1, .int x1), (2, .int x2), (3, .int x3), (4, .int x4)]) hx hb dX6_ruled_46 hl (by decide) rfl (fun ls hl => ?_)
        refine lv_iload hx hb dX6_ruled_48 (lv_at hl 0 rfl) ?_
        refine lv_bipush (v := (15 : Int32)) hx hb dX6_ruled_50 (by decide) ?_
        refine lv_icmp_ge (tgt := 61) hx hb dX6_ruled_52 (by decide) (fun c_7 => ?_) (fun c_7 => ?_)
        · replace hf := zI_t c_7 hf
          exact J61 x1 x2 x3 x4 x5_6 M H locs ls (lv_sub hl [1, 2, 3, 4, 5, 0] rfl) hP hS hf
        · replace hf := zI_f c_7 hf
          refine lv_iload hx hb dX6_ruled_55 (lv_at hl 0 rfl) ?_
          refine lv_iconst (v := (5 : Int32)) hx hb dX6_ruled_57 (by decide) ?_
          refine lv_icmp_gt (tgt := 95) hx hb dX6_ruled_58 (by decide) (fun c_17 => ?_) (fun c_17 => ?_)
          · replace hf := zI_t c_17 hf
            refine lv_iload hx hb dX6_ruled_95 (lv_at hl 0 rfl) ?_
            refine lv_bipush (v := (13 : Int32)) hx hb dX6_ruled_97 (by decide) ?_
            refine lv_icmp_eq (tgt := 109) hx hb dX6_ruled_99 (by decide) (fun c_18 => ?_) (fun c_18 => ?_)
            · replace hf := zI_t c_18 hf
              exact J109 x1 x2 x3 x4 x5_6 M H locs ls (lv_sub hl [1, 2, 3, 4, 5, 0] rfl) hP hS hf
            · replace hf := zI_f c_18 hf
              refine lv_iload hx hb dX6_ruled_102 (lv_at hl 0 rfl) ?_
              refine lv_bipush (v := (14 : Int32)) hx hb dX6_ruled_104 (by decide) ?_
              refine lv_icmp_ne (tgt := 155) hx hb dX6_ruled_106 (by decide) (fun c_26 => ?_) (fun c_26 => ?_)
              · replace hf := zI_f c_26 hf
                obtain ⟨x2_27, ex2_27, hf⟩ := zL_o hf
                refine lv_iinc (v := x2_27) (lv' := [(2, .int x2_27), (5, .int x5_6), (0, .ref (G.2.2.1 0)), (1, .int x1), (3, .int x3), (4, .int x4)]) hx hb dX6_ruled_155 hl (k := 3) rfl (by rw [ex2_27]; rfl) (by decide) rfl (fun ls hl => ?_)
                refine lv_aload_n hx hb dX6_ruled_158 rfl (lv_at hl 2 rfl) ?_
                refine zr_getq (C := RX6) (T := TX6) (n := 51) C0 hP 0 (by decide) shM_0 26 10 rfl (by decide) uw_X6 mw_417 rfl dX6_ruled_159 ?_
                refine lv_iload_n hx hb dX6_ruled_162 rfl (lv_at hl 0 rfl) ?_
                refine lv_iconst (v := (1 : Int32)) hx hb dX6_ruled_163 (by decide) ?_
                refine lv_isub hx hb dX6_ruled_164 ?_
                refine lv_iload hx hb dX6_ruled_165 (lv_at hl 1 rfl) ?_
                refine lv_aload_n hx hb dX6_ruled_167 rfl (lv_at hl 2 rfl) ?_
                refine zr_getq (C := RX6) (T := TX6) (n := 51) C0 hP 0 (by decide) shM_0 26 10 rfl (by decide) uw_X6 mw_417 rfl dX6_ruled_168 ?_
                refine lv_iload_n hx hb dX6_ruled_171 rfl (lv_at hl 0 rfl) ?_
                refine lv_iconst (v := (1 : Int32)) hx hb dX6_ruled_172 (by decide) ?_
                refine lv_isub hx hb dX6_ruled_173 ?_
                obtain ⟨hg_28, hf⟩ := zG_o hf
                refine zr_iald C0 hP 10 (by decide) shM_10 hg_28 dX6_ruled_174 ?_
                refine lv_aload_n hx hb dX6_ruled_175 rfl (lv_at hl 2 rfl) ?_
                refine zr_getq (C := RX6) (T := TX6) (n := 51) C0 hP 0 (by decide) shM_0 26 10 rfl (by decide) uw_X6 mw_417 rfl dX6_ruled_176 ?_
                refine lv_iload_n hx hb dX6_ruled_179 rfl (lv_at hl 0 rfl) ?_
                obtain ⟨hg_29, hf⟩ := zG_o hf
                refine zr_iald C0 hP 10 (by decide) shM_10 hg_29 dX6_ruled_180 ?_
                obtain ⟨r_32, M_30, hc_31, hf⟩ := zB_o hf
                refine zc_si (As := [.int x5_6, .int (M.1 10 (x2_27 - (1 : Int32)).toNatClampNeg), .int (M.1 10 x2_27.toNatClampNeg)]) (rest := [.int (x2_27 - (1 : Int32)), .ref (G.2.2.1 10)]) C0 hP hS hl.1 (mtX6_both l G hJ x5_6 (M.1 10 (x2_27 - (1 : Int32)).toNatClampNeg) (M.1 10 x2_27.toNatClampNeg) M _ hc_31) ls_X6_214 ds_X6_both (by rw [hRm]; exact ⟨Nat.le_of_ble_eq_true rfl, Nat.le_of_ble_eq_true rfl⟩) rfl rfl (Nat.le_of_ble_eq_true rfl) dX6_ruled_181 ⟨Nat.zero_le _, Nat.zero_le _⟩ (fun H locs hP hS => ?_)
                obtain ⟨hg_33, hf⟩ := zG_o hf
                refine zr_iast C0 hJ hP hS 10 (by decide) shM_10 hg_33 dX6_ruled_184 (fun H locs hP hS => ?_)
                obtain ⟨M_34, eM_34, hf⟩ := zL_o hf
                have hP : va_P G.1 zcl (zw G shM 23 M_34) H := by rw [eM_34]; exact hP
                obtain ⟨x4_35, ex4_35, hf⟩ := zL_o hf
                refine lv_iinc (v := x4_35) (lv' := [(4, .int x4_35), (2, .int x2_27), (5, .int x5_6), (0, .ref (G.2.2.1 0)), (1, .int x1), (3, .int x3)]) hx hb dX6_ruled_185 hl (k := 5) rfl (by rw [ex4_35]; rfl) (by decide) rfl (fun ls hl => ?_)
                refine lv_goto (tgt := 19) hx hb dX6_ruled_188 (by decide) ?_
                exact ih19 x1 x2_27 x3 x4_35 M_34 H locs ls (lv_sub hl [3, 4, 1, 5, 0] rfl) hP hS hf
              · replace hf := zI_t c_26 hf
                exact J109 x1 x2 x3 x4 x5_6 M H locs ls (lv_sub hl [1, 2, 3, 4, 5, 0] rfl) hP hS hf
          · replace hf := zI_f c_17 hf
            exact J61 x1 x2 x3 x4 x5_6 M H locs ls (lv_sub hl [1, 2, 3, 4, 5, 0] rfl) hP hS hf
  unfold fX6_ruled at hf
  obtain ⟨H, eH⟩ : ∃ H, H = s.heap := ⟨_, rfl⟩
  obtain ⟨locs, el⟩ : ∃ locs : List Loc, locs = [] := ⟨_, rfl⟩
  rw [← eH] at hP ⊢
  have hS : va_S (zA G 23 s.heap.size) s.heap H locs := by rw [eH, el]; exact hS
  rw [← el]
  refine lv_iconst (v := (0 : Int32)) hx hb dX6_ruled_0 (by decide) ?_
  refine lv_istore_n (lv' := [(2, .int (0 : Int32)), (0, .ref (G.2.2.1 0)), (1, .int x1)]) hx hb dX6_ruled_1 rfl hl (by decide) rfl (fun ls hl => ?_)
  refine lv_aload_n hx hb dX6_ruled_2 rfl (lv_at hl 1 rfl) ?_
  refine zr_getq (C := RX6) (T := TX6) (n := 51) C0 hP 0 (by decide) shM_0 11 6 rfl (by decide) uw_X6 mw_414 rfl dX6_ruled_3 ?_
  refine lv_iconst (v := (3 : Int32)) hx hb dX6_ruled_6 (by decide) ?_
  refine lv_aload_n hx hb dX6_ruled_7 rfl (lv_at hl 1 rfl) ?_
  refine zr_get (C := RX6) (T := TX6) (n := 51) C0 hP 0 (by decide) shM_0 7 rfl (by decide) uw_X6 mw_415 rfl dX6_ruled_8 ?_
  refine lv_imul hx hb dX6_ruled_11 ?_
  refine lv_iload_n hx hb dX6_ruled_12 rfl (lv_at hl 2 rfl) ?_
  refine lv_iadd hx hb dX6_ruled_13 ?_
  obtain ⟨hg_1, hf⟩ := zG_o hf
  refine zr_iald C0 hP 6 (by decide) shM_6 hg_1 dX6_ruled_14 ?_
  refine lv_topi (fun x3_2 ex3_2 => ?_)
  replace hf := zL_e ex3_2 hf
  refine lv_istore_n (lv' := [(3, .int x3_2), (2, .int (0 : Int32)), (0, .ref (G.2.2.1 0)), (1, .int x1)]) hx hb dX6_ruled_15 rfl hl (by decide) rfl (fun ls hl => ?_)
  refine lv_iload_n hx hb dX6_ruled_16 rfl (lv_at hl 0 rfl) ?_
  refine lv_istore (lv' := [(4, .int x3_2), (3, .int x3_2), (2, .int (0 : Int32)), (0, .ref (G.2.2.1 0)), (1, .int x1)]) hx hb dX6_ruled_17 hl (by decide) rfl (fun ls hl => ?_)
  exact L19 zF x1 (0 : Int32) x3_2 x3_2 M H locs ls (lv_sub hl [3, 4, 2, 1, 0] rfl) hP hS hf
def fX6_ruledFor (x1 : Int32) (x2 : Int32) (M : zM) : Option (Int32 × zM) :=
  zG (zin x2 5) <|
  zL (zu M 11 (0 : Int32).toNatClampNeg (M.1 3 x2.toNatClampNeg)) fun M_2 =>
  zG (zin x2 5) <|
  zL (zu M_2 11 (1 : Int32).toNatClampNeg (M_2.1 2 x2.toNatClampNeg)) fun M_4 =>
  zL (zu M_4 11 (2 : Int32).toNatClampNeg (M_4.1 0 1)) fun M_5 =>
  zL (zu M_5 11 (3 : Int32).toNatClampNeg (M_5.1 0 0)) fun M_6 =>
  zG (zin x2 5) <|
  zL (zu M_6 11 (4 : Int32).toNatClampNeg (M_6.1 4 x2.toNatClampNeg)) fun M_8 =>
  zB (fX6_mostRue M_8) fun r_11 M_9 =>
  zL (zu M_9 11 (5 : Int32).toNatClampNeg r_11) fun M_12 =>
  zB (fX6_ruled x1 M_12) fun r_15 M_13 =>
  some (r_15, M_13)
set_option maxHeartbeats 4000000 in
set_option maxRecDepth 100000 in
theorem mtX6_ruledFor (l : Launch) (G : zGr) (hJ : zJ G 23) (x1 : Int32) (x2 : Int32) (M : zM) (o : Int32 × zM) (hf : fX6_ruledFor x1 x2 M = some o) : zMi l G shM 23 yX6_ruledFor cX6_ruledFor 3 (some .int) 2 47 [.ref (G.2.2.1 0), .int x1, .int x2] M o := by
  intro sz
  refine zOf (by decide) (Nat.le_of_ble_eq_true rfl) ?_
  intro p e R Q s m args below meth c hRm hsz hQ C0 hP hS ls hl
  subst hsz
  replace hRm : R = { frames := 2, cells := 0, slots := 0, locals := 47 } := hRm
  have hl : lv_has ls 3 [(0, .ref (G.2.2.1 0)), (1, .int x1), (2, .int x2)] := hl
  have hx := C0.1
  have hb := C0.2.1
  have hown := C0.2.2.2.1
  have hts := C0.2.2.2.2.1
  unfold fX6_ruledFor at hf
  obtain ⟨H, eH⟩ : ∃ H, H = s.heap := ⟨_, rfl⟩
  obtain ⟨locs, el⟩ : ∃ locs : List Loc, locs = [] := ⟨_, rfl⟩
  rw [← eH] at hP ⊢
  have hS : va_S (zA G 23 s.heap.size) s.heap H locs := by rw [eH, el]; exact hS
  rw [← el]
  refine lv_aload_n hx hb dX6_ruledFor_0 rfl (lv_at hl 0 rfl) ?_
  refine zr_getq (C := RX6) (T := TX6) (n := 51) C0 hP 0 (by decide) shM_0 27 11 rfl (by decide) uw_X6 mw_419 rfl dX6_ruledFor_1 ?_
  refine lv_iconst (v := (0 : Int32)) hx hb dX6_ruledFor_4 (by decide) ?_
  refine lv_aload_n hx hb dX6_ruledFor_5 rfl (lv_at hl 0 rfl) ?_
  refine zr_getq (C := RX6) (T := TX6) (n := 51) C0 hP 0 (by decide) shM_0 5 3 rfl (by decide) uw_X6 mw_403 rfl dX6_ruledFor_6 ?_
  refine lv_iload_n hx hb dX6_ruledFor_9 rfl (lv_at hl 2 rfl) ?_
  obtain ⟨hg_1, hf⟩ := zG_o hf
  refine zr_iald C0 hP 3 (by decide) shM_3 hg_1 dX6_ruledFor_10 ?_
  refine zr_iast C0 hJ hP hS 11 (by decide) shM_11 (by decide) dX6_ruledFor_11 (fun H locs hP hS => ?_)
  obtain ⟨M_2, eM_2, hf⟩ := zL_o hf
  have hP : va_P G.1 zcl (zw G shM 23 M_2) H := by rw [eM_2]; exact hP
  refine lv_aload_n hx hb dX6_ruledFor_12 rfl (lv_at hl 0 rfl) ?_
  refine zr_getq (C := RX6) (T := TX6) (n := 51) C0 hP 0 (by decide) shM_0 27 11 rfl (by decide) uw_X6 mw_419 rfl dX6_ruledFor_13 ?_
  refine lv_iconst (v := (1 : Int32)) hx hb dX6_ruledFor_16 (by decide) ?_
  refine lv_aload_n hx hb dX6_ruledFor_17 rfl (lv_at hl 0 rfl) ?_
  refine zr_getq (C := RX6) (T := TX6) (n := 51) C0 hP 0 (by decide) shM_0 4 2 rfl (by decide) uw_X6 mw_402 rfl dX6_ruledFor_18 ?_
  refine lv_iload_n hx hb dX6_ruledFor_21 rfl (lv_at hl 2 rfl) ?_
  obtain ⟨hg_3, hf⟩ := zG_o hf
  refine zr_iald C0 hP 2 (by decide) shM_2 hg_3 dX6_ruledFor_22 ?_
  refine zr_iast C0 hJ hP hS 11 (by decide) shM_11 (by decide) dX6_ruledFor_23 (fun H locs hP hS => ?_)
  obtain ⟨M_4, eM_4, hf⟩ := zL_o hf
  have hP : va_P G.1 zcl (zw G shM 23 M_4) H := by rw [eM_4]; exact hP
  refine lv_aload_n hx hb dX6_ruledFor_24 rfl (lv_at hl 0 rfl) ?_
  refine zr_getq (C := RX6) (T := TX6) (n := 51) C0 hP 0 (by decide) shM_0 27 11 rfl (by decide) uw_X6 mw_419 rfl dX6_ruledFor_25 ?_
  refine lv_iconst (v := (2 : Int32)) hx hb dX6_ruledFor_28 (by decide) ?_
  refine lv_aload_n hx hb dX6_ruledFor_29 rfl (lv_at hl 0 rfl) ?_
  refine zr_get (C := RX6) (T := TX6) (n := 51) C0 hP 0 (by decide) shM_0 1 rfl (by decide) uw_X6 mw_401 rfl dX6_ruledFor_30 ?_
  refine zr_iast C0 hJ hP hS 11 (by decide) shM_11 (by decide) dX6_ruledFor_33 (fun H locs hP hS => ?_)
  obtain ⟨M_5, eM_5, hf⟩ := zL_o hf
  have hP : va_P G.1 zcl (zw G shM 23 M_5) H := by rw [eM_5]; exact hP
  refine lv_aload_n hx hb dX6_ruledFor_34 rfl (lv_at hl 0 rfl) ?_
  refine zr_getq (C := RX6) (T := TX6) (n := 51) C0 hP 0 (by decide) shM_0 27 11 rfl (by decide) uw_X6 mw_419 rfl dX6_ruledFor_35 ?_
  refine lv_iconst (v := (3 : Int32)) hx hb dX6_ruledFor_38 (by decide) ?_
  refine lv_aload_n hx hb dX6_ruledFor_39 rfl (lv_at hl 0 rfl) ?_
  refine zr_get (C := RX6) (T := TX6) (n := 51) C0 hP 0 (by decide) shM_0 0 rfl (by decide) uw_X6 mw_400 rfl dX6_ruledFor_40 ?_
  refine zr_iast C0 hJ hP hS 11 (by decide) shM_11 (by decide) dX6_ruledFor_43 (fun H locs hP hS => ?_)
  obtain ⟨M_6, eM_6, hf⟩ := zL_o hf
  have hP : va_P G.1 zcl (zw G shM 23 M_6) H := by rw [eM_6]; exact hP
  refine lv_aload_n hx hb dX6_ruledFor_44 rfl (lv_at hl 0 rfl) ?_
  refine zr_getq (C := RX6) (T := TX6) (n := 51) C0 hP 0 (by decide) shM_0 27 11 rfl (by decide) uw_X6 mw_419 rfl dX6_ruledFor_45 ?_
  refine lv_iconst (v := (4 : Int32)) hx hb dX6_ruledFor_48 (by decide) ?_
  refine lv_aload_n hx hb dX6_ruledFor_49 rfl (lv_at hl 0 rfl) ?_
  refine zr_getq (C := RX6) (T := TX6) (n := 51) C0 hP 0 (by decide) shM_0 6 4 rfl (by decide) uw_X6 mw_404 rfl dX6_ruledFor_50 ?_
  refine lv_iload_n hx hb dX6_ruledFor_53 rfl (lv_at hl 2 rfl) ?_
  obtain ⟨hg_7, hf⟩ := zG_o hf
  refine zr_iald C0 hP 4 (by decide) shM_4 hg_7 dX6_ruledFor_54 ?_
  refine zr_iast C0 hJ hP hS 11 (by decide) shM_11 (by decide) dX6_ruledFor_55 (fun H locs hP hS => ?_)
  obtain ⟨M_8, eM_8, hf⟩ := zL_o hf
  have hP : va_P G.1 zcl (zw G shM 23 M_8) H := by rw [eM_8]; exact hP
  refine lv_aload_n hx hb dX6_ruledFor_56 rfl (lv_at hl 0 rfl) ?_
  refine zr_getq (C := RX6) (T := TX6) (n := 51) C0 hP 0 (by decide) shM_0 27 11 rfl (by decide) uw_X6 mw_419 rfl dX6_ruledFor_57 ?_
  refine lv_iconst (v := (5 : Int32)) hx hb dX6_ruledFor_60 (by decide) ?_
  refine lv_aload_n hx hb dX6_ruledFor_61 rfl (lv_at hl 0 rfl) ?_
  obtain ⟨r_11, M_9, hc_10, hf⟩ := zB_o hf
  refine zc_vi (As := []) (rest := [.int (5 : Int32), .ref (G.2.2.1 11)]) C0 hP hS hl.1 0 (mtX6_mostRue l G hJ M_8 _ hc_10) lk_X6_218 (by decide) shM_0 (T := TX6) (n' := 51) rfl ds_X6_mostRue (by rw [hRm]; exact ⟨Nat.le_of_ble_eq_true rfl, Nat.le_of_ble_eq_true rfl⟩) rfl rfl (Nat.le_of_ble_eq_true rfl) dX6_ruledFor_62 ⟨Nat.zero_le _, Nat.zero_le _⟩ (fun H locs hP hS => ?_)
  refine zr_iast C0 hJ hP hS 11 (by decide) shM_11 (by decide) dX6_ruledFor_65 (fun H locs hP hS => ?_)
  obtain ⟨M_12, eM_12, hf⟩ := zL_o hf
  have hP : va_P G.1 zcl (zw G shM 23 M_12) H := by rw [eM_12]; exact hP
  refine lv_aload_n hx hb dX6_ruledFor_66 rfl (lv_at hl 0 rfl) ?_
  refine lv_iload_n hx hb dX6_ruledFor_67 rfl (lv_at hl 1 rfl) ?_
  obtain ⟨r_15, M_13, hc_14, hf⟩ := zB_o hf
  refine zc_vi (As := [.int x1]) (rest := []) C0 hP hS hl.1 0 (mtX6_ruled l G hJ x1 M_12 _ hc_14) lk_X6_221 (by decide) shM_0 (T := TX6) (n' := 51) rfl ds_X6_ruled (by rw [hRm]; exact ⟨Nat.le_of_ble_eq_true rfl, Nat.le_of_ble_eq_true rfl⟩) rfl rfl (Nat.le_of_ble_eq_true rfl) dX6_ruledFor_68 ⟨Nat.zero_le _, Nat.zero_le _⟩ (fun H locs hP hS => ?_)
  exact ze_i C0 hP hS hf dX6_ruledFor_71 hQ
def fX6_runsOf_J125 (x3 : Int32) (M : zM) : Option (Int32 × zM) :=
  zB (fX6_bound x3 (0 : Int32) (9 : Int32) M) fun r_12 M_10 =>
  some (r_12, M_10)
def fX6_runsOf (x1 : Int32) (M : zM) : Option (Int32 × zM) :=
  zB (fX6_ruledFor (0 : Int32) x1 M) fun r_3 M_1 =>
  zB (fX6_bound r_3 (0 : Int32) (99 : Int32) M_1) fun r_6 M_4 =>
  zG (zin x1 5) <|
  if (M_4.1 1 x1.toNatClampNeg) = (1 : Int32) then
    zL (r_6 + (1 : Int32)) fun x3_9 =>
    fX6_runsOf_J125 x3_9 M_4
  else
    if (M_4.1 1 x1.toNatClampNeg) = (2 : Int32) then
      zL (r_6 / (2 : Int32)) fun x3_14 =>
      fX6_runsOf_J125 x3_14 M_4
    else
      if (M_4.1 1 x1.toNatClampNeg) = (3 : Int32) then
        zG (zin x1 5) <|
        zL ((r_6 + (1 : Int32)) - ((M_4.1 4 x1.toNatClampNeg) / (10 : Int32))) fun x3_17 =>
        fX6_runsOf_J125 x3_17 M_4
      else
        if (M_4.1 1 x1.toNatClampNeg) = (4 : Int32) then
          zG (zin x1 5) <|
          if (zrm (M_4.1 0 0) (7 : Int32)) = (M_4.1 2 x1.toNatClampNeg) then
            fX6_runsOf_J125 (9 : Int32) M_4
          else
            zL (r_6 / (2 : Int32)) fun x3_21 =>
            fX6_runsOf_J125 x3_21 M_4
        else
          if (M_4.1 1 x1.toNatClampNeg) = (5 : Int32) then
            zG (zin x1 5) <|
            zL (M_4.1 2 x1.toNatClampNeg) fun x3_24 =>
            fX6_runsOf_J125 x3_24 M_4
          else
            fX6_runsOf_J125 r_6 M_4
set_option maxHeartbeats 4000000 in
set_option maxRecDepth 100000 in
theorem mtX6_runsOf (l : Launch) (G : zGr) (hJ : zJ G 23) (x1 : Int32) (M : zM) (o : Int32 × zM) (hf : fX6_runsOf x1 M = some o) : zMi l G shM 23 yX6_runsOf cX6_runsOf 4 (some .int) 3 69 [.ref (G.2.2.1 0), .int x1] M o := by
  intro sz
  refine zOf (by decide) (Nat.le_of_ble_eq_true rfl) ?_
  intro p e R Q s m args below meth c hRm hsz hQ C0 hP hS ls hl
  subst hsz
  replace hRm : R = { frames := 3, cells := 0, slots := 0, locals := 69 } := hRm
  have hl : lv_has ls 4 [(0, .ref (G.2.2.1 0)), (1, .int x1)] := hl
  have hx := C0.1
  have hb := C0.2.1
  have hown := C0.2.2.2.1
  have hts := C0.2.2.2.2.1
  have J125 : ∀ (x3 : Int32) (M : zM) (H : Heap) (locs : List Loc) (ls : Array Slot), lv_has ls 4 [(3, .int x3)] → va_P G.1 zcl (zw G shM 23 M) H → va_S (zA G 23 s.heap.size) s.heap H locs → fX6_runsOf_J125 x3 M = some o → W p l e R s m args below meth c H locs 0 0 Q (F0 m 125 ls []) := by
    intro x3 M H locs ls hl hP hS hf
    unfold fX6_runsOf_J125 at hf
    refine lv_iload_n hx hb dX6_runsOf_125 rfl (lv_at hl 0 rfl) ?_
    refine lv_iconst (v := (0 : Int32)) hx hb dX6_runsOf_126 (by decide) ?_
    refine lv_bipush (v := (9 : Int32)) hx hb dX6_runsOf_127 (by decide) ?_
    obtain ⟨r_12, M_10, hc_11, hf⟩ := zB_o hf
    refine zc_si (As := [.int x3, .int (0 : Int32), .int (9 : Int32)]) (rest := []) C0 hP hS hl.1 (mtX6_bound l G hJ x3 (0 : Int32) (9 : Int32) M _ hc_11) ls_X6_227 ds_X6_bound (by rw [hRm]; exact ⟨Nat.le_of_ble_eq_true rfl, Nat.le_of_ble_eq_true rfl⟩) rfl rfl (Nat.le_of_ble_eq_true rfl) dX6_runsOf_129 ⟨Nat.zero_le _, Nat.zero_le _⟩ (fun H locs hP hS => ?_)
    exact ze_i C0 hP hS hf dX6_runsOf_132 hQ
  unfold fX6_runsOf at hf
  obtain ⟨H, eH⟩ : ∃ H, H = s.heap := ⟨_, rfl⟩
  obtain ⟨locs, el⟩ : ∃ locs : List Loc, locs = [] := ⟨_, rfl⟩
  rw [← eH] at hP ⊢
  have hS : va_S (zA G 23 s.heap.size) s.heap H locs := by rw [eH, el]; exact hS
  rw [← el]
  refine lv_aload_n hx hb dX6_runsOf_0 rfl (lv_at hl 0 rfl) ?_
  refine lv_iconst (v := (0 : Int32)) hx hb dX6_runsOf_1 (by decide) ?_
  refine lv_iload_n hx hb dX6_runsOf_2 rfl (lv_at hl 1 rfl) ?_
  obtain ⟨r_3, M_1, hc_2, hf⟩ := zB_o hf
  refine zc_vi (As := [.int (0 : Int32), .int x1]) (rest := []) C0 hP hS hl.1 0 (mtX6_ruledFor l G hJ (0 : Int32) x1 M _ hc_2) lk_X6_224 (by decide) shM_0 (T := TX6) (n' := 51) rfl ds_X6_ruledFor (by rw [hRm]; exact ⟨Nat.le_of_ble_eq_true rfl, Nat.le_of_ble_eq_true rfl⟩) rfl rfl (Nat.le_of_ble_eq_true rfl) dX6_runsOf_3 ⟨Nat.zero_le _, Nat.zero_le _⟩ (fun H locs hP hS => ?_)
  refine lv_iconst (v := (0 : Int32)) hx hb dX6_runsOf_6 (by decide) ?_
  refine lv_bipush (v := (99 : Int32)) hx hb dX6_runsOf_7 (by decide) ?_
  obtain ⟨r_6, M_4, hc_5, hf⟩ := zB_o hf
  refine zc_si (As := [.int r_3, .int (0 : Int32), .int (99 : Int32)]) (rest := []) C0 hP hS hl.1 (mtX6_bound l G hJ r_3 (0 : Int32) (99 : Int32) M_1 _ hc_5) ls_X6_227 ds_X6_bound (by rw [hRm]; exact ⟨Nat.le_of_ble_eq_true rfl, Nat.le_of_ble_eq_true rfl⟩) rfl rfl (Nat.le_of_ble_eq_true rfl) dX6_runsOf_9 ⟨Nat.zero_le _, Nat.zero_le _⟩ (fun H locs hP hS => ?_)
  refine lv_istore_n (lv' := [(2, .int r_6), (0, .ref (G.2.2.1 0)), (1, .int x1)]) hx hb dX6_runsOf_12 rfl hl (by decide) rfl (fun ls hl => ?_)
  refine lv_iload_n hx hb dX6_runsOf_13 rfl (lv_at hl 0 rfl) ?_
  refine lv_istore_n (lv' := [(3, .int r_6), (2, .int r_6), (0, .ref (G.2.2.1 0)), (1, .int x1)]) hx hb dX6_runsOf_14 rfl hl (by decide) rfl (fun ls hl => ?_)
  refine lv_aload_n hx hb dX6_runsOf_15 rfl (lv_at hl 2 rfl) ?_
  refine zr_getq (C := RX6) (T := TX6) (n := 51) C0 hP 0 (by decide) shM_0 3 1 rfl (by decide) uw_X6 mw_413 rfl dX6_runsOf_16 ?_
  refine lv_iload_n hx hb dX6_runsOf_19 rfl (lv_at hl 3 rfl) ?_
  obtain ⟨hg_7, hf⟩ := zG_o hf
  refine zr_iald C0 hP 1 (by decide) shM_1 hg_7 dX6_runsOf_20 ?_
  refine if c_8 : (M_4.1 1 x1.toNatClampNeg) = (1 : Int32) then ?_ else ?_
  · replace hf := zI_t c_8 hf
    refine lv_tableIn (tgt := 56) hx hb dX6_runsOf_21 (by rw [c_8]; decide) (by rw [c_8]; decide) (off := 35) (by rw [c_8]; decide) (by decide) ?_
    refine lv_iload_n hx hb dX6_runsOf_56 rfl (lv_at hl 1 rfl) ?_
    refine lv_iconst (v := (1 : Int32)) hx hb dX6_runsOf_57 (by decide) ?_
    refine lv_iadd hx hb dX6_runsOf_58 ?_
    refine lv_topi (fun x3_9 ex3_9 => ?_)
    replace hf := zL_e ex3_9 hf
    refine lv_istore_n (lv' := [(3, .int x3_9), (2, .int r_6), (0, .ref (G.2.2.1 0)), (1, .int x1)]) hx hb dX6_runsOf_59 rfl hl (by decide) rfl (fun ls hl => ?_)
    refine lv_goto (tgt := 125) hx hb dX6_runsOf_60 (by decide) ?_
    exact J125 x3_9 M_4 H locs ls (lv_sub hl [0] rfl) hP hS hf
  · replace hf := zI_f c_8 hf
    refine if c_13 : (M_4.1 1 x1.toNatClampNeg) = (2 : Int32) then ?_ else ?_
    · replace hf := zI_t c_13 hf
      refine lv_tableIn (tgt := 63) hx hb dX6_runsOf_21 (by rw [c_13]; decide) (by rw [c_13]; decide) (off := 42) (by rw [c_13]; decide) (by decide) ?_
      refine lv_iload_n hx hb dX6_runsOf_63 rfl (lv_at hl 1 rfl) ?_
      refine lv_iconst (v := (2 : Int32)) hx hb dX6_runsOf_64 (by decide) ?_
      refine lv_idiv hx hb dX6_runsOf_65 (by decide) ?_
      refine lv_topi (fun x3_14 ex3_14 => ?_)
      replace hf := zL_e ex3_14 hf
      refine lv_istore_n (lv' := [(3, .int x3_14), (2, .int r_6), (0, .ref (G.2.2.1 0)), (1, .int x1)]) hx hb dX6_runsOf_66 rfl hl (by decide) rfl (fun ls hl => ?_)
      refine lv_goto (tgt := 125) hx hb dX6_runsOf_67 (by decide) ?_
      exact J125 x3_14 M_4 H locs ls (lv_sub hl [0] rfl) hP hS hf
    · replace hf := zI_f c_13 hf
      refine if c_15 : (M_4.1 1 x1.toNatClampNeg) = (3 : Int32) then ?_ else ?_
      · replace hf := zI_t c_15 hf
        refine lv_tableIn (tgt := 70) hx hb dX6_runsOf_21 (by rw [c_15]; decide) (by rw [c_15]; decide) (off := 49) (by rw [c_15]; decide) (by decide) ?_
        refine lv_iload_n hx hb dX6_runsOf_70 rfl (lv_at hl 1 rfl) ?_
        refine lv_iconst (v := (1 : Int32)) hx hb dX6_runsOf_71 (by decide) ?_
        refine lv_iadd hx hb dX6_runsOf_72 ?_
        refine lv_aload_n hx hb dX6_runsOf_73 rfl (lv_at hl 2 rfl) ?_
        refine zr_getq (C := RX6) (T := TX6) (n := 51) C0 hP 0 (by decide) shM_0 6 4 rfl (by decide) uw_X6 mw_404 rfl dX6_runsOf_74 ?_
        refine lv_iload_n hx hb dX6_runsOf_77 rfl (lv_at hl 3 rfl) ?_
        obtain ⟨hg_16, hf⟩ := zG_o hf
        refine zr_iald C0 hP 4 (by decide) shM_4 hg_16 dX6_runsOf_78 ?_
        refine lv_bipush (v := (10 : Int32)) hx hb dX6_runsOf_79 (by decide) ?_
        refine lv_idiv hx hb dX6_runsOf_81 (by decide) ?_
        refine lv_isub hx hb dX6_runsOf_82 ?_
        refine lv_topi (fun x3_17 ex3_17 => ?_)
        replace hf := zL_e ex3_17 hf
        refine lv_istore_n (lv' := [(3, .int x3_17), (2, .int r_6), (0, .ref (G.2.2.1 0)), (1, .int x1)]) hx hb dX6_runsOf_83 rfl hl (by decide) rfl (fun ls hl => ?_)
        refine lv_goto (tgt := 125) hx hb dX6_runsOf_84 (by decide) ?_
        exact J125 x3_17 M_4 H locs ls (lv_sub hl [0] rfl) hP hS hf
      · replace hf := zI_f c_15 hf
        refine if c_18 : (M_4.1 1 x1.toNatClampNeg) = (4 : Int32) then ?_ else ?_
        · replace hf := zI_t c_18 hf
          refine lv_tableIn (tgt := 87) hx hb dX6_runsOf_21 (by rw [c_18]; decide) (by rw [c_18]; decide) (off := 66) (by rw [c_18]; decide) (by decide) ?_
          refine lv_aload_n hx hb dX6_runsOf_87 rfl (lv_at hl 2 rfl) ?_
          refine zr_get (C := RX6) (T := TX6) (n := 51) C0 hP 0 (by decide) shM_0 0 rfl (by decide) uw_X6 mw_400 rfl dX6_runsOf_88 ?_
          refine lv_bipush (v := (7 : Int32)) hx hb dX6_runsOf_91 (by decide) ?_
          refine zo_irem hx hb dX6_runsOf_93 (by decide) ?_
          refine lv_aload_n hx hb dX6_runsOf_94 rfl (lv_at hl 2 rfl) ?_
          refine zr_getq (C := RX6) (T := TX6) (n := 51) C0 hP 0 (by decide) shM_0 4 2 rfl (by decide) uw_X6 mw_402 rfl dX6_runsOf_95 ?_
          refine lv_iload_n hx hb dX6_runsOf_98 rfl (lv_at hl 3 rfl) ?_
          obtain ⟨hg_19, hf⟩ := zG_o hf
          refine zr_iald C0 hP 2 (by decide) shM_2 hg_19 dX6_runsOf_99 ?_
          refine lv_icmp_ne (tgt := 108) hx hb dX6_runsOf_100 (by decide) (fun c_20 => ?_) (fun c_20 => ?_)
          · replace hf := zI_f c_20 hf
            refine lv_iload_n hx hb dX6_runsOf_108 rfl (lv_at hl 1 rfl) ?_
            refine lv_iconst (v := (2 : Int32)) hx hb dX6_runsOf_109 (by decide) ?_
            refine lv_idiv hx hb dX6_runsOf_110 (by decide) ?_
            refine lv_topi (fun x3_21 ex3_21 => ?_)
            replace hf := zL_e ex3_21 hf
            refine lv_istore_n (lv' := [(3, .int x3_21), (2, .int r_6), (0, .ref (G.2.2.1 0)), (1, .int x1)]) hx hb dX6_runsOf_111 rfl hl (by decide) rfl (fun ls hl => ?_)
            refine lv_goto (tgt := 125) hx hb dX6_runsOf_112 (by decide) ?_
            exact J125 x3_21 M_4 H locs ls (lv_sub hl [0] rfl) hP hS hf
          · replace hf := zI_t c_20 hf
            refine lv_bipush (v := (9 : Int32)) hx hb dX6_runsOf_103 (by decide) ?_
            refine lv_goto (tgt := 111) hx hb dX6_runsOf_105 (by decide) ?_
            refine lv_istore_n (lv' := [(3, .int (9 : Int32)), (2, .int r_6), (0, .ref (G.2.2.1 0)), (1, .int x1)]) hx hb dX6_runsOf_111 rfl hl (by decide) rfl (fun ls hl => ?_)
            refine lv_goto (tgt := 125) hx hb dX6_runsOf_112 (by decide) ?_
            exact J125 (9 : Int32) M_4 H locs ls (lv_sub hl [0] rfl) hP hS hf
        · replace hf := zI_f c_18 hf
          refine if c_22 : (M_4.1 1 x1.toNatClampNeg) = (5 : Int32) then ?_ else ?_
          · replace hf := zI_t c_22 hf
            refine lv_tableIn (tgt := 115) hx hb dX6_runsOf_21 (by rw [c_22]; decide) (by rw [c_22]; decide) (off := 94) (by rw [c_22]; decide) (by decide) ?_
            refine lv_aload_n hx hb dX6_runsOf_115 rfl (lv_at hl 2 rfl) ?_
            refine zr_getq (C := RX6) (T := TX6) (n := 51) C0 hP 0 (by decide) shM_0 4 2 rfl (by decide) uw_X6 mw_402 rfl dX6_runsOf_116 ?_
            refine lv_iload_n hx hb dX6_runsOf_119 rfl (lv_at hl 3 rfl) ?_
            obtain ⟨hg_23, hf⟩ := zG_o hf
            refine zr_iald C0 hP 2 (by decide) shM_2 hg_23 dX6_runsOf_120 ?_
            refine lv_topi (fun x3_24 ex3_24 => ?_)
            replace hf := zL_e ex3_24 hf
            refine lv_istore_n (lv' := [(3, .int x3_24), (2, .int r_6), (0, .ref (G.2.2.1 0)), (1, .int x1)]) hx hb dX6_runsOf_121 rfl hl (by decide) rfl (fun ls hl => ?_)
            refine lv_goto (tgt := 125) hx hb dX6_runsOf_122 (by decide) ?_
            exact J125 x3_24 M_4 H locs ls (lv_sub hl [0] rfl) hP hS hf
          · replace hf := zI_f c_22 hf
            have tc_8 := lv_neT (a := 1) c_8 (by decide)
            have tc_13 := lv_neT (a := 2) c_13 (by decide)
            have tc_15 := lv_neT (a := 3) c_15 (by decide)
            have tc_18 := lv_neT (a := 4) c_18 (by decide)
            have tc_22 := lv_neT (a := 5) c_22 (by decide)
            refine lv_tableOut (tgt := 125) hx hb dX6_runsOf_21 (by omega) (by decide) ?_
            exact J125 r_6 M_4 H locs ls (lv_sub hl [0] rfl) hP hS hf
def fX6_isClogged_J14 (x1 : Int32) (v0 : Int32) (M : zM) : Option (Int32 × zM) :=
  zG (zin x1 5) <|
  if (M.1 1 x1.toNatClampNeg) = (1 : Int32) then
    if v0 = (0 : Int32) then
      some ((0 : Int32), M)
    else
      if (M.1 0 1) ≤ (3 : Int32) then
        some ((0 : Int32), M)
      else
        some ((1 : Int32), M)
  else
    if (M.1 1 x1.toNatClampNeg) = (2 : Int32) then
      some ((0 : Int32), M)
    else
      if (M.1 1 x1.toNatClampNeg) = (3 : Int32) then
        if v0 = (0 : Int32) then
          zG (zin x1 5) <|
          if (M.1 4 x1.toNatClampNeg) ≤ (50 : Int32) then
            some ((0 : Int32), M)
          else
            some ((1 : Int32), M)
        else
          if (3 : Int32) < (M.1 0 1) then
            some ((1 : Int32), M)
          else
            zG (zin x1 5) <|
            if (M.1 4 x1.toNatClampNeg) ≤ (50 : Int32) then
              some ((0 : Int32), M)
            else
              some ((1 : Int32), M)
      else
        if (M.1 1 x1.toNatClampNeg) = (4 : Int32) then
          some ((0 : Int32), M)
        else
          zG (zbo v0) <|
          some (v0, M)
def fX6_isClogged (x1 : Int32) (M : zM) : Option (Int32 × zM) :=
  zB (fX6_ruledFor (1 : Int32) x1 M) fun r_3 M_1 =>
  if r_3 = (0 : Int32) then
    fX6_isClogged_J14 x1 (0 : Int32) M_1
  else
    fX6_isClogged_J14 x1 (1 : Int32) M_1
set_option maxHeartbeats 4000000 in
set_option maxRecDepth 100000 in
theorem mtX6_isClogged (l : Launch) (G : zGr) (hJ : zJ G 23) (x1 : Int32) (M : zM) (o : Int32 × zM) (hf : fX6_isClogged x1 M = some o) : zMi l G shM 23 yX6_isClogged cX6_isClogged 3 (some .boolean) 3 69 [.ref (G.2.2.1 0), .int x1] M o := by
  intro sz
  refine zOf (by decide) (Nat.le_of_ble_eq_true rfl) ?_
  intro p e R Q s m args below meth c hRm hsz hQ C0 hP hS ls hl
  subst hsz
  replace hRm : R = { frames := 3, cells := 0, slots := 0, locals := 69 } := hRm
  have hl : lv_has ls 3 [(0, .ref (G.2.2.1 0)), (1, .int x1)] := hl
  have hx := C0.1
  have hb := C0.2.1
  have hown := C0.2.2.2.1
  have hts := C0.2.2.2.2.1
  have J14 : ∀ (x1 : Int32) (v0 : Int32) (M : zM) (H : Heap) (locs : List Loc) (ls : Array Slot), lv_has ls 3 [(0, .ref (G.2.2.1 0)), (1, .int x1)] → va_P G.1 zcl (zw G shM 23 M) H → va_S (zA G 23 s.heap.size) s.heap H locs → fX6_isClogged_J14 x1 v0 M = some o → W p l e R s m args below meth c H locs 0 0 Q (F0 m 14 ls [.int v0]) := by
    intro x1 v0 M H locs ls hl hP hS hf
    unfold fX6_isClogged_J14 at hf
    refine lv_istore_n (lv' := [(2, .int v0), (0, .ref (G.2.2.1 0)), (1, .int x1)]) hx hb dX6_isClogged_14 rfl hl (by decide) rfl (fun ls hl => ?_)
    refine lv_aload_n hx hb dX6_isClogged_15 rfl (lv_at hl 1 rfl) ?_
    refine zr_getq (C := RX6) (T := TX6) (n := 51) C0 hP 0 (by decide) shM_0 3 1 rfl (by decide) uw_X6 mw_413 rfl dX6_isClogged_16 ?_
    refine lv_iload_n hx hb dX6_isClogged_19 rfl (lv_at hl 2 rfl) ?_
    obtain ⟨hg_5, hf⟩ := zG_o hf
    refine zr_iald C0 hP 1 (by decide) shM_1 hg_5 dX6_isClogged_20 ?_
    refine if c_6 : (M.1 1 x1.toNatClampNeg) = (1 : Int32) then ?_ else ?_
    · replace hf := zI_t c_6 hf
      refine lv_tableIn (tgt := 52) hx hb dX6_isClogged_21 (by rw [c_6]; decide) (by rw [c_6]; decide) (off := 31) (by rw [c_6]; decide) (by decide) ?_
      refine lv_iload_n hx hb dX6_isClogged_52 rfl (lv_at hl 0 rfl) ?_
      refine lv_if_eq (tgt := 68) hx hb dX6_isClogged_53 (by decide) (fun c_7 => ?_) (fun c_7 => ?_)
      · replace hf := zI_t c_7 hf
        refine lv_iconst (v := (0 : Int32)) hx hb dX6_isClogged_68 (by decide) ?_
        exact ze_z C0 hP hS (by decide) hf dX6_isClogged_69 hQ
      · replace hf := zI_f c_7 hf
        refine lv_aload_n hx hb dX6_isClogged_56 rfl (lv_at hl 1 rfl) ?_
        refine zr_get (C := RX6) (T := TX6) (n := 51) C0 hP 0 (by decide) shM_0 1 rfl (by decide) uw_X6 mw_401 rfl dX6_isClogged_57 ?_
        refine lv_iconst (v := (3 : Int32)) hx hb dX6_isClogged_60 (by decide) ?_
        refine lv_icmp_le (tgt := 68) hx hb dX6_isClogged_61 (by decide) (fun c_8 => ?_) (fun c_8 => ?_)
        · replace hf := zI_t c_8 hf
          refine lv_iconst (v := (0 : Int32)) hx hb dX6_isClogged_68 (by decide) ?_
          exact ze_z C0 hP hS (by decide) hf dX6_isClogged_69 hQ
        · replace hf := zI_f c_8 hf
          refine lv_iconst (v := (1 : Int32)) hx hb dX6_isClogged_64 (by decide) ?_
          refine lv_goto (tgt := 69) hx hb dX6_isClogged_65 (by decide) ?_
          exact ze_z C0 hP hS (by decide) hf dX6_isClogged_69 hQ
    · replace hf := zI_f c_6 hf
      refine if c_9 : (M.1 1 x1.toNatClampNeg) = (2 : Int32) then ?_ else ?_
      · replace hf := zI_t c_9 hf
        refine lv_tableIn (tgt := 70) hx hb dX6_isClogged_21 (by rw [c_9]; decide) (by rw [c_9]; decide) (off := 49) (by rw [c_9]; decide) (by decide) ?_
        refine lv_iconst (v := (0 : Int32)) hx hb dX6_isClogged_70 (by decide) ?_
        exact ze_z C0 hP hS (by decide) hf dX6_isClogged_71 hQ
      · replace hf := zI_f c_9 hf
        refine if c_10 : (M.1 1 x1.toNatClampNeg) = (3 : Int32) then ?_ else ?_
        · replace hf := zI_t c_10 hf
          refine lv_tableIn (tgt := 72) hx hb dX6_isClogged_21 (by rw [c_10]; decide) (by rw [c_10]; decide) (off := 51) (by rw [c_10]; decide) (by decide) ?_
          refine lv_iload_n hx hb dX6_isClogged_72 rfl (lv_at hl 0 rfl) ?_
          refine lv_if_eq (tgt := 84) hx hb dX6_isClogged_73 (by decide) (fun c_11 => ?_) (fun c_11 => ?_)
          · replace hf := zI_t c_11 hf
            refine lv_aload_n hx hb dX6_isClogged_84 rfl (lv_at hl 1 rfl) ?_
            refine zr_getq (C := RX6) (T := TX6) (n := 51) C0 hP 0 (by decide) shM_0 6 4 rfl (by decide) uw_X6 mw_404 rfl dX6_isClogged_85 ?_
            refine lv_iload_n hx hb dX6_isClogged_88 rfl (lv_at hl 2 rfl) ?_
            obtain ⟨hg_12, hf⟩ := zG_o hf
            refine zr_iald C0 hP 4 (by decide) shM_4 hg_12 dX6_isClogged_89 ?_
            refine lv_bipush (v := (50 : Int32)) hx hb dX6_isClogged_90 (by decide) ?_
            refine lv_icmp_le (tgt := 99) hx hb dX6_isClogged_92 (by decide) (fun c_13 => ?_) (fun c_13 => ?_)
            · replace hf := zI_t c_13 hf
              refine lv_iconst (v := (0 : Int32)) hx hb dX6_isClogged_99 (by decide) ?_
              exact ze_z C0 hP hS (by decide) hf dX6_isClogged_100 hQ
            · replace hf := zI_f c_13 hf
              refine lv_iconst (v := (1 : Int32)) hx hb dX6_isClogged_95 (by decide) ?_
              refine lv_goto (tgt := 100) hx hb dX6_isClogged_96 (by decide) ?_
              exact ze_z C0 hP hS (by decide) hf dX6_isClogged_100 hQ
          · replace hf := zI_f c_11 hf
            refine lv_aload_n hx hb dX6_isClogged_76 rfl (lv_at hl 1 rfl) ?_
            refine zr_get (C := RX6) (T := TX6) (n := 51) C0 hP 0 (by decide) shM_0 1 rfl (by decide) uw_X6 mw_401 rfl dX6_isClogged_77 ?_
            refine lv_iconst (v := (3 : Int32)) hx hb dX6_isClogged_80 (by decide) ?_
            refine lv_icmp_gt (tgt := 95) hx hb dX6_isClogged_81 (by decide) (fun c_14 => ?_) (fun c_14 => ?_)
            · replace hf := zI_t c_14 hf
              refine lv_iconst (v := (1 : Int32)) hx hb dX6_isClogged_95 (by decide) ?_
              refine lv_goto (tgt := 100) hx hb dX6_isClogged_96 (by decide) ?_
              exact ze_z C0 hP hS (by decide) hf dX6_isClogged_100 hQ
            · replace hf := zI_f c_14 hf
              refine lv_aload_n hx hb dX6_isClogged_84 rfl (lv_at hl 1 rfl) ?_
              refine zr_getq (C := RX6) (T := TX6) (n := 51) C0 hP 0 (by decide) shM_0 6 4 rfl (by decide) uw_X6 mw_404 rfl dX6_isClogged_85 ?_
              refine lv_iload_n hx hb dX6_isClogged_88 rfl (lv_at hl 2 rfl) ?_
              obtain ⟨hg_15, hf⟩ := zG_o hf
              refine zr_iald C0 hP 4 (by decide) shM_4 hg_15 dX6_isClogged_89 ?_
              refine lv_bipush (v := (50 : Int32)) hx hb dX6_isClogged_90 (by decide) ?_
              refine lv_icmp_le (tgt := 99) hx hb dX6_isClogged_92 (by decide) (fun c_16 => ?_) (fun c_16 => ?_)
              · replace hf := zI_t c_16 hf
                refine lv_iconst (v := (0 : Int32)) hx hb dX6_isClogged_99 (by decide) ?_
                exact ze_z C0 hP hS (by decide) hf dX6_isClogged_100 hQ
              · replace hf := zI_f c_16 hf
                refine lv_iconst (v := (1 : Int32)) hx hb dX6_isClogged_95 (by decide) ?_
                refine lv_goto (tgt := 100) hx hb dX6_isClogged_96 (by decide) ?_
                exact ze_z C0 hP hS (by decide) hf dX6_isClogged_100 hQ
        · replace hf := zI_f c_10 hf
          refine if c_17 : (M.1 1 x1.toNatClampNeg) = (4 : Int32) then ?_ else ?_
          · replace hf := zI_t c_17 hf
            refine lv_tableIn (tgt := 70) hx hb dX6_isClogged_21 (by rw [c_17]; decide) (by rw [c_17]; decide) (off := 49) (by rw [c_17]; decide) (by decide) ?_
            refine lv_iconst (v := (0 : Int32)) hx hb dX6_isClogged_70 (by decide) ?_
            exact ze_z C0 hP hS (by decide) hf dX6_isClogged_71 hQ
          · replace hf := zI_f c_17 hf
            have tc_6 := lv_neT (a := 1) c_6 (by decide)
            have tc_9 := lv_neT (a := 2) c_9 (by decide)
            have tc_10 := lv_neT (a := 3) c_10 (by decide)
            have tc_17 := lv_neT (a := 4) c_17 (by decide)
            refine lv_tableOut (tgt := 101) hx hb dX6_isClogged_21 (by omega) (by decide) ?_
            refine lv_iload_n hx hb dX6_isClogged_101 rfl (lv_at hl 0 rfl) ?_
            obtain ⟨hg_18, hf⟩ := zG_o hf
            exact ze_z C0 hP hS hg_18 hf dX6_isClogged_102 hQ
  unfold fX6_isClogged at hf
  obtain ⟨H, eH⟩ : ∃ H, H = s.heap := ⟨_, rfl⟩
  obtain ⟨locs, el⟩ : ∃ locs : List Loc, locs = [] := ⟨_, rfl⟩
  rw [← eH] at hP ⊢
  have hS : va_S (zA G 23 s.heap.size) s.heap H locs := by rw [eH, el]; exact hS
  rw [← el]
  refine lv_aload_n hx hb dX6_isClogged_0 rfl (lv_at hl 0 rfl) ?_
  refine lv_iconst (v := (1 : Int32)) hx hb dX6_isClogged_1 (by decide) ?_
  refine lv_iload_n hx hb dX6_isClogged_2 rfl (lv_at hl 1 rfl) ?_
  obtain ⟨r_3, M_1, hc_2, hf⟩ := zB_o hf
  refine zc_vi (As := [.int (1 : Int32), .int x1]) (rest := []) C0 hP hS hl.1 0 (mtX6_ruledFor l G hJ (1 : Int32) x1 M _ hc_2) lk_X6_224 (by decide) shM_0 (T := TX6) (n' := 51) rfl ds_X6_ruledFor (by rw [hRm]; exact ⟨Nat.le_of_ble_eq_true rfl, Nat.le_of_ble_eq_true rfl⟩) rfl rfl (Nat.le_of_ble_eq_true rfl) dX6_isClogged_3 ⟨Nat.zero_le _, Nat.zero_le _⟩ (fun H locs hP hS => ?_)
  refine lv_if_eq (tgt := 13) hx hb dX6_isClogged_6 (by decide) (fun c_4 => ?_) (fun c_4 => ?_)
  · replace hf := zI_t c_4 hf
    refine lv_iconst (v := (0 : Int32)) hx hb dX6_isClogged_13 (by decide) ?_
    exact J14 x1 (0 : Int32) M_1 H locs ls (lv_sub hl [0, 1] rfl) hP hS hf
  · replace hf := zI_f c_4 hf
    refine lv_iconst (v := (1 : Int32)) hx hb dX6_isClogged_9 (by decide) ?_
    refine lv_goto (tgt := 14) hx hb dX6_isClogged_10 (by decide) ?_
    exact J14 x1 (1 : Int32) M_1 H locs ls (lv_sub hl [0, 1] rfl) hP hS hf
def fX6_ruesOf (x1 : Int32) (M : zM) : Option (Int32 × zM) :=
  zB (fX6_ruledFor (2 : Int32) x1 M) fun r_3 M_1 =>
  zB (fX6_bound r_3 (0 : Int32) (99 : Int32) M_1) fun r_6 M_4 =>
  zG (zin x1 5) <|
  if (M_4.1 1 x1.toNatClampNeg) = (1 : Int32) then
    zB (fX6_bound ((2 : Int32) * r_6) (0 : Int32) (99 : Int32) M_4) fun r_11 M_9 =>
    some (r_11, M_9)
  else
    if (M_4.1 1 x1.toNatClampNeg) = (2 : Int32) then
      some ((0 : Int32), M_4)
    else
      if (M_4.1 1 x1.toNatClampNeg) = (3 : Int32) then
        zG (zin x1 5) <|
        zB (fX6_bound (((2 : Int32) * r_6) + (M_4.1 2 x1.toNatClampNeg)) (0 : Int32) (99 : Int32) M_4) fun r_17 M_15 =>
        some (r_17, M_15)
      else
        if (M_4.1 1 x1.toNatClampNeg) = (4 : Int32) then
          some ((1 : Int32), M_4)
        else
          if (M_4.1 1 x1.toNatClampNeg) = (5 : Int32) then
            zB (fX6_bound r_6 (0 : Int32) (5 : Int32) M_4) fun r_22 M_20 =>
            some (r_22, M_20)
          else
            some (r_6, M_4)
set_option maxHeartbeats 4000000 in
set_option maxRecDepth 100000 in
theorem mtX6_ruesOf (l : Launch) (G : zGr) (hJ : zJ G 23) (x1 : Int32) (M : zM) (o : Int32 × zM) (hf : fX6_ruesOf x1 M = some o) : zMi l G shM 23 yX6_ruesOf cX6_ruesOf 3 (some .int) 3 69 [.ref (G.2.2.1 0), .int x1] M o := by
  intro sz
  refine zOf (by decide) (Nat.le_of_ble_eq_true rfl) ?_
  intro p e R Q s m args below meth c hRm hsz hQ C0 hP hS ls hl
  subst hsz
  replace hRm : R = { frames := 3, cells := 0, slots := 0, locals := 69 } := hRm
  have hl : lv_has ls 3 [(0, .ref (G.2.2.1 0)), (1, .int x1)] := hl
  have hx := C0.1
  have hb := C0.2.1
  have hown := C0.2.2.2.1
  have hts := C0.2.2.2.2.1
  unfold fX6_ruesOf at hf
  obtain ⟨H, eH⟩ : ∃ H, H = s.heap := ⟨_, rfl⟩
  obtain ⟨locs, el⟩ : ∃ locs : List Loc, locs = [] := ⟨_, rfl⟩
  rw [← eH] at hP ⊢
  have hS : va_S (zA G 23 s.heap.size) s.heap H locs := by rw [eH, el]; exact hS
  rw [← el]
  refine lv_aload_n hx hb dX6_ruesOf_0 rfl (lv_at hl 0 rfl) ?_
  refine lv_iconst (v := (2 : Int32)) hx hb dX6_ruesOf_1 (by decide) ?_
  refine lv_iload_n hx hb dX6_ruesOf_2 rfl (lv_at hl 1 rfl) ?_
  obtain ⟨r_3, M_1, hc_2, hf⟩ := zB_o hf
  refine zc_vi (As := [.int (2 : Int32), .int x1]) (rest := []) C0 hP hS hl.1 0 (mtX6_ruledFor l G hJ (2 : Int32) x1 M _ hc_2) lk_X6_224 (by decide) shM_0 (T := TX6) (n' := 51) rfl ds_X6_ruledFor (by rw [hRm]; exact ⟨Nat.le_of_ble_eq_true rfl, Nat.le_of_ble_eq_true rfl⟩) rfl rfl (Nat.le_of_ble_eq_true rfl) dX6_ruesOf_3 ⟨Nat.zero_le _, Nat.zero_le _⟩ (fun H locs hP hS => ?_)
  refine lv_iconst (v := (0 : Int32)) hx hb dX6_ruesOf_6 (by decide) ?_
  refine lv_bipush (v := (99 : Int32)) hx hb dX6_ruesOf_7 (by decide) ?_
  obtain ⟨r_6, M_4, hc_5, hf⟩ := zB_o hf
  refine zc_si (As := [.int r_3, .int (0 : Int32), .int (99 : Int32)]) (rest := []) C0 hP hS hl.1 (mtX6_bound l G hJ r_3 (0 : Int32) (99 : Int32) M_1 _ hc_5) ls_X6_227 ds_X6_bound (by rw [hRm]; exact ⟨Nat.le_of_ble_eq_true rfl, Nat.le_of_ble_eq_true rfl⟩) rfl rfl (Nat.le_of_ble_eq_true rfl) dX6_ruesOf_9 ⟨Nat.zero_le _, Nat.zero_le _⟩ (fun H locs hP hS => ?_)
  refine lv_istore_n (lv' := [(2, .int r_6), (0, .ref (G.2.2.1 0)), (1, .int x1)]) hx hb dX6_ruesOf_12 rfl hl (by decide) rfl (fun ls hl => ?_)
  refine lv_aload_n hx hb dX6_ruesOf_13 rfl (lv_at hl 1 rfl) ?_
  refine zr_getq (C := RX6) (T := TX6) (n := 51) C0 hP 0 (by decide) shM_0 3 1 rfl (by decide) uw_X6 mw_413 rfl dX6_ruesOf_14 ?_
  refine lv_iload_n hx hb dX6_ruesOf_17 rfl (lv_at hl 2 rfl) ?_
  obtain ⟨hg_7, hf⟩ := zG_o hf
  refine zr_iald C0 hP 1 (by decide) shM_1 hg_7 dX6_ruesOf_18 ?_
  refine if c_8 : (M_4.1 1 x1.toNatClampNeg) = (1 : Int32) then ?_ else ?_
  · replace hf := zI_t c_8 hf
    refine lv_tableIn (tgt := 52) hx hb dX6_ruesOf_19 (by rw [c_8]; decide) (by rw [c_8]; decide) (off := 33) (by rw [c_8]; decide) (by decide) ?_
    refine lv_iconst (v := (2 : Int32)) hx hb dX6_ruesOf_52 (by decide) ?_
    refine lv_iload_n hx hb dX6_ruesOf_53 rfl (lv_at hl 0 rfl) ?_
    refine lv_imul hx hb dX6_ruesOf_54 ?_
    refine lv_iconst (v := (0 : Int32)) hx hb dX6_ruesOf_55 (by decide) ?_
    refine lv_bipush (v := (99 : Int32)) hx hb dX6_ruesOf_56 (by decide) ?_
    obtain ⟨r_11, M_9, hc_10, hf⟩ := zB_o hf
    refine zc_si (As := [.int ((2 : Int32) * r_6), .int (0 : Int32), .int (99 : Int32)]) (rest := []) C0 hP hS hl.1 (mtX6_bound l G hJ ((2 : Int32) * r_6) (0 : Int32) (99 : Int32) M_4 _ hc_10) ls_X6_227 ds_X6_bound (by rw [hRm]; exact ⟨Nat.le_of_ble_eq_true rfl, Nat.le_of_ble_eq_true rfl⟩) rfl rfl (Nat.le_of_ble_eq_true rfl) dX6_ruesOf_58 ⟨Nat.zero_le _, Nat.zero_le _⟩ (fun H locs hP hS => ?_)
    exact ze_i C0 hP hS hf dX6_ruesOf_61 hQ
  · replace hf := zI_f c_8 hf
    refine if c_12 : (M_4.1 1 x1.toNatClampNeg) = (2 : Int32) then ?_ else ?_
    · replace hf := zI_t c_12 hf
      refine lv_tableIn (tgt := 62) hx hb dX6_ruesOf_19 (by rw [c_12]; decide) (by rw [c_12]; decide) (off := 43) (by rw [c_12]; decide) (by decide) ?_
      refine lv_iconst (v := (0 : Int32)) hx hb dX6_ruesOf_62 (by decide) ?_
      exact ze_i C0 hP hS hf dX6_ruesOf_63 hQ
    · replace hf := zI_f c_12 hf
      refine if c_13 : (M_4.1 1 x1.toNatClampNeg) = (3 : Int32) then ?_ else ?_
      · replace hf := zI_t c_13 hf
        refine lv_tableIn (tgt := 64) hx hb dX6_ruesOf_19 (by rw [c_13]; decide) (by rw [c_13]; decide) (off := 45) (by rw [c_13]; decide) (by decide) ?_
        refine lv_iconst (v := (2 : Int32)) hx hb dX6_ruesOf_64 (by decide) ?_
        refine lv_iload_n hx hb dX6_ruesOf_65 rfl (lv_at hl 0 rfl) ?_
        refine lv_imul hx hb dX6_ruesOf_66 ?_
        refine lv_aload_n hx hb dX6_ruesOf_67 rfl (lv_at hl 1 rfl) ?_
        refine zr_getq (C := RX6) (T := TX6) (n := 51) C0 hP 0 (by decide) shM_0 4 2 rfl (by decide) uw_X6 mw_402 rfl dX6_ruesOf_68 ?_
        refine lv_iload_n hx hb dX6_ruesOf_71 rfl (lv_at hl 2 rfl) ?_
        obtain ⟨hg_14, hf⟩ := zG_o hf
        refine zr_iald C0 hP 2 (by decide) shM_2 hg_14 dX6_ruesOf_72 ?_
        refine lv_iadd hx hb dX6_ruesOf_73 ?_
        refine lv_iconst (v := (0 : Int32)) hx hb dX6_ruesOf_74 (by decide) ?_
        refine lv_bipush (v := (99 : Int32)) hx hb dX6_ruesOf_75 (by decide) ?_
        obtain ⟨r_17, M_15, hc_16, hf⟩ := zB_o hf
        refine zc_si (As := [.int (((2 : Int32) * r_6) + (M_4.1 2 x1.toNatClampNeg)), .int (0 : Int32), .int (99 : Int32)]) (rest := []) C0 hP hS hl.1 (mtX6_bound l G hJ (((2 : Int32) * r_6) + (M_4.1 2 x1.toNatClampNeg)) (0 : Int32) (99 : Int32) M_4 _ hc_16) ls_X6_227 ds_X6_bound (by rw [hRm]; exact ⟨Nat.le_of_ble_eq_true rfl, Nat.le_of_ble_eq_true rfl⟩) rfl rfl (Nat.le_of_ble_eq_true rfl) dX6_ruesOf_77 ⟨Nat.zero_le _, Nat.zero_le _⟩ (fun H locs hP hS => ?_)
        exact ze_i C0 hP hS hf dX6_ruesOf_80 hQ
      · replace hf := zI_f c_13 hf
        refine if c_18 : (M_4.1 1 x1.toNatClampNeg) = (4 : Int32) then ?_ else ?_
        · replace hf := zI_t c_18 hf
          refine lv_tableIn (tgt := 81) hx hb dX6_ruesOf_19 (by rw [c_18]; decide) (by rw [c_18]; decide) (off := 62) (by rw [c_18]; decide) (by decide) ?_
          refine lv_iconst (v := (1 : Int32)) hx hb dX6_ruesOf_81 (by decide) ?_
          exact ze_i C0 hP hS hf dX6_ruesOf_82 hQ
        · replace hf := zI_f c_18 hf
          refine if c_19 : (M_4.1 1 x1.toNatClampNeg) = (5 : Int32) then ?_ else ?_
          · replace hf := zI_t c_19 hf
            refine lv_tableIn (tgt := 83) hx hb dX6_ruesOf_19 (by rw [c_19]; decide) (by rw [c_19]; decide) (off := 64) (by rw [c_19]; decide) (by decide) ?_
            refine lv_iload_n hx hb dX6_ruesOf_83 rfl (lv_at hl 0 rfl) ?_
            refine lv_iconst (v := (0 : Int32)) hx hb dX6_ruesOf_84 (by decide) ?_
            refine lv_iconst (v := (5 : Int32)) hx hb dX6_ruesOf_85 (by decide) ?_
            obtain ⟨r_22, M_20, hc_21, hf⟩ := zB_o hf
            refine zc_si (As := [.int r_6, .int (0 : Int32), .int (5 : Int32)]) (rest := []) C0 hP hS hl.1 (mtX6_bound l G hJ r_6 (0 : Int32) (5 : Int32) M_4 _ hc_21) ls_X6_227 ds_X6_bound (by rw [hRm]; exact ⟨Nat.le_of_ble_eq_true rfl, Nat.le_of_ble_eq_true rfl⟩) rfl rfl (Nat.le_of_ble_eq_true rfl) dX6_ruesOf_86 ⟨Nat.zero_le _, Nat.zero_le _⟩ (fun H locs hP hS => ?_)
            exact ze_i C0 hP hS hf dX6_ruesOf_89 hQ
          · replace hf := zI_f c_19 hf
            have tc_8 := lv_neT (a := 1) c_8 (by decide)
            have tc_12 := lv_neT (a := 2) c_12 (by decide)
            have tc_13 := lv_neT (a := 3) c_13 (by decide)
            have tc_18 := lv_neT (a := 4) c_18 (by decide)
            have tc_19 := lv_neT (a := 5) c_19 (by decide)
            refine lv_tableOut (tgt := 90) hx hb dX6_ruesOf_19 (by omega) (by decide) ?_
            refine lv_iload_n hx hb dX6_ruesOf_90 rfl (lv_at hl 0 rfl) ?_
            exact ze_i C0 hP hS hf dX6_ruesOf_91 hQ
def fX6_minutes (x1 : Int32) (M : zM) : Option (Int32 × zM) :=
  zB (fX6_isClogged x1 M) fun r_3 M_1 =>
  if r_3 = (0 : Int32) then
    zB (fX6_runsOf x1 M_1) fun r_7 M_5 =>
    some (r_7, M_5)
  else
    some ((0 : Int32), M_1)
set_option maxHeartbeats 4000000 in
set_option maxRecDepth 100000 in
theorem mtX6_minutes (l : Launch) (G : zGr) (hJ : zJ G 23) (x1 : Int32) (M : zM) (o : Int32 × zM) (hf : fX6_minutes x1 M = some o) : zMi l G shM 23 yX6_minutes cX6_minutes 2 (some .int) 4 92 [.ref (G.2.2.1 0), .int x1] M o := by
  intro sz
  refine zOf (by decide) (Nat.le_of_ble_eq_true rfl) ?_
  intro p e R Q s m args below meth c hRm hsz hQ C0 hP hS ls hl
  subst hsz
  replace hRm : R = { frames := 4, cells := 0, slots := 0, locals := 92 } := hRm
  have hl : lv_has ls 2 [(0, .ref (G.2.2.1 0)), (1, .int x1)] := hl
  have hx := C0.1
  have hb := C0.2.1
  have hown := C0.2.2.2.1
  have hts := C0.2.2.2.2.1
  unfold fX6_minutes at hf
  obtain ⟨H, eH⟩ : ∃ H, H = s.heap := ⟨_, rfl⟩
  obtain ⟨locs, el⟩ : ∃ locs : List Loc, locs = [] := ⟨_, rfl⟩
  rw [← eH] at hP ⊢
  have hS : va_S (zA G 23 s.heap.size) s.heap H locs := by rw [eH, el]; exact hS
  rw [← el]
  refine lv_aload_n hx hb dX6_minutes_0 rfl (lv_at hl 0 rfl) ?_
  refine lv_iload_n hx hb dX6_minutes_1 rfl (lv_at hl 1 rfl) ?_
  obtain ⟨r_3, M_1, hc_2, hf⟩ := zB_o hf
  refine zc_vi (As := [.int x1]) (rest := []) C0 hP hS hl.1 0 (mtX6_isClogged l G hJ x1 M _ hc_2) lk_X6_114 (by decide) shM_0 (T := TX6) (n' := 51) rfl ds_X6_isClogged (by rw [hRm]; exact ⟨Nat.le_of_ble_eq_true rfl, Nat.le_of_ble_eq_true rfl⟩) rfl rfl (Nat.le_of_ble_eq_true rfl) dX6_minutes_2 ⟨Nat.zero_le _, Nat.zero_le _⟩ (fun H locs hP hS => ?_)
  refine lv_if_eq (tgt := 12) hx hb dX6_minutes_5 (by decide) (fun c_4 => ?_) (fun c_4 => ?_)
  · replace hf := zI_t c_4 hf
    refine lv_aload_n hx hb dX6_minutes_12 rfl (lv_at hl 0 rfl) ?_
    refine lv_iload_n hx hb dX6_minutes_13 rfl (lv_at hl 1 rfl) ?_
    obtain ⟨r_7, M_5, hc_6, hf⟩ := zB_o hf
    refine zc_vi (As := [.int x1]) (rest := []) C0 hP hS hl.1 0 (mtX6_runsOf l G hJ x1 M_1 _ hc_6) lk_X6_110 (by decide) shM_0 (T := TX6) (n' := 51) rfl ds_X6_runsOf (by rw [hRm]; exact ⟨Nat.le_of_ble_eq_true rfl, Nat.le_of_ble_eq_true rfl⟩) rfl rfl (Nat.le_of_ble_eq_true rfl) dX6_minutes_14 ⟨Nat.zero_le _, Nat.zero_le _⟩ (fun H locs hP hS => ?_)
    exact ze_i C0 hP hS hf dX6_minutes_17 hQ
  · replace hf := zI_f c_4 hf
    refine lv_iconst (v := (0 : Int32)) hx hb dX6_minutes_8 (by decide) ?_
    refine lv_goto (tgt := 17) hx hb dX6_minutes_9 (by decide) ?_
    exact ze_i C0 hP hS hf dX6_minutes_17 hQ
def fX6_told (x1 : Int32) (x2 : Int32) (M : zM) : Option (Int32 × zM) :=
  zB (fX6_within x2 (0 : Int32) (4 : Int32) M) fun r_3 M_1 =>
  if r_3 = (0 : Int32) then
    zB (fX6_isOne x1 M_1) fun r_7 M_5 =>
    if r_7 = (0 : Int32) then
      some ((-2 : Int32), M_5)
    else
      if x2 = (5 : Int32) then
        zG (zin x1 5) <|
        some ((M_5.1 1 x1.toNatClampNeg), M_5)
      else
        if x2 = (6 : Int32) then
          zB (fX6_runsOf x1 M_5) fun r_14 M_12 =>
          some (r_14, M_12)
        else
          if x2 = (7 : Int32) then
            zB (fX6_isClogged x1 M_5) fun r_18 M_16 =>
            if r_18 = (0 : Int32) then
              some ((0 : Int32), M_16)
            else
              some ((1 : Int32), M_16)
          else
            if x2 = (8 : Int32) then
              zB (fX6_ruesOf x1 M_5) fun r_23 M_21 =>
              some (r_23, M_21)
            else
              if x2 = (9 : Int32) then
                zB (fX6_minutes x1 M_5) fun r_27 M_25 =>
                some (r_27, M_25)
              else
                some ((-2 : Int32), M_5)
  else
    zB (fX6_isOf x2 x1 M_1) fun r_30 M_28 =>
    if r_30 = (0 : Int32) then
      some ((-2 : Int32), M_28)
    else
      zB (fX6_get x2 x1 M_28) fun r_34 M_32 =>
      some (r_34, M_32)
set_option maxHeartbeats 4000000 in
set_option maxRecDepth 100000 in
theorem mtX6_told (l : Launch) (G : zGr) (hJ : zJ G 23) (x1 : Int32) (x2 : Int32) (M : zM) (o : Int32 × zM) (hf : fX6_told x1 x2 M = some o) : zMi l G shM 23 yX6_told cX6_told 3 (some .int) 5 113 [.ref (G.2.2.1 0), .int x1, .int x2] M o := by
  intro sz
  refine zOf (by decide) (Nat.le_of_ble_eq_true rfl) ?_
  intro p e R Q s m args below meth c hRm hsz hQ C0 hP hS ls hl
  subst hsz
  replace hRm : R = { frames := 5, cells := 0, slots := 0, locals := 113 } := hRm
  have hl : lv_has ls 3 [(0, .ref (G.2.2.1 0)), (1, .int x1), (2, .int x2)] := hl
  have hx := C0.1
  have hb := C0.2.1
  have hown := C0.2.2.2.1
  have hts := C0.2.2.2.2.1
  unfold fX6_told at hf
  obtain ⟨H, eH⟩ : ∃ H, H = s.heap := ⟨_, rfl⟩
  obtain ⟨locs, el⟩ : ∃ locs : List Loc, locs = [] := ⟨_, rfl⟩
  rw [← eH] at hP ⊢
  have hS : va_S (zA G 23 s.heap.size) s.heap H locs := by rw [eH, el]; exact hS
  rw [← el]
  refine lv_iload_n hx hb dX6_told_0 rfl (lv_at hl 2 rfl) ?_
  refine lv_iconst (v := (0 : Int32)) hx hb dX6_told_1 (by decide) ?_
  refine lv_iconst (v := (4 : Int32)) hx hb dX6_told_2 (by decide) ?_
  obtain ⟨r_3, M_1, hc_2, hf⟩ := zB_o hf
  refine zc_si (As := [.int x2, .int (0 : Int32), .int (4 : Int32)]) (rest := []) C0 hP hS hl.1 (mtX6_within l G hJ x2 (0 : Int32) (4 : Int32) M _ hc_2) ls_X6_88 ds_X6_within (by rw [hRm]; exact ⟨Nat.le_of_ble_eq_true rfl, Nat.le_of_ble_eq_true rfl⟩) rfl rfl (Nat.le_of_ble_eq_true rfl) dX6_told_3 ⟨Nat.zero_le _, Nat.zero_le _⟩ (fun H locs hP hS => ?_)
  refine lv_if_eq (tgt := 30) hx hb dX6_told_6 (by decide) (fun c_4 => ?_) (fun c_4 => ?_)
  · replace hf := zI_t c_4 hf
    refine lv_aload_n hx hb dX6_told_30 rfl (lv_at hl 0 rfl) ?_
    refine lv_iload_n hx hb dX6_told_31 rfl (lv_at hl 1 rfl) ?_
    obtain ⟨r_7, M_5, hc_6, hf⟩ := zB_o hf
    refine zc_vi (As := [.int x1]) (rest := []) C0 hP hS hl.1 0 (mtX6_isOne l G hJ x1 M_1 _ hc_6) lk_X6_92 (by decide) shM_0 (T := TX6) (n' := 51) rfl ds_X6_isOne (by rw [hRm]; exact ⟨Nat.le_of_ble_eq_true rfl, Nat.le_of_ble_eq_true rfl⟩) rfl rfl (Nat.le_of_ble_eq_true rfl) dX6_told_32 ⟨Nat.zero_le _, Nat.zero_le _⟩ (fun H locs hP hS => ?_)
    refine lv_if_ne (tgt := 41) hx hb dX6_told_35 (by decide) (fun c_8 => ?_) (fun c_8 => ?_)
    · replace hf := zI_f c_8 hf
      refine lv_iload_n hx hb dX6_told_41 rfl (lv_at hl 2 rfl) ?_
      refine if c_9 : x2 = (5 : Int32) then ?_ else ?_
      · replace hf := zI_t c_9 hf
        refine lv_tableIn (tgt := 76) hx hb dX6_told_42 (by rw [c_9]; decide) (by rw [c_9]; decide) (off := 34) (by rw [c_9]; decide) (by decide) ?_
        refine lv_aload_n hx hb dX6_told_76 rfl (lv_at hl 0 rfl) ?_
        refine zr_getq (C := RX6) (T := TX6) (n := 51) C0 hP 0 (by decide) shM_0 3 1 rfl (by decide) uw_X6 mw_413 rfl dX6_told_77 ?_
        refine lv_iload_n hx hb dX6_told_80 rfl (lv_at hl 1 rfl) ?_
        obtain ⟨hg_10, hf⟩ := zG_o hf
        refine zr_iald C0 hP 1 (by decide) shM_1 hg_10 dX6_told_81 ?_
        exact ze_i C0 hP hS hf dX6_told_82 hQ
      · replace hf := zI_f c_9 hf
        refine if c_11 : x2 = (6 : Int32) then ?_ else ?_
        · replace hf := zI_t c_11 hf
          refine lv_tableIn (tgt := 83) hx hb dX6_told_42 (by rw [c_11]; decide) (by rw [c_11]; decide) (off := 41) (by rw [c_11]; decide) (by decide) ?_
          refine lv_aload_n hx hb dX6_told_83 rfl (lv_at hl 0 rfl) ?_
          refine lv_iload_n hx hb dX6_told_84 rfl (lv_at hl 1 rfl) ?_
          obtain ⟨r_14, M_12, hc_13, hf⟩ := zB_o hf
          refine zc_vi (As := [.int x1]) (rest := []) C0 hP hS hl.1 0 (mtX6_runsOf l G hJ x1 M_5 _ hc_13) lk_X6_110 (by decide) shM_0 (T := TX6) (n' := 51) rfl ds_X6_runsOf (by rw [hRm]; exact ⟨Nat.le_of_ble_eq_true rfl, Nat.le_of_ble_eq_true rfl⟩) rfl rfl (Nat.le_of_ble_eq_true rfl) dX6_told_85 ⟨Nat.zero_le _, Nat.zero_le _⟩ (fun H locs hP hS => ?_)
          exact ze_i C0 hP hS hf dX6_told_88 hQ
        · replace hf := zI_f c_11 hf
          refine if c_15 : x2 = (7 : Int32) then ?_ else ?_
          · replace hf := zI_t c_15 hf
            refine lv_tableIn (tgt := 89) hx hb dX6_told_42 (by rw [c_15]; decide) (by rw [c_15]; decide) (off := 47) (by rw [c_15]; decide) (by decide) ?_
            refine lv_aload_n hx hb dX6_told_89 rfl (lv_at hl 0 rfl) ?_
            refine lv_iload_n hx hb dX6_told_90 rfl (lv_at hl 1 rfl) ?_
            obtain ⟨r_18, M_16, hc_17, hf⟩ := zB_o hf
            refine zc_vi (As := [.int x1]) (rest := []) C0 hP hS hl.1 0 (mtX6_isClogged l G hJ x1 M_5 _ hc_17) lk_X6_114 (by decide) shM_0 (T := TX6) (n' := 51) rfl ds_X6_isClogged (by rw [hRm]; exact ⟨Nat.le_of_ble_eq_true rfl, Nat.le_of_ble_eq_true rfl⟩) rfl rfl (Nat.le_of_ble_eq_true rfl) dX6_told_91 ⟨Nat.zero_le _, Nat.zero_le _⟩ (fun H locs hP hS => ?_)
            refine lv_if_eq (tgt := 101) hx hb dX6_told_94 (by decide) (fun c_19 => ?_) (fun c_19 => ?_)
            · replace hf := zI_t c_19 hf
              refine lv_iconst (v := (0 : Int32)) hx hb dX6_told_101 (by decide) ?_
              exact ze_i C0 hP hS hf dX6_told_102 hQ
            · replace hf := zI_f c_19 hf
              refine lv_iconst (v := (1 : Int32)) hx hb dX6_told_97 (by decide) ?_
              refine lv_goto (tgt := 102) hx hb dX6_told_98 (by decide) ?_
              exact ze_i C0 hP hS hf dX6_told_102 hQ
          · replace hf := zI_f c_15 hf
            refine if c_20 : x2 = (8 : Int32) then ?_ else ?_
            · replace hf := zI_t c_20 hf
              refine lv_tableIn (tgt := 103) hx hb dX6_told_42 (by rw [c_20]; decide) (by rw [c_20]; decide) (off := 61) (by rw [c_20]; decide) (by decide) ?_
              refine lv_aload_n hx hb dX6_told_103 rfl (lv_at hl 0 rfl) ?_
              refine lv_iload_n hx hb dX6_told_104 rfl (lv_at hl 1 rfl) ?_
              obtain ⟨r_23, M_21, hc_22, hf⟩ := zB_o hf
              refine zc_vi (As := [.int x1]) (rest := []) C0 hP hS hl.1 0 (mtX6_ruesOf l G hJ x1 M_5 _ hc_22) lk_X6_117 (by decide) shM_0 (T := TX6) (n' := 51) rfl ds_X6_ruesOf (by rw [hRm]; exact ⟨Nat.le_of_ble_eq_true rfl, Nat.le_of_ble_eq_true rfl⟩) rfl rfl (Nat.le_of_ble_eq_true rfl) dX6_told_105 ⟨Nat.zero_le _, Nat.zero_le _⟩ (fun H locs hP hS => ?_)
              exact ze_i C0 hP hS hf dX6_told_108 hQ
            · replace hf := zI_f c_20 hf
              refine if c_24 : x2 = (9 : Int32) then ?_ else ?_
              · replace hf := zI_t c_24 hf
                refine lv_tableIn (tgt := 109) hx hb dX6_told_42 (by rw [c_24]; decide) (by rw [c_24]; decide) (off := 67) (by rw [c_24]; decide) (by decide) ?_
                refine lv_aload_n hx hb dX6_told_109 rfl (lv_at hl 0 rfl) ?_
                refine lv_iload_n hx hb dX6_told_110 rfl (lv_at hl 1 rfl) ?_
                obtain ⟨r_27, M_25, hc_26, hf⟩ := zB_o hf
                refine zc_vi (As := [.int x1]) (rest := []) C0 hP hS hl.1 0 (mtX6_minutes l G hJ x1 M_5 _ hc_26) lk_X6_120 (by decide) shM_0 (T := TX6) (n' := 51) rfl ds_X6_minutes (by rw [hRm]; exact ⟨Nat.le_of_ble_eq_true rfl, Nat.le_of_ble_eq_true rfl⟩) rfl rfl (Nat.le_of_ble_eq_true rfl) dX6_told_111 ⟨Nat.zero_le _, Nat.zero_le _⟩ (fun H locs hP hS => ?_)
                exact ze_i C0 hP hS hf dX6_told_114 hQ
              · replace hf := zI_f c_24 hf
                have tc_9 := lv_neT (a := 5) c_9 (by decide)
                have tc_11 := lv_neT (a := 6) c_11 (by decide)
                have tc_15 := lv_neT (a := 7) c_15 (by decide)
                have tc_20 := lv_neT (a := 8) c_20 (by decide)
                have tc_24 := lv_neT (a := 9) c_24 (by decide)
                refine lv_tableOut (tgt := 115) hx hb dX6_told_42 (by omega) (by decide) ?_
                refine lv_bipush (v := (-2 : Int32)) hx hb dX6_told_115 (by decide) ?_
                exact ze_i C0 hP hS hf dX6_told_117 hQ
    · replace hf := zI_t c_8 hf
      refine lv_bipush (v := (-2 : Int32)) hx hb dX6_told_38 (by decide) ?_
      exact ze_i C0 hP hS hf dX6_told_40 hQ
  · replace hf := zI_f c_4 hf
    refine lv_aload_n hx hb dX6_told_9 rfl (lv_at hl 0 rfl) ?_
    refine lv_iload_n hx hb dX6_told_10 rfl (lv_at hl 2 rfl) ?_
    refine lv_iload_n hx hb dX6_told_11 rfl (lv_at hl 1 rfl) ?_
    obtain ⟨r_30, M_28, hc_29, hf⟩ := zB_o hf
    refine zc_vi (As := [.int x2, .int x1]) (rest := []) C0 hP hS hl.1 0 (mtX6_isOf l G hJ x2 x1 M_1 _ hc_29) lk_X6_102 (by decide) shM_0 (T := TX6) (n' := 51) rfl ds_X6_isOf (by rw [hRm]; exact ⟨Nat.le_of_ble_eq_true rfl, Nat.le_of_ble_eq_true rfl⟩) rfl rfl (Nat.le_of_ble_eq_true rfl) dX6_told_12 ⟨Nat.zero_le _, Nat.zero_le _⟩ (fun H locs hP hS => ?_)
    refine lv_if_eq (tgt := 27) hx hb dX6_told_15 (by decide) (fun c_31 => ?_) (fun c_31 => ?_)
    · replace hf := zI_t c_31 hf
      refine lv_bipush (v := (-2 : Int32)) hx hb dX6_told_27 (by decide) ?_
      exact ze_i C0 hP hS hf dX6_told_29 hQ
    · replace hf := zI_f c_31 hf
      refine lv_aload_n hx hb dX6_told_18 rfl (lv_at hl 0 rfl) ?_
      refine lv_iload_n hx hb dX6_told_19 rfl (lv_at hl 2 rfl) ?_
      refine lv_iload_n hx hb dX6_told_20 rfl (lv_at hl 1 rfl) ?_
      obtain ⟨r_34, M_32, hc_33, hf⟩ := zB_o hf
      refine zc_vi (As := [.int x2, .int x1]) (rest := []) C0 hP hS hl.1 0 (mtX6_get l G hJ x2 x1 M_28 _ hc_33) lk_X6_106 (by decide) shM_0 (T := TX6) (n' := 51) rfl ds_X6_get (by rw [hRm]; exact ⟨Nat.le_of_ble_eq_true rfl, Nat.le_of_ble_eq_true rfl⟩) rfl rfl (Nat.le_of_ble_eq_true rfl) dX6_told_21 ⟨Nat.zero_le _, Nat.zero_le _⟩ (fun H locs hP hS => ?_)
      refine lv_goto (tgt := 29) hx hb dX6_told_24 (by decide) ?_
      exact ze_i C0 hP hS hf dX6_told_29 hQ
def fX6_feed (x1 : Int32) (M : zM) : Option (Int32 × zM) :=
  zB (fX6_within x1 (0 : Int32) (255 : Int32) M) fun r_3 M_1 =>
  if r_3 = (0 : Int32) then
    some ((-2 : Int32), M_1)
  else
    if (M_1.1 0 8) = (160 : Int32) then
      some ((-4 : Int32), M_1)
    else
      zL (zu M_1 0 8 ((M_1.1 0 8) + (1 : Int32))) fun M_6 =>
      zG (zin (M_1.1 0 8) 160) <|
      zL (zu M_6 5 (M_1.1 0 8).toNatClampNeg x1) fun M_8 =>
      some ((M_8.1 0 8), M_8)
set_option maxHeartbeats 4000000 in
set_option maxRecDepth 100000 in
theorem mtX6_feed (l : Launch) (G : zGr) (hJ : zJ G 23) (x1 : Int32) (M : zM) (o : Int32 × zM) (hf : fX6_feed x1 M = some o) : zMi l G shM 23 yX6_feed cX6_feed 2 (some .int) 1 22 [.ref (G.2.2.1 0), .int x1] M o := by
  intro sz
  refine zOf (by decide) (Nat.le_of_ble_eq_true rfl) ?_
  intro p e R Q s m args below meth c hRm hsz hQ C0 hP hS ls hl
  subst hsz
  replace hRm : R = { frames := 1, cells := 0, slots := 0, locals := 22 } := hRm
  have hl : lv_has ls 2 [(0, .ref (G.2.2.1 0)), (1, .int x1)] := hl
  have hx := C0.1
  have hb := C0.2.1
  have hown := C0.2.2.2.1
  have hts := C0.2.2.2.2.1
  unfold fX6_feed at hf
  obtain ⟨H, eH⟩ : ∃ H, H = s.heap := ⟨_, rfl⟩
  obtain ⟨locs, el⟩ : ∃ locs : List Loc, locs = [] := ⟨_, rfl⟩
  rw [← eH] at hP ⊢
  have hS : va_S (zA G 23 s.heap.size) s.heap H locs := by rw [eH, el]; exact hS
  rw [← el]
  refine lv_iload_n hx hb dX6_feed_0 rfl (lv_at hl 1 rfl) ?_
  refine lv_iconst (v := (0 : Int32)) hx hb dX6_feed_1 (by decide) ?_
  refine lv_sipush (v := (255 : Int32)) hx hb dX6_feed_2 (by decide) ?_
  obtain ⟨r_3, M_1, hc_2, hf⟩ := zB_o hf
  refine zc_si (As := [.int x1, .int (0 : Int32), .int (255 : Int32)]) (rest := []) C0 hP hS hl.1 (mtX6_within l G hJ x1 (0 : Int32) (255 : Int32) M _ hc_2) ls_X6_88 ds_X6_within (by rw [hRm]; exact ⟨Nat.le_of_ble_eq_true rfl, Nat.le_of_ble_eq_true rfl⟩) rfl rfl (Nat.le_of_ble_eq_true rfl) dX6_feed_5 ⟨Nat.zero_le _, Nat.zero_le _⟩ (fun H locs hP hS => ?_)
  refine lv_if_ne (tgt := 14) hx hb dX6_feed_8 (by decide) (fun c_4 => ?_) (fun c_4 => ?_)
  · replace hf := zI_f c_4 hf
    refine lv_aload_n hx hb dX6_feed_14 rfl (lv_at hl 0 rfl) ?_
    refine zr_get (C := RX6) (T := TX6) (n := 51) C0 hP 0 (by decide) shM_0 8 rfl (by decide) uw_X6 mw_454 rfl dX6_feed_15 ?_
    refine lv_sipush (v := (160 : Int32)) hx hb dX6_feed_18 (by decide) ?_
    refine lv_icmp_ne (tgt := 27) hx hb dX6_feed_21 (by decide) (fun c_5 => ?_) (fun c_5 => ?_)
    · replace hf := zI_f c_5 hf
      refine lv_aload_n hx hb dX6_feed_27 rfl (lv_at hl 0 rfl) ?_
      refine zr_getq (C := RX6) (T := TX6) (n := 51) C0 hP 0 (by decide) shM_0 9 5 rfl (by decide) uw_X6 mw_455 rfl dX6_feed_28 ?_
      refine lv_aload_n hx hb dX6_feed_31 rfl (lv_at hl 0 rfl) ?_
      refine lv_dup hx hb dX6_feed_32 rfl ?_
      refine zr_get (C := RX6) (T := TX6) (n := 51) C0 hP 0 (by decide) shM_0 8 rfl (by decide) uw_X6 mw_454 rfl dX6_feed_33 ?_
      refine lv_dup_x1 hx hb dX6_feed_36 rfl rfl ?_
      refine lv_iconst (v := (1 : Int32)) hx hb dX6_feed_37 (by decide) ?_
      refine lv_iadd hx hb dX6_feed_38 ?_
      refine zr_put (C := RX6) (T := TX6) (n := 51) C0 hJ hP hS 0 (by decide) shM_0 8 rfl (by decide) uw_X6 tyX6 tyX6_ok nmX6 mw_454 rfl rfl ⟨rfl, rfl⟩ dX6_feed_39 (fun H locs hP hS => ?_)
      obtain ⟨M_6, eM_6, hf⟩ := zL_o hf
      have hP : va_P G.1 zcl (zw G shM 23 M_6) H := by rw [eM_6]; exact hP
      refine lv_iload_n hx hb dX6_feed_42 rfl (lv_at hl 1 rfl) ?_
      obtain ⟨hg_7, hf⟩ := zG_o hf
      refine zr_iast C0 hJ hP hS 5 (by decide) shM_5 hg_7 dX6_feed_43 (fun H locs hP hS => ?_)
      obtain ⟨M_8, eM_8, hf⟩ := zL_o hf
      have hP : va_P G.1 zcl (zw G shM 23 M_8) H := by rw [eM_8]; exact hP
      refine lv_aload_n hx hb dX6_feed_44 rfl (lv_at hl 0 rfl) ?_
      refine zr_get (C := RX6) (T := TX6) (n := 51) C0 hP 0 (by decide) shM_0 8 rfl (by decide) uw_X6 mw_454 rfl dX6_feed_45 ?_
      exact ze_i C0 hP hS hf dX6_feed_48 hQ
    · replace hf := zI_t c_5 hf
      refine lv_bipush (v := (-4 : Int32)) hx hb dX6_feed_24 (by decide) ?_
      exact ze_i C0 hP hS hf dX6_feed_26 hQ
  · replace hf := zI_t c_4 hf
    refine lv_bipush (v := (-2 : Int32)) hx hb dX6_feed_11 (by decide) ?_
    exact ze_i C0 hP hS hf dX6_feed_13 hQ
def fX6_isLetter (x0 : Int32) (M : zM) : Option (Int32 × zM) :=
  if x0 < (97 : Int32) then
    some ((0 : Int32), M)
  else
    if (122 : Int32) < x0 then
      some ((0 : Int32), M)
    else
      some ((1 : Int32), M)
set_option maxHeartbeats 4000000 in
set_option maxRecDepth 100000 in
theorem mtX6_isLetter (l : Launch) (G : zGr) (hJ : zJ G 23) (x0 : Int32) (M : zM) (o : Int32 × zM) (hf : fX6_isLetter x0 M = some o) : zMi l G shM 23 yX6_isLetter cX6_isLetter 1 (some .boolean) 0 0 [.int x0] M o := by
  intro sz
  refine zOf (by decide) (Nat.le_of_ble_eq_true rfl) ?_
  intro p e R Q s m args below meth c hRm hsz hQ C0 hP hS ls hl
  subst hsz
  replace hRm : R = { frames := 0, cells := 0, slots := 0, locals := 0 } := hRm
  have hl : lv_has ls 1 [(0, .int x0)] := hl
  have hx := C0.1
  have hb := C0.2.1
  have hown := C0.2.2.2.1
  have hts := C0.2.2.2.2.1
  unfold fX6_isLetter at hf
  obtain ⟨H, eH⟩ : ∃ H, H = s.heap := ⟨_, rfl⟩
  obtain ⟨locs, el⟩ : ∃ locs : List Loc, locs = [] := ⟨_, rfl⟩
  rw [← eH] at hP ⊢
  have hS : va_S (zA G 23 s.heap.size) s.heap H locs := by rw [eH, el]; exact hS
  rw [← el]
  refine lv_iload_n hx hb dX6_isLetter_0 rfl (lv_at hl 0 rfl) ?_
  refine lv_bipush (v := (97 : Int32)) hx hb dX6_isLetter_1 (by decide) ?_
  refine lv_icmp_lt (tgt := 16) hx hb dX6_isLetter_3 (by decide) (fun c_1 => ?_) (fun c_1 => ?_)
  · replace hf := zI_t c_1 hf
    refine lv_iconst (v := (0 : Int32)) hx hb dX6_isLetter_16 (by decide) ?_
    exact ze_z C0 hP hS (by decide) hf dX6_isLetter_17 hQ
  · replace hf := zI_f c_1 hf
    refine lv_iload_n hx hb dX6_isLetter_6 rfl (lv_at hl 0 rfl) ?_
    refine lv_bipush (v := (122 : Int32)) hx hb dX6_isLetter_7 (by decide) ?_
    refine lv_icmp_gt (tgt := 16) hx hb dX6_isLetter_9 (by decide) (fun c_2 => ?_) (fun c_2 => ?_)
    · replace hf := zI_t c_2 hf
      refine lv_iconst (v := (0 : Int32)) hx hb dX6_isLetter_16 (by decide) ?_
      exact ze_z C0 hP hS (by decide) hf dX6_isLetter_17 hQ
    · replace hf := zI_f c_2 hf
      refine lv_iconst (v := (1 : Int32)) hx hb dX6_isLetter_12 (by decide) ?_
      refine lv_goto (tgt := 17) hx hb dX6_isLetter_13 (by decide) ?_
      exact ze_z C0 hP hS (by decide) hf dX6_isLetter_17 hQ
def fX6_isDigit (x0 : Int32) (M : zM) : Option (Int32 × zM) :=
  if x0 < (48 : Int32) then
    some ((0 : Int32), M)
  else
    if (57 : Int32) < x0 then
      some ((0 : Int32), M)
    else
      some ((1 : Int32), M)
set_option maxHeartbeats 4000000 in
set_option maxRecDepth 100000 in
theorem mtX6_isDigit (l : Launch) (G : zGr) (hJ : zJ G 23) (x0 : Int32) (M : zM) (o : Int32 × zM) (hf : fX6_isDigit x0 M = some o) : zMi l G shM 23 yX6_isDigit cX6_isDigit 1 (some .boolean) 0 0 [.int x0] M o := by
  intro sz
  refine zOf (by decide) (Nat.le_of_ble_eq_true rfl) ?_
  intro p e R Q s m args below meth c hRm hsz hQ C0 hP hS ls hl
  subst hsz
  replace hRm : R = { frames := 0, cells := 0, slots := 0, locals := 0 } := hRm
  have hl : lv_has ls 1 [(0, .int x0)] := hl
  have hx := C0.1
  have hb := C0.2.1
  have hown := C0.2.2.2.1
  have hts := C0.2.2.2.2.1
  unfold fX6_isDigit at hf
  obtain ⟨H, eH⟩ : ∃ H, H = s.heap := ⟨_, rfl⟩
  obtain ⟨locs, el⟩ : ∃ locs : List Loc, locs = [] := ⟨_, rfl⟩
  rw [← eH] at hP ⊢
  have hS : va_S (zA G 23 s.heap.size) s.heap H locs := by rw [eH, el]; exact hS
  rw [← el]
  refine lv_iload_n hx hb dX6_isDigit_0 rfl (lv_at hl 0 rfl) ?_
  refine lv_bipush (v := (48 : Int32)) hx hb dX6_isDigit_1 (by decide) ?_
  refine lv_icmp_lt (tgt := 16) hx hb dX6_isDigit_3 (by decide) (fun c_1 => ?_) (fun c_1 => ?_)
  · replace hf := zI_t c_1 hf
    refine lv_iconst (v := (0 : Int32)) hx hb dX6_isDigit_16 (by decide) ?_
    exact ze_z C0 hP hS (by decide) hf dX6_isDigit_17 hQ
  · replace hf := zI_f c_1 hf
    refine lv_iload_n hx hb dX6_isDigit_6 rfl (lv_at hl 0 rfl) ?_
    refine lv_bipush (v := (57 : Int32)) hx hb dX6_isDigit_7 (by decide) ?_
    refine lv_icmp_gt (tgt := 16) hx hb dX6_isDigit_9 (by decide) (fun c_2 => ?_) (fun c_2 => ?_)
    · replace hf := zI_t c_2 hf
      refine lv_iconst (v := (0 : Int32)) hx hb dX6_isDigit_16 (by decide) ?_
      exact ze_z C0 hP hS (by decide) hf dX6_isDigit_17 hQ
    · replace hf := zI_f c_2 hf
      refine lv_iconst (v := (1 : Int32)) hx hb dX6_isDigit_12 (by decide) ?_
      refine lv_goto (tgt := 17) hx hb dX6_isDigit_13 (by decide) ?_
      exact ze_z C0 hP hS (by decide) hf dX6_isDigit_17 hQ
def fX6_isSign (x0 : Int32) (M : zM) : Option (Int32 × zM) :=
  if x0 = (40 : Int32) then
    some ((1 : Int32), M)
  else
    if x0 = (41 : Int32) then
      some ((1 : Int32), M)
    else
      if x0 = (42 : Int32) then
        some ((1 : Int32), M)
      else
        if x0 = (43 : Int32) then
          some ((1 : Int32), M)
        else
          if x0 = (44 : Int32) then
            some ((0 : Int32), M)
          else
            if x0 = (45 : Int32) then
              some ((1 : Int32), M)
            else
              if x0 = (46 : Int32) then
                some ((0 : Int32), M)
              else
                if x0 = (47 : Int32) then
                  some ((0 : Int32), M)
                else
                  if x0 = (48 : Int32) then
                    some ((0 : Int32), M)
                  else
                    if x0 = (49 : Int32) then
                      some ((0 : Int32), M)
                    else
                      if x0 = (50 : Int32) then
                        some ((0 : Int32), M)
                      else
                        if x0 = (51 : Int32) then
                          some ((0 : Int32), M)
                        else
                          if x0 = (52 : Int32) then
                            some ((0 : Int32), M)
                          else
                            if x0 = (53 : Int32) then
                              some ((0 : Int32), M)
                            else
                              if x0 = (54 : Int32) then
                                some ((0 : Int32), M)
                              else
                                if x0 = (55 : Int32) then
                                  some ((0 : Int32), M)
                                else
                                  if x0 = (56 : Int32) then
                                    some ((0 : Int32), M)
                                  else
                                    if x0 = (57 : Int32) then
                                      some ((0 : Int32), M)
                                    else
                                      if x0 = (58 : Int32) then
                                        some ((0 : Int32), M)
                                      else
                                        if x0 = (59 : Int32) then
                                          some ((1 : Int32), M)
                                        else
                                          if x0 = (60 : Int32) then
                                            some ((1 : Int32), M)
                                          else
                                            if x0 = (61 : Int32) then
                                              some ((1 : Int32), M)
                                            else
                                              some ((0 : Int32), M)
set_option maxHeartbeats 4000000 in
set_option maxRecDepth 100000 in
theorem mtX6_isSign (l : Launch) (G : zGr) (hJ : zJ G 23) (x0 : Int32) (M : zM) (o : Int32 × zM) (hf : fX6_isSign x0 M = some o) : zMi l G shM 23 yX6_isSign cX6_isSign 1 (some .boolean) 0 0 [.int x0] M o := by
  intro sz
  refine zOf (by decide) (Nat.le_of_ble_eq_true rfl) ?_
  intro p e R Q s m args below meth c hRm hsz hQ C0 hP hS ls hl
  subst hsz
  replace hRm : R = { frames := 0, cells := 0, slots := 0, locals := 0 } := hRm
  have hl : lv_has ls 1 [(0, .int x0)] := hl
  have hx := C0.1
  have hb := C0.2.1
  have hown := C0.2.2.2.1
  have hts := C0.2.2.2.2.1
  unfold fX6_isSign at hf
  obtain ⟨H, eH⟩ : ∃ H, H = s.heap := ⟨_, rfl⟩
  obtain ⟨locs, el⟩ : ∃ locs : List Loc, locs = [] := ⟨_, rfl⟩
  rw [← eH] at hP ⊢
  have hS : va_S (zA G 23 s.heap.size) s.heap H locs := by rw [eH, el]; exact hS
  rw [← el]
  refine lv_iload_n hx hb dX6_isSign_0 rfl (lv_at hl 0 rfl) ?_
  refine if c_1 : x0 = (40 : Int32) then ?_ else ?_
  · replace hf := zI_t c_1 hf
    refine lv_tableIn (tgt := 104) hx hb dX6_isSign_1 (by rw [c_1]; decide) (by rw [c_1]; decide) (off := 103) (by rw [c_1]; decide) (by decide) ?_
    refine lv_iconst (v := (1 : Int32)) hx hb dX6_isSign_104 (by decide) ?_
    exact ze_z C0 hP hS (by decide) hf dX6_isSign_105 hQ
  · replace hf := zI_f c_1 hf
    refine if c_2 : x0 = (41 : Int32) then ?_ else ?_
    · replace hf := zI_t c_2 hf
      refine lv_tableIn (tgt := 104) hx hb dX6_isSign_1 (by rw [c_2]; decide) (by rw [c_2]; decide) (off := 103) (by rw [c_2]; decide) (by decide) ?_
      refine lv_iconst (v := (1 : Int32)) hx hb dX6_isSign_104 (by decide) ?_
      exact ze_z C0 hP hS (by decide) hf dX6_isSign_105 hQ
    · replace hf := zI_f c_2 hf
      refine if c_3 : x0 = (42 : Int32) then ?_ else ?_
      · replace hf := zI_t c_3 hf
        refine lv_tableIn (tgt := 104) hx hb dX6_isSign_1 (by rw [c_3]; decide) (by rw [c_3]; decide) (off := 103) (by rw [c_3]; decide) (by decide) ?_
        refine lv_iconst (v := (1 : Int32)) hx hb dX6_isSign_104 (by decide) ?_
        exact ze_z C0 hP hS (by decide) hf dX6_isSign_105 hQ
      · replace hf := zI_f c_3 hf
        refine if c_4 : x0 = (43 : Int32) then ?_ else ?_
        · replace hf := zI_t c_4 hf
          refine lv_tableIn (tgt := 104) hx hb dX6_isSign_1 (by rw [c_4]; decide) (by rw [c_4]; decide) (off := 103) (by rw [c_4]; decide) (by decide) ?_
          refine lv_iconst (v := (1 : Int32)) hx hb dX6_isSign_104 (by decide) ?_
          exact ze_z C0 hP hS (by decide) hf dX6_isSign_105 hQ
        · replace hf := zI_f c_4 hf
          refine if c_5 : x0 = (44 : Int32) then ?_ else ?_
          · replace hf := zI_t c_5 hf
            refine lv_tableIn (tgt := 106) hx hb dX6_isSign_1 (by rw [c_5]; decide) (by rw [c_5]; decide) (off := 105) (by rw [c_5]; decide) (by decide) ?_
            refine lv_iconst (v := (0 : Int32)) hx hb dX6_isSign_106 (by decide) ?_
            exact ze_z C0 hP hS (by decide) hf dX6_isSign_107 hQ
          · replace hf := zI_f c_5 hf
            refine if c_6 : x0 = (45 : Int32) then ?_ else ?_
            · replace hf := zI_t c_6 hf
              refine lv_tableIn (tgt := 104) hx hb dX6_isSign_1 (by rw [c_6]; decide) (by rw [c_6]; decide) (off := 103) (by rw [c_6]; decide) (by decide) ?_
              refine lv_iconst (v := (1 : Int32)) hx hb dX6_isSign_104 (by decide) ?_
              exact ze_z C0 hP hS (by decide) hf dX6_isSign_105 hQ
            · replace hf := zI_f c_6 hf
              refine if c_7 : x0 = (46 : Int32) then ?_ else ?_
              · replace hf := zI_t c_7 hf
                refine lv_tableIn (tgt := 106) hx hb dX6_isSign_1 (by rw [c_7]; decide) (by rw [c_7]; decide) (off := 105) (by rw [c_7]; decide) (by decide) ?_
                refine lv_iconst (v := (0 : Int32)) hx hb dX6_isSign_106 (by decide) ?_
                exact ze_z C0 hP hS (by decide) hf dX6_isSign_107 hQ
              · replace hf := zI_f c_7 hf
                refine if c_8 : x0 = (47 : Int32) then ?_ else ?_
                · replace hf := zI_t c_8 hf
                  refine lv_tableIn (tgt := 106) hx hb dX6_isSign_1 (by rw [c_8]; decide) (by rw [c_8]; decide) (off := 105) (by rw [c_8]; decide) (by decide) ?_
                  refine lv_iconst (v := (0 : Int32)) hx hb dX6_isSign_106 (by decide) ?_
                  exact ze_z C0 hP hS (by decide) hf dX6_isSign_107 hQ
                · replace hf := zI_f c_8 hf
                  refine if c_9 : x0 = (48 : Int32) then ?_ else ?_
                  · replace hf := zI_t c_9 hf
                    refine lv_tableIn (tgt := 106) hx hb dX6_isSign_1 (by rw [c_9]; decide) (by rw [c_9]; decide) (off := 105) (by rw [c_9]; decide) (by decide) ?_
                    refine lv_iconst (v := (0 : Int32)) hx hb dX6_isSign_106 (by decide) ?_
                    exact ze_z C0 hP hS (by decide) hf dX6_isSign_107 hQ
                  · replace hf := zI_f c_9 hf
                    refine if c_10 : x0 = (49 : Int32) then ?_ else ?_
                    · replace hf := zI_t c_10 hf
                      refine lv_tableIn (tgt := 106) hx hb dX6_isSign_1 (by rw [c_10]; decide) (by rw [c_10]; decide) (off := 105) (by rw [c_10]; decide) (by decide) ?_
                      refine lv_iconst (v := (0 : Int32)) hx hb dX6_isSign_106 (by decide) ?_
                      exact ze_z C0 hP hS (by decide) hf dX6_isSign_107 hQ
                    · replace hf := zI_f c_10 hf
                      refine if c_11 : x0 = (50 : Int32) then ?_ else ?_
                      · replace hf := zI_t c_11 hf
                        refine lv_tableIn (tgt := 106) hx hb dX6_isSign_1 (by rw [c_11]; decide) (by rw [c_11]; decide) (off := 105) (by rw [c_11]; decide) (by decide) ?_
                        refine lv_iconst (v := (0 : Int32)) hx hb dX6_isSign_106 (by decide) ?_
                        exact ze_z C0 hP hS (by decide) hf dX6_isSign_107 hQ
                      · replace hf := zI_f c_11 hf
                        refine if c_12 : x0 = (51 : Int32) then ?_ else ?_
                        · replace hf := zI_t c_12 hf
                          refine lv_tableIn (tgt := 106) hx hb dX6_isSign_1 (by rw [c_12]; decide) (by rw [c_12]; decide) (off := 105) (by rw [c_12]; decide) (by decide) ?_
                          refine lv_iconst (v := (0 : Int32)) hx hb dX6_isSign_106 (by decide) ?_
                          exact ze_z C0 hP hS (by decide) hf dX6_isSign_107 hQ
                        · replace hf := zI_f c_12 hf
                          refine if c_13 : x0 = (52 : Int32) then ?_ else ?_
                          · replace hf := zI_t c_13 hf
                            refine lv_tableIn (tgt := 106) hx hb dX6_isSign_1 (by rw [c_13]; decide) (by rw [c_13]; decide) (off := 105) (by rw [c_13]; decide) (by decide) ?_
                            refine lv_iconst (v := (0 : Int32)) hx hb dX6_isSign_106 (by decide) ?_
                            exact ze_z C0 hP hS (by decide) hf dX6_isSign_107 hQ
                          · replace hf := zI_f c_13 hf
                            refine if c_14 : x0 = (53 : Int32) then ?_ else ?_
                            · replace hf := zI_t c_14 hf
                              refine lv_tableIn (tgt := 106) hx hb dX6_isSign_1 (by rw [c_14]; decide) (by rw [c_14]; decide) (off := 105) (by rw [c_14]; decide) (by decide) ?_
                              refine lv_iconst (v := (0 : Int32)) hx hb dX6_isSign_106 (by decide) ?_
                              exact ze_z C0 hP hS (by decide) hf dX6_isSign_107 hQ
                            · replace hf := zI_f c_14 hf
                              refine if c_15 : x0 = (54 : Int32) then ?_ else ?_
                              · replace hf := zI_t c_15 hf
                                refine lv_tableIn (tgt := 106) hx hb dX6_isSign_1 (by rw [c_15]; decide) (by rw [c_15]; decide) (off := 105) (by rw [c_15]; decide) (by decide) ?_
                                refine lv_iconst (v := (0 : Int32)) hx hb dX6_isSign_106 (by decide) ?_
                                exact ze_z C0 hP hS (by decide) hf dX6_isSign_107 hQ
                              · replace hf := zI_f c_15 hf
                                refine if c_16 : x0 = (55 : Int32) then ?_ else ?_
                                · replace hf := zI_t c_16 hf
                                  refine lv_tableIn (tgt := 106) hx hb dX6_isSign_1 (by rw [c_16]; decide) (by rw [c_16]; decide) (off := 105) (by rw [c_16]; decide) (by decide) ?_
                                  refine lv_iconst (v := (0 : Int32)) hx hb dX6_isSign_106 (by decide) ?_
                                  exact ze_z C0 hP hS (by decide) hf dX6_isSign_107 hQ
                                · replace hf := zI_f c_16 hf
                                  refine if c_17 : x0 = (56 : Int32) then ?_ else ?_
                                  · replace hf := zI_t c_17 hf
                                    refine lv_tableIn (tgt := 106) hx hb dX6_isSign_1 (by rw [c_17]; decide) (by rw [c_17]; decide) (off := 105) (by rw [c_17]; decide) (by decide) ?_
                                    refine lv_iconst (v := (0 : Int32)) hx hb dX6_isSign_106 (by decide) ?_
                                    exact ze_z C0 hP hS (by decide) hf dX6_isSign_107 hQ
                                  · replace hf := zI_f c_17 hf
                                    refine if c_18 : x0 = (57 : Int32) then ?_ else ?_
                                    · replace hf := zI_t c_18 hf
                                      refine lv_tableIn (tgt := 106) hx hb dX6_isSign_1 (by rw [c_18]; decide) (by rw [c_18]; decide) (off := 105) (by rw [c_18]; decide) (by decide) ?_
                                      refine lv_iconst (v := (0 : Int32)) hx hb dX6_isSign_106 (by decide) ?_
                                      exact ze_z C0 hP hS (by decide) hf dX6_isSign_107 hQ
                                    · replace hf := zI_f c_18 hf
                                      refine if c_19 : x0 = (58 : Int32) then ?_ else ?_
                                      · replace hf := zI_t c_19 hf
                                        refine lv_tableIn (tgt := 106) hx hb dX6_isSign_1 (by rw [c_19]; decide) (by rw [c_19]; decide) (off := 105) (by rw [c_19]; decide) (by decide) ?_
                                        refine lv_iconst (v := (0 : Int32)) hx hb dX6_isSign_106 (by decide) ?_
                                        exact ze_z C0 hP hS (by decide) hf dX6_isSign_107 hQ
                                      · replace hf := zI_f c_19 hf
                                        refine if c_20 : x0 = (59 : Int32) then ?_ else ?_
                                        · replace hf := zI_t c_20 hf
                                          refine lv_tableIn (tgt := 104) hx hb dX6_isSign_1 (by rw [c_20]; decide) (by rw [c_20]; decide) (off := 103) (by rw [c_20]; decide) (by decide) ?_
                                          refine lv_iconst (v := (1 : Int32)) hx hb dX6_isSign_104 (by decide) ?_
                                          exact ze_z C0 hP hS (by decide) hf dX6_isSign_105 hQ
                                        · replace hf := zI_f c_20 hf
                                          refine if c_21 : x0 = (60 : Int32) then ?_ else ?_
                                          · replace hf := zI_t c_21 hf
                                            refine lv_tableIn (tgt := 104) hx hb dX6_isSign_1 (by rw [c_21]; decide) (by rw [c_21]; decide) (off := 103) (by rw [c_21]; decide) (by decide) ?_
                                            refine lv_iconst (v := (1 : Int32)) hx hb dX6_isSign_104 (by decide) ?_
                                            exact ze_z C0 hP hS (by decide) hf dX6_isSign_105 hQ
                                          · replace hf := zI_f c_21 hf
                                            refine if c_22 : x0 = (61 : Int32) then ?_ else ?_
                                            · replace hf := zI_t c_22 hf
                                              refine lv_tableIn (tgt := 104) hx hb dX6_isSign_1 (by rw [c_22]; decide) (by rw [c_22]; decide) (off := 103) (by rw [c_22]; decide) (by decide) ?_
                                              refine lv_iconst (v := (1 : Int32)) hx hb dX6_isSign_104 (by decide) ?_
                                              exact ze_z C0 hP hS (by decide) hf dX6_isSign_105 hQ
                                            · replace hf := zI_f c_22 hf
                                              have tc_1 := lv_neT (a := 40) c_1 (by decide)
                                              have tc_2 := lv_neT (a := 41) c_2 (by decide)
                                              have tc_3 := lv_neT (a := 42) c_3 (by decide)
                                              have tc_4 := lv_neT (a := 43) c_4 (by decide)
                                              have tc_5 := lv_neT (a := 44) c_5 (by decide)
                                              have tc_6 := lv_neT (a := 45) c_6 (by decide)
                                              have tc_7 := lv_neT (a := 46) c_7 (by decide)
                                              have tc_8 := lv_neT (a := 47) c_8 (by decide)
                                              have tc_9 := lv_neT (a := 48) c_9 (by decide)
                                              have tc_10 := lv_neT (a := 49) c_10 (by decide)
                                              have tc_11 := lv_neT (a := 50) c_11 (by decide)
                                              have tc_12 := lv_neT (a := 51) c_12 (by decide)
                                              have tc_13 := lv_neT (a := 52) c_13 (by decide)
                                              have tc_14 := lv_neT (a := 53) c_14 (by decide)
                                              have tc_15 := lv_neT (a := 54) c_15 (by decide)
                                              have tc_16 := lv_neT (a := 55) c_16 (by decide)
                                              have tc_17 := lv_neT (a := 56) c_17 (by decide)
                                              have tc_18 := lv_neT (a := 57) c_18 (by decide)
                                              have tc_19 := lv_neT (a := 58) c_19 (by decide)
                                              have tc_20 := lv_neT (a := 59) c_20 (by decide)
                                              have tc_21 := lv_neT (a := 60) c_21 (by decide)
                                              have tc_22 := lv_neT (a := 61) c_22 (by decide)
                                              refine lv_tableOut (tgt := 106) hx hb dX6_isSign_1 (by omega) (by decide) ?_
                                              refine lv_iconst (v := (0 : Int32)) hx hb dX6_isSign_106 (by decide) ?_
                                              exact ze_z C0 hP hS (by decide) hf dX6_isSign_107 hQ
def fX6_named (M : zM) : Option (Int32 × zM) :=
  if (M.1 0 19) = (2968 : Int32) then
    some ((3 : Int32), M)
  else
    if (M.1 0 19) = (5863 : Int32) then
      some ((4 : Int32), M)
    else
      if (M.1 0 19) = (13694 : Int32) then
        some ((0 : Int32), M)
      else
        if (M.1 0 19) = (16922 : Int32) then
          some ((2 : Int32), M)
        else
          if (M.1 0 19) = (267347 : Int32) then
            some ((5 : Int32), M)
          else
            if (M.1 0 19) = (212302449 : Int32) then
              some ((1 : Int32), M)
            else
              some ((-1 : Int32), M)
set_option maxHeartbeats 4000000 in
set_option maxRecDepth 100000 in
theorem mtX6_named (l : Launch) (G : zGr) (hJ : zJ G 23) (M : zM) (o : Int32 × zM) (hf : fX6_named M = some o) : zMi l G shM 23 yX6_named cX6_named 1 (some .int) 0 0 [.ref (G.2.2.1 0)] M o := by
  intro sz
  refine zOf (by decide) (Nat.le_of_ble_eq_true rfl) ?_
  intro p e R Q s m args below meth c hRm hsz hQ C0 hP hS ls hl
  subst hsz
  replace hRm : R = { frames := 0, cells := 0, slots := 0, locals := 0 } := hRm
  have hl : lv_has ls 1 [(0, .ref (G.2.2.1 0))] := hl
  have hx := C0.1
  have hb := C0.2.1
  have hown := C0.2.2.2.1
  have hts := C0.2.2.2.2.1
  unfold fX6_named at hf
  obtain ⟨H, eH⟩ : ∃ H, H = s.heap := ⟨_, rfl⟩
  obtain ⟨locs, el⟩ : ∃ locs : List Loc, locs = [] := ⟨_, rfl⟩
  rw [← eH] at hP ⊢
  have hS : va_S (zA G 23 s.heap.size) s.heap H locs := by rw [eH, el]; exact hS
  rw [← el]
  refine lv_aload_n hx hb dX6_named_0 rfl (lv_at hl 0 rfl) ?_
  refine zr_get (C := RX6) (T := TX6) (n := 51) C0 hP 0 (by decide) shM_0 19 rfl (by decide) uw_X6 mw_456 rfl dX6_named_1 ?_
  refine if c_1 : (M.1 0 19) = (2968 : Int32) then ?_ else ?_
  · replace hf := zI_t c_1 hf
    refine lv_lookup (tgt := 70) hx hb dX6_named_4 (by decide) (off := 66) (by rw [c_1]; decide) (by decide) ?_
    refine lv_iconst (v := (3 : Int32)) hx hb dX6_named_70 (by decide) ?_
    exact ze_i C0 hP hS hf dX6_named_71 hQ
  · replace hf := zI_f c_1 hf
    refine if c_2 : (M.1 0 19) = (5863 : Int32) then ?_ else ?_
    · replace hf := zI_t c_2 hf
      refine lv_lookup (tgt := 72) hx hb dX6_named_4 (by decide) (off := 68) (by rw [c_2]; decide) (by decide) ?_
      refine lv_iconst (v := (4 : Int32)) hx hb dX6_named_72 (by decide) ?_
      exact ze_i C0 hP hS hf dX6_named_73 hQ
    · replace hf := zI_f c_2 hf
      refine if c_3 : (M.1 0 19) = (13694 : Int32) then ?_ else ?_
      · replace hf := zI_t c_3 hf
        refine lv_lookup (tgt := 64) hx hb dX6_named_4 (by decide) (off := 60) (by rw [c_3]; decide) (by decide) ?_
        refine lv_iconst (v := (0 : Int32)) hx hb dX6_named_64 (by decide) ?_
        exact ze_i C0 hP hS hf dX6_named_65 hQ
      · replace hf := zI_f c_3 hf
        refine if c_4 : (M.1 0 19) = (16922 : Int32) then ?_ else ?_
        · replace hf := zI_t c_4 hf
          refine lv_lookup (tgt := 68) hx hb dX6_named_4 (by decide) (off := 64) (by rw [c_4]; decide) (by decide) ?_
          refine lv_iconst (v := (2 : Int32)) hx hb dX6_named_68 (by decide) ?_
          exact ze_i C0 hP hS hf dX6_named_69 hQ
        · replace hf := zI_f c_4 hf
          refine if c_5 : (M.1 0 19) = (267347 : Int32) then ?_ else ?_
          · replace hf := zI_t c_5 hf
            refine lv_lookup (tgt := 74) hx hb dX6_named_4 (by decide) (off := 70) (by rw [c_5]; decide) (by decide) ?_
            refine lv_iconst (v := (5 : Int32)) hx hb dX6_named_74 (by decide) ?_
            exact ze_i C0 hP hS hf dX6_named_75 hQ
          · replace hf := zI_f c_5 hf
            refine if c_6 : (M.1 0 19) = (212302449 : Int32) then ?_ else ?_
            · replace hf := zI_t c_6 hf
              refine lv_lookup (tgt := 66) hx hb dX6_named_4 (by decide) (off := 62) (by rw [c_6]; decide) (by decide) ?_
              refine lv_iconst (v := (1 : Int32)) hx hb dX6_named_66 (by decide) ?_
              exact ze_i C0 hP hS hf dX6_named_67 hQ
            · replace hf := zI_f c_6 hf
              refine lv_lookup (tgt := 76) hx hb dX6_named_4 (by decide) (off := 72) (by show Op.lookupswitch.offset [(2968, 66), (5863, 68), (13694, 60), (16922, 64), (267347, 70), (212302449, 62)] _ _ = _; rw [lv_osw c_1 (by decide), lv_osw c_2 (by decide), lv_osw c_3 (by decide), lv_osw c_4 (by decide), lv_osw c_5 (by decide), lv_osw c_6 (by decide)]; rfl) (by decide) ?_
              refine lv_iconst (v := (-1 : Int32)) hx hb dX6_named_76 (by decide) ?_
              exact ze_i C0 hP hS hf dX6_named_77 hQ
def fX6_isKey (M : zM) : Option (Int32 × zM) :=
  if (M.1 0 19) = (423 : Int32) then
    some ((1 : Int32), M)
  else
    if (M.1 0 19) = (1111 : Int32) then
      some ((1 : Int32), M)
    else
      if (M.1 0 19) = (10631 : Int32) then
        some ((1 : Int32), M)
      else
        if (M.1 0 19) = (369757 : Int32) then
          some ((1 : Int32), M)
        else
          if (M.1 0 19) = (370000 : Int32) then
            some ((1 : Int32), M)
          else
            if (M.1 0 19) = (1841662 : Int32) then
              some ((1 : Int32), M)
            else
              some ((0 : Int32), M)
set_option maxHeartbeats 4000000 in
set_option maxRecDepth 100000 in
theorem mtX6_isKey (l : Launch) (G : zGr) (hJ : zJ G 23) (M : zM) (o : Int32 × zM) (hf : fX6_isKey M = some o) : zMi l G shM 23 yX6_isKey cX6_isKey 1 (some .boolean) 0 0 [.ref (G.2.2.1 0)] M o := by
  intro sz
  refine zOf (by decide) (Nat.le_of_ble_eq_true rfl) ?_
  intro p e R Q s m args below meth c hRm hsz hQ C0 hP hS ls hl
  subst hsz
  replace hRm : R = { frames := 0, cells := 0, slots := 0, locals := 0 } := hRm
  have hl : lv_has ls 1 [(0, .ref (G.2.2.1 0))] := hl
  have hx := C0.1
  have hb := C0.2.1
  have hown := C0.2.2.2.1
  have hts := C0.2.2.2.2.1
  unfold fX6_isKey at hf
  obtain ⟨H, eH⟩ : ∃ H, H = s.heap := ⟨_, rfl⟩
  obtain ⟨locs, el⟩ : ∃ locs : List Loc, locs = [] := ⟨_, rfl⟩
  rw [← eH] at hP ⊢
  have hS : va_S (zA G 23 s.heap.size) s.heap H locs := by rw [eH, el]; exact hS
  rw [← el]
  refine lv_aload_n hx hb dX6_isKey_0 rfl (lv_at hl 0 rfl) ?_
  refine zr_get (C := RX6) (T := TX6) (n := 51) C0 hP 0 (by decide) shM_0 19 rfl (by decide) uw_X6 mw_456 rfl dX6_isKey_1 ?_
  refine if c_1 : (M.1 0 19) = (423 : Int32) then ?_ else ?_
  · replace hf := zI_t c_1 hf
    refine lv_lookup (tgt := 64) hx hb dX6_isKey_4 (by decide) (off := 60) (by rw [c_1]; decide) (by decide) ?_
    refine lv_iconst (v := (1 : Int32)) hx hb dX6_isKey_64 (by decide) ?_
    exact ze_z C0 hP hS (by decide) hf dX6_isKey_65 hQ
  · replace hf := zI_f c_1 hf
    refine if c_2 : (M.1 0 19) = (1111 : Int32) then ?_ else ?_
    · replace hf := zI_t c_2 hf
      refine lv_lookup (tgt := 64) hx hb dX6_isKey_4 (by decide) (off := 60) (by rw [c_2]; decide) (by decide) ?_
      refine lv_iconst (v := (1 : Int32)) hx hb dX6_isKey_64 (by decide) ?_
      exact ze_z C0 hP hS (by decide) hf dX6_isKey_65 hQ
    · replace hf := zI_f c_2 hf
      refine if c_3 : (M.1 0 19) = (10631 : Int32) then ?_ else ?_
      · replace hf := zI_t c_3 hf
        refine lv_lookup (tgt := 64) hx hb dX6_isKey_4 (by decide) (off := 60) (by rw [c_3]; decide) (by decide) ?_
        refine lv_iconst (v := (1 : Int32)) hx hb dX6_isKey_64 (by decide) ?_
        exact ze_z C0 hP hS (by decide) hf dX6_isKey_65 hQ
      · replace hf := zI_f c_3 hf
        refine if c_4 : (M.1 0 19) = (369757 : Int32) then ?_ else ?_
        · replace hf := zI_t c_4 hf
          refine lv_lookup (tgt := 64) hx hb dX6_isKey_4 (by decide) (off := 60) (by rw [c_4]; decide) (by decide) ?_
          refine lv_iconst (v := (1 : Int32)) hx hb dX6_isKey_64 (by decide) ?_
          exact ze_z C0 hP hS (by decide) hf dX6_isKey_65 hQ
        · replace hf := zI_f c_4 hf
          refine if c_5 : (M.1 0 19) = (370000 : Int32) then ?_ else ?_
          · replace hf := zI_t c_5 hf
            refine lv_lookup (tgt := 64) hx hb dX6_isKey_4 (by decide) (off := 60) (by rw [c_5]; decide) (by decide) ?_
            refine lv_iconst (v := (1 : Int32)) hx hb dX6_isKey_64 (by decide) ?_
            exact ze_z C0 hP hS (by decide) hf dX6_isKey_65 hQ
          · replace hf := zI_f c_5 hf
            refine if c_6 : (M.1 0 19) = (1841662 : Int32) then ?_ else ?_
            · replace hf := zI_t c_6 hf
              refine lv_lookup (tgt := 64) hx hb dX6_isKey_4 (by decide) (off := 60) (by rw [c_6]; decide) (by decide) ?_
              refine lv_iconst (v := (1 : Int32)) hx hb dX6_isKey_64 (by decide) ?_
              exact ze_z C0 hP hS (by decide) hf dX6_isKey_65 hQ
            · replace hf := zI_f c_6 hf
              refine lv_lookup (tgt := 66) hx hb dX6_isKey_4 (by decide) (off := 62) (by show Op.lookupswitch.offset [(423, 60), (1111, 60), (10631, 60), (369757, 60), (370000, 60), (1841662, 60)] _ _ = _; rw [lv_osw c_1 (by decide), lv_osw c_2 (by decide), lv_osw c_3 (by decide), lv_osw c_4 (by decide), lv_osw c_5 (by decide), lv_osw c_6 (by decide)]; rfl) (by decide) ?_
              refine lv_iconst (v := (0 : Int32)) hx hb dX6_isKey_66 (by decide) ?_
              exact ze_z C0 hP hS (by decide) hf dX6_isKey_67 hQ
def fX6_next_J321 (M : zM) : Option (zM) :=
  if ((M.1 0 16) - (M.1 0 15)) ≤ (4 : Int32) then
    zL (zu M 0 17 (48 : Int32)) fun M_26 =>
    some M_26
  else
    zL (zu M 0 17 (120 : Int32)) fun M_27 =>
    some M_27
def fX6_next_B245 (r245 : zM → Option (zM)) (M : zM) : Option (zM) :=
  if (M.1 0 8) ≤ (M.1 0 16) then
    fX6_next_J321 M
  else
    zG (zin (M.1 0 16) 160) <|
    zB (fX6_isDigit (M.1 5 (M.1 0 16).toNatClampNeg) M) fun r_31 M_29 =>
    if r_31 = (0 : Int32) then
      fX6_next_J321 M_29
    else
      if (4 : Int32) ≤ ((M_29.1 0 16) - (M_29.1 0 15)) then
        zL (zu M_29 0 16 ((M_29.1 0 16) + (1 : Int32))) fun M_34 =>
        r245 M_34
      else
        zG (zin (M_29.1 0 16) 160) <|
        zL (zu M_29 0 18 ((((10 : Int32) * (M_29.1 0 18)) + (M_29.1 5 (M_29.1 0 16).toNatClampNeg)) - (48 : Int32))) fun M_36 =>
        zL (zu M_36 0 16 ((M_36.1 0 16) + (1 : Int32))) fun M_37 =>
        r245 M_37
def fX6_next_L245 : Nat → zM → Option (zM)
  | 0 => fun _ => none
  | j9 + 1 => fX6_next_B245 (fX6_next_L245 j9)
def fX6_next_J204 (M : zM) : Option (zM) :=
  zB (fX6_named M) fun r_42 M_40 =>
  if r_42 = (-1 : Int32) then
    zB (fX6_isKey M_40) fun r_47 M_45 =>
    if r_47 = (0 : Int32) then
      zL (zu M_45 0 17 (120 : Int32)) fun M_50 =>
      some M_50
    else
      zL (zu M_45 0 17 (119 : Int32)) fun M_49 =>
      some M_49
  else
    zL (zu M_40 0 17 (119 : Int32)) fun M_44 =>
    some M_44
def fX6_next_J185 (M : zM) : Option (zM) :=
  if ((M.1 0 16) - (M.1 0 15)) ≤ (6 : Int32) then
    fX6_next_J204 M
  else
    zL (zu M 0 19 (-1 : Int32)) fun M_51 =>
    fX6_next_J204 M_51
def fX6_next_B108 (r108 : zM → Option (zM)) (M : zM) : Option (zM) :=
  if (M.1 0 8) ≤ (M.1 0 16) then
    fX6_next_J185 M
  else
    zG (zin (M.1 0 16) 160) <|
    zB (fX6_isLetter (M.1 5 (M.1 0 16).toNatClampNeg) M) fun r_55 M_53 =>
    if r_55 = (0 : Int32) then
      fX6_next_J185 M_53
    else
      if (6 : Int32) ≤ ((M_53.1 0 16) - (M_53.1 0 15)) then
        zL (zu M_53 0 16 ((M_53.1 0 16) + (1 : Int32))) fun M_58 =>
        r108 M_58
      else
        zG (zin (M_53.1 0 16) 160) <|
        zL (zu M_53 0 19 ((((27 : Int32) * (M_53.1 0 19)) + (M_53.1 5 (M_53.1 0 16).toNatClampNeg)) - (96 : Int32))) fun M_60 =>
        zL (zu M_60 0 16 ((M_60.1 0 16) + (1 : Int32))) fun M_61 =>
        r108 M_61
def fX6_next_L108 : Nat → zM → Option (zM)
  | 0 => fun _ => none
  | j9 + 1 => fX6_next_B108 (fX6_next_L108 j9)
def fX6_next_J60 (M : zM) : Option (zM) :=
  zL (zu M 0 16 (M.1 0 15)) fun M_3 =>
  zL (zu M_3 0 19 (0 : Int32)) fun M_4 =>
  if (M_4.1 0 15) = (M_4.1 0 8) then
    zL (zu M_4 0 17 (101 : Int32)) fun M_62 =>
    some M_62
  else
    zG (zin (M_4.1 0 15) 160) <|
    zL (M_4.1 5 (M_4.1 0 15).toNatClampNeg) fun x1_7 =>
    zB (fX6_isLetter x1_7 M_4) fun r_10 M_8 =>
    if r_10 = (0 : Int32) then
      zB (fX6_isDigit x1_7 M_8) fun r_14 M_12 =>
      if r_14 = (0 : Int32) then
        zL (zu M_12 0 16 ((M_12.1 0 16) + (1 : Int32))) fun M_16 =>
        zB (fX6_isSign x1_7 M_16) fun r_19 M_17 =>
        if r_19 = (0 : Int32) then
          zL (zu M_17 0 17 (120 : Int32)) fun M_21 =>
          some M_21
        else
          zL (zu M_17 0 17 x1_7) fun M_22 =>
          some M_22
      else
        zL (zu M_12 0 18 (0 : Int32)) fun M_23 =>
        fX6_next_L245 zF M_23
    else
      fX6_next_L108 zF M_8
def fX6_next_B8 (r8 : zM → Option (zM)) (M : zM) : Option (zM) :=
  if (M.1 0 8) ≤ (M.1 0 15) then
    fX6_next_J60 M
  else
    zG (zin (M.1 0 15) 160) <|
    if (M.1 5 (M.1 0 15).toNatClampNeg) = (32 : Int32) then
      zL (zu M 0 15 ((M.1 0 15) + (1 : Int32))) fun M_65 =>
      r8 M_65
    else
      zG (zin (M.1 0 15) 160) <|
      if (M.1 5 (M.1 0 15).toNatClampNeg) = (10 : Int32) then
        zL (zu M 0 15 ((M.1 0 15) + (1 : Int32))) fun M_68 =>
        r8 M_68
      else
        fX6_next_J60 M
def fX6_next_L8 : Nat → zM → Option (zM)
  | 0 => fun _ => none
  | j9 + 1 => fX6_next_B8 (fX6_next_L8 j9)
def fX6_next (M : zM) : Option (zM) :=
  zL (zu M 0 15 (M.1 0 16)) fun M_1 =>
  fX6_next_L8 zF M_1
set_option maxHeartbeats 4000000 in
set_option maxRecDepth 100000 in
theorem mtX6_next (l : Launch) (G : zGr) (hJ : zJ G 23) (M : zM) (o : zM) (hf : fX6_next M = some o) : zMv l G shM 23 yX6_next cX6_next 2 none 1 20 [.ref (G.2.2.1 0)] M o := by
  intro sz
  refine zOf (by decide) (Nat.le_of_ble_eq_true rfl) ?_
  intro p e R Q s m args below meth c hRm hsz hQ C0 hP hS ls hl
  subst hsz
  replace hRm : R = { frames := 1, cells := 0, slots := 0, locals := 20 } := hRm
  have hl : lv_has ls 2 [(0, .ref (G.2.2.1 0))] := hl
  have hx := C0.1
  have hb := C0.2.1
  have hown := C0.2.2.2.1
  have hts := C0.2.2.2.2.1
  have J321 : ∀ (M : zM) (H : Heap) (locs : List Loc) (ls : Array Slot), lv_has ls 2 [(0, .ref (G.2.2.1 0))] → va_P G.1 zcl (zw G shM 23 M) H → va_S (zA G 23 s.heap.size) s.heap H locs → fX6_next_J321 M = some o → W p l e R s m args below meth c H locs 0 0 Q (F0 m 321 ls []) := by
    intro M H locs ls hl hP hS hf
    unfold fX6_next_J321 at hf
    refine lv_aload_n hx hb dX6_next_321 rfl (lv_at hl 0 rfl) ?_
    refine lv_aload_n hx hb dX6_next_322 rfl (lv_at hl 0 rfl) ?_
    refine zr_get (C := RX6) (T := TX6) (n := 51) C0 hP 0 (by decide) shM_0 16 rfl (by decide) uw_X6 mw_457 rfl dX6_next_323 ?_
    refine lv_aload_n hx hb dX6_next_326 rfl (lv_at hl 0 rfl) ?_
    refine zr_get (C := RX6) (T := TX6) (n := 51) C0 hP 0 (by decide) shM_0 15 rfl (by decide) uw_X6 mw_458 rfl dX6_next_327 ?_
    refine lv_isub hx hb dX6_next_330 ?_
    refine lv_iconst (v := (4 : Int32)) hx hb dX6_next_331 (by decide) ?_
    refine lv_icmp_le (tgt := 340) hx hb dX6_next_332 (by decide) (fun c_25 => ?_) (fun c_25 => ?_)
    · replace hf := zI_t c_25 hf
      refine lv_bipush (v := (48 : Int32)) hx hb dX6_next_340 (by decide) ?_
      refine zr_put (C := RX6) (T := TX6) (n := 51) C0 hJ hP hS 0 (by decide) shM_0 17 rfl (by decide) uw_X6 tyX6 tyX6_ok nmX6 mw_468 rfl rfl ⟨rfl, rfl⟩ dX6_next_342 (fun H locs hP hS => ?_)
      obtain ⟨M_26, eM_26, hf⟩ := zL_o hf
      have hP : va_P G.1 zcl (zw G shM 23 M_26) H := by rw [eM_26]; exact hP
      refine lv_goto (tgt := 375) hx hb dX6_next_345 (by decide) ?_
      exact ze_v C0 hP hS hf dX6_next_375 hQ
    · replace hf := zI_f c_25 hf
      refine lv_bipush (v := (120 : Int32)) hx hb dX6_next_335 (by decide) ?_
      refine lv_goto (tgt := 342) hx hb dX6_next_337 (by decide) ?_
      refine zr_put (C := RX6) (T := TX6) (n := 51) C0 hJ hP hS 0 (by decide) shM_0 17 rfl (by decide) uw_X6 tyX6 tyX6_ok nmX6 mw_468 rfl rfl ⟨rfl, rfl⟩ dX6_next_342 (fun H locs hP hS => ?_)
      obtain ⟨M_27, eM_27, hf⟩ := zL_o hf
      have hP : va_P G.1 zcl (zw G shM 23 M_27) H := by rw [eM_27]; exact hP
      refine lv_goto (tgt := 375) hx hb dX6_next_345 (by decide) ?_
      exact ze_v C0 hP hS hf dX6_next_375 hQ
  have L245 : ∀ (n245 : Nat), ∀ (M : zM) (H : Heap) (locs : List Loc) (ls : Array Slot), lv_has ls 2 [(0, .ref (G.2.2.1 0))] → va_P G.1 zcl (zw G shM 23 M) H → va_S (zA G 23 s.heap.size) s.heap H locs → fX6_next_L245 n245 M = some o → W p l e R s m args below meth c H locs 0 0 Q (F0 m 245 ls []) := by
    intro n245
    induction n245 with
    | zero => intro M H locs ls hl hP hS hf; exact zn_s (show none = some o from hf)
    | succ n245 ih245 =>
      intro M H locs ls hl hP hS hf
      replace hf : fX6_next_B245 (fX6_next_L245 n245) M = some o := hf
      unfold fX6_next_B245 at hf
      refine lv_aload_n hx hb dX6_next_245 rfl (lv_at hl 0 rfl) ?_
      refine zr_get (C := RX6) (T := TX6) (n := 51) C0 hP 0 (by decide) shM_0 16 rfl (by decide) uw_X6 mw_457 rfl dX6_next_246 ?_
      refine lv_aload_n hx hb dX6_next_249 rfl (lv_at hl 0 rfl) ?_
      refine zr_get (C := RX6) (T := TX6) (n := 51) C0 hP 0 (by decide) shM_0 8 rfl (by decide) uw_X6 mw_454 rfl dX6_next_250 ?_
      refine lv_icmp_ge (tgt := 321) hx hb dX6_next_253 (by decide) (fun c_24 => ?_) (fun c_24 => ?_)
      · replace hf := zI_t c_24 hf
        exact J321 M H locs ls (lv_sub hl [0] rfl) hP hS hf
      · replace hf := zI_f c_24 hf
        refine lv_aload_n hx hb dX6_next_256 rfl (lv_at hl 0 rfl) ?_
        refine zr_getq (C := RX6) (T := TX6) (n := 51) C0 hP 0 (by decide) shM_0 9 5 rfl (by decide) uw_X6 mw_455 rfl dX6_next_257 ?_
        refine lv_aload_n hx hb dX6_next_260 rfl (lv_at hl 0 rfl) ?_
        refine zr_get (C := RX6) (T := TX6) (n := 51) C0 hP 0 (by decide) shM_0 16 rfl (by decide) uw_X6 mw_457 rfl dX6_next_261 ?_
        obtain ⟨hg_28, hf⟩ := zG_o hf
        refine zr_iald C0 hP 5 (by decide) shM_5 hg_28 dX6_next_264 ?_
        obtain ⟨r_31, M_29, hc_30, hf⟩ := zB_o hf
        refine zc_si (As := [.int (M.1 5 (M.1 0 16).toNatClampNeg)]) (rest := []) C0 hP hS hl.1 (mtX6_isDigit l G hJ (M.1 5 (M.1 0 16).toNatClampNeg) M _ hc_30) ls_X6_149 ds_X6_isDigit (by rw [hRm]; exact ⟨Nat.le_of_ble_eq_true rfl, Nat.le_of_ble_eq_true rfl⟩) rfl rfl (Nat.le_of_ble_eq_true rfl) dX6_next_265 ⟨Nat.zero_le _, Nat.zero_le _⟩ (fun H locs hP hS => ?_)
        refine lv_if_eq (tgt := 321) hx hb dX6_next_268 (by decide) (fun c_32 => ?_) (fun c_32 => ?_)
        · replace hf := zI_t c_32 hf
          exact J321 M_29 H locs ls (lv_sub hl [0] rfl) hP hS hf
        · replace hf := zI_f c_32 hf
          refine lv_aload_n hx hb dX6_next_271 rfl (lv_at hl 0 rfl) ?_
          refine zr_get (C := RX6) (T := TX6) (n := 51) C0 hP 0 (by decide) shM_0 16 rfl (by decide) uw_X6 mw_457 rfl dX6_next_272 ?_
          refine lv_aload_n hx hb dX6_next_275 rfl (lv_at hl 0 rfl) ?_
          refine zr_get (C := RX6) (T := TX6) (n := 51) C0 hP 0 (by decide) shM_0 15 rfl (by decide) uw_X6 mw_458 rfl dX6_next_276 ?_
          refine lv_isub hx hb dX6_next_279 ?_
          refine lv_iconst (v := (4 : Int32)) hx hb dX6_next_280 (by decide) ?_
          refine lv_icmp_ge (tgt := 308) hx hb dX6_next_281 (by decide) (fun c_33 => ?_) (fun c_33 => ?_)
          · replace hf := zI_t c_33 hf
            refine lv_aload_n hx hb dX6_next_308 rfl (lv_at hl 0 rfl) ?_
            refine lv_dup hx hb dX6_next_309 rfl ?_
            refine zr_get (C := RX6) (T := TX6) (n := 51) C0 hP 0 (by decide) shM_0 16 rfl (by decide) uw_X6 mw_457 rfl dX6_next_310 ?_
            refine lv_iconst (v := (1 : Int32)) hx hb dX6_next_313 (by decide) ?_
            refine lv_iadd hx hb dX6_next_314 ?_
            refine zr_put (C := RX6) (T := TX6) (n := 51) C0 hJ hP hS 0 (by decide) shM_0 16 rfl (by decide) uw_X6 tyX6 tyX6_ok nmX6 mw_457 rfl rfl ⟨rfl, rfl⟩ dX6_next_315 (fun H locs hP hS => ?_)
            obtain ⟨M_34, eM_34, hf⟩ := zL_o hf
            have hP : va_P G.1 zcl (zw G shM 23 M_34) H := by rw [eM_34]; exact hP
            refine lv_goto (tgt := 245) hx hb dX6_next_318 (by decide) ?_
            exact ih245 M_34 H locs ls (lv_sub hl [0] rfl) hP hS hf
          · replace hf := zI_f c_33 hf
            refine lv_aload_n hx hb dX6_next_284 rfl (lv_at hl 0 rfl) ?_
            refine lv_bipush (v := (10 : Int32)) hx hb dX6_next_285 (by decide) ?_
            refine lv_aload_n hx hb dX6_next_287 rfl (lv_at hl 0 rfl) ?_
            refine zr_get (C := RX6) (T := TX6) (n := 51) C0 hP 0 (by decide) shM_0 18 rfl (by decide) uw_X6 mw_469 rfl dX6_next_288 ?_
            refine lv_imul hx hb dX6_next_291 ?_
            refine lv_aload_n hx hb dX6_next_292 rfl (lv_at hl 0 rfl) ?_
            refine zr_getq (C := RX6) (T := TX6) (n := 51) C0 hP 0 (by decide) shM_0 9 5 rfl (by decide) uw_X6 mw_455 rfl dX6_next_293 ?_
            refine lv_aload_n hx hb dX6_next_296 rfl (lv_at hl 0 rfl) ?_
            refine zr_get (C := RX6) (T := TX6) (n := 51) C0 hP 0 (by decide) shM_0 16 rfl (by decide) uw_X6 mw_457 rfl dX6_next_297 ?_
            obtain ⟨hg_35, hf⟩ := zG_o hf
            refine zr_iald C0 hP 5 (by decide) shM_5 hg_35 dX6_next_300 ?_
            refine lv_iadd hx hb dX6_next_301 ?_
            refine lv_bipush (v := (48 : Int32)) hx hb dX6_next_302 (by decide) ?_
            refine lv_isub hx hb dX6_next_304 ?_
            refine zr_put (C := RX6) (T := TX6) (n := 51) C0 hJ hP hS 0 (by decide) shM_0 18 rfl (by decide) uw_X6 tyX6 tyX6_ok nmX6 mw_469 rfl rfl ⟨rfl, rfl⟩ dX6_next_305 (fun H locs hP hS => ?_)
            obtain ⟨M_36, eM_36, hf⟩ := zL_o hf
            have hP : va_P G.1 zcl (zw G shM 23 M_36) H := by rw [eM_36]; exact hP
            refine lv_aload_n hx hb dX6_next_308 rfl (lv_at hl 0 rfl) ?_
            refine lv_dup hx hb dX6_next_309 rfl ?_
            refine zr_get (C := RX6) (T := TX6) (n := 51) C0 hP 0 (by decide) shM_0 16 rfl (by decide) uw_X6 mw_457 rfl dX6_next_310 ?_
            refine lv_iconst (v := (1 : Int32)) hx hb dX6_next_313 (by decide) ?_
            refine lv_iadd hx hb dX6_next_314 ?_
            refine zr_put (C := RX6) (T := TX6) (n := 51) C0 hJ hP hS 0 (by decide) shM_0 16 rfl (by decide) uw_X6 tyX6 tyX6_ok nmX6 mw_457 rfl rfl ⟨rfl, rfl⟩ dX6_next_315 (fun H locs hP hS => ?_)
            obtain ⟨M_37, eM_37, hf⟩ := zL_o hf
            have hP : va_P G.1 zcl (zw G shM 23 M_37) H := by rw [eM_37]; exact hP
            refine lv_goto (tgt := 245) hx hb dX6_next_318 (by decide) ?_
            exact ih245 M_37 H locs ls (lv_sub hl [0] rfl) hP hS hf
  have J204 : ∀ (M : zM) (H : Heap) (locs : List Loc) (ls : Array Slot), lv_has ls 2 [(0, .ref (G.2.2.1 0))] → va_P G.1 zcl (zw G shM 23 M) H → va_S (zA G 23 s.heap.size) s.heap H locs → fX6_next_J204 M = some o → W p l e R s m args below meth c H locs 0 0 Q (F0 m 204 ls []) := by
    intro M H locs ls hl hP hS hf
    unfold fX6_next_J204 at hf
    refine lv_aload_n hx hb dX6_next_204 rfl (lv_at hl 0 rfl) ?_
    refine lv_aload_n hx hb dX6_next_205 rfl (lv_at hl 0 rfl) ?_
    obtain ⟨r_42, M_40, hc_41, hf⟩ := zB_o hf
    refine zc_vi (As := []) (rest := [.ref (G.2.2.1 0)]) C0 hP hS hl.1 0 (mtX6_named l G hJ M _ hc_41) lk_X6_141 (by decide) shM_0 (T := TX6) (n' := 51) rfl ds_X6_named (by rw [hRm]; exact ⟨Nat.le_of_ble_eq_true rfl, Nat.le_of_ble_eq_true rfl⟩) rfl rfl (Nat.le_of_ble_eq_true rfl) dX6_next_206 ⟨Nat.zero_le _, Nat.zero_le _⟩ (fun H locs hP hS => ?_)
    refine lv_iconst (v := (-1 : Int32)) hx hb dX6_next_209 (by decide) ?_
    refine lv_icmp_ne (tgt := 225) hx hb dX6_next_210 (by decide) (fun c_43 => ?_) (fun c_43 => ?_)
    · replace hf := zI_f c_43 hf
      refine lv_bipush (v := (119 : Int32)) hx hb dX6_next_225 (by decide) ?_
      refine zr_put (C := RX6) (T := TX6) (n := 51) C0 hJ hP hS 0 (by decide) shM_0 17 rfl (by decide) uw_X6 tyX6 tyX6_ok nmX6 mw_468 rfl rfl ⟨rfl, rfl⟩ dX6_next_227 (fun H locs hP hS => ?_)
      obtain ⟨M_44, eM_44, hf⟩ := zL_o hf
      have hP : va_P G.1 zcl (zw G shM 23 M_44) H := by rw [eM_44]; exact hP
      refine lv_goto (tgt := 375) hx hb dX6_next_230 (by decide) ?_
      exact ze_v C0 hP hS hf dX6_next_375 hQ
    · replace hf := zI_t c_43 hf
      refine lv_aload_n hx hb dX6_next_213 rfl (lv_at hl 0 rfl) ?_
      obtain ⟨r_47, M_45, hc_46, hf⟩ := zB_o hf
      refine zc_vi (As := []) (rest := [.ref (G.2.2.1 0)]) C0 hP hS hl.1 0 (mtX6_isKey l G hJ M_40 _ hc_46) lk_X6_145 (by decide) shM_0 (T := TX6) (n' := 51) rfl ds_X6_isKey (by rw [hRm]; exact ⟨Nat.le_of_ble_eq_true rfl, Nat.le_of_ble_eq_true rfl⟩) rfl rfl (Nat.le_of_ble_eq_true rfl) dX6_next_214 ⟨Nat.zero_le _, Nat.zero_le _⟩ (fun H locs hP hS => ?_)
      refine lv_if_ne (tgt := 225) hx hb dX6_next_217 (by decide) (fun c_48 => ?_) (fun c_48 => ?_)
      · replace hf := zI_f c_48 hf
        refine lv_bipush (v := (119 : Int32)) hx hb dX6_next_225 (by decide) ?_
        refine zr_put (C := RX6) (T := TX6) (n := 51) C0 hJ hP hS 0 (by decide) shM_0 17 rfl (by decide) uw_X6 tyX6 tyX6_ok nmX6 mw_468 rfl rfl ⟨rfl, rfl⟩ dX6_next_227 (fun H locs hP hS => ?_)
        obtain ⟨M_49, eM_49, hf⟩ := zL_o hf
        have hP : va_P G.1 zcl (zw G shM 23 M_49) H := by rw [eM_49]; exact hP
        refine lv_goto (tgt := 375) hx hb dX6_next_230 (by decide) ?_
        exact ze_v C0 hP hS hf dX6_next_375 hQ
      · replace hf := zI_t c_48 hf
        refine lv_bipush (v := (120 : Int32)) hx hb dX6_next_220 (by decide) ?_
        refine lv_goto (tgt := 227) hx hb dX6_next_222 (by decide) ?_
        refine zr_put (C := RX6) (T := TX6) (n := 51) C0 hJ hP hS 0 (by decide) shM_0 17 rfl (by decide) uw_X6 tyX6 tyX6_ok nmX6 mw_468 rfl rfl ⟨rfl, rfl⟩ dX6_next_227 (fun H locs hP hS => ?_)
        obtain ⟨M_50, eM_50, hf⟩ := zL_o hf
        have hP : va_P G.1 zcl (zw G shM 23 M_50) H := by rw [eM_50]; exact hP
        refine lv_goto (tgt := 375) hx hb dX6_next_230 (by decide) ?_
        exact ze_v C0 hP hS hf dX6_next_375 hQ
  have J185 : ∀ (M : zM) (H : Heap) (locs : List Loc) (ls : Array Slot), lv_has ls 2 [(0, .ref (G.2.2.1 0))] → va_P G.1 zcl (zw G shM 23 M) H → va_S (zA G 23 s.heap.size) s.heap H locs → fX6_next_J185 M = some o → W p l e R s m args below meth c H locs 0 0 Q (F0 m 185 ls []) := by
    intro M H locs ls hl hP hS hf
    unfold fX6_next_J185 at hf
    refine lv_aload_n hx hb dX6_next_185 rfl (lv_at hl 0 rfl) ?_
    refine zr_get (C := RX6) (T := TX6) (n := 51) C0 hP 0 (by decide) shM_0 16 rfl (by decide) uw_X6 mw_457 rfl dX6_next_186 ?_
    refine lv_aload_n hx hb dX6_next_189 rfl (lv_at hl 0 rfl) ?_
    refine zr_get (C := RX6) (T := TX6) (n := 51) C0 hP 0 (by decide) shM_0 15 rfl (by decide) uw_X6 mw_458 rfl dX6_next_190 ?_
    refine lv_isub hx hb dX6_next_193 ?_
    refine lv_bipush (v := (6 : Int32)) hx hb dX6_next_194 (by decide) ?_
    refine lv_icmp_le (tgt := 204) hx hb dX6_next_196 (by decide) (fun c_39 => ?_) (fun c_39 => ?_)
    · replace hf := zI_t c_39 hf
      exact J204 M H locs ls (lv_sub hl [0] rfl) hP hS hf
    · replace hf := zI_f c_39 hf
      refine lv_aload_n hx hb dX6_next_199 rfl (lv_at hl 0 rfl) ?_
      refine lv_iconst (v := (-1 : Int32)) hx hb dX6_next_200 (by decide) ?_
      refine zr_put (C := RX6) (T := TX6) (n := 51) C0 hJ hP hS 0 (by decide) shM_0 19 rfl (by decide) uw_X6 tyX6 tyX6_ok nmX6 mw_456 rfl rfl ⟨rfl, rfl⟩ dX6_next_201 (fun H locs hP hS => ?_)
      obtain ⟨M_51, eM_51, hf⟩ := zL_o hf
      have hP : va_P G.1 zcl (zw G shM 23 M_51) H := by rw [eM_51]; exact hP
      exact J204 M_51 H locs ls (lv_sub hl [0] rfl) hP hS hf
  have L108 : ∀ (n108 : Nat), ∀ (M : zM) (H : Heap) (locs : List Loc) (ls : Array Slot), lv_has ls 2 [(0, .ref (G.2.2.1 0))] → va_P G.1 zcl (zw G shM 23 M) H → va_S (zA G 23 s.heap.size) s.heap H locs → fX6_next_L108 n108 M = some o → W p l e R s m args below meth c H locs 0 0 Q (F0 m 108 ls []) := by
    intro n108
    induction n108 with
    | zero => intro M H locs ls hl hP hS hf; exact zn_s (show none = some o from hf)
    | succ n108 ih108 =>
      intro M H locs ls hl hP hS hf
      replace hf : fX6_next_B108 (fX6_next_L108 n108) M = some o := hf
      unfold fX6_next_B108 at hf
      refine lv_aload_n hx hb dX6_next_108 rfl (lv_at hl 0 rfl) ?_
      refine zr_get (C := RX6) (T := TX6) (n := 51) C0 hP 0 (by decide) shM_0 16 rfl (by decide) uw_X6 mw_457 rfl dX6_next_109 ?_
      refine lv_aload_n hx hb dX6_next_112 rfl (lv_at hl 0 rfl) ?_
      refine zr_get (C := RX6) (T := TX6) (n := 51) C0 hP 0 (by decide) shM_0 8 rfl (by decide) uw_X6 mw_454 rfl dX6_next_113 ?_
      refine lv_icmp_ge (tgt := 185) hx hb dX6_next_116 (by decide) (fun c_38 => ?_) (fun c_38 => ?_)
      · replace hf := zI_t c_38 hf
        exact J185 M H locs ls (lv_sub hl [0] rfl) hP hS hf
      · replace hf := zI_f c_38 hf
        refine lv_aload_n hx hb dX6_next_119 rfl (lv_at hl 0 rfl) ?_
        refine zr_getq (C := RX6) (T := TX6) (n := 51) C0 hP 0 (by decide) shM_0 9 5 rfl (by decide) uw_X6 mw_455 rfl dX6_next_120 ?_
        refine lv_aload_n hx hb dX6_next_123 rfl (lv_at hl 0 rfl) ?_
        refine zr_get (C := RX6) (T := TX6) (n := 51) C0 hP 0 (by decide) shM_0 16 rfl (by decide) uw_X6 mw_457 rfl dX6_next_124 ?_
        obtain ⟨hg_52, hf⟩ := zG_o hf
        refine zr_iald C0 hP 5 (by decide) shM_5 hg_52 dX6_next_127 ?_
        obtain ⟨r_55, M_53, hc_54, hf⟩ := zB_o hf
        refine zc_si (As := [.int (M.1 5 (M.1 0 16).toNatClampNeg)]) (rest := []) C0 hP hS hl.1 (mtX6_isLetter l G hJ (M.1 5 (M.1 0 16).toNatClampNeg) M _ hc_54) ls_X6_138 ds_X6_isLetter (by rw [hRm]; exact ⟨Nat.le_of_ble_eq_true rfl, Nat.le_of_ble_eq_true rfl⟩) rfl rfl (Nat.le_of_ble_eq_true rfl) dX6_next_128 ⟨Nat.zero_le _, Nat.zero_le _⟩ (fun H locs hP hS => ?_)
        refine lv_if_eq (tgt := 185) hx hb dX6_next_131 (by decide) (fun c_56 => ?_) (fun c_56 => ?_)
        · replace hf := zI_t c_56 hf
          exact J185 M_53 H locs ls (lv_sub hl [0] rfl) hP hS hf
        · replace hf := zI_f c_56 hf
          refine lv_aload_n hx hb dX6_next_134 rfl (lv_at hl 0 rfl) ?_
          refine zr_get (C := RX6) (T := TX6) (n := 51) C0 hP 0 (by decide) shM_0 16 rfl (by decide) uw_X6 mw_457 rfl dX6_next_135 ?_
          refine lv_aload_n hx hb dX6_next_138 rfl (lv_at hl 0 rfl) ?_
          refine zr_get (C := RX6) (T := TX6) (n := 51) C0 hP 0 (by decide) shM_0 15 rfl (by decide) uw_X6 mw_458 rfl dX6_next_139 ?_
          refine lv_isub hx hb dX6_next_142 ?_
          refine lv_bipush (v := (6 : Int32)) hx hb dX6_next_143 (by decide) ?_
          refine lv_icmp_ge (tgt := 172) hx hb dX6_next_145 (by decide) (fun c_57 => ?_) (fun c_57 => ?_)
          · replace hf := zI_t c_57 hf
            refine lv_aload_n hx hb dX6_next_172 rfl (lv_at hl 0 rfl) ?_
            refine lv_dup hx hb dX6_next_173 rfl ?_
            refine zr_get (C := RX6) (T := TX6) (n := 51) C0 hP 0 (by decide) shM_0 16 rfl (by decide) uw_X6 mw_457 rfl dX6_next_174 ?_
            refine lv_iconst (v := (1 : Int32)) hx hb dX6_next_177 (by decide) ?_
            refine lv_iadd hx hb dX6_next_178 ?_
            refine zr_put (C := RX6) (T := TX6) (n := 51) C0 hJ hP hS 0 (by decide) shM_0 16 rfl (by decide) uw_X6 tyX6 tyX6_ok nmX6 mw_457 rfl rfl ⟨rfl, rfl⟩ dX6_next_179 (fun H locs hP hS => ?_)
            obtain ⟨M_58, eM_58, hf⟩ := zL_o hf
            have hP : va_P G.1 zcl (zw G shM 23 M_58) H := by rw [eM_58]; exact hP
            refine lv_goto (tgt := 108) hx hb dX6_next_182 (by decide) ?_
            exact ih108 M_58 H locs ls (lv_sub hl [0] rfl) hP hS hf
          · replace hf := zI_f c_57 hf
            refine lv_aload_n hx hb dX6_next_148 rfl (lv_at hl 0 rfl) ?_
            refine lv_bipush (v := (27 : Int32)) hx hb dX6_next_149 (by decide) ?_
            refine lv_aload_n hx hb dX6_next_151 rfl (lv_at hl 0 rfl) ?_
            refine zr_get (C := RX6) (T := TX6) (n := 51) C0 hP 0 (by decide) shM_0 19 rfl (by decide) uw_X6 mw_456 rfl dX6_next_152 ?_
            refine lv_imul hx hb dX6_next_155 ?_
            refine lv_aload_n hx hb dX6_next_156 rfl (lv_at hl 0 rfl) ?_
            refine zr_getq (C := RX6) (T := TX6) (n := 51) C0 hP 0 (by decide) shM_0 9 5 rfl (by decide) uw_X6 mw_455 rfl dX6_next_157 ?_
            refine lv_aload_n hx hb dX6_next_160 rfl (lv_at hl 0 rfl) ?_
            refine zr_get (C := RX6) (T := TX6) (n := 51) C0 hP 0 (by decide) shM_0 16 rfl (by decide) uw_X6 mw_457 rfl dX6_next_161 ?_
            obtain ⟨hg_59, hf⟩ := zG_o hf
            refine zr_iald C0 hP 5 (by decide) shM_5 hg_59 dX6_next_164 ?_
            refine lv_iadd hx hb dX6_next_165 ?_
            refine lv_bipush (v := (96 : Int32)) hx hb dX6_next_166 (by decide) ?_
            refine lv_isub hx hb dX6_next_168 ?_
            refine zr_put (C := RX6) (T := TX6) (n := 51) C0 hJ hP hS 0 (by decide) shM_0 19 rfl (by decide) uw_X6 tyX6 tyX6_ok nmX6 mw_456 rfl rfl ⟨rfl, rfl⟩ dX6_next_169 (fun H locs hP hS => ?_)
            obtain ⟨M_60, eM_60, hf⟩ := zL_o hf
            have hP : va_P G.1 zcl (zw G shM 23 M_60) H := by rw [eM_60]; exact hP
            refine lv_aload_n hx hb dX6_next_172 rfl (lv_at hl 0 rfl) ?_
            refine lv_dup hx hb dX6_next_173 rfl ?_
            refine zr_get (C := RX6) (T := TX6) (n := 51) C0 hP 0 (by decide) shM_0 16 rfl (by decide) uw_X6 mw_457 rfl dX6_next_174 ?_
            refine lv_iconst (v := (1 : Int32)) hx hb dX6_next_177 (by decide) ?_
            refine lv_iadd hx hb dX6_next_178 ?_
            refine zr_put (C := RX6) (T := TX6) (n := 51) C0 hJ hP hS 0 (by decide) shM_0 16 rfl (by decide) uw_X6 tyX6 tyX6_ok nmX6 mw_457 rfl rfl ⟨rfl, rfl⟩ dX6_next_179 (fun H locs hP hS => ?_)
            obtain ⟨M_61, eM_61, hf⟩ := zL_o hf
            have hP : va_P G.1 zcl (zw G shM 23 M_61) H := by rw [eM_61]; exact hP
            refine lv_goto (tgt := 108) hx hb dX6_next_182 (by decide) ?_
            exact ih108 M_61 H locs ls (lv_sub hl [0] rfl) hP hS hf
  have J60 : ∀ (M : zM) (H : Heap) (locs : List Loc) (ls : Array Slot), lv_has ls 2 [(0, .ref (G.2.2.1 0))] → va_P G.1 zcl (zw G shM 23 M) H → va_S (zA G 23 s.heap.size) s.heap H locs → fX6_next_J60 M = some o → W p l e R s m args below meth c H locs 0 0 Q (F0 m 60 ls []) := by
    intro M H locs ls hl hP hS hf
    unfold fX6_next_J60 at hf
    refine lv_aload_n hx hb dX6_next_60 rfl (lv_at hl 0 rfl) ?_
    refine lv_aload_n hx hb dX6_next_61 rfl (lv_at hl 0 rfl) ?_
    refine zr_get (C := RX6) (T := TX6) (n := 51) C0 hP 0 (by decide) shM_0 15 rfl (by decide) uw_X6 mw_458 rfl dX6_next_62 ?_
    refine zr_put (C := RX6) (T := TX6) (n := 51) C0 hJ hP hS 0 (by decide) shM_0 16 rfl (by decide) uw_X6 tyX6 tyX6_ok nmX6 mw_457 rfl rfl ⟨rfl, rfl⟩ dX6_next_65 (fun H locs hP hS => ?_)
    obtain ⟨M_3, eM_3, hf⟩ := zL_o hf
    have hP : va_P G.1 zcl (zw G shM 23 M_3) H := by rw [eM_3]; exact hP
    refine lv_aload_n hx hb dX6_next_68 rfl (lv_at hl 0 rfl) ?_
    refine lv_iconst (v := (0 : Int32)) hx hb dX6_next_69 (by decide) ?_
    refine zr_put (C := RX6) (T := TX6) (n := 51) C0 hJ hP hS 0 (by decide) shM_0 19 rfl (by decide) uw_X6 tyX6 tyX6_ok nmX6 mw_456 rfl rfl ⟨rfl, rfl⟩ dX6_next_70 (fun H locs hP hS => ?_)
    obtain ⟨M_4, eM_4, hf⟩ := zL_o hf
    have hP : va_P G.1 zcl (zw G shM 23 M_4) H := by rw [eM_4]; exact hP
    refine lv_aload_n hx hb dX6_next_73 rfl (lv_at hl 0 rfl) ?_
    refine zr_get (C := RX6) (T := TX6) (n := 51) C0 hP 0 (by decide) shM_0 15 rfl (by decide) uw_X6 mw_458 rfl dX6_next_74 ?_
    refine lv_aload_n hx hb dX6_next_77 rfl (lv_at hl 0 rfl) ?_
    refine zr_get (C := RX6) (T := TX6) (n := 51) C0 hP 0 (by decide) shM_0 8 rfl (by decide) uw_X6 mw_454 rfl dX6_next_78 ?_
    refine lv_icmp_ne (tgt := 91) hx hb dX6_next_81 (by decide) (fun c_5 => ?_) (fun c_5 => ?_)
    · replace hf := zI_f c_5 hf
      refine lv_aload_n hx hb dX6_next_91 rfl (lv_at hl 0 rfl) ?_
      refine zr_getq (C := RX6) (T := TX6) (n := 51) C0 hP 0 (by decide) shM_0 9 5 rfl (by decide) uw_X6 mw_455 rfl dX6_next_92 ?_
      refine lv_aload_n hx hb dX6_next_95 rfl (lv_at hl 0 rfl) ?_
      refine zr_get (C := RX6) (T := TX6) (n := 51) C0 hP 0 (by decide) shM_0 15 rfl (by decide) uw_X6 mw_458 rfl dX6_next_96 ?_
      obtain ⟨hg_6, hf⟩ := zG_o hf
      refine zr_iald C0 hP 5 (by decide) shM_5 hg_6 dX6_next_99 ?_
      refine lv_topi (fun x1_7 ex1_7 => ?_)
      replace hf := zL_e ex1_7 hf
      refine lv_istore_n (lv' := [(1, .int x1_7), (0, .ref (G.2.2.1 0))]) hx hb dX6_next_100 rfl hl (by decide) rfl (fun ls hl => ?_)
      refine lv_iload_n hx hb dX6_next_101 rfl (lv_at hl 0 rfl) ?_
      obtain ⟨r_10, M_8, hc_9, hf⟩ := zB_o hf
      refine zc_si (As := [.int x1_7]) (rest := []) C0 hP hS hl.1 (mtX6_isLetter l G hJ x1_7 M_4 _ hc_9) ls_X6_138 ds_X6_isLetter (by rw [hRm]; exact ⟨Nat.le_of_ble_eq_true rfl, Nat.le_of_ble_eq_true rfl⟩) rfl rfl (Nat.le_of_ble_eq_true rfl) dX6_next_102 ⟨Nat.zero_le _, Nat.zero_le _⟩ (fun H locs hP hS => ?_)
      refine lv_if_eq (tgt := 233) hx hb dX6_next_105 (by decide) (fun c_11 => ?_) (fun c_11 => ?_)
      · replace hf := zI_t c_11 hf
        refine lv_iload_n hx hb dX6_next_233 rfl (lv_at hl 0 rfl) ?_
        obtain ⟨r_14, M_12, hc_13, hf⟩ := zB_o hf
        refine zc_si (As := [.int x1_7]) (rest := []) C0 hP hS hl.1 (mtX6_isDigit l G hJ x1_7 M_8 _ hc_13) ls_X6_149 ds_X6_isDigit (by rw [hRm]; exact ⟨Nat.le_of_ble_eq_true rfl, Nat.le_of_ble_eq_true rfl⟩) rfl rfl (Nat.le_of_ble_eq_true rfl) dX6_next_234 ⟨Nat.zero_le _, Nat.zero_le _⟩ (fun H locs hP hS => ?_)
        refine lv_if_eq (tgt := 348) hx hb dX6_next_237 (by decide) (fun c_15 => ?_) (fun c_15 => ?_)
        · replace hf := zI_t c_15 hf
          refine lv_aload_n hx hb dX6_next_348 rfl (lv_at hl 1 rfl) ?_
          refine lv_dup hx hb dX6_next_349 rfl ?_
          refine zr_get (C := RX6) (T := TX6) (n := 51) C0 hP 0 (by decide) shM_0 16 rfl (by decide) uw_X6 mw_457 rfl dX6_next_350 ?_
          refine lv_iconst (v := (1 : Int32)) hx hb dX6_next_353 (by decide) ?_
          refine lv_iadd hx hb dX6_next_354 ?_
          refine zr_put (C := RX6) (T := TX6) (n := 51) C0 hJ hP hS 0 (by decide) shM_0 16 rfl (by decide) uw_X6 tyX6 tyX6_ok nmX6 mw_457 rfl rfl ⟨rfl, rfl⟩ dX6_next_355 (fun H locs hP hS => ?_)
          obtain ⟨M_16, eM_16, hf⟩ := zL_o hf
          have hP : va_P G.1 zcl (zw G shM 23 M_16) H := by rw [eM_16]; exact hP
          refine lv_aload_n hx hb dX6_next_358 rfl (lv_at hl 1 rfl) ?_
          refine lv_iload_n hx hb dX6_next_359 rfl (lv_at hl 0 rfl) ?_
          obtain ⟨r_19, M_17, hc_18, hf⟩ := zB_o hf
          refine zc_si (As := [.int x1_7]) (rest := [.ref (G.2.2.1 0)]) C0 hP hS hl.1 (mtX6_isSign l G hJ x1_7 M_16 _ hc_18) ls_X6_155 ds_X6_isSign (by rw [hRm]; exact ⟨Nat.le_of_ble_eq_true rfl, Nat.le_of_ble_eq_true rfl⟩) rfl rfl (Nat.le_of_ble_eq_true rfl) dX6_next_360 ⟨Nat.zero_le _, Nat.zero_le _⟩ (fun H locs hP hS => ?_)
          refine lv_if_eq (tgt := 370) hx hb dX6_next_363 (by decide) (fun c_20 => ?_) (fun c_20 => ?_)
          · replace hf := zI_t c_20 hf
            refine lv_bipush (v := (120 : Int32)) hx hb dX6_next_370 (by decide) ?_
            refine zr_put (C := RX6) (T := TX6) (n := 51) C0 hJ hP hS 0 (by decide) shM_0 17 rfl (by decide) uw_X6 tyX6 tyX6_ok nmX6 mw_468 rfl rfl ⟨rfl, rfl⟩ dX6_next_372 (fun H locs hP hS => ?_)
            obtain ⟨M_21, eM_21, hf⟩ := zL_o hf
            have hP : va_P G.1 zcl (zw G shM 23 M_21) H := by rw [eM_21]; exact hP
            exact ze_v C0 hP hS hf dX6_next_375 hQ
          · replace hf := zI_f c_20 hf
            refine lv_iload_n hx hb dX6_next_366 rfl (lv_at hl 0 rfl) ?_
            refine lv_goto (tgt := 372) hx hb dX6_next_367 (by decide) ?_
            refine zr_put (C := RX6) (T := TX6) (n := 51) C0 hJ hP hS 0 (by decide) shM_0 17 rfl (by decide) uw_X6 tyX6 tyX6_ok nmX6 mw_468 rfl rfl ⟨rfl, rfl⟩ dX6_next_372 (fun H locs hP hS => ?_)
            obtain ⟨M_22, eM_22, hf⟩ := zL_o hf
            have hP : va_P G.1 zcl (zw G shM 23 M_22) H := by rw [eM_22]; exact hP
            exact ze_v C0 hP hS hf dX6_next_375 hQ
        · replace hf := zI_f c_15 hf
          refine lv_aload_n hx hb dX6_next_240 rfl (lv_at hl 1 rfl) ?_
          refine lv_iconst (v := (0 : Int32)) hx hb dX6_next_241 (by decide) ?_
          refine zr_put (C := RX6) (T := TX6) (n := 51) C0 hJ hP hS 0 (by decide) shM_0 18 rfl (by decide) uw_X6 tyX6 tyX6_ok nmX6 mw_469 rfl rfl ⟨rfl, rfl⟩ dX6_next_242 (fun H locs hP hS => ?_)
          obtain ⟨M_23, eM_23, hf⟩ := zL_o hf
          have hP : va_P G.1 zcl (zw G shM 23 M_23) H := by rw [eM_23]; exact hP
          exact L245 zF M_23 H locs ls (lv_sub hl [1] rfl) hP hS hf
      · replace hf := zI_f c_11 hf
        exact L108 zF M_8 H locs ls (lv_sub hl [1] rfl) hP hS hf
    · replace hf := zI_t c_5 hf
      refine lv_aload_n hx hb dX6_next_84 rfl (lv_at hl 0 rfl) ?_
      refine lv_bipush (v := (101 : Int32)) hx hb dX6_next_85 (by decide) ?_
      refine zr_put (C := RX6) (T := TX6) (n := 51) C0 hJ hP hS 0 (by decide) shM_0 17 rfl (by decide) uw_X6 tyX6 tyX6_ok nmX6 mw_468 rfl rfl ⟨rfl, rfl⟩ dX6_next_87 (fun H locs hP hS => ?_)
      obtain ⟨M_62, eM_62, hf⟩ := zL_o hf
      have hP : va_P G.1 zcl (zw G shM 23 M_62) H := by rw [eM_62]; exact hP
      exact ze_v C0 hP hS hf dX6_next_90 hQ
  have L8 : ∀ (n8 : Nat), ∀ (M : zM) (H : Heap) (locs : List Loc) (ls : Array Slot), lv_has ls 2 [(0, .ref (G.2.2.1 0))] → va_P G.1 zcl (zw G shM 23 M) H → va_S (zA G 23 s.heap.size) s.heap H locs → fX6_next_L8 n8 M = some o → W p l e R s m args below meth c H locs 0 0 Q (F0 m 8 ls []) := by
    intro n8
    induction n8 with
    | zero => intro M H locs ls hl hP hS hf; exact zn_s (show none = some o from hf)
    | succ n8 ih8 =>
      intro M H locs ls hl hP hS hf
      replace hf : fX6_next_B8 (fX6_next_L8 n8) M = some o := hf
      unfold fX6_next_B8 at hf
      refine lv_aload_n hx hb dX6_next_8 rfl (lv_at hl 0 rfl) ?_
      refine zr_get (C := RX6) (T := TX6) (n := 51) C0 hP 0 (by decide) shM_0 15 rfl (by decide) uw_X6 mw_458 rfl dX6_next_9 ?_
      refine lv_aload_n hx hb dX6_next_12 rfl (lv_at hl 0 rfl) ?_
      refine zr_get (C := RX6) (T := TX6) (n := 51) C0 hP 0 (by decide) shM_0 8 rfl (by decide) uw_X6 mw_454 rfl dX6_next_13 ?_
      refine lv_icmp_ge (tgt := 60) hx hb dX6_next_16 (by decide) (fun c_2 => ?_) (fun c_2 => ?_)
      · replace hf := zI_t c_2 hf
        exact J60 M H locs ls (lv_sub hl [0] rfl) hP hS hf
      · replace hf := zI_f c_2 hf
        refine lv_aload_n hx hb dX6_next_19 rfl (lv_at hl 0 rfl) ?_
        refine zr_getq (C := RX6) (T := TX6) (n := 51) C0 hP 0 (by decide) shM_0 9 5 rfl (by decide) uw_X6 mw_455 rfl dX6_next_20 ?_
        refine lv_aload_n hx hb dX6_next_23 rfl (lv_at hl 0 rfl) ?_
        refine zr_get (C := RX6) (T := TX6) (n := 51) C0 hP 0 (by decide) shM_0 15 rfl (by decide) uw_X6 mw_458 rfl dX6_next_24 ?_
        obtain ⟨hg_63, hf⟩ := zG_o hf
        refine zr_iald C0 hP 5 (by decide) shM_5 hg_63 dX6_next_27 ?_
        refine lv_bipush (v := (32 : Int32)) hx hb dX6_next_28 (by decide) ?_
        refine lv_icmp_eq (tgt := 47) hx hb dX6_next_30 (by decide) (fun c_64 => ?_) (fun c_64 => ?_)
        · replace hf := zI_t c_64 hf
          refine lv_aload_n hx hb dX6_next_47 rfl (lv_at hl 0 rfl) ?_
          refine lv_dup hx hb dX6_next_48 rfl ?_
          refine zr_get (C := RX6) (T := TX6) (n := 51) C0 hP 0 (by decide) shM_0 15 rfl (by decide) uw_X6 mw_458 rfl dX6_next_49 ?_
          refine lv_iconst (v := (1 : Int32)) hx hb dX6_next_52 (by decide) ?_
          refine lv_iadd hx hb dX6_next_53 ?_
          refine zr_put (C := RX6) (T := TX6) (n := 51) C0 hJ hP hS 0 (by decide) shM_0 15 rfl (by decide) uw_X6 tyX6 tyX6_ok nmX6 mw_458 rfl rfl ⟨rfl, rfl⟩ dX6_next_54 (fun H locs hP hS => ?_)
          obtain ⟨M_65, eM_65, hf⟩ := zL_o hf
          have hP : va_P G.1 zcl (zw G shM 23 M_65) H := by rw [eM_65]; exact hP
          refine lv_goto (tgt := 8) hx hb dX6_next_57 (by decide) ?_
          exact ih8 M_65 H locs ls (lv_sub hl [0] rfl) hP hS hf
        · replace hf := zI_f c_64 hf
          refine lv_aload_n hx hb dX6_next_33 rfl (lv_at hl 0 rfl) ?_
          refine zr_getq (C := RX6) (T := TX6) (n := 51) C0 hP 0 (by decide) shM_0 9 5 rfl (by decide) uw_X6 mw_455 rfl dX6_next_34 ?_
          refine lv_aload_n hx hb dX6_next_37 rfl (lv_at hl 0 rfl) ?_
          refine zr_get (C := RX6) (T := TX6) (n := 51) C0 hP 0 (by decide) shM_0 15 rfl (by decide) uw_X6 mw_458 rfl dX6_next_38 ?_
          obtain ⟨hg_66, hf⟩ := zG_o hf
          refine zr_iald C0 hP 5 (by decide) shM_5 hg_66 dX6_next_41 ?_
          refine lv_bipush (v := (10 : Int32)) hx hb dX6_next_42 (by decide) ?_
          refine lv_icmp_ne (tgt := 60) hx hb dX6_next_44 (by decide) (fun c_67 => ?_) (fun c_67 => ?_)
          · replace hf := zI_f c_67 hf
            exact J60 M H locs ls (lv_sub hl [0] rfl) hP hS hf
          · replace hf := zI_t c_67 hf
            refine lv_aload_n hx hb dX6_next_47 rfl (lv_at hl 0 rfl) ?_
            refine lv_dup hx hb dX6_next_48 rfl ?_
            refine zr_get (C := RX6) (T := TX6) (n := 51) C0 hP 0 (by decide) shM_0 15 rfl (by decide) uw_X6 mw_458 rfl dX6_next_49 ?_
            refine lv_iconst (v := (1 : Int32)) hx hb dX6_next_52 (by decide) ?_
            refine lv_iadd hx hb dX6_next_53 ?_
            refine zr_put (C := RX6) (T := TX6) (n := 51) C0 hJ hP hS 0 (by decide) shM_0 15 rfl (by decide) uw_X6 tyX6 tyX6_ok nmX6 mw_458 rfl rfl ⟨rfl, rfl⟩ dX6_next_54 (fun H locs hP hS => ?_)
            obtain ⟨M_68, eM_68, hf⟩ := zL_o hf
            have hP : va_P G.1 zcl (zw G shM 23 M_68) H := by rw [eM_68]; exact hP
            refine lv_goto (tgt := 8) hx hb dX6_next_57 (by decide) ?_
            exact ih8 M_68 H locs ls (lv_sub hl [0] rfl) hP hS hf
  unfold fX6_next at hf
  obtain ⟨H, eH⟩ : ∃ H, H = s.heap := ⟨_, rfl⟩
  obtain ⟨locs, el⟩ : ∃ locs : List Loc, locs = [] := ⟨_, rfl⟩
  rw [← eH] at hP ⊢
  have hS : va_S (zA G 23 s.heap.size) s.heap H locs := by rw [eH, el]; exact hS
  rw [← el]
  refine lv_aload_n hx hb dX6_next_0 rfl (lv_at hl 0 rfl) ?_
  refine lv_aload_n hx hb dX6_next_1 rfl (lv_at hl 0 rfl) ?_
  refine zr_get (C := RX6) (T := TX6) (n := 51) C0 hP 0 (by decide) shM_0 16 rfl (by decide) uw_X6 mw_457 rfl dX6_next_2 ?_
  refine zr_put (C := RX6) (T := TX6) (n := 51) C0 hJ hP hS 0 (by decide) shM_0 15 rfl (by decide) uw_X6 tyX6 tyX6_ok nmX6 mw_458 rfl rfl ⟨rfl, rfl⟩ dX6_next_5 (fun H locs hP hS => ?_)
  obtain ⟨M_1, eM_1, hf⟩ := zL_o hf
  have hP : va_P G.1 zcl (zw G shM 23 M_1) H := by rw [eM_1]; exact hP
  exact L8 zF M_1 H locs ls (lv_sub hl [0] rfl) hP hS hf
def fX6_takes (x1 : Int32) (M : zM) : Option (Int32 × zM) :=
  if (M.1 0 17) = (119 : Int32) then
    if (M.1 0 19) = x1 then
      zV (fX6_next M) fun M_3 =>
      some ((1 : Int32), M_3)
    else
      some ((0 : Int32), M)
  else
    some ((0 : Int32), M)
set_option maxHeartbeats 4000000 in
set_option maxRecDepth 100000 in
theorem mtX6_takes (l : Launch) (G : zGr) (hJ : zJ G 23) (x1 : Int32) (M : zM) (o : Int32 × zM) (hf : fX6_takes x1 M = some o) : zMi l G shM 23 yX6_takes cX6_takes 2 (some .boolean) 2 41 [.ref (G.2.2.1 0), .int x1] M o := by
  intro sz
  refine zOf (by decide) (Nat.le_of_ble_eq_true rfl) ?_
  intro p e R Q s m args below meth c hRm hsz hQ C0 hP hS ls hl
  subst hsz
  replace hRm : R = { frames := 2, cells := 0, slots := 0, locals := 41 } := hRm
  have hl : lv_has ls 2 [(0, .ref (G.2.2.1 0)), (1, .int x1)] := hl
  have hx := C0.1
  have hb := C0.2.1
  have hown := C0.2.2.2.1
  have hts := C0.2.2.2.2.1
  unfold fX6_takes at hf
  obtain ⟨H, eH⟩ : ∃ H, H = s.heap := ⟨_, rfl⟩
  obtain ⟨locs, el⟩ : ∃ locs : List Loc, locs = [] := ⟨_, rfl⟩
  rw [← eH] at hP ⊢
  have hS : va_S (zA G 23 s.heap.size) s.heap H locs := by rw [eH, el]; exact hS
  rw [← el]
  refine lv_aload_n hx hb dX6_takes_0 rfl (lv_at hl 0 rfl) ?_
  refine zr_get (C := RX6) (T := TX6) (n := 51) C0 hP 0 (by decide) shM_0 17 rfl (by decide) uw_X6 mw_468 rfl dX6_takes_1 ?_
  refine lv_bipush (v := (119 : Int32)) hx hb dX6_takes_4 (by decide) ?_
  refine lv_icmp_ne (tgt := 17) hx hb dX6_takes_6 (by decide) (fun c_1 => ?_) (fun c_1 => ?_)
  · replace hf := zI_f c_1 hf
    refine lv_iconst (v := (0 : Int32)) hx hb dX6_takes_17 (by decide) ?_
    exact ze_z C0 hP hS (by decide) hf dX6_takes_18 hQ
  · replace hf := zI_t c_1 hf
    refine lv_aload_n hx hb dX6_takes_9 rfl (lv_at hl 0 rfl) ?_
    refine zr_get (C := RX6) (T := TX6) (n := 51) C0 hP 0 (by decide) shM_0 19 rfl (by decide) uw_X6 mw_456 rfl dX6_takes_10 ?_
    refine lv_iload_n hx hb dX6_takes_13 rfl (lv_at hl 1 rfl) ?_
    refine lv_icmp_eq (tgt := 19) hx hb dX6_takes_14 (by decide) (fun c_2 => ?_) (fun c_2 => ?_)
    · replace hf := zI_t c_2 hf
      refine lv_aload_n hx hb dX6_takes_19 rfl (lv_at hl 0 rfl) ?_
      obtain ⟨M_3, hc_4, hf⟩ := zV_o hf
      refine zc_vv (As := []) (rest := []) C0 hP hS hl.1 0 (mtX6_next l G hJ M _ hc_4) lk_X6_158 (by decide) shM_0 (T := TX6) (n' := 51) rfl ds_X6_next (by rw [hRm]; exact ⟨Nat.le_of_ble_eq_true rfl, Nat.le_of_ble_eq_true rfl⟩) rfl rfl (Nat.le_of_ble_eq_true rfl) dX6_takes_20 ⟨Nat.zero_le _, Nat.zero_le _⟩ (fun H locs hP hS => ?_)
      refine lv_iconst (v := (1 : Int32)) hx hb dX6_takes_23 (by decide) ?_
      exact ze_z C0 hP hS (by decide) hf dX6_takes_24 hQ
    · replace hf := zI_f c_2 hf
      refine lv_iconst (v := (0 : Int32)) hx hb dX6_takes_17 (by decide) ?_
      exact ze_z C0 hP hS (by decide) hf dX6_takes_18 hQ
def fX6_codes (x1 : Int32) (M : zM) : Option (zM) :=
  zL (zu M 0 14 ((M.1 0 14) + (1 : Int32))) fun M_1 =>
  zG (zin (M.1 0 14) 3000) <|
  zL (zu M_1 8 (M.1 0 14).toNatClampNeg x1) fun M_3 =>
  some M_3
set_option maxHeartbeats 4000000 in
set_option maxRecDepth 100000 in
theorem mtX6_codes (l : Launch) (G : zGr) (hJ : zJ G 23) (x1 : Int32) (M : zM) (o : zM) (hf : fX6_codes x1 M = some o) : zMv l G shM 23 yX6_codes cX6_codes 2 none 0 0 [.ref (G.2.2.1 0), .int x1] M o := by
  intro sz
  refine zOf (by decide) (Nat.le_of_ble_eq_true rfl) ?_
  intro p e R Q s m args below meth c hRm hsz hQ C0 hP hS ls hl
  subst hsz
  replace hRm : R = { frames := 0, cells := 0, slots := 0, locals := 0 } := hRm
  have hl : lv_has ls 2 [(0, .ref (G.2.2.1 0)), (1, .int x1)] := hl
  have hx := C0.1
  have hb := C0.2.1
  have hown := C0.2.2.2.1
  have hts := C0.2.2.2.2.1
  unfold fX6_codes at hf
  obtain ⟨H, eH⟩ : ∃ H, H = s.heap := ⟨_, rfl⟩
  obtain ⟨locs, el⟩ : ∃ locs : List Loc, locs = [] := ⟨_, rfl⟩
  rw [← eH] at hP ⊢
  have hS : va_S (zA G 23 s.heap.size) s.heap H locs := by rw [eH, el]; exact hS
  rw [← el]
  refine lv_aload_n hx hb dX6_codes_0 rfl (lv_at hl 0 rfl) ?_
  refine zr_getq (C := RX6) (T := TX6) (n := 51) C0 hP 0 (by decide) shM_0 13 8 rfl (by decide) uw_X6 mw_418 rfl dX6_codes_1 ?_
  refine lv_aload_n hx hb dX6_codes_4 rfl (lv_at hl 0 rfl) ?_
  refine lv_dup hx hb dX6_codes_5 rfl ?_
  refine zr_get (C := RX6) (T := TX6) (n := 51) C0 hP 0 (by decide) shM_0 14 rfl (by decide) uw_X6 mw_482 rfl dX6_codes_6 ?_
  refine lv_dup_x1 hx hb dX6_codes_9 rfl rfl ?_
  refine lv_iconst (v := (1 : Int32)) hx hb dX6_codes_10 (by decide) ?_
  refine lv_iadd hx hb dX6_codes_11 ?_
  refine zr_put (C := RX6) (T := TX6) (n := 51) C0 hJ hP hS 0 (by decide) shM_0 14 rfl (by decide) uw_X6 tyX6 tyX6_ok nmX6 mw_482 rfl rfl ⟨rfl, rfl⟩ dX6_codes_12 (fun H locs hP hS => ?_)
  obtain ⟨M_1, eM_1, hf⟩ := zL_o hf
  have hP : va_P G.1 zcl (zw G shM 23 M_1) H := by rw [eM_1]; exact hP
  refine lv_iload_n hx hb dX6_codes_15 rfl (lv_at hl 1 rfl) ?_
  obtain ⟨hg_2, hf⟩ := zG_o hf
  refine zr_iast C0 hJ hP hS 8 (by decide) shM_8 hg_2 dX6_codes_16 (fun H locs hP hS => ?_)
  obtain ⟨M_3, eM_3, hf⟩ := zL_o hf
  have hP : va_P G.1 zcl (zw G shM 23 M_3) H := by rw [eM_3]; exact hP
  exact ze_v C0 hP hS hf dX6_codes_17 hQ
def fX6_rank (x0 : Int32) (M : zM) : Option (Int32 × zM) :=
  if x0 = (6 : Int32) then
    some ((5 : Int32), M)
  else
    if x0 = (7 : Int32) then
      some ((5 : Int32), M)
    else
      if x0 = (8 : Int32) then
        some ((6 : Int32), M)
      else
        if x0 = (9 : Int32) then
          some ((4 : Int32), M)
        else
          if x0 = (10 : Int32) then
            some ((4 : Int32), M)
          else
            if x0 = (11 : Int32) then
              some ((2 : Int32), M)
            else
              if x0 = (12 : Int32) then
                some ((1 : Int32), M)
              else
                if x0 = (13 : Int32) then
                  some ((3 : Int32), M)
                else
                  if x0 = (14 : Int32) then
                    some ((7 : Int32), M)
                  else
                    some ((0 : Int32), M)
set_option maxHeartbeats 4000000 in
set_option maxRecDepth 100000 in
theorem mtX6_rank (l : Launch) (G : zGr) (hJ : zJ G 23) (x0 : Int32) (M : zM) (o : Int32 × zM) (hf : fX6_rank x0 M = some o) : zMi l G shM 23 yX6_rank cX6_rank 1 (some .int) 0 0 [.int x0] M o := by
  intro sz
  refine zOf (by decide) (Nat.le_of_ble_eq_true rfl) ?_
  intro p e R Q s m args below meth c hRm hsz hQ C0 hP hS ls hl
  subst hsz
  replace hRm : R = { frames := 0, cells := 0, slots := 0, locals := 0 } := hRm
  have hl : lv_has ls 1 [(0, .int x0)] := hl
  have hx := C0.1
  have hb := C0.2.1
  have hown := C0.2.2.2.1
  have hts := C0.2.2.2.2.1
  unfold fX6_rank at hf
  obtain ⟨H, eH⟩ : ∃ H, H = s.heap := ⟨_, rfl⟩
  obtain ⟨locs, el⟩ : ∃ locs : List Loc, locs = [] := ⟨_, rfl⟩
  rw [← eH] at hP ⊢
  have hS : va_S (zA G 23 s.heap.size) s.heap H locs := by rw [eH, el]; exact hS
  rw [← el]
  refine lv_iload_n hx hb dX6_rank_0 rfl (lv_at hl 0 rfl) ?_
  refine if c_1 : x0 = (6 : Int32) then ?_ else ?_
  · replace hf := zI_t c_1 hf
    refine lv_tableIn (tgt := 60) hx hb dX6_rank_1 (by rw [c_1]; decide) (by rw [c_1]; decide) (off := 59) (by rw [c_1]; decide) (by decide) ?_
    refine lv_iconst (v := (5 : Int32)) hx hb dX6_rank_60 (by decide) ?_
    exact ze_i C0 hP hS hf dX6_rank_61 hQ
  · replace hf := zI_f c_1 hf
    refine if c_2 : x0 = (7 : Int32) then ?_ else ?_
    · replace hf := zI_t c_2 hf
      refine lv_tableIn (tgt := 60) hx hb dX6_rank_1 (by rw [c_2]; decide) (by rw [c_2]; decide) (off := 59) (by rw [c_2]; decide) (by decide) ?_
      refine lv_iconst (v := (5 : Int32)) hx hb dX6_rank_60 (by decide) ?_
      exact ze_i C0 hP hS hf dX6_rank_61 hQ
    · replace hf := zI_f c_2 hf
      refine if c_3 : x0 = (8 : Int32) then ?_ else ?_
      · replace hf := zI_t c_3 hf
        refine lv_tableIn (tgt := 62) hx hb dX6_rank_1 (by rw [c_3]; decide) (by rw [c_3]; decide) (off := 61) (by rw [c_3]; decide) (by decide) ?_
        refine lv_bipush (v := (6 : Int32)) hx hb dX6_rank_62 (by decide) ?_
        exact ze_i C0 hP hS hf dX6_rank_64 hQ
      · replace hf := zI_f c_3 hf
        refine if c_4 : x0 = (9 : Int32) then ?_ else ?_
        · replace hf := zI_t c_4 hf
          refine lv_tableIn (tgt := 58) hx hb dX6_rank_1 (by rw [c_4]; decide) (by rw [c_4]; decide) (off := 57) (by rw [c_4]; decide) (by decide) ?_
          refine lv_iconst (v := (4 : Int32)) hx hb dX6_rank_58 (by decide) ?_
          exact ze_i C0 hP hS hf dX6_rank_59 hQ
        · replace hf := zI_f c_4 hf
          refine if c_5 : x0 = (10 : Int32) then ?_ else ?_
          · replace hf := zI_t c_5 hf
            refine lv_tableIn (tgt := 58) hx hb dX6_rank_1 (by rw [c_5]; decide) (by rw [c_5]; decide) (off := 57) (by rw [c_5]; decide) (by decide) ?_
            refine lv_iconst (v := (4 : Int32)) hx hb dX6_rank_58 (by decide) ?_
            exact ze_i C0 hP hS hf dX6_rank_59 hQ
          · replace hf := zI_f c_5 hf
            refine if c_6 : x0 = (11 : Int32) then ?_ else ?_
            · replace hf := zI_t c_6 hf
              refine lv_tableIn (tgt := 54) hx hb dX6_rank_1 (by rw [c_6]; decide) (by rw [c_6]; decide) (off := 53) (by rw [c_6]; decide) (by decide) ?_
              refine lv_iconst (v := (2 : Int32)) hx hb dX6_rank_54 (by decide) ?_
              exact ze_i C0 hP hS hf dX6_rank_55 hQ
            · replace hf := zI_f c_6 hf
              refine if c_7 : x0 = (12 : Int32) then ?_ else ?_
              · replace hf := zI_t c_7 hf
                refine lv_tableIn (tgt := 52) hx hb dX6_rank_1 (by rw [c_7]; decide) (by rw [c_7]; decide) (off := 51) (by rw [c_7]; decide) (by decide) ?_
                refine lv_iconst (v := (1 : Int32)) hx hb dX6_rank_52 (by decide) ?_
                exact ze_i C0 hP hS hf dX6_rank_53 hQ
              · replace hf := zI_f c_7 hf
                refine if c_8 : x0 = (13 : Int32) then ?_ else ?_
                · replace hf := zI_t c_8 hf
                  refine lv_tableIn (tgt := 56) hx hb dX6_rank_1 (by rw [c_8]; decide) (by rw [c_8]; decide) (off := 55) (by rw [c_8]; decide) (by decide) ?_
                  refine lv_iconst (v := (3 : Int32)) hx hb dX6_rank_56 (by decide) ?_
                  exact ze_i C0 hP hS hf dX6_rank_57 hQ
                · replace hf := zI_f c_8 hf
                  refine if c_9 : x0 = (14 : Int32) then ?_ else ?_
                  · replace hf := zI_t c_9 hf
                    refine lv_tableIn (tgt := 65) hx hb dX6_rank_1 (by rw [c_9]; decide) (by rw [c_9]; decide) (off := 64) (by rw [c_9]; decide) (by decide) ?_
                    refine lv_bipush (v := (7 : Int32)) hx hb dX6_rank_65 (by decide) ?_
                    exact ze_i C0 hP hS hf dX6_rank_67 hQ
                  · replace hf := zI_f c_9 hf
                    have tc_1 := lv_neT (a := 6) c_1 (by decide)
                    have tc_2 := lv_neT (a := 7) c_2 (by decide)
                    have tc_3 := lv_neT (a := 8) c_3 (by decide)
                    have tc_4 := lv_neT (a := 9) c_4 (by decide)
                    have tc_5 := lv_neT (a := 10) c_5 (by decide)
                    have tc_6 := lv_neT (a := 11) c_6 (by decide)
                    have tc_7 := lv_neT (a := 12) c_7 (by decide)
                    have tc_8 := lv_neT (a := 13) c_8 (by decide)
                    have tc_9 := lv_neT (a := 14) c_9 (by decide)
                    refine lv_tableOut (tgt := 68) hx hb dX6_rank_1 (by omega) (by decide) ?_
                    refine lv_iconst (v := (0 : Int32)) hx hb dX6_rank_68 (by decide) ?_
                    exact ze_i C0 hP hS hf dX6_rank_69 hQ

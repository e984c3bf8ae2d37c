def fX6_people_B60 (r60 : Int32 → Int32 → Int32 → Int32 → Int32 → zM → Option (Int32 × zM)) (x1 : Int32) (x3 : Int32) (x4 : Int32) (x5 : Int32) (x6 : Int32) (M : zM) : Option (Int32 × zM) :=
  if x4 ≤ x6 then
    some (x5, M)
  else
    zL (x3.toInt64 + ((3 : Int64) * x6.toInt64)) fun x7_18 =>
    if (zcmp x7_18 (0 : Int64)) < (0 : Int32) then
      some ((-12 : Int32), M)
    else
      zG (zin x1 4) <|
      if (zcmp (x7_18 + (2 : Int64)) ((M.1 21 x1.toNatClampNeg).toInt64)) < (0 : Int32) then
        zL (((40 : Int32) * x1) + x7_18.toInt32) fun x9_22 =>
        zG (zin x9_22 160) <|
        zG (zin (x9_22 + (1 : Int32)) 160) <|
        zG (zin (x9_22 + (2 : Int32)) 160) <|
        zB (fX6_person (M.1 22 x9_22.toNatClampNeg) (M.1 22 (x9_22 + (1 : Int32)).toNatClampNeg) (M.1 22 (x9_22 + (2 : Int32)).toNatClampNeg) M) fun r_28 M_26 =>
        if r_28 < (0 : Int32) then
          zL (x6 + (1 : Int32)) fun x6_30 =>
          r60 x1 x3 x4 x5 x6_30 M_26
        else
          zL (x5 + (1 : Int32)) fun x5_31 =>
          zL (x6 + (1 : Int32)) fun x6_32 =>
          r60 x1 x3 x4 x5_31 x6_32 M_26
      else
        some ((-12 : Int32), M)
def fX6_people_L60 : Nat → Int32 → Int32 → Int32 → Int32 → Int32 → zM → Option (Int32 × zM)
  | 0 => fun _ _ _ _ _ _ => none
  | j9 + 1 => fX6_people_B60 (fX6_people_L60 j9)
def fX6_people (x1 : Int32) (x2 : Int32) (x3 : Int32) (x4 : Int32) (M : zM) : Option (Int32 × zM) :=
  zB (fX6_isSheet x1 M) fun r_3 M_1 =>
  if r_3 = (0 : Int32) then
    some ((-2 : Int32), M_1)
  else
    zB (fX6_within x2 (0 : Int32) (2 : Int32) M_1) fun r_7 M_5 =>
    if r_7 = (0 : Int32) then
      some ((-2 : Int32), M_5)
    else
      zB (fX6_within x4 (0 : Int32) (5 : Int32) M_5) fun r_11 M_9 =>
      if r_11 = (0 : Int32) then
        some ((-2 : Int32), M_9)
      else
        zG (zin x1 4) <|
        if (0 : Int32) ≤ (M_9.1 20 x1.toNatClampNeg) then
          zG (zin x1 4) <|
          if (M_9.1 20 x1.toNatClampNeg) = x2 then
            fX6_people_L60 zF x1 x3 x4 (0 : Int32) (0 : Int32) M_9
          else
            some ((-13 : Int32), M_9)
        else
          some ((-11 : Int32), M_9)
set_option maxHeartbeats 4000000 in
set_option maxRecDepth 100000 in
theorem mtX6_people (l : Launch) (G : zGr) (hJ : zJ G 23) (x1 : Int32) (x2 : Int32) (x3 : Int32) (x4 : Int32) (M : zM) (o : Int32 × zM) (hf : fX6_people x1 x2 x3 x4 M = some o) : zMi l G shM 23 yX6_people cX6_people 10 (some .int) 2 45 [.ref (G.2.2.1 0), .int x1, .int x2, .int x3, .int x4] M o := by
  intro sz
  refine zOf (by decide) (Nat.le_of_ble_eq_true rfl) ?_
  intro p e R Q s m args below meth c hRm hsz hQ C0 hP hS ls hl
  subst hsz
  replace hRm : R = { frames := 2, cells := 0, slots := 0, locals := 45 } := hRm
  have hl : lv_has ls 10 [(0, .ref (G.2.2.1 0)), (1, .int x1), (2, .int x2), (3, .int x3), (4, .int x4)] := hl
  have hx := C0.1
  have hb := C0.2.1
  have hown := C0.2.2.2.1
  have hts := C0.2.2.2.2.1
  have L60 : ∀ (n60 : Nat), ∀ (x1 : Int32) (x3 : Int32) (x4 : Int32) (x5 : Int32) (x6 : Int32) (M : zM) (H : Heap) (locs : List Loc) (ls : Array Slot), lv_has ls 10 [(0, .ref (G.2.2.1 0)), (1, .int x1), (3, .int x3), (4, .int x4), (5, .int x5), (6, .int x6)] → va_P G.1 zcl (zw G shM 23 M) H → va_S (zA G 23 s.heap.size) s.heap H locs → fX6_people_L60 n60 x1 x3 x4 x5 x6 M = some o → W p l e R s m args below meth c H locs 0 0 Q (F0 m 60 ls []) := by
    intro n60
    induction n60 with
    | zero => intro x1 x3 x4 x5 x6 M H locs ls hl hP hS hf; exact zn_s (show none = some o from hf)
    | succ n60 ih60 =>
      intro x1 x3 x4 x5 x6 M H locs ls hl hP hS hf
      replace hf : fX6_people_B60 (fX6_people_L60 n60) x1 x3 x4 x5 x6 M = some o := hf
      unfold fX6_people_B60 at hf
      refine lv_iload hx hb dX6_people_60 (lv_at hl 5 rfl) ?_
      refine lv_iload hx hb dX6_people_62 (lv_at hl 3 rfl) ?_
      refine lv_icmp_ge (tgt := 157) hx hb dX6_people_64 (by decide) (fun c_17 => ?_) (fun c_17 => ?_)
      · replace hf := zI_t c_17 hf
        refine lv_iload hx hb dX6_people_157 (lv_at hl 4 rfl) ?_
        exact ze_i C0 hP hS hf dX6_people_159 hQ
      · replace hf := zI_f c_17 hf
        refine lv_iload_n hx hb dX6_people_67 rfl (lv_at hl 2 rfl) ?_
        refine zo_i2l hx hb dX6_people_68 ?_
        refine lv_ldc2 (v := (3 : Int64)) hx hb hown (hts _ mw_682) dX6_people_69 ?_
        refine lv_iload hx hb dX6_people_72 (lv_at hl 5 rfl) ?_
        refine zo_i2l hx hb dX6_people_74 ?_
        refine lv_lmul hx hb dX6_people_75 ?_
        refine lv_ladd hx hb dX6_people_76 ?_
        refine lv_topl (fun x7_18 ex7_18 => ?_)
        replace hf := zL_e ex7_18 hf
        refine lv_lstore (lv' := [(7, .long x7_18), (0, .ref (G.2.2.1 0)), (1, .int x1), (3, .int x3), (4, .int x4), (5, .int x5), (6, .int x6)]) hx hb dX6_people_77 hl (by decide) rfl (fun ls hl => ?_)
        refine lv_lload hx hb dX6_people_79 (lv_at hl 0 rfl) ?_
        refine lv_lconst (v := (0 : Int64)) hx hb dX6_people_81 (by decide) ?_
        refine zo_lcmp hx hb dX6_people_82 ?_
        refine lv_if_lt (tgt := 103) hx hb dX6_people_83 (by decide) (fun c_19 => ?_) (fun c_19 => ?_)
        · replace hf := zI_t c_19 hf
          refine lv_bipush (v := (-12 : Int32)) hx hb dX6_people_103 (by decide) ?_
          exact ze_i C0 hP hS hf dX6_people_105 hQ
        · replace hf := zI_f c_19 hf
          refine lv_lload hx hb dX6_people_86 (lv_at hl 0 rfl) ?_
          refine lv_ldc2 (v := (2 : Int64)) hx hb hown (hts _ mw_683) dX6_people_88 ?_
          refine lv_ladd hx hb dX6_people_91 ?_
          refine lv_aload_n hx hb dX6_people_92 rfl (lv_at hl 1 rfl) ?_
          refine zr_getq (C := RX6) (T := TX6) (n := 51) C0 hP 0 (by decide) shM_0 49 21 rfl (by decide) uw_X6 mw_627 rfl dX6_people_93 ?_
          refine lv_iload_n hx hb dX6_people_96 rfl (lv_at hl 2 rfl) ?_
          obtain ⟨hg_20, hf⟩ := zG_o hf
          refine zr_iald C0 hP 21 (by decide) shM_21 hg_20 dX6_people_97 ?_
          refine zo_i2l hx hb dX6_people_98 ?_
          refine zo_lcmp hx hb dX6_people_99 ?_
          refine lv_if_lt (tgt := 106) hx hb dX6_people_100 (by decide) (fun c_21 => ?_) (fun c_21 => ?_)
          · replace hf := zI_t c_21 hf
            refine lv_bipush (v := (40 : Int32)) hx hb dX6_people_106 (by decide) ?_
            refine lv_iload_n hx hb dX6_people_108 rfl (lv_at hl 2 rfl) ?_
            refine lv_imul hx hb dX6_people_109 ?_
            refine lv_lload hx hb dX6_people_110 (lv_at hl 0 rfl) ?_
            refine zo_l2i hx hb dX6_people_112 ?_
            refine lv_iadd hx hb dX6_people_113 ?_
            refine lv_topi (fun x9_22 ex9_22 => ?_)
            replace hf := zL_e ex9_22 hf
            refine lv_istore (lv' := [(9, .int x9_22), (7, .long x7_18), (0, .ref (G.2.2.1 0)), (1, .int x1), (3, .int x3), (4, .int x4), (5, .int x5), (6, .int x6)]) hx hb dX6_people_114 hl (by decide) rfl (fun ls hl => ?_)
            refine lv_aload_n hx hb dX6_people_116 rfl (lv_at hl 2 rfl) ?_
            refine lv_aload_n hx hb dX6_people_117 rfl (lv_at hl 2 rfl) ?_
            refine zr_getq (C := RX6) (T := TX6) (n := 51) C0 hP 0 (by decide) shM_0 50 22 rfl (by decide) uw_X6 mw_628 rfl dX6_people_118 ?_
            refine lv_iload hx hb dX6_people_121 (lv_at hl 0 rfl) ?_
            obtain ⟨hg_23, hf⟩ := zG_o hf
            refine zr_iald C0 hP 22 (by decide) shM_22 hg_23 dX6_people_123 ?_
            refine lv_aload_n hx hb dX6_people_124 rfl (lv_at hl 2 rfl) ?_
            refine zr_getq (C := RX6) (T := TX6) (n := 51) C0 hP 0 (by decide) shM_0 50 22 rfl (by decide) uw_X6 mw_628 rfl dX6_people_125 ?_
            refine lv_iload hx hb dX6_people_128 (lv_at hl 0 rfl) ?_
            refine lv_iconst (v := (1 : Int32)) hx hb dX6_people_130 (by decide) ?_
            refine lv_iadd hx hb dX6_people_131 ?_
            obtain ⟨hg_24, hf⟩ := zG_o hf
            refine zr_iald C0 hP 22 (by decide) shM_22 hg_24 dX6_people_132 ?_
            refine lv_aload_n hx hb dX6_people_133 rfl (lv_at hl 2 rfl) ?_
            refine zr_getq (C := RX6) (T := TX6) (n := 51) C0 hP 0 (by decide) shM_0 50 22 rfl (by decide) uw_X6 mw_628 rfl dX6_people_134 ?_
            refine lv_iload hx hb dX6_people_137 (lv_at hl 0 rfl) ?_
            refine lv_iconst (v := (2 : Int32)) hx hb dX6_people_139 (by decide) ?_
            refine lv_iadd hx hb dX6_people_140 ?_
            obtain ⟨hg_25, hf⟩ := zG_o hf
            refine zr_iald C0 hP 22 (by decide) shM_22 hg_25 dX6_people_141 ?_
            obtain ⟨r_28, M_26, hc_27, hf⟩ := zB_o hf
            refine zc_vi (As := [.int (M.1 22 x9_22.toNatClampNeg), .int (M.1 22 (x9_22 + (1 : Int32)).toNatClampNeg), .int (M.1 22 (x9_22 + (2 : Int32)).toNatClampNeg)]) (rest := []) C0 hP hS hl.1 0 (mtX6_person l G hJ (M.1 22 x9_22.toNatClampNeg) (M.1 22 (x9_22 + (1 : Int32)).toNatClampNeg) (M.1 22 (x9_22 + (2 : Int32)).toNatClampNeg) M _ hc_27) lk_X6_372 (by decide) shM_0 (T := TX6) (n' := 51) rfl ds_X6_person (by rw [hRm]; exact ⟨Nat.le_of_ble_eq_true rfl, Nat.le_of_ble_eq_true rfl⟩) rfl rfl (Nat.le_of_ble_eq_true rfl) dX6_people_142 ⟨Nat.zero_le _, Nat.zero_le _⟩ (fun H locs hP hS => ?_)
            refine lv_if_lt (tgt := 151) hx hb dX6_people_145 (by decide) (fun c_29 => ?_) (fun c_29 => ?_)
            · replace hf := zI_t c_29 hf
              obtain ⟨x6_30, ex6_30, hf⟩ := zL_o hf
              refine lv_iinc (v := x6_30) (lv' := [(6, .int x6_30), (9, .int x9_22), (7, .long x7_18), (0, .ref (G.2.2.1 0)), (1, .int x1), (3, .int x3), (4, .int x4), (5, .int x5)]) hx hb dX6_people_151 hl (k := 7) rfl (by rw [ex6_30]; rfl) (by decide) rfl (fun ls hl => ?_)
              refine lv_goto (tgt := 60) hx hb dX6_people_154 (by decide) ?_
              exact ih60 x1 x3 x4 x5 x6_30 M_26 H locs ls (lv_sub hl [3, 4, 5, 6, 7, 0] rfl) hP hS hf
            · replace hf := zI_f c_29 hf
              obtain ⟨x5_31, ex5_31, hf⟩ := zL_o hf
              refine lv_iinc (v := x5_31) (lv' := [(5, .int x5_31), (9, .int x9_22), (7, .long x7_18), (0, .ref (G.2.2.1 0)), (1, .int x1), (3, .int x3), (4, .int x4), (6, .int x6)]) hx hb dX6_people_148 hl (k := 6) rfl (by rw [ex5_31]; rfl) (by decide) rfl (fun ls hl => ?_)
              obtain ⟨x6_32, ex6_32, hf⟩ := zL_o hf
              refine lv_iinc (v := x6_32) (lv' := [(6, .int x6_32), (5, .int x5_31), (9, .int x9_22), (7, .long x7_18), (0, .ref (G.2.2.1 0)), (1, .int x1), (3, .int x3), (4, .int x4)]) hx hb dX6_people_151 hl (k := 7) rfl (by rw [ex6_32]; rfl) (by decide) rfl (fun ls hl => ?_)
              refine lv_goto (tgt := 60) hx hb dX6_people_154 (by decide) ?_
              exact ih60 x1 x3 x4 x5_31 x6_32 M_26 H locs ls (lv_sub hl [4, 5, 6, 7, 1, 0] rfl) hP hS hf
          · replace hf := zI_f c_21 hf
            refine lv_bipush (v := (-12 : Int32)) hx hb dX6_people_103 (by decide) ?_
            exact ze_i C0 hP hS hf dX6_people_105 hQ
  unfold fX6_people at hf
  obtain ⟨H, eH⟩ : ∃ H, H = s.heap := ⟨_, rfl⟩
  obtain ⟨locs, el⟩ : ∃ locs : List Loc, locs = [] := ⟨_, rfl⟩
  rw [← eH] at hP ⊢
  have hS : va_S (zA G 23 s.heap.size) s.heap H locs := by rw [eH, el]; exact hS
  rw [← el]
  refine lv_iload_n hx hb dX6_people_0 rfl (lv_at hl 1 rfl) ?_
  obtain ⟨r_3, M_1, hc_2, hf⟩ := zB_o hf
  refine zc_si (As := [.int x1]) (rest := []) C0 hP hS hl.1 (mtX6_isSheet l G hJ x1 M _ hc_2) ls_X6_325 ds_X6_isSheet (by rw [hRm]; exact ⟨Nat.le_of_ble_eq_true rfl, Nat.le_of_ble_eq_true rfl⟩) rfl rfl (Nat.le_of_ble_eq_true rfl) dX6_people_1 ⟨Nat.zero_le _, Nat.zero_le _⟩ (fun H locs hP hS => ?_)
  refine lv_if_eq (tgt := 26) hx hb dX6_people_4 (by decide) (fun c_4 => ?_) (fun c_4 => ?_)
  · replace hf := zI_t c_4 hf
    refine lv_bipush (v := (-2 : Int32)) hx hb dX6_people_26 (by decide) ?_
    exact ze_i C0 hP hS hf dX6_people_28 hQ
  · replace hf := zI_f c_4 hf
    refine lv_iload_n hx hb dX6_people_7 rfl (lv_at hl 2 rfl) ?_
    refine lv_iconst (v := (0 : Int32)) hx hb dX6_people_8 (by decide) ?_
    refine lv_iconst (v := (2 : Int32)) hx hb dX6_people_9 (by decide) ?_
    obtain ⟨r_7, M_5, hc_6, hf⟩ := zB_o hf
    refine zc_si (As := [.int x2, .int (0 : Int32), .int (2 : Int32)]) (rest := []) C0 hP hS hl.1 (mtX6_within l G hJ x2 (0 : Int32) (2 : Int32) M_1 _ hc_6) ls_X6_88 ds_X6_within (by rw [hRm]; exact ⟨Nat.le_of_ble_eq_true rfl, Nat.le_of_ble_eq_true rfl⟩) rfl rfl (Nat.le_of_ble_eq_true rfl) dX6_people_10 ⟨Nat.zero_le _, Nat.zero_le _⟩ (fun H locs hP hS => ?_)
    refine lv_if_eq (tgt := 26) hx hb dX6_people_13 (by decide) (fun c_8 => ?_) (fun c_8 => ?_)
    · replace hf := zI_t c_8 hf
      refine lv_bipush (v := (-2 : Int32)) hx hb dX6_people_26 (by decide) ?_
      exact ze_i C0 hP hS hf dX6_people_28 hQ
    · replace hf := zI_f c_8 hf
      refine lv_iload hx hb dX6_people_16 (lv_at hl 4 rfl) ?_
      refine lv_iconst (v := (0 : Int32)) hx hb dX6_people_18 (by decide) ?_
      refine lv_iconst (v := (5 : Int32)) hx hb dX6_people_19 (by decide) ?_
      obtain ⟨r_11, M_9, hc_10, hf⟩ := zB_o hf
      refine zc_si (As := [.int x4, .int (0 : Int32), .int (5 : Int32)]) (rest := []) C0 hP hS hl.1 (mtX6_within l G hJ x4 (0 : Int32) (5 : Int32) M_5 _ hc_10) ls_X6_88 ds_X6_within (by rw [hRm]; exact ⟨Nat.le_of_ble_eq_true rfl, Nat.le_of_ble_eq_true rfl⟩) rfl rfl (Nat.le_of_ble_eq_true rfl) dX6_people_20 ⟨Nat.zero_le _, Nat.zero_le _⟩ (fun H locs hP hS => ?_)
      refine lv_if_ne (tgt := 29) hx hb dX6_people_23 (by decide) (fun c_12 => ?_) (fun c_12 => ?_)
      · replace hf := zI_f c_12 hf
        refine lv_aload_n hx hb dX6_people_29 rfl (lv_at hl 0 rfl) ?_
        refine zr_getq (C := RX6) (T := TX6) (n := 51) C0 hP 0 (by decide) shM_0 48 20 rfl (by decide) uw_X6 mw_640 rfl dX6_people_30 ?_
        refine lv_iload_n hx hb dX6_people_33 rfl (lv_at hl 1 rfl) ?_
        obtain ⟨hg_13, hf⟩ := zG_o hf
        refine zr_iald C0 hP 20 (by decide) shM_20 hg_13 dX6_people_34 ?_
        refine lv_if_ge (tgt := 41) hx hb dX6_people_35 (by decide) (fun c_14 => ?_) (fun c_14 => ?_)
        · replace hf := zI_t c_14 hf
          refine lv_aload_n hx hb dX6_people_41 rfl (lv_at hl 0 rfl) ?_
          refine zr_getq (C := RX6) (T := TX6) (n := 51) C0 hP 0 (by decide) shM_0 48 20 rfl (by decide) uw_X6 mw_640 rfl dX6_people_42 ?_
          refine lv_iload_n hx hb dX6_people_45 rfl (lv_at hl 1 rfl) ?_
          obtain ⟨hg_15, hf⟩ := zG_o hf
          refine zr_iald C0 hP 20 (by decide) shM_20 hg_15 dX6_people_46 ?_
          refine lv_iload_n hx hb dX6_people_47 rfl (lv_at hl 2 rfl) ?_
          refine lv_icmp_eq (tgt := 54) hx hb dX6_people_48 (by decide) (fun c_16 => ?_) (fun c_16 => ?_)
          · replace hf := zI_t c_16 hf
            refine lv_iconst (v := (0 : Int32)) hx hb dX6_people_54 (by decide) ?_
            refine lv_istore (lv' := [(5, .int (0 : Int32)), (0, .ref (G.2.2.1 0)), (1, .int x1), (2, .int x2), (3, .int x3), (4, .int x4)]) hx hb dX6_people_55 hl (by decide) rfl (fun ls hl => ?_)
            refine lv_iconst (v := (0 : Int32)) hx hb dX6_people_57 (by decide) ?_
            refine lv_istore (lv' := [(6, .int (0 : Int32)), (5, .int (0 : Int32)), (0, .ref (G.2.2.1 0)), (1, .int x1), (2, .int x2), (3, .int x3), (4, .int x4)]) hx hb dX6_people_58 hl (by decide) rfl (fun ls hl => ?_)
            exact L60 zF x1 x3 x4 (0 : Int32) (0 : Int32) M_9 H locs ls (lv_sub hl [2, 3, 5, 6, 1, 0] rfl) hP hS hf
          · replace hf := zI_f c_16 hf
            refine lv_bipush (v := (-13 : Int32)) hx hb dX6_people_51 (by decide) ?_
            exact ze_i C0 hP hS hf dX6_people_53 hQ
        · replace hf := zI_f c_14 hf
          refine lv_bipush (v := (-11 : Int32)) hx hb dX6_people_38 (by decide) ?_
          exact ze_i C0 hP hS hf dX6_people_40 hQ
      · replace hf := zI_t c_12 hf
        refine lv_bipush (v := (-2 : Int32)) hx hb dX6_people_26 (by decide) ?_
        exact ze_i C0 hP hS hf dX6_people_28 hQ
def fX6_taken_B30 (r30 : Int32 → Int32 → Int32 → zM → Option (Int32 × zM)) (x1 : Int32) (x2 : Int32) (x3 : Int32) (M : zM) : Option (Int32 × zM) :=
  if x3 = x2 then
    if x3 = x2 then
      zG (zin x1 5) <|
      some ((M.1 2 x1.toNatClampNeg), M)
    else
      some ((-13 : Int32), M)
  else
    if x3 ≤ (0 : Int32) then
      if x3 = x2 then
        zG (zin x1 5) <|
        some ((M.1 2 x1.toNatClampNeg), M)
      else
        some ((-13 : Int32), M)
    else
      if x3 = (3 : Int32) then
        r30 x1 x2 (1 : Int32) M
      else
        if x3 = (4 : Int32) then
          r30 x1 x2 (2 : Int32) M
        else
          r30 x1 x2 (0 : Int32) M
def fX6_taken_L30 : Nat → Int32 → Int32 → Int32 → zM → Option (Int32 × zM)
  | 0 => fun _ _ _ _ => none
  | j9 + 1 => fX6_taken_B30 (fX6_taken_L30 j9)
def fX6_taken (x1 : Int32) (x2 : Int32) (M : zM) : Option (Int32 × zM) :=
  zB (fX6_within x2 (0 : Int32) (5 : Int32) M) fun r_3 M_1 =>
  if r_3 = (0 : Int32) then
    some ((-2 : Int32), M_1)
  else
    zB (fX6_isOne x1 M_1) fun r_7 M_5 =>
    if r_7 = (0 : Int32) then
      some ((-11 : Int32), M_5)
    else
      zG (zin x1 5) <|
      zL (M_5.1 1 x1.toNatClampNeg) fun x3_10 =>
      fX6_taken_L30 zF x1 x2 x3_10 M_5
set_option maxHeartbeats 4000000 in
set_option maxRecDepth 100000 in
theorem mtX6_taken (l : Launch) (G : zGr) (hJ : zJ G 23) (x1 : Int32) (x2 : Int32) (M : zM) (o : Int32 × zM) (hf : fX6_taken x1 x2 M = some o) : zMi l G shM 23 yX6_taken cX6_taken 4 (some .int) 2 43 [.ref (G.2.2.1 0), .int x1, .int x2] M o := by
  intro sz
  refine zOf (by decide) (Nat.le_of_ble_eq_true rfl) ?_
  intro p e R Q s m args below meth c hRm hsz hQ C0 hP hS ls hl
  subst hsz
  replace hRm : R = { frames := 2, cells := 0, slots := 0, locals := 43 } := hRm
  have hl : lv_has ls 4 [(0, .ref (G.2.2.1 0)), (1, .int x1), (2, .int x2)] := hl
  have hx := C0.1
  have hb := C0.2.1
  have hown := C0.2.2.2.1
  have hts := C0.2.2.2.2.1
  have L30 : ∀ (n30 : Nat), ∀ (x1 : Int32) (x2 : Int32) (x3 : Int32) (M : zM) (H : Heap) (locs : List Loc) (ls : Array Slot), lv_has ls 4 [(0, .ref (G.2.2.1 0)), (1, .int x1), (2, .int x2), (3, .int x3)] → va_P G.1 zcl (zw G shM 23 M) H → va_S (zA G 23 s.heap.size) s.heap H locs → fX6_taken_L30 n30 x1 x2 x3 M = some o → W p l e R s m args below meth c H locs 0 0 Q (F0 m 30 ls []) := by
    intro n30
    induction n30 with
    | zero => intro x1 x2 x3 M H locs ls hl hP hS hf; exact zn_s (show none = some o from hf)
    | succ n30 ih30 =>
      intro x1 x2 x3 M H locs ls hl hP hS hf
      replace hf : fX6_taken_B30 (fX6_taken_L30 n30) x1 x2 x3 M = some o := hf
      unfold fX6_taken_B30 at hf
      refine lv_iload_n hx hb dX6_taken_30 rfl (lv_at hl 3 rfl) ?_
      refine lv_iload_n hx hb dX6_taken_31 rfl (lv_at hl 2 rfl) ?_
      refine lv_icmp_eq (tgt := 62) hx hb dX6_taken_32 (by decide) (fun c_11 => ?_) (fun c_11 => ?_)
      · replace hf := zI_t c_11 hf
        refine lv_iload_n hx hb dX6_taken_62 rfl (lv_at hl 3 rfl) ?_
        refine lv_iload_n hx hb dX6_taken_63 rfl (lv_at hl 2 rfl) ?_
        refine lv_icmp_ne (tgt := 76) hx hb dX6_taken_64 (by decide) (fun c_12 => ?_) (fun c_12 => ?_)
        · replace hf := zI_f c_12 hf
          refine lv_bipush (v := (-13 : Int32)) hx hb dX6_taken_76 (by decide) ?_
          exact ze_i C0 hP hS hf dX6_taken_78 hQ
        · replace hf := zI_t c_12 hf
          refine lv_aload_n hx hb dX6_taken_67 rfl (lv_at hl 0 rfl) ?_
          refine zr_getq (C := RX6) (T := TX6) (n := 51) C0 hP 0 (by decide) shM_0 4 2 rfl (by decide) uw_X6 mw_402 rfl dX6_taken_68 ?_
          refine lv_iload_n hx hb dX6_taken_71 rfl (lv_at hl 1 rfl) ?_
          obtain ⟨hg_13, hf⟩ := zG_o hf
          refine zr_iald C0 hP 2 (by decide) shM_2 hg_13 dX6_taken_72 ?_
          refine lv_goto (tgt := 78) hx hb dX6_taken_73 (by decide) ?_
          exact ze_i C0 hP hS hf dX6_taken_78 hQ
      · replace hf := zI_f c_11 hf
        refine lv_iload_n hx hb dX6_taken_35 rfl (lv_at hl 3 rfl) ?_
        refine lv_if_le (tgt := 62) hx hb dX6_taken_36 (by decide) (fun c_14 => ?_) (fun c_14 => ?_)
        · replace hf := zI_t c_14 hf
          refine lv_iload_n hx hb dX6_taken_62 rfl (lv_at hl 3 rfl) ?_
          refine lv_iload_n hx hb dX6_taken_63 rfl (lv_at hl 2 rfl) ?_
          refine lv_icmp_ne (tgt := 76) hx hb dX6_taken_64 (by decide) (fun c_15 => ?_) (fun c_15 => ?_)
          · replace hf := zI_f c_15 hf
            refine lv_bipush (v := (-13 : Int32)) hx hb dX6_taken_76 (by decide) ?_
            exact ze_i C0 hP hS hf dX6_taken_78 hQ
          · replace hf := zI_t c_15 hf
            refine lv_aload_n hx hb dX6_taken_67 rfl (lv_at hl 0 rfl) ?_
            refine zr_getq (C := RX6) (T := TX6) (n := 51) C0 hP 0 (by decide) shM_0 4 2 rfl (by decide) uw_X6 mw_402 rfl dX6_taken_68 ?_
            refine lv_iload_n hx hb dX6_taken_71 rfl (lv_at hl 1 rfl) ?_
            obtain ⟨hg_16, hf⟩ := zG_o hf
            refine zr_iald C0 hP 2 (by decide) shM_2 hg_16 dX6_taken_72 ?_
            refine lv_goto (tgt := 78) hx hb dX6_taken_73 (by decide) ?_
            exact ze_i C0 hP hS hf dX6_taken_78 hQ
        · replace hf := zI_f c_14 hf
          refine lv_iload_n hx hb dX6_taken_39 rfl (lv_at hl 3 rfl) ?_
          refine lv_iconst (v := (3 : Int32)) hx hb dX6_taken_40 (by decide) ?_
          refine lv_icmp_ne (tgt := 48) hx hb dX6_taken_41 (by decide) (fun c_17 => ?_) (fun c_17 => ?_)
          · replace hf := zI_f c_17 hf
            refine lv_iload_n hx hb dX6_taken_48 rfl (lv_at hl 3 rfl) ?_
            refine lv_iconst (v := (4 : Int32)) hx hb dX6_taken_49 (by decide) ?_
            refine lv_icmp_ne (tgt := 57) hx hb dX6_taken_50 (by decide) (fun c_18 => ?_) (fun c_18 => ?_)
            · replace hf := zI_f c_18 hf
              refine lv_iconst (v := (0 : Int32)) hx hb dX6_taken_57 (by decide) ?_
              refine lv_istore_n (lv' := [(3, .int (0 : Int32)), (0, .ref (G.2.2.1 0)), (1, .int x1), (2, .int x2)]) hx hb dX6_taken_58 rfl hl (by decide) rfl (fun ls hl => ?_)
              refine lv_goto (tgt := 30) hx hb dX6_taken_59 (by decide) ?_
              exact ih30 x1 x2 (0 : Int32) M H locs ls (lv_sub hl [1, 2, 3, 0] rfl) hP hS hf
            · replace hf := zI_t c_18 hf
              refine lv_iconst (v := (2 : Int32)) hx hb dX6_taken_53 (by decide) ?_
              refine lv_goto (tgt := 58) hx hb dX6_taken_54 (by decide) ?_
              refine lv_istore_n (lv' := [(3, .int (2 : Int32)), (0, .ref (G.2.2.1 0)), (1, .int x1), (2, .int x2)]) hx hb dX6_taken_58 rfl hl (by decide) rfl (fun ls hl => ?_)
              refine lv_goto (tgt := 30) hx hb dX6_taken_59 (by decide) ?_
              exact ih30 x1 x2 (2 : Int32) M H locs ls (lv_sub hl [1, 2, 3, 0] rfl) hP hS hf
          · replace hf := zI_t c_17 hf
            refine lv_iconst (v := (1 : Int32)) hx hb dX6_taken_44 (by decide) ?_
            refine lv_goto (tgt := 58) hx hb dX6_taken_45 (by decide) ?_
            refine lv_istore_n (lv' := [(3, .int (1 : Int32)), (0, .ref (G.2.2.1 0)), (1, .int x1), (2, .int x2)]) hx hb dX6_taken_58 rfl hl (by decide) rfl (fun ls hl => ?_)
            refine lv_goto (tgt := 30) hx hb dX6_taken_59 (by decide) ?_
            exact ih30 x1 x2 (1 : Int32) M H locs ls (lv_sub hl [1, 2, 3, 0] rfl) hP hS hf
  unfold fX6_taken at hf
  obtain ⟨H, eH⟩ : ∃ H, H = s.heap := ⟨_, rfl⟩
  obtain ⟨locs, el⟩ : ∃ locs : List Loc, locs = [] := ⟨_, rfl⟩
  rw [← eH] at hP ⊢
  have hS : va_S (zA G 23 s.heap.size) s.heap H locs := by rw [eH, el]; exact hS
  rw [← el]
  refine lv_iload_n hx hb dX6_taken_0 rfl (lv_at hl 2 rfl) ?_
  refine lv_iconst (v := (0 : Int32)) hx hb dX6_taken_1 (by decide) ?_
  refine lv_iconst (v := (5 : Int32)) hx hb dX6_taken_2 (by decide) ?_
  obtain ⟨r_3, M_1, hc_2, hf⟩ := zB_o hf
  refine zc_si (As := [.int x2, .int (0 : Int32), .int (5 : Int32)]) (rest := []) C0 hP hS hl.1 (mtX6_within l G hJ x2 (0 : Int32) (5 : Int32) M _ hc_2) ls_X6_88 ds_X6_within (by rw [hRm]; exact ⟨Nat.le_of_ble_eq_true rfl, Nat.le_of_ble_eq_true rfl⟩) rfl rfl (Nat.le_of_ble_eq_true rfl) dX6_taken_3 ⟨Nat.zero_le _, Nat.zero_le _⟩ (fun H locs hP hS => ?_)
  refine lv_if_ne (tgt := 12) hx hb dX6_taken_6 (by decide) (fun c_4 => ?_) (fun c_4 => ?_)
  · replace hf := zI_f c_4 hf
    refine lv_aload_n hx hb dX6_taken_12 rfl (lv_at hl 0 rfl) ?_
    refine lv_iload_n hx hb dX6_taken_13 rfl (lv_at hl 1 rfl) ?_
    obtain ⟨r_7, M_5, hc_6, hf⟩ := zB_o hf
    refine zc_vi (As := [.int x1]) (rest := []) C0 hP hS hl.1 0 (mtX6_isOne l G hJ x1 M_1 _ hc_6) lk_X6_92 (by decide) shM_0 (T := TX6) (n' := 51) rfl ds_X6_isOne (by rw [hRm]; exact ⟨Nat.le_of_ble_eq_true rfl, Nat.le_of_ble_eq_true rfl⟩) rfl rfl (Nat.le_of_ble_eq_true rfl) dX6_taken_14 ⟨Nat.zero_le _, Nat.zero_le _⟩ (fun H locs hP hS => ?_)
    refine lv_if_ne (tgt := 23) hx hb dX6_taken_17 (by decide) (fun c_8 => ?_) (fun c_8 => ?_)
    · replace hf := zI_f c_8 hf
      refine lv_aload_n hx hb dX6_taken_23 rfl (lv_at hl 0 rfl) ?_
      refine zr_getq (C := RX6) (T := TX6) (n := 51) C0 hP 0 (by decide) shM_0 3 1 rfl (by decide) uw_X6 mw_413 rfl dX6_taken_24 ?_
      refine lv_iload_n hx hb dX6_taken_27 rfl (lv_at hl 1 rfl) ?_
      obtain ⟨hg_9, hf⟩ := zG_o hf
      refine zr_iald C0 hP 1 (by decide) shM_1 hg_9 dX6_taken_28 ?_
      refine lv_topi (fun x3_10 ex3_10 => ?_)
      replace hf := zL_e ex3_10 hf
      refine lv_istore_n (lv' := [(3, .int x3_10), (0, .ref (G.2.2.1 0)), (1, .int x1), (2, .int x2)]) hx hb dX6_taken_29 rfl hl (by decide) rfl (fun ls hl => ?_)
      exact L30 zF x1 x2 x3_10 M_5 H locs ls (lv_sub hl [1, 2, 3, 0] rfl) hP hS hf
    · replace hf := zI_t c_8 hf
      refine lv_bipush (v := (-11 : Int32)) hx hb dX6_taken_20 (by decide) ?_
      exact ze_i C0 hP hS hf dX6_taken_22 hQ
  · replace hf := zI_t c_4 hf
    refine lv_bipush (v := (-2 : Int32)) hx hb dX6_taken_9 (by decide) ?_
    exact ze_i C0 hP hS hf dX6_taken_11 hQ

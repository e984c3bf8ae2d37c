def fX4_mostRue_B4 (w : Nat) (r4 : Int32 → Int32 → zM → Option (Int32 × zM)) (x1 : Int32) (x2 : Int32) (M : zM) : Option (Int32 × zM) :=
  if (M.1 w 7) ≤ x2 then
    some (x1, M)
  else
    zG (zin x2 5) <|
    zL (zmax x1 (M.1 (w + 3) x2.toNatClampNeg)) fun x1_3 =>
    zL (x2 + (1 : Int32)) fun x2_4 =>
    r4 x1_3 x2_4 M
def fX4_mostRue_L4 (w : Nat) : Nat → Int32 → Int32 → zM → Option (Int32 × zM)
  | 0 => fun _ _ _ => none
  | j9 + 1 => fX4_mostRue_B4 w (fX4_mostRue_L4 w j9)
def fX4_mostRue (w : Nat) (M : zM) : Option (Int32 × zM) :=
  fX4_mostRue_L4 w zF (0 : Int32) (0 : Int32) M
set_option maxHeartbeats 4000000 in
set_option maxRecDepth 100000 in
theorem mtX4_mostRue (l : Launch) (G : zGr) (hJ : zJ G 64) (w : Nat) (hw : isW w) (M : zM) (o : Int32 × zM) (hf : fX4_mostRue w M = some o) : zMi l G shX 64 yX4_mostRue cX4_mostRue 3 (some .int) 1 24 [.ref (G.2.2.1 w)] M o := by
  intro sz
  refine zOf (by decide) (Nat.le_of_ble_eq_true rfl) ?_
  intro p e R Q s m args below meth c hRm hsz hQ C0 hP hS ls hl
  subst hsz
  replace hRm : R = { frames := 1, cells := 0, slots := 0, locals := 24 } := hRm
  have hl : lv_has ls 3 [(0, .ref (G.2.2.1 w))] := hl
  have hx := C0.1
  have hb := C0.2.1
  have hown := C0.2.2.2.1
  have hts := C0.2.2.2.2.1
  have L4 : ∀ (n4 : Nat), ∀ (x1 : Int32) (x2 : Int32) (M : zM) (H : Heap) (locs : List Loc) (ls : Array Slot), lv_has ls 3 [(0, .ref (G.2.2.1 w)), (1, .int x1), (2, .int x2)] → va_P G.1 zcl (zw G shX 64 M) H → va_S (zA G 64 s.heap.size) s.heap H locs → fX4_mostRue_L4 w n4 x1 x2 M = some o → W p l e R s m args below meth c H locs 0 0 Q (F0 m 4 ls []) := by
    intro n4
    induction n4 with
    | zero => intro x1 x2 M H locs ls hl hP hS hf; exact zn_s (show none = some o from hf)
    | succ n4 ih4 =>
      intro x1 x2 M H locs ls hl hP hS hf
      replace hf : fX4_mostRue_B4 w (fX4_mostRue_L4 w n4) x1 x2 M = some o := hf
      unfold fX4_mostRue_B4 at hf
      refine lv_iload_n hx hb dX4_mostRue_4 rfl (lv_at hl 2 rfl) ?_
      refine lv_aload_n hx hb dX4_mostRue_5 rfl (lv_at hl 0 rfl) ?_
      refine zr_get (C := RX4) (T := TX4) (n := 11) C0 hP w (isW_lt hw) (isW_s hw) 7 rfl (by decide) uw_X4 mw_77 rfl dX4_mostRue_6 ?_
      refine lv_icmp_ge (tgt := 29) hx hb dX4_mostRue_9 (by decide) (fun c_1 => ?_) (fun c_1 => ?_)
      · replace hf := zI_t c_1 hf
        refine lv_iload_n hx hb dX4_mostRue_29 rfl (lv_at hl 1 rfl) ?_
        exact ze_i C0 hP hS hf dX4_mostRue_30 hQ
      · replace hf := zI_f c_1 hf
        refine lv_iload_n hx hb dX4_mostRue_12 rfl (lv_at hl 1 rfl) ?_
        refine lv_aload_n hx hb dX4_mostRue_13 rfl (lv_at hl 0 rfl) ?_
        refine zr_getq (C := RX4) (T := TX4) (n := 11) C0 hP w (isW_lt hw) (isW_s hw) 3 (w + 3) rfl (by decide) uw_X4 mw_78 rfl dX4_mostRue_14 ?_
        refine lv_iload_n hx hb dX4_mostRue_17 rfl (lv_at hl 2 rfl) ?_
        obtain ⟨hg_2, hf⟩ := zG_o hf
        refine zr_iald C0 hP (w + 3) (isW_lt3 hw) (isW_s3 hw) hg_2 dX4_mostRue_18 ?_
        refine zo_max C0 hl.1 mw_79 mw_28 mw_29 mw_30 (by rw [hRm]; exact Nat.le_of_ble_eq_true rfl) (by rw [hRm]; exact Nat.le_of_ble_eq_true rfl) ⟨Nat.zero_le _, Nat.zero_le _⟩ dX4_mostRue_19 ?_
        refine lv_topi (fun x1_3 ex1_3 => ?_)
        replace hf := zL_e ex1_3 hf
        refine lv_istore_n (lv' := [(1, .int x1_3), (0, .ref (G.2.2.1 w)), (2, .int x2)]) hx hb dX4_mostRue_22 rfl hl (by decide) rfl (fun ls hl => ?_)
        obtain ⟨x2_4, ex2_4, hf⟩ := zL_o hf
        refine lv_iinc (v := x2_4) (lv' := [(2, .int x2_4), (1, .int x1_3), (0, .ref (G.2.2.1 w))]) hx hb dX4_mostRue_23 hl (k := 2) rfl (by rw [ex2_4]; rfl) (by decide) rfl (fun ls hl => ?_)
        refine lv_goto (tgt := 4) hx hb dX4_mostRue_26 (by decide) ?_
        exact ih4 x1_3 x2_4 M H locs ls (lv_sub hl [2, 1, 0] rfl) hP hS hf
  unfold fX4_mostRue at hf
  obtain ⟨H, eH⟩ : ∃ H, H = s.heap := ⟨_, rfl⟩
  obtain ⟨locs, el⟩ : ∃ locs : List Loc, locs = [] := ⟨_, rfl⟩
  rw [← eH] at hP ⊢
  have hS : va_S (zA G 64 s.heap.size) s.heap H locs := by rw [eH, el]; exact hS
  rw [← el]
  refine lv_iconst (v := (0 : Int32)) hx hb dX4_mostRue_0 (by decide) ?_
  refine lv_istore_n (lv' := [(1, .int (0 : Int32)), (0, .ref (G.2.2.1 w))]) hx hb dX4_mostRue_1 rfl hl (by decide) rfl (fun ls hl => ?_)
  refine lv_iconst (v := (0 : Int32)) hx hb dX4_mostRue_2 (by decide) ?_
  refine lv_istore_n (lv' := [(2, .int (0 : Int32)), (1, .int (0 : Int32)), (0, .ref (G.2.2.1 w))]) hx hb dX4_mostRue_3 rfl hl (by decide) rfl (fun ls hl => ?_)
  exact L4 zF (0 : Int32) (0 : Int32) M H locs ls (lv_sub hl [2, 1, 0] rfl) hP hS hf
def fX4_ruleTells (w : Nat) (x1 : Int32) (x2 : Int32) (M : zM) : Option (Int32 × zM) :=
  if (M.1 w 10) < (0 : Int32) then
    some ((0 : Int32), M)
  else
    if (6 : Int32) ≤ (M.1 w 10) then
      some ((0 : Int32), M)
    else
      zG (zin (M.1 w 10) 6) <|
      zL (32 + 4 * (M.1 w 10).toNatClampNeg) fun q_4 =>
      zG (zin x2 5) <|
      zL (zu M (w + 6) (0 : Int32).toNatClampNeg (M.1 (w + 3) x2.toNatClampNeg)) fun M_6 =>
      zG (zin x2 5) <|
      zL (zu M_6 (w + 6) (1 : Int32).toNatClampNeg (M_6.1 (w + 2) x2.toNatClampNeg)) fun M_8 =>
      zL (zu M_8 (w + 6) (2 : Int32).toNatClampNeg (M_8.1 w 9)) fun M_9 =>
      zL (zu M_9 (w + 6) (3 : Int32).toNatClampNeg (M_9.1 w 8)) fun M_10 =>
      zG (zin x2 5) <|
      zL (zu M_10 (w + 6) (4 : Int32).toNatClampNeg (M_10.1 (w + 4) x2.toNatClampNeg)) fun M_12 =>
      zB (fX4_mostRue w M_12) fun r_15 M_13 =>
      zL (zu M_13 (w + 6) (5 : Int32).toNatClampNeg r_15) fun M_16 =>
      zG (zin (M_16.1 w 10) 6) <|
      zL (32 + 4 * (M_16.1 w 10).toNatClampNeg) fun q_18 =>
      zB (fX3_tell q_18 (w + 6) x1 M_16) fun r_21 M_19 =>
      some (r_21, M_19)
set_option maxHeartbeats 4000000 in
set_option maxRecDepth 100000 in
theorem mtX4_ruleTells (l : Launch) (G : zGr) (hJ : zJ G 64) (w : Nat) (hw : isW w) (x1 : Int32) (x2 : Int32) (M : zM) (o : Int32 × zM) (hf : fX4_ruleTells w x1 x2 M = some o) : zMi l G shX 64 yX4_ruleTells cX4_ruleTells 3 (some .int) 2 48 [.ref (G.2.2.1 w), .int x1, .int x2] M o := by
  intro sz
  refine zOf (by decide) (Nat.le_of_ble_eq_true rfl) ?_
  intro p e R Q s m args below meth c hRm hsz hQ C0 hP hS ls hl
  subst hsz
  replace hRm : R = { frames := 2, cells := 0, slots := 0, locals := 48 } := hRm
  have hl : lv_has ls 3 [(0, .ref (G.2.2.1 w)), (1, .int x1), (2, .int x2)] := hl
  have hx := C0.1
  have hb := C0.2.1
  have hown := C0.2.2.2.1
  have hts := C0.2.2.2.2.1
  unfold fX4_ruleTells at hf
  obtain ⟨H, eH⟩ : ∃ H, H = s.heap := ⟨_, rfl⟩
  obtain ⟨locs, el⟩ : ∃ locs : List Loc, locs = [] := ⟨_, rfl⟩
  rw [← eH] at hP ⊢
  have hS : va_S (zA G 64 s.heap.size) s.heap H locs := by rw [eH, el]; exact hS
  rw [← el]
  refine lv_aload_n hx hb dX4_ruleTells_0 rfl (lv_at hl 0 rfl) ?_
  refine zr_get (C := RX4) (T := TX4) (n := 11) C0 hP w (isW_lt hw) (isW_s hw) 10 rfl (by decide) uw_X4 mw_80 rfl dX4_ruleTells_1 ?_
  refine lv_if_lt (tgt := 31) hx hb dX4_ruleTells_4 (by decide) (fun c_1 => ?_) (fun c_1 => ?_)
  · replace hf := zI_t c_1 hf
    refine lv_iconst (v := (0 : Int32)) hx hb dX4_ruleTells_31 (by decide) ?_
    exact ze_i C0 hP hS hf dX4_ruleTells_32 hQ
  · replace hf := zI_f c_1 hf
    refine lv_aload_n hx hb dX4_ruleTells_7 rfl (lv_at hl 0 rfl) ?_
    refine zr_get (C := RX4) (T := TX4) (n := 11) C0 hP w (isW_lt hw) (isW_s hw) 10 rfl (by decide) uw_X4 mw_80 rfl dX4_ruleTells_8 ?_
    refine lv_aload_n hx hb dX4_ruleTells_11 rfl (lv_at hl 0 rfl) ?_
    refine zr_getq (C := RX4) (T := TX4) (n := 11) C0 hP w (isW_lt hw) (isW_s hw) 0 1 rfl (by decide) uw_X4 mw_81 rfl dX4_ruleTells_12 ?_
    refine zr_alen (v := (6 : Int32)) C0 hP 1 (by decide) shX_1 (by decide) rfl dX4_ruleTells_15 ?_
    refine lv_icmp_ge (tgt := 31) hx hb dX4_ruleTells_16 (by decide) (fun c_2 => ?_) (fun c_2 => ?_)
    · replace hf := zI_t c_2 hf
      refine lv_iconst (v := (0 : Int32)) hx hb dX4_ruleTells_31 (by decide) ?_
      exact ze_i C0 hP hS hf dX4_ruleTells_32 hQ
    · replace hf := zI_f c_2 hf
      refine lv_aload_n hx hb dX4_ruleTells_19 rfl (lv_at hl 0 rfl) ?_
      refine zr_getq (C := RX4) (T := TX4) (n := 11) C0 hP w (isW_lt hw) (isW_s hw) 0 1 rfl (by decide) uw_X4 mw_81 rfl dX4_ruleTells_20 ?_
      refine lv_aload_n hx hb dX4_ruleTells_23 rfl (lv_at hl 0 rfl) ?_
      refine zr_get (C := RX4) (T := TX4) (n := 11) C0 hP w (isW_lt hw) (isW_s hw) 10 rfl (by decide) uw_X4 mw_80 rfl dX4_ruleTells_24 ?_
      obtain ⟨hg_3, hf⟩ := zG_o hf
      refine zr_aald3 C0 hP 1 (by decide) shX_1 hg_3 dX4_ruleTells_27 ?_
      obtain ⟨q_4, eq_4, hf⟩ := zL_o hf
      rw [← eq_4]
      have hq_4 : isT q_4 := eq_4 ▸ isT_of hg_3
      refine lv_ifnonnull (tgt := 33) hx hb dX4_ruleTells_28 (by decide) ?_
      refine lv_aload_n hx hb dX4_ruleTells_33 rfl (lv_at hl 0 rfl) ?_
      refine zr_getq (C := RX4) (T := TX4) (n := 11) C0 hP w (isW_lt hw) (isW_s hw) 6 (w + 6) rfl (by decide) uw_X4 mw_82 rfl dX4_ruleTells_34 ?_
      refine lv_iconst (v := (0 : Int32)) hx hb dX4_ruleTells_37 (by decide) ?_
      refine lv_aload_n hx hb dX4_ruleTells_38 rfl (lv_at hl 0 rfl) ?_
      refine zr_getq (C := RX4) (T := TX4) (n := 11) C0 hP w (isW_lt hw) (isW_s hw) 3 (w + 3) rfl (by decide) uw_X4 mw_78 rfl dX4_ruleTells_39 ?_
      refine lv_iload_n hx hb dX4_ruleTells_42 rfl (lv_at hl 2 rfl) ?_
      obtain ⟨hg_5, hf⟩ := zG_o hf
      refine zr_iald C0 hP (w + 3) (isW_lt3 hw) (isW_s3 hw) hg_5 dX4_ruleTells_43 ?_
      refine zr_iast C0 hJ hP hS (w + 6) (isW_lt6 hw) (isW_s6 hw) (by decide) dX4_ruleTells_44 (fun H locs hP hS => ?_)
      obtain ⟨M_6, eM_6, hf⟩ := zL_o hf
      have hP : va_P G.1 zcl (zw G shX 64 M_6) H := by rw [eM_6]; exact hP
      refine lv_aload_n hx hb dX4_ruleTells_45 rfl (lv_at hl 0 rfl) ?_
      refine zr_getq (C := RX4) (T := TX4) (n := 11) C0 hP w (isW_lt hw) (isW_s hw) 6 (w + 6) rfl (by decide) uw_X4 mw_82 rfl dX4_ruleTells_46 ?_
      refine lv_iconst (v := (1 : Int32)) hx hb dX4_ruleTells_49 (by decide) ?_
      refine lv_aload_n hx hb dX4_ruleTells_50 rfl (lv_at hl 0 rfl) ?_
      refine zr_getq (C := RX4) (T := TX4) (n := 11) C0 hP w (isW_lt hw) (isW_s hw) 2 (w + 2) rfl (by decide) uw_X4 mw_83 rfl dX4_ruleTells_51 ?_
      refine lv_iload_n hx hb dX4_ruleTells_54 rfl (lv_at hl 2 rfl) ?_
      obtain ⟨hg_7, hf⟩ := zG_o hf
      refine zr_iald C0 hP (w + 2) (isW_lt2 hw) (isW_s2 hw) hg_7 dX4_ruleTells_55 ?_
      refine zr_iast C0 hJ hP hS (w + 6) (isW_lt6 hw) (isW_s6 hw) (by decide) dX4_ruleTells_56 (fun H locs hP hS => ?_)
      obtain ⟨M_8, eM_8, hf⟩ := zL_o hf
      have hP : va_P G.1 zcl (zw G shX 64 M_8) H := by rw [eM_8]; exact hP
      refine lv_aload_n hx hb dX4_ruleTells_57 rfl (lv_at hl 0 rfl) ?_
      refine zr_getq (C := RX4) (T := TX4) (n := 11) C0 hP w (isW_lt hw) (isW_s hw) 6 (w + 6) rfl (by decide) uw_X4 mw_82 rfl dX4_ruleTells_58 ?_
      refine lv_iconst (v := (2 : Int32)) hx hb dX4_ruleTells_61 (by decide) ?_
      refine lv_aload_n hx hb dX4_ruleTells_62 rfl (lv_at hl 0 rfl) ?_
      refine zr_get (C := RX4) (T := TX4) (n := 11) C0 hP w (isW_lt hw) (isW_s hw) 9 rfl (by decide) uw_X4 mw_84 rfl dX4_ruleTells_63 ?_
      refine zr_iast C0 hJ hP hS (w + 6) (isW_lt6 hw) (isW_s6 hw) (by decide) dX4_ruleTells_66 (fun H locs hP hS => ?_)
      obtain ⟨M_9, eM_9, hf⟩ := zL_o hf
      have hP : va_P G.1 zcl (zw G shX 64 M_9) H := by rw [eM_9]; exact hP
      refine lv_aload_n hx hb dX4_ruleTells_67 rfl (lv_at hl 0 rfl) ?_
      refine zr_getq (C := RX4) (T := TX4) (n := 11) C0 hP w (isW_lt hw) (isW_s hw) 6 (w + 6) rfl (by decide) uw_X4 mw_82 rfl dX4_ruleTells_68 ?_
      refine lv_iconst (v := (3 : Int32)) hx hb dX4_ruleTells_71 (by decide) ?_
      refine lv_aload_n hx hb dX4_ruleTells_72 rfl (lv_at hl 0 rfl) ?_
      refine zr_get (C := RX4) (T := TX4) (n := 11) C0 hP w (isW_lt hw) (isW_s hw) 8 rfl (by decide) uw_X4 mw_85 rfl dX4_ruleTells_73 ?_
      refine zr_iast C0 hJ hP hS (w + 6) (isW_lt6 hw) (isW_s6 hw) (by decide) dX4_ruleTells_76 (fun H locs hP hS => ?_)
      obtain ⟨M_10, eM_10, hf⟩ := zL_o hf
      have hP : va_P G.1 zcl (zw G shX 64 M_10) H := by rw [eM_10]; exact hP
      refine lv_aload_n hx hb dX4_ruleTells_77 rfl (lv_at hl 0 rfl) ?_
      refine zr_getq (C := RX4) (T := TX4) (n := 11) C0 hP w (isW_lt hw) (isW_s hw) 6 (w + 6) rfl (by decide) uw_X4 mw_82 rfl dX4_ruleTells_78 ?_
      refine lv_iconst (v := (4 : Int32)) hx hb dX4_ruleTells_81 (by decide) ?_
      refine lv_aload_n hx hb dX4_ruleTells_82 rfl (lv_at hl 0 rfl) ?_
      refine zr_getq (C := RX4) (T := TX4) (n := 11) C0 hP w (isW_lt hw) (isW_s hw) 4 (w + 4) rfl (by decide) uw_X4 mw_86 rfl dX4_ruleTells_83 ?_
      refine lv_iload_n hx hb dX4_ruleTells_86 rfl (lv_at hl 2 rfl) ?_
      obtain ⟨hg_11, hf⟩ := zG_o hf
      refine zr_iald C0 hP (w + 4) (isW_lt4 hw) (isW_s4 hw) hg_11 dX4_ruleTells_87 ?_
      refine zr_iast C0 hJ hP hS (w + 6) (isW_lt6 hw) (isW_s6 hw) (by decide) dX4_ruleTells_88 (fun H locs hP hS => ?_)
      obtain ⟨M_12, eM_12, hf⟩ := zL_o hf
      have hP : va_P G.1 zcl (zw G shX 64 M_12) H := by rw [eM_12]; exact hP
      refine lv_aload_n hx hb dX4_ruleTells_89 rfl (lv_at hl 0 rfl) ?_
      refine zr_getq (C := RX4) (T := TX4) (n := 11) C0 hP w (isW_lt hw) (isW_s hw) 6 (w + 6) rfl (by decide) uw_X4 mw_82 rfl dX4_ruleTells_90 ?_
      refine lv_iconst (v := (5 : Int32)) hx hb dX4_ruleTells_93 (by decide) ?_
      refine lv_aload_n hx hb dX4_ruleTells_94 rfl (lv_at hl 0 rfl) ?_
      obtain ⟨r_15, M_13, hc_14, hf⟩ := zB_o hf
      refine zc_vi (As := []) (rest := [.int (5 : Int32), .ref (G.2.2.1 (w + 6))]) C0 hP hS hl.1 w (mtX4_mostRue l G hJ w hw M_12 _ hc_14) lk_X4_84 (isW_lt hw) (isW_s hw) (T := TX4) (n' := 11) rfl ds_X4_mostRue (by rw [hRm]; exact ⟨Nat.le_of_ble_eq_true rfl, Nat.le_of_ble_eq_true rfl⟩) rfl rfl (Nat.le_of_ble_eq_true rfl) dX4_ruleTells_95 ⟨Nat.zero_le _, Nat.zero_le _⟩ (fun H locs hP hS => ?_)
      refine zr_iast C0 hJ hP hS (w + 6) (isW_lt6 hw) (isW_s6 hw) (by decide) dX4_ruleTells_98 (fun H locs hP hS => ?_)
      obtain ⟨M_16, eM_16, hf⟩ := zL_o hf
      have hP : va_P G.1 zcl (zw G shX 64 M_16) H := by rw [eM_16]; exact hP
      refine lv_aload_n hx hb dX4_ruleTells_99 rfl (lv_at hl 0 rfl) ?_
      refine zr_getq (C := RX4) (T := TX4) (n := 11) C0 hP w (isW_lt hw) (isW_s hw) 0 1 rfl (by decide) uw_X4 mw_81 rfl dX4_ruleTells_100 ?_
      refine lv_aload_n hx hb dX4_ruleTells_103 rfl (lv_at hl 0 rfl) ?_
      refine zr_get (C := RX4) (T := TX4) (n := 11) C0 hP w (isW_lt hw) (isW_s hw) 10 rfl (by decide) uw_X4 mw_80 rfl dX4_ruleTells_104 ?_
      obtain ⟨hg_17, hf⟩ := zG_o hf
      refine zr_aald3 C0 hP 1 (by decide) shX_1 hg_17 dX4_ruleTells_107 ?_
      obtain ⟨q_18, eq_18, hf⟩ := zL_o hf
      rw [← eq_18]
      have hq_18 : isT q_18 := eq_18 ▸ isT_of hg_17
      refine lv_iload_n hx hb dX4_ruleTells_108 rfl (lv_at hl 1 rfl) ?_
      refine lv_aload_n hx hb dX4_ruleTells_109 rfl (lv_at hl 0 rfl) ?_
      refine zr_getq (C := RX4) (T := TX4) (n := 11) C0 hP w (isW_lt hw) (isW_s hw) 6 (w + 6) rfl (by decide) uw_X4 mw_82 rfl dX4_ruleTells_110 ?_
      obtain ⟨r_21, M_19, hc_20, hf⟩ := zB_o hf
      refine zc_vi (As := [.int x1, .ref (G.2.2.1 (w + 6))]) (rest := []) C0 hP hS hl.1 q_18 (mtX3_tell l G hJ q_18 hq_18 (w + 6) (isW_lt6 hw) (isW_s6 hw) x1 M_16 _ hc_20) lk_X4_88 (isT_lt hq_18) (isT_s hq_18) (T := TX3) (n' := 3) rfl ds_X3_tell (by rw [hRm]; exact ⟨Nat.le_of_ble_eq_true rfl, Nat.le_of_ble_eq_true rfl⟩) rfl rfl (Nat.le_of_ble_eq_true rfl) dX4_ruleTells_113 ⟨Nat.zero_le _, Nat.zero_le _⟩ (fun H locs hP hS => ?_)
      exact ze_i C0 hP hS hf dX4_ruleTells_116 hQ
def fX4_become_B34 (w : Nat) (v : Nat) (r34 : Int32 → zM → Option (zM)) (x2 : Int32) (M : zM) : Option (zM) :=
  if (5 : Int32) ≤ x2 then
    some M
  else
    zG (zin x2 5) <|
    zG (zin x2 5) <|
    zL (zu M (w + 1) x2.toNatClampNeg (M.1 (v + 1) x2.toNatClampNeg)) fun M_8 =>
    zG (zin x2 5) <|
    zG (zin x2 5) <|
    zL (zu M_8 (w + 2) x2.toNatClampNeg (M_8.1 (v + 2) x2.toNatClampNeg)) fun M_11 =>
    zG (zin x2 5) <|
    zG (zin x2 5) <|
    zL (zu M_11 (w + 3) x2.toNatClampNeg (M_11.1 (v + 3) x2.toNatClampNeg)) fun M_14 =>
    zG (zin x2 5) <|
    zG (zin x2 5) <|
    zL (zu M_14 (w + 4) x2.toNatClampNeg (M_14.1 (v + 4) x2.toNatClampNeg)) fun M_17 =>
    zL (x2 + (1 : Int32)) fun x2_18 =>
    r34 x2_18 M_17
def fX4_become_L34 (w : Nat) (v : Nat) : Nat → Int32 → zM → Option (zM)
  | 0 => fun _ _ => none
  | j9 + 1 => fX4_become_B34 w v (fX4_become_L34 w v j9)
def fX4_become (w : Nat) (v : Nat) (M : zM) : Option (zM) :=
  zL (zu M w 7 (M.1 v 7)) fun M_1 =>
  zL (zu M_1 w 8 (M_1.1 v 8)) fun M_2 =>
  zL (zu M_2 w 9 (M_2.1 v 9)) fun M_3 =>
  zL (zu M_3 w 10 (M_3.1 v 10)) fun M_4 =>
  fX4_become_L34 w v zF (0 : Int32) M_4
set_option maxHeartbeats 4000000 in
set_option maxRecDepth 100000 in
theorem mtX4_become (l : Launch) (G : zGr) (hJ : zJ G 64) (w : Nat) (hw : isW w) (v : Nat) (hv : isW v) (M : zM) (o : zM) (hf : fX4_become w v M = some o) : zMv l G shX 64 yX4_become cX4_become 3 none 0 0 [.ref (G.2.2.1 w), .ref (G.2.2.1 v)] M o := by
  intro sz
  refine zOf (by decide) (Nat.le_of_ble_eq_true rfl) ?_
  intro p e R Q s m args below meth c hRm hsz hQ C0 hP hS ls hl
  subst hsz
  replace hRm : R = { frames := 0, cells := 0, slots := 0, locals := 0 } := hRm
  have hl : lv_has ls 3 [(0, .ref (G.2.2.1 w)), (1, .ref (G.2.2.1 v))] := hl
  have hx := C0.1
  have hb := C0.2.1
  have hown := C0.2.2.2.1
  have hts := C0.2.2.2.2.1
  have L34 : ∀ (n34 : Nat), ∀ (x2 : Int32) (M : zM) (H : Heap) (locs : List Loc) (ls : Array Slot), lv_has ls 3 [(0, .ref (G.2.2.1 w)), (1, .ref (G.2.2.1 v)), (2, .int x2)] → va_P G.1 zcl (zw G shX 64 M) H → va_S (zA G 64 s.heap.size) s.heap H locs → fX4_become_L34 w v n34 x2 M = some o → W p l e R s m args below meth c H locs 0 0 Q (F0 m 34 ls []) := by
    intro n34
    induction n34 with
    | zero => intro x2 M H locs ls hl hP hS hf; exact zn_s (show none = some o from hf)
    | succ n34 ih34 =>
      intro x2 M H locs ls hl hP hS hf
      replace hf : fX4_become_B34 w v (fX4_become_L34 w v n34) x2 M = some o := hf
      unfold fX4_become_B34 at hf
      refine lv_iload_n hx hb dX4_become_34 rfl (lv_at hl 2 rfl) ?_
      refine lv_iconst (v := (5 : Int32)) hx hb dX4_become_35 (by decide) ?_
      refine lv_icmp_ge (tgt := 93) hx hb dX4_become_36 (by decide) (fun c_5 => ?_) (fun c_5 => ?_)
      · replace hf := zI_t c_5 hf
        exact ze_v C0 hP hS hf dX4_become_93 hQ
      · replace hf := zI_f c_5 hf
        refine lv_aload_n hx hb dX4_become_39 rfl (lv_at hl 0 rfl) ?_
        refine zr_getq (C := RX4) (T := TX4) (n := 11) C0 hP w (isW_lt hw) (isW_s hw) 1 (w + 1) rfl (by decide) uw_X4 mw_96 rfl dX4_become_40 ?_
        refine lv_iload_n hx hb dX4_become_43 rfl (lv_at hl 2 rfl) ?_
        refine lv_aload_n hx hb dX4_become_44 rfl (lv_at hl 1 rfl) ?_
        refine zr_getq (C := RX4) (T := TX4) (n := 11) C0 hP v (isW_lt hv) (isW_s hv) 1 (v + 1) rfl (by decide) uw_X4 mw_96 rfl dX4_become_45 ?_
        refine lv_iload_n hx hb dX4_become_48 rfl (lv_at hl 2 rfl) ?_
        obtain ⟨hg_6, hf⟩ := zG_o hf
        refine zr_iald C0 hP (v + 1) (isW_lt1 hv) (isW_s1 hv) hg_6 dX4_become_49 ?_
        obtain ⟨hg_7, hf⟩ := zG_o hf
        refine zr_iast C0 hJ hP hS (w + 1) (isW_lt1 hw) (isW_s1 hw) hg_7 dX4_become_50 (fun H locs hP hS => ?_)
        obtain ⟨M_8, eM_8, hf⟩ := zL_o hf
        have hP : va_P G.1 zcl (zw G shX 64 M_8) H := by rw [eM_8]; exact hP
        refine lv_aload_n hx hb dX4_become_51 rfl (lv_at hl 0 rfl) ?_
        refine zr_getq (C := RX4) (T := TX4) (n := 11) C0 hP w (isW_lt hw) (isW_s hw) 2 (w + 2) rfl (by decide) uw_X4 mw_83 rfl dX4_become_52 ?_
        refine lv_iload_n hx hb dX4_become_55 rfl (lv_at hl 2 rfl) ?_
        refine lv_aload_n hx hb dX4_become_56 rfl (lv_at hl 1 rfl) ?_
        refine zr_getq (C := RX4) (T := TX4) (n := 11) C0 hP v (isW_lt hv) (isW_s hv) 2 (v + 2) rfl (by decide) uw_X4 mw_83 rfl dX4_become_57 ?_
        refine lv_iload_n hx hb dX4_become_60 rfl (lv_at hl 2 rfl) ?_
        obtain ⟨hg_9, hf⟩ := zG_o hf
        refine zr_iald C0 hP (v + 2) (isW_lt2 hv) (isW_s2 hv) hg_9 dX4_become_61 ?_
        obtain ⟨hg_10, hf⟩ := zG_o hf
        refine zr_iast C0 hJ hP hS (w + 2) (isW_lt2 hw) (isW_s2 hw) hg_10 dX4_become_62 (fun H locs hP hS => ?_)
        obtain ⟨M_11, eM_11, hf⟩ := zL_o hf
        have hP : va_P G.1 zcl (zw G shX 64 M_11) H := by rw [eM_11]; exact hP
        refine lv_aload_n hx hb dX4_become_63 rfl (lv_at hl 0 rfl) ?_
        refine zr_getq (C := RX4) (T := TX4) (n := 11) C0 hP w (isW_lt hw) (isW_s hw) 3 (w + 3) rfl (by decide) uw_X4 mw_78 rfl dX4_become_64 ?_
        refine lv_iload_n hx hb dX4_become_67 rfl (lv_at hl 2 rfl) ?_
        refine lv_aload_n hx hb dX4_become_68 rfl (lv_at hl 1 rfl) ?_
        refine zr_getq (C := RX4) (T := TX4) (n := 11) C0 hP v (isW_lt hv) (isW_s hv) 3 (v + 3) rfl (by decide) uw_X4 mw_78 rfl dX4_become_69 ?_
        refine lv_iload_n hx hb dX4_become_72 rfl (lv_at hl 2 rfl) ?_
        obtain ⟨hg_12, hf⟩ := zG_o hf
        refine zr_iald C0 hP (v + 3) (isW_lt3 hv) (isW_s3 hv) hg_12 dX4_become_73 ?_
        obtain ⟨hg_13, hf⟩ := zG_o hf
        refine zr_iast C0 hJ hP hS (w + 3) (isW_lt3 hw) (isW_s3 hw) hg_13 dX4_become_74 (fun H locs hP hS => ?_)
        obtain ⟨M_14, eM_14, hf⟩ := zL_o hf
        have hP : va_P G.1 zcl (zw G shX 64 M_14) H := by rw [eM_14]; exact hP
        refine lv_aload_n hx hb dX4_become_75 rfl (lv_at hl 0 rfl) ?_
        refine zr_getq (C := RX4) (T := TX4) (n := 11) C0 hP w (isW_lt hw) (isW_s hw) 4 (w + 4) rfl (by decide) uw_X4 mw_86 rfl dX4_become_76 ?_
        refine lv_iload_n hx hb dX4_become_79 rfl (lv_at hl 2 rfl) ?_
        refine lv_aload_n hx hb dX4_become_80 rfl (lv_at hl 1 rfl) ?_
        refine zr_getq (C := RX4) (T := TX4) (n := 11) C0 hP v (isW_lt hv) (isW_s hv) 4 (v + 4) rfl (by decide) uw_X4 mw_86 rfl dX4_become_81 ?_
        refine lv_iload_n hx hb dX4_become_84 rfl (lv_at hl 2 rfl) ?_
        obtain ⟨hg_15, hf⟩ := zG_o hf
        refine zr_iald C0 hP (v + 4) (isW_lt4 hv) (isW_s4 hv) hg_15 dX4_become_85 ?_
        obtain ⟨hg_16, hf⟩ := zG_o hf
        refine zr_iast C0 hJ hP hS (w + 4) (isW_lt4 hw) (isW_s4 hw) hg_16 dX4_become_86 (fun H locs hP hS => ?_)
        obtain ⟨M_17, eM_17, hf⟩ := zL_o hf
        have hP : va_P G.1 zcl (zw G shX 64 M_17) H := by rw [eM_17]; exact hP
        obtain ⟨x2_18, ex2_18, hf⟩ := zL_o hf
        refine lv_iinc (v := x2_18) (lv' := [(2, .int x2_18), (0, .ref (G.2.2.1 w)), (1, .ref (G.2.2.1 v))]) hx hb dX4_become_87 hl (k := 2) rfl (by rw [ex2_18]; rfl) (by decide) rfl (fun ls hl => ?_)
        refine lv_goto (tgt := 34) hx hb dX4_become_90 (by decide) ?_
        exact ih34 x2_18 M_17 H locs ls (lv_sub hl [1, 2, 0] rfl) hP hS hf
  unfold fX4_become at hf
  obtain ⟨H, eH⟩ : ∃ H, H = s.heap := ⟨_, rfl⟩
  obtain ⟨locs, el⟩ : ∃ locs : List Loc, locs = [] := ⟨_, rfl⟩
  rw [← eH] at hP ⊢
  have hS : va_S (zA G 64 s.heap.size) s.heap H locs := by rw [eH, el]; exact hS
  rw [← el]
  refine lv_aload_n hx hb dX4_become_0 rfl (lv_at hl 0 rfl) ?_
  refine lv_aload_n hx hb dX4_become_1 rfl (lv_at hl 1 rfl) ?_
  refine zr_get (C := RX4) (T := TX4) (n := 11) C0 hP v (isW_lt hv) (isW_s hv) 7 rfl (by decide) uw_X4 mw_77 rfl dX4_become_2 ?_
  refine zr_put (C := RX4) (T := TX4) (n := 11) C0 hJ hP hS w (isW_lt hw) (isW_s hw) 7 rfl (by decide) uw_X4 tyX4 tyX4_ok nmX4 mw_77 rfl rfl ⟨rfl, rfl⟩ dX4_become_5 (fun H locs hP hS => ?_)
  obtain ⟨M_1, eM_1, hf⟩ := zL_o hf
  have hP : va_P G.1 zcl (zw G shX 64 M_1) H := by rw [eM_1]; exact hP
  refine lv_aload_n hx hb dX4_become_8 rfl (lv_at hl 0 rfl) ?_
  refine lv_aload_n hx hb dX4_become_9 rfl (lv_at hl 1 rfl) ?_
  refine zr_get (C := RX4) (T := TX4) (n := 11) C0 hP v (isW_lt hv) (isW_s hv) 8 rfl (by decide) uw_X4 mw_85 rfl dX4_become_10 ?_
  refine zr_put (C := RX4) (T := TX4) (n := 11) C0 hJ hP hS w (isW_lt hw) (isW_s hw) 8 rfl (by decide) uw_X4 tyX4 tyX4_ok nmX4 mw_85 rfl rfl ⟨rfl, rfl⟩ dX4_become_13 (fun H locs hP hS => ?_)
  obtain ⟨M_2, eM_2, hf⟩ := zL_o hf
  have hP : va_P G.1 zcl (zw G shX 64 M_2) H := by rw [eM_2]; exact hP
  refine lv_aload_n hx hb dX4_become_16 rfl (lv_at hl 0 rfl) ?_
  refine lv_aload_n hx hb dX4_become_17 rfl (lv_at hl 1 rfl) ?_
  refine zr_get (C := RX4) (T := TX4) (n := 11) C0 hP v (isW_lt hv) (isW_s hv) 9 rfl (by decide) uw_X4 mw_84 rfl dX4_become_18 ?_
  refine zr_put (C := RX4) (T := TX4) (n := 11) C0 hJ hP hS w (isW_lt hw) (isW_s hw) 9 rfl (by decide) uw_X4 tyX4 tyX4_ok nmX4 mw_84 rfl rfl ⟨rfl, rfl⟩ dX4_become_21 (fun H locs hP hS => ?_)
  obtain ⟨M_3, eM_3, hf⟩ := zL_o hf
  have hP : va_P G.1 zcl (zw G shX 64 M_3) H := by rw [eM_3]; exact hP
  refine lv_aload_n hx hb dX4_become_24 rfl (lv_at hl 0 rfl) ?_
  refine lv_aload_n hx hb dX4_become_25 rfl (lv_at hl 1 rfl) ?_
  refine zr_get (C := RX4) (T := TX4) (n := 11) C0 hP v (isW_lt hv) (isW_s hv) 10 rfl (by decide) uw_X4 mw_80 rfl dX4_become_26 ?_
  refine zr_put (C := RX4) (T := TX4) (n := 11) C0 hJ hP hS w (isW_lt hw) (isW_s hw) 10 rfl (by decide) uw_X4 tyX4 tyX4_ok nmX4 mw_80 rfl rfl ⟨rfl, rfl⟩ dX4_become_29 (fun H locs hP hS => ?_)
  obtain ⟨M_4, eM_4, hf⟩ := zL_o hf
  have hP : va_P G.1 zcl (zw G shX 64 M_4) H := by rw [eM_4]; exact hP
  refine lv_iconst (v := (0 : Int32)) hx hb dX4_become_32 (by decide) ?_
  refine lv_istore_n (lv' := [(2, .int (0 : Int32)), (0, .ref (G.2.2.1 w)), (1, .ref (G.2.2.1 v))]) hx hb dX4_become_33 rfl hl (by decide) rfl (fun ls hl => ?_)
  exact L34 zF (0 : Int32) M_4 H locs ls (lv_sub hl [1, 2, 0] rfl) hP hS hf
def fX4_canBe (x0 : Int32) (x1 : Int32) (x2 : Int32) (M : zM) : Option (Int32 × zM) :=
  zB (fX5_within x0 (0 : Int32) (5 : Int32) M) fun r_3 M_1 =>
  if r_3 = (0 : Int32) then
    some ((0 : Int32), M_1)
  else
    zB (fX5_within x1 (0 : Int32) (9 : Int32) M_1) fun r_7 M_5 =>
    if r_7 = (0 : Int32) then
      some ((0 : Int32), M_5)
    else
      zB (fX5_within x2 (0 : Int32) (999 : Int32) M_5) fun r_11 M_9 =>
      if r_11 = (0 : Int32) then
        some ((0 : Int32), M_9)
      else
        some ((1 : Int32), M_9)
set_option maxHeartbeats 4000000 in
set_option maxRecDepth 100000 in
theorem mtX4_canBe (l : Launch) (G : zGr) (hJ : zJ G 64) (x0 : Int32) (x1 : Int32) (x2 : Int32) (M : zM) (o : Int32 × zM) (hf : fX4_canBe x0 x1 x2 M = some o) : zMi l G shX 64 yX4_canBe cX4_canBe 3 (some .boolean) 1 22 [.int x0, .int x1, .int x2] M o := by
  intro sz
  refine zOf (by decide) (Nat.le_of_ble_eq_true rfl) ?_
  intro p e R Q s m args below meth c hRm hsz hQ C0 hP hS ls hl
  subst hsz
  replace hRm : R = { frames := 1, cells := 0, slots := 0, locals := 22 } := hRm
  have hl : lv_has ls 3 [(0, .int x0), (1, .int x1), (2, .int x2)] := hl
  have hx := C0.1
  have hb := C0.2.1
  have hown := C0.2.2.2.1
  have hts := C0.2.2.2.2.1
  unfold fX4_canBe at hf
  obtain ⟨H, eH⟩ : ∃ H, H = s.heap := ⟨_, rfl⟩
  obtain ⟨locs, el⟩ : ∃ locs : List Loc, locs = [] := ⟨_, rfl⟩
  rw [← eH] at hP ⊢
  have hS : va_S (zA G 64 s.heap.size) s.heap H locs := by rw [eH, el]; exact hS
  rw [← el]
  refine lv_iload_n hx hb dX4_canBe_0 rfl (lv_at hl 0 rfl) ?_
  refine lv_iconst (v := (0 : Int32)) hx hb dX4_canBe_1 (by decide) ?_
  refine lv_iconst (v := (5 : Int32)) hx hb dX4_canBe_2 (by decide) ?_
  obtain ⟨r_3, M_1, hc_2, hf⟩ := zB_o hf
  refine zc_ni (As := [.int x0, .int (0 : Int32), .int (5 : Int32)]) (rest := []) C0 hP hS hl.1 (mtX5_within l G hJ x0 (0 : Int32) (5 : Int32) M _ hc_2) 4 rfl mw_53 mw_51 mw_52 ds_X5_within (by rw [hRm]; exact ⟨Nat.le_of_ble_eq_true rfl, Nat.le_of_ble_eq_true rfl⟩) rfl rfl (Nat.le_of_ble_eq_true rfl) dX4_canBe_3 ⟨Nat.zero_le _, Nat.zero_le _⟩ (fun H locs hP hS => ?_)
  refine lv_if_eq (tgt := 34) hx hb dX4_canBe_6 (by decide) (fun c_4 => ?_) (fun c_4 => ?_)
  · replace hf := zI_t c_4 hf
    refine lv_iconst (v := (0 : Int32)) hx hb dX4_canBe_34 (by decide) ?_
    exact ze_z C0 hP hS (by decide) hf dX4_canBe_35 hQ
  · replace hf := zI_f c_4 hf
    refine lv_iload_n hx hb dX4_canBe_9 rfl (lv_at hl 1 rfl) ?_
    refine lv_iconst (v := (0 : Int32)) hx hb dX4_canBe_10 (by decide) ?_
    refine lv_bipush (v := (9 : Int32)) hx hb dX4_canBe_11 (by decide) ?_
    obtain ⟨r_7, M_5, hc_6, hf⟩ := zB_o hf
    refine zc_ni (As := [.int x1, .int (0 : Int32), .int (9 : Int32)]) (rest := []) C0 hP hS hl.1 (mtX5_within l G hJ x1 (0 : Int32) (9 : Int32) M_1 _ hc_6) 4 rfl mw_53 mw_51 mw_52 ds_X5_within (by rw [hRm]; exact ⟨Nat.le_of_ble_eq_true rfl, Nat.le_of_ble_eq_true rfl⟩) rfl rfl (Nat.le_of_ble_eq_true rfl) dX4_canBe_13 ⟨Nat.zero_le _, Nat.zero_le _⟩ (fun H locs hP hS => ?_)
    refine lv_if_eq (tgt := 34) hx hb dX4_canBe_16 (by decide) (fun c_8 => ?_) (fun c_8 => ?_)
    · replace hf := zI_t c_8 hf
      refine lv_iconst (v := (0 : Int32)) hx hb dX4_canBe_34 (by decide) ?_
      exact ze_z C0 hP hS (by decide) hf dX4_canBe_35 hQ
    · replace hf := zI_f c_8 hf
      refine lv_iload_n hx hb dX4_canBe_19 rfl (lv_at hl 2 rfl) ?_
      refine lv_iconst (v := (0 : Int32)) hx hb dX4_canBe_20 (by decide) ?_
      refine lv_sipush (v := (999 : Int32)) hx hb dX4_canBe_21 (by decide) ?_
      obtain ⟨r_11, M_9, hc_10, hf⟩ := zB_o hf
      refine zc_ni (As := [.int x2, .int (0 : Int32), .int (999 : Int32)]) (rest := []) C0 hP hS hl.1 (mtX5_within l G hJ x2 (0 : Int32) (999 : Int32) M_5 _ hc_10) 4 rfl mw_53 mw_51 mw_52 ds_X5_within (by rw [hRm]; exact ⟨Nat.le_of_ble_eq_true rfl, Nat.le_of_ble_eq_true rfl⟩) rfl rfl (Nat.le_of_ble_eq_true rfl) dX4_canBe_24 ⟨Nat.zero_le _, Nat.zero_le _⟩ (fun H locs hP hS => ?_)
      refine lv_if_eq (tgt := 34) hx hb dX4_canBe_27 (by decide) (fun c_12 => ?_) (fun c_12 => ?_)
      · replace hf := zI_t c_12 hf
        refine lv_iconst (v := (0 : Int32)) hx hb dX4_canBe_34 (by decide) ?_
        exact ze_z C0 hP hS (by decide) hf dX4_canBe_35 hQ
      · replace hf := zI_f c_12 hf
        refine lv_iconst (v := (1 : Int32)) hx hb dX4_canBe_30 (by decide) ?_
        refine lv_goto (tgt := 35) hx hb dX4_canBe_31 (by decide) ?_
        exact ze_z C0 hP hS (by decide) hf dX4_canBe_35 hQ
def fX4_come (w : Nat) (x1 : Int32) (x2 : Int32) (x3 : Int32) (M : zM) : Option (Int32 × zM) :=
  if (M.1 w 7) < (5 : Int32) then
    zG (zin (M.1 w 7) 5) <|
    zL (zu M (w + 1) (M.1 w 7).toNatClampNeg x1) fun M_3 =>
    zG (zin (M_3.1 w 7) 5) <|
    zL (zu M_3 (w + 2) (M_3.1 w 7).toNatClampNeg x2) fun M_5 =>
    zG (zin (M_5.1 w 7) 5) <|
    zL (zu M_5 (w + 3) (M_5.1 w 7).toNatClampNeg x3) fun M_7 =>
    zG (zin (M_7.1 w 7) 5) <|
    zL (zu M_7 (w + 4) (M_7.1 w 7).toNatClampNeg (0 : Int32)) fun M_9 =>
    zL (zu M_9 w 7 ((M_9.1 w 7) + (1 : Int32))) fun M_10 =>
    some (((M_10.1 w 7) - (1 : Int32)), M_10)
  else
    some ((-4 : Int32), M)
set_option maxHeartbeats 4000000 in
set_option maxRecDepth 100000 in
theorem mtX4_come (l : Launch) (G : zGr) (hJ : zJ G 64) (w : Nat) (hw : isW w) (x1 : Int32) (x2 : Int32) (x3 : Int32) (M : zM) (o : Int32 × zM) (hf : fX4_come w x1 x2 x3 M = some o) : zMi l G shX 64 yX4_come cX4_come 4 (some .int) 0 0 [.ref (G.2.2.1 w), .int x1, .int x2, .int x3] M o := by
  intro sz
  refine zOf (by decide) (Nat.le_of_ble_eq_true rfl) ?_
  intro p e R Q s m args below meth c hRm hsz hQ C0 hP hS ls hl
  subst hsz
  replace hRm : R = { frames := 0, cells := 0, slots := 0, locals := 0 } := hRm
  have hl : lv_has ls 4 [(0, .ref (G.2.2.1 w)), (1, .int x1), (2, .int x2), (3, .int x3)] := hl
  have hx := C0.1
  have hb := C0.2.1
  have hown := C0.2.2.2.1
  have hts := C0.2.2.2.2.1
  unfold fX4_come at hf
  obtain ⟨H, eH⟩ : ∃ H, H = s.heap := ⟨_, rfl⟩
  obtain ⟨locs, el⟩ : ∃ locs : List Loc, locs = [] := ⟨_, rfl⟩
  rw [← eH] at hP ⊢
  have hS : va_S (zA G 64 s.heap.size) s.heap H locs := by rw [eH, el]; exact hS
  rw [← el]
  refine lv_aload_n hx hb dX4_come_0 rfl (lv_at hl 0 rfl) ?_
  refine zr_get (C := RX4) (T := TX4) (n := 11) C0 hP w (isW_lt hw) (isW_s hw) 7 rfl (by decide) uw_X4 mw_77 rfl dX4_come_1 ?_
  refine lv_iconst (v := (5 : Int32)) hx hb dX4_come_4 (by decide) ?_
  refine lv_icmp_lt (tgt := 11) hx hb dX4_come_5 (by decide) (fun c_1 => ?_) (fun c_1 => ?_)
  · replace hf := zI_t c_1 hf
    refine lv_aload_n hx hb dX4_come_11 rfl (lv_at hl 0 rfl) ?_
    refine zr_getq (C := RX4) (T := TX4) (n := 11) C0 hP w (isW_lt hw) (isW_s hw) 1 (w + 1) rfl (by decide) uw_X4 mw_96 rfl dX4_come_12 ?_
    refine lv_aload_n hx hb dX4_come_15 rfl (lv_at hl 0 rfl) ?_
    refine zr_get (C := RX4) (T := TX4) (n := 11) C0 hP w (isW_lt hw) (isW_s hw) 7 rfl (by decide) uw_X4 mw_77 rfl dX4_come_16 ?_
    refine lv_iload_n hx hb dX4_come_19 rfl (lv_at hl 1 rfl) ?_
    obtain ⟨hg_2, hf⟩ := zG_o hf
    refine zr_iast C0 hJ hP hS (w + 1) (isW_lt1 hw) (isW_s1 hw) hg_2 dX4_come_20 (fun H locs hP hS => ?_)
    obtain ⟨M_3, eM_3, hf⟩ := zL_o hf
    have hP : va_P G.1 zcl (zw G shX 64 M_3) H := by rw [eM_3]; exact hP
    refine lv_aload_n hx hb dX4_come_21 rfl (lv_at hl 0 rfl) ?_
    refine zr_getq (C := RX4) (T := TX4) (n := 11) C0 hP w (isW_lt hw) (isW_s hw) 2 (w + 2) rfl (by decide) uw_X4 mw_83 rfl dX4_come_22 ?_
    refine lv_aload_n hx hb dX4_come_25 rfl (lv_at hl 0 rfl) ?_
    refine zr_get (C := RX4) (T := TX4) (n := 11) C0 hP w (isW_lt hw) (isW_s hw) 7 rfl (by decide) uw_X4 mw_77 rfl dX4_come_26 ?_
    refine lv_iload_n hx hb dX4_come_29 rfl (lv_at hl 2 rfl) ?_
    obtain ⟨hg_4, hf⟩ := zG_o hf
    refine zr_iast C0 hJ hP hS (w + 2) (isW_lt2 hw) (isW_s2 hw) hg_4 dX4_come_30 (fun H locs hP hS => ?_)
    obtain ⟨M_5, eM_5, hf⟩ := zL_o hf
    have hP : va_P G.1 zcl (zw G shX 64 M_5) H := by rw [eM_5]; exact hP
    refine lv_aload_n hx hb dX4_come_31 rfl (lv_at hl 0 rfl) ?_
    refine zr_getq (C := RX4) (T := TX4) (n := 11) C0 hP w (isW_lt hw) (isW_s hw) 3 (w + 3) rfl (by decide) uw_X4 mw_78 rfl dX4_come_32 ?_
    refine lv_aload_n hx hb dX4_come_35 rfl (lv_at hl 0 rfl) ?_
    refine zr_get (C := RX4) (T := TX4) (n := 11) C0 hP w (isW_lt hw) (isW_s hw) 7 rfl (by decide) uw_X4 mw_77 rfl dX4_come_36 ?_
    refine lv_iload_n hx hb dX4_come_39 rfl (lv_at hl 3 rfl) ?_
    obtain ⟨hg_6, hf⟩ := zG_o hf
    refine zr_iast C0 hJ hP hS (w + 3) (isW_lt3 hw) (isW_s3 hw) hg_6 dX4_come_40 (fun H locs hP hS => ?_)
    obtain ⟨M_7, eM_7, hf⟩ := zL_o hf
    have hP : va_P G.1 zcl (zw G shX 64 M_7) H := by rw [eM_7]; exact hP
    refine lv_aload_n hx hb dX4_come_41 rfl (lv_at hl 0 rfl) ?_
    refine zr_getq (C := RX4) (T := TX4) (n := 11) C0 hP w (isW_lt hw) (isW_s hw) 4 (w + 4) rfl (by decide) uw_X4 mw_86 rfl dX4_come_42 ?_
    refine lv_aload_n hx hb dX4_come_45 rfl (lv_at hl 0 rfl) ?_
    refine zr_get (C := RX4) (T := TX4) (n := 11) C0 hP w (isW_lt hw) (isW_s hw) 7 rfl (by decide) uw_X4 mw_77 rfl dX4_come_46 ?_
    refine lv_iconst (v := (0 : Int32)) hx hb dX4_come_49 (by decide) ?_
    obtain ⟨hg_8, hf⟩ := zG_o hf
    refine zr_iast C0 hJ hP hS (w + 4) (isW_lt4 hw) (isW_s4 hw) hg_8 dX4_come_50 (fun H locs hP hS => ?_)
    obtain ⟨M_9, eM_9, hf⟩ := zL_o hf
    have hP : va_P G.1 zcl (zw G shX 64 M_9) H := by rw [eM_9]; exact hP
    refine lv_aload_n hx hb dX4_come_51 rfl (lv_at hl 0 rfl) ?_
    refine lv_dup hx hb dX4_come_52 rfl ?_
    refine zr_get (C := RX4) (T := TX4) (n := 11) C0 hP w (isW_lt hw) (isW_s hw) 7 rfl (by decide) uw_X4 mw_77 rfl dX4_come_53 ?_
    refine lv_iconst (v := (1 : Int32)) hx hb dX4_come_56 (by decide) ?_
    refine lv_iadd hx hb dX4_come_57 ?_
    refine zr_put (C := RX4) (T := TX4) (n := 11) C0 hJ hP hS w (isW_lt hw) (isW_s hw) 7 rfl (by decide) uw_X4 tyX4 tyX4_ok nmX4 mw_77 rfl rfl ⟨rfl, rfl⟩ dX4_come_58 (fun H locs hP hS => ?_)
    obtain ⟨M_10, eM_10, hf⟩ := zL_o hf
    have hP : va_P G.1 zcl (zw G shX 64 M_10) H := by rw [eM_10]; exact hP
    refine lv_aload_n hx hb dX4_come_61 rfl (lv_at hl 0 rfl) ?_
    refine zr_get (C := RX4) (T := TX4) (n := 11) C0 hP w (isW_lt hw) (isW_s hw) 7 rfl (by decide) uw_X4 mw_77 rfl dX4_come_62 ?_
    refine lv_iconst (v := (1 : Int32)) hx hb dX4_come_65 (by decide) ?_
    refine lv_isub hx hb dX4_come_66 ?_
    exact ze_i C0 hP hS hf dX4_come_67 hQ
  · replace hf := zI_f c_1 hf
    refine lv_bipush (v := (-4 : Int32)) hx hb dX4_come_8 (by decide) ?_
    exact ze_i C0 hP hS hf dX4_come_10 hQ
def fX4_has (w : Nat) (x1 : Int32) (M : zM) : Option (Int32 × zM) :=
  if x1 < (0 : Int32) then
    some ((0 : Int32), M)
  else
    if (M.1 w 7) ≤ x1 then
      some ((0 : Int32), M)
    else
      some ((1 : Int32), M)
set_option maxHeartbeats 4000000 in
set_option maxRecDepth 100000 in
theorem mtX4_has (l : Launch) (G : zGr) (hJ : zJ G 64) (w : Nat) (hw : isW w) (x1 : Int32) (M : zM) (o : Int32 × zM) (hf : fX4_has w x1 M = some o) : zMi l G shX 64 yX4_has cX4_has 2 (some .boolean) 0 0 [.ref (G.2.2.1 w), .int x1] M o := by
  intro sz
  refine zOf (by decide) (Nat.le_of_ble_eq_true rfl) ?_
  intro p e R Q s m args below meth c hRm hsz hQ C0 hP hS ls hl
  subst hsz
  replace hRm : R = { frames := 0, cells := 0, slots := 0, locals := 0 } := hRm
  have hl : lv_has ls 2 [(0, .ref (G.2.2.1 w)), (1, .int x1)] := hl
  have hx := C0.1
  have hb := C0.2.1
  have hown := C0.2.2.2.1
  have hts := C0.2.2.2.2.1
  unfold fX4_has at hf
  obtain ⟨H, eH⟩ : ∃ H, H = s.heap := ⟨_, rfl⟩
  obtain ⟨locs, el⟩ : ∃ locs : List Loc, locs = [] := ⟨_, rfl⟩
  rw [← eH] at hP ⊢
  have hS : va_S (zA G 64 s.heap.size) s.heap H locs := by rw [eH, el]; exact hS
  rw [← el]
  refine lv_iload_n hx hb dX4_has_0 rfl (lv_at hl 1 rfl) ?_
  refine lv_if_lt (tgt := 16) hx hb dX4_has_1 (by decide) (fun c_1 => ?_) (fun c_1 => ?_)
  · replace hf := zI_t c_1 hf
    refine lv_iconst (v := (0 : Int32)) hx hb dX4_has_16 (by decide) ?_
    exact ze_z C0 hP hS (by decide) hf dX4_has_17 hQ
  · replace hf := zI_f c_1 hf
    refine lv_iload_n hx hb dX4_has_4 rfl (lv_at hl 1 rfl) ?_
    refine lv_aload_n hx hb dX4_has_5 rfl (lv_at hl 0 rfl) ?_
    refine zr_get (C := RX4) (T := TX4) (n := 11) C0 hP w (isW_lt hw) (isW_s hw) 7 rfl (by decide) uw_X4 mw_77 rfl dX4_has_6 ?_
    refine lv_icmp_ge (tgt := 16) hx hb dX4_has_9 (by decide) (fun c_2 => ?_) (fun c_2 => ?_)
    · replace hf := zI_t c_2 hf
      refine lv_iconst (v := (0 : Int32)) hx hb dX4_has_16 (by decide) ?_
      exact ze_z C0 hP hS (by decide) hf dX4_has_17 hQ
    · replace hf := zI_f c_2 hf
      refine lv_iconst (v := (1 : Int32)) hx hb dX4_has_12 (by decide) ?_
      refine lv_goto (tgt := 17) hx hb dX4_has_13 (by decide) ?_
      exact ze_z C0 hP hS (by decide) hf dX4_has_17 hQ
def fX4_runsOf_J123 (w : Nat) (x3 : Int32) (M : zM) : Option (Int32 × zM) :=
  zB (fX5_bounded x3 (0 : Int32) (9 : Int32) M) fun r_12 M_10 =>
  some (r_12, M_10)
def fX4_runsOf (w : Nat) (x1 : Int32) (M : zM) : Option (Int32 × zM) :=
  zB (fX4_ruleTells w (0 : Int32) x1 M) fun r_3 M_1 =>
  zB (fX5_bounded r_3 (0 : Int32) (99 : Int32) M_1) fun r_6 M_4 =>
  zG (zin x1 5) <|
  if (M_4.1 (w + 1) x1.toNatClampNeg) = (1 : Int32) then
    zL (r_6 + (1 : Int32)) fun x3_9 =>
    fX4_runsOf_J123 w x3_9 M_4
  else
    if (M_4.1 (w + 1) x1.toNatClampNeg) = (2 : Int32) then
      zL (r_6 / (2 : Int32)) fun x3_14 =>
      fX4_runsOf_J123 w x3_14 M_4
    else
      if (M_4.1 (w + 1) x1.toNatClampNeg) = (3 : Int32) then
        zG (zin x1 5) <|
        zL ((r_6 + (1 : Int32)) - ((M_4.1 (w + 4) x1.toNatClampNeg) / (10 : Int32))) fun x3_17 =>
        fX4_runsOf_J123 w x3_17 M_4
      else
        if (M_4.1 (w + 1) x1.toNatClampNeg) = (4 : Int32) then
          zG (zin x1 5) <|
          if (zrm (M_4.1 w 8) (7 : Int32)) = (M_4.1 (w + 2) x1.toNatClampNeg) then
            fX4_runsOf_J123 w (9 : Int32) M_4
          else
            zL (r_6 / (2 : Int32)) fun x3_21 =>
            fX4_runsOf_J123 w x3_21 M_4
        else
          if (M_4.1 (w + 1) x1.toNatClampNeg) = (5 : Int32) then
            zG (zin x1 5) <|
            zL (M_4.1 (w + 2) x1.toNatClampNeg) fun x3_24 =>
            fX4_runsOf_J123 w x3_24 M_4
          else
            fX4_runsOf_J123 w r_6 M_4
set_option maxHeartbeats 4000000 in
set_option maxRecDepth 100000 in
theorem mtX4_runsOf (l : Launch) (G : zGr) (hJ : zJ G 64) (w : Nat) (hw : isW w) (x1 : Int32) (M : zM) (o : Int32 × zM) (hf : fX4_runsOf w x1 M = some o) : zMi l G shX 64 yX4_runsOf cX4_runsOf 4 (some .int) 3 70 [.ref (G.2.2.1 w), .int x1] M o := by
  intro sz
  refine zOf (by decide) (Nat.le_of_ble_eq_true rfl) ?_
  intro p e R Q s m args below meth c hRm hsz hQ C0 hP hS ls hl
  subst hsz
  replace hRm : R = { frames := 3, cells := 0, slots := 0, locals := 70 } := hRm
  have hl : lv_has ls 4 [(0, .ref (G.2.2.1 w)), (1, .int x1)] := hl
  have hx := C0.1
  have hb := C0.2.1
  have hown := C0.2.2.2.1
  have hts := C0.2.2.2.2.1
  have J123 : ∀ (x3 : Int32) (M : zM) (H : Heap) (locs : List Loc) (ls : Array Slot), lv_has ls 4 [(3, .int x3)] → va_P G.1 zcl (zw G shX 64 M) H → va_S (zA G 64 s.heap.size) s.heap H locs → fX4_runsOf_J123 w x3 M = some o → W p l e R s m args below meth c H locs 0 0 Q (F0 m 123 ls []) := by
    intro x3 M H locs ls hl hP hS hf
    unfold fX4_runsOf_J123 at hf
    refine lv_iload_n hx hb dX4_runsOf_123 rfl (lv_at hl 0 rfl) ?_
    refine lv_iconst (v := (0 : Int32)) hx hb dX4_runsOf_124 (by decide) ?_
    refine lv_bipush (v := (9 : Int32)) hx hb dX4_runsOf_125 (by decide) ?_
    obtain ⟨r_12, M_10, hc_11, hf⟩ := zB_o hf
    refine zc_ni (As := [.int x3, .int (0 : Int32), .int (9 : Int32)]) (rest := []) C0 hP hS hl.1 (mtX5_bounded l G hJ x3 (0 : Int32) (9 : Int32) M _ hc_11) 5 rfl mw_101 mw_51 mw_102 ds_X5_bounded (by rw [hRm]; exact ⟨Nat.le_of_ble_eq_true rfl, Nat.le_of_ble_eq_true rfl⟩) rfl rfl (Nat.le_of_ble_eq_true rfl) dX4_runsOf_127 ⟨Nat.zero_le _, Nat.zero_le _⟩ (fun H locs hP hS => ?_)
    exact ze_i C0 hP hS hf dX4_runsOf_130 hQ
  unfold fX4_runsOf at hf
  obtain ⟨H, eH⟩ : ∃ H, H = s.heap := ⟨_, rfl⟩
  obtain ⟨locs, el⟩ : ∃ locs : List Loc, locs = [] := ⟨_, rfl⟩
  rw [← eH] at hP ⊢
  have hS : va_S (zA G 64 s.heap.size) s.heap H locs := by rw [eH, el]; exact hS
  rw [← el]
  refine lv_aload_n hx hb dX4_runsOf_0 rfl (lv_at hl 0 rfl) ?_
  refine lv_iconst (v := (0 : Int32)) hx hb dX4_runsOf_1 (by decide) ?_
  refine lv_iload_n hx hb dX4_runsOf_2 rfl (lv_at hl 1 rfl) ?_
  obtain ⟨r_3, M_1, hc_2, hf⟩ := zB_o hf
  refine zc_vi (As := [.int (0 : Int32), .int x1]) (rest := []) C0 hP hS hl.1 w (mtX4_ruleTells l G hJ w hw (0 : Int32) x1 M _ hc_2) lk_X4_51 (isW_lt hw) (isW_s hw) (T := TX4) (n' := 11) rfl ds_X4_ruleTells (by rw [hRm]; exact ⟨Nat.le_of_ble_eq_true rfl, Nat.le_of_ble_eq_true rfl⟩) rfl rfl (Nat.le_of_ble_eq_true rfl) dX4_runsOf_3 ⟨Nat.zero_le _, Nat.zero_le _⟩ (fun H locs hP hS => ?_)
  refine lv_iconst (v := (0 : Int32)) hx hb dX4_runsOf_6 (by decide) ?_
  refine lv_bipush (v := (99 : Int32)) hx hb dX4_runsOf_7 (by decide) ?_
  obtain ⟨r_6, M_4, hc_5, hf⟩ := zB_o hf
  refine zc_ni (As := [.int r_3, .int (0 : Int32), .int (99 : Int32)]) (rest := []) C0 hP hS hl.1 (mtX5_bounded l G hJ r_3 (0 : Int32) (99 : Int32) M_1 _ hc_5) 5 rfl mw_101 mw_51 mw_102 ds_X5_bounded (by rw [hRm]; exact ⟨Nat.le_of_ble_eq_true rfl, Nat.le_of_ble_eq_true rfl⟩) rfl rfl (Nat.le_of_ble_eq_true rfl) dX4_runsOf_9 ⟨Nat.zero_le _, Nat.zero_le _⟩ (fun H locs hP hS => ?_)
  refine lv_istore_n (lv' := [(2, .int r_6), (0, .ref (G.2.2.1 w)), (1, .int x1)]) hx hb dX4_runsOf_12 rfl hl (by decide) rfl (fun ls hl => ?_)
  refine lv_aload_n hx hb dX4_runsOf_13 rfl (lv_at hl 1 rfl) ?_
  refine zr_getq (C := RX4) (T := TX4) (n := 11) C0 hP w (isW_lt hw) (isW_s hw) 1 (w + 1) rfl (by decide) uw_X4 mw_96 rfl dX4_runsOf_14 ?_
  refine lv_iload_n hx hb dX4_runsOf_17 rfl (lv_at hl 2 rfl) ?_
  obtain ⟨hg_7, hf⟩ := zG_o hf
  refine zr_iald C0 hP (w + 1) (isW_lt1 hw) (isW_s1 hw) hg_7 dX4_runsOf_18 ?_
  refine if c_8 : (M_4.1 (w + 1) x1.toNatClampNeg) = (1 : Int32) then ?_ else ?_
  · replace hf := zI_t c_8 hf
    refine lv_tableIn (tgt := 52) hx hb dX4_runsOf_19 (by rw [c_8]; decide) (by rw [c_8]; decide) (off := 33) (by rw [c_8]; decide) (by decide) ?_
    refine lv_iload_n hx hb dX4_runsOf_52 rfl (lv_at hl 0 rfl) ?_
    refine lv_iconst (v := (1 : Int32)) hx hb dX4_runsOf_53 (by decide) ?_
    refine lv_iadd hx hb dX4_runsOf_54 ?_
    refine lv_topi (fun x3_9 ex3_9 => ?_)
    replace hf := zL_e ex3_9 hf
    refine lv_istore_n (lv' := [(3, .int x3_9), (2, .int r_6), (0, .ref (G.2.2.1 w)), (1, .int x1)]) hx hb dX4_runsOf_55 rfl hl (by decide) rfl (fun ls hl => ?_)
    refine lv_goto (tgt := 123) hx hb dX4_runsOf_56 (by decide) ?_
    exact J123 x3_9 M_4 H locs ls (lv_sub hl [0] rfl) hP hS hf
  · replace hf := zI_f c_8 hf
    refine if c_13 : (M_4.1 (w + 1) x1.toNatClampNeg) = (2 : Int32) then ?_ else ?_
    · replace hf := zI_t c_13 hf
      refine lv_tableIn (tgt := 59) hx hb dX4_runsOf_19 (by rw [c_13]; decide) (by rw [c_13]; decide) (off := 40) (by rw [c_13]; decide) (by decide) ?_
      refine lv_iload_n hx hb dX4_runsOf_59 rfl (lv_at hl 0 rfl) ?_
      refine lv_iconst (v := (2 : Int32)) hx hb dX4_runsOf_60 (by decide) ?_
      refine lv_idiv hx hb dX4_runsOf_61 (by decide) ?_
      refine lv_topi (fun x3_14 ex3_14 => ?_)
      replace hf := zL_e ex3_14 hf
      refine lv_istore_n (lv' := [(3, .int x3_14), (2, .int r_6), (0, .ref (G.2.2.1 w)), (1, .int x1)]) hx hb dX4_runsOf_62 rfl hl (by decide) rfl (fun ls hl => ?_)
      refine lv_goto (tgt := 123) hx hb dX4_runsOf_63 (by decide) ?_
      exact J123 x3_14 M_4 H locs ls (lv_sub hl [0] rfl) hP hS hf
    · replace hf := zI_f c_13 hf
      refine if c_15 : (M_4.1 (w + 1) x1.toNatClampNeg) = (3 : Int32) then ?_ else ?_
      · replace hf := zI_t c_15 hf
        refine lv_tableIn (tgt := 66) hx hb dX4_runsOf_19 (by rw [c_15]; decide) (by rw [c_15]; decide) (off := 47) (by rw [c_15]; decide) (by decide) ?_
        refine lv_iload_n hx hb dX4_runsOf_66 rfl (lv_at hl 0 rfl) ?_
        refine lv_iconst (v := (1 : Int32)) hx hb dX4_runsOf_67 (by decide) ?_
        refine lv_iadd hx hb dX4_runsOf_68 ?_
        refine lv_aload_n hx hb dX4_runsOf_69 rfl (lv_at hl 1 rfl) ?_
        refine zr_getq (C := RX4) (T := TX4) (n := 11) C0 hP w (isW_lt hw) (isW_s hw) 4 (w + 4) rfl (by decide) uw_X4 mw_86 rfl dX4_runsOf_70 ?_
        refine lv_iload_n hx hb dX4_runsOf_73 rfl (lv_at hl 2 rfl) ?_
        obtain ⟨hg_16, hf⟩ := zG_o hf
        refine zr_iald C0 hP (w + 4) (isW_lt4 hw) (isW_s4 hw) hg_16 dX4_runsOf_74 ?_
        refine lv_bipush (v := (10 : Int32)) hx hb dX4_runsOf_75 (by decide) ?_
        refine lv_idiv hx hb dX4_runsOf_77 (by decide) ?_
        refine lv_isub hx hb dX4_runsOf_78 ?_
        refine lv_topi (fun x3_17 ex3_17 => ?_)
        replace hf := zL_e ex3_17 hf
        refine lv_istore_n (lv' := [(3, .int x3_17), (2, .int r_6), (0, .ref (G.2.2.1 w)), (1, .int x1)]) hx hb dX4_runsOf_79 rfl hl (by decide) rfl (fun ls hl => ?_)
        refine lv_goto (tgt := 123) hx hb dX4_runsOf_80 (by decide) ?_
        exact J123 x3_17 M_4 H locs ls (lv_sub hl [0] rfl) hP hS hf
      · replace hf := zI_f c_15 hf
        refine if c_18 : (M_4.1 (w + 1) x1.toNatClampNeg) = (4 : Int32) then ?_ else ?_
        · replace hf := zI_t c_18 hf
          refine lv_tableIn (tgt := 83) hx hb dX4_runsOf_19 (by rw [c_18]; decide) (by rw [c_18]; decide) (off := 64) (by rw [c_18]; decide) (by decide) ?_
          refine lv_aload_n hx hb dX4_runsOf_83 rfl (lv_at hl 1 rfl) ?_
          refine zr_get (C := RX4) (T := TX4) (n := 11) C0 hP w (isW_lt hw) (isW_s hw) 8 rfl (by decide) uw_X4 mw_85 rfl dX4_runsOf_84 ?_
          refine lv_bipush (v := (7 : Int32)) hx hb dX4_runsOf_87 (by decide) ?_
          refine zo_irem hx hb dX4_runsOf_89 (by decide) ?_
          refine lv_aload_n hx hb dX4_runsOf_90 rfl (lv_at hl 1 rfl) ?_
          refine zr_getq (C := RX4) (T := TX4) (n := 11) C0 hP w (isW_lt hw) (isW_s hw) 2 (w + 2) rfl (by decide) uw_X4 mw_83 rfl dX4_runsOf_91 ?_
          refine lv_iload_n hx hb dX4_runsOf_94 rfl (lv_at hl 2 rfl) ?_
          obtain ⟨hg_19, hf⟩ := zG_o hf
          refine zr_iald C0 hP (w + 2) (isW_lt2 hw) (isW_s2 hw) hg_19 dX4_runsOf_95 ?_
          refine lv_icmp_ne (tgt := 104) hx hb dX4_runsOf_96 (by decide) (fun c_20 => ?_) (fun c_20 => ?_)
          · replace hf := zI_f c_20 hf
            refine lv_iload_n hx hb dX4_runsOf_104 rfl (lv_at hl 0 rfl) ?_
            refine lv_iconst (v := (2 : Int32)) hx hb dX4_runsOf_105 (by decide) ?_
            refine lv_idiv hx hb dX4_runsOf_106 (by decide) ?_
            refine lv_topi (fun x3_21 ex3_21 => ?_)
            replace hf := zL_e ex3_21 hf
            refine lv_istore_n (lv' := [(3, .int x3_21), (2, .int r_6), (0, .ref (G.2.2.1 w)), (1, .int x1)]) hx hb dX4_runsOf_107 rfl hl (by decide) rfl (fun ls hl => ?_)
            refine lv_goto (tgt := 123) hx hb dX4_runsOf_108 (by decide) ?_
            exact J123 x3_21 M_4 H locs ls (lv_sub hl [0] rfl) hP hS hf
          · replace hf := zI_t c_20 hf
            refine lv_bipush (v := (9 : Int32)) hx hb dX4_runsOf_99 (by decide) ?_
            refine lv_goto (tgt := 107) hx hb dX4_runsOf_101 (by decide) ?_
            refine lv_istore_n (lv' := [(3, .int (9 : Int32)), (2, .int r_6), (0, .ref (G.2.2.1 w)), (1, .int x1)]) hx hb dX4_runsOf_107 rfl hl (by decide) rfl (fun ls hl => ?_)
            refine lv_goto (tgt := 123) hx hb dX4_runsOf_108 (by decide) ?_
            exact J123 (9 : Int32) M_4 H locs ls (lv_sub hl [0] rfl) hP hS hf
        · replace hf := zI_f c_18 hf
          refine if c_22 : (M_4.1 (w + 1) x1.toNatClampNeg) = (5 : Int32) then ?_ else ?_
          · replace hf := zI_t c_22 hf
            refine lv_tableIn (tgt := 111) hx hb dX4_runsOf_19 (by rw [c_22]; decide) (by rw [c_22]; decide) (off := 92) (by rw [c_22]; decide) (by decide) ?_
            refine lv_aload_n hx hb dX4_runsOf_111 rfl (lv_at hl 1 rfl) ?_
            refine zr_getq (C := RX4) (T := TX4) (n := 11) C0 hP w (isW_lt hw) (isW_s hw) 2 (w + 2) rfl (by decide) uw_X4 mw_83 rfl dX4_runsOf_112 ?_
            refine lv_iload_n hx hb dX4_runsOf_115 rfl (lv_at hl 2 rfl) ?_
            obtain ⟨hg_23, hf⟩ := zG_o hf
            refine zr_iald C0 hP (w + 2) (isW_lt2 hw) (isW_s2 hw) hg_23 dX4_runsOf_116 ?_
            refine lv_topi (fun x3_24 ex3_24 => ?_)
            replace hf := zL_e ex3_24 hf
            refine lv_istore_n (lv' := [(3, .int x3_24), (2, .int r_6), (0, .ref (G.2.2.1 w)), (1, .int x1)]) hx hb dX4_runsOf_117 rfl hl (by decide) rfl (fun ls hl => ?_)
            refine lv_goto (tgt := 123) hx hb dX4_runsOf_118 (by decide) ?_
            exact J123 x3_24 M_4 H locs ls (lv_sub hl [0] rfl) hP hS hf
          · replace hf := zI_f c_22 hf
            have tc_8 := lv_neT (a := 1) c_8 (by decide)
            have tc_13 := lv_neT (a := 2) c_13 (by decide)
            have tc_15 := lv_neT (a := 3) c_15 (by decide)
            have tc_18 := lv_neT (a := 4) c_18 (by decide)
            have tc_22 := lv_neT (a := 5) c_22 (by decide)
            refine lv_tableOut (tgt := 121) hx hb dX4_runsOf_19 (by omega) (by decide) ?_
            refine lv_iload_n hx hb dX4_runsOf_121 rfl (lv_at hl 0 rfl) ?_
            refine lv_istore_n (lv' := [(3, .int r_6), (2, .int r_6), (0, .ref (G.2.2.1 w)), (1, .int x1)]) hx hb dX4_runsOf_122 rfl hl (by decide) rfl (fun ls hl => ?_)
            exact J123 r_6 M_4 H locs ls (lv_sub hl [0] rfl) hP hS hf
def fX4_clogsOf_J14 (w : Nat) (x1 : Int32) (v0 : Int32) (M : zM) : Option (Int32 × zM) :=
  zG (zin x1 5) <|
  if (M.1 (w + 1) x1.toNatClampNeg) = (1 : Int32) then
    if v0 = (0 : Int32) then
      some ((0 : Int32), M)
    else
      if (M.1 w 9) ≤ (3 : Int32) then
        some ((0 : Int32), M)
      else
        some ((1 : Int32), M)
  else
    if (M.1 (w + 1) x1.toNatClampNeg) = (2 : Int32) then
      some ((0 : Int32), M)
    else
      if (M.1 (w + 1) x1.toNatClampNeg) = (3 : Int32) then
        if v0 = (0 : Int32) then
          zG (zin x1 5) <|
          if (M.1 (w + 4) x1.toNatClampNeg) ≤ (50 : Int32) then
            some ((0 : Int32), M)
          else
            some ((1 : Int32), M)
        else
          if (3 : Int32) < (M.1 w 9) then
            some ((1 : Int32), M)
          else
            zG (zin x1 5) <|
            if (M.1 (w + 4) x1.toNatClampNeg) ≤ (50 : Int32) then
              some ((0 : Int32), M)
            else
              some ((1 : Int32), M)
      else
        if (M.1 (w + 1) x1.toNatClampNeg) = (4 : Int32) then
          some ((0 : Int32), M)
        else
          zG (zbo v0) <|
          some (v0, M)
def fX4_clogsOf (w : Nat) (x1 : Int32) (M : zM) : Option (Int32 × zM) :=
  zB (fX4_ruleTells w (1 : Int32) x1 M) fun r_3 M_1 =>
  if r_3 = (0 : Int32) then
    fX4_clogsOf_J14 w x1 (0 : Int32) M_1
  else
    fX4_clogsOf_J14 w x1 (1 : Int32) M_1
set_option maxHeartbeats 4000000 in
set_option maxRecDepth 100000 in
theorem mtX4_clogsOf (l : Launch) (G : zGr) (hJ : zJ G 64) (w : Nat) (hw : isW w) (x1 : Int32) (M : zM) (o : Int32 × zM) (hf : fX4_clogsOf w x1 M = some o) : zMi l G shX 64 yX4_clogsOf cX4_clogsOf 3 (some .boolean) 3 70 [.ref (G.2.2.1 w), .int x1] M o := by
  intro sz
  refine zOf (by decide) (Nat.le_of_ble_eq_true rfl) ?_
  intro p e R Q s m args below meth c hRm hsz hQ C0 hP hS ls hl
  subst hsz
  replace hRm : R = { frames := 3, cells := 0, slots := 0, locals := 70 } := hRm
  have hl : lv_has ls 3 [(0, .ref (G.2.2.1 w)), (1, .int x1)] := hl
  have hx := C0.1
  have hb := C0.2.1
  have hown := C0.2.2.2.1
  have hts := C0.2.2.2.2.1
  have J14 : ∀ (x1 : Int32) (v0 : Int32) (M : zM) (H : Heap) (locs : List Loc) (ls : Array Slot), lv_has ls 3 [(0, .ref (G.2.2.1 w)), (1, .int x1)] → va_P G.1 zcl (zw G shX 64 M) H → va_S (zA G 64 s.heap.size) s.heap H locs → fX4_clogsOf_J14 w x1 v0 M = some o → W p l e R s m args below meth c H locs 0 0 Q (F0 m 14 ls [.int v0]) := by
    intro x1 v0 M H locs ls hl hP hS hf
    unfold fX4_clogsOf_J14 at hf
    refine lv_istore_n (lv' := [(2, .int v0), (0, .ref (G.2.2.1 w)), (1, .int x1)]) hx hb dX4_clogsOf_14 rfl hl (by decide) rfl (fun ls hl => ?_)
    refine lv_aload_n hx hb dX4_clogsOf_15 rfl (lv_at hl 1 rfl) ?_
    refine zr_getq (C := RX4) (T := TX4) (n := 11) C0 hP w (isW_lt hw) (isW_s hw) 1 (w + 1) rfl (by decide) uw_X4 mw_96 rfl dX4_clogsOf_16 ?_
    refine lv_iload_n hx hb dX4_clogsOf_19 rfl (lv_at hl 2 rfl) ?_
    obtain ⟨hg_5, hf⟩ := zG_o hf
    refine zr_iald C0 hP (w + 1) (isW_lt1 hw) (isW_s1 hw) hg_5 dX4_clogsOf_20 ?_
    refine if c_6 : (M.1 (w + 1) x1.toNatClampNeg) = (1 : Int32) then ?_ else ?_
    · replace hf := zI_t c_6 hf
      refine lv_tableIn (tgt := 52) hx hb dX4_clogsOf_21 (by rw [c_6]; decide) (by rw [c_6]; decide) (off := 31) (by rw [c_6]; decide) (by decide) ?_
      refine lv_iload_n hx hb dX4_clogsOf_52 rfl (lv_at hl 0 rfl) ?_
      refine lv_if_eq (tgt := 68) hx hb dX4_clogsOf_53 (by decide) (fun c_7 => ?_) (fun c_7 => ?_)
      · replace hf := zI_t c_7 hf
        refine lv_iconst (v := (0 : Int32)) hx hb dX4_clogsOf_68 (by decide) ?_
        exact ze_z C0 hP hS (by decide) hf dX4_clogsOf_69 hQ
      · replace hf := zI_f c_7 hf
        refine lv_aload_n hx hb dX4_clogsOf_56 rfl (lv_at hl 1 rfl) ?_
        refine zr_get (C := RX4) (T := TX4) (n := 11) C0 hP w (isW_lt hw) (isW_s hw) 9 rfl (by decide) uw_X4 mw_84 rfl dX4_clogsOf_57 ?_
        refine lv_iconst (v := (3 : Int32)) hx hb dX4_clogsOf_60 (by decide) ?_
        refine lv_icmp_le (tgt := 68) hx hb dX4_clogsOf_61 (by decide) (fun c_8 => ?_) (fun c_8 => ?_)
        · replace hf := zI_t c_8 hf
          refine lv_iconst (v := (0 : Int32)) hx hb dX4_clogsOf_68 (by decide) ?_
          exact ze_z C0 hP hS (by decide) hf dX4_clogsOf_69 hQ
        · replace hf := zI_f c_8 hf
          refine lv_iconst (v := (1 : Int32)) hx hb dX4_clogsOf_64 (by decide) ?_
          refine lv_goto (tgt := 69) hx hb dX4_clogsOf_65 (by decide) ?_
          exact ze_z C0 hP hS (by decide) hf dX4_clogsOf_69 hQ
    · replace hf := zI_f c_6 hf
      refine if c_9 : (M.1 (w + 1) x1.toNatClampNeg) = (2 : Int32) then ?_ else ?_
      · replace hf := zI_t c_9 hf
        refine lv_tableIn (tgt := 99) hx hb dX4_clogsOf_21 (by rw [c_9]; decide) (by rw [c_9]; decide) (off := 78) (by rw [c_9]; decide) (by decide) ?_
        refine lv_iconst (v := (0 : Int32)) hx hb dX4_clogsOf_99 (by decide) ?_
        exact ze_z C0 hP hS (by decide) hf dX4_clogsOf_100 hQ
      · replace hf := zI_f c_9 hf
        refine if c_10 : (M.1 (w + 1) x1.toNatClampNeg) = (3 : Int32) then ?_ else ?_
        · replace hf := zI_t c_10 hf
          refine lv_tableIn (tgt := 70) hx hb dX4_clogsOf_21 (by rw [c_10]; decide) (by rw [c_10]; decide) (off := 49) (by rw [c_10]; decide) (by decide) ?_
          refine lv_iload_n hx hb dX4_clogsOf_70 rfl (lv_at hl 0 rfl) ?_
          refine lv_if_eq (tgt := 82) hx hb dX4_clogsOf_71 (by decide) (fun c_11 => ?_) (fun c_11 => ?_)
          · replace hf := zI_t c_11 hf
            refine lv_aload_n hx hb dX4_clogsOf_82 rfl (lv_at hl 1 rfl) ?_
            refine zr_getq (C := RX4) (T := TX4) (n := 11) C0 hP w (isW_lt hw) (isW_s hw) 4 (w + 4) rfl (by decide) uw_X4 mw_86 rfl dX4_clogsOf_83 ?_
            refine lv_iload_n hx hb dX4_clogsOf_86 rfl (lv_at hl 2 rfl) ?_
            obtain ⟨hg_12, hf⟩ := zG_o hf
            refine zr_iald C0 hP (w + 4) (isW_lt4 hw) (isW_s4 hw) hg_12 dX4_clogsOf_87 ?_
            refine lv_bipush (v := (50 : Int32)) hx hb dX4_clogsOf_88 (by decide) ?_
            refine lv_icmp_le (tgt := 97) hx hb dX4_clogsOf_90 (by decide) (fun c_13 => ?_) (fun c_13 => ?_)
            · replace hf := zI_t c_13 hf
              refine lv_iconst (v := (0 : Int32)) hx hb dX4_clogsOf_97 (by decide) ?_
              exact ze_z C0 hP hS (by decide) hf dX4_clogsOf_98 hQ
            · replace hf := zI_f c_13 hf
              refine lv_iconst (v := (1 : Int32)) hx hb dX4_clogsOf_93 (by decide) ?_
              refine lv_goto (tgt := 98) hx hb dX4_clogsOf_94 (by decide) ?_
              exact ze_z C0 hP hS (by decide) hf dX4_clogsOf_98 hQ
          · replace hf := zI_f c_11 hf
            refine lv_aload_n hx hb dX4_clogsOf_74 rfl (lv_at hl 1 rfl) ?_
            refine zr_get (C := RX4) (T := TX4) (n := 11) C0 hP w (isW_lt hw) (isW_s hw) 9 rfl (by decide) uw_X4 mw_84 rfl dX4_clogsOf_75 ?_
            refine lv_iconst (v := (3 : Int32)) hx hb dX4_clogsOf_78 (by decide) ?_
            refine lv_icmp_gt (tgt := 93) hx hb dX4_clogsOf_79 (by decide) (fun c_14 => ?_) (fun c_14 => ?_)
            · replace hf := zI_t c_14 hf
              refine lv_iconst (v := (1 : Int32)) hx hb dX4_clogsOf_93 (by decide) ?_
              refine lv_goto (tgt := 98) hx hb dX4_clogsOf_94 (by decide) ?_
              exact ze_z C0 hP hS (by decide) hf dX4_clogsOf_98 hQ
            · replace hf := zI_f c_14 hf
              refine lv_aload_n hx hb dX4_clogsOf_82 rfl (lv_at hl 1 rfl) ?_
              refine zr_getq (C := RX4) (T := TX4) (n := 11) C0 hP w (isW_lt hw) (isW_s hw) 4 (w + 4) rfl (by decide) uw_X4 mw_86 rfl dX4_clogsOf_83 ?_
              refine lv_iload_n hx hb dX4_clogsOf_86 rfl (lv_at hl 2 rfl) ?_
              obtain ⟨hg_15, hf⟩ := zG_o hf
              refine zr_iald C0 hP (w + 4) (isW_lt4 hw) (isW_s4 hw) hg_15 dX4_clogsOf_87 ?_
              refine lv_bipush (v := (50 : Int32)) hx hb dX4_clogsOf_88 (by decide) ?_
              refine lv_icmp_le (tgt := 97) hx hb dX4_clogsOf_90 (by decide) (fun c_16 => ?_) (fun c_16 => ?_)
              · replace hf := zI_t c_16 hf
                refine lv_iconst (v := (0 : Int32)) hx hb dX4_clogsOf_97 (by decide) ?_
                exact ze_z C0 hP hS (by decide) hf dX4_clogsOf_98 hQ
              · replace hf := zI_f c_16 hf
                refine lv_iconst (v := (1 : Int32)) hx hb dX4_clogsOf_93 (by decide) ?_
                refine lv_goto (tgt := 98) hx hb dX4_clogsOf_94 (by decide) ?_
                exact ze_z C0 hP hS (by decide) hf dX4_clogsOf_98 hQ
        · replace hf := zI_f c_10 hf
          refine if c_17 : (M.1 (w + 1) x1.toNatClampNeg) = (4 : Int32) then ?_ else ?_
          · replace hf := zI_t c_17 hf
            refine lv_tableIn (tgt := 99) hx hb dX4_clogsOf_21 (by rw [c_17]; decide) (by rw [c_17]; decide) (off := 78) (by rw [c_17]; decide) (by decide) ?_
            refine lv_iconst (v := (0 : Int32)) hx hb dX4_clogsOf_99 (by decide) ?_
            exact ze_z C0 hP hS (by decide) hf dX4_clogsOf_100 hQ
          · replace hf := zI_f c_17 hf
            have tc_6 := lv_neT (a := 1) c_6 (by decide)
            have tc_9 := lv_neT (a := 2) c_9 (by decide)
            have tc_10 := lv_neT (a := 3) c_10 (by decide)
            have tc_17 := lv_neT (a := 4) c_17 (by decide)
            refine lv_tableOut (tgt := 101) hx hb dX4_clogsOf_21 (by omega) (by decide) ?_
            refine lv_iload_n hx hb dX4_clogsOf_101 rfl (lv_at hl 0 rfl) ?_
            obtain ⟨hg_18, hf⟩ := zG_o hf
            exact ze_z C0 hP hS hg_18 hf dX4_clogsOf_102 hQ
  unfold fX4_clogsOf at hf
  obtain ⟨H, eH⟩ : ∃ H, H = s.heap := ⟨_, rfl⟩
  obtain ⟨locs, el⟩ : ∃ locs : List Loc, locs = [] := ⟨_, rfl⟩
  rw [← eH] at hP ⊢
  have hS : va_S (zA G 64 s.heap.size) s.heap H locs := by rw [eH, el]; exact hS
  rw [← el]
  refine lv_aload_n hx hb dX4_clogsOf_0 rfl (lv_at hl 0 rfl) ?_
  refine lv_iconst (v := (1 : Int32)) hx hb dX4_clogsOf_1 (by decide) ?_
  refine lv_iload_n hx hb dX4_clogsOf_2 rfl (lv_at hl 1 rfl) ?_
  obtain ⟨r_3, M_1, hc_2, hf⟩ := zB_o hf
  refine zc_vi (As := [.int (1 : Int32), .int x1]) (rest := []) C0 hP hS hl.1 w (mtX4_ruleTells l G hJ w hw (1 : Int32) x1 M _ hc_2) lk_X4_51 (isW_lt hw) (isW_s hw) (T := TX4) (n' := 11) rfl ds_X4_ruleTells (by rw [hRm]; exact ⟨Nat.le_of_ble_eq_true rfl, Nat.le_of_ble_eq_true rfl⟩) rfl rfl (Nat.le_of_ble_eq_true rfl) dX4_clogsOf_3 ⟨Nat.zero_le _, Nat.zero_le _⟩ (fun H locs hP hS => ?_)
  refine lv_if_eq (tgt := 13) hx hb dX4_clogsOf_6 (by decide) (fun c_4 => ?_) (fun c_4 => ?_)
  · replace hf := zI_t c_4 hf
    refine lv_iconst (v := (0 : Int32)) hx hb dX4_clogsOf_13 (by decide) ?_
    exact J14 x1 (0 : Int32) M_1 H locs ls (lv_sub hl [0, 1] rfl) hP hS hf
  · replace hf := zI_f c_4 hf
    refine lv_iconst (v := (1 : Int32)) hx hb dX4_clogsOf_9 (by decide) ?_
    refine lv_goto (tgt := 14) hx hb dX4_clogsOf_10 (by decide) ?_
    exact J14 x1 (1 : Int32) M_1 H locs ls (lv_sub hl [0, 1] rfl) hP hS hf
def fX4_ruesOf_J94 (w : Nat) (x3 : Int32) (M : zM) : Option (Int32 × zM) :=
  zB (fX5_bounded x3 (0 : Int32) (99 : Int32) M) fun r_12 M_10 =>
  some (r_12, M_10)
def fX4_ruesOf (w : Nat) (x1 : Int32) (M : zM) : Option (Int32 × zM) :=
  zB (fX4_ruleTells w (2 : Int32) x1 M) fun r_3 M_1 =>
  zB (fX5_bounded r_3 (0 : Int32) (99 : Int32) M_1) fun r_6 M_4 =>
  zG (zin x1 5) <|
  if (M_4.1 (w + 1) x1.toNatClampNeg) = (1 : Int32) then
    zL ((2 : Int32) * r_6) fun x3_9 =>
    fX4_ruesOf_J94 w x3_9 M_4
  else
    if (M_4.1 (w + 1) x1.toNatClampNeg) = (2 : Int32) then
      fX4_ruesOf_J94 w (0 : Int32) M_4
    else
      if (M_4.1 (w + 1) x1.toNatClampNeg) = (3 : Int32) then
        zG (zin x1 5) <|
        zL (((2 : Int32) * r_6) + (M_4.1 (w + 2) x1.toNatClampNeg)) fun x3_16 =>
        fX4_ruesOf_J94 w x3_16 M_4
      else
        if (M_4.1 (w + 1) x1.toNatClampNeg) = (4 : Int32) then
          fX4_ruesOf_J94 w (1 : Int32) M_4
        else
          if (M_4.1 (w + 1) x1.toNatClampNeg) = (5 : Int32) then
            zL (zmin r_6 (5 : Int32)) fun x3_19 =>
            fX4_ruesOf_J94 w x3_19 M_4
          else
            fX4_ruesOf_J94 w r_6 M_4
set_option maxHeartbeats 4000000 in
set_option maxRecDepth 100000 in
theorem mtX4_ruesOf (l : Launch) (G : zGr) (hJ : zJ G 64) (w : Nat) (hw : isW w) (x1 : Int32) (M : zM) (o : Int32 × zM) (hf : fX4_ruesOf w x1 M = some o) : zMi l G shX 64 yX4_ruesOf cX4_ruesOf 4 (some .int) 3 70 [.ref (G.2.2.1 w), .int x1] M o := by
  intro sz
  refine zOf (by decide) (Nat.le_of_ble_eq_true rfl) ?_
  intro p e R Q s m args below meth c hRm hsz hQ C0 hP hS ls hl
  subst hsz
  replace hRm : R = { frames := 3, cells := 0, slots := 0, locals := 70 } := hRm
  have hl : lv_has ls 4 [(0, .ref (G.2.2.1 w)), (1, .int x1)] := hl
  have hx := C0.1
  have hb := C0.2.1
  have hown := C0.2.2.2.1
  have hts := C0.2.2.2.2.1
  have J94 : ∀ (x3 : Int32) (M : zM) (H : Heap) (locs : List Loc) (ls : Array Slot), lv_has ls 4 [(3, .int x3)] → va_P G.1 zcl (zw G shX 64 M) H → va_S (zA G 64 s.heap.size) s.heap H locs → fX4_ruesOf_J94 w x3 M = some o → W p l e R s m args below meth c H locs 0 0 Q (F0 m 94 ls []) := by
    intro x3 M H locs ls hl hP hS hf
    unfold fX4_ruesOf_J94 at hf
    refine lv_iload_n hx hb dX4_ruesOf_94 rfl (lv_at hl 0 rfl) ?_
    refine lv_iconst (v := (0 : Int32)) hx hb dX4_ruesOf_95 (by decide) ?_
    refine lv_bipush (v := (99 : Int32)) hx hb dX4_ruesOf_96 (by decide) ?_
    obtain ⟨r_12, M_10, hc_11, hf⟩ := zB_o hf
    refine zc_ni (As := [.int x3, .int (0 : Int32), .int (99 : Int32)]) (rest := []) C0 hP hS hl.1 (mtX5_bounded l G hJ x3 (0 : Int32) (99 : Int32) M _ hc_11) 5 rfl mw_101 mw_51 mw_102 ds_X5_bounded (by rw [hRm]; exact ⟨Nat.le_of_ble_eq_true rfl, Nat.le_of_ble_eq_true rfl⟩) rfl rfl (Nat.le_of_ble_eq_true rfl) dX4_ruesOf_98 ⟨Nat.zero_le _, Nat.zero_le _⟩ (fun H locs hP hS => ?_)
    exact ze_i C0 hP hS hf dX4_ruesOf_101 hQ
  unfold fX4_ruesOf at hf
  obtain ⟨H, eH⟩ : ∃ H, H = s.heap := ⟨_, rfl⟩
  obtain ⟨locs, el⟩ : ∃ locs : List Loc, locs = [] := ⟨_, rfl⟩
  rw [← eH] at hP ⊢
  have hS : va_S (zA G 64 s.heap.size) s.heap H locs := by rw [eH, el]; exact hS
  rw [← el]
  refine lv_aload_n hx hb dX4_ruesOf_0 rfl (lv_at hl 0 rfl) ?_
  refine lv_iconst (v := (2 : Int32)) hx hb dX4_ruesOf_1 (by decide) ?_
  refine lv_iload_n hx hb dX4_ruesOf_2 rfl (lv_at hl 1 rfl) ?_
  obtain ⟨r_3, M_1, hc_2, hf⟩ := zB_o hf
  refine zc_vi (As := [.int (2 : Int32), .int x1]) (rest := []) C0 hP hS hl.1 w (mtX4_ruleTells l G hJ w hw (2 : Int32) x1 M _ hc_2) lk_X4_51 (isW_lt hw) (isW_s hw) (T := TX4) (n' := 11) rfl ds_X4_ruleTells (by rw [hRm]; exact ⟨Nat.le_of_ble_eq_true rfl, Nat.le_of_ble_eq_true rfl⟩) rfl rfl (Nat.le_of_ble_eq_true rfl) dX4_ruesOf_3 ⟨Nat.zero_le _, Nat.zero_le _⟩ (fun H locs hP hS => ?_)
  refine lv_iconst (v := (0 : Int32)) hx hb dX4_ruesOf_6 (by decide) ?_
  refine lv_bipush (v := (99 : Int32)) hx hb dX4_ruesOf_7 (by decide) ?_
  obtain ⟨r_6, M_4, hc_5, hf⟩ := zB_o hf
  refine zc_ni (As := [.int r_3, .int (0 : Int32), .int (99 : Int32)]) (rest := []) C0 hP hS hl.1 (mtX5_bounded l G hJ r_3 (0 : Int32) (99 : Int32) M_1 _ hc_5) 5 rfl mw_101 mw_51 mw_102 ds_X5_bounded (by rw [hRm]; exact ⟨Nat.le_of_ble_eq_true rfl, Nat.le_of_ble_eq_true rfl⟩) rfl rfl (Nat.le_of_ble_eq_true rfl) dX4_ruesOf_9 ⟨Nat.zero_le _, Nat.zero_le _⟩ (fun H locs hP hS => ?_)
  refine lv_istore_n (lv' := [(2, .int r_6), (0, .ref (G.2.2.1 w)), (1, .int x1)]) hx hb dX4_ruesOf_12 rfl hl (by decide) rfl (fun ls hl => ?_)
  refine lv_aload_n hx hb dX4_ruesOf_13 rfl (lv_at hl 1 rfl) ?_
  refine zr_getq (C := RX4) (T := TX4) (n := 11) C0 hP w (isW_lt hw) (isW_s hw) 1 (w + 1) rfl (by decide) uw_X4 mw_96 rfl dX4_ruesOf_14 ?_
  refine lv_iload_n hx hb dX4_ruesOf_17 rfl (lv_at hl 2 rfl) ?_
  obtain ⟨hg_7, hf⟩ := zG_o hf
  refine zr_iald C0 hP (w + 1) (isW_lt1 hw) (isW_s1 hw) hg_7 dX4_ruesOf_18 ?_
  refine if c_8 : (M_4.1 (w + 1) x1.toNatClampNeg) = (1 : Int32) then ?_ else ?_
  · replace hf := zI_t c_8 hf
    refine lv_tableIn (tgt := 52) hx hb dX4_ruesOf_19 (by rw [c_8]; decide) (by rw [c_8]; decide) (off := 33) (by rw [c_8]; decide) (by decide) ?_
    refine lv_iconst (v := (2 : Int32)) hx hb dX4_ruesOf_52 (by decide) ?_
    refine lv_iload_n hx hb dX4_ruesOf_53 rfl (lv_at hl 0 rfl) ?_
    refine lv_imul hx hb dX4_ruesOf_54 ?_
    refine lv_topi (fun x3_9 ex3_9 => ?_)
    replace hf := zL_e ex3_9 hf
    refine lv_istore_n (lv' := [(3, .int x3_9), (2, .int r_6), (0, .ref (G.2.2.1 w)), (1, .int x1)]) hx hb dX4_ruesOf_55 rfl hl (by decide) rfl (fun ls hl => ?_)
    refine lv_goto (tgt := 94) hx hb dX4_ruesOf_56 (by decide) ?_
    exact J94 x3_9 M_4 H locs ls (lv_sub hl [0] rfl) hP hS hf
  · replace hf := zI_f c_8 hf
    refine if c_13 : (M_4.1 (w + 1) x1.toNatClampNeg) = (2 : Int32) then ?_ else ?_
    · replace hf := zI_t c_13 hf
      refine lv_tableIn (tgt := 59) hx hb dX4_ruesOf_19 (by rw [c_13]; decide) (by rw [c_13]; decide) (off := 40) (by rw [c_13]; decide) (by decide) ?_
      refine lv_iconst (v := (0 : Int32)) hx hb dX4_ruesOf_59 (by decide) ?_
      refine lv_istore_n (lv' := [(3, .int (0 : Int32)), (2, .int r_6), (0, .ref (G.2.2.1 w)), (1, .int x1)]) hx hb dX4_ruesOf_60 rfl hl (by decide) rfl (fun ls hl => ?_)
      refine lv_goto (tgt := 94) hx hb dX4_ruesOf_61 (by decide) ?_
      exact J94 (0 : Int32) M_4 H locs ls (lv_sub hl [0] rfl) hP hS hf
    · replace hf := zI_f c_13 hf
      refine if c_14 : (M_4.1 (w + 1) x1.toNatClampNeg) = (3 : Int32) then ?_ else ?_
      · replace hf := zI_t c_14 hf
        refine lv_tableIn (tgt := 64) hx hb dX4_ruesOf_19 (by rw [c_14]; decide) (by rw [c_14]; decide) (off := 45) (by rw [c_14]; decide) (by decide) ?_
        refine lv_iconst (v := (2 : Int32)) hx hb dX4_ruesOf_64 (by decide) ?_
        refine lv_iload_n hx hb dX4_ruesOf_65 rfl (lv_at hl 0 rfl) ?_
        refine lv_imul hx hb dX4_ruesOf_66 ?_
        refine lv_aload_n hx hb dX4_ruesOf_67 rfl (lv_at hl 1 rfl) ?_
        refine zr_getq (C := RX4) (T := TX4) (n := 11) C0 hP w (isW_lt hw) (isW_s hw) 2 (w + 2) rfl (by decide) uw_X4 mw_83 rfl dX4_ruesOf_68 ?_
        refine lv_iload_n hx hb dX4_ruesOf_71 rfl (lv_at hl 2 rfl) ?_
        obtain ⟨hg_15, hf⟩ := zG_o hf
        refine zr_iald C0 hP (w + 2) (isW_lt2 hw) (isW_s2 hw) hg_15 dX4_ruesOf_72 ?_
        refine lv_iadd hx hb dX4_ruesOf_73 ?_
        refine lv_topi (fun x3_16 ex3_16 => ?_)
        replace hf := zL_e ex3_16 hf
        refine lv_istore_n (lv' := [(3, .int x3_16), (2, .int r_6), (0, .ref (G.2.2.1 w)), (1, .int x1)]) hx hb dX4_ruesOf_74 rfl hl (by decide) rfl (fun ls hl => ?_)
        refine lv_goto (tgt := 94) hx hb dX4_ruesOf_75 (by decide) ?_
        exact J94 x3_16 M_4 H locs ls (lv_sub hl [0] rfl) hP hS hf
      · replace hf := zI_f c_14 hf
        refine if c_17 : (M_4.1 (w + 1) x1.toNatClampNeg) = (4 : Int32) then ?_ else ?_
        · replace hf := zI_t c_17 hf
          refine lv_tableIn (tgt := 78) hx hb dX4_ruesOf_19 (by rw [c_17]; decide) (by rw [c_17]; decide) (off := 59) (by rw [c_17]; decide) (by decide) ?_
          refine lv_iconst (v := (1 : Int32)) hx hb dX4_ruesOf_78 (by decide) ?_
          refine lv_istore_n (lv' := [(3, .int (1 : Int32)), (2, .int r_6), (0, .ref (G.2.2.1 w)), (1, .int x1)]) hx hb dX4_ruesOf_79 rfl hl (by decide) rfl (fun ls hl => ?_)
          refine lv_goto (tgt := 94) hx hb dX4_ruesOf_80 (by decide) ?_
          exact J94 (1 : Int32) M_4 H locs ls (lv_sub hl [0] rfl) hP hS hf
        · replace hf := zI_f c_17 hf
          refine if c_18 : (M_4.1 (w + 1) x1.toNatClampNeg) = (5 : Int32) then ?_ else ?_
          · replace hf := zI_t c_18 hf
            refine lv_tableIn (tgt := 83) hx hb dX4_ruesOf_19 (by rw [c_18]; decide) (by rw [c_18]; decide) (off := 64) (by rw [c_18]; decide) (by decide) ?_
            refine lv_iload_n hx hb dX4_ruesOf_83 rfl (lv_at hl 0 rfl) ?_
            refine lv_iconst (v := (5 : Int32)) hx hb dX4_ruesOf_84 (by decide) ?_
            refine zo_min C0 hl.1 mw_103 mw_32 mw_29 mw_33 (by rw [hRm]; exact Nat.le_of_ble_eq_true rfl) (by rw [hRm]; exact Nat.le_of_ble_eq_true rfl) ⟨Nat.zero_le _, Nat.zero_le _⟩ dX4_ruesOf_85 ?_
            refine lv_topi (fun x3_19 ex3_19 => ?_)
            replace hf := zL_e ex3_19 hf
            refine lv_istore_n (lv' := [(3, .int x3_19), (2, .int r_6), (0, .ref (G.2.2.1 w)), (1, .int x1)]) hx hb dX4_ruesOf_88 rfl hl (by decide) rfl (fun ls hl => ?_)
            refine lv_goto (tgt := 94) hx hb dX4_ruesOf_89 (by decide) ?_
            exact J94 x3_19 M_4 H locs ls (lv_sub hl [0] rfl) hP hS hf
          · replace hf := zI_f c_18 hf
            have tc_8 := lv_neT (a := 1) c_8 (by decide)
            have tc_13 := lv_neT (a := 2) c_13 (by decide)
            have tc_14 := lv_neT (a := 3) c_14 (by decide)
            have tc_17 := lv_neT (a := 4) c_17 (by decide)
            have tc_18 := lv_neT (a := 5) c_18 (by decide)
            refine lv_tableOut (tgt := 92) hx hb dX4_ruesOf_19 (by omega) (by decide) ?_
            refine lv_iload_n hx hb dX4_ruesOf_92 rfl (lv_at hl 0 rfl) ?_
            refine lv_istore_n (lv' := [(3, .int r_6), (2, .int r_6), (0, .ref (G.2.2.1 w)), (1, .int x1)]) hx hb dX4_ruesOf_93 rfl hl (by decide) rfl (fun ls hl => ?_)
            exact J94 r_6 M_4 H locs ls (lv_sub hl [0] rfl) hP hS hf
def fX4_minutesOf (w : Nat) (x1 : Int32) (M : zM) : Option (Int32 × zM) :=
  zB (fX4_clogsOf w x1 M) fun r_3 M_1 =>
  if r_3 = (0 : Int32) then
    zB (fX4_runsOf w x1 M_1) fun r_7 M_5 =>
    some (r_7, M_5)
  else
    some ((0 : Int32), M_1)
set_option maxHeartbeats 4000000 in
set_option maxRecDepth 100000 in
theorem mtX4_minutesOf (l : Launch) (G : zGr) (hJ : zJ G 64) (w : Nat) (hw : isW w) (x1 : Int32) (M : zM) (o : Int32 × zM) (hf : fX4_minutesOf w x1 M = some o) : zMi l G shX 64 yX4_minutesOf cX4_minutesOf 2 (some .int) 4 93 [.ref (G.2.2.1 w), .int x1] M o := by
  intro sz
  refine zOf (by decide) (Nat.le_of_ble_eq_true rfl) ?_
  intro p e R Q s m args below meth c hRm hsz hQ C0 hP hS ls hl
  subst hsz
  replace hRm : R = { frames := 4, cells := 0, slots := 0, locals := 93 } := hRm
  have hl : lv_has ls 2 [(0, .ref (G.2.2.1 w)), (1, .int x1)] := hl
  have hx := C0.1
  have hb := C0.2.1
  have hown := C0.2.2.2.1
  have hts := C0.2.2.2.2.1
  unfold fX4_minutesOf at hf
  obtain ⟨H, eH⟩ : ∃ H, H = s.heap := ⟨_, rfl⟩
  obtain ⟨locs, el⟩ : ∃ locs : List Loc, locs = [] := ⟨_, rfl⟩
  rw [← eH] at hP ⊢
  have hS : va_S (zA G 64 s.heap.size) s.heap H locs := by rw [eH, el]; exact hS
  rw [← el]
  refine lv_aload_n hx hb dX4_minutesOf_0 rfl (lv_at hl 0 rfl) ?_
  refine lv_iload_n hx hb dX4_minutesOf_1 rfl (lv_at hl 1 rfl) ?_
  obtain ⟨r_3, M_1, hc_2, hf⟩ := zB_o hf
  refine zc_vi (As := [.int x1]) (rest := []) C0 hP hS hl.1 w (mtX4_clogsOf l G hJ w hw x1 M _ hc_2) lk_X4_64 (isW_lt hw) (isW_s hw) (T := TX4) (n' := 11) rfl ds_X4_clogsOf (by rw [hRm]; exact ⟨Nat.le_of_ble_eq_true rfl, Nat.le_of_ble_eq_true rfl⟩) rfl rfl (Nat.le_of_ble_eq_true rfl) dX4_minutesOf_2 ⟨Nat.zero_le _, Nat.zero_le _⟩ (fun H locs hP hS => ?_)
  refine lv_if_eq (tgt := 12) hx hb dX4_minutesOf_5 (by decide) (fun c_4 => ?_) (fun c_4 => ?_)
  · replace hf := zI_t c_4 hf
    refine lv_aload_n hx hb dX4_minutesOf_12 rfl (lv_at hl 0 rfl) ?_
    refine lv_iload_n hx hb dX4_minutesOf_13 rfl (lv_at hl 1 rfl) ?_
    obtain ⟨r_7, M_5, hc_6, hf⟩ := zB_o hf
    refine zc_vi (As := [.int x1]) (rest := []) C0 hP hS hl.1 w (mtX4_runsOf l G hJ w hw x1 M_1 _ hc_6) lk_X4_68 (isW_lt hw) (isW_s hw) (T := TX4) (n' := 11) rfl ds_X4_runsOf (by rw [hRm]; exact ⟨Nat.le_of_ble_eq_true rfl, Nat.le_of_ble_eq_true rfl⟩) rfl rfl (Nat.le_of_ble_eq_true rfl) dX4_minutesOf_14 ⟨Nat.zero_le _, Nat.zero_le _⟩ (fun H locs hP hS => ?_)
    exact ze_i C0 hP hS hf dX4_minutesOf_17 hQ
  · replace hf := zI_f c_4 hf
    refine lv_iconst (v := (0 : Int32)) hx hb dX4_minutesOf_8 (by decide) ?_
    refine lv_goto (tgt := 17) hx hb dX4_minutesOf_9 (by decide) ?_
    exact ze_i C0 hP hS hf dX4_minutesOf_17 hQ
def fX4_passDay_B29 (w : Nat) (r29 : Int32 → zM → Option (zM)) (x1 : Int32) (M : zM) : Option (zM) :=
  if (M.1 w 7) ≤ x1 then
    zL (zu M w 8 ((M.1 w 8) + (1 : Int32))) fun M_3 =>
    some M_3
  else
    zG (zin x1 5) <|
    zG (zin x1 5) <|
    zG (zin x1 5) <|
    zL (zu M (w + 3) x1.toNatClampNeg (zmin (999 : Int32) ((M.1 (w + 3) x1.toNatClampNeg) + (M.1 (w + 5) x1.toNatClampNeg)))) fun M_7 =>
    zL (x1 + (1 : Int32)) fun x1_8 =>
    r29 x1_8 M_7
def fX4_passDay_L29 (w : Nat) : Nat → Int32 → zM → Option (zM)
  | 0 => fun _ _ => none
  | j9 + 1 => fX4_passDay_B29 w (fX4_passDay_L29 w j9)
def fX4_passDay_B2 (w : Nat) (r2 : Int32 → zM → Option (zM)) (x1 : Int32) (M : zM) : Option (zM) :=
  if (M.1 w 7) ≤ x1 then
    fX4_passDay_L29 w zF (0 : Int32) M
  else
    zB (fX4_ruesOf w x1 M) fun r_11 M_9 =>
    zG (zin x1 5) <|
    zL (zu M_9 (w + 5) x1.toNatClampNeg r_11) fun M_13 =>
    zL (x1 + (1 : Int32)) fun x1_14 =>
    r2 x1_14 M_13
def fX4_passDay_L2 (w : Nat) : Nat → Int32 → zM → Option (zM)
  | 0 => fun _ _ => none
  | j9 + 1 => fX4_passDay_B2 w (fX4_passDay_L2 w j9)
def fX4_passDay (w : Nat) (M : zM) : Option (zM) :=
  fX4_passDay_L2 w zF (0 : Int32) M
set_option maxHeartbeats 4000000 in
set_option maxRecDepth 100000 in
theorem mtX4_passDay (l : Launch) (G : zGr) (hJ : zJ G 64) (w : Nat) (hw : isW w) (M : zM) (o : zM) (hf : fX4_passDay w M = some o) : zMv l G shX 64 yX4_passDay cX4_passDay 2 none 4 93 [.ref (G.2.2.1 w)] M o := by
  intro sz
  refine zOf (by decide) (Nat.le_of_ble_eq_true rfl) ?_
  intro p e R Q s m args below meth c hRm hsz hQ C0 hP hS ls hl
  subst hsz
  replace hRm : R = { frames := 4, cells := 0, slots := 0, locals := 93 } := hRm
  have hl : lv_has ls 2 [(0, .ref (G.2.2.1 w))] := hl
  have hx := C0.1
  have hb := C0.2.1
  have hown := C0.2.2.2.1
  have hts := C0.2.2.2.2.1
  have L29 : ∀ (n29 : Nat), ∀ (x1 : Int32) (M : zM) (H : Heap) (locs : List Loc) (ls : Array Slot), lv_has ls 2 [(0, .ref (G.2.2.1 w)), (1, .int x1)] → va_P G.1 zcl (zw G shX 64 M) H → va_S (zA G 64 s.heap.size) s.heap H locs → fX4_passDay_L29 w n29 x1 M = some o → W p l e R s m args below meth c H locs 0 0 Q (F0 m 29 ls []) := by
    intro n29
    induction n29 with
    | zero => intro x1 M H locs ls hl hP hS hf; exact zn_s (show none = some o from hf)
    | succ n29 ih29 =>
      intro x1 M H locs ls hl hP hS hf
      replace hf : fX4_passDay_B29 w (fX4_passDay_L29 w n29) x1 M = some o := hf
      unfold fX4_passDay_B29 at hf
      refine lv_iload_n hx hb dX4_passDay_29 rfl (lv_at hl 1 rfl) ?_
      refine lv_aload_n hx hb dX4_passDay_30 rfl (lv_at hl 0 rfl) ?_
      refine zr_get (C := RX4) (T := TX4) (n := 11) C0 hP w (isW_lt hw) (isW_s hw) 7 rfl (by decide) uw_X4 mw_77 rfl dX4_passDay_31 ?_
      refine lv_icmp_ge (tgt := 68) hx hb dX4_passDay_34 (by decide) (fun c_2 => ?_) (fun c_2 => ?_)
      · replace hf := zI_t c_2 hf
        refine lv_aload_n hx hb dX4_passDay_68 rfl (lv_at hl 0 rfl) ?_
        refine lv_dup hx hb dX4_passDay_69 rfl ?_
        refine zr_get (C := RX4) (T := TX4) (n := 11) C0 hP w (isW_lt hw) (isW_s hw) 8 rfl (by decide) uw_X4 mw_85 rfl dX4_passDay_70 ?_
        refine lv_iconst (v := (1 : Int32)) hx hb dX4_passDay_73 (by decide) ?_
        refine lv_iadd hx hb dX4_passDay_74 ?_
        refine zr_put (C := RX4) (T := TX4) (n := 11) C0 hJ hP hS w (isW_lt hw) (isW_s hw) 8 rfl (by decide) uw_X4 tyX4 tyX4_ok nmX4 mw_85 rfl rfl ⟨rfl, rfl⟩ dX4_passDay_75 (fun H locs hP hS => ?_)
        obtain ⟨M_3, eM_3, hf⟩ := zL_o hf
        have hP : va_P G.1 zcl (zw G shX 64 M_3) H := by rw [eM_3]; exact hP
        exact ze_v C0 hP hS hf dX4_passDay_78 hQ
      · replace hf := zI_f c_2 hf
        refine lv_aload_n hx hb dX4_passDay_37 rfl (lv_at hl 0 rfl) ?_
        refine zr_getq (C := RX4) (T := TX4) (n := 11) C0 hP w (isW_lt hw) (isW_s hw) 3 (w + 3) rfl (by decide) uw_X4 mw_78 rfl dX4_passDay_38 ?_
        refine lv_iload_n hx hb dX4_passDay_41 rfl (lv_at hl 1 rfl) ?_
        refine lv_sipush (v := (999 : Int32)) hx hb dX4_passDay_42 (by decide) ?_
        refine lv_aload_n hx hb dX4_passDay_45 rfl (lv_at hl 0 rfl) ?_
        refine zr_getq (C := RX4) (T := TX4) (n := 11) C0 hP w (isW_lt hw) (isW_s hw) 3 (w + 3) rfl (by decide) uw_X4 mw_78 rfl dX4_passDay_46 ?_
        refine lv_iload_n hx hb dX4_passDay_49 rfl (lv_at hl 1 rfl) ?_
        obtain ⟨hg_4, hf⟩ := zG_o hf
        refine zr_iald C0 hP (w + 3) (isW_lt3 hw) (isW_s3 hw) hg_4 dX4_passDay_50 ?_
        refine lv_aload_n hx hb dX4_passDay_51 rfl (lv_at hl 0 rfl) ?_
        refine zr_getq (C := RX4) (T := TX4) (n := 11) C0 hP w (isW_lt hw) (isW_s hw) 5 (w + 5) rfl (by decide) uw_X4 mw_112 rfl dX4_passDay_52 ?_
        refine lv_iload_n hx hb dX4_passDay_55 rfl (lv_at hl 1 rfl) ?_
        obtain ⟨hg_5, hf⟩ := zG_o hf
        refine zr_iald C0 hP (w + 5) (isW_lt5 hw) (isW_s5 hw) hg_5 dX4_passDay_56 ?_
        refine lv_iadd hx hb dX4_passDay_57 ?_
        refine zo_min C0 hl.1 mw_103 mw_32 mw_29 mw_33 (by rw [hRm]; exact Nat.le_of_ble_eq_true rfl) (by rw [hRm]; exact Nat.le_of_ble_eq_true rfl) ⟨Nat.zero_le _, Nat.zero_le _⟩ dX4_passDay_58 ?_
        obtain ⟨hg_6, hf⟩ := zG_o hf
        refine zr_iast C0 hJ hP hS (w + 3) (isW_lt3 hw) (isW_s3 hw) hg_6 dX4_passDay_61 (fun H locs hP hS => ?_)
        obtain ⟨M_7, eM_7, hf⟩ := zL_o hf
        have hP : va_P G.1 zcl (zw G shX 64 M_7) H := by rw [eM_7]; exact hP
        obtain ⟨x1_8, ex1_8, hf⟩ := zL_o hf
        refine lv_iinc (v := x1_8) (lv' := [(1, .int x1_8), (0, .ref (G.2.2.1 w))]) hx hb dX4_passDay_62 hl (k := 1) rfl (by rw [ex1_8]; rfl) (by decide) rfl (fun ls hl => ?_)
        refine lv_goto (tgt := 29) hx hb dX4_passDay_65 (by decide) ?_
        exact ih29 x1_8 M_7 H locs ls (lv_sub hl [1, 0] rfl) hP hS hf
  have L2 : ∀ (n2 : Nat), ∀ (x1 : Int32) (M : zM) (H : Heap) (locs : List Loc) (ls : Array Slot), lv_has ls 2 [(0, .ref (G.2.2.1 w)), (1, .int x1)] → va_P G.1 zcl (zw G shX 64 M) H → va_S (zA G 64 s.heap.size) s.heap H locs → fX4_passDay_L2 w n2 x1 M = some o → W p l e R s m args below meth c H locs 0 0 Q (F0 m 2 ls []) := by
    intro n2
    induction n2 with
    | zero => intro x1 M H locs ls hl hP hS hf; exact zn_s (show none = some o from hf)
    | succ n2 ih2 =>
      intro x1 M H locs ls hl hP hS hf
      replace hf : fX4_passDay_B2 w (fX4_passDay_L2 w n2) x1 M = some o := hf
      unfold fX4_passDay_B2 at hf
      refine lv_iload_n hx hb dX4_passDay_2 rfl (lv_at hl 1 rfl) ?_
      refine lv_aload_n hx hb dX4_passDay_3 rfl (lv_at hl 0 rfl) ?_
      refine zr_get (C := RX4) (T := TX4) (n := 11) C0 hP w (isW_lt hw) (isW_s hw) 7 rfl (by decide) uw_X4 mw_77 rfl dX4_passDay_4 ?_
      refine lv_icmp_ge (tgt := 27) hx hb dX4_passDay_7 (by decide) (fun c_1 => ?_) (fun c_1 => ?_)
      · replace hf := zI_t c_1 hf
        refine lv_iconst (v := (0 : Int32)) hx hb dX4_passDay_27 (by decide) ?_
        refine lv_istore_n (lv' := [(1, .int (0 : Int32)), (0, .ref (G.2.2.1 w))]) hx hb dX4_passDay_28 rfl hl (by decide) rfl (fun ls hl => ?_)
        exact L29 zF (0 : Int32) M H locs ls (lv_sub hl [1, 0] rfl) hP hS hf
      · replace hf := zI_f c_1 hf
        refine lv_aload_n hx hb dX4_passDay_10 rfl (lv_at hl 0 rfl) ?_
        refine zr_getq (C := RX4) (T := TX4) (n := 11) C0 hP w (isW_lt hw) (isW_s hw) 5 (w + 5) rfl (by decide) uw_X4 mw_112 rfl dX4_passDay_11 ?_
        refine lv_iload_n hx hb dX4_passDay_14 rfl (lv_at hl 1 rfl) ?_
        refine lv_aload_n hx hb dX4_passDay_15 rfl (lv_at hl 0 rfl) ?_
        refine lv_iload_n hx hb dX4_passDay_16 rfl (lv_at hl 1 rfl) ?_
        obtain ⟨r_11, M_9, hc_10, hf⟩ := zB_o hf
        refine zc_vi (As := [.int x1]) (rest := [.int x1, .ref (G.2.2.1 (w + 5))]) C0 hP hS hl.1 w (mtX4_ruesOf l G hJ w hw x1 M _ hc_10) lk_X4_72 (isW_lt hw) (isW_s hw) (T := TX4) (n' := 11) rfl ds_X4_ruesOf (by rw [hRm]; exact ⟨Nat.le_of_ble_eq_true rfl, Nat.le_of_ble_eq_true rfl⟩) rfl rfl (Nat.le_of_ble_eq_true rfl) dX4_passDay_17 ⟨Nat.zero_le _, Nat.zero_le _⟩ (fun H locs hP hS => ?_)
        obtain ⟨hg_12, hf⟩ := zG_o hf
        refine zr_iast C0 hJ hP hS (w + 5) (isW_lt5 hw) (isW_s5 hw) hg_12 dX4_passDay_20 (fun H locs hP hS => ?_)
        obtain ⟨M_13, eM_13, hf⟩ := zL_o hf
        have hP : va_P G.1 zcl (zw G shX 64 M_13) H := by rw [eM_13]; exact hP
        obtain ⟨x1_14, ex1_14, hf⟩ := zL_o hf
        refine lv_iinc (v := x1_14) (lv' := [(1, .int x1_14), (0, .ref (G.2.2.1 w))]) hx hb dX4_passDay_21 hl (k := 1) rfl (by rw [ex1_14]; rfl) (by decide) rfl (fun ls hl => ?_)
        refine lv_goto (tgt := 2) hx hb dX4_passDay_24 (by decide) ?_
        exact ih2 x1_14 M_13 H locs ls (lv_sub hl [1, 0] rfl) hP hS hf
  unfold fX4_passDay at hf
  obtain ⟨H, eH⟩ : ∃ H, H = s.heap := ⟨_, rfl⟩
  obtain ⟨locs, el⟩ : ∃ locs : List Loc, locs = [] := ⟨_, rfl⟩
  rw [← eH] at hP ⊢
  have hS : va_S (zA G 64 s.heap.size) s.heap H locs := by rw [eH, el]; exact hS
  rw [← el]
  refine lv_iconst (v := (0 : Int32)) hx hb dX4_passDay_0 (by decide) ?_
  refine lv_istore_n (lv' := [(1, .int (0 : Int32)), (0, .ref (G.2.2.1 w))]) hx hb dX4_passDay_1 rfl hl (by decide) rfl (fun ls hl => ?_)
  exact L2 zF (0 : Int32) M H locs ls (lv_sub hl [1, 0] rfl) hP hS hf
def fX4_passDays_B2 (w : Nat) (r2 : Int32 → Int32 → zM → Option (zM)) (x1 : Int32) (x2 : Int32) (M : zM) : Option (zM) :=
  if x1 ≤ x2 then
    some M
  else
    zV (fX4_passDay w M) fun M_2 =>
    zL (x2 + (1 : Int32)) fun x2_4 =>
    r2 x1 x2_4 M_2
def fX4_passDays_L2 (w : Nat) : Nat → Int32 → Int32 → zM → Option (zM)
  | 0 => fun _ _ _ => none
  | j9 + 1 => fX4_passDays_B2 w (fX4_passDays_L2 w j9)
def fX4_passDays (w : Nat) (x1 : Int32) (M : zM) : Option (zM) :=
  fX4_passDays_L2 w zF x1 (0 : Int32) M
set_option maxHeartbeats 4000000 in
set_option maxRecDepth 100000 in
theorem mtX4_passDays (l : Launch) (G : zGr) (hJ : zJ G 64) (w : Nat) (hw : isW w) (x1 : Int32) (M : zM) (o : zM) (hf : fX4_passDays w x1 M = some o) : zMv l G shX 64 yX4_passDays cX4_passDays 3 none 5 114 [.ref (G.2.2.1 w), .int x1] M o := by
  intro sz
  refine zOf (by decide) (Nat.le_of_ble_eq_true rfl) ?_
  intro p e R Q s m args below meth c hRm hsz hQ C0 hP hS ls hl
  subst hsz
  replace hRm : R = { frames := 5, cells := 0, slots := 0, locals := 114 } := hRm
  have hl : lv_has ls 3 [(0, .ref (G.2.2.1 w)), (1, .int x1)] := hl
  have hx := C0.1
  have hb := C0.2.1
  have hown := C0.2.2.2.1
  have hts := C0.2.2.2.2.1
  have L2 : ∀ (n2 : Nat), ∀ (x1 : Int32) (x2 : Int32) (M : zM) (H : Heap) (locs : List Loc) (ls : Array Slot), lv_has ls 3 [(0, .ref (G.2.2.1 w)), (1, .int x1), (2, .int x2)] → va_P G.1 zcl (zw G shX 64 M) H → va_S (zA G 64 s.heap.size) s.heap H locs → fX4_passDays_L2 w n2 x1 x2 M = some o → W p l e R s m args below meth c H locs 0 0 Q (F0 m 2 ls []) := by
    intro n2
    induction n2 with
    | zero => intro x1 x2 M H locs ls hl hP hS hf; exact zn_s (show none = some o from hf)
    | succ n2 ih2 =>
      intro x1 x2 M H locs ls hl hP hS hf
      replace hf : fX4_passDays_B2 w (fX4_passDays_L2 w n2) x1 x2 M = some o := hf
      unfold fX4_passDays_B2 at hf
      refine lv_iload_n hx hb dX4_passDays_2 rfl (lv_at hl 2 rfl) ?_
      refine lv_iload_n hx hb dX4_passDays_3 rfl (lv_at hl 1 rfl) ?_
      refine lv_icmp_ge (tgt := 17) hx hb dX4_passDays_4 (by decide) (fun c_1 => ?_) (fun c_1 => ?_)
      · replace hf := zI_t c_1 hf
        exact ze_v C0 hP hS hf dX4_passDays_17 hQ
      · replace hf := zI_f c_1 hf
        refine lv_aload_n hx hb dX4_passDays_7 rfl (lv_at hl 0 rfl) ?_
        obtain ⟨M_2, hc_3, hf⟩ := zV_o hf
        refine zc_vv (As := []) (rest := []) C0 hP hS hl.1 w (mtX4_passDay l G hJ w hw M _ hc_3) lk_X4_75 (isW_lt hw) (isW_s hw) (T := TX4) (n' := 11) rfl ds_X4_passDay (by rw [hRm]; exact ⟨Nat.le_of_ble_eq_true rfl, Nat.le_of_ble_eq_true rfl⟩) rfl rfl (Nat.le_of_ble_eq_true rfl) dX4_passDays_8 ⟨Nat.zero_le _, Nat.zero_le _⟩ (fun H locs hP hS => ?_)
        obtain ⟨x2_4, ex2_4, hf⟩ := zL_o hf
        refine lv_iinc (v := x2_4) (lv' := [(2, .int x2_4), (0, .ref (G.2.2.1 w)), (1, .int x1)]) hx hb dX4_passDays_11 hl (k := 2) rfl (by rw [ex2_4]; rfl) (by decide) rfl (fun ls hl => ?_)
        refine lv_goto (tgt := 2) hx hb dX4_passDays_14 (by decide) ?_
        exact ih2 x1 x2_4 M_2 H locs ls (lv_sub hl [1, 2, 0] rfl) hP hS hf
  unfold fX4_passDays at hf
  obtain ⟨H, eH⟩ : ∃ H, H = s.heap := ⟨_, rfl⟩
  obtain ⟨locs, el⟩ : ∃ locs : List Loc, locs = [] := ⟨_, rfl⟩
  rw [← eH] at hP ⊢
  have hS : va_S (zA G 64 s.heap.size) s.heap H locs := by rw [eH, el]; exact hS
  rw [← el]
  refine lv_iconst (v := (0 : Int32)) hx hb dX4_passDays_0 (by decide) ?_
  refine lv_istore_n (lv' := [(2, .int (0 : Int32)), (0, .ref (G.2.2.1 w)), (1, .int x1)]) hx hb dX4_passDays_1 rfl hl (by decide) rfl (fun ls hl => ?_)
  exact L2 zF x1 (0 : Int32) M H locs ls (lv_sub hl [1, 2, 0] rfl) hP hS hf
def fX4_drawOff (w : Nat) (x1 : Int32) (x2 : Int32) (x3 : Int32) (M : zM) : Option (zM) :=
  zG (zin x1 5) <|
  zG (zin x1 5) <|
  zL (zu M (w + 3) x1.toNatClampNeg ((M.1 (w + 3) x1.toNatClampNeg) - x3)) fun M_3 =>
  zG (zin x2 5) <|
  zG (zin x2 5) <|
  zL (zu M_3 (w + 3) x2.toNatClampNeg (zmin (999 : Int32) ((M_3.1 (w + 3) x2.toNatClampNeg) + x3))) fun M_6 =>
  zG (zin x2 5) <|
  zG (zin x2 5) <|
  zL (zu M_6 (w + 4) x2.toNatClampNeg (zmin (999 : Int32) ((M_6.1 (w + 4) x2.toNatClampNeg) + x3))) fun M_9 =>
  some M_9
set_option maxHeartbeats 4000000 in
set_option maxRecDepth 100000 in
theorem mtX4_drawOff (l : Launch) (G : zGr) (hJ : zJ G 64) (w : Nat) (hw : isW w) (x1 : Int32) (x2 : Int32) (x3 : Int32) (M : zM) (o : zM) (hf : fX4_drawOff w x1 x2 x3 M = some o) : zMv l G shX 64 yX4_drawOff cX4_drawOff 4 none 1 24 [.ref (G.2.2.1 w), .int x1, .int x2, .int x3] M o := by
  intro sz
  refine zOf (by decide) (Nat.le_of_ble_eq_true rfl) ?_
  intro p e R Q s m args below meth c hRm hsz hQ C0 hP hS ls hl
  subst hsz
  replace hRm : R = { frames := 1, cells := 0, slots := 0, locals := 24 } := hRm
  have hl : lv_has ls 4 [(0, .ref (G.2.2.1 w)), (1, .int x1), (2, .int x2), (3, .int x3)] := hl
  have hx := C0.1
  have hb := C0.2.1
  have hown := C0.2.2.2.1
  have hts := C0.2.2.2.2.1
  unfold fX4_drawOff at hf
  obtain ⟨H, eH⟩ : ∃ H, H = s.heap := ⟨_, rfl⟩
  obtain ⟨locs, el⟩ : ∃ locs : List Loc, locs = [] := ⟨_, rfl⟩
  rw [← eH] at hP ⊢
  have hS : va_S (zA G 64 s.heap.size) s.heap H locs := by rw [eH, el]; exact hS
  rw [← el]
  refine lv_aload_n hx hb dX4_drawOff_0 rfl (lv_at hl 0 rfl) ?_
  refine zr_getq (C := RX4) (T := TX4) (n := 11) C0 hP w (isW_lt hw) (isW_s hw) 3 (w + 3) rfl (by decide) uw_X4 mw_78 rfl dX4_drawOff_1 ?_
  refine lv_iload_n hx hb dX4_drawOff_4 rfl (lv_at hl 1 rfl) ?_
  refine lv_dup2_11 hx hb dX4_drawOff_5 rfl rfl ?_
  obtain ⟨hg_1, hf⟩ := zG_o hf
  refine zr_iald C0 hP (w + 3) (isW_lt3 hw) (isW_s3 hw) hg_1 dX4_drawOff_6 ?_
  refine lv_iload_n hx hb dX4_drawOff_7 rfl (lv_at hl 3 rfl) ?_
  refine lv_isub hx hb dX4_drawOff_8 ?_
  obtain ⟨hg_2, hf⟩ := zG_o hf
  refine zr_iast C0 hJ hP hS (w + 3) (isW_lt3 hw) (isW_s3 hw) hg_2 dX4_drawOff_9 (fun H locs hP hS => ?_)
  obtain ⟨M_3, eM_3, hf⟩ := zL_o hf
  have hP : va_P G.1 zcl (zw G shX 64 M_3) H := by rw [eM_3]; exact hP
  refine lv_aload_n hx hb dX4_drawOff_10 rfl (lv_at hl 0 rfl) ?_
  refine zr_getq (C := RX4) (T := TX4) (n := 11) C0 hP w (isW_lt hw) (isW_s hw) 3 (w + 3) rfl (by decide) uw_X4 mw_78 rfl dX4_drawOff_11 ?_
  refine lv_iload_n hx hb dX4_drawOff_14 rfl (lv_at hl 2 rfl) ?_
  refine lv_sipush (v := (999 : Int32)) hx hb dX4_drawOff_15 (by decide) ?_
  refine lv_aload_n hx hb dX4_drawOff_18 rfl (lv_at hl 0 rfl) ?_
  refine zr_getq (C := RX4) (T := TX4) (n := 11) C0 hP w (isW_lt hw) (isW_s hw) 3 (w + 3) rfl (by decide) uw_X4 mw_78 rfl dX4_drawOff_19 ?_
  refine lv_iload_n hx hb dX4_drawOff_22 rfl (lv_at hl 2 rfl) ?_
  obtain ⟨hg_4, hf⟩ := zG_o hf
  refine zr_iald C0 hP (w + 3) (isW_lt3 hw) (isW_s3 hw) hg_4 dX4_drawOff_23 ?_
  refine lv_iload_n hx hb dX4_drawOff_24 rfl (lv_at hl 3 rfl) ?_
  refine lv_iadd hx hb dX4_drawOff_25 ?_
  refine zo_min C0 hl.1 mw_103 mw_32 mw_29 mw_33 (by rw [hRm]; exact Nat.le_of_ble_eq_true rfl) (by rw [hRm]; exact Nat.le_of_ble_eq_true rfl) ⟨Nat.zero_le _, Nat.zero_le _⟩ dX4_drawOff_26 ?_
  obtain ⟨hg_5, hf⟩ := zG_o hf
  refine zr_iast C0 hJ hP hS (w + 3) (isW_lt3 hw) (isW_s3 hw) hg_5 dX4_drawOff_29 (fun H locs hP hS => ?_)
  obtain ⟨M_6, eM_6, hf⟩ := zL_o hf
  have hP : va_P G.1 zcl (zw G shX 64 M_6) H := by rw [eM_6]; exact hP
  refine lv_aload_n hx hb dX4_drawOff_30 rfl (lv_at hl 0 rfl) ?_
  refine zr_getq (C := RX4) (T := TX4) (n := 11) C0 hP w (isW_lt hw) (isW_s hw) 4 (w + 4) rfl (by decide) uw_X4 mw_86 rfl dX4_drawOff_31 ?_
  refine lv_iload_n hx hb dX4_drawOff_34 rfl (lv_at hl 2 rfl) ?_
  refine lv_sipush (v := (999 : Int32)) hx hb dX4_drawOff_35 (by decide) ?_
  refine lv_aload_n hx hb dX4_drawOff_38 rfl (lv_at hl 0 rfl) ?_
  refine zr_getq (C := RX4) (T := TX4) (n := 11) C0 hP w (isW_lt hw) (isW_s hw) 4 (w + 4) rfl (by decide) uw_X4 mw_86 rfl dX4_drawOff_39 ?_
  refine lv_iload_n hx hb dX4_drawOff_42 rfl (lv_at hl 2 rfl) ?_
  obtain ⟨hg_7, hf⟩ := zG_o hf
  refine zr_iald C0 hP (w + 4) (isW_lt4 hw) (isW_s4 hw) hg_7 dX4_drawOff_43 ?_
  refine lv_iload_n hx hb dX4_drawOff_44 rfl (lv_at hl 3 rfl) ?_
  refine lv_iadd hx hb dX4_drawOff_45 ?_
  refine zo_min C0 hl.1 mw_103 mw_32 mw_29 mw_33 (by rw [hRm]; exact Nat.le_of_ble_eq_true rfl) (by rw [hRm]; exact Nat.le_of_ble_eq_true rfl) ⟨Nat.zero_le _, Nat.zero_le _⟩ dX4_drawOff_46 ?_
  obtain ⟨hg_8, hf⟩ := zG_o hf
  refine zr_iast C0 hJ hP hS (w + 4) (isW_lt4 hw) (isW_s4 hw) hg_8 dX4_drawOff_49 (fun H locs hP hS => ?_)
  obtain ⟨M_9, eM_9, hf⟩ := zL_o hf
  have hP : va_P G.1 zcl (zw G shX 64 M_9) H := by rw [eM_9]; exact hP
  exact ze_v C0 hP hS hf dX4_drawOff_50 hQ
def fX4_rueOfAll_B4 (w : Nat) (r4 : Int32 → Int32 → zM → Option (Int32 × zM)) (x1 : Int32) (x2 : Int32) (M : zM) : Option (Int32 × zM) :=
  if (M.1 w 7) ≤ x2 then
    some (x1, M)
  else
    zG (zin x2 5) <|
    zL (x1 + (M.1 (w + 3) x2.toNatClampNeg)) fun x1_3 =>
    zL (x2 + (1 : Int32)) fun x2_4 =>
    r4 x1_3 x2_4 M
def fX4_rueOfAll_L4 (w : Nat) : Nat → Int32 → Int32 → zM → Option (Int32 × zM)
  | 0 => fun _ _ _ => none
  | j9 + 1 => fX4_rueOfAll_B4 w (fX4_rueOfAll_L4 w j9)
def fX4_rueOfAll (w : Nat) (M : zM) : Option (Int32 × zM) :=
  fX4_rueOfAll_L4 w zF (0 : Int32) (0 : Int32) M
set_option maxHeartbeats 4000000 in
set_option maxRecDepth 100000 in
theorem mtX4_rueOfAll (l : Launch) (G : zGr) (hJ : zJ G 64) (w : Nat) (hw : isW w) (M : zM) (o : Int32 × zM) (hf : fX4_rueOfAll w M = some o) : zMi l G shX 64 yX4_rueOfAll cX4_rueOfAll 3 (some .int) 0 0 [.ref (G.2.2.1 w)] M o := by
  intro sz
  refine zOf (by decide) (Nat.le_of_ble_eq_true rfl) ?_
  intro p e R Q s m args below meth c hRm hsz hQ C0 hP hS ls hl
  subst hsz
  replace hRm : R = { frames := 0, cells := 0, slots := 0, locals := 0 } := hRm
  have hl : lv_has ls 3 [(0, .ref (G.2.2.1 w))] := hl
  have hx := C0.1
  have hb := C0.2.1
  have hown := C0.2.2.2.1
  have hts := C0.2.2.2.2.1
  have L4 : ∀ (n4 : Nat), ∀ (x1 : Int32) (x2 : Int32) (M : zM) (H : Heap) (locs : List Loc) (ls : Array Slot), lv_has ls 3 [(0, .ref (G.2.2.1 w)), (1, .int x1), (2, .int x2)] → va_P G.1 zcl (zw G shX 64 M) H → va_S (zA G 64 s.heap.size) s.heap H locs → fX4_rueOfAll_L4 w n4 x1 x2 M = some o → W p l e R s m args below meth c H locs 0 0 Q (F0 m 4 ls []) := by
    intro n4
    induction n4 with
    | zero => intro x1 x2 M H locs ls hl hP hS hf; exact zn_s (show none = some o from hf)
    | succ n4 ih4 =>
      intro x1 x2 M H locs ls hl hP hS hf
      replace hf : fX4_rueOfAll_B4 w (fX4_rueOfAll_L4 w n4) x1 x2 M = some o := hf
      unfold fX4_rueOfAll_B4 at hf
      refine lv_iload_n hx hb dX4_rueOfAll_4 rfl (lv_at hl 2 rfl) ?_
      refine lv_aload_n hx hb dX4_rueOfAll_5 rfl (lv_at hl 0 rfl) ?_
      refine zr_get (C := RX4) (T := TX4) (n := 11) C0 hP w (isW_lt hw) (isW_s hw) 7 rfl (by decide) uw_X4 mw_77 rfl dX4_rueOfAll_6 ?_
      refine lv_icmp_ge (tgt := 27) hx hb dX4_rueOfAll_9 (by decide) (fun c_1 => ?_) (fun c_1 => ?_)
      · replace hf := zI_t c_1 hf
        refine lv_iload_n hx hb dX4_rueOfAll_27 rfl (lv_at hl 1 rfl) ?_
        exact ze_i C0 hP hS hf dX4_rueOfAll_28 hQ
      · replace hf := zI_f c_1 hf
        refine lv_iload_n hx hb dX4_rueOfAll_12 rfl (lv_at hl 1 rfl) ?_
        refine lv_aload_n hx hb dX4_rueOfAll_13 rfl (lv_at hl 0 rfl) ?_
        refine zr_getq (C := RX4) (T := TX4) (n := 11) C0 hP w (isW_lt hw) (isW_s hw) 3 (w + 3) rfl (by decide) uw_X4 mw_78 rfl dX4_rueOfAll_14 ?_
        refine lv_iload_n hx hb dX4_rueOfAll_17 rfl (lv_at hl 2 rfl) ?_
        obtain ⟨hg_2, hf⟩ := zG_o hf
        refine zr_iald C0 hP (w + 3) (isW_lt3 hw) (isW_s3 hw) hg_2 dX4_rueOfAll_18 ?_
        refine lv_iadd hx hb dX4_rueOfAll_19 ?_
        refine lv_topi (fun x1_3 ex1_3 => ?_)
        replace hf := zL_e ex1_3 hf
        refine lv_istore_n (lv' := [(1, .int x1_3), (0, .ref (G.2.2.1 w)), (2, .int x2)]) hx hb dX4_rueOfAll_20 rfl hl (by decide) rfl (fun ls hl => ?_)
        obtain ⟨x2_4, ex2_4, hf⟩ := zL_o hf
        refine lv_iinc (v := x2_4) (lv' := [(2, .int x2_4), (1, .int x1_3), (0, .ref (G.2.2.1 w))]) hx hb dX4_rueOfAll_21 hl (k := 2) rfl (by rw [ex2_4]; rfl) (by decide) rfl (fun ls hl => ?_)
        refine lv_goto (tgt := 4) hx hb dX4_rueOfAll_24 (by decide) ?_
        exact ih4 x1_3 x2_4 M H locs ls (lv_sub hl [2, 1, 0] rfl) hP hS hf
  unfold fX4_rueOfAll at hf
  obtain ⟨H, eH⟩ : ∃ H, H = s.heap := ⟨_, rfl⟩
  obtain ⟨locs, el⟩ : ∃ locs : List Loc, locs = [] := ⟨_, rfl⟩
  rw [← eH] at hP ⊢
  have hS : va_S (zA G 64 s.heap.size) s.heap H locs := by rw [eH, el]; exact hS
  rw [← el]
  refine lv_iconst (v := (0 : Int32)) hx hb dX4_rueOfAll_0 (by decide) ?_
  refine lv_istore_n (lv' := [(1, .int (0 : Int32)), (0, .ref (G.2.2.1 w))]) hx hb dX4_rueOfAll_1 rfl hl (by decide) rfl (fun ls hl => ?_)
  refine lv_iconst (v := (0 : Int32)) hx hb dX4_rueOfAll_2 (by decide) ?_
  refine lv_istore_n (lv' := [(2, .int (0 : Int32)), (1, .int (0 : Int32)), (0, .ref (G.2.2.1 w))]) hx hb dX4_rueOfAll_3 rfl hl (by decide) rfl (fun ls hl => ?_)
  exact L4 zF (0 : Int32) (0 : Int32) M H locs ls (lv_sub hl [2, 1, 0] rfl) hP hS hf
def fX4_longest_B6 (w : Nat) (r6 : Int32 → Int32 → Int32 → zM → Option (Int32 × zM)) (x1 : Int32) (x2 : Int32) (x3 : Int32) (M : zM) : Option (Int32 × zM) :=
  if (M.1 w 7) ≤ x3 then
    some (x1, M)
  else
    zB (fX4_minutesOf w x3 M) fun r_4 M_2 =>
    if r_4 ≤ x2 then
      zL (x3 + (1 : Int32)) fun x3_6 =>
      r6 x1 x2 x3_6 M_2
    else
      zL (x3 + (1 : Int32)) fun x3_7 =>
      r6 x3 r_4 x3_7 M_2
def fX4_longest_L6 (w : Nat) : Nat → Int32 → Int32 → Int32 → zM → Option (Int32 × zM)
  | 0 => fun _ _ _ _ => none
  | j9 + 1 => fX4_longest_B6 w (fX4_longest_L6 w j9)
def fX4_longest (w : Nat) (M : zM) : Option (Int32 × zM) :=
  fX4_longest_L6 w zF (-1 : Int32) (-1 : Int32) (0 : Int32) M
set_option maxHeartbeats 4000000 in
set_option maxRecDepth 100000 in
theorem mtX4_longest (l : Launch) (G : zGr) (hJ : zJ G 64) (w : Nat) (hw : isW w) (M : zM) (o : Int32 × zM) (hf : fX4_longest w M = some o) : zMi l G shX 64 yX4_longest cX4_longest 5 (some .int) 5 114 [.ref (G.2.2.1 w)] M o := by
  intro sz
  refine zOf (by decide) (Nat.le_of_ble_eq_true rfl) ?_
  intro p e R Q s m args below meth c hRm hsz hQ C0 hP hS ls hl
  subst hsz
  replace hRm : R = { frames := 5, cells := 0, slots := 0, locals := 114 } := hRm
  have hl : lv_has ls 5 [(0, .ref (G.2.2.1 w))] := hl
  have hx := C0.1
  have hb := C0.2.1
  have hown := C0.2.2.2.1
  have hts := C0.2.2.2.2.1
  have L6 : ∀ (n6 : Nat), ∀ (x1 : Int32) (x2 : Int32) (x3 : Int32) (M : zM) (H : Heap) (locs : List Loc) (ls : Array Slot), lv_has ls 5 [(0, .ref (G.2.2.1 w)), (1, .int x1), (2, .int x2), (3, .int x3)] → va_P G.1 zcl (zw G shX 64 M) H → va_S (zA G 64 s.heap.size) s.heap H locs → fX4_longest_L6 w n6 x1 x2 x3 M = some o → W p l e R s m args below meth c H locs 0 0 Q (F0 m 6 ls []) := by
    intro n6
    induction n6 with
    | zero => intro x1 x2 x3 M H locs ls hl hP hS hf; exact zn_s (show none = some o from hf)
    | succ n6 ih6 =>
      intro x1 x2 x3 M H locs ls hl hP hS hf
      replace hf : fX4_longest_B6 w (fX4_longest_L6 w n6) x1 x2 x3 M = some o := hf
      unfold fX4_longest_B6 at hf
      refine lv_iload_n hx hb dX4_longest_6 rfl (lv_at hl 3 rfl) ?_
      refine lv_aload_n hx hb dX4_longest_7 rfl (lv_at hl 0 rfl) ?_
      refine zr_get (C := RX4) (T := TX4) (n := 11) C0 hP w (isW_lt hw) (isW_s hw) 7 rfl (by decide) uw_X4 mw_77 rfl dX4_longest_8 ?_
      refine lv_icmp_ge (tgt := 38) hx hb dX4_longest_11 (by decide) (fun c_1 => ?_) (fun c_1 => ?_)
      · replace hf := zI_t c_1 hf
        refine lv_iload_n hx hb dX4_longest_38 rfl (lv_at hl 1 rfl) ?_
        exact ze_i C0 hP hS hf dX4_longest_39 hQ
      · replace hf := zI_f c_1 hf
        refine lv_aload_n hx hb dX4_longest_14 rfl (lv_at hl 0 rfl) ?_
        refine lv_iload_n hx hb dX4_longest_15 rfl (lv_at hl 3 rfl) ?_
        obtain ⟨r_4, M_2, hc_3, hf⟩ := zB_o hf
        refine zc_vi (As := [.int x3]) (rest := []) C0 hP hS hl.1 w (mtX4_minutesOf l G hJ w hw x3 M _ hc_3) lk_X4_81 (isW_lt hw) (isW_s hw) (T := TX4) (n' := 11) rfl ds_X4_minutesOf (by rw [hRm]; exact ⟨Nat.le_of_ble_eq_true rfl, Nat.le_of_ble_eq_true rfl⟩) rfl rfl (Nat.le_of_ble_eq_true rfl) dX4_longest_16 ⟨Nat.zero_le _, Nat.zero_le _⟩ (fun H locs hP hS => ?_)
        refine lv_istore (lv' := [(4, .int r_4), (0, .ref (G.2.2.1 w)), (1, .int x1), (2, .int x2), (3, .int x3)]) hx hb dX4_longest_19 hl (by decide) rfl (fun ls hl => ?_)
        refine lv_iload hx hb dX4_longest_21 (lv_at hl 0 rfl) ?_
        refine lv_iload_n hx hb dX4_longest_23 rfl (lv_at hl 3 rfl) ?_
        refine lv_icmp_le (tgt := 32) hx hb dX4_longest_24 (by decide) (fun c_5 => ?_) (fun c_5 => ?_)
        · replace hf := zI_t c_5 hf
          obtain ⟨x3_6, ex3_6, hf⟩ := zL_o hf
          refine lv_iinc (v := x3_6) (lv' := [(3, .int x3_6), (4, .int r_4), (0, .ref (G.2.2.1 w)), (1, .int x1), (2, .int x2)]) hx hb dX4_longest_32 hl (k := 4) rfl (by rw [ex3_6]; rfl) (by decide) rfl (fun ls hl => ?_)
          refine lv_goto (tgt := 6) hx hb dX4_longest_35 (by decide) ?_
          exact ih6 x1 x2 x3_6 M_2 H locs ls (lv_sub hl [2, 3, 4, 0] rfl) hP hS hf
        · replace hf := zI_f c_5 hf
          refine lv_iload_n hx hb dX4_longest_27 rfl (lv_at hl 4 rfl) ?_
          refine lv_istore_n (lv' := [(1, .int x3), (4, .int r_4), (0, .ref (G.2.2.1 w)), (2, .int x2), (3, .int x3)]) hx hb dX4_longest_28 rfl hl (by decide) rfl (fun ls hl => ?_)
          refine lv_iload hx hb dX4_longest_29 (lv_at hl 1 rfl) ?_
          refine lv_istore_n (lv' := [(2, .int r_4), (1, .int x3), (4, .int r_4), (0, .ref (G.2.2.1 w)), (3, .int x3)]) hx hb dX4_longest_31 rfl hl (by decide) rfl (fun ls hl => ?_)
          obtain ⟨x3_7, ex3_7, hf⟩ := zL_o hf
          refine lv_iinc (v := x3_7) (lv' := [(3, .int x3_7), (2, .int r_4), (1, .int x3), (4, .int r_4), (0, .ref (G.2.2.1 w))]) hx hb dX4_longest_32 hl (k := 4) rfl (by rw [ex3_7]; rfl) (by decide) rfl (fun ls hl => ?_)
          refine lv_goto (tgt := 6) hx hb dX4_longest_35 (by decide) ?_
          exact ih6 x3 r_4 x3_7 M_2 H locs ls (lv_sub hl [4, 2, 1, 0] rfl) hP hS hf
  unfold fX4_longest at hf
  obtain ⟨H, eH⟩ : ∃ H, H = s.heap := ⟨_, rfl⟩
  obtain ⟨locs, el⟩ : ∃ locs : List Loc, locs = [] := ⟨_, rfl⟩
  rw [← eH] at hP ⊢
  have hS : va_S (zA G 64 s.heap.size) s.heap H locs := by rw [eH, el]; exact hS
  rw [← el]
  refine lv_iconst (v := (-1 : Int32)) hx hb dX4_longest_0 (by decide) ?_
  refine lv_istore_n (lv' := [(1, .int (-1 : Int32)), (0, .ref (G.2.2.1 w))]) hx hb dX4_longest_1 rfl hl (by decide) rfl (fun ls hl => ?_)
  refine lv_iconst (v := (-1 : Int32)) hx hb dX4_longest_2 (by decide) ?_
  refine lv_istore_n (lv' := [(2, .int (-1 : Int32)), (1, .int (-1 : Int32)), (0, .ref (G.2.2.1 w))]) hx hb dX4_longest_3 rfl hl (by decide) rfl (fun ls hl => ?_)
  refine lv_iconst (v := (0 : Int32)) hx hb dX4_longest_4 (by decide) ?_
  refine lv_istore_n (lv' := [(3, .int (0 : Int32)), (2, .int (-1 : Int32)), (1, .int (-1 : Int32)), (0, .ref (G.2.2.1 w))]) hx hb dX4_longest_5 rfl hl (by decide) rfl (fun ls hl => ?_)
  exact L6 zF (-1 : Int32) (-1 : Int32) (0 : Int32) M H locs ls (lv_sub hl [3, 2, 1, 0] rfl) hP hS hf
def fX4_whoClog_B4 (w : Nat) (r4 : Int32 → Int32 → zM → Option (Int32 × zM)) (x1 : Int32) (x2 : Int32) (M : zM) : Option (Int32 × zM) :=
  if (M.1 w 7) ≤ x2 then
    some (x1, M)
  else
    zB (fX4_clogsOf w x2 M) fun r_4 M_2 =>
    if r_4 = (0 : Int32) then
      zL (x2 + (1 : Int32)) fun x2_6 =>
      r4 x1 x2_6 M_2
    else
      zL (x1 ||| (zshl (1 : Int32) x2)) fun x1_7 =>
      zL (x2 + (1 : Int32)) fun x2_8 =>
      r4 x1_7 x2_8 M_2
def fX4_whoClog_L4 (w : Nat) : Nat → Int32 → Int32 → zM → Option (Int32 × zM)
  | 0 => fun _ _ _ => none
  | j9 + 1 => fX4_whoClog_B4 w (fX4_whoClog_L4 w j9)
def fX4_whoClog (w : Nat) (M : zM) : Option (Int32 × zM) :=
  fX4_whoClog_L4 w zF (0 : Int32) (0 : Int32) M
set_option maxHeartbeats 4000000 in
set_option maxRecDepth 100000 in
theorem mtX4_whoClog (l : Launch) (G : zGr) (hJ : zJ G 64) (w : Nat) (hw : isW w) (M : zM) (o : Int32 × zM) (hf : fX4_whoClog w M = some o) : zMi l G shX 64 yX4_whoClog cX4_whoClog 3 (some .int) 4 92 [.ref (G.2.2.1 w)] M o := by
  intro sz
  refine zOf (by decide) (Nat.le_of_ble_eq_true rfl) ?_
  intro p e R Q s m args below meth c hRm hsz hQ C0 hP hS ls hl
  subst hsz
  replace hRm : R = { frames := 4, cells := 0, slots := 0, locals := 92 } := hRm
  have hl : lv_has ls 3 [(0, .ref (G.2.2.1 w))] := hl
  have hx := C0.1
  have hb := C0.2.1
  have hown := C0.2.2.2.1
  have hts := C0.2.2.2.2.1
  have L4 : ∀ (n4 : Nat), ∀ (x1 : Int32) (x2 : Int32) (M : zM) (H : Heap) (locs : List Loc) (ls : Array Slot), lv_has ls 3 [(0, .ref (G.2.2.1 w)), (1, .int x1), (2, .int x2)] → va_P G.1 zcl (zw G shX 64 M) H → va_S (zA G 64 s.heap.size) s.heap H locs → fX4_whoClog_L4 w n4 x1 x2 M = some o → W p l e R s m args below meth c H locs 0 0 Q (F0 m 4 ls []) := by
    intro n4
    induction n4 with
    | zero => intro x1 x2 M H locs ls hl hP hS hf; exact zn_s (show none = some o from hf)
    | succ n4 ih4 =>
      intro x1 x2 M H locs ls hl hP hS hf
      replace hf : fX4_whoClog_B4 w (fX4_whoClog_L4 w n4) x1 x2 M = some o := hf
      unfold fX4_whoClog_B4 at hf
      refine lv_iload_n hx hb dX4_whoClog_4 rfl (lv_at hl 2 rfl) ?_
      refine lv_aload_n hx hb dX4_whoClog_5 rfl (lv_at hl 0 rfl) ?_
      refine zr_get (C := RX4) (T := TX4) (n := 11) C0 hP w (isW_lt hw) (isW_s hw) 7 rfl (by decide) uw_X4 mw_77 rfl dX4_whoClog_6 ?_
      refine lv_icmp_ge (tgt := 32) hx hb dX4_whoClog_9 (by decide) (fun c_1 => ?_) (fun c_1 => ?_)
      · replace hf := zI_t c_1 hf
        refine lv_iload_n hx hb dX4_whoClog_32 rfl (lv_at hl 1 rfl) ?_
        exact ze_i C0 hP hS hf dX4_whoClog_33 hQ
      · replace hf := zI_f c_1 hf
        refine lv_aload_n hx hb dX4_whoClog_12 rfl (lv_at hl 0 rfl) ?_
        refine lv_iload_n hx hb dX4_whoClog_13 rfl (lv_at hl 2 rfl) ?_
        obtain ⟨r_4, M_2, hc_3, hf⟩ := zB_o hf
        refine zc_vi (As := [.int x2]) (rest := []) C0 hP hS hl.1 w (mtX4_clogsOf l G hJ w hw x2 M _ hc_3) lk_X4_64 (isW_lt hw) (isW_s hw) (T := TX4) (n' := 11) rfl ds_X4_clogsOf (by rw [hRm]; exact ⟨Nat.le_of_ble_eq_true rfl, Nat.le_of_ble_eq_true rfl⟩) rfl rfl (Nat.le_of_ble_eq_true rfl) dX4_whoClog_14 ⟨Nat.zero_le _, Nat.zero_le _⟩ (fun H locs hP hS => ?_)
        refine lv_if_eq (tgt := 26) hx hb dX4_whoClog_17 (by decide) (fun c_5 => ?_) (fun c_5 => ?_)
        · replace hf := zI_t c_5 hf
          obtain ⟨x2_6, ex2_6, hf⟩ := zL_o hf
          refine lv_iinc (v := x2_6) (lv' := [(2, .int x2_6), (0, .ref (G.2.2.1 w)), (1, .int x1)]) hx hb dX4_whoClog_26 hl (k := 2) rfl (by rw [ex2_6]; rfl) (by decide) rfl (fun ls hl => ?_)
          refine lv_goto (tgt := 4) hx hb dX4_whoClog_29 (by decide) ?_
          exact ih4 x1 x2_6 M_2 H locs ls (lv_sub hl [1, 2, 0] rfl) hP hS hf
        · replace hf := zI_f c_5 hf
          refine lv_iload_n hx hb dX4_whoClog_20 rfl (lv_at hl 1 rfl) ?_
          refine lv_iconst (v := (1 : Int32)) hx hb dX4_whoClog_21 (by decide) ?_
          refine lv_iload_n hx hb dX4_whoClog_22 rfl (lv_at hl 2 rfl) ?_
          refine zo_ishl hx hb dX4_whoClog_23 ?_
          refine lv_ior hx hb dX4_whoClog_24 ?_
          refine lv_topi (fun x1_7 ex1_7 => ?_)
          replace hf := zL_e ex1_7 hf
          refine lv_istore_n (lv' := [(1, .int x1_7), (0, .ref (G.2.2.1 w)), (2, .int x2)]) hx hb dX4_whoClog_25 rfl hl (by decide) rfl (fun ls hl => ?_)
          obtain ⟨x2_8, ex2_8, hf⟩ := zL_o hf
          refine lv_iinc (v := x2_8) (lv' := [(2, .int x2_8), (1, .int x1_7), (0, .ref (G.2.2.1 w))]) hx hb dX4_whoClog_26 hl (k := 2) rfl (by rw [ex2_8]; rfl) (by decide) rfl (fun ls hl => ?_)
          refine lv_goto (tgt := 4) hx hb dX4_whoClog_29 (by decide) ?_
          exact ih4 x1_7 x2_8 M_2 H locs ls (lv_sub hl [2, 1, 0] rfl) hP hS hf
  unfold fX4_whoClog at hf
  obtain ⟨H, eH⟩ : ∃ H, H = s.heap := ⟨_, rfl⟩
  obtain ⟨locs, el⟩ : ∃ locs : List Loc, locs = [] := ⟨_, rfl⟩
  rw [← eH] at hP ⊢
  have hS : va_S (zA G 64 s.heap.size) s.heap H locs := by rw [eH, el]; exact hS
  rw [← el]
  refine lv_iconst (v := (0 : Int32)) hx hb dX4_whoClog_0 (by decide) ?_
  refine lv_istore_n (lv' := [(1, .int (0 : Int32)), (0, .ref (G.2.2.1 w))]) hx hb dX4_whoClog_1 rfl hl (by decide) rfl (fun ls hl => ?_)
  refine lv_iconst (v := (0 : Int32)) hx hb dX4_whoClog_2 (by decide) ?_
  refine lv_istore_n (lv' := [(2, .int (0 : Int32)), (1, .int (0 : Int32)), (0, .ref (G.2.2.1 w))]) hx hb dX4_whoClog_3 rfl hl (by decide) rfl (fun ls hl => ?_)
  exact L4 zF (0 : Int32) (0 : Int32) M H locs ls (lv_sub hl [2, 1, 0] rfl) hP hS hf

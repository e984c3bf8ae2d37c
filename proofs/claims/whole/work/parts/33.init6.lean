def zM0M : zM := (fun i => match i with
  | _ => (fun _ => 0), fun _ _ => 0)
def fX6_init_B177 (r177 : Int32 → zM → Option (zM)) (x1 : Int32) (M : zM) : Option (zM) :=
  if (4 : Int32) ≤ x1 then
    zV (fX6_codes (16 : Int32) M) fun M_2 =>
    zV (fX6_codes (0 : Int32) M_2) fun M_4 =>
    zV (fX6_codes (6 : Int32) M_4) fun M_6 =>
    zV (fX6_codes (15 : Int32) M_6) fun M_8 =>
    zV (fX6_codes (16 : Int32) M_8) fun M_10 =>
    zL (zu M_10 7 (0 : Int32).toNatClampNeg (3 : Int32)) fun M_12 =>
    zL (zu M_12 6 (1 : Int32).toNatClampNeg (3 : Int32)) fun M_13 =>
    zL (zu M_13 7 (1 : Int32).toNatClampNeg (1 : Int32)) fun M_14 =>
    zL (zu M_14 6 (2 : Int32).toNatClampNeg (4 : Int32)) fun M_15 =>
    zL (zu M_15 7 (2 : Int32).toNatClampNeg (1 : Int32)) fun M_16 =>
    zL (zu M_16 0 10 (1 : Int32)) fun M_17 =>
    some M_17
  else
    zG (zin x1 4) <|
    zL (zu M 20 x1.toNatClampNeg (-1 : Int32)) fun M_19 =>
    zL (x1 + (1 : Int32)) fun x1_20 =>
    r177 x1_20 M_19
def fX6_init_L177 : Nat → Int32 → zM → Option (zM)
  | 0 => fun _ _ => none
  | j9 + 1 => fX6_init_B177 (fX6_init_L177 j9)
def fX6_init_J175 (M : zM) : Option (zM) :=
  fX6_init_L177 zF (0 : Int32) M
set_option maxHeartbeats 8000000 in
set_option maxRecDepth 100000 in
theorem ci_X6_init (l : Launch) (D : va_G) (ca : Nat → ClassId) (sa : Nat → Nat) (a : Nat) (o : zM) (ho : fX6_init_J175 zM0M = some o) (sz : Nat) : Met l yX6_init (.code yX6_init cX6_init 2 none :: zT) { frames := 1, cells := 22, slots := 65820, locals := 32 } (zIp D ca sa [.ref a] [(a, .inr (6, oX6 []))] sz) (va_Qv (fun u : (Nat → Nat) × zM => u.2 = o ∧ u.1 0 = a ∧ zJ (D, ca, u.1, sa) 23 ∧ ∀ i, i < 23 → 0 < i → sz ≤ u.1 i) (fun u t => va_P D zcl (zw (D, ca, u.1, sa) shM 23 u.2) t.heap) (va_A [(a, .inr (6, oX6 []))] sz)) 22 65820 (va_A [(a, .inr (6, oX6 []))] sz) := by
  refine zIof (by decide) (Nat.le_of_ble_eq_true rfl) ?_
  intro p e R Q s m args below meth c A hRm hsz hAe hQ hx hb hml hown hts hr hlk hin hK hSt hA hP hD hS ls hl
  subst hsz
  replace hRm : R = { frames := 1, cells := 22, slots := 65820, locals := 32 } := hRm
  replace hl : lv_has ls 2 [(0, .ref a)] := hl
  obtain ⟨X0, eX0⟩ : ∃ X : va_W, X = [] := ⟨_, rfl⟩
  replace hP : va_P D zcl ([(a, .inr (6, oX6 []))] ++ X0) s.heap := by rw [eX0]; exact hP
  replace hD : va_D A ([(a, .inr (6, oX6 []))] ++ X0) := by rw [eX0]; exact hD
  refine lv_aload_n hx hb dX6_init_0 rfl (lv_at hl 0 rfl) ?_
  refine W.objInit hx hb hown (hts _ mw_727) (hts _ mw_689) (hts _ mw_690) rfl (by rw [hml]; exact hl.1) rfl dX6_init_1 (by rw [hRm]; exact Nat.le_of_ble_eq_true rfl) (by rw [hRm]; exact Nat.le_of_ble_eq_true rfl) ?_
  refine W.eq (g2 := F0 m 4 ls []) rfl ?_
  refine lv_aload_n hx hb dX6_init_4 rfl (lv_at hl 0 rfl) ?_
  refine lv_iconst (v := (5 : Int32)) hx hb dX6_init_5 (by decide) ?_
  refine zn_i (N' := 5) hx hb hts hK hP hD hS hA mw_691 (by decide) (by decide) (Nat.le_of_ble_eq_true rfl) (by rw [hRm]; exact Nat.le_of_ble_eq_true rfl) (by rw [hRm]; exact Nat.le_of_ble_eq_true rfl) dX6_init_6 (fun q1 H1 _ _ _ => ?_)
  clear hP hD hS
  rename_i hP hD hS
  try clear s.heap
  replace hP := zP_perm (zfr _ _) hP
  replace hD := zD_perm (zfr _ _) hD
  refine W.widen (k := 1) (n := 5) (by omega) (by omega) ?_
  refine va_putF (D := D) (ci := 6) (v := .ref q1) (ty := (.array .int)) (C := RX6) (T := TX6) (N := 51) hx hb hts uw_X6 tyX6 tyX6_ok nmX6 hown hK hP hD hS 1 rfl rfl 3 (by decide) (hts _ mw_413) (fun _ h9 => h9) rfl hin rfl (by decide +kernel) rfl rfl (Nat.le_of_ble_eq_true rfl) dX6_init_8 (fun H2 _ _ _ _ => ?_)
  clear hP hD hS; try clear locs
  rename_i locs hP hD hS
  try clear H1
  replace hP : va_P D zcl ([(q1, .inl (ca 0, 5, .inl (fun _ => 0))), (a, .inr (6, oX6 [q1]))] ++ X0) H2 := hP
  replace hD : va_D A ([(q1, .inl (ca 0, 5, .inl (fun _ => 0))), (a, .inr (6, oX6 [q1]))] ++ X0) := hD
  replace hP := zP_perm (zsw [] [(q1, .inl (ca 0, 5, .inl (fun _ => 0)))] [(a, .inr (6, oX6 [q1]))] X0) hP
  replace hD := zD_perm (zsw [] [(q1, .inl (ca 0, 5, .inl (fun _ => 0)))] [(a, .inr (6, oX6 [q1]))] X0) hD
  obtain ⟨X1, eX1⟩ : ∃ X : va_W, X = [(q1, .inl (ca 0, 5, .inl (fun _ => 0)))] ++ X0 := ⟨_, rfl⟩
  rw [← eX1] at hP hD
  replace hP : va_P D zcl ([(a, .inr (6, oX6 [q1]))] ++ X1) H2 := hP
  replace hD : va_D A ([(a, .inr (6, oX6 [q1]))] ++ X1) := hD
  refine lv_aload_n hx hb dX6_init_11 rfl (lv_at hl 0 rfl) ?_
  refine lv_iconst (v := (5 : Int32)) hx hb dX6_init_12 (by decide) ?_
  refine zn_i (N' := 5) hx hb hts hK hP hD hS hA mw_691 (by decide) (by decide) (Nat.le_of_ble_eq_true rfl) (by rw [hRm]; exact Nat.le_of_ble_eq_true rfl) (by rw [hRm]; exact Nat.le_of_ble_eq_true rfl) dX6_init_13 (fun q2 H3 _ _ _ => ?_)
  clear hP hD hS
  rename_i hP hD hS
  try clear H2
  replace hP := zP_perm (zfr _ _) hP
  replace hD := zD_perm (zfr _ _) hD
  refine W.widen (k := 2) (n := 10) (by omega) (by omega) ?_
  refine va_putF (D := D) (ci := 6) (v := .ref q2) (ty := (.array .int)) (C := RX6) (T := TX6) (N := 51) hx hb hts uw_X6 tyX6 tyX6_ok nmX6 hown hK hP hD hS 1 rfl rfl 4 (by decide) (hts _ mw_402) (fun _ h9 => h9) rfl hin rfl (by decide +kernel) rfl rfl (Nat.le_of_ble_eq_true rfl) dX6_init_15 (fun H4 _ _ _ _ => ?_)
  clear hP hD hS; try clear locs
  rename_i locs hP hD hS
  try clear H3
  replace hP : va_P D zcl ([(q2, .inl (ca 0, 5, .inl (fun _ => 0))), (a, .inr (6, oX6 [q1, q2]))] ++ X1) H4 := hP
  replace hD : va_D A ([(q2, .inl (ca 0, 5, .inl (fun _ => 0))), (a, .inr (6, oX6 [q1, q2]))] ++ X1) := hD
  replace hP := zP_perm (zsw [] [(q2, .inl (ca 0, 5, .inl (fun _ => 0)))] [(a, .inr (6, oX6 [q1, q2]))] X1) hP
  replace hD := zD_perm (zsw [] [(q2, .inl (ca 0, 5, .inl (fun _ => 0)))] [(a, .inr (6, oX6 [q1, q2]))] X1) hD
  obtain ⟨X2, eX2⟩ : ∃ X : va_W, X = [(q2, .inl (ca 0, 5, .inl (fun _ => 0)))] ++ X1 := ⟨_, rfl⟩
  rw [← eX2] at hP hD
  replace hP : va_P D zcl ([(a, .inr (6, oX6 [q1, q2]))] ++ X2) H4 := hP
  replace hD : va_D A ([(a, .inr (6, oX6 [q1, q2]))] ++ X2) := hD
  refine lv_aload_n hx hb dX6_init_18 rfl (lv_at hl 0 rfl) ?_
  refine lv_iconst (v := (5 : Int32)) hx hb dX6_init_19 (by decide) ?_
  refine zn_i (N' := 5) hx hb hts hK hP hD hS hA mw_691 (by decide) (by decide) (Nat.le_of_ble_eq_true rfl) (by rw [hRm]; exact Nat.le_of_ble_eq_true rfl) (by rw [hRm]; exact Nat.le_of_ble_eq_true rfl) dX6_init_20 (fun q3 H5 _ _ _ => ?_)
  clear hP hD hS
  rename_i hP hD hS
  try clear H4
  replace hP := zP_perm (zfr _ _) hP
  replace hD := zD_perm (zfr _ _) hD
  refine W.widen (k := 3) (n := 15) (by omega) (by omega) ?_
  refine va_putF (D := D) (ci := 6) (v := .ref q3) (ty := (.array .int)) (C := RX6) (T := TX6) (N := 51) hx hb hts uw_X6 tyX6 tyX6_ok nmX6 hown hK hP hD hS 1 rfl rfl 5 (by decide) (hts _ mw_403) (fun _ h9 => h9) rfl hin rfl (by decide +kernel) rfl rfl (Nat.le_of_ble_eq_true rfl) dX6_init_22 (fun H6 _ _ _ _ => ?_)
  clear hP hD hS; try clear locs
  rename_i locs hP hD hS
  try clear H5
  replace hP : va_P D zcl ([(q3, .inl (ca 0, 5, .inl (fun _ => 0))), (a, .inr (6, oX6 [q1, q2, q3]))] ++ X2) H6 := hP
  replace hD : va_D A ([(q3, .inl (ca 0, 5, .inl (fun _ => 0))), (a, .inr (6, oX6 [q1, q2, q3]))] ++ X2) := hD
  replace hP := zP_perm (zsw [] [(q3, .inl (ca 0, 5, .inl (fun _ => 0)))] [(a, .inr (6, oX6 [q1, q2, q3]))] X2) hP
  replace hD := zD_perm (zsw [] [(q3, .inl (ca 0, 5, .inl (fun _ => 0)))] [(a, .inr (6, oX6 [q1, q2, q3]))] X2) hD
  obtain ⟨X3, eX3⟩ : ∃ X : va_W, X = [(q3, .inl (ca 0, 5, .inl (fun _ => 0)))] ++ X2 := ⟨_, rfl⟩
  rw [← eX3] at hP hD
  replace hP : va_P D zcl ([(a, .inr (6, oX6 [q1, q2, q3]))] ++ X3) H6 := hP
  replace hD : va_D A ([(a, .inr (6, oX6 [q1, q2, q3]))] ++ X3) := hD
  refine lv_aload_n hx hb dX6_init_25 rfl (lv_at hl 0 rfl) ?_
  refine lv_iconst (v := (5 : Int32)) hx hb dX6_init_26 (by decide) ?_
  refine zn_i (N' := 5) hx hb hts hK hP hD hS hA mw_691 (by decide) (by decide) (Nat.le_of_ble_eq_true rfl) (by rw [hRm]; exact Nat.le_of_ble_eq_true rfl) (by rw [hRm]; exact Nat.le_of_ble_eq_true rfl) dX6_init_27 (fun q4 H7 _ _ _ => ?_)
  clear hP hD hS
  rename_i hP hD hS
  try clear H6
  replace hP := zP_perm (zfr _ _) hP
  replace hD := zD_perm (zfr _ _) hD
  refine W.widen (k := 4) (n := 20) (by omega) (by omega) ?_
  refine va_putF (D := D) (ci := 6) (v := .ref q4) (ty := (.array .int)) (C := RX6) (T := TX6) (N := 51) hx hb hts uw_X6 tyX6 tyX6_ok nmX6 hown hK hP hD hS 1 rfl rfl 6 (by decide) (hts _ mw_404) (fun _ h9 => h9) rfl hin rfl (by decide +kernel) rfl rfl (Nat.le_of_ble_eq_true rfl) dX6_init_29 (fun H8 _ _ _ _ => ?_)
  clear hP hD hS; try clear locs
  rename_i locs hP hD hS
  try clear H7
  replace hP : va_P D zcl ([(q4, .inl (ca 0, 5, .inl (fun _ => 0))), (a, .inr (6, oX6 [q1, q2, q3, q4]))] ++ X3) H8 := hP
  replace hD : va_D A ([(q4, .inl (ca 0, 5, .inl (fun _ => 0))), (a, .inr (6, oX6 [q1, q2, q3, q4]))] ++ X3) := hD
  replace hP := zP_perm (zsw [] [(q4, .inl (ca 0, 5, .inl (fun _ => 0)))] [(a, .inr (6, oX6 [q1, q2, q3, q4]))] X3) hP
  replace hD := zD_perm (zsw [] [(q4, .inl (ca 0, 5, .inl (fun _ => 0)))] [(a, .inr (6, oX6 [q1, q2, q3, q4]))] X3) hD
  obtain ⟨X4, eX4⟩ : ∃ X : va_W, X = [(q4, .inl (ca 0, 5, .inl (fun _ => 0)))] ++ X3 := ⟨_, rfl⟩
  rw [← eX4] at hP hD
  replace hP : va_P D zcl ([(a, .inr (6, oX6 [q1, q2, q3, q4]))] ++ X4) H8 := hP
  replace hD : va_D A ([(a, .inr (6, oX6 [q1, q2, q3, q4]))] ++ X4) := hD
  refine lv_aload_n hx hb dX6_init_32 rfl (lv_at hl 0 rfl) ?_
  refine lv_sipush (v := (160 : Int32)) hx hb dX6_init_33 (by decide) ?_
  refine zn_i (N' := 160) hx hb hts hK hP hD hS hA mw_691 (by decide) (by decide) (Nat.le_of_ble_eq_true rfl) (by rw [hRm]; exact Nat.le_of_ble_eq_true rfl) (by rw [hRm]; exact Nat.le_of_ble_eq_true rfl) dX6_init_36 (fun q5 H9 _ _ _ => ?_)
  clear hP hD hS
  rename_i hP hD hS
  try clear H8
  replace hP := zP_perm (zfr _ _) hP
  replace hD := zD_perm (zfr _ _) hD
  refine W.widen (k := 5) (n := 180) (by omega) (by omega) ?_
  refine va_putF (D := D) (ci := 6) (v := .ref q5) (ty := (.array .int)) (C := RX6) (T := TX6) (N := 51) hx hb hts uw_X6 tyX6 tyX6_ok nmX6 hown hK hP hD hS 1 rfl rfl 9 (by decide) (hts _ mw_455) (fun _ h9 => h9) rfl hin rfl (by decide +kernel) rfl rfl (Nat.le_of_ble_eq_true rfl) dX6_init_38 (fun H10 _ _ _ _ => ?_)
  clear hP hD hS; try clear locs
  rename_i locs hP hD hS
  try clear H9
  replace hP : va_P D zcl ([(q5, .inl (ca 0, 160, .inl (fun _ => 0))), (a, .inr (6, oX6 [q1, q2, q3, q4, q5]))] ++ X4) H10 := hP
  replace hD : va_D A ([(q5, .inl (ca 0, 160, .inl (fun _ => 0))), (a, .inr (6, oX6 [q1, q2, q3, q4, q5]))] ++ X4) := hD
  replace hP := zP_perm (zsw [] [(q5, .inl (ca 0, 160, .inl (fun _ => 0)))] [(a, .inr (6, oX6 [q1, q2, q3, q4, q5]))] X4) hP
  replace hD := zD_perm (zsw [] [(q5, .inl (ca 0, 160, .inl (fun _ => 0)))] [(a, .inr (6, oX6 [q1, q2, q3, q4, q5]))] X4) hD
  obtain ⟨X5, eX5⟩ : ∃ X : va_W, X = [(q5, .inl (ca 0, 160, .inl (fun _ => 0)))] ++ X4 := ⟨_, rfl⟩
  rw [← eX5] at hP hD
  replace hP : va_P D zcl ([(a, .inr (6, oX6 [q1, q2, q3, q4, q5]))] ++ X5) H10 := hP
  replace hD : va_D A ([(a, .inr (6, oX6 [q1, q2, q3, q4, q5]))] ++ X5) := hD
  refine lv_aload_n hx hb dX6_init_41 rfl (lv_at hl 0 rfl) ?_
  refine lv_bipush (v := (18 : Int32)) hx hb dX6_init_42 (by decide) ?_
  refine zn_i (N' := 18) hx hb hts hK hP hD hS hA mw_691 (by decide) (by decide) (Nat.le_of_ble_eq_true rfl) (by rw [hRm]; exact Nat.le_of_ble_eq_true rfl) (by rw [hRm]; exact Nat.le_of_ble_eq_true rfl) dX6_init_44 (fun q6 H11 _ _ _ => ?_)
  clear hP hD hS
  rename_i hP hD hS
  try clear H10
  replace hP := zP_perm (zfr _ _) hP
  replace hD := zD_perm (zfr _ _) hD
  refine W.widen (k := 6) (n := 198) (by omega) (by omega) ?_
  refine va_putF (D := D) (ci := 6) (v := .ref q6) (ty := (.array .int)) (C := RX6) (T := TX6) (N := 51) hx hb hts uw_X6 tyX6 tyX6_ok nmX6 hown hK hP hD hS 1 rfl rfl 11 (by decide) (hts _ mw_414) (fun _ h9 => h9) rfl hin rfl (by decide +kernel) rfl rfl (Nat.le_of_ble_eq_true rfl) dX6_init_46 (fun H12 _ _ _ _ => ?_)
  clear hP hD hS; try clear locs
  rename_i locs hP hD hS
  try clear H11
  replace hP : va_P D zcl ([(q6, .inl (ca 0, 18, .inl (fun _ => 0))), (a, .inr (6, oX6 [q1, q2, q3, q4, q5, q6]))] ++ X5) H12 := hP
  replace hD : va_D A ([(q6, .inl (ca 0, 18, .inl (fun _ => 0))), (a, .inr (6, oX6 [q1, q2, q3, q4, q5, q6]))] ++ X5) := hD
  replace hP := zP_perm (zsw [] [(q6, .inl (ca 0, 18, .inl (fun _ => 0)))] [(a, .inr (6, oX6 [q1, q2, q3, q4, q5, q6]))] X5) hP
  replace hD := zD_perm (zsw [] [(q6, .inl (ca 0, 18, .inl (fun _ => 0)))] [(a, .inr (6, oX6 [q1, q2, q3, q4, q5, q6]))] X5) hD
  obtain ⟨X6, eX6⟩ : ∃ X : va_W, X = [(q6, .inl (ca 0, 18, .inl (fun _ => 0)))] ++ X5 := ⟨_, rfl⟩
  rw [← eX6] at hP hD
  replace hP : va_P D zcl ([(a, .inr (6, oX6 [q1, q2, q3, q4, q5, q6]))] ++ X6) H12 := hP
  replace hD : va_D A ([(a, .inr (6, oX6 [q1, q2, q3, q4, q5, q6]))] ++ X6) := hD
  refine lv_aload_n hx hb dX6_init_49 rfl (lv_at hl 0 rfl) ?_
  refine lv_bipush (v := (18 : Int32)) hx hb dX6_init_50 (by decide) ?_
  refine zn_i (N' := 18) hx hb hts hK hP hD hS hA mw_691 (by decide) (by decide) (Nat.le_of_ble_eq_true rfl) (by rw [hRm]; exact Nat.le_of_ble_eq_true rfl) (by rw [hRm]; exact Nat.le_of_ble_eq_true rfl) dX6_init_52 (fun q7 H13 _ _ _ => ?_)
  clear hP hD hS
  rename_i hP hD hS
  try clear H12
  replace hP := zP_perm (zfr _ _) hP
  replace hD := zD_perm (zfr _ _) hD
  refine W.widen (k := 7) (n := 216) (by omega) (by omega) ?_
  refine va_putF (D := D) (ci := 6) (v := .ref q7) (ty := (.array .int)) (C := RX6) (T := TX6) (N := 51) hx hb hts uw_X6 tyX6 tyX6_ok nmX6 hown hK hP hD hS 1 rfl rfl 12 (by decide) (hts _ mw_416) (fun _ h9 => h9) rfl hin rfl (by decide +kernel) rfl rfl (Nat.le_of_ble_eq_true rfl) dX6_init_54 (fun H14 _ _ _ _ => ?_)
  clear hP hD hS; try clear locs
  rename_i locs hP hD hS
  try clear H13
  replace hP : va_P D zcl ([(q7, .inl (ca 0, 18, .inl (fun _ => 0))), (a, .inr (6, oX6 [q1, q2, q3, q4, q5, q6, q7]))] ++ X6) H14 := hP
  replace hD : va_D A ([(q7, .inl (ca 0, 18, .inl (fun _ => 0))), (a, .inr (6, oX6 [q1, q2, q3, q4, q5, q6, q7]))] ++ X6) := hD
  replace hP := zP_perm (zsw [] [(q7, .inl (ca 0, 18, .inl (fun _ => 0)))] [(a, .inr (6, oX6 [q1, q2, q3, q4, q5, q6, q7]))] X6) hP
  replace hD := zD_perm (zsw [] [(q7, .inl (ca 0, 18, .inl (fun _ => 0)))] [(a, .inr (6, oX6 [q1, q2, q3, q4, q5, q6, q7]))] X6) hD
  obtain ⟨X7, eX7⟩ : ∃ X : va_W, X = [(q7, .inl (ca 0, 18, .inl (fun _ => 0)))] ++ X6 := ⟨_, rfl⟩
  rw [← eX7] at hP hD
  replace hP : va_P D zcl ([(a, .inr (6, oX6 [q1, q2, q3, q4, q5, q6, q7]))] ++ X7) H14 := hP
  replace hD : va_D A ([(a, .inr (6, oX6 [q1, q2, q3, q4, q5, q6, q7]))] ++ X7) := hD
  refine lv_aload_n hx hb dX6_init_57 rfl (lv_at hl 0 rfl) ?_
  refine lv_sipush (v := (3000 : Int32)) hx hb dX6_init_58 (by decide) ?_
  refine zn_i (N' := 3000) hx hb hts hK hP hD hS hA mw_691 (by decide) (by decide) (Nat.le_of_ble_eq_true rfl) (by rw [hRm]; exact Nat.le_of_ble_eq_true rfl) (by rw [hRm]; exact Nat.le_of_ble_eq_true rfl) dX6_init_61 (fun q8 H15 _ _ _ => ?_)
  clear hP hD hS
  rename_i hP hD hS
  try clear H14
  replace hP := zP_perm (zfr _ _) hP
  replace hD := zD_perm (zfr _ _) hD
  refine W.widen (k := 8) (n := 3216) (by omega) (by omega) ?_
  refine va_putF (D := D) (ci := 6) (v := .ref q8) (ty := (.array .int)) (C := RX6) (T := TX6) (N := 51) hx hb hts uw_X6 tyX6 tyX6_ok nmX6 hown hK hP hD hS 1 rfl rfl 13 (by decide) (hts _ mw_418) (fun _ h9 => h9) rfl hin rfl (by decide +kernel) rfl rfl (Nat.le_of_ble_eq_true rfl) dX6_init_63 (fun H16 _ _ _ _ => ?_)
  clear hP hD hS; try clear locs
  rename_i locs hP hD hS
  try clear H15
  replace hP : va_P D zcl ([(q8, .inl (ca 0, 3000, .inl (fun _ => 0))), (a, .inr (6, oX6 [q1, q2, q3, q4, q5, q6, q7, q8]))] ++ X7) H16 := hP
  replace hD : va_D A ([(q8, .inl (ca 0, 3000, .inl (fun _ => 0))), (a, .inr (6, oX6 [q1, q2, q3, q4, q5, q6, q7, q8]))] ++ X7) := hD
  replace hP := zP_perm (zsw [] [(q8, .inl (ca 0, 3000, .inl (fun _ => 0)))] [(a, .inr (6, oX6 [q1, q2, q3, q4, q5, q6, q7, q8]))] X7) hP
  replace hD := zD_perm (zsw [] [(q8, .inl (ca 0, 3000, .inl (fun _ => 0)))] [(a, .inr (6, oX6 [q1, q2, q3, q4, q5, q6, q7, q8]))] X7) hD
  obtain ⟨X8, eX8⟩ : ∃ X : va_W, X = [(q8, .inl (ca 0, 3000, .inl (fun _ => 0)))] ++ X7 := ⟨_, rfl⟩
  rw [← eX8] at hP hD
  replace hP : va_P D zcl ([(a, .inr (6, oX6 [q1, q2, q3, q4, q5, q6, q7, q8]))] ++ X8) H16 := hP
  replace hD : va_D A ([(a, .inr (6, oX6 [q1, q2, q3, q4, q5, q6, q7, q8]))] ++ X8) := hD
  refine lv_aload_n hx hb dX6_init_66 rfl (lv_at hl 0 rfl) ?_
  refine lv_sipush (v := (200 : Int32)) hx hb dX6_init_67 (by decide) ?_
  refine zn_i (N' := 200) hx hb hts hK hP hD hS hA mw_691 (by decide) (by decide) (Nat.le_of_ble_eq_true rfl) (by rw [hRm]; exact Nat.le_of_ble_eq_true rfl) (by rw [hRm]; exact Nat.le_of_ble_eq_true rfl) dX6_init_70 (fun q9 H17 _ _ _ => ?_)
  clear hP hD hS
  rename_i hP hD hS
  try clear H16
  replace hP := zP_perm (zfr _ _) hP
  replace hD := zD_perm (zfr _ _) hD
  refine W.widen (k := 9) (n := 3416) (by omega) (by omega) ?_
  refine va_putF (D := D) (ci := 6) (v := .ref q9) (ty := (.array .int)) (C := RX6) (T := TX6) (N := 51) hx hb hts uw_X6 tyX6 tyX6_ok nmX6 hown hK hP hD hS 1 rfl rfl 20 (by decide) (hts _ mw_484) (fun _ h9 => h9) rfl hin rfl (by decide +kernel) rfl rfl (Nat.le_of_ble_eq_true rfl) dX6_init_72 (fun H18 _ _ _ _ => ?_)
  clear hP hD hS; try clear locs
  rename_i locs hP hD hS
  try clear H17
  replace hP : va_P D zcl ([(q9, .inl (ca 0, 200, .inl (fun _ => 0))), (a, .inr (6, oX6 [q1, q2, q3, q4, q5, q6, q7, q8, q9]))] ++ X8) H18 := hP
  replace hD : va_D A ([(q9, .inl (ca 0, 200, .inl (fun _ => 0))), (a, .inr (6, oX6 [q1, q2, q3, q4, q5, q6, q7, q8, q9]))] ++ X8) := hD
  replace hP := zP_perm (zsw [] [(q9, .inl (ca 0, 200, .inl (fun _ => 0)))] [(a, .inr (6, oX6 [q1, q2, q3, q4, q5, q6, q7, q8, q9]))] X8) hP
  replace hD := zD_perm (zsw [] [(q9, .inl (ca 0, 200, .inl (fun _ => 0)))] [(a, .inr (6, oX6 [q1, q2, q3, q4, q5, q6, q7, q8, q9]))] X8) hD
  obtain ⟨X9, eX9⟩ : ∃ X : va_W, X = [(q9, .inl (ca 0, 200, .inl (fun _ => 0)))] ++ X8 := ⟨_, rfl⟩
  rw [← eX9] at hP hD
  replace hP : va_P D zcl ([(a, .inr (6, oX6 [q1, q2, q3, q4, q5, q6, q7, q8, q9]))] ++ X9) H18 := hP
  replace hD : va_D A ([(a, .inr (6, oX6 [q1, q2, q3, q4, q5, q6, q7, q8, q9]))] ++ X9) := hD
  refine lv_aload_n hx hb dX6_init_75 rfl (lv_at hl 0 rfl) ?_
  refine lv_sipush (v := (200 : Int32)) hx hb dX6_init_76 (by decide) ?_
  refine zn_i (N' := 200) hx hb hts hK hP hD hS hA mw_691 (by decide) (by decide) (Nat.le_of_ble_eq_true rfl) (by rw [hRm]; exact Nat.le_of_ble_eq_true rfl) (by rw [hRm]; exact Nat.le_of_ble_eq_true rfl) dX6_init_79 (fun q10 H19 _ _ _ => ?_)
  clear hP hD hS
  rename_i hP hD hS
  try clear H18
  replace hP := zP_perm (zfr _ _) hP
  replace hD := zD_perm (zfr _ _) hD
  refine W.widen (k := 10) (n := 3616) (by omega) (by omega) ?_
  refine va_putF (D := D) (ci := 6) (v := .ref q10) (ty := (.array .int)) (C := RX6) (T := TX6) (N := 51) hx hb hts uw_X6 tyX6 tyX6_ok nmX6 hown hK hP hD hS 1 rfl rfl 26 (by decide) (hts _ mw_417) (fun _ h9 => h9) rfl hin rfl (by decide +kernel) rfl rfl (Nat.le_of_ble_eq_true rfl) dX6_init_81 (fun H20 _ _ _ _ => ?_)
  clear hP hD hS; try clear locs
  rename_i locs hP hD hS
  try clear H19
  replace hP : va_P D zcl ([(q10, .inl (ca 0, 200, .inl (fun _ => 0))), (a, .inr (6, oX6 [q1, q2, q3, q4, q5, q6, q7, q8, q9, q10]))] ++ X9) H20 := hP
  replace hD : va_D A ([(q10, .inl (ca 0, 200, .inl (fun _ => 0))), (a, .inr (6, oX6 [q1, q2, q3, q4, q5, q6, q7, q8, q9, q10]))] ++ X9) := hD
  replace hP := zP_perm (zsw [] [(q10, .inl (ca 0, 200, .inl (fun _ => 0)))] [(a, .inr (6, oX6 [q1, q2, q3, q4, q5, q6, q7, q8, q9, q10]))] X9) hP
  replace hD := zD_perm (zsw [] [(q10, .inl (ca 0, 200, .inl (fun _ => 0)))] [(a, .inr (6, oX6 [q1, q2, q3, q4, q5, q6, q7, q8, q9, q10]))] X9) hD
  obtain ⟨X10, eX10⟩ : ∃ X : va_W, X = [(q10, .inl (ca 0, 200, .inl (fun _ => 0)))] ++ X9 := ⟨_, rfl⟩
  rw [← eX10] at hP hD
  replace hP : va_P D zcl ([(a, .inr (6, oX6 [q1, q2, q3, q4, q5, q6, q7, q8, q9, q10]))] ++ X10) H20 := hP
  replace hD : va_D A ([(a, .inr (6, oX6 [q1, q2, q3, q4, q5, q6, q7, q8, q9, q10]))] ++ X10) := hD
  refine lv_aload_n hx hb dX6_init_84 rfl (lv_at hl 0 rfl) ?_
  refine lv_bipush (v := (6 : Int32)) hx hb dX6_init_85 (by decide) ?_
  refine zn_i (N' := 6) hx hb hts hK hP hD hS hA mw_691 (by decide) (by decide) (Nat.le_of_ble_eq_true rfl) (by rw [hRm]; exact Nat.le_of_ble_eq_true rfl) (by rw [hRm]; exact Nat.le_of_ble_eq_true rfl) dX6_init_87 (fun q11 H21 _ _ _ => ?_)
  clear hP hD hS
  rename_i hP hD hS
  try clear H20
  replace hP := zP_perm (zfr _ _) hP
  replace hD := zD_perm (zfr _ _) hD
  refine W.widen (k := 11) (n := 3622) (by omega) (by omega) ?_
  refine va_putF (D := D) (ci := 6) (v := .ref q11) (ty := (.array .int)) (C := RX6) (T := TX6) (N := 51) hx hb hts uw_X6 tyX6 tyX6_ok nmX6 hown hK hP hD hS 1 rfl rfl 27 (by decide) (hts _ mw_419) (fun _ h9 => h9) rfl hin rfl (by decide +kernel) rfl rfl (Nat.le_of_ble_eq_true rfl) dX6_init_89 (fun H22 _ _ _ _ => ?_)
  clear hP hD hS; try clear locs
  rename_i locs hP hD hS
  try clear H21
  replace hP : va_P D zcl ([(q11, .inl (ca 0, 6, .inl (fun _ => 0))), (a, .inr (6, oX6 [q1, q2, q3, q4, q5, q6, q7, q8, q9, q10, q11]))] ++ X10) H22 := hP
  replace hD : va_D A ([(q11, .inl (ca 0, 6, .inl (fun _ => 0))), (a, .inr (6, oX6 [q1, q2, q3, q4, q5, q6, q7, q8, q9, q10, q11]))] ++ X10) := hD
  replace hP := zP_perm (zsw [] [(q11, .inl (ca 0, 6, .inl (fun _ => 0)))] [(a, .inr (6, oX6 [q1, q2, q3, q4, q5, q6, q7, q8, q9, q10, q11]))] X10) hP
  replace hD := zD_perm (zsw [] [(q11, .inl (ca 0, 6, .inl (fun _ => 0)))] [(a, .inr (6, oX6 [q1, q2, q3, q4, q5, q6, q7, q8, q9, q10, q11]))] X10) hD
  obtain ⟨X11, eX11⟩ : ∃ X : va_W, X = [(q11, .inl (ca 0, 6, .inl (fun _ => 0)))] ++ X10 := ⟨_, rfl⟩
  rw [← eX11] at hP hD
  replace hP : va_P D zcl ([(a, .inr (6, oX6 [q1, q2, q3, q4, q5, q6, q7, q8, q9, q10, q11]))] ++ X11) H22 := hP
  replace hD : va_D A ([(a, .inr (6, oX6 [q1, q2, q3, q4, q5, q6, q7, q8, q9, q10, q11]))] ++ X11) := hD
  refine lv_aload_n hx hb dX6_init_92 rfl (lv_at hl 0 rfl) ?_
  refine lv_iconst (v := (5 : Int32)) hx hb dX6_init_93 (by decide) ?_
  refine zn_i (N' := 5) hx hb hts hK hP hD hS hA mw_691 (by decide) (by decide) (Nat.le_of_ble_eq_true rfl) (by rw [hRm]; exact Nat.le_of_ble_eq_true rfl) (by rw [hRm]; exact Nat.le_of_ble_eq_true rfl) dX6_init_94 (fun q12 H23 _ _ _ => ?_)
  clear hP hD hS
  rename_i hP hD hS
  try clear H22
  replace hP := zP_perm (zfr _ _) hP
  replace hD := zD_perm (zfr _ _) hD
  refine W.widen (k := 12) (n := 3627) (by omega) (by omega) ?_
  refine va_putF (D := D) (ci := 6) (v := .ref q12) (ty := (.array .int)) (C := RX6) (T := TX6) (N := 51) hx hb hts uw_X6 tyX6 tyX6_ok nmX6 hown hK hP hD hS 1 rfl rfl 30 (by decide) (hts _ mw_547) (fun _ h9 => h9) rfl hin rfl (by decide +kernel) rfl rfl (Nat.le_of_ble_eq_true rfl) dX6_init_96 (fun H24 _ _ _ _ => ?_)
  clear hP hD hS; try clear locs
  rename_i locs hP hD hS
  try clear H23
  replace hP : va_P D zcl ([(q12, .inl (ca 0, 5, .inl (fun _ => 0))), (a, .inr (6, oX6 [q1, q2, q3, q4, q5, q6, q7, q8, q9, q10, q11, q12]))] ++ X11) H24 := hP
  replace hD : va_D A ([(q12, .inl (ca 0, 5, .inl (fun _ => 0))), (a, .inr (6, oX6 [q1, q2, q3, q4, q5, q6, q7, q8, q9, q10, q11, q12]))] ++ X11) := hD
  replace hP := zP_perm (zsw [] [(q12, .inl (ca 0, 5, .inl (fun _ => 0)))] [(a, .inr (6, oX6 [q1, q2, q3, q4, q5, q6, q7, q8, q9, q10, q11, q12]))] X11) hP
  replace hD := zD_perm (zsw [] [(q12, .inl (ca 0, 5, .inl (fun _ => 0)))] [(a, .inr (6, oX6 [q1, q2, q3, q4, q5, q6, q7, q8, q9, q10, q11, q12]))] X11) hD
  obtain ⟨X12, eX12⟩ : ∃ X : va_W, X = [(q12, .inl (ca 0, 5, .inl (fun _ => 0)))] ++ X11 := ⟨_, rfl⟩
  rw [← eX12] at hP hD
  replace hP : va_P D zcl ([(a, .inr (6, oX6 [q1, q2, q3, q4, q5, q6, q7, q8, q9, q10, q11, q12]))] ++ X12) H24 := hP
  replace hD : va_D A ([(a, .inr (6, oX6 [q1, q2, q3, q4, q5, q6, q7, q8, q9, q10, q11, q12]))] ++ X12) := hD
  refine lv_aload_n hx hb dX6_init_99 rfl (lv_at hl 0 rfl) ?_
  refine lv_iconst (v := (5 : Int32)) hx hb dX6_init_100 (by decide) ?_
  refine zn_i (N' := 5) hx hb hts hK hP hD hS hA mw_691 (by decide) (by decide) (Nat.le_of_ble_eq_true rfl) (by rw [hRm]; exact Nat.le_of_ble_eq_true rfl) (by rw [hRm]; exact Nat.le_of_ble_eq_true rfl) dX6_init_101 (fun q13 H25 _ _ _ => ?_)
  clear hP hD hS
  rename_i hP hD hS
  try clear H24
  replace hP := zP_perm (zfr _ _) hP
  replace hD := zD_perm (zfr _ _) hD
  refine W.widen (k := 13) (n := 3632) (by omega) (by omega) ?_
  refine va_putF (D := D) (ci := 6) (v := .ref q13) (ty := (.array .int)) (C := RX6) (T := TX6) (N := 51) hx hb hts uw_X6 tyX6 tyX6_ok nmX6 hown hK hP hD hS 1 rfl rfl 31 (by decide) (hts _ mw_548) (fun _ h9 => h9) rfl hin rfl (by decide +kernel) rfl rfl (Nat.le_of_ble_eq_true rfl) dX6_init_103 (fun H26 _ _ _ _ => ?_)
  clear hP hD hS; try clear locs
  rename_i locs hP hD hS
  try clear H25
  replace hP : va_P D zcl ([(q13, .inl (ca 0, 5, .inl (fun _ => 0))), (a, .inr (6, oX6 [q1, q2, q3, q4, q5, q6, q7, q8, q9, q10, q11, q12, q13]))] ++ X12) H26 := hP
  replace hD : va_D A ([(q13, .inl (ca 0, 5, .inl (fun _ => 0))), (a, .inr (6, oX6 [q1, q2, q3, q4, q5, q6, q7, q8, q9, q10, q11, q12, q13]))] ++ X12) := hD
  replace hP := zP_perm (zsw [] [(q13, .inl (ca 0, 5, .inl (fun _ => 0)))] [(a, .inr (6, oX6 [q1, q2, q3, q4, q5, q6, q7, q8, q9, q10, q11, q12, q13]))] X12) hP
  replace hD := zD_perm (zsw [] [(q13, .inl (ca 0, 5, .inl (fun _ => 0)))] [(a, .inr (6, oX6 [q1, q2, q3, q4, q5, q6, q7, q8, q9, q10, q11, q12, q13]))] X12) hD
  obtain ⟨X13, eX13⟩ : ∃ X : va_W, X = [(q13, .inl (ca 0, 5, .inl (fun _ => 0)))] ++ X12 := ⟨_, rfl⟩
  rw [← eX13] at hP hD
  replace hP : va_P D zcl ([(a, .inr (6, oX6 [q1, q2, q3, q4, q5, q6, q7, q8, q9, q10, q11, q12, q13]))] ++ X13) H26 := hP
  replace hD : va_D A ([(a, .inr (6, oX6 [q1, q2, q3, q4, q5, q6, q7, q8, q9, q10, q11, q12, q13]))] ++ X13) := hD
  refine lv_aload_n hx hb dX6_init_106 rfl (lv_at hl 0 rfl) ?_
  refine lv_iconst (v := (5 : Int32)) hx hb dX6_init_107 (by decide) ?_
  refine zn_i (N' := 5) hx hb hts hK hP hD hS hA mw_691 (by decide) (by decide) (Nat.le_of_ble_eq_true rfl) (by rw [hRm]; exact Nat.le_of_ble_eq_true rfl) (by rw [hRm]; exact Nat.le_of_ble_eq_true rfl) dX6_init_108 (fun q14 H27 _ _ _ => ?_)
  clear hP hD hS
  rename_i hP hD hS
  try clear H26
  replace hP := zP_perm (zfr _ _) hP
  replace hD := zD_perm (zfr _ _) hD
  refine W.widen (k := 14) (n := 3637) (by omega) (by omega) ?_
  refine va_putF (D := D) (ci := 6) (v := .ref q14) (ty := (.array .int)) (C := RX6) (T := TX6) (N := 51) hx hb hts uw_X6 tyX6 tyX6_ok nmX6 hown hK hP hD hS 1 rfl rfl 32 (by decide) (hts _ mw_532) (fun _ h9 => h9) rfl hin rfl (by decide +kernel) rfl rfl (Nat.le_of_ble_eq_true rfl) dX6_init_110 (fun H28 _ _ _ _ => ?_)
  clear hP hD hS; try clear locs
  rename_i locs hP hD hS
  try clear H27
  replace hP : va_P D zcl ([(q14, .inl (ca 0, 5, .inl (fun _ => 0))), (a, .inr (6, oX6 [q1, q2, q3, q4, q5, q6, q7, q8, q9, q10, q11, q12, q13, q14]))] ++ X13) H28 := hP
  replace hD : va_D A ([(q14, .inl (ca 0, 5, .inl (fun _ => 0))), (a, .inr (6, oX6 [q1, q2, q3, q4, q5, q6, q7, q8, q9, q10, q11, q12, q13, q14]))] ++ X13) := hD
  replace hP := zP_perm (zsw [] [(q14, .inl (ca 0, 5, .inl (fun _ => 0)))] [(a, .inr (6, oX6 [q1, q2, q3, q4, q5, q6, q7, q8, q9, q10, q11, q12, q13, q14]))] X13) hP
  replace hD := zD_perm (zsw [] [(q14, .inl (ca 0, 5, .inl (fun _ => 0)))] [(a, .inr (6, oX6 [q1, q2, q3, q4, q5, q6, q7, q8, q9, q10, q11, q12, q13, q14]))] X13) hD
  obtain ⟨X14, eX14⟩ : ∃ X : va_W, X = [(q14, .inl (ca 0, 5, .inl (fun _ => 0)))] ++ X13 := ⟨_, rfl⟩
  rw [← eX14] at hP hD
  replace hP : va_P D zcl ([(a, .inr (6, oX6 [q1, q2, q3, q4, q5, q6, q7, q8, q9, q10, q11, q12, q13, q14]))] ++ X14) H28 := hP
  replace hD : va_D A ([(a, .inr (6, oX6 [q1, q2, q3, q4, q5, q6, q7, q8, q9, q10, q11, q12, q13, q14]))] ++ X14) := hD
  refine lv_aload_n hx hb dX6_init_113 rfl (lv_at hl 0 rfl) ?_
  refine lv_sipush (v := (31000 : Int32)) hx hb dX6_init_114 (by decide) ?_
  refine zn_z (N' := 31000) hx hb hts hK hP hD hS hA mw_728 (by decide) (by decide) (Nat.le_of_ble_eq_true rfl) (by rw [hRm]; exact Nat.le_of_ble_eq_true rfl) (by rw [hRm]; exact Nat.le_of_ble_eq_true rfl) dX6_init_117 (fun q15 H29 _ _ _ => ?_)
  clear hP hD hS
  rename_i hP hD hS
  try clear H28
  replace hP := zP_perm (zfr _ _) hP
  replace hD := zD_perm (zfr _ _) hD
  refine W.widen (k := 15) (n := 34637) (by omega) (by omega) ?_
  refine va_putF (D := D) (ci := 6) (v := .ref q15) (ty := (.array .boolean)) (C := RX6) (T := TX6) (N := 51) hx hb hts uw_X6 tyX6 tyX6_ok nmX6 hown hK hP hD hS 1 rfl rfl 36 (by decide) (hts _ mw_570) (fun _ h9 => h9) rfl hin rfl (by decide +kernel) rfl rfl (Nat.le_of_ble_eq_true rfl) dX6_init_119 (fun H30 _ _ _ _ => ?_)
  clear hP hD hS; try clear locs
  rename_i locs hP hD hS
  try clear H29
  replace hP : va_P D zcl ([(q15, .inl (ca 2, 31000, .inl (fun _ => 0))), (a, .inr (6, oX6 [q1, q2, q3, q4, q5, q6, q7, q8, q9, q10, q11, q12, q13, q14, q15]))] ++ X14) H30 := hP
  replace hD : va_D A ([(q15, .inl (ca 2, 31000, .inl (fun _ => 0))), (a, .inr (6, oX6 [q1, q2, q3, q4, q5, q6, q7, q8, q9, q10, q11, q12, q13, q14, q15]))] ++ X14) := hD
  replace hP := zP_perm (zsw [] [(q15, .inl (ca 2, 31000, .inl (fun _ => 0)))] [(a, .inr (6, oX6 [q1, q2, q3, q4, q5, q6, q7, q8, q9, q10, q11, q12, q13, q14, q15]))] X14) hP
  replace hD := zD_perm (zsw [] [(q15, .inl (ca 2, 31000, .inl (fun _ => 0)))] [(a, .inr (6, oX6 [q1, q2, q3, q4, q5, q6, q7, q8, q9, q10, q11, q12, q13, q14, q15]))] X14) hD
  obtain ⟨X15, eX15⟩ : ∃ X : va_W, X = [(q15, .inl (ca 2, 31000, .inl (fun _ => 0)))] ++ X14 := ⟨_, rfl⟩
  rw [← eX15] at hP hD
  replace hP : va_P D zcl ([(a, .inr (6, oX6 [q1, q2, q3, q4, q5, q6, q7, q8, q9, q10, q11, q12, q13, q14, q15]))] ++ X15) H30 := hP
  replace hD : va_D A ([(a, .inr (6, oX6 [q1, q2, q3, q4, q5, q6, q7, q8, q9, q10, q11, q12, q13, q14, q15]))] ++ X15) := hD
  refine lv_aload_n hx hb dX6_init_122 rfl (lv_at hl 0 rfl) ?_
  refine lv_sipush (v := (31000 : Int32)) hx hb dX6_init_123 (by decide) ?_
  refine zn_i (N' := 31000) hx hb hts hK hP hD hS hA mw_691 (by decide) (by decide) (Nat.le_of_ble_eq_true rfl) (by rw [hRm]; exact Nat.le_of_ble_eq_true rfl) (by rw [hRm]; exact Nat.le_of_ble_eq_true rfl) dX6_init_126 (fun q16 H31 _ _ _ => ?_)
  clear hP hD hS
  rename_i hP hD hS
  try clear H30
  replace hP := zP_perm (zfr _ _) hP
  replace hD := zD_perm (zfr _ _) hD
  refine W.widen (k := 16) (n := 65637) (by omega) (by omega) ?_
  refine va_putF (D := D) (ci := 6) (v := .ref q16) (ty := (.array .int)) (C := RX6) (T := TX6) (N := 51) hx hb hts uw_X6 tyX6 tyX6_ok nmX6 hown hK hP hD hS 1 rfl rfl 37 (by decide) (hts _ mw_591) (fun _ h9 => h9) rfl hin rfl (by decide +kernel) rfl rfl (Nat.le_of_ble_eq_true rfl) dX6_init_128 (fun H32 _ _ _ _ => ?_)
  clear hP hD hS; try clear locs
  rename_i locs hP hD hS
  try clear H31
  replace hP : va_P D zcl ([(q16, .inl (ca 0, 31000, .inl (fun _ => 0))), (a, .inr (6, oX6 [q1, q2, q3, q4, q5, q6, q7, q8, q9, q10, q11, q12, q13, q14, q15, q16]))] ++ X15) H32 := hP
  replace hD : va_D A ([(q16, .inl (ca 0, 31000, .inl (fun _ => 0))), (a, .inr (6, oX6 [q1, q2, q3, q4, q5, q6, q7, q8, q9, q10, q11, q12, q13, q14, q15, q16]))] ++ X15) := hD
  replace hP := zP_perm (zsw [] [(q16, .inl (ca 0, 31000, .inl (fun _ => 0)))] [(a, .inr (6, oX6 [q1, q2, q3, q4, q5, q6, q7, q8, q9, q10, q11, q12, q13, q14, q15, q16]))] X15) hP
  replace hD := zD_perm (zsw [] [(q16, .inl (ca 0, 31000, .inl (fun _ => 0)))] [(a, .inr (6, oX6 [q1, q2, q3, q4, q5, q6, q7, q8, q9, q10, q11, q12, q13, q14, q15, q16]))] X15) hD
  obtain ⟨X16, eX16⟩ : ∃ X : va_W, X = [(q16, .inl (ca 0, 31000, .inl (fun _ => 0)))] ++ X15 := ⟨_, rfl⟩
  rw [← eX16] at hP hD
  replace hP : va_P D zcl ([(a, .inr (6, oX6 [q1, q2, q3, q4, q5, q6, q7, q8, q9, q10, q11, q12, q13, q14, q15, q16]))] ++ X16) H32 := hP
  replace hD : va_D A ([(a, .inr (6, oX6 [q1, q2, q3, q4, q5, q6, q7, q8, q9, q10, q11, q12, q13, q14, q15, q16]))] ++ X16) := hD
  refine lv_aload_n hx hb dX6_init_131 rfl (lv_at hl 0 rfl) ?_
  refine lv_iconst (v := (5 : Int32)) hx hb dX6_init_132 (by decide) ?_
  refine zn_i (N' := 5) hx hb hts hK hP hD hS hA mw_691 (by decide) (by decide) (Nat.le_of_ble_eq_true rfl) (by rw [hRm]; exact Nat.le_of_ble_eq_true rfl) (by rw [hRm]; exact Nat.le_of_ble_eq_true rfl) dX6_init_133 (fun q17 H33 _ _ _ => ?_)
  clear hP hD hS
  rename_i hP hD hS
  try clear H32
  replace hP := zP_perm (zfr _ _) hP
  replace hD := zD_perm (zfr _ _) hD
  refine W.widen (k := 17) (n := 65642) (by omega) (by omega) ?_
  refine va_putF (D := D) (ci := 6) (v := .ref q17) (ty := (.array .int)) (C := RX6) (T := TX6) (N := 51) hx hb hts uw_X6 tyX6 tyX6_ok nmX6 hown hK hP hD hS 1 rfl rfl 45 (by decide) (hts _ mw_679) (fun _ h9 => h9) rfl hin rfl (by decide +kernel) rfl rfl (Nat.le_of_ble_eq_true rfl) dX6_init_135 (fun H34 _ _ _ _ => ?_)
  clear hP hD hS; try clear locs
  rename_i locs hP hD hS
  try clear H33
  replace hP : va_P D zcl ([(q17, .inl (ca 0, 5, .inl (fun _ => 0))), (a, .inr (6, oX6 [q1, q2, q3, q4, q5, q6, q7, q8, q9, q10, q11, q12, q13, q14, q15, q16, q17]))] ++ X16) H34 := hP
  replace hD : va_D A ([(q17, .inl (ca 0, 5, .inl (fun _ => 0))), (a, .inr (6, oX6 [q1, q2, q3, q4, q5, q6, q7, q8, q9, q10, q11, q12, q13, q14, q15, q16, q17]))] ++ X16) := hD
  replace hP := zP_perm (zsw [] [(q17, .inl (ca 0, 5, .inl (fun _ => 0)))] [(a, .inr (6, oX6 [q1, q2, q3, q4, q5, q6, q7, q8, q9, q10, q11, q12, q13, q14, q15, q16, q17]))] X16) hP
  replace hD := zD_perm (zsw [] [(q17, .inl (ca 0, 5, .inl (fun _ => 0)))] [(a, .inr (6, oX6 [q1, q2, q3, q4, q5, q6, q7, q8, q9, q10, q11, q12, q13, q14, q15, q16, q17]))] X16) hD
  obtain ⟨X17, eX17⟩ : ∃ X : va_W, X = [(q17, .inl (ca 0, 5, .inl (fun _ => 0)))] ++ X16 := ⟨_, rfl⟩
  rw [← eX17] at hP hD
  replace hP : va_P D zcl ([(a, .inr (6, oX6 [q1, q2, q3, q4, q5, q6, q7, q8, q9, q10, q11, q12, q13, q14, q15, q16, q17]))] ++ X17) H34 := hP
  replace hD : va_D A ([(a, .inr (6, oX6 [q1, q2, q3, q4, q5, q6, q7, q8, q9, q10, q11, q12, q13, q14, q15, q16, q17]))] ++ X17) := hD
  refine lv_aload_n hx hb dX6_init_138 rfl (lv_at hl 0 rfl) ?_
  refine lv_iconst (v := (5 : Int32)) hx hb dX6_init_139 (by decide) ?_
  refine zn_i (N' := 5) hx hb hts hK hP hD hS hA mw_691 (by decide) (by decide) (Nat.le_of_ble_eq_true rfl) (by rw [hRm]; exact Nat.le_of_ble_eq_true rfl) (by rw [hRm]; exact Nat.le_of_ble_eq_true rfl) dX6_init_140 (fun q18 H35 _ _ _ => ?_)
  clear hP hD hS
  rename_i hP hD hS
  try clear H34
  replace hP := zP_perm (zfr _ _) hP
  replace hD := zD_perm (zfr _ _) hD
  refine W.widen (k := 18) (n := 65647) (by omega) (by omega) ?_
  refine va_putF (D := D) (ci := 6) (v := .ref q18) (ty := (.array .int)) (C := RX6) (T := TX6) (N := 51) hx hb hts uw_X6 tyX6 tyX6_ok nmX6 hown hK hP hD hS 1 rfl rfl 46 (by decide) (hts _ mw_680) (fun _ h9 => h9) rfl hin rfl (by decide +kernel) rfl rfl (Nat.le_of_ble_eq_true rfl) dX6_init_142 (fun H36 _ _ _ _ => ?_)
  clear hP hD hS; try clear locs
  rename_i locs hP hD hS
  try clear H35
  replace hP : va_P D zcl ([(q18, .inl (ca 0, 5, .inl (fun _ => 0))), (a, .inr (6, oX6 [q1, q2, q3, q4, q5, q6, q7, q8, q9, q10, q11, q12, q13, q14, q15, q16, q17, q18]))] ++ X17) H36 := hP
  replace hD : va_D A ([(q18, .inl (ca 0, 5, .inl (fun _ => 0))), (a, .inr (6, oX6 [q1, q2, q3, q4, q5, q6, q7, q8, q9, q10, q11, q12, q13, q14, q15, q16, q17, q18]))] ++ X17) := hD
  replace hP := zP_perm (zsw [] [(q18, .inl (ca 0, 5, .inl (fun _ => 0)))] [(a, .inr (6, oX6 [q1, q2, q3, q4, q5, q6, q7, q8, q9, q10, q11, q12, q13, q14, q15, q16, q17, q18]))] X17) hP
  replace hD := zD_perm (zsw [] [(q18, .inl (ca 0, 5, .inl (fun _ => 0)))] [(a, .inr (6, oX6 [q1, q2, q3, q4, q5, q6, q7, q8, q9, q10, q11, q12, q13, q14, q15, q16, q17, q18]))] X17) hD
  obtain ⟨X18, eX18⟩ : ∃ X : va_W, X = [(q18, .inl (ca 0, 5, .inl (fun _ => 0)))] ++ X17 := ⟨_, rfl⟩
  rw [← eX18] at hP hD
  replace hP : va_P D zcl ([(a, .inr (6, oX6 [q1, q2, q3, q4, q5, q6, q7, q8, q9, q10, q11, q12, q13, q14, q15, q16, q17, q18]))] ++ X18) H36 := hP
  replace hD : va_D A ([(a, .inr (6, oX6 [q1, q2, q3, q4, q5, q6, q7, q8, q9, q10, q11, q12, q13, q14, q15, q16, q17, q18]))] ++ X18) := hD
  refine lv_aload_n hx hb dX6_init_145 rfl (lv_at hl 0 rfl) ?_
  refine lv_iconst (v := (5 : Int32)) hx hb dX6_init_146 (by decide) ?_
  refine zn_i (N' := 5) hx hb hts hK hP hD hS hA mw_691 (by decide) (by decide) (Nat.le_of_ble_eq_true rfl) (by rw [hRm]; exact Nat.le_of_ble_eq_true rfl) (by rw [hRm]; exact Nat.le_of_ble_eq_true rfl) dX6_init_147 (fun q19 H37 _ _ _ => ?_)
  clear hP hD hS
  rename_i hP hD hS
  try clear H36
  replace hP := zP_perm (zfr _ _) hP
  replace hD := zD_perm (zfr _ _) hD
  refine W.widen (k := 19) (n := 65652) (by omega) (by omega) ?_
  refine va_putF (D := D) (ci := 6) (v := .ref q19) (ty := (.array .int)) (C := RX6) (T := TX6) (N := 51) hx hb hts uw_X6 tyX6 tyX6_ok nmX6 hown hK hP hD hS 1 rfl rfl 47 (by decide) (hts _ mw_681) (fun _ h9 => h9) rfl hin rfl (by decide +kernel) rfl rfl (Nat.le_of_ble_eq_true rfl) dX6_init_149 (fun H38 _ _ _ _ => ?_)
  clear hP hD hS; try clear locs
  rename_i locs hP hD hS
  try clear H37
  replace hP : va_P D zcl ([(q19, .inl (ca 0, 5, .inl (fun _ => 0))), (a, .inr (6, oX6 [q1, q2, q3, q4, q5, q6, q7, q8, q9, q10, q11, q12, q13, q14, q15, q16, q17, q18, q19]))] ++ X18) H38 := hP
  replace hD : va_D A ([(q19, .inl (ca 0, 5, .inl (fun _ => 0))), (a, .inr (6, oX6 [q1, q2, q3, q4, q5, q6, q7, q8, q9, q10, q11, q12, q13, q14, q15, q16, q17, q18, q19]))] ++ X18) := hD
  replace hP := zP_perm (zsw [] [(q19, .inl (ca 0, 5, .inl (fun _ => 0)))] [(a, .inr (6, oX6 [q1, q2, q3, q4, q5, q6, q7, q8, q9, q10, q11, q12, q13, q14, q15, q16, q17, q18, q19]))] X18) hP
  replace hD := zD_perm (zsw [] [(q19, .inl (ca 0, 5, .inl (fun _ => 0)))] [(a, .inr (6, oX6 [q1, q2, q3, q4, q5, q6, q7, q8, q9, q10, q11, q12, q13, q14, q15, q16, q17, q18, q19]))] X18) hD
  obtain ⟨X19, eX19⟩ : ∃ X : va_W, X = [(q19, .inl (ca 0, 5, .inl (fun _ => 0)))] ++ X18 := ⟨_, rfl⟩
  rw [← eX19] at hP hD
  replace hP : va_P D zcl ([(a, .inr (6, oX6 [q1, q2, q3, q4, q5, q6, q7, q8, q9, q10, q11, q12, q13, q14, q15, q16, q17, q18, q19]))] ++ X19) H38 := hP
  replace hD : va_D A ([(a, .inr (6, oX6 [q1, q2, q3, q4, q5, q6, q7, q8, q9, q10, q11, q12, q13, q14, q15, q16, q17, q18, q19]))] ++ X19) := hD
  refine lv_aload_n hx hb dX6_init_152 rfl (lv_at hl 0 rfl) ?_
  refine lv_iconst (v := (4 : Int32)) hx hb dX6_init_153 (by decide) ?_
  refine zn_i (N' := 4) hx hb hts hK hP hD hS hA mw_691 (by decide) (by decide) (Nat.le_of_ble_eq_true rfl) (by rw [hRm]; exact Nat.le_of_ble_eq_true rfl) (by rw [hRm]; exact Nat.le_of_ble_eq_true rfl) dX6_init_154 (fun q20 H39 _ _ _ => ?_)
  clear hP hD hS
  rename_i hP hD hS
  try clear H38
  replace hP := zP_perm (zfr _ _) hP
  replace hD := zD_perm (zfr _ _) hD
  refine W.widen (k := 20) (n := 65656) (by omega) (by omega) ?_
  refine va_putF (D := D) (ci := 6) (v := .ref q20) (ty := (.array .int)) (C := RX6) (T := TX6) (N := 51) hx hb hts uw_X6 tyX6 tyX6_ok nmX6 hown hK hP hD hS 1 rfl rfl 48 (by decide) (hts _ mw_640) (fun _ h9 => h9) rfl hin rfl (by decide +kernel) rfl rfl (Nat.le_of_ble_eq_true rfl) dX6_init_156 (fun H40 _ _ _ _ => ?_)
  clear hP hD hS; try clear locs
  rename_i locs hP hD hS
  try clear H39
  replace hP : va_P D zcl ([(q20, .inl (ca 0, 4, .inl (fun _ => 0))), (a, .inr (6, oX6 [q1, q2, q3, q4, q5, q6, q7, q8, q9, q10, q11, q12, q13, q14, q15, q16, q17, q18, q19, q20]))] ++ X19) H40 := hP
  replace hD : va_D A ([(q20, .inl (ca 0, 4, .inl (fun _ => 0))), (a, .inr (6, oX6 [q1, q2, q3, q4, q5, q6, q7, q8, q9, q10, q11, q12, q13, q14, q15, q16, q17, q18, q19, q20]))] ++ X19) := hD
  replace hP := zP_perm (zsw [] [(q20, .inl (ca 0, 4, .inl (fun _ => 0)))] [(a, .inr (6, oX6 [q1, q2, q3, q4, q5, q6, q7, q8, q9, q10, q11, q12, q13, q14, q15, q16, q17, q18, q19, q20]))] X19) hP
  replace hD := zD_perm (zsw [] [(q20, .inl (ca 0, 4, .inl (fun _ => 0)))] [(a, .inr (6, oX6 [q1, q2, q3, q4, q5, q6, q7, q8, q9, q10, q11, q12, q13, q14, q15, q16, q17, q18, q19, q20]))] X19) hD
  obtain ⟨X20, eX20⟩ : ∃ X : va_W, X = [(q20, .inl (ca 0, 4, .inl (fun _ => 0)))] ++ X19 := ⟨_, rfl⟩
  rw [← eX20] at hP hD
  replace hP : va_P D zcl ([(a, .inr (6, oX6 [q1, q2, q3, q4, q5, q6, q7, q8, q9, q10, q11, q12, q13, q14, q15, q16, q17, q18, q19, q20]))] ++ X20) H40 := hP
  replace hD : va_D A ([(a, .inr (6, oX6 [q1, q2, q3, q4, q5, q6, q7, q8, q9, q10, q11, q12, q13, q14, q15, q16, q17, q18, q19, q20]))] ++ X20) := hD
  refine lv_aload_n hx hb dX6_init_159 rfl (lv_at hl 0 rfl) ?_
  refine lv_iconst (v := (4 : Int32)) hx hb dX6_init_160 (by decide) ?_
  refine zn_i (N' := 4) hx hb hts hK hP hD hS hA mw_691 (by decide) (by decide) (Nat.le_of_ble_eq_true rfl) (by rw [hRm]; exact Nat.le_of_ble_eq_true rfl) (by rw [hRm]; exact Nat.le_of_ble_eq_true rfl) dX6_init_161 (fun q21 H41 _ _ _ => ?_)
  clear hP hD hS
  rename_i hP hD hS
  try clear H40
  replace hP := zP_perm (zfr _ _) hP
  replace hD := zD_perm (zfr _ _) hD
  refine W.widen (k := 21) (n := 65660) (by omega) (by omega) ?_
  refine va_putF (D := D) (ci := 6) (v := .ref q21) (ty := (.array .int)) (C := RX6) (T := TX6) (N := 51) hx hb hts uw_X6 tyX6 tyX6_ok nmX6 hown hK hP hD hS 1 rfl rfl 49 (by decide) (hts _ mw_627) (fun _ h9 => h9) rfl hin rfl (by decide +kernel) rfl rfl (Nat.le_of_ble_eq_true rfl) dX6_init_163 (fun H42 _ _ _ _ => ?_)
  clear hP hD hS; try clear locs
  rename_i locs hP hD hS
  try clear H41
  replace hP : va_P D zcl ([(q21, .inl (ca 0, 4, .inl (fun _ => 0))), (a, .inr (6, oX6 [q1, q2, q3, q4, q5, q6, q7, q8, q9, q10, q11, q12, q13, q14, q15, q16, q17, q18, q19, q20, q21]))] ++ X20) H42 := hP
  replace hD : va_D A ([(q21, .inl (ca 0, 4, .inl (fun _ => 0))), (a, .inr (6, oX6 [q1, q2, q3, q4, q5, q6, q7, q8, q9, q10, q11, q12, q13, q14, q15, q16, q17, q18, q19, q20, q21]))] ++ X20) := hD
  replace hP := zP_perm (zsw [] [(q21, .inl (ca 0, 4, .inl (fun _ => 0)))] [(a, .inr (6, oX6 [q1, q2, q3, q4, q5, q6, q7, q8, q9, q10, q11, q12, q13, q14, q15, q16, q17, q18, q19, q20, q21]))] X20) hP
  replace hD := zD_perm (zsw [] [(q21, .inl (ca 0, 4, .inl (fun _ => 0)))] [(a, .inr (6, oX6 [q1, q2, q3, q4, q5, q6, q7, q8, q9, q10, q11, q12, q13, q14, q15, q16, q17, q18, q19, q20, q21]))] X20) hD
  obtain ⟨X21, eX21⟩ : ∃ X : va_W, X = [(q21, .inl (ca 0, 4, .inl (fun _ => 0)))] ++ X20 := ⟨_, rfl⟩
  rw [← eX21] at hP hD
  replace hP : va_P D zcl ([(a, .inr (6, oX6 [q1, q2, q3, q4, q5, q6, q7, q8, q9, q10, q11, q12, q13, q14, q15, q16, q17, q18, q19, q20, q21]))] ++ X21) H42 := hP
  replace hD : va_D A ([(a, .inr (6, oX6 [q1, q2, q3, q4, q5, q6, q7, q8, q9, q10, q11, q12, q13, q14, q15, q16, q17, q18, q19, q20, q21]))] ++ X21) := hD
  refine lv_aload_n hx hb dX6_init_166 rfl (lv_at hl 0 rfl) ?_
  refine lv_sipush (v := (160 : Int32)) hx hb dX6_init_167 (by decide) ?_
  refine zn_i (N' := 160) hx hb hts hK hP hD hS hA mw_691 (by decide) (by decide) (Nat.le_of_ble_eq_true rfl) (by rw [hRm]; exact Nat.le_of_ble_eq_true rfl) (by rw [hRm]; exact Nat.le_of_ble_eq_true rfl) dX6_init_170 (fun q22 H43 _ _ _ => ?_)
  clear hP hD hS
  rename_i hP hD hS
  try clear H42
  replace hP := zP_perm (zfr _ _) hP
  replace hD := zD_perm (zfr _ _) hD
  refine W.widen (k := 22) (n := 65820) (by omega) (by omega) ?_
  refine va_putF (D := D) (ci := 6) (v := .ref q22) (ty := (.array .int)) (C := RX6) (T := TX6) (N := 51) hx hb hts uw_X6 tyX6 tyX6_ok nmX6 hown hK hP hD hS 1 rfl rfl 50 (by decide) (hts _ mw_628) (fun _ h9 => h9) rfl hin rfl (by decide +kernel) rfl rfl (Nat.le_of_ble_eq_true rfl) dX6_init_172 (fun H44 _ _ _ _ => ?_)
  clear hP hD hS; try clear locs
  rename_i locs hP hD hS
  try clear H43
  replace hP : va_P D zcl ([(q22, .inl (ca 0, 160, .inl (fun _ => 0))), (a, .inr (6, oX6 [q1, q2, q3, q4, q5, q6, q7, q8, q9, q10, q11, q12, q13, q14, q15, q16, q17, q18, q19, q20, q21, q22]))] ++ X21) H44 := hP
  replace hD : va_D A ([(q22, .inl (ca 0, 160, .inl (fun _ => 0))), (a, .inr (6, oX6 [q1, q2, q3, q4, q5, q6, q7, q8, q9, q10, q11, q12, q13, q14, q15, q16, q17, q18, q19, q20, q21, q22]))] ++ X21) := hD
  replace hP := zP_perm (zsw [] [(q22, .inl (ca 0, 160, .inl (fun _ => 0)))] [(a, .inr (6, oX6 [q1, q2, q3, q4, q5, q6, q7, q8, q9, q10, q11, q12, q13, q14, q15, q16, q17, q18, q19, q20, q21, q22]))] X21) hP
  replace hD := zD_perm (zsw [] [(q22, .inl (ca 0, 160, .inl (fun _ => 0)))] [(a, .inr (6, oX6 [q1, q2, q3, q4, q5, q6, q7, q8, q9, q10, q11, q12, q13, q14, q15, q16, q17, q18, q19, q20, q21, q22]))] X21) hD
  obtain ⟨X22, eX22⟩ : ∃ X : va_W, X = [(q22, .inl (ca 0, 160, .inl (fun _ => 0)))] ++ X21 := ⟨_, rfl⟩
  rw [← eX22] at hP hD
  replace hP : va_P D zcl ([(a, .inr (6, oX6 [q1, q2, q3, q4, q5, q6, q7, q8, q9, q10, q11, q12, q13, q14, q15, q16, q17, q18, q19, q20, q21, q22]))] ++ X22) H44 := hP
  replace hD : va_D A ([(a, .inr (6, oX6 [q1, q2, q3, q4, q5, q6, q7, q8, q9, q10, q11, q12, q13, q14, q15, q16, q17, q18, q19, q20, q21, q22]))] ++ X22) := hD
  rw [eX22, eX21, eX20, eX19, eX18, eX17, eX16, eX15, eX14, eX13, eX12, eX11, eX10, eX9, eX8, eX7, eX6, eX5, eX4, eX3, eX2, eX1, eX0] at hP hD
  clear eX22 eX21 eX20 eX19 eX18 eX17 eX16 eX15 eX14 eX13 eX12 eX11 eX10 eX9 eX8 eX7 eX6 eX5 eX4 eX3 eX2 eX1 eX0
  obtain ⟨H, eH⟩ : ∃ Hq : Heap, Hq = H44 := ⟨_, rfl⟩
  rw [← eH] at hP hS ⊢
  replace hP : va_P D zcl [(a, .inr (6, oX6 [q1, q2, q3, q4, q5, q6, q7, q8, q9, q10, q11, q12, q13, q14, q15, q16, q17, q18, q19, q20, q21, q22])), (q22, .inl (ca 0, 160, .inl (fun _ => 0))), (q21, .inl (ca 0, 4, .inl (fun _ => 0))), (q20, .inl (ca 0, 4, .inl (fun _ => 0))), (q19, .inl (ca 0, 5, .inl (fun _ => 0))), (q18, .inl (ca 0, 5, .inl (fun _ => 0))), (q17, .inl (ca 0, 5, .inl (fun _ => 0))), (q16, .inl (ca 0, 31000, .inl (fun _ => 0))), (q15, .inl (ca 2, 31000, .inl (fun _ => 0))), (q14, .inl (ca 0, 5, .inl (fun _ => 0))), (q13, .inl (ca 0, 5, .inl (fun _ => 0))), (q12, .inl (ca 0, 5, .inl (fun _ => 0))), (q11, .inl (ca 0, 6, .inl (fun _ => 0))), (q10, .inl (ca 0, 200, .inl (fun _ => 0))), (q9, .inl (ca 0, 200, .inl (fun _ => 0))), (q8, .inl (ca 0, 3000, .inl (fun _ => 0))), (q7, .inl (ca 0, 18, .inl (fun _ => 0))), (q6, .inl (ca 0, 18, .inl (fun _ => 0))), (q5, .inl (ca 0, 160, .inl (fun _ => 0))), (q4, .inl (ca 0, 5, .inl (fun _ => 0))), (q3, .inl (ca 0, 5, .inl (fun _ => 0))), (q2, .inl (ca 0, 5, .inl (fun _ => 0))), (q1, .inl (ca 0, 5, .inl (fun _ => 0)))] H := hP
  replace hD : va_D A [(a, .inr (6, oX6 [q1, q2, q3, q4, q5, q6, q7, q8, q9, q10, q11, q12, q13, q14, q15, q16, q17, q18, q19, q20, q21, q22])), (q22, .inl (ca 0, 160, .inl (fun _ => 0))), (q21, .inl (ca 0, 4, .inl (fun _ => 0))), (q20, .inl (ca 0, 4, .inl (fun _ => 0))), (q19, .inl (ca 0, 5, .inl (fun _ => 0))), (q18, .inl (ca 0, 5, .inl (fun _ => 0))), (q17, .inl (ca 0, 5, .inl (fun _ => 0))), (q16, .inl (ca 0, 31000, .inl (fun _ => 0))), (q15, .inl (ca 2, 31000, .inl (fun _ => 0))), (q14, .inl (ca 0, 5, .inl (fun _ => 0))), (q13, .inl (ca 0, 5, .inl (fun _ => 0))), (q12, .inl (ca 0, 5, .inl (fun _ => 0))), (q11, .inl (ca 0, 6, .inl (fun _ => 0))), (q10, .inl (ca 0, 200, .inl (fun _ => 0))), (q9, .inl (ca 0, 200, .inl (fun _ => 0))), (q8, .inl (ca 0, 3000, .inl (fun _ => 0))), (q7, .inl (ca 0, 18, .inl (fun _ => 0))), (q6, .inl (ca 0, 18, .inl (fun _ => 0))), (q5, .inl (ca 0, 160, .inl (fun _ => 0))), (q4, .inl (ca 0, 5, .inl (fun _ => 0))), (q3, .inl (ca 0, 5, .inl (fun _ => 0))), (q2, .inl (ca 0, 5, .inl (fun _ => 0))), (q1, .inl (ca 0, 5, .inl (fun _ => 0)))] := hD
  obtain ⟨ad, had⟩ : ∃ ad : Nat → Nat, ad = fun i => [a, q1, q2, q3, q4, q5, q6, q7, q8, q9, q10, q11, q12, q13, q14, q15, q16, q17, q18, q19, q20, q21, q22].getD i 0 := ⟨_, rfl⟩
  obtain ⟨pf, hpf⟩ : ∃ pf : Nat → Nat, pf = fun i => [0, 22, 21, 20, 19, 18, 17, 16, 15, 14, 13, 12, 11, 10, 9, 8, 7, 6, 5, 4, 3, 2, 1].getD i 0 := ⟨_, rfl⟩
  have key : ∀ i, i < 23 → (∃ e, ([(a, .inr (6, oX6 [q1, q2, q3, q4, q5, q6, q7, q8, q9, q10, q11, q12, q13, q14, q15, q16, q17, q18, q19, q20, q21, q22])), (q22, .inl (ca 0, 160, .inl (fun _ => 0))), (q21, .inl (ca 0, 4, .inl (fun _ => 0))), (q20, .inl (ca 0, 4, .inl (fun _ => 0))), (q19, .inl (ca 0, 5, .inl (fun _ => 0))), (q18, .inl (ca 0, 5, .inl (fun _ => 0))), (q17, .inl (ca 0, 5, .inl (fun _ => 0))), (q16, .inl (ca 0, 31000, .inl (fun _ => 0))), (q15, .inl (ca 2, 31000, .inl (fun _ => 0))), (q14, .inl (ca 0, 5, .inl (fun _ => 0))), (q13, .inl (ca 0, 5, .inl (fun _ => 0))), (q12, .inl (ca 0, 5, .inl (fun _ => 0))), (q11, .inl (ca 0, 6, .inl (fun _ => 0))), (q10, .inl (ca 0, 200, .inl (fun _ => 0))), (q9, .inl (ca 0, 200, .inl (fun _ => 0))), (q8, .inl (ca 0, 3000, .inl (fun _ => 0))), (q7, .inl (ca 0, 18, .inl (fun _ => 0))), (q6, .inl (ca 0, 18, .inl (fun _ => 0))), (q5, .inl (ca 0, 160, .inl (fun _ => 0))), (q4, .inl (ca 0, 5, .inl (fun _ => 0))), (q3, .inl (ca 0, 5, .inl (fun _ => 0))), (q2, .inl (ca 0, 5, .inl (fun _ => 0))), (q1, .inl (ca 0, 5, .inl (fun _ => 0)))] : va_W)[pf i]? = some (ad i, e)) ∧ va_at D zcl (ad i, zcell (D, ca, ad, sa) zM0M i (shM i)) H := by
    intro i hi
    rcases (show i = 0 ∨ i = 1 ∨ i = 2 ∨ i = 3 ∨ i = 4 ∨ i = 5 ∨ i = 6 ∨ i = 7 ∨ i = 8 ∨ i = 9 ∨ i = 10 ∨ i = 11 ∨ i = 12 ∨ i = 13 ∨ i = 14 ∨ i = 15 ∨ i = 16 ∨ i = 17 ∨ i = 18 ∨ i = 19 ∨ i = 20 ∨ i = 21 ∨ i = 22 by omega) with rfl | rfl | rfl | rfl | rfl | rfl | rfl | rfl | rfl | rfl | rfl | rfl | rfl | rfl | rfl | rfl | rfl | rfl | rfl | rfl | rfl | rfl | rfl
    · exact ⟨⟨_, by rw [hpf, had]; rfl⟩, by rw [had]; exact hP 0 _ rfl⟩
    · exact ⟨⟨_, by rw [hpf, had]; rfl⟩, by rw [had]; exact hP 22 _ rfl⟩
    · exact ⟨⟨_, by rw [hpf, had]; rfl⟩, by rw [had]; exact hP 21 _ rfl⟩
    · exact ⟨⟨_, by rw [hpf, had]; rfl⟩, by rw [had]; exact hP 20 _ rfl⟩
    · exact ⟨⟨_, by rw [hpf, had]; rfl⟩, by rw [had]; exact hP 19 _ rfl⟩
    · exact ⟨⟨_, by rw [hpf, had]; rfl⟩, by rw [had]; exact hP 18 _ rfl⟩
    · exact ⟨⟨_, by rw [hpf, had]; rfl⟩, by rw [had]; exact hP 17 _ rfl⟩
    · exact ⟨⟨_, by rw [hpf, had]; rfl⟩, by rw [had]; exact hP 16 _ rfl⟩
    · exact ⟨⟨_, by rw [hpf, had]; rfl⟩, by rw [had]; exact hP 15 _ rfl⟩
    · exact ⟨⟨_, by rw [hpf, had]; rfl⟩, by rw [had]; exact hP 14 _ rfl⟩
    · exact ⟨⟨_, by rw [hpf, had]; rfl⟩, by rw [had]; exact hP 13 _ rfl⟩
    · exact ⟨⟨_, by rw [hpf, had]; rfl⟩, by rw [had]; exact hP 12 _ rfl⟩
    · exact ⟨⟨_, by rw [hpf, had]; rfl⟩, by rw [had]; exact hP 11 _ rfl⟩
    · exact ⟨⟨_, by rw [hpf, had]; rfl⟩, by rw [had]; exact hP 10 _ rfl⟩
    · exact ⟨⟨_, by rw [hpf, had]; rfl⟩, by rw [had]; exact hP 9 _ rfl⟩
    · exact ⟨⟨_, by rw [hpf, had]; rfl⟩, by rw [had]; exact hP 8 _ rfl⟩
    · exact ⟨⟨_, by rw [hpf, had]; rfl⟩, by rw [had]; exact hP 7 _ rfl⟩
    · exact ⟨⟨_, by rw [hpf, had]; rfl⟩, by rw [had]; exact hP 6 _ rfl⟩
    · exact ⟨⟨_, by rw [hpf, had]; rfl⟩, by rw [had]; exact hP 5 _ rfl⟩
    · exact ⟨⟨_, by rw [hpf, had]; rfl⟩, by rw [had]; exact hP 4 _ rfl⟩
    · exact ⟨⟨_, by rw [hpf, had]; rfl⟩, by rw [had]; exact hP 3 _ rfl⟩
    · exact ⟨⟨_, by rw [hpf, had]; rfl⟩, by rw [had]; exact hP 2 _ rfl⟩
    · exact ⟨⟨_, by rw [hpf, had]; rfl⟩, by rw [had]; exact hP 1 _ rfl⟩
  have hpi : ∀ i, i < 23 → ∀ j, j < 23 → pf i = pf j → i = j := by rw [hpf]; decide +kernel
  have hP : va_P D zcl (zw (D, ca, ad, sa) shM 23 zM0M) H := zPz (fun i hi => (key i hi).2)
  have hJ : zJ (D, ca, ad, sa) 23 := fun i j hi hj e => by
    obtain ⟨⟨e1, h1⟩, -⟩ := key i hi
    obtain ⟨⟨e2, h2⟩, -⟩ := key j hj
    exact hpi i hi j hj (hD.1 _ _ _ _ h1 h2 e)
  have hAd : ∀ i, i < 23 → A (ad i) := fun i hi => by
    obtain ⟨⟨e1, h1⟩, -⟩ := key i hi
    exact hD.2 _ _ h1
  clear key hpi
  have ha0 : ad 0 = a := by rw [had]; rfl
  have hAA : A = zA (D, ca, ad, sa) 23 s.heap.size := zAA hAe ha0 (by decide) hAd
  have hAs : ∀ i, i < 23 → 0 < i → s.heap.size ≤ ad i := zAs hAe ha0 hJ hAd
  clear hA hD hAd
  subst hAA
  have C0 : zCx p s m args meth c cX6_init 2 RX6 none (D, ca, ad, sa) 23 := ⟨hx, hb, hml, hown, hts, hr, hlk, hK, hSt⟩
  obtain ⟨G, hG⟩ : ∃ G : zGr, G = (D, ca, ad, sa) := ⟨_, rfl⟩
  have hGD : G.1 = D := by rw [hG]
  have hret : ∀ (M : zM) (H : Heap) (locs : List Loc) (ls : Array Slot), va_P G.1 zcl (zw G shM 23 M) H → va_S (zA G 23 s.heap.size) s.heap H locs → some M = some o → W p l e R s m args below meth c H locs 22 65820 Q (F0 m 264 ls []) := by
    intro M H locs ls hP hS hf
    subst hQ
    subst hG
    rw [← hAe]
    exact W.vret hx hb hr (fun t ht hW => ⟨⟨(ad, M), rfl, ⟨Option.some.inj hf, ha0, hJ, hAs⟩, by show va_P D zcl _ t.heap; rw [ht]; exact hP⟩, hS.F ht⟩) hS.2.2 dX6_init_264 hlk
  replace hP : va_P G.1 zcl (zw G shM 23 zM0M) H := by rw [hG]; exact hP
  replace hS : va_S (zA G 23 s.heap.size) s.heap H locs := by rw [hG]; exact hS
  replace hJ : zJ G 23 := by rw [hG]; exact hJ
  replace C0 : zCx p s m args meth c cX6_init 2 RX6 none G 23 := by rw [hG]; exact C0
  have L177 : ∀ (n177 : Nat), ∀ (x1 : Int32) (M : zM) (H : Heap) (locs : List Loc) (ls : Array Slot), lv_has ls 2 [(0, .ref (G.2.2.1 0)), (1, .int x1)] → va_P G.1 zcl (zw G shM 23 M) H → va_S (zA G 23 s.heap.size) s.heap H locs → fX6_init_L177 n177 x1 M = some o → W p l e R s m args below meth c H locs 22 65820 Q (F0 m 177 ls []) := by
    intro n177
    induction n177 with
    | zero => intro x1 M H locs ls hl hP hS hf; exact zn_s (show none = some o from hf)
    | succ n177 ih177 =>
      intro x1 M H locs ls hl hP hS hf
      replace hf : fX6_init_B177 (fX6_init_L177 n177) x1 M = some o := hf
      unfold fX6_init_B177 at hf
      refine lv_iload_n hx hb dX6_init_177 rfl (lv_at hl 1 rfl) ?_
      refine lv_iconst (v := (4 : Int32)) hx hb dX6_init_178 (by decide) ?_
      refine lv_icmp_ge (tgt := 195) hx hb dX6_init_179 (by decide) (fun c_1 => ?_) (fun c_1 => ?_)
      · replace hf := zI_t c_1 hf
        refine lv_aload_n hx hb dX6_init_195 rfl (lv_at hl 0 rfl) ?_
        refine lv_bipush (v := (16 : Int32)) hx hb dX6_init_196 (by decide) ?_
        obtain ⟨M_2, hc_3, hf⟩ := zV_o hf
        refine zc_vv (As := [.int (16 : Int32)]) (rest := []) C0 hP hS hl.1 0 (mtX6_codes l G hJ (16 : Int32) M _ hc_3) lk_X6_77 (by decide) shM_0 (T := TX6) (n' := 51) rfl ds_X6_codes (by rw [hRm]; exact ⟨Nat.le_of_ble_eq_true rfl, Nat.le_of_ble_eq_true rfl⟩) rfl rfl (Nat.le_of_ble_eq_true rfl) dX6_init_198 (by rw [hRm]; exact ⟨Nat.le_of_ble_eq_true rfl, Nat.le_of_ble_eq_true rfl⟩) (fun H locs hP hS => ?_)
        refine lv_aload_n hx hb dX6_init_201 rfl (lv_at hl 0 rfl) ?_
        refine lv_iconst (v := (0 : Int32)) hx hb dX6_init_202 (by decide) ?_
        obtain ⟨M_4, hc_5, hf⟩ := zV_o hf
        refine zc_vv (As := [.int (0 : Int32)]) (rest := []) C0 hP hS hl.1 0 (mtX6_codes l G hJ (0 : Int32) M_2 _ hc_5) lk_X6_77 (by decide) shM_0 (T := TX6) (n' := 51) rfl ds_X6_codes (by rw [hRm]; exact ⟨Nat.le_of_ble_eq_true rfl, Nat.le_of_ble_eq_true rfl⟩) rfl rfl (Nat.le_of_ble_eq_true rfl) dX6_init_203 (by rw [hRm]; exact ⟨Nat.le_of_ble_eq_true rfl, Nat.le_of_ble_eq_true rfl⟩) (fun H locs hP hS => ?_)
        refine lv_aload_n hx hb dX6_init_206 rfl (lv_at hl 0 rfl) ?_
        refine lv_bipush (v := (6 : Int32)) hx hb dX6_init_207 (by decide) ?_
        obtain ⟨M_6, hc_7, hf⟩ := zV_o hf
        refine zc_vv (As := [.int (6 : Int32)]) (rest := []) C0 hP hS hl.1 0 (mtX6_codes l G hJ (6 : Int32) M_4 _ hc_7) lk_X6_77 (by decide) shM_0 (T := TX6) (n' := 51) rfl ds_X6_codes (by rw [hRm]; exact ⟨Nat.le_of_ble_eq_true rfl, Nat.le_of_ble_eq_true rfl⟩) rfl rfl (Nat.le_of_ble_eq_true rfl) dX6_init_209 (by rw [hRm]; exact ⟨Nat.le_of_ble_eq_true rfl, Nat.le_of_ble_eq_true rfl⟩) (fun H locs hP hS => ?_)
        refine lv_aload_n hx hb dX6_init_212 rfl (lv_at hl 0 rfl) ?_
        refine lv_bipush (v := (15 : Int32)) hx hb dX6_init_213 (by decide) ?_
        obtain ⟨M_8, hc_9, hf⟩ := zV_o hf
        refine zc_vv (As := [.int (15 : Int32)]) (rest := []) C0 hP hS hl.1 0 (mtX6_codes l G hJ (15 : Int32) M_6 _ hc_9) lk_X6_77 (by decide) shM_0 (T := TX6) (n' := 51) rfl ds_X6_codes (by rw [hRm]; exact ⟨Nat.le_of_ble_eq_true rfl, Nat.le_of_ble_eq_true rfl⟩) rfl rfl (Nat.le_of_ble_eq_true rfl) dX6_init_215 (by rw [hRm]; exact ⟨Nat.le_of_ble_eq_true rfl, Nat.le_of_ble_eq_true rfl⟩) (fun H locs hP hS => ?_)
        refine lv_aload_n hx hb dX6_init_218 rfl (lv_at hl 0 rfl) ?_
        refine lv_bipush (v := (16 : Int32)) hx hb dX6_init_219 (by decide) ?_
        obtain ⟨M_10, hc_11, hf⟩ := zV_o hf
        refine zc_vv (As := [.int (16 : Int32)]) (rest := []) C0 hP hS hl.1 0 (mtX6_codes l G hJ (16 : Int32) M_8 _ hc_11) lk_X6_77 (by decide) shM_0 (T := TX6) (n' := 51) rfl ds_X6_codes (by rw [hRm]; exact ⟨Nat.le_of_ble_eq_true rfl, Nat.le_of_ble_eq_true rfl⟩) rfl rfl (Nat.le_of_ble_eq_true rfl) dX6_init_221 (by rw [hRm]; exact ⟨Nat.le_of_ble_eq_true rfl, Nat.le_of_ble_eq_true rfl⟩) (fun H locs hP hS => ?_)
        refine lv_aload_n hx hb dX6_init_224 rfl (lv_at hl 0 rfl) ?_
        refine zr_getq (C := RX6) (T := TX6) (n := 51) C0 hP 0 (by decide) shM_0 12 7 rfl (by decide) uw_X6 mw_416 rfl dX6_init_225 ?_
        refine lv_iconst (v := (0 : Int32)) hx hb dX6_init_228 (by decide) ?_
        refine lv_iconst (v := (3 : Int32)) hx hb dX6_init_229 (by decide) ?_
        refine zr_iast C0 hJ hP hS 7 (by decide) shM_7 (by decide) dX6_init_230 (fun H locs hP hS => ?_)
        obtain ⟨M_12, eM_12, hf⟩ := zL_o hf
        have hP : va_P G.1 zcl (zw G shM 23 M_12) H := by rw [eM_12]; exact hP
        refine lv_aload_n hx hb dX6_init_231 rfl (lv_at hl 0 rfl) ?_
        refine zr_getq (C := RX6) (T := TX6) (n := 51) C0 hP 0 (by decide) shM_0 11 6 rfl (by decide) uw_X6 mw_414 rfl dX6_init_232 ?_
        refine lv_iconst (v := (1 : Int32)) hx hb dX6_init_235 (by decide) ?_
        refine lv_iconst (v := (3 : Int32)) hx hb dX6_init_236 (by decide) ?_
        refine zr_iast C0 hJ hP hS 6 (by decide) shM_6 (by decide) dX6_init_237 (fun H locs hP hS => ?_)
        obtain ⟨M_13, eM_13, hf⟩ := zL_o hf
        have hP : va_P G.1 zcl (zw G shM 23 M_13) H := by rw [eM_13]; exact hP
        refine lv_aload_n hx hb dX6_init_238 rfl (lv_at hl 0 rfl) ?_
        refine zr_getq (C := RX6) (T := TX6) (n := 51) C0 hP 0 (by decide) shM_0 12 7 rfl (by decide) uw_X6 mw_416 rfl dX6_init_239 ?_
        refine lv_iconst (v := (1 : Int32)) hx hb dX6_init_242 (by decide) ?_
        refine lv_iconst (v := (1 : Int32)) hx hb dX6_init_243 (by decide) ?_
        refine zr_iast C0 hJ hP hS 7 (by decide) shM_7 (by decide) dX6_init_244 (fun H locs hP hS => ?_)
        obtain ⟨M_14, eM_14, hf⟩ := zL_o hf
        have hP : va_P G.1 zcl (zw G shM 23 M_14) H := by rw [eM_14]; exact hP
        refine lv_aload_n hx hb dX6_init_245 rfl (lv_at hl 0 rfl) ?_
        refine zr_getq (C := RX6) (T := TX6) (n := 51) C0 hP 0 (by decide) shM_0 11 6 rfl (by decide) uw_X6 mw_414 rfl dX6_init_246 ?_
        refine lv_iconst (v := (2 : Int32)) hx hb dX6_init_249 (by decide) ?_
        refine lv_iconst (v := (4 : Int32)) hx hb dX6_init_250 (by decide) ?_
        refine zr_iast C0 hJ hP hS 6 (by decide) shM_6 (by decide) dX6_init_251 (fun H locs hP hS => ?_)
        obtain ⟨M_15, eM_15, hf⟩ := zL_o hf
        have hP : va_P G.1 zcl (zw G shM 23 M_15) H := by rw [eM_15]; exact hP
        refine lv_aload_n hx hb dX6_init_252 rfl (lv_at hl 0 rfl) ?_
        refine zr_getq (C := RX6) (T := TX6) (n := 51) C0 hP 0 (by decide) shM_0 12 7 rfl (by decide) uw_X6 mw_416 rfl dX6_init_253 ?_
        refine lv_iconst (v := (2 : Int32)) hx hb dX6_init_256 (by decide) ?_
        refine lv_iconst (v := (1 : Int32)) hx hb dX6_init_257 (by decide) ?_
        refine zr_iast C0 hJ hP hS 7 (by decide) shM_7 (by decide) dX6_init_258 (fun H locs hP hS => ?_)
        obtain ⟨M_16, eM_16, hf⟩ := zL_o hf
        have hP : va_P G.1 zcl (zw G shM 23 M_16) H := by rw [eM_16]; exact hP
        refine lv_aload_n hx hb dX6_init_259 rfl (lv_at hl 0 rfl) ?_
        refine lv_iconst (v := (1 : Int32)) hx hb dX6_init_260 (by decide) ?_
        refine zr_put (C := RX6) (T := TX6) (n := 51) C0 hJ hP hS 0 (by decide) shM_0 10 rfl (by decide) uw_X6 tyX6 tyX6_ok nmX6 mw_524 rfl rfl ⟨rfl, rfl⟩ dX6_init_261 (fun H locs hP hS => ?_)
        obtain ⟨M_17, eM_17, hf⟩ := zL_o hf
        have hP : va_P G.1 zcl (zw G shM 23 M_17) H := by rw [eM_17]; exact hP
        exact hret M_17 H locs ls hP hS hf
      · replace hf := zI_f c_1 hf
        refine lv_aload_n hx hb dX6_init_182 rfl (lv_at hl 0 rfl) ?_
        refine zr_getq (C := RX6) (T := TX6) (n := 51) C0 hP 0 (by decide) shM_0 48 20 rfl (by decide) uw_X6 mw_640 rfl dX6_init_183 ?_
        refine lv_iload_n hx hb dX6_init_186 rfl (lv_at hl 1 rfl) ?_
        refine lv_iconst (v := (-1 : Int32)) hx hb dX6_init_187 (by decide) ?_
        obtain ⟨hg_18, hf⟩ := zG_o hf
        refine zr_iast C0 hJ hP hS 20 (by decide) shM_20 hg_18 dX6_init_188 (fun H locs hP hS => ?_)
        obtain ⟨M_19, eM_19, hf⟩ := zL_o hf
        have hP : va_P G.1 zcl (zw G shM 23 M_19) H := by rw [eM_19]; exact hP
        obtain ⟨x1_20, ex1_20, hf⟩ := zL_o hf
        refine lv_iinc (v := x1_20) (lv' := [(1, .int x1_20), (0, .ref (G.2.2.1 0))]) hx hb dX6_init_189 hl (k := 1) rfl (by rw [ex1_20]; rfl) (by decide) rfl (fun ls hl => ?_)
        refine lv_goto (tgt := 177) hx hb dX6_init_192 (by decide) ?_
        exact ih177 x1_20 M_19 H locs ls (lv_sub hl [1, 0] rfl) hP hS hf
  have J175 : ∀ (M : zM) (H : Heap) (locs : List Loc) (ls : Array Slot), lv_has ls 2 [(0, .ref (G.2.2.1 0))] → va_P G.1 zcl (zw G shM 23 M) H → va_S (zA G 23 s.heap.size) s.heap H locs → fX6_init_J175 M = some o → W p l e R s m args below meth c H locs 22 65820 Q (F0 m 175 ls []) := by
    intro M H locs ls hl hP hS hf
    unfold fX6_init_J175 at hf
    refine lv_iconst (v := (0 : Int32)) hx hb dX6_init_175 (by decide) ?_
    refine lv_istore_n (lv' := [(1, .int (0 : Int32)), (0, .ref (G.2.2.1 0))]) hx hb dX6_init_176 rfl hl (by decide) rfl (fun ls hl => ?_)
    exact L177 zF (0 : Int32) M H locs ls (lv_sub hl [1, 0] rfl) hP hS hf
  have hl0 : lv_has ls 2 [(0, .ref (G.2.2.1 0))] := by rw [hG]; show lv_has ls 2 [(0, .ref (ad 0))]; rw [ha0]; exact lv_sub hl [0] rfl
  exact J175 zM0M H locs ls hl0 hP hS ho

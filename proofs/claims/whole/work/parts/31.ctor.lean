set_option maxHeartbeats 4000000 in
set_option maxRecDepth 100000 in
theorem ci_X0_init (l : Launch) (D : va_G) (ca : Nat → ClassId) (sa : Nat → Nat) (a : Nat) (sz : Nat) : Met l yX0_init (.code yX0_init cX0_init 1 none :: zT) { frames := 1, cells := 1, slots := 40, locals := 32 } (zIp D ca sa [.ref a] [(a, .inr (0, [.null, .int 0, .int 0]))] sz) (va_Qv (fun _ : Nat => True) (fun u t => va_P D zcl [(a, .inr (0, [.ref u, .int (-1 : Int32), .int 0])), (u, .inl (ca 0, 40, .inl (fun _ => 0)))] t.heap ∧ va_D (va_A [(a, .inr (0, [.null, .int 0, .int 0]))] sz) [(a, .inr (0, [.ref u, .int (-1 : Int32), .int 0])), (u, .inl (ca 0, 40, .inl (fun _ => 0)))]) (va_A [(a, .inr (0, [.null, .int 0, .int 0]))] sz)) 1 40 (va_A [(a, .inr (0, [.null, .int 0, .int 0]))] sz) := by
  refine zIof (by decide) (Nat.le_of_ble_eq_true rfl) ?_
  intro p e R Q s m args below meth c A hRm hsz hAe hQ hx hb hml hown hts hr hlk hin hK hSt hA hP hD hS ls hl
  replace hRm : R = { frames := 1, cells := 1, slots := 40, locals := 32 } := hRm
  have hl : lv_has ls 1 [(0, .ref a)] := hl
  refine lv_aload_n hx hb dX0_init_0 rfl (lv_at hl 0 rfl) ?_
  refine W.objInit hx hb hown (hts _ mw_688) (hts _ mw_689) (hts _ mw_690) rfl (by rw [hml]; exact hl.1) rfl dX0_init_1 (by rw [hRm]; exact Nat.le_of_ble_eq_true rfl) (by rw [hRm]; exact Nat.le_of_ble_eq_true rfl) ?_
  refine W.eq (g2 := F0 m 4 ls []) rfl ?_
  refine lv_aload_n hx hb dX0_init_4 rfl (lv_at hl 0 rfl) ?_
  refine lv_bipush (v := (40 : Int32)) hx hb dX0_init_5 (by decide) ?_
  refine zn_i (N' := 40) hx hb hts hK hP hD hS hA mw_691 (by decide) (by decide) (Nat.le_of_ble_eq_true rfl) (by rw [hRm]; exact Nat.le_of_ble_eq_true rfl) (by rw [hRm]; exact Nat.le_of_ble_eq_true rfl) dX0_init_7 (fun q1 H hP hD hS => ?_)
  have hP : va_P D zcl [(a, .inr (0, [.null, .int 0, .int 0])), (q1, .inl (ca 0, 40, .inl (fun _ => 0)))] H := hP
  have hD : va_D A [(a, .inr (0, [.null, .int 0, .int 0])), (q1, .inl (ca 0, 40, .inl (fun _ => 0)))] := hD
  refine W.widen (k := 1) (n := 40) (by omega) (by omega) ?_
  refine va_putF (D := D) (ci := 0) (v := .ref q1) (ty := (.array .int)) (C := RX0) (T := TX0) (N := 3) hx hb hts uw_X0 tyX0 tyX0_ok nmX0 hown hK hP hD hS 0 rfl rfl 0 (by decide) (hts _ mw_62) (fun _ h9 => h9) rfl hin rfl (by decide +kernel) rfl rfl (Nat.le_of_ble_eq_true rfl) dX0_init_9 (fun H locs hP hD hS => ?_)
  have hP : va_P D zcl [(a, .inr (0, [.ref q1, .int 0, .int 0])), (q1, .inl (ca 0, 40, .inl (fun _ => 0)))] H := hP
  have hD : va_D A [(a, .inr (0, [.ref q1, .int 0, .int 0])), (q1, .inl (ca 0, 40, .inl (fun _ => 0)))] := hD
  refine lv_aload_n hx hb dX0_init_12 rfl (lv_at hl 0 rfl) ?_
  refine lv_iconst (v := (-1 : Int32)) hx hb dX0_init_13 (by decide) ?_
  refine va_put (D := D) (ci := 0) (v := .int (-1 : Int32)) (ty := .int) (C := RX0) (T := TX0) (N := 3) hx hb hts uw_X0 tyX0 tyX0_ok nmX0 hown hK hP hD hS 0 rfl rfl 1 (by decide) (hts _ mw_60) (fun _ h9 => h9) rfl (by decide +kernel) rfl rfl (Nat.le_of_ble_eq_true rfl) dX0_init_14 (fun H locs hP hD hS => ?_)
  have hP : va_P D zcl [(a, .inr (0, [.ref q1, .int (-1 : Int32), .int 0])), (q1, .inl (ca 0, 40, .inl (fun _ => 0)))] H := hP
  have hD : va_D A [(a, .inr (0, [.ref q1, .int (-1 : Int32), .int 0])), (q1, .inl (ca 0, 40, .inl (fun _ => 0)))] := hD
  subst hQ
  rw [← hAe]
  exact W.vret hx hb hr (fun t ht hW => ⟨⟨q1, rfl, trivial, by rw [ht]; exact hP, hD⟩, hS.F ht⟩) hS.2.2 dX0_init_17 hlk
set_option maxHeartbeats 4000000 in
set_option maxRecDepth 100000 in
theorem ci_X1_init (l : Launch) (D : va_G) (ca : Nat → ClassId) (sa : Nat → Nat) (a : Nat) (sz : Nat) : Met l yX1_init (.code yX1_init cX1_init 1 none :: zT) { frames := 1, cells := 3, slots := 11031, locals := 32 } (zIp D ca sa [.ref a] [(a, .inr (1, [.null, .null, .null, .int 0, .int 0, .int 0, .int 0]))] sz) (va_Qv (fun _ : Nat × Nat × Nat => True) (fun u t => va_P D zcl [(a, .inr (1, [.ref u.1, .ref u.2.1, .ref u.2.2, .int 0, .int 0, .int 0, .int (-1 : Int32)])), (u.1, .inl (ca 1, 10000, .inr (.inl (fun _ => 0)))), (u.2.1, .inl (ca 1, 31, .inr (.inl (fun _ => 0)))), (u.2.2, .inl (ca 0, 1000, .inl (fun _ => 0)))] t.heap ∧ va_D (va_A [(a, .inr (1, [.null, .null, .null, .int 0, .int 0, .int 0, .int 0]))] sz) [(a, .inr (1, [.ref u.1, .ref u.2.1, .ref u.2.2, .int 0, .int 0, .int 0, .int (-1 : Int32)])), (u.1, .inl (ca 1, 10000, .inr (.inl (fun _ => 0)))), (u.2.1, .inl (ca 1, 31, .inr (.inl (fun _ => 0)))), (u.2.2, .inl (ca 0, 1000, .inl (fun _ => 0)))]) (va_A [(a, .inr (1, [.null, .null, .null, .int 0, .int 0, .int 0, .int 0]))] sz)) 3 11031 (va_A [(a, .inr (1, [.null, .null, .null, .int 0, .int 0, .int 0, .int 0]))] sz) := by
  refine zIof (by decide) (Nat.le_of_ble_eq_true rfl) ?_
  intro p e R Q s m args below meth c A hRm hsz hAe hQ hx hb hml hown hts hr hlk hin hK hSt hA hP hD hS ls hl
  replace hRm : R = { frames := 1, cells := 3, slots := 11031, locals := 32 } := hRm
  have hl : lv_has ls 1 [(0, .ref a)] := hl
  refine lv_aload_n hx hb dX1_init_0 rfl (lv_at hl 0 rfl) ?_
  refine W.objInit hx hb hown (hts _ mw_692) (hts _ mw_689) (hts _ mw_690) rfl (by rw [hml]; exact hl.1) rfl dX1_init_1 (by rw [hRm]; exact Nat.le_of_ble_eq_true rfl) (by rw [hRm]; exact Nat.le_of_ble_eq_true rfl) ?_
  refine W.eq (g2 := F0 m 4 ls []) rfl ?_
  refine lv_aload_n hx hb dX1_init_4 rfl (lv_at hl 0 rfl) ?_
  refine lv_sipush (v := (10000 : Int32)) hx hb dX1_init_5 (by decide) ?_
  refine zn_l (N' := 10000) hx hb hts hK hP hD hS hA mw_693 (by decide) (by decide) (Nat.le_of_ble_eq_true rfl) (by rw [hRm]; exact Nat.le_of_ble_eq_true rfl) (by rw [hRm]; exact Nat.le_of_ble_eq_true rfl) dX1_init_8 (fun q1 H hP hD hS => ?_)
  have hP : va_P D zcl [(a, .inr (1, [.null, .null, .null, .int 0, .int 0, .int 0, .int 0])), (q1, .inl (ca 1, 10000, .inr (.inl (fun _ => 0))))] H := hP
  have hD : va_D A [(a, .inr (1, [.null, .null, .null, .int 0, .int 0, .int 0, .int 0])), (q1, .inl (ca 1, 10000, .inr (.inl (fun _ => 0))))] := hD
  refine W.widen (k := 1) (n := 10000) (by omega) (by omega) ?_
  refine va_putF (D := D) (ci := 1) (v := .ref q1) (ty := (.array .long)) (C := RX1) (T := TX1) (N := 7) hx hb hts uw_X1 tyX1 tyX1_ok nmX1 hown hK hP hD hS 0 rfl rfl 0 (by decide) (hts _ mw_144) (fun _ h9 => h9) rfl hin rfl (by decide +kernel) rfl rfl (Nat.le_of_ble_eq_true rfl) dX1_init_10 (fun H locs hP hD hS => ?_)
  have hP : va_P D zcl [(a, .inr (1, [.ref q1, .null, .null, .int 0, .int 0, .int 0, .int 0])), (q1, .inl (ca 1, 10000, .inr (.inl (fun _ => 0))))] H := hP
  have hD : va_D A [(a, .inr (1, [.ref q1, .null, .null, .int 0, .int 0, .int 0, .int 0])), (q1, .inl (ca 1, 10000, .inr (.inl (fun _ => 0))))] := hD
  refine lv_aload_n hx hb dX1_init_13 rfl (lv_at hl 0 rfl) ?_
  refine lv_bipush (v := (31 : Int32)) hx hb dX1_init_14 (by decide) ?_
  refine zn_l (N' := 31) hx hb hts hK hP hD hS hA mw_693 (by decide) (by decide) (Nat.le_of_ble_eq_true rfl) (by rw [hRm]; exact Nat.le_of_ble_eq_true rfl) (by rw [hRm]; exact Nat.le_of_ble_eq_true rfl) dX1_init_16 (fun q2 H hP hD hS => ?_)
  have hP : va_P D zcl [(a, .inr (1, [.ref q1, .null, .null, .int 0, .int 0, .int 0, .int 0])), (q1, .inl (ca 1, 10000, .inr (.inl (fun _ => 0)))), (q2, .inl (ca 1, 31, .inr (.inl (fun _ => 0))))] H := hP
  have hD : va_D A [(a, .inr (1, [.ref q1, .null, .null, .int 0, .int 0, .int 0, .int 0])), (q1, .inl (ca 1, 10000, .inr (.inl (fun _ => 0)))), (q2, .inl (ca 1, 31, .inr (.inl (fun _ => 0))))] := hD
  refine W.widen (k := 2) (n := 10031) (by omega) (by omega) ?_
  refine va_putF (D := D) (ci := 1) (v := .ref q2) (ty := (.array .long)) (C := RX1) (T := TX1) (N := 7) hx hb hts uw_X1 tyX1 tyX1_ok nmX1 hown hK hP hD hS 0 rfl rfl 1 (by decide) (hts _ mw_160) (fun _ h9 => h9) rfl hin rfl (by decide +kernel) rfl rfl (Nat.le_of_ble_eq_true rfl) dX1_init_18 (fun H locs hP hD hS => ?_)
  have hP : va_P D zcl [(a, .inr (1, [.ref q1, .ref q2, .null, .int 0, .int 0, .int 0, .int 0])), (q1, .inl (ca 1, 10000, .inr (.inl (fun _ => 0)))), (q2, .inl (ca 1, 31, .inr (.inl (fun _ => 0))))] H := hP
  have hD : va_D A [(a, .inr (1, [.ref q1, .ref q2, .null, .int 0, .int 0, .int 0, .int 0])), (q1, .inl (ca 1, 10000, .inr (.inl (fun _ => 0)))), (q2, .inl (ca 1, 31, .inr (.inl (fun _ => 0))))] := hD
  refine lv_aload_n hx hb dX1_init_21 rfl (lv_at hl 0 rfl) ?_
  refine lv_sipush (v := (1000 : Int32)) hx hb dX1_init_22 (by decide) ?_
  refine zn_i (N' := 1000) hx hb hts hK hP hD hS hA mw_691 (by decide) (by decide) (Nat.le_of_ble_eq_true rfl) (by rw [hRm]; exact Nat.le_of_ble_eq_true rfl) (by rw [hRm]; exact Nat.le_of_ble_eq_true rfl) dX1_init_25 (fun q3 H hP hD hS => ?_)
  have hP : va_P D zcl [(a, .inr (1, [.ref q1, .ref q2, .null, .int 0, .int 0, .int 0, .int 0])), (q1, .inl (ca 1, 10000, .inr (.inl (fun _ => 0)))), (q2, .inl (ca 1, 31, .inr (.inl (fun _ => 0)))), (q3, .inl (ca 0, 1000, .inl (fun _ => 0)))] H := hP
  have hD : va_D A [(a, .inr (1, [.ref q1, .ref q2, .null, .int 0, .int 0, .int 0, .int 0])), (q1, .inl (ca 1, 10000, .inr (.inl (fun _ => 0)))), (q2, .inl (ca 1, 31, .inr (.inl (fun _ => 0)))), (q3, .inl (ca 0, 1000, .inl (fun _ => 0)))] := hD
  refine W.widen (k := 3) (n := 11031) (by omega) (by omega) ?_
  refine va_putF (D := D) (ci := 1) (v := .ref q3) (ty := (.array .int)) (C := RX1) (T := TX1) (N := 7) hx hb hts uw_X1 tyX1 tyX1_ok nmX1 hown hK hP hD hS 0 rfl rfl 2 (by decide) (hts _ mw_165) (fun _ h9 => h9) rfl hin rfl (by decide +kernel) rfl rfl (Nat.le_of_ble_eq_true rfl) dX1_init_27 (fun H locs hP hD hS => ?_)
  have hP : va_P D zcl [(a, .inr (1, [.ref q1, .ref q2, .ref q3, .int 0, .int 0, .int 0, .int 0])), (q1, .inl (ca 1, 10000, .inr (.inl (fun _ => 0)))), (q2, .inl (ca 1, 31, .inr (.inl (fun _ => 0)))), (q3, .inl (ca 0, 1000, .inl (fun _ => 0)))] H := hP
  have hD : va_D A [(a, .inr (1, [.ref q1, .ref q2, .ref q3, .int 0, .int 0, .int 0, .int 0])), (q1, .inl (ca 1, 10000, .inr (.inl (fun _ => 0)))), (q2, .inl (ca 1, 31, .inr (.inl (fun _ => 0)))), (q3, .inl (ca 0, 1000, .inl (fun _ => 0)))] := hD
  refine lv_aload_n hx hb dX1_init_30 rfl (lv_at hl 0 rfl) ?_
  refine lv_iconst (v := (-1 : Int32)) hx hb dX1_init_31 (by decide) ?_
  refine va_put (D := D) (ci := 1) (v := .int (-1 : Int32)) (ty := .int) (C := RX1) (T := TX1) (N := 7) hx hb hts uw_X1 tyX1 tyX1_ok nmX1 hown hK hP hD hS 0 rfl rfl 6 (by decide) (hts _ mw_156) (fun _ h9 => h9) rfl (by decide +kernel) rfl rfl (Nat.le_of_ble_eq_true rfl) dX1_init_32 (fun H locs hP hD hS => ?_)
  have hP : va_P D zcl [(a, .inr (1, [.ref q1, .ref q2, .ref q3, .int 0, .int 0, .int 0, .int (-1 : Int32)])), (q1, .inl (ca 1, 10000, .inr (.inl (fun _ => 0)))), (q2, .inl (ca 1, 31, .inr (.inl (fun _ => 0)))), (q3, .inl (ca 0, 1000, .inl (fun _ => 0)))] H := hP
  have hD : va_D A [(a, .inr (1, [.ref q1, .ref q2, .ref q3, .int 0, .int 0, .int 0, .int (-1 : Int32)])), (q1, .inl (ca 1, 10000, .inr (.inl (fun _ => 0)))), (q2, .inl (ca 1, 31, .inr (.inl (fun _ => 0)))), (q3, .inl (ca 0, 1000, .inl (fun _ => 0)))] := hD
  subst hQ
  rw [← hAe]
  exact W.vret hx hb hr (fun t ht hW => ⟨⟨(q1, q2, q3), rfl, trivial, by rw [ht]; exact hP, hD⟩, hS.F ht⟩) hS.2.2 dX1_init_35 hlk
set_option maxHeartbeats 4000000 in
set_option maxRecDepth 100000 in
theorem ci_X2_init (l : Launch) (D : va_G) (ca : Nat → ClassId) (sa : Nat → Nat) (a : Nat) (sz : Nat) : Met l yX2_init (.code yX2_init cX2_init 1 none :: zT) { frames := 1, cells := 3, slots := 323, locals := 32 } (zIp D ca sa [.ref a] [(a, .inr (2, [.null, .null, .null, .int 0, .int 0, .int 0, .int 0, .int 0, .int 0]))] sz) (va_Qv (fun _ : Nat × Nat × Nat => True) (fun u t => va_P D zcl [(a, .inr (2, [.ref u.1, .ref u.2.1, .ref u.2.2, .int 0, .int 0, .int 0, .int 0, .int 0, .int 0])), (u.1, .inl (ca 0, 160, .inl (fun _ => 0))), (u.2.1, .inl (ca 0, 160, .inl (fun _ => 0))), (u.2.2, .inl (ca 0, 3, .inl (fun _ => 0)))] t.heap ∧ va_D (va_A [(a, .inr (2, [.null, .null, .null, .int 0, .int 0, .int 0, .int 0, .int 0, .int 0]))] sz) [(a, .inr (2, [.ref u.1, .ref u.2.1, .ref u.2.2, .int 0, .int 0, .int 0, .int 0, .int 0, .int 0])), (u.1, .inl (ca 0, 160, .inl (fun _ => 0))), (u.2.1, .inl (ca 0, 160, .inl (fun _ => 0))), (u.2.2, .inl (ca 0, 3, .inl (fun _ => 0)))]) (va_A [(a, .inr (2, [.null, .null, .null, .int 0, .int 0, .int 0, .int 0, .int 0, .int 0]))] sz)) 3 323 (va_A [(a, .inr (2, [.null, .null, .null, .int 0, .int 0, .int 0, .int 0, .int 0, .int 0]))] sz) := by
  refine zIof (by decide) (Nat.le_of_ble_eq_true rfl) ?_
  intro p e R Q s m args below meth c A hRm hsz hAe hQ hx hb hml hown hts hr hlk hin hK hSt hA hP hD hS ls hl
  replace hRm : R = { frames := 1, cells := 3, slots := 323, locals := 32 } := hRm
  have hl : lv_has ls 1 [(0, .ref a)] := hl
  refine lv_aload_n hx hb dX2_init_0 rfl (lv_at hl 0 rfl) ?_
  refine W.objInit hx hb hown (hts _ mw_694) (hts _ mw_689) (hts _ mw_690) rfl (by rw [hml]; exact hl.1) rfl dX2_init_1 (by rw [hRm]; exact Nat.le_of_ble_eq_true rfl) (by rw [hRm]; exact Nat.le_of_ble_eq_true rfl) ?_
  refine W.eq (g2 := F0 m 4 ls []) rfl ?_
  refine lv_aload_n hx hb dX2_init_4 rfl (lv_at hl 0 rfl) ?_
  refine lv_sipush (v := (160 : Int32)) hx hb dX2_init_5 (by decide) ?_
  refine zn_i (N' := 160) hx hb hts hK hP hD hS hA mw_691 (by decide) (by decide) (Nat.le_of_ble_eq_true rfl) (by rw [hRm]; exact Nat.le_of_ble_eq_true rfl) (by rw [hRm]; exact Nat.le_of_ble_eq_true rfl) dX2_init_8 (fun q1 H hP hD hS => ?_)
  have hP : va_P D zcl [(a, .inr (2, [.null, .null, .null, .int 0, .int 0, .int 0, .int 0, .int 0, .int 0])), (q1, .inl (ca 0, 160, .inl (fun _ => 0)))] H := hP
  have hD : va_D A [(a, .inr (2, [.null, .null, .null, .int 0, .int 0, .int 0, .int 0, .int 0, .int 0])), (q1, .inl (ca 0, 160, .inl (fun _ => 0)))] := hD
  refine W.widen (k := 1) (n := 160) (by omega) (by omega) ?_
  refine va_putF (D := D) (ci := 2) (v := .ref q1) (ty := (.array .int)) (C := RX2) (T := TX2) (N := 9) hx hb hts uw_X2 tyX2 tyX2_ok nmX2 hown hK hP hD hS 0 rfl rfl 0 (by decide) (hts _ mw_175) (fun _ h9 => h9) rfl hin rfl (by decide +kernel) rfl rfl (Nat.le_of_ble_eq_true rfl) dX2_init_10 (fun H locs hP hD hS => ?_)
  have hP : va_P D zcl [(a, .inr (2, [.ref q1, .null, .null, .int 0, .int 0, .int 0, .int 0, .int 0, .int 0])), (q1, .inl (ca 0, 160, .inl (fun _ => 0)))] H := hP
  have hD : va_D A [(a, .inr (2, [.ref q1, .null, .null, .int 0, .int 0, .int 0, .int 0, .int 0, .int 0])), (q1, .inl (ca 0, 160, .inl (fun _ => 0)))] := hD
  refine lv_aload_n hx hb dX2_init_13 rfl (lv_at hl 0 rfl) ?_
  refine lv_sipush (v := (160 : Int32)) hx hb dX2_init_14 (by decide) ?_
  refine zn_i (N' := 160) hx hb hts hK hP hD hS hA mw_691 (by decide) (by decide) (Nat.le_of_ble_eq_true rfl) (by rw [hRm]; exact Nat.le_of_ble_eq_true rfl) (by rw [hRm]; exact Nat.le_of_ble_eq_true rfl) dX2_init_17 (fun q2 H hP hD hS => ?_)
  have hP : va_P D zcl [(a, .inr (2, [.ref q1, .null, .null, .int 0, .int 0, .int 0, .int 0, .int 0, .int 0])), (q1, .inl (ca 0, 160, .inl (fun _ => 0))), (q2, .inl (ca 0, 160, .inl (fun _ => 0)))] H := hP
  have hD : va_D A [(a, .inr (2, [.ref q1, .null, .null, .int 0, .int 0, .int 0, .int 0, .int 0, .int 0])), (q1, .inl (ca 0, 160, .inl (fun _ => 0))), (q2, .inl (ca 0, 160, .inl (fun _ => 0)))] := hD
  refine W.widen (k := 2) (n := 320) (by omega) (by omega) ?_
  refine va_putF (D := D) (ci := 2) (v := .ref q2) (ty := (.array .int)) (C := RX2) (T := TX2) (N := 9) hx hb hts uw_X2 tyX2 tyX2_ok nmX2 hown hK hP hD hS 0 rfl rfl 1 (by decide) (hts _ mw_177) (fun _ h9 => h9) rfl hin rfl (by decide +kernel) rfl rfl (Nat.le_of_ble_eq_true rfl) dX2_init_19 (fun H locs hP hD hS => ?_)
  have hP : va_P D zcl [(a, .inr (2, [.ref q1, .ref q2, .null, .int 0, .int 0, .int 0, .int 0, .int 0, .int 0])), (q1, .inl (ca 0, 160, .inl (fun _ => 0))), (q2, .inl (ca 0, 160, .inl (fun _ => 0)))] H := hP
  have hD : va_D A [(a, .inr (2, [.ref q1, .ref q2, .null, .int 0, .int 0, .int 0, .int 0, .int 0, .int 0])), (q1, .inl (ca 0, 160, .inl (fun _ => 0))), (q2, .inl (ca 0, 160, .inl (fun _ => 0)))] := hD
  refine lv_aload_n hx hb dX2_init_22 rfl (lv_at hl 0 rfl) ?_
  refine lv_iconst (v := (3 : Int32)) hx hb dX2_init_23 (by decide) ?_
  refine zn_i (N' := 3) hx hb hts hK hP hD hS hA mw_691 (by decide) (by decide) (Nat.le_of_ble_eq_true rfl) (by rw [hRm]; exact Nat.le_of_ble_eq_true rfl) (by rw [hRm]; exact Nat.le_of_ble_eq_true rfl) dX2_init_24 (fun q3 H hP hD hS => ?_)
  have hP : va_P D zcl [(a, .inr (2, [.ref q1, .ref q2, .null, .int 0, .int 0, .int 0, .int 0, .int 0, .int 0])), (q1, .inl (ca 0, 160, .inl (fun _ => 0))), (q2, .inl (ca 0, 160, .inl (fun _ => 0))), (q3, .inl (ca 0, 3, .inl (fun _ => 0)))] H := hP
  have hD : va_D A [(a, .inr (2, [.ref q1, .ref q2, .null, .int 0, .int 0, .int 0, .int 0, .int 0, .int 0])), (q1, .inl (ca 0, 160, .inl (fun _ => 0))), (q2, .inl (ca 0, 160, .inl (fun _ => 0))), (q3, .inl (ca 0, 3, .inl (fun _ => 0)))] := hD
  refine W.widen (k := 3) (n := 323) (by omega) (by omega) ?_
  refine va_putF (D := D) (ci := 2) (v := .ref q3) (ty := (.array .int)) (C := RX2) (T := TX2) (N := 9) hx hb hts uw_X2 tyX2 tyX2_ok nmX2 hown hK hP hD hS 0 rfl rfl 2 (by decide) (hts _ mw_244) (fun _ h9 => h9) rfl hin rfl (by decide +kernel) rfl rfl (Nat.le_of_ble_eq_true rfl) dX2_init_26 (fun H locs hP hD hS => ?_)
  have hP : va_P D zcl [(a, .inr (2, [.ref q1, .ref q2, .ref q3, .int 0, .int 0, .int 0, .int 0, .int 0, .int 0])), (q1, .inl (ca 0, 160, .inl (fun _ => 0))), (q2, .inl (ca 0, 160, .inl (fun _ => 0))), (q3, .inl (ca 0, 3, .inl (fun _ => 0)))] H := hP
  have hD : va_D A [(a, .inr (2, [.ref q1, .ref q2, .ref q3, .int 0, .int 0, .int 0, .int 0, .int 0, .int 0])), (q1, .inl (ca 0, 160, .inl (fun _ => 0))), (q2, .inl (ca 0, 160, .inl (fun _ => 0))), (q3, .inl (ca 0, 3, .inl (fun _ => 0)))] := hD
  subst hQ
  rw [← hAe]
  exact W.vret hx hb hr (fun t ht hW => ⟨⟨(q1, q2, q3), rfl, trivial, by rw [ht]; exact hP, hD⟩, hS.F ht⟩) hS.2.2 dX2_init_29 hlk
set_option maxHeartbeats 4000000 in
set_option maxRecDepth 100000 in
theorem ci_X3_init (l : Launch) (D : va_G) (ca : Nat → ClassId) (sa : Nat → Nat) (a : Nat) (sz : Nat) : Met l yX3_init (.code yX3_init cX3_init 1 none :: zT) { frames := 1, cells := 3, slots := 323, locals := 32 } (zIp D ca sa [.ref a] [(a, .inr (3, [.null, .null, .null]))] sz) (va_Qv (fun _ : Nat × Nat × Nat => True) (fun u t => va_P D zcl [(a, .inr (3, [.ref u.1, .ref u.2.1, .ref u.2.2])), (u.1, .inl (ca 0, 160, .inl (fun _ => 0))), (u.2.1, .inl (ca 0, 3, .inl (fun _ => 0))), (u.2.2, .inl (ca 0, 160, .inl (fun _ => 0)))] t.heap ∧ va_D (va_A [(a, .inr (3, [.null, .null, .null]))] sz) [(a, .inr (3, [.ref u.1, .ref u.2.1, .ref u.2.2])), (u.1, .inl (ca 0, 160, .inl (fun _ => 0))), (u.2.1, .inl (ca 0, 3, .inl (fun _ => 0))), (u.2.2, .inl (ca 0, 160, .inl (fun _ => 0)))]) (va_A [(a, .inr (3, [.null, .null, .null]))] sz)) 3 323 (va_A [(a, .inr (3, [.null, .null, .null]))] sz) := by
  refine zIof (by decide) (Nat.le_of_ble_eq_true rfl) ?_
  intro p e R Q s m args below meth c A hRm hsz hAe hQ hx hb hml hown hts hr hlk hin hK hSt hA hP hD hS ls hl
  replace hRm : R = { frames := 1, cells := 3, slots := 323, locals := 32 } := hRm
  have hl : lv_has ls 1 [(0, .ref a)] := hl
  refine lv_aload_n hx hb dX3_init_0 rfl (lv_at hl 0 rfl) ?_
  refine W.objInit hx hb hown (hts _ mw_695) (hts _ mw_689) (hts _ mw_690) rfl (by rw [hml]; exact hl.1) rfl dX3_init_1 (by rw [hRm]; exact Nat.le_of_ble_eq_true rfl) (by rw [hRm]; exact Nat.le_of_ble_eq_true rfl) ?_
  refine W.eq (g2 := F0 m 4 ls []) rfl ?_
  refine lv_aload_n hx hb dX3_init_4 rfl (lv_at hl 0 rfl) ?_
  refine lv_sipush (v := (160 : Int32)) hx hb dX3_init_5 (by decide) ?_
  refine zn_i (N' := 160) hx hb hts hK hP hD hS hA mw_691 (by decide) (by decide) (Nat.le_of_ble_eq_true rfl) (by rw [hRm]; exact Nat.le_of_ble_eq_true rfl) (by rw [hRm]; exact Nat.le_of_ble_eq_true rfl) dX3_init_8 (fun q1 H hP hD hS => ?_)
  have hP : va_P D zcl [(a, .inr (3, [.null, .null, .null])), (q1, .inl (ca 0, 160, .inl (fun _ => 0)))] H := hP
  have hD : va_D A [(a, .inr (3, [.null, .null, .null])), (q1, .inl (ca 0, 160, .inl (fun _ => 0)))] := hD
  refine W.widen (k := 1) (n := 160) (by omega) (by omega) ?_
  refine va_putF (D := D) (ci := 3) (v := .ref q1) (ty := (.array .int)) (C := RX3) (T := TX3) (N := 3) hx hb hts uw_X3 tyX3 tyX3_ok nmX3 hown hK hP hD hS 0 rfl rfl 0 (by decide) (hts _ mw_68) (fun _ h9 => h9) rfl hin rfl (by decide +kernel) rfl rfl (Nat.le_of_ble_eq_true rfl) dX3_init_10 (fun H locs hP hD hS => ?_)
  have hP : va_P D zcl [(a, .inr (3, [.ref q1, .null, .null])), (q1, .inl (ca 0, 160, .inl (fun _ => 0)))] H := hP
  have hD : va_D A [(a, .inr (3, [.ref q1, .null, .null])), (q1, .inl (ca 0, 160, .inl (fun _ => 0)))] := hD
  refine lv_aload_n hx hb dX3_init_13 rfl (lv_at hl 0 rfl) ?_
  refine lv_iconst (v := (3 : Int32)) hx hb dX3_init_14 (by decide) ?_
  refine zn_i (N' := 3) hx hb hts hK hP hD hS hA mw_691 (by decide) (by decide) (Nat.le_of_ble_eq_true rfl) (by rw [hRm]; exact Nat.le_of_ble_eq_true rfl) (by rw [hRm]; exact Nat.le_of_ble_eq_true rfl) dX3_init_15 (fun q2 H hP hD hS => ?_)
  have hP : va_P D zcl [(a, .inr (3, [.ref q1, .null, .null])), (q1, .inl (ca 0, 160, .inl (fun _ => 0))), (q2, .inl (ca 0, 3, .inl (fun _ => 0)))] H := hP
  have hD : va_D A [(a, .inr (3, [.ref q1, .null, .null])), (q1, .inl (ca 0, 160, .inl (fun _ => 0))), (q2, .inl (ca 0, 3, .inl (fun _ => 0)))] := hD
  refine W.widen (k := 2) (n := 163) (by omega) (by omega) ?_
  refine va_putF (D := D) (ci := 3) (v := .ref q2) (ty := (.array .int)) (C := RX3) (T := TX3) (N := 3) hx hb hts uw_X3 tyX3 tyX3_ok nmX3 hown hK hP hD hS 0 rfl rfl 1 (by decide) (hts _ mw_67) (fun _ h9 => h9) rfl hin rfl (by decide +kernel) rfl rfl (Nat.le_of_ble_eq_true rfl) dX3_init_17 (fun H locs hP hD hS => ?_)
  have hP : va_P D zcl [(a, .inr (3, [.ref q1, .ref q2, .null])), (q1, .inl (ca 0, 160, .inl (fun _ => 0))), (q2, .inl (ca 0, 3, .inl (fun _ => 0)))] H := hP
  have hD : va_D A [(a, .inr (3, [.ref q1, .ref q2, .null])), (q1, .inl (ca 0, 160, .inl (fun _ => 0))), (q2, .inl (ca 0, 3, .inl (fun _ => 0)))] := hD
  refine lv_aload_n hx hb dX3_init_20 rfl (lv_at hl 0 rfl) ?_
  refine lv_sipush (v := (160 : Int32)) hx hb dX3_init_21 (by decide) ?_
  refine zn_i (N' := 160) hx hb hts hK hP hD hS hA mw_691 (by decide) (by decide) (Nat.le_of_ble_eq_true rfl) (by rw [hRm]; exact Nat.le_of_ble_eq_true rfl) (by rw [hRm]; exact Nat.le_of_ble_eq_true rfl) dX3_init_24 (fun q3 H hP hD hS => ?_)
  have hP : va_P D zcl [(a, .inr (3, [.ref q1, .ref q2, .null])), (q1, .inl (ca 0, 160, .inl (fun _ => 0))), (q2, .inl (ca 0, 3, .inl (fun _ => 0))), (q3, .inl (ca 0, 160, .inl (fun _ => 0)))] H := hP
  have hD : va_D A [(a, .inr (3, [.ref q1, .ref q2, .null])), (q1, .inl (ca 0, 160, .inl (fun _ => 0))), (q2, .inl (ca 0, 3, .inl (fun _ => 0))), (q3, .inl (ca 0, 160, .inl (fun _ => 0)))] := hD
  refine W.widen (k := 3) (n := 323) (by omega) (by omega) ?_
  refine va_putF (D := D) (ci := 3) (v := .ref q3) (ty := (.array .int)) (C := RX3) (T := TX3) (N := 3) hx hb hts uw_X3 tyX3 tyX3_ok nmX3 hown hK hP hD hS 0 rfl rfl 2 (by decide) (hts _ mw_69) (fun _ h9 => h9) rfl hin rfl (by decide +kernel) rfl rfl (Nat.le_of_ble_eq_true rfl) dX3_init_26 (fun H locs hP hD hS => ?_)
  have hP : va_P D zcl [(a, .inr (3, [.ref q1, .ref q2, .ref q3])), (q1, .inl (ca 0, 160, .inl (fun _ => 0))), (q2, .inl (ca 0, 3, .inl (fun _ => 0))), (q3, .inl (ca 0, 160, .inl (fun _ => 0)))] H := hP
  have hD : va_D A [(a, .inr (3, [.ref q1, .ref q2, .ref q3])), (q1, .inl (ca 0, 160, .inl (fun _ => 0))), (q2, .inl (ca 0, 3, .inl (fun _ => 0))), (q3, .inl (ca 0, 160, .inl (fun _ => 0)))] := hD
  subst hQ
  rw [← hAe]
  exact W.vret hx hb hr (fun t ht hW => ⟨⟨(q1, q2, q3), rfl, trivial, by rw [ht]; exact hP, hD⟩, hS.F ht⟩) hS.2.2 dX3_init_29 hlk
set_option maxHeartbeats 4000000 in
set_option maxRecDepth 100000 in
theorem ci_X4_init (l : Launch) (D : va_G) (ca : Nat → ClassId) (sa : Nat → Nat) (a : Nat) (tx : Nat) (sz : Nat) : Met l yX4_init (.code yX4_init cX4_init 2 none :: zT) { frames := 1, cells := 6, slots := 31, locals := 32 } (zIp D ca sa [.ref a, .ref tx] [(a, .inr (4, [.null, .null, .null, .null, .null, .null, .null, .int 0, .int 0, .int 0, .int 0]))] sz) (va_Qv (fun _ : Nat × Nat × Nat × Nat × Nat × Nat => True) (fun u t => va_P D zcl [(a, .inr (4, [.ref tx, .ref u.1, .ref u.2.1, .ref u.2.2.1, .ref u.2.2.2.1, .ref u.2.2.2.2.1, .ref u.2.2.2.2.2, .int 0, .int 0, .int 0, .int 0])), (u.1, .inl (ca 0, 5, .inl (fun _ => 0))), (u.2.1, .inl (ca 0, 5, .inl (fun _ => 0))), (u.2.2.1, .inl (ca 0, 5, .inl (fun _ => 0))), (u.2.2.2.1, .inl (ca 0, 5, .inl (fun _ => 0))), (u.2.2.2.2.1, .inl (ca 0, 5, .inl (fun _ => 0))), (u.2.2.2.2.2, .inl (ca 0, 6, .inl (fun _ => 0)))] t.heap ∧ va_D (va_A [(a, .inr (4, [.null, .null, .null, .null, .null, .null, .null, .int 0, .int 0, .int 0, .int 0]))] sz) [(a, .inr (4, [.ref tx, .ref u.1, .ref u.2.1, .ref u.2.2.1, .ref u.2.2.2.1, .ref u.2.2.2.2.1, .ref u.2.2.2.2.2, .int 0, .int 0, .int 0, .int 0])), (u.1, .inl (ca 0, 5, .inl (fun _ => 0))), (u.2.1, .inl (ca 0, 5, .inl (fun _ => 0))), (u.2.2.1, .inl (ca 0, 5, .inl (fun _ => 0))), (u.2.2.2.1, .inl (ca 0, 5, .inl (fun _ => 0))), (u.2.2.2.2.1, .inl (ca 0, 5, .inl (fun _ => 0))), (u.2.2.2.2.2, .inl (ca 0, 6, .inl (fun _ => 0)))]) (va_A [(a, .inr (4, [.null, .null, .null, .null, .null, .null, .null, .int 0, .int 0, .int 0, .int 0]))] sz)) 6 31 (va_A [(a, .inr (4, [.null, .null, .null, .null, .null, .null, .null, .int 0, .int 0, .int 0, .int 0]))] sz) := by
  refine zIof (by decide) (Nat.le_of_ble_eq_true rfl) ?_
  intro p e R Q s m args below meth c A hRm hsz hAe hQ hx hb hml hown hts hr hlk hin hK hSt hA hP hD hS ls hl
  replace hRm : R = { frames := 1, cells := 6, slots := 31, locals := 32 } := hRm
  have hl : lv_has ls 2 [(0, .ref a), (1, .ref tx)] := hl
  refine lv_aload_n hx hb dX4_init_0 rfl (lv_at hl 0 rfl) ?_
  refine W.objInit hx hb hown (hts _ mw_696) (hts _ mw_689) (hts _ mw_690) rfl (by rw [hml]; exact hl.1) rfl dX4_init_1 (by rw [hRm]; exact Nat.le_of_ble_eq_true rfl) (by rw [hRm]; exact Nat.le_of_ble_eq_true rfl) ?_
  refine W.eq (g2 := F0 m 4 ls []) rfl ?_
  refine lv_aload_n hx hb dX4_init_4 rfl (lv_at hl 0 rfl) ?_
  refine lv_iconst (v := (5 : Int32)) hx hb dX4_init_5 (by decide) ?_
  refine zn_i (N' := 5) hx hb hts hK hP hD hS hA mw_691 (by decide) (by decide) (Nat.le_of_ble_eq_true rfl) (by rw [hRm]; exact Nat.le_of_ble_eq_true rfl) (by rw [hRm]; exact Nat.le_of_ble_eq_true rfl) dX4_init_6 (fun q1 H hP hD hS => ?_)
  have hP : va_P D zcl [(a, .inr (4, [.null, .null, .null, .null, .null, .null, .null, .int 0, .int 0, .int 0, .int 0])), (q1, .inl (ca 0, 5, .inl (fun _ => 0)))] H := hP
  have hD : va_D A [(a, .inr (4, [.null, .null, .null, .null, .null, .null, .null, .int 0, .int 0, .int 0, .int 0])), (q1, .inl (ca 0, 5, .inl (fun _ => 0)))] := hD
  refine W.widen (k := 1) (n := 5) (by omega) (by omega) ?_
  refine va_putF (D := D) (ci := 4) (v := .ref q1) (ty := (.array .int)) (C := RX4) (T := TX4) (N := 11) hx hb hts uw_X4 tyX4 tyX4_ok nmX4 hown hK hP hD hS 0 rfl rfl 1 (by decide) (hts _ mw_96) (fun _ h9 => h9) rfl hin rfl (by decide +kernel) rfl rfl (Nat.le_of_ble_eq_true rfl) dX4_init_8 (fun H locs hP hD hS => ?_)
  have hP : va_P D zcl [(a, .inr (4, [.null, .ref q1, .null, .null, .null, .null, .null, .int 0, .int 0, .int 0, .int 0])), (q1, .inl (ca 0, 5, .inl (fun _ => 0)))] H := hP
  have hD : va_D A [(a, .inr (4, [.null, .ref q1, .null, .null, .null, .null, .null, .int 0, .int 0, .int 0, .int 0])), (q1, .inl (ca 0, 5, .inl (fun _ => 0)))] := hD
  refine lv_aload_n hx hb dX4_init_11 rfl (lv_at hl 0 rfl) ?_
  refine lv_iconst (v := (5 : Int32)) hx hb dX4_init_12 (by decide) ?_
  refine zn_i (N' := 5) hx hb hts hK hP hD hS hA mw_691 (by decide) (by decide) (Nat.le_of_ble_eq_true rfl) (by rw [hRm]; exact Nat.le_of_ble_eq_true rfl) (by rw [hRm]; exact Nat.le_of_ble_eq_true rfl) dX4_init_13 (fun q2 H hP hD hS => ?_)
  have hP : va_P D zcl [(a, .inr (4, [.null, .ref q1, .null, .null, .null, .null, .null, .int 0, .int 0, .int 0, .int 0])), (q1, .inl (ca 0, 5, .inl (fun _ => 0))), (q2, .inl (ca 0, 5, .inl (fun _ => 0)))] H := hP
  have hD : va_D A [(a, .inr (4, [.null, .ref q1, .null, .null, .null, .null, .null, .int 0, .int 0, .int 0, .int 0])), (q1, .inl (ca 0, 5, .inl (fun _ => 0))), (q2, .inl (ca 0, 5, .inl (fun _ => 0)))] := hD
  refine W.widen (k := 2) (n := 10) (by omega) (by omega) ?_
  refine va_putF (D := D) (ci := 4) (v := .ref q2) (ty := (.array .int)) (C := RX4) (T := TX4) (N := 11) hx hb hts uw_X4 tyX4 tyX4_ok nmX4 hown hK hP hD hS 0 rfl rfl 2 (by decide) (hts _ mw_83) (fun _ h9 => h9) rfl hin rfl (by decide +kernel) rfl rfl (Nat.le_of_ble_eq_true rfl) dX4_init_15 (fun H locs hP hD hS => ?_)
  have hP : va_P D zcl [(a, .inr (4, [.null, .ref q1, .ref q2, .null, .null, .null, .null, .int 0, .int 0, .int 0, .int 0])), (q1, .inl (ca 0, 5, .inl (fun _ => 0))), (q2, .inl (ca 0, 5, .inl (fun _ => 0)))] H := hP
  have hD : va_D A [(a, .inr (4, [.null, .ref q1, .ref q2, .null, .null, .null, .null, .int 0, .int 0, .int 0, .int 0])), (q1, .inl (ca 0, 5, .inl (fun _ => 0))), (q2, .inl (ca 0, 5, .inl (fun _ => 0)))] := hD
  refine lv_aload_n hx hb dX4_init_18 rfl (lv_at hl 0 rfl) ?_
  refine lv_iconst (v := (5 : Int32)) hx hb dX4_init_19 (by decide) ?_
  refine zn_i (N' := 5) hx hb hts hK hP hD hS hA mw_691 (by decide) (by decide) (Nat.le_of_ble_eq_true rfl) (by rw [hRm]; exact Nat.le_of_ble_eq_true rfl) (by rw [hRm]; exact Nat.le_of_ble_eq_true rfl) dX4_init_20 (fun q3 H hP hD hS => ?_)
  have hP : va_P D zcl [(a, .inr (4, [.null, .ref q1, .ref q2, .null, .null, .null, .null, .int 0, .int 0, .int 0, .int 0])), (q1, .inl (ca 0, 5, .inl (fun _ => 0))), (q2, .inl (ca 0, 5, .inl (fun _ => 0))), (q3, .inl (ca 0, 5, .inl (fun _ => 0)))] H := hP
  have hD : va_D A [(a, .inr (4, [.null, .ref q1, .ref q2, .null, .null, .null, .null, .int 0, .int 0, .int 0, .int 0])), (q1, .inl (ca 0, 5, .inl (fun _ => 0))), (q2, .inl (ca 0, 5, .inl (fun _ => 0))), (q3, .inl (ca 0, 5, .inl (fun _ => 0)))] := hD
  refine W.widen (k := 3) (n := 15) (by omega) (by omega) ?_
  refine va_putF (D := D) (ci := 4) (v := .ref q3) (ty := (.array .int)) (C := RX4) (T := TX4) (N := 11) hx hb hts uw_X4 tyX4 tyX4_ok nmX4 hown hK hP hD hS 0 rfl rfl 3 (by decide) (hts _ mw_78) (fun _ h9 => h9) rfl hin rfl (by decide +kernel) rfl rfl (Nat.le_of_ble_eq_true rfl) dX4_init_22 (fun H locs hP hD hS => ?_)
  have hP : va_P D zcl [(a, .inr (4, [.null, .ref q1, .ref q2, .ref q3, .null, .null, .null, .int 0, .int 0, .int 0, .int 0])), (q1, .inl (ca 0, 5, .inl (fun _ => 0))), (q2, .inl (ca 0, 5, .inl (fun _ => 0))), (q3, .inl (ca 0, 5, .inl (fun _ => 0)))] H := hP
  have hD : va_D A [(a, .inr (4, [.null, .ref q1, .ref q2, .ref q3, .null, .null, .null, .int 0, .int 0, .int 0, .int 0])), (q1, .inl (ca 0, 5, .inl (fun _ => 0))), (q2, .inl (ca 0, 5, .inl (fun _ => 0))), (q3, .inl (ca 0, 5, .inl (fun _ => 0)))] := hD
  refine lv_aload_n hx hb dX4_init_25 rfl (lv_at hl 0 rfl) ?_
  refine lv_iconst (v := (5 : Int32)) hx hb dX4_init_26 (by decide) ?_
  refine zn_i (N' := 5) hx hb hts hK hP hD hS hA mw_691 (by decide) (by decide) (Nat.le_of_ble_eq_true rfl) (by rw [hRm]; exact Nat.le_of_ble_eq_true rfl) (by rw [hRm]; exact Nat.le_of_ble_eq_true rfl) dX4_init_27 (fun q4 H hP hD hS => ?_)
  have hP : va_P D zcl [(a, .inr (4, [.null, .ref q1, .ref q2, .ref q3, .null, .null, .null, .int 0, .int 0, .int 0, .int 0])), (q1, .inl (ca 0, 5, .inl (fun _ => 0))), (q2, .inl (ca 0, 5, .inl (fun _ => 0))), (q3, .inl (ca 0, 5, .inl (fun _ => 0))), (q4, .inl (ca 0, 5, .inl (fun _ => 0)))] H := hP
  have hD : va_D A [(a, .inr (4, [.null, .ref q1, .ref q2, .ref q3, .null, .null, .null, .int 0, .int 0, .int 0, .int 0])), (q1, .inl (ca 0, 5, .inl (fun _ => 0))), (q2, .inl (ca 0, 5, .inl (fun _ => 0))), (q3, .inl (ca 0, 5, .inl (fun _ => 0))), (q4, .inl (ca 0, 5, .inl (fun _ => 0)))] := hD
  refine W.widen (k := 4) (n := 20) (by omega) (by omega) ?_
  refine va_putF (D := D) (ci := 4) (v := .ref q4) (ty := (.array .int)) (C := RX4) (T := TX4) (N := 11) hx hb hts uw_X4 tyX4 tyX4_ok nmX4 hown hK hP hD hS 0 rfl rfl 4 (by decide) (hts _ mw_86) (fun _ h9 => h9) rfl hin rfl (by decide +kernel) rfl rfl (Nat.le_of_ble_eq_true rfl) dX4_init_29 (fun H locs hP hD hS => ?_)
  have hP : va_P D zcl [(a, .inr (4, [.null, .ref q1, .ref q2, .ref q3, .ref q4, .null, .null, .int 0, .int 0, .int 0, .int 0])), (q1, .inl (ca 0, 5, .inl (fun _ => 0))), (q2, .inl (ca 0, 5, .inl (fun _ => 0))), (q3, .inl (ca 0, 5, .inl (fun _ => 0))), (q4, .inl (ca 0, 5, .inl (fun _ => 0)))] H := hP
  have hD : va_D A [(a, .inr (4, [.null, .ref q1, .ref q2, .ref q3, .ref q4, .null, .null, .int 0, .int 0, .int 0, .int 0])), (q1, .inl (ca 0, 5, .inl (fun _ => 0))), (q2, .inl (ca 0, 5, .inl (fun _ => 0))), (q3, .inl (ca 0, 5, .inl (fun _ => 0))), (q4, .inl (ca 0, 5, .inl (fun _ => 0)))] := hD
  refine lv_aload_n hx hb dX4_init_32 rfl (lv_at hl 0 rfl) ?_
  refine lv_iconst (v := (5 : Int32)) hx hb dX4_init_33 (by decide) ?_
  refine zn_i (N' := 5) hx hb hts hK hP hD hS hA mw_691 (by decide) (by decide) (Nat.le_of_ble_eq_true rfl) (by rw [hRm]; exact Nat.le_of_ble_eq_true rfl) (by rw [hRm]; exact Nat.le_of_ble_eq_true rfl) dX4_init_34 (fun q5 H hP hD hS => ?_)
  have hP : va_P D zcl [(a, .inr (4, [.null, .ref q1, .ref q2, .ref q3, .ref q4, .null, .null, .int 0, .int 0, .int 0, .int 0])), (q1, .inl (ca 0, 5, .inl (fun _ => 0))), (q2, .inl (ca 0, 5, .inl (fun _ => 0))), (q3, .inl (ca 0, 5, .inl (fun _ => 0))), (q4, .inl (ca 0, 5, .inl (fun _ => 0))), (q5, .inl (ca 0, 5, .inl (fun _ => 0)))] H := hP
  have hD : va_D A [(a, .inr (4, [.null, .ref q1, .ref q2, .ref q3, .ref q4, .null, .null, .int 0, .int 0, .int 0, .int 0])), (q1, .inl (ca 0, 5, .inl (fun _ => 0))), (q2, .inl (ca 0, 5, .inl (fun _ => 0))), (q3, .inl (ca 0, 5, .inl (fun _ => 0))), (q4, .inl (ca 0, 5, .inl (fun _ => 0))), (q5, .inl (ca 0, 5, .inl (fun _ => 0)))] := hD
  refine W.widen (k := 5) (n := 25) (by omega) (by omega) ?_
  refine va_putF (D := D) (ci := 4) (v := .ref q5) (ty := (.array .int)) (C := RX4) (T := TX4) (N := 11) hx hb hts uw_X4 tyX4 tyX4_ok nmX4 hown hK hP hD hS 0 rfl rfl 5 (by decide) (hts _ mw_112) (fun _ h9 => h9) rfl hin rfl (by decide +kernel) rfl rfl (Nat.le_of_ble_eq_true rfl) dX4_init_36 (fun H locs hP hD hS => ?_)
  have hP : va_P D zcl [(a, .inr (4, [.null, .ref q1, .ref q2, .ref q3, .ref q4, .ref q5, .null, .int 0, .int 0, .int 0, .int 0])), (q1, .inl (ca 0, 5, .inl (fun _ => 0))), (q2, .inl (ca 0, 5, .inl (fun _ => 0))), (q3, .inl (ca 0, 5, .inl (fun _ => 0))), (q4, .inl (ca 0, 5, .inl (fun _ => 0))), (q5, .inl (ca 0, 5, .inl (fun _ => 0)))] H := hP
  have hD : va_D A [(a, .inr (4, [.null, .ref q1, .ref q2, .ref q3, .ref q4, .ref q5, .null, .int 0, .int 0, .int 0, .int 0])), (q1, .inl (ca 0, 5, .inl (fun _ => 0))), (q2, .inl (ca 0, 5, .inl (fun _ => 0))), (q3, .inl (ca 0, 5, .inl (fun _ => 0))), (q4, .inl (ca 0, 5, .inl (fun _ => 0))), (q5, .inl (ca 0, 5, .inl (fun _ => 0)))] := hD
  refine lv_aload_n hx hb dX4_init_39 rfl (lv_at hl 0 rfl) ?_
  refine lv_bipush (v := (6 : Int32)) hx hb dX4_init_40 (by decide) ?_
  refine zn_i (N' := 6) hx hb hts hK hP hD hS hA mw_691 (by decide) (by decide) (Nat.le_of_ble_eq_true rfl) (by rw [hRm]; exact Nat.le_of_ble_eq_true rfl) (by rw [hRm]; exact Nat.le_of_ble_eq_true rfl) dX4_init_42 (fun q6 H hP hD hS => ?_)
  have hP : va_P D zcl [(a, .inr (4, [.null, .ref q1, .ref q2, .ref q3, .ref q4, .ref q5, .null, .int 0, .int 0, .int 0, .int 0])), (q1, .inl (ca 0, 5, .inl (fun _ => 0))), (q2, .inl (ca 0, 5, .inl (fun _ => 0))), (q3, .inl (ca 0, 5, .inl (fun _ => 0))), (q4, .inl (ca 0, 5, .inl (fun _ => 0))), (q5, .inl (ca 0, 5, .inl (fun _ => 0))), (q6, .inl (ca 0, 6, .inl (fun _ => 0)))] H := hP
  have hD : va_D A [(a, .inr (4, [.null, .ref q1, .ref q2, .ref q3, .ref q4, .ref q5, .null, .int 0, .int 0, .int 0, .int 0])), (q1, .inl (ca 0, 5, .inl (fun _ => 0))), (q2, .inl (ca 0, 5, .inl (fun _ => 0))), (q3, .inl (ca 0, 5, .inl (fun _ => 0))), (q4, .inl (ca 0, 5, .inl (fun _ => 0))), (q5, .inl (ca 0, 5, .inl (fun _ => 0))), (q6, .inl (ca 0, 6, .inl (fun _ => 0)))] := hD
  refine W.widen (k := 6) (n := 31) (by omega) (by omega) ?_
  refine va_putF (D := D) (ci := 4) (v := .ref q6) (ty := (.array .int)) (C := RX4) (T := TX4) (N := 11) hx hb hts uw_X4 tyX4 tyX4_ok nmX4 hown hK hP hD hS 0 rfl rfl 6 (by decide) (hts _ mw_82) (fun _ h9 => h9) rfl hin rfl (by decide +kernel) rfl rfl (Nat.le_of_ble_eq_true rfl) dX4_init_44 (fun H locs hP hD hS => ?_)
  have hP : va_P D zcl [(a, .inr (4, [.null, .ref q1, .ref q2, .ref q3, .ref q4, .ref q5, .ref q6, .int 0, .int 0, .int 0, .int 0])), (q1, .inl (ca 0, 5, .inl (fun _ => 0))), (q2, .inl (ca 0, 5, .inl (fun _ => 0))), (q3, .inl (ca 0, 5, .inl (fun _ => 0))), (q4, .inl (ca 0, 5, .inl (fun _ => 0))), (q5, .inl (ca 0, 5, .inl (fun _ => 0))), (q6, .inl (ca 0, 6, .inl (fun _ => 0)))] H := hP
  have hD : va_D A [(a, .inr (4, [.null, .ref q1, .ref q2, .ref q3, .ref q4, .ref q5, .ref q6, .int 0, .int 0, .int 0, .int 0])), (q1, .inl (ca 0, 5, .inl (fun _ => 0))), (q2, .inl (ca 0, 5, .inl (fun _ => 0))), (q3, .inl (ca 0, 5, .inl (fun _ => 0))), (q4, .inl (ca 0, 5, .inl (fun _ => 0))), (q5, .inl (ca 0, 5, .inl (fun _ => 0))), (q6, .inl (ca 0, 6, .inl (fun _ => 0)))] := hD
  refine lv_aload_n hx hb dX4_init_47 rfl (lv_at hl 0 rfl) ?_
  refine lv_aload_n hx hb dX4_init_48 rfl (lv_at hl 1 rfl) ?_
  refine va_putF (D := D) (ci := 4) (v := .ref tx) (ty := (.array (.object "GlassesOfRue$Text"))) (C := RX4) (T := TX4) (N := 11) hx hb hts uw_X4 tyX4 tyX4_ok nmX4 hown hK hP hD hS 0 rfl rfl 0 (by decide) (hts _ mw_81) (fun _ h9 => h9) rfl hin rfl (by decide +kernel) rfl rfl (Nat.le_of_ble_eq_true rfl) dX4_init_49 (fun H locs hP hD hS => ?_)
  have hP : va_P D zcl [(a, .inr (4, [.ref tx, .ref q1, .ref q2, .ref q3, .ref q4, .ref q5, .ref q6, .int 0, .int 0, .int 0, .int 0])), (q1, .inl (ca 0, 5, .inl (fun _ => 0))), (q2, .inl (ca 0, 5, .inl (fun _ => 0))), (q3, .inl (ca 0, 5, .inl (fun _ => 0))), (q4, .inl (ca 0, 5, .inl (fun _ => 0))), (q5, .inl (ca 0, 5, .inl (fun _ => 0))), (q6, .inl (ca 0, 6, .inl (fun _ => 0)))] H := hP
  have hD : va_D A [(a, .inr (4, [.ref tx, .ref q1, .ref q2, .ref q3, .ref q4, .ref q5, .ref q6, .int 0, .int 0, .int 0, .int 0])), (q1, .inl (ca 0, 5, .inl (fun _ => 0))), (q2, .inl (ca 0, 5, .inl (fun _ => 0))), (q3, .inl (ca 0, 5, .inl (fun _ => 0))), (q4, .inl (ca 0, 5, .inl (fun _ => 0))), (q5, .inl (ca 0, 5, .inl (fun _ => 0))), (q6, .inl (ca 0, 6, .inl (fun _ => 0)))] := hD
  subst hQ
  rw [← hAe]
  exact W.vret hx hb hr (fun t ht hW => ⟨⟨(q1, q2, q3, q4, q5, q6), rfl, trivial, by rw [ht]; exact hP, hD⟩, hS.F ht⟩) hS.2.2 dX4_init_52 hlk

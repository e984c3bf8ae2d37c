def zM0X : zM := (fun i => match i with
  | 6 => (fun k => match k with | 6 => (-1 : Int32) | _ => 0)
  | 56 => (fun k => match k with | 1 => (-1 : Int32) | _ => 0)
  | 58 => (fun k => match k with | 1 => (-1 : Int32) | _ => 0)
  | 60 => (fun k => match k with | 1 => (-1 : Int32) | _ => 0)
  | 62 => (fun k => match k with | 1 => (-1 : Int32) | _ => 0)
  | _ => (fun _ => 0), fun _ _ => 0)
def fX5_init_B143 (r143 : Int32 → zM → Option (zM)) (x1 : Int32) (M : zM) : Option (zM) :=
  zB (fJ0_length_8abf5 0 M) fun r_3 M_1 =>
  if r_3 ≤ x1 then
    zB (fX5_text M_1) fun r_7 M_5 =>
    some M_5
  else
    zB (fJ0_charAt_5068e 0 x1 M_1) fun r_10 M_8 =>
    zB (fX2_add r_10 M_8) fun r_13 M_11 =>
    zL (x1 + (1 : Int32)) fun x1_14 =>
    r143 x1_14 M_11
def fX5_init_L143 : Nat → Int32 → zM → Option (zM)
  | 0 => fun _ _ => none
  | j9 + 1 => fX5_init_B143 (fX5_init_L143 j9)
def fX5_init_J141 (M : zM) : Option (zM) :=
  fX5_init_L143 zF (0 : Int32) M
set_option maxHeartbeats 8000000 in
set_option maxRecDepth 100000 in
theorem ci_X5_init (l : Launch) (D : va_G) (ca : Nat → ClassId) (sa : Nat → Nat) (a : Nat) (o : zM) (ho : fX5_init_J141 zM0X = some o) (sz : Nat) : Met l yX5_init (.code yX5_init cX5_init 2 none :: zT) { frames := 70, cells := 63, slots := 13634, locals := 2617 } (zIp D ca sa [.ref a] [(a, .inr (5, [.null, .null, .null, .null, .null, .null, .null, .int 0, .int 0]))] sz) (va_Qv (fun u : (Nat → Nat) × zM => u.2 = o ∧ u.1 0 = a ∧ zJ (D, ca, u.1, sa) 64 ∧ ∀ i, i < 64 → 0 < i → sz ≤ u.1 i) (fun u t => va_P D zcl (zw (D, ca, u.1, sa) shX 64 u.2) t.heap) (va_A [(a, .inr (5, [.null, .null, .null, .null, .null, .null, .null, .int 0, .int 0]))] sz)) 63 13634 (va_A [(a, .inr (5, [.null, .null, .null, .null, .null, .null, .null, .int 0, .int 0]))] sz) := by
  refine zIof (by decide) (Nat.le_of_ble_eq_true rfl) ?_
  intro p e R Q s m args below meth c A hRm hsz hAe hQ hx hb hml hown hts hr hlk hin hK hSt hA hP hD hS ls hl
  subst hsz
  replace hRm : R = { frames := 70, cells := 63, slots := 13634, locals := 2617 } := hRm
  replace hl : lv_has ls 2 [(0, .ref a)] := hl
  obtain ⟨X0, eX0⟩ : ∃ X : va_W, X = [] := ⟨_, rfl⟩
  replace hP : va_P D zcl ([(a, .inr (5, [.null, .null, .null, .null, .null, .null, .null, .int 0, .int 0]))] ++ X0) s.heap := by rw [eX0]; exact hP
  replace hD : va_D A ([(a, .inr (5, [.null, .null, .null, .null, .null, .null, .null, .int 0, .int 0]))] ++ X0) := by rw [eX0]; exact hD
  refine lv_aload_n hx hb dX5_init_0 rfl (lv_at hl 0 rfl) ?_
  refine W.objInit hx hb hown (hts _ mw_697) (hts _ mw_689) (hts _ mw_690) rfl (by rw [hml]; exact hl.1) rfl dX5_init_1 (by rw [hRm]; exact Nat.le_of_ble_eq_true rfl) (by rw [hRm]; exact Nat.le_of_ble_eq_true rfl) ?_
  refine W.eq (g2 := F0 m 4 ls []) rfl ?_
  refine lv_aload_n hx hb dX5_init_4 rfl (lv_at hl 0 rfl) ?_
  refine lv_bipush (v := (6 : Int32)) hx hb dX5_init_5 (by decide) ?_
  refine zn_q3 (N' := 6) hx hb hown hts hK hP hD hS hA hSt.2.2.1.2.2.1 mw_698 (by decide) (by decide) (Nat.le_of_ble_eq_true rfl) (by rw [hRm]; exact Nat.le_of_ble_eq_true rfl) (by rw [hRm]; exact Nat.le_of_ble_eq_true rfl) dX5_init_7 (fun q1 H1 _ _ _ => ?_)
  clear hP hD hS
  rename_i hP hD hS
  try clear s.heap
  replace hP := zP_perm (zfr _ _) hP
  replace hD := zD_perm (zfr _ _) hD
  refine W.widen (k := 1) (n := 6) (by omega) (by omega) ?_
  refine va_putF (D := D) (ci := 5) (v := .ref q1) (ty := (.array (.object "GlassesOfRue$Text"))) (C := RX5) (T := TX5) (N := 9) hx hb hts uw_X5 tyX5 tyX5_ok nmX5 hown hK hP hD hS 1 rfl rfl 0 (by decide) (hts _ mw_255) (fun _ h9 => h9) rfl hin rfl (by decide +kernel) rfl rfl (Nat.le_of_ble_eq_true rfl) dX5_init_10 (fun H2 _ _ _ _ => ?_)
  clear hP hD hS; try clear locs
  rename_i locs hP hD hS
  try clear H1
  replace hP : va_P D zcl ([(q1, .inl (ca 3, 6, .inr (.inr (.inr (.inr (fun _ => none)))))), (a, .inr (5, [.ref q1, .null, .null, .null, .null, .null, .null, .int 0, .int 0]))] ++ X0) H2 := hP
  replace hD : va_D A ([(q1, .inl (ca 3, 6, .inr (.inr (.inr (.inr (fun _ => none)))))), (a, .inr (5, [.ref q1, .null, .null, .null, .null, .null, .null, .int 0, .int 0]))] ++ X0) := hD
  refine lv_aload_n hx hb dX5_init_13 rfl (lv_at hl 0 rfl) ?_
  refine va_new (ci := 2) (fs := [.null, .null, .null, .int 0, .int 0, .int 0, .int 0, .int 0, .int 0]) (C := RX2) (T := TX2) (N := 9) hx hb hts uw_X2 tyX2 tyX2_ok hown (hts _ mw_699) (hts _ mw_700) (hts _ mw_183) hK hP hD hS hA rfl (fun j hj => by rcases (show j = 0 ∨ j = 1 ∨ j = 2 ∨ j = 3 ∨ j = 4 ∨ j = 5 ∨ j = 6 ∨ j = 7 ∨ j = 8 by omega) with rfl | rfl | rfl | rfl | rfl | rfl | rfl | rfl | rfl <;> rfl) (by rw [hRm]; exact Nat.le_of_ble_eq_true rfl) (by rw [hRm]; exact Nat.le_of_ble_eq_true rfl) dX5_init_14 (fun q2 H3 _ _ _ => ?_)
  clear hP hD hS
  rename_i hP hD hS
  try clear H2
  replace hP := zP_perm (zfr _ _) hP
  replace hD := zD_perm (zfr _ _) hD
  refine W.widen (k := 2) (n := 15) (by omega) (by omega) ?_
  refine lv_dup hx hb dX5_init_17 rfl ?_
  have hPc : va_P D zcl [(q2, .inr (2, [.null, .null, .null, .int 0, .int 0, .int 0, .int 0, .int 0, .int 0]))] H3 := fun k q hk => by cases k with | zero => exact hP 0 q hk | succ k => simp at hk
  have hDc : va_D A [(q2, .inr (2, [.null, .null, .null, .int 0, .int 0, .int 0, .int 0, .int 0, .int 0]))] := zD_cons.mpr ⟨hD.2 0 _ rfl, fun q hq => absurd hq List.not_mem_nil, ⟨fun i j p q h => by simp at h, fun k q h => by simp at h⟩⟩
  have hFc : ∀ q, va_A [(q2, .inr (2, [.null, .null, .null, .int 0, .int 0, .int 0, .int 0, .int 0, .int 0]))] H3.size q → A q := fun q h => h.elim (fun ⟨k, e, h⟩ => by cases k with | zero => (simp at h; rw [← h.1]; exact hD.2 0 _ rfl) | succ k => simp at h) (fun h => hA q (Nat.le_trans hS.1 h))
  refine va_callv (va_runIN (As := []) (rest := [.ref q2, .ref a]) ⟨hx, hb, hml, hown, hts⟩ (ci_X2_init l D ca sa q2 H3.size) ⟨va_cnB 0 hts (zT_good (zT_code mw_701)) rfl rfl rfl (hSt.1.2 _ (List.mem_of_getElem? (i := 0) rfl)) (hts _ mw_183) (by decide +kernel) (by rw [hRm]; exact ⟨Nat.le_of_ble_eq_true rfl, Nat.le_of_ble_eq_true rfl⟩), rfl, hts _ mw_702⟩ ⟨zIp_b _ _ _ _ _ _, zi_pre hK hSt hS (fun q h => hFc q h) hPc hDc⟩ rfl rfl hl.1 rfl (lv_room (Nat.le_of_ble_eq_true rfl)) dX5_init_18 (by rw [hRm]; exact ⟨Nat.le_of_ble_eq_true rfl, Nat.le_of_ble_eq_true rfl⟩)) hS (fun q _ h => hFc q h) hFc (fun u t H4 _ ht hvm hw hB hz1 hk1 _ => ?_)
  clear hS; try clear locs
  rename_i locs hS
  obtain ⟨q3, q4, q5⟩ := u
  obtain ⟨hP1, hD1⟩ := hB
  rw [ht] at hP1
  have hPD := zP_call (w1 := [(q2, .inr (2, [.ref q3, .ref q4, .ref q5, .int 0, .int 0, .int 0, .int 0, .int 0, .int 0])), (q3, .inl (ca 0, 160, .inl (fun _ => 0))), (q4, .inl (ca 0, 160, .inl (fun _ => 0))), (q5, .inl (ca 0, 3, .inl (fun _ => 0)))]) hP hD hk1 hFc hP1 hD1
  clear hP hD hPc hDc hFc hk1 hz1 hvm ht hP1 hD1
  obtain ⟨hP, hD⟩ := hPD
  try clear H3
  try clear hw
  try clear t
  replace hP := zP_perm (zsw [] [(q2, .inr (2, [.ref q3, .ref q4, .ref q5, .int 0, .int 0, .int 0, .int 0, .int 0, .int 0])), (q3, .inl (ca 0, 160, .inl (fun _ => 0))), (q4, .inl (ca 0, 160, .inl (fun _ => 0))), (q5, .inl (ca 0, 3, .inl (fun _ => 0)))] [(q1, .inl (ca 3, 6, .inr (.inr (.inr (.inr (fun _ => none)))))), (a, .inr (5, [.ref q1, .null, .null, .null, .null, .null, .null, .int 0, .int 0]))] X0) hP
  replace hD := zD_perm (zsw [] [(q2, .inr (2, [.ref q3, .ref q4, .ref q5, .int 0, .int 0, .int 0, .int 0, .int 0, .int 0])), (q3, .inl (ca 0, 160, .inl (fun _ => 0))), (q4, .inl (ca 0, 160, .inl (fun _ => 0))), (q5, .inl (ca 0, 3, .inl (fun _ => 0)))] [(q1, .inl (ca 3, 6, .inr (.inr (.inr (.inr (fun _ => none)))))), (a, .inr (5, [.ref q1, .null, .null, .null, .null, .null, .null, .int 0, .int 0]))] X0) hD
  obtain ⟨X1, eX1⟩ : ∃ X : va_W, X = [(q2, .inr (2, [.ref q3, .ref q4, .ref q5, .int 0, .int 0, .int 0, .int 0, .int 0, .int 0])), (q3, .inl (ca 0, 160, .inl (fun _ => 0))), (q4, .inl (ca 0, 160, .inl (fun _ => 0))), (q5, .inl (ca 0, 3, .inl (fun _ => 0)))] ++ X0 := ⟨_, rfl⟩
  rw [← eX1] at hP hD
  replace hP : va_P D zcl ([(q1, .inl (ca 3, 6, .inr (.inr (.inr (.inr (fun _ => none)))))), (a, .inr (5, [.ref q1, .null, .null, .null, .null, .null, .null, .int 0, .int 0]))] ++ X1) H4 := hP
  replace hD : va_D A ([(q1, .inl (ca 3, 6, .inr (.inr (.inr (.inr (fun _ => none)))))), (a, .inr (5, [.ref q1, .null, .null, .null, .null, .null, .null, .int 0, .int 0]))] ++ X1) := hD
  refine W.widen (k := 5) (n := 338) (by omega) (by omega) ?_
  refine va_putF (D := D) (ci := 5) (v := .ref q2) (ty := (.object "GlassesOfRue$Tape")) (C := RX5) (T := TX5) (N := 9) hx hb hts uw_X5 tyX5 tyX5_ok nmX5 hown hK hP hD hS 1 rfl rfl 1 (by decide) (hts _ mw_245) (fun _ h9 => h9) rfl hin rfl (by decide +kernel) rfl rfl (Nat.le_of_ble_eq_true rfl) dX5_init_21 (fun H5 _ _ _ _ => ?_)
  clear hP hD hS; try clear locs
  rename_i locs hP hD hS
  try clear H4
  replace hP : va_P D zcl ([(q1, .inl (ca 3, 6, .inr (.inr (.inr (.inr (fun _ => none)))))), (a, .inr (5, [.ref q1, .ref q2, .null, .null, .null, .null, .null, .int 0, .int 0]))] ++ X1) H5 := hP
  replace hD : va_D A ([(q1, .inl (ca 3, 6, .inr (.inr (.inr (.inr (fun _ => none)))))), (a, .inr (5, [.ref q1, .ref q2, .null, .null, .null, .null, .null, .int 0, .int 0]))] ++ X1) := hD
  refine lv_aload_n hx hb dX5_init_24 rfl (lv_at hl 0 rfl) ?_
  refine va_new (ci := 1) (fs := [.null, .null, .null, .int 0, .int 0, .int 0, .int 0]) (C := RX1) (T := TX1) (N := 7) hx hb hts uw_X1 tyX1 tyX1_ok hown (hts _ mw_703) (hts _ mw_704) (hts _ mw_135) hK hP hD hS hA rfl (fun j hj => by rcases (show j = 0 ∨ j = 1 ∨ j = 2 ∨ j = 3 ∨ j = 4 ∨ j = 5 ∨ j = 6 by omega) with rfl | rfl | rfl | rfl | rfl | rfl | rfl <;> rfl) (by rw [hRm]; exact Nat.le_of_ble_eq_true rfl) (by rw [hRm]; exact Nat.le_of_ble_eq_true rfl) dX5_init_25 (fun q6 H6 _ _ _ => ?_)
  clear hP hD hS
  rename_i hP hD hS
  try clear H5
  replace hP := zP_perm (zfr _ _) hP
  replace hD := zD_perm (zfr _ _) hD
  refine W.widen (k := 6) (n := 345) (by omega) (by omega) ?_
  refine lv_dup hx hb dX5_init_28 rfl ?_
  have hPc : va_P D zcl [(q6, .inr (1, [.null, .null, .null, .int 0, .int 0, .int 0, .int 0]))] H6 := fun k q hk => by cases k with | zero => exact hP 0 q hk | succ k => simp at hk
  have hDc : va_D A [(q6, .inr (1, [.null, .null, .null, .int 0, .int 0, .int 0, .int 0]))] := zD_cons.mpr ⟨hD.2 0 _ rfl, fun q hq => absurd hq List.not_mem_nil, ⟨fun i j p q h => by simp at h, fun k q h => by simp at h⟩⟩
  have hFc : ∀ q, va_A [(q6, .inr (1, [.null, .null, .null, .int 0, .int 0, .int 0, .int 0]))] H6.size q → A q := fun q h => h.elim (fun ⟨k, e, h⟩ => by cases k with | zero => (simp at h; rw [← h.1]; exact hD.2 0 _ rfl) | succ k => simp at h) (fun h => hA q (Nat.le_trans hS.1 h))
  refine va_callv (va_runIN (As := []) (rest := [.ref q6, .ref a]) ⟨hx, hb, hml, hown, hts⟩ (ci_X1_init l D ca sa q6 H6.size) ⟨va_cnB 0 hts (zT_good (zT_code mw_705)) rfl rfl rfl (hSt.1.2 _ (List.mem_of_getElem? (i := 1) rfl)) (hts _ mw_135) (by decide +kernel) (by rw [hRm]; exact ⟨Nat.le_of_ble_eq_true rfl, Nat.le_of_ble_eq_true rfl⟩), rfl, hts _ mw_706⟩ ⟨zIp_b _ _ _ _ _ _, zi_pre hK hSt hS (fun q h => hFc q h) hPc hDc⟩ rfl rfl hl.1 rfl (lv_room (Nat.le_of_ble_eq_true rfl)) dX5_init_29 (by rw [hRm]; exact ⟨Nat.le_of_ble_eq_true rfl, Nat.le_of_ble_eq_true rfl⟩)) hS (fun q _ h => hFc q h) hFc (fun u t H7 _ ht hvm hw hB hz1 hk1 _ => ?_)
  clear hS; try clear locs
  rename_i locs hS
  obtain ⟨q7, q8, q9⟩ := u
  obtain ⟨hP1, hD1⟩ := hB
  rw [ht] at hP1
  have hPD := zP_call (w1 := [(q6, .inr (1, [.ref q7, .ref q8, .ref q9, .int 0, .int 0, .int 0, .int (-1 : Int32)])), (q7, .inl (ca 1, 10000, .inr (.inl (fun _ => 0)))), (q8, .inl (ca 1, 31, .inr (.inl (fun _ => 0)))), (q9, .inl (ca 0, 1000, .inl (fun _ => 0)))]) hP hD hk1 hFc hP1 hD1
  clear hP hD hPc hDc hFc hk1 hz1 hvm ht hP1 hD1
  obtain ⟨hP, hD⟩ := hPD
  try clear H6
  try clear hw
  try clear t
  replace hP := zP_perm (zsw [] [(q6, .inr (1, [.ref q7, .ref q8, .ref q9, .int 0, .int 0, .int 0, .int (-1 : Int32)])), (q7, .inl (ca 1, 10000, .inr (.inl (fun _ => 0)))), (q8, .inl (ca 1, 31, .inr (.inl (fun _ => 0)))), (q9, .inl (ca 0, 1000, .inl (fun _ => 0)))] [(q1, .inl (ca 3, 6, .inr (.inr (.inr (.inr (fun _ => none)))))), (a, .inr (5, [.ref q1, .ref q2, .null, .null, .null, .null, .null, .int 0, .int 0]))] X1) hP
  replace hD := zD_perm (zsw [] [(q6, .inr (1, [.ref q7, .ref q8, .ref q9, .int 0, .int 0, .int 0, .int (-1 : Int32)])), (q7, .inl (ca 1, 10000, .inr (.inl (fun _ => 0)))), (q8, .inl (ca 1, 31, .inr (.inl (fun _ => 0)))), (q9, .inl (ca 0, 1000, .inl (fun _ => 0)))] [(q1, .inl (ca 3, 6, .inr (.inr (.inr (.inr (fun _ => none)))))), (a, .inr (5, [.ref q1, .ref q2, .null, .null, .null, .null, .null, .int 0, .int 0]))] X1) hD
  obtain ⟨X2, eX2⟩ : ∃ X : va_W, X = [(q6, .inr (1, [.ref q7, .ref q8, .ref q9, .int 0, .int 0, .int 0, .int (-1 : Int32)])), (q7, .inl (ca 1, 10000, .inr (.inl (fun _ => 0)))), (q8, .inl (ca 1, 31, .inr (.inl (fun _ => 0)))), (q9, .inl (ca 0, 1000, .inl (fun _ => 0)))] ++ X1 := ⟨_, rfl⟩
  rw [← eX2] at hP hD
  replace hP : va_P D zcl ([(q1, .inl (ca 3, 6, .inr (.inr (.inr (.inr (fun _ => none)))))), (a, .inr (5, [.ref q1, .ref q2, .null, .null, .null, .null, .null, .int 0, .int 0]))] ++ X2) H7 := hP
  replace hD : va_D A ([(q1, .inl (ca 3, 6, .inr (.inr (.inr (.inr (fun _ => none)))))), (a, .inr (5, [.ref q1, .ref q2, .null, .null, .null, .null, .null, .int 0, .int 0]))] ++ X2) := hD
  refine W.widen (k := 9) (n := 11376) (by omega) (by omega) ?_
  refine va_putF (D := D) (ci := 5) (v := .ref q6) (ty := (.object "GlassesOfRue$Table")) (C := RX5) (T := TX5) (N := 9) hx hb hts uw_X5 tyX5 tyX5_ok nmX5 hown hK hP hD hS 1 rfl rfl 2 (by decide) (hts _ mw_310) (fun _ h9 => h9) rfl hin rfl (by decide +kernel) rfl rfl (Nat.le_of_ble_eq_true rfl) dX5_init_32 (fun H8 _ _ _ _ => ?_)
  clear hP hD hS; try clear locs
  rename_i locs hP hD hS
  try clear H7
  replace hP : va_P D zcl ([(q1, .inl (ca 3, 6, .inr (.inr (.inr (.inr (fun _ => none)))))), (a, .inr (5, [.ref q1, .ref q2, .ref q6, .null, .null, .null, .null, .int 0, .int 0]))] ++ X2) H8 := hP
  replace hD : va_D A ([(q1, .inl (ca 3, 6, .inr (.inr (.inr (.inr (fun _ => none)))))), (a, .inr (5, [.ref q1, .ref q2, .ref q6, .null, .null, .null, .null, .int 0, .int 0]))] ++ X2) := hD
  refine lv_aload_n hx hb dX5_init_35 rfl (lv_at hl 0 rfl) ?_
  refine va_new (ci := 4) (fs := [.null, .null, .null, .null, .null, .null, .null, .int 0, .int 0, .int 0, .int 0]) (C := RX4) (T := TX4) (N := 11) hx hb hts uw_X4 tyX4 tyX4_ok hown (hts _ mw_707) (hts _ mw_708) (hts _ mw_88) hK hP hD hS hA rfl (fun j hj => by rcases (show j = 0 ∨ j = 1 ∨ j = 2 ∨ j = 3 ∨ j = 4 ∨ j = 5 ∨ j = 6 ∨ j = 7 ∨ j = 8 ∨ j = 9 ∨ j = 10 by omega) with rfl | rfl | rfl | rfl | rfl | rfl | rfl | rfl | rfl | rfl | rfl <;> rfl) (by rw [hRm]; exact Nat.le_of_ble_eq_true rfl) (by rw [hRm]; exact Nat.le_of_ble_eq_true rfl) dX5_init_36 (fun q10 H9 _ _ _ => ?_)
  clear hP hD hS
  rename_i hP hD hS
  try clear H8
  replace hP := zP_perm (zfr _ _) hP
  replace hD := zD_perm (zfr _ _) hD
  refine W.widen (k := 10) (n := 11387) (by omega) (by omega) ?_
  refine lv_dup hx hb dX5_init_39 rfl ?_
  refine lv_aload_n hx hb dX5_init_40 rfl (lv_at hl 0 rfl) ?_
  refine va_get (D := D) (ci := 5) (v := .ref q1) (C := RX5) (T := TX5) (N := 9) hx hb hts uw_X5 hown hK hP 2 rfl rfl 0 (by decide) (hts _ mw_255) (fun _ h9 => h9) rfl dX5_init_41 ?_
  have hPc : va_P D zcl [(q10, .inr (4, [.null, .null, .null, .null, .null, .null, .null, .int 0, .int 0, .int 0, .int 0]))] H9 := fun k q hk => by cases k with | zero => exact hP 0 q hk | succ k => simp at hk
  have hDc : va_D A [(q10, .inr (4, [.null, .null, .null, .null, .null, .null, .null, .int 0, .int 0, .int 0, .int 0]))] := zD_cons.mpr ⟨hD.2 0 _ rfl, fun q hq => absurd hq List.not_mem_nil, ⟨fun i j p q h => by simp at h, fun k q h => by simp at h⟩⟩
  have hFc : ∀ q, va_A [(q10, .inr (4, [.null, .null, .null, .null, .null, .null, .null, .int 0, .int 0, .int 0, .int 0]))] H9.size q → A q := fun q h => h.elim (fun ⟨k, e, h⟩ => by cases k with | zero => (simp at h; rw [← h.1]; exact hD.2 0 _ rfl) | succ k => simp at h) (fun h => hA q (Nat.le_trans hS.1 h))
  refine va_callv (va_runI (As := [.ref q1]) (rest := [.ref q10, .ref a]) ⟨hx, hb, hml, hown, hts⟩ (ci_X4_init l D ca sa q10 q1 H9.size) (cwI 1 hts (zT_good (zT_code mw_709)) rfl rfl rfl (hts _ mw_88) (hts _ mw_710) (hts _ mw_711) rfl (by decide +kernel) (by rw [hRm]; exact ⟨Nat.le_of_ble_eq_true rfl, Nat.le_of_ble_eq_true rfl⟩)) ⟨zIp_b _ _ _ _ _ _, zi_pre hK hSt hS (fun q h => hFc q h) hPc hDc⟩ rfl rfl hl.1 rfl (lv_room (Nat.le_of_ble_eq_true rfl)) dX5_init_44 (by rw [hRm]; exact ⟨Nat.le_of_ble_eq_true rfl, Nat.le_of_ble_eq_true rfl⟩)) hS (fun q _ h => hFc q h) hFc (fun u t H10 _ ht hvm hw hB hz1 hk1 _ => ?_)
  clear hS; try clear locs
  rename_i locs hS
  obtain ⟨q11, q12, q13, q14, q15, q16⟩ := u
  obtain ⟨hP1, hD1⟩ := hB
  rw [ht] at hP1
  have hPD := zP_call (w1 := [(q10, .inr (4, [.ref q1, .ref q11, .ref q12, .ref q13, .ref q14, .ref q15, .ref q16, .int 0, .int 0, .int 0, .int 0])), (q11, .inl (ca 0, 5, .inl (fun _ => 0))), (q12, .inl (ca 0, 5, .inl (fun _ => 0))), (q13, .inl (ca 0, 5, .inl (fun _ => 0))), (q14, .inl (ca 0, 5, .inl (fun _ => 0))), (q15, .inl (ca 0, 5, .inl (fun _ => 0))), (q16, .inl (ca 0, 6, .inl (fun _ => 0)))]) hP hD hk1 hFc hP1 hD1
  clear hP hD hPc hDc hFc hk1 hz1 hvm ht hP1 hD1
  obtain ⟨hP, hD⟩ := hPD
  try clear H9
  try clear hw
  try clear t
  replace hP := zP_perm (zsw [] [(q10, .inr (4, [.ref q1, .ref q11, .ref q12, .ref q13, .ref q14, .ref q15, .ref q16, .int 0, .int 0, .int 0, .int 0])), (q11, .inl (ca 0, 5, .inl (fun _ => 0))), (q12, .inl (ca 0, 5, .inl (fun _ => 0))), (q13, .inl (ca 0, 5, .inl (fun _ => 0))), (q14, .inl (ca 0, 5, .inl (fun _ => 0))), (q15, .inl (ca 0, 5, .inl (fun _ => 0))), (q16, .inl (ca 0, 6, .inl (fun _ => 0)))] [(q1, .inl (ca 3, 6, .inr (.inr (.inr (.inr (fun _ => none)))))), (a, .inr (5, [.ref q1, .ref q2, .ref q6, .null, .null, .null, .null, .int 0, .int 0]))] X2) hP
  replace hD := zD_perm (zsw [] [(q10, .inr (4, [.ref q1, .ref q11, .ref q12, .ref q13, .ref q14, .ref q15, .ref q16, .int 0, .int 0, .int 0, .int 0])), (q11, .inl (ca 0, 5, .inl (fun _ => 0))), (q12, .inl (ca 0, 5, .inl (fun _ => 0))), (q13, .inl (ca 0, 5, .inl (fun _ => 0))), (q14, .inl (ca 0, 5, .inl (fun _ => 0))), (q15, .inl (ca 0, 5, .inl (fun _ => 0))), (q16, .inl (ca 0, 6, .inl (fun _ => 0)))] [(q1, .inl (ca 3, 6, .inr (.inr (.inr (.inr (fun _ => none)))))), (a, .inr (5, [.ref q1, .ref q2, .ref q6, .null, .null, .null, .null, .int 0, .int 0]))] X2) hD
  obtain ⟨X3, eX3⟩ : ∃ X : va_W, X = [(q10, .inr (4, [.ref q1, .ref q11, .ref q12, .ref q13, .ref q14, .ref q15, .ref q16, .int 0, .int 0, .int 0, .int 0])), (q11, .inl (ca 0, 5, .inl (fun _ => 0))), (q12, .inl (ca 0, 5, .inl (fun _ => 0))), (q13, .inl (ca 0, 5, .inl (fun _ => 0))), (q14, .inl (ca 0, 5, .inl (fun _ => 0))), (q15, .inl (ca 0, 5, .inl (fun _ => 0))), (q16, .inl (ca 0, 6, .inl (fun _ => 0)))] ++ X2 := ⟨_, rfl⟩
  rw [← eX3] at hP hD
  replace hP : va_P D zcl ([(q1, .inl (ca 3, 6, .inr (.inr (.inr (.inr (fun _ => none)))))), (a, .inr (5, [.ref q1, .ref q2, .ref q6, .null, .null, .null, .null, .int 0, .int 0]))] ++ X3) H10 := hP
  replace hD : va_D A ([(q1, .inl (ca 3, 6, .inr (.inr (.inr (.inr (fun _ => none)))))), (a, .inr (5, [.ref q1, .ref q2, .ref q6, .null, .null, .null, .null, .int 0, .int 0]))] ++ X3) := hD
  refine W.widen (k := 16) (n := 11418) (by omega) (by omega) ?_
  refine va_putF (D := D) (ci := 5) (v := .ref q10) (ty := (.object "GlassesOfRue$World")) (C := RX5) (T := TX5) (N := 9) hx hb hts uw_X5 tyX5 tyX5_ok nmX5 hown hK hP hD hS 1 rfl rfl 3 (by decide) (hts _ mw_260) (fun _ h9 => h9) rfl hin rfl (by decide +kernel) rfl rfl (Nat.le_of_ble_eq_true rfl) dX5_init_47 (fun H11 _ _ _ _ => ?_)
  clear hP hD hS; try clear locs
  rename_i locs hP hD hS
  try clear H10
  replace hP : va_P D zcl ([(q1, .inl (ca 3, 6, .inr (.inr (.inr (.inr (fun _ => none)))))), (a, .inr (5, [.ref q1, .ref q2, .ref q6, .ref q10, .null, .null, .null, .int 0, .int 0]))] ++ X3) H11 := hP
  replace hD : va_D A ([(q1, .inl (ca 3, 6, .inr (.inr (.inr (.inr (fun _ => none)))))), (a, .inr (5, [.ref q1, .ref q2, .ref q6, .ref q10, .null, .null, .null, .int 0, .int 0]))] ++ X3) := hD
  refine lv_aload_n hx hb dX5_init_50 rfl (lv_at hl 0 rfl) ?_
  refine va_new (ci := 4) (fs := [.null, .null, .null, .null, .null, .null, .null, .int 0, .int 0, .int 0, .int 0]) (C := RX4) (T := TX4) (N := 11) hx hb hts uw_X4 tyX4 tyX4_ok hown (hts _ mw_707) (hts _ mw_708) (hts _ mw_88) hK hP hD hS hA rfl (fun j hj => by rcases (show j = 0 ∨ j = 1 ∨ j = 2 ∨ j = 3 ∨ j = 4 ∨ j = 5 ∨ j = 6 ∨ j = 7 ∨ j = 8 ∨ j = 9 ∨ j = 10 by omega) with rfl | rfl | rfl | rfl | rfl | rfl | rfl | rfl | rfl | rfl | rfl <;> rfl) (by rw [hRm]; exact Nat.le_of_ble_eq_true rfl) (by rw [hRm]; exact Nat.le_of_ble_eq_true rfl) dX5_init_51 (fun q17 H12 _ _ _ => ?_)
  clear hP hD hS
  rename_i hP hD hS
  try clear H11
  replace hP := zP_perm (zfr _ _) hP
  replace hD := zD_perm (zfr _ _) hD
  refine W.widen (k := 17) (n := 11429) (by omega) (by omega) ?_
  refine lv_dup hx hb dX5_init_54 rfl ?_
  refine lv_aload_n hx hb dX5_init_55 rfl (lv_at hl 0 rfl) ?_
  refine va_get (D := D) (ci := 5) (v := .ref q1) (C := RX5) (T := TX5) (N := 9) hx hb hts uw_X5 hown hK hP 2 rfl rfl 0 (by decide) (hts _ mw_255) (fun _ h9 => h9) rfl dX5_init_56 ?_
  have hPc : va_P D zcl [(q17, .inr (4, [.null, .null, .null, .null, .null, .null, .null, .int 0, .int 0, .int 0, .int 0]))] H12 := fun k q hk => by cases k with | zero => exact hP 0 q hk | succ k => simp at hk
  have hDc : va_D A [(q17, .inr (4, [.null, .null, .null, .null, .null, .null, .null, .int 0, .int 0, .int 0, .int 0]))] := zD_cons.mpr ⟨hD.2 0 _ rfl, fun q hq => absurd hq List.not_mem_nil, ⟨fun i j p q h => by simp at h, fun k q h => by simp at h⟩⟩
  have hFc : ∀ q, va_A [(q17, .inr (4, [.null, .null, .null, .null, .null, .null, .null, .int 0, .int 0, .int 0, .int 0]))] H12.size q → A q := fun q h => h.elim (fun ⟨k, e, h⟩ => by cases k with | zero => (simp at h; rw [← h.1]; exact hD.2 0 _ rfl) | succ k => simp at h) (fun h => hA q (Nat.le_trans hS.1 h))
  refine va_callv (va_runI (As := [.ref q1]) (rest := [.ref q17, .ref a]) ⟨hx, hb, hml, hown, hts⟩ (ci_X4_init l D ca sa q17 q1 H12.size) (cwI 1 hts (zT_good (zT_code mw_709)) rfl rfl rfl (hts _ mw_88) (hts _ mw_710) (hts _ mw_711) rfl (by decide +kernel) (by rw [hRm]; exact ⟨Nat.le_of_ble_eq_true rfl, Nat.le_of_ble_eq_true rfl⟩)) ⟨zIp_b _ _ _ _ _ _, zi_pre hK hSt hS (fun q h => hFc q h) hPc hDc⟩ rfl rfl hl.1 rfl (lv_room (Nat.le_of_ble_eq_true rfl)) dX5_init_59 (by rw [hRm]; exact ⟨Nat.le_of_ble_eq_true rfl, Nat.le_of_ble_eq_true rfl⟩)) hS (fun q _ h => hFc q h) hFc (fun u t H13 _ ht hvm hw hB hz1 hk1 _ => ?_)
  clear hS; try clear locs
  rename_i locs hS
  obtain ⟨q18, q19, q20, q21, q22, q23⟩ := u
  obtain ⟨hP1, hD1⟩ := hB
  rw [ht] at hP1
  have hPD := zP_call (w1 := [(q17, .inr (4, [.ref q1, .ref q18, .ref q19, .ref q20, .ref q21, .ref q22, .ref q23, .int 0, .int 0, .int 0, .int 0])), (q18, .inl (ca 0, 5, .inl (fun _ => 0))), (q19, .inl (ca 0, 5, .inl (fun _ => 0))), (q20, .inl (ca 0, 5, .inl (fun _ => 0))), (q21, .inl (ca 0, 5, .inl (fun _ => 0))), (q22, .inl (ca 0, 5, .inl (fun _ => 0))), (q23, .inl (ca 0, 6, .inl (fun _ => 0)))]) hP hD hk1 hFc hP1 hD1
  clear hP hD hPc hDc hFc hk1 hz1 hvm ht hP1 hD1
  obtain ⟨hP, hD⟩ := hPD
  try clear H12
  try clear hw
  try clear t
  replace hP := zP_perm (zsw [] [(q17, .inr (4, [.ref q1, .ref q18, .ref q19, .ref q20, .ref q21, .ref q22, .ref q23, .int 0, .int 0, .int 0, .int 0])), (q18, .inl (ca 0, 5, .inl (fun _ => 0))), (q19, .inl (ca 0, 5, .inl (fun _ => 0))), (q20, .inl (ca 0, 5, .inl (fun _ => 0))), (q21, .inl (ca 0, 5, .inl (fun _ => 0))), (q22, .inl (ca 0, 5, .inl (fun _ => 0))), (q23, .inl (ca 0, 6, .inl (fun _ => 0)))] [(q1, .inl (ca 3, 6, .inr (.inr (.inr (.inr (fun _ => none)))))), (a, .inr (5, [.ref q1, .ref q2, .ref q6, .ref q10, .null, .null, .null, .int 0, .int 0]))] X3) hP
  replace hD := zD_perm (zsw [] [(q17, .inr (4, [.ref q1, .ref q18, .ref q19, .ref q20, .ref q21, .ref q22, .ref q23, .int 0, .int 0, .int 0, .int 0])), (q18, .inl (ca 0, 5, .inl (fun _ => 0))), (q19, .inl (ca 0, 5, .inl (fun _ => 0))), (q20, .inl (ca 0, 5, .inl (fun _ => 0))), (q21, .inl (ca 0, 5, .inl (fun _ => 0))), (q22, .inl (ca 0, 5, .inl (fun _ => 0))), (q23, .inl (ca 0, 6, .inl (fun _ => 0)))] [(q1, .inl (ca 3, 6, .inr (.inr (.inr (.inr (fun _ => none)))))), (a, .inr (5, [.ref q1, .ref q2, .ref q6, .ref q10, .null, .null, .null, .int 0, .int 0]))] X3) hD
  obtain ⟨X4, eX4⟩ : ∃ X : va_W, X = [(q17, .inr (4, [.ref q1, .ref q18, .ref q19, .ref q20, .ref q21, .ref q22, .ref q23, .int 0, .int 0, .int 0, .int 0])), (q18, .inl (ca 0, 5, .inl (fun _ => 0))), (q19, .inl (ca 0, 5, .inl (fun _ => 0))), (q20, .inl (ca 0, 5, .inl (fun _ => 0))), (q21, .inl (ca 0, 5, .inl (fun _ => 0))), (q22, .inl (ca 0, 5, .inl (fun _ => 0))), (q23, .inl (ca 0, 6, .inl (fun _ => 0)))] ++ X3 := ⟨_, rfl⟩
  rw [← eX4] at hP hD
  replace hP : va_P D zcl ([(q1, .inl (ca 3, 6, .inr (.inr (.inr (.inr (fun _ => none)))))), (a, .inr (5, [.ref q1, .ref q2, .ref q6, .ref q10, .null, .null, .null, .int 0, .int 0]))] ++ X4) H13 := hP
  replace hD : va_D A ([(q1, .inl (ca 3, 6, .inr (.inr (.inr (.inr (fun _ => none)))))), (a, .inr (5, [.ref q1, .ref q2, .ref q6, .ref q10, .null, .null, .null, .int 0, .int 0]))] ++ X4) := hD
  refine W.widen (k := 23) (n := 11460) (by omega) (by omega) ?_
  refine va_putF (D := D) (ci := 5) (v := .ref q17) (ty := (.object "GlassesOfRue$World")) (C := RX5) (T := TX5) (N := 9) hx hb hts uw_X5 tyX5 tyX5_ok nmX5 hown hK hP hD hS 1 rfl rfl 4 (by decide) (hts _ mw_292) (fun _ h9 => h9) rfl hin rfl (by decide +kernel) rfl rfl (Nat.le_of_ble_eq_true rfl) dX5_init_62 (fun H14 _ _ _ _ => ?_)
  clear hP hD hS; try clear locs
  rename_i locs hP hD hS
  try clear H13
  replace hP : va_P D zcl ([(q1, .inl (ca 3, 6, .inr (.inr (.inr (.inr (fun _ => none)))))), (a, .inr (5, [.ref q1, .ref q2, .ref q6, .ref q10, .ref q17, .null, .null, .int 0, .int 0]))] ++ X4) H14 := hP
  replace hD : va_D A ([(q1, .inl (ca 3, 6, .inr (.inr (.inr (.inr (fun _ => none)))))), (a, .inr (5, [.ref q1, .ref q2, .ref q6, .ref q10, .ref q17, .null, .null, .int 0, .int 0]))] ++ X4) := hD
  refine lv_aload_n hx hb dX5_init_65 rfl (lv_at hl 0 rfl) ?_
  refine va_new (ci := 4) (fs := [.null, .null, .null, .null, .null, .null, .null, .int 0, .int 0, .int 0, .int 0]) (C := RX4) (T := TX4) (N := 11) hx hb hts uw_X4 tyX4 tyX4_ok hown (hts _ mw_707) (hts _ mw_708) (hts _ mw_88) hK hP hD hS hA rfl (fun j hj => by rcases (show j = 0 ∨ j = 1 ∨ j = 2 ∨ j = 3 ∨ j = 4 ∨ j = 5 ∨ j = 6 ∨ j = 7 ∨ j = 8 ∨ j = 9 ∨ j = 10 by omega) with rfl | rfl | rfl | rfl | rfl | rfl | rfl | rfl | rfl | rfl | rfl <;> rfl) (by rw [hRm]; exact Nat.le_of_ble_eq_true rfl) (by rw [hRm]; exact Nat.le_of_ble_eq_true rfl) dX5_init_66 (fun q24 H15 _ _ _ => ?_)
  clear hP hD hS
  rename_i hP hD hS
  try clear H14
  replace hP := zP_perm (zfr _ _) hP
  replace hD := zD_perm (zfr _ _) hD
  refine W.widen (k := 24) (n := 11471) (by omega) (by omega) ?_
  refine lv_dup hx hb dX5_init_69 rfl ?_
  refine lv_aload_n hx hb dX5_init_70 rfl (lv_at hl 0 rfl) ?_
  refine va_get (D := D) (ci := 5) (v := .ref q1) (C := RX5) (T := TX5) (N := 9) hx hb hts uw_X5 hown hK hP 2 rfl rfl 0 (by decide) (hts _ mw_255) (fun _ h9 => h9) rfl dX5_init_71 ?_
  have hPc : va_P D zcl [(q24, .inr (4, [.null, .null, .null, .null, .null, .null, .null, .int 0, .int 0, .int 0, .int 0]))] H15 := fun k q hk => by cases k with | zero => exact hP 0 q hk | succ k => simp at hk
  have hDc : va_D A [(q24, .inr (4, [.null, .null, .null, .null, .null, .null, .null, .int 0, .int 0, .int 0, .int 0]))] := zD_cons.mpr ⟨hD.2 0 _ rfl, fun q hq => absurd hq List.not_mem_nil, ⟨fun i j p q h => by simp at h, fun k q h => by simp at h⟩⟩
  have hFc : ∀ q, va_A [(q24, .inr (4, [.null, .null, .null, .null, .null, .null, .null, .int 0, .int 0, .int 0, .int 0]))] H15.size q → A q := fun q h => h.elim (fun ⟨k, e, h⟩ => by cases k with | zero => (simp at h; rw [← h.1]; exact hD.2 0 _ rfl) | succ k => simp at h) (fun h => hA q (Nat.le_trans hS.1 h))
  refine va_callv (va_runI (As := [.ref q1]) (rest := [.ref q24, .ref a]) ⟨hx, hb, hml, hown, hts⟩ (ci_X4_init l D ca sa q24 q1 H15.size) (cwI 1 hts (zT_good (zT_code mw_709)) rfl rfl rfl (hts _ mw_88) (hts _ mw_710) (hts _ mw_711) rfl (by decide +kernel) (by rw [hRm]; exact ⟨Nat.le_of_ble_eq_true rfl, Nat.le_of_ble_eq_true rfl⟩)) ⟨zIp_b _ _ _ _ _ _, zi_pre hK hSt hS (fun q h => hFc q h) hPc hDc⟩ rfl rfl hl.1 rfl (lv_room (Nat.le_of_ble_eq_true rfl)) dX5_init_74 (by rw [hRm]; exact ⟨Nat.le_of_ble_eq_true rfl, Nat.le_of_ble_eq_true rfl⟩)) hS (fun q _ h => hFc q h) hFc (fun u t H16 _ ht hvm hw hB hz1 hk1 _ => ?_)
  clear hS; try clear locs
  rename_i locs hS
  obtain ⟨q25, q26, q27, q28, q29, q30⟩ := u
  obtain ⟨hP1, hD1⟩ := hB
  rw [ht] at hP1
  have hPD := zP_call (w1 := [(q24, .inr (4, [.ref q1, .ref q25, .ref q26, .ref q27, .ref q28, .ref q29, .ref q30, .int 0, .int 0, .int 0, .int 0])), (q25, .inl (ca 0, 5, .inl (fun _ => 0))), (q26, .inl (ca 0, 5, .inl (fun _ => 0))), (q27, .inl (ca 0, 5, .inl (fun _ => 0))), (q28, .inl (ca 0, 5, .inl (fun _ => 0))), (q29, .inl (ca 0, 5, .inl (fun _ => 0))), (q30, .inl (ca 0, 6, .inl (fun _ => 0)))]) hP hD hk1 hFc hP1 hD1
  clear hP hD hPc hDc hFc hk1 hz1 hvm ht hP1 hD1
  obtain ⟨hP, hD⟩ := hPD
  try clear H15
  try clear hw
  try clear t
  replace hP := zP_perm (zsw [] [(q24, .inr (4, [.ref q1, .ref q25, .ref q26, .ref q27, .ref q28, .ref q29, .ref q30, .int 0, .int 0, .int 0, .int 0])), (q25, .inl (ca 0, 5, .inl (fun _ => 0))), (q26, .inl (ca 0, 5, .inl (fun _ => 0))), (q27, .inl (ca 0, 5, .inl (fun _ => 0))), (q28, .inl (ca 0, 5, .inl (fun _ => 0))), (q29, .inl (ca 0, 5, .inl (fun _ => 0))), (q30, .inl (ca 0, 6, .inl (fun _ => 0)))] [(q1, .inl (ca 3, 6, .inr (.inr (.inr (.inr (fun _ => none)))))), (a, .inr (5, [.ref q1, .ref q2, .ref q6, .ref q10, .ref q17, .null, .null, .int 0, .int 0]))] X4) hP
  replace hD := zD_perm (zsw [] [(q24, .inr (4, [.ref q1, .ref q25, .ref q26, .ref q27, .ref q28, .ref q29, .ref q30, .int 0, .int 0, .int 0, .int 0])), (q25, .inl (ca 0, 5, .inl (fun _ => 0))), (q26, .inl (ca 0, 5, .inl (fun _ => 0))), (q27, .inl (ca 0, 5, .inl (fun _ => 0))), (q28, .inl (ca 0, 5, .inl (fun _ => 0))), (q29, .inl (ca 0, 5, .inl (fun _ => 0))), (q30, .inl (ca 0, 6, .inl (fun _ => 0)))] [(q1, .inl (ca 3, 6, .inr (.inr (.inr (.inr (fun _ => none)))))), (a, .inr (5, [.ref q1, .ref q2, .ref q6, .ref q10, .ref q17, .null, .null, .int 0, .int 0]))] X4) hD
  obtain ⟨X5, eX5⟩ : ∃ X : va_W, X = [(q24, .inr (4, [.ref q1, .ref q25, .ref q26, .ref q27, .ref q28, .ref q29, .ref q30, .int 0, .int 0, .int 0, .int 0])), (q25, .inl (ca 0, 5, .inl (fun _ => 0))), (q26, .inl (ca 0, 5, .inl (fun _ => 0))), (q27, .inl (ca 0, 5, .inl (fun _ => 0))), (q28, .inl (ca 0, 5, .inl (fun _ => 0))), (q29, .inl (ca 0, 5, .inl (fun _ => 0))), (q30, .inl (ca 0, 6, .inl (fun _ => 0)))] ++ X4 := ⟨_, rfl⟩
  rw [← eX5] at hP hD
  replace hP : va_P D zcl ([(q1, .inl (ca 3, 6, .inr (.inr (.inr (.inr (fun _ => none)))))), (a, .inr (5, [.ref q1, .ref q2, .ref q6, .ref q10, .ref q17, .null, .null, .int 0, .int 0]))] ++ X5) H16 := hP
  replace hD : va_D A ([(q1, .inl (ca 3, 6, .inr (.inr (.inr (.inr (fun _ => none)))))), (a, .inr (5, [.ref q1, .ref q2, .ref q6, .ref q10, .ref q17, .null, .null, .int 0, .int 0]))] ++ X5) := hD
  refine W.widen (k := 30) (n := 11502) (by omega) (by omega) ?_
  refine va_putF (D := D) (ci := 5) (v := .ref q24) (ty := (.object "GlassesOfRue$World")) (C := RX5) (T := TX5) (N := 9) hx hb hts uw_X5 tyX5 tyX5_ok nmX5 hown hK hP hD hS 1 rfl rfl 5 (by decide) (hts _ mw_374) (fun _ h9 => h9) rfl hin rfl (by decide +kernel) rfl rfl (Nat.le_of_ble_eq_true rfl) dX5_init_77 (fun H17 _ _ _ _ => ?_)
  clear hP hD hS; try clear locs
  rename_i locs hP hD hS
  try clear H16
  replace hP : va_P D zcl ([(q1, .inl (ca 3, 6, .inr (.inr (.inr (.inr (fun _ => none)))))), (a, .inr (5, [.ref q1, .ref q2, .ref q6, .ref q10, .ref q17, .ref q24, .null, .int 0, .int 0]))] ++ X5) H17 := hP
  replace hD : va_D A ([(q1, .inl (ca 3, 6, .inr (.inr (.inr (.inr (fun _ => none)))))), (a, .inr (5, [.ref q1, .ref q2, .ref q6, .ref q10, .ref q17, .ref q24, .null, .int 0, .int 0]))] ++ X5) := hD
  refine lv_aload_n hx hb dX5_init_80 rfl (lv_at hl 0 rfl) ?_
  refine lv_iconst (v := (4 : Int32)) hx hb dX5_init_81 (by decide) ?_
  refine zn_q4 (N' := 4) hx hb hown hts hK hP hD hS hA hSt.2.2.1.2.2.2 mw_712 (by decide) (by decide) (Nat.le_of_ble_eq_true rfl) (by rw [hRm]; exact Nat.le_of_ble_eq_true rfl) (by rw [hRm]; exact Nat.le_of_ble_eq_true rfl) dX5_init_82 (fun q31 H18 _ _ _ => ?_)
  clear hP hD hS
  rename_i hP hD hS
  try clear H17
  replace hP := zP_perm (zfr _ _) hP
  replace hD := zD_perm (zfr _ _) hD
  refine W.widen (k := 31) (n := 11506) (by omega) (by omega) ?_
  refine va_putF (D := D) (ci := 5) (v := .ref q31) (ty := (.array (.object "GlassesOfRue$Sheet"))) (C := RX5) (T := TX5) (N := 9) hx hb hts uw_X5 tyX5 tyX5_ok nmX5 hown hK hP hD hS 2 rfl rfl 6 (by decide) (hts _ mw_348) (fun _ h9 => h9) rfl hin rfl (by decide +kernel) rfl rfl (Nat.le_of_ble_eq_true rfl) dX5_init_85 (fun H19 _ _ _ _ => ?_)
  clear hP hD hS; try clear locs
  rename_i locs hP hD hS
  try clear H18
  replace hP : va_P D zcl ([(q31, .inl (ca 4, 4, .inr (.inr (.inr (.inr (fun _ => none)))))), (q1, .inl (ca 3, 6, .inr (.inr (.inr (.inr (fun _ => none)))))), (a, .inr (5, [.ref q1, .ref q2, .ref q6, .ref q10, .ref q17, .ref q24, .ref q31, .int 0, .int 0]))] ++ X5) H19 := hP
  replace hD : va_D A ([(q31, .inl (ca 4, 4, .inr (.inr (.inr (.inr (fun _ => none)))))), (q1, .inl (ca 3, 6, .inr (.inr (.inr (.inr (fun _ => none)))))), (a, .inr (5, [.ref q1, .ref q2, .ref q6, .ref q10, .ref q17, .ref q24, .ref q31, .int 0, .int 0]))] ++ X5) := hD
  refine lv_iconst (v := (0 : Int32)) hx hb dX5_init_88 (by decide) ?_
  refine lv_istore_n (lv' := [(1, .int (0 : Int32)), (0, .ref a)]) hx hb dX5_init_89 rfl hl (by decide) rfl (fun _ _ => ?_)
  clear hl; try clear ls
  rename_i ls hl
  refine lv_iload_n hx hb dX5_init_90 rfl (lv_at hl 0 rfl) ?_
  refine lv_bipush (v := (6 : Int32)) hx hb dX5_init_91 (by decide) ?_
  refine lv_icmp_ge (tgt := 115) hx hb dX5_init_93 (by decide) (fun c1 => absurd c1 (by decide)) (fun _ => ?_)
  refine lv_aload_n hx hb dX5_init_96 rfl (lv_at hl 1 rfl) ?_
  refine va_get (D := D) (ci := 5) (v := .ref q1) (C := RX5) (T := TX5) (N := 9) hx hb hts uw_X5 hown hK hP 2 rfl rfl 0 (by decide) (hts _ mw_255) (fun _ h9 => h9) rfl dX5_init_97 ?_
  refine lv_iload_n hx hb dX5_init_100 rfl (lv_at hl 0 rfl) ?_
  refine va_new (ci := 3) (fs := [.null, .null, .null]) (C := RX3) (T := TX3) (N := 3) hx hb hts uw_X3 tyX3 tyX3_ok hown (hts _ mw_713) (hts _ mw_714) (hts _ mw_71) hK hP hD hS hA rfl (fun j hj => by rcases (show j = 0 ∨ j = 1 ∨ j = 2 by omega) with rfl | rfl | rfl <;> rfl) (by rw [hRm]; exact Nat.le_of_ble_eq_true rfl) (by rw [hRm]; exact Nat.le_of_ble_eq_true rfl) dX5_init_101 (fun q32 H20 _ _ _ => ?_)
  clear hP hD hS
  rename_i hP hD hS
  try clear H19
  replace hP := zP_perm (zfr _ _) hP
  replace hD := zD_perm (zfr _ _) hD
  refine W.widen (k := 32) (n := 11509) (by omega) (by omega) ?_
  refine lv_dup hx hb dX5_init_104 rfl ?_
  have hPc : va_P D zcl [(q32, .inr (3, [.null, .null, .null]))] H20 := fun k q hk => by cases k with | zero => exact hP 0 q hk | succ k => simp at hk
  have hDc : va_D A [(q32, .inr (3, [.null, .null, .null]))] := zD_cons.mpr ⟨hD.2 0 _ rfl, fun q hq => absurd hq List.not_mem_nil, ⟨fun i j p q h => by simp at h, fun k q h => by simp at h⟩⟩
  have hFc : ∀ q, va_A [(q32, .inr (3, [.null, .null, .null]))] H20.size q → A q := fun q h => h.elim (fun ⟨k, e, h⟩ => by cases k with | zero => (simp at h; rw [← h.1]; exact hD.2 0 _ rfl) | succ k => simp at h) (fun h => hA q (Nat.le_trans hS.1 h))
  refine va_callv (va_runIN (As := []) (rest := [.ref q32, .int (0 : Int32), .ref q1]) ⟨hx, hb, hml, hown, hts⟩ (ci_X3_init l D ca sa q32 H20.size) ⟨va_cnB 0 hts (zT_good (zT_code mw_715)) rfl rfl rfl (hSt.1.2 _ (List.mem_of_getElem? (i := 2) rfl)) (hts _ mw_71) (by decide +kernel) (by rw [hRm]; exact ⟨Nat.le_of_ble_eq_true rfl, Nat.le_of_ble_eq_true rfl⟩), rfl, hts _ mw_716⟩ ⟨zIp_b _ _ _ _ _ _, zi_pre hK hSt hS (fun q h => hFc q h) hPc hDc⟩ rfl rfl hl.1 rfl (lv_room (Nat.le_of_ble_eq_true rfl)) dX5_init_105 (by rw [hRm]; exact ⟨Nat.le_of_ble_eq_true rfl, Nat.le_of_ble_eq_true rfl⟩)) hS (fun q _ h => hFc q h) hFc (fun u t H21 _ ht hvm hw hB hz1 hk1 _ => ?_)
  clear hS; try clear locs
  rename_i locs hS
  obtain ⟨q33, q34, q35⟩ := u
  obtain ⟨hP1, hD1⟩ := hB
  rw [ht] at hP1
  have hPD := zP_call (w1 := [(q32, .inr (3, [.ref q33, .ref q34, .ref q35])), (q33, .inl (ca 0, 160, .inl (fun _ => 0))), (q34, .inl (ca 0, 3, .inl (fun _ => 0))), (q35, .inl (ca 0, 160, .inl (fun _ => 0)))]) hP hD hk1 hFc hP1 hD1
  clear hP hD hPc hDc hFc hk1 hz1 hvm ht hP1 hD1
  obtain ⟨hP, hD⟩ := hPD
  try clear H20
  try clear hw
  try clear t
  replace hP := zP_perm (zsw [(q32, .inr (3, [.ref q33, .ref q34, .ref q35]))] [(q33, .inl (ca 0, 160, .inl (fun _ => 0))), (q34, .inl (ca 0, 3, .inl (fun _ => 0))), (q35, .inl (ca 0, 160, .inl (fun _ => 0)))] [(q31, .inl (ca 4, 4, .inr (.inr (.inr (.inr (fun _ => none)))))), (q1, .inl (ca 3, 6, .inr (.inr (.inr (.inr (fun _ => none)))))), (a, .inr (5, [.ref q1, .ref q2, .ref q6, .ref q10, .ref q17, .ref q24, .ref q31, .int 0, .int 0]))] X5) hP
  replace hD := zD_perm (zsw [(q32, .inr (3, [.ref q33, .ref q34, .ref q35]))] [(q33, .inl (ca 0, 160, .inl (fun _ => 0))), (q34, .inl (ca 0, 3, .inl (fun _ => 0))), (q35, .inl (ca 0, 160, .inl (fun _ => 0)))] [(q31, .inl (ca 4, 4, .inr (.inr (.inr (.inr (fun _ => none)))))), (q1, .inl (ca 3, 6, .inr (.inr (.inr (.inr (fun _ => none)))))), (a, .inr (5, [.ref q1, .ref q2, .ref q6, .ref q10, .ref q17, .ref q24, .ref q31, .int 0, .int 0]))] X5) hD
  obtain ⟨X6, eX6⟩ : ∃ X : va_W, X = [(q33, .inl (ca 0, 160, .inl (fun _ => 0))), (q34, .inl (ca 0, 3, .inl (fun _ => 0))), (q35, .inl (ca 0, 160, .inl (fun _ => 0)))] ++ X5 := ⟨_, rfl⟩
  rw [← eX6] at hP hD
  replace hP : va_P D zcl ([(q32, .inr (3, [.ref q33, .ref q34, .ref q35])), (q31, .inl (ca 4, 4, .inr (.inr (.inr (.inr (fun _ => none)))))), (q1, .inl (ca 3, 6, .inr (.inr (.inr (.inr (fun _ => none)))))), (a, .inr (5, [.ref q1, .ref q2, .ref q6, .ref q10, .ref q17, .ref q24, .ref q31, .int 0, .int 0]))] ++ X6) H21 := hP
  replace hD : va_D A ([(q32, .inr (3, [.ref q33, .ref q34, .ref q35])), (q31, .inl (ca 4, 4, .inr (.inr (.inr (.inr (fun _ => none)))))), (q1, .inl (ca 3, 6, .inr (.inr (.inr (.inr (fun _ => none)))))), (a, .inr (5, [.ref q1, .ref q2, .ref q6, .ref q10, .ref q17, .ref q24, .ref q31, .int 0, .int 0]))] ++ X6) := hD
  refine W.widen (k := 35) (n := 11832) (by omega) (by omega) ?_
  refine va_astq (D := D) (tys := ztys2 ca) (i := (0 : Int32)) (r := (RX3, TX3, 3)) hx hb hK hP hD hS 2 3 0 3 rfl rfl rfl rfl (zin_i (by decide)) dX5_init_108 (fun H22 _ _ _ _ => ?_)
  clear hP hD hS; try clear locs
  rename_i locs hP hD hS
  try clear H21
  replace hP : va_P D zcl ([(q32, .inr (3, [.ref q33, .ref q34, .ref q35])), (q31, .inl (ca 4, 4, .inr (.inr (.inr (.inr (fun _ => none)))))), (q1, .inl (ca 3, 6, .inr (.inr (.inr (.inr (va_up (fun _ => none) ((0 : Int32)).toNatClampNeg (some q32))))))), (a, .inr (5, [.ref q1, .ref q2, .ref q6, .ref q10, .ref q17, .ref q24, .ref q31, .int 0, .int 0]))] ++ X6) H22 := hP
  replace hD : va_D A ([(q32, .inr (3, [.ref q33, .ref q34, .ref q35])), (q31, .inl (ca 4, 4, .inr (.inr (.inr (.inr (fun _ => none)))))), (q1, .inl (ca 3, 6, .inr (.inr (.inr (.inr (va_up (fun _ => none) ((0 : Int32)).toNatClampNeg (some q32))))))), (a, .inr (5, [.ref q1, .ref q2, .ref q6, .ref q10, .ref q17, .ref q24, .ref q31, .int 0, .int 0]))] ++ X6) := hD
  replace hP := zP_perm (zsw [] [(q32, .inr (3, [.ref q33, .ref q34, .ref q35]))] [(q31, .inl (ca 4, 4, .inr (.inr (.inr (.inr (fun _ => none)))))), (q1, .inl (ca 3, 6, .inr (.inr (.inr (.inr (va_up (fun _ => none) ((0 : Int32)).toNatClampNeg (some q32))))))), (a, .inr (5, [.ref q1, .ref q2, .ref q6, .ref q10, .ref q17, .ref q24, .ref q31, .int 0, .int 0]))] X6) hP
  replace hD := zD_perm (zsw [] [(q32, .inr (3, [.ref q33, .ref q34, .ref q35]))] [(q31, .inl (ca 4, 4, .inr (.inr (.inr (.inr (fun _ => none)))))), (q1, .inl (ca 3, 6, .inr (.inr (.inr (.inr (va_up (fun _ => none) ((0 : Int32)).toNatClampNeg (some q32))))))), (a, .inr (5, [.ref q1, .ref q2, .ref q6, .ref q10, .ref q17, .ref q24, .ref q31, .int 0, .int 0]))] X6) hD
  obtain ⟨X7, eX7⟩ : ∃ X : va_W, X = [(q32, .inr (3, [.ref q33, .ref q34, .ref q35]))] ++ X6 := ⟨_, rfl⟩
  rw [← eX7] at hP hD
  replace hP : va_P D zcl ([(q31, .inl (ca 4, 4, .inr (.inr (.inr (.inr (fun _ => none)))))), (q1, .inl (ca 3, 6, .inr (.inr (.inr (.inr (va_up (fun _ => none) ((0 : Int32)).toNatClampNeg (some q32))))))), (a, .inr (5, [.ref q1, .ref q2, .ref q6, .ref q10, .ref q17, .ref q24, .ref q31, .int 0, .int 0]))] ++ X7) H22 := hP
  replace hD : va_D A ([(q31, .inl (ca 4, 4, .inr (.inr (.inr (.inr (fun _ => none)))))), (q1, .inl (ca 3, 6, .inr (.inr (.inr (.inr (va_up (fun _ => none) ((0 : Int32)).toNatClampNeg (some q32))))))), (a, .inr (5, [.ref q1, .ref q2, .ref q6, .ref q10, .ref q17, .ref q24, .ref q31, .int 0, .int 0]))] ++ X7) := hD
  refine lv_iinc (v := (1 : Int32)) (lv' := [(1, .int (1 : Int32)), (0, .ref a)]) hx hb dX5_init_109 hl (k := 0) rfl (by decide) (by decide) rfl (fun _ _ => ?_)
  clear hl; try clear ls
  rename_i ls hl
  refine lv_goto (tgt := 90) hx hb dX5_init_112 (by decide) ?_
  refine lv_iload_n hx hb dX5_init_90 rfl (lv_at hl 0 rfl) ?_
  refine lv_bipush (v := (6 : Int32)) hx hb dX5_init_91 (by decide) ?_
  refine lv_icmp_ge (tgt := 115) hx hb dX5_init_93 (by decide) (fun c1 => absurd c1 (by decide)) (fun _ => ?_)
  refine lv_aload_n hx hb dX5_init_96 rfl (lv_at hl 1 rfl) ?_
  refine va_get (D := D) (ci := 5) (v := .ref q1) (C := RX5) (T := TX5) (N := 9) hx hb hts uw_X5 hown hK hP 2 rfl rfl 0 (by decide) (hts _ mw_255) (fun _ h9 => h9) rfl dX5_init_97 ?_
  refine lv_iload_n hx hb dX5_init_100 rfl (lv_at hl 0 rfl) ?_
  refine va_new (ci := 3) (fs := [.null, .null, .null]) (C := RX3) (T := TX3) (N := 3) hx hb hts uw_X3 tyX3 tyX3_ok hown (hts _ mw_713) (hts _ mw_714) (hts _ mw_71) hK hP hD hS hA rfl (fun j hj => by rcases (show j = 0 ∨ j = 1 ∨ j = 2 by omega) with rfl | rfl | rfl <;> rfl) (by rw [hRm]; exact Nat.le_of_ble_eq_true rfl) (by rw [hRm]; exact Nat.le_of_ble_eq_true rfl) dX5_init_101 (fun q36 H23 _ _ _ => ?_)
  clear hP hD hS
  rename_i hP hD hS
  try clear H22
  replace hP := zP_perm (zfr _ _) hP
  replace hD := zD_perm (zfr _ _) hD
  refine W.widen (k := 36) (n := 11835) (by omega) (by omega) ?_
  refine lv_dup hx hb dX5_init_104 rfl ?_
  have hPc : va_P D zcl [(q36, .inr (3, [.null, .null, .null]))] H23 := fun k q hk => by cases k with | zero => exact hP 0 q hk | succ k => simp at hk
  have hDc : va_D A [(q36, .inr (3, [.null, .null, .null]))] := zD_cons.mpr ⟨hD.2 0 _ rfl, fun q hq => absurd hq List.not_mem_nil, ⟨fun i j p q h => by simp at h, fun k q h => by simp at h⟩⟩
  have hFc : ∀ q, va_A [(q36, .inr (3, [.null, .null, .null]))] H23.size q → A q := fun q h => h.elim (fun ⟨k, e, h⟩ => by cases k with | zero => (simp at h; rw [← h.1]; exact hD.2 0 _ rfl) | succ k => simp at h) (fun h => hA q (Nat.le_trans hS.1 h))
  refine va_callv (va_runIN (As := []) (rest := [.ref q36, .int (1 : Int32), .ref q1]) ⟨hx, hb, hml, hown, hts⟩ (ci_X3_init l D ca sa q36 H23.size) ⟨va_cnB 0 hts (zT_good (zT_code mw_715)) rfl rfl rfl (hSt.1.2 _ (List.mem_of_getElem? (i := 2) rfl)) (hts _ mw_71) (by decide +kernel) (by rw [hRm]; exact ⟨Nat.le_of_ble_eq_true rfl, Nat.le_of_ble_eq_true rfl⟩), rfl, hts _ mw_716⟩ ⟨zIp_b _ _ _ _ _ _, zi_pre hK hSt hS (fun q h => hFc q h) hPc hDc⟩ rfl rfl hl.1 rfl (lv_room (Nat.le_of_ble_eq_true rfl)) dX5_init_105 (by rw [hRm]; exact ⟨Nat.le_of_ble_eq_true rfl, Nat.le_of_ble_eq_true rfl⟩)) hS (fun q _ h => hFc q h) hFc (fun u t H24 _ ht hvm hw hB hz1 hk1 _ => ?_)
  clear hS; try clear locs
  rename_i locs hS
  obtain ⟨q37, q38, q39⟩ := u
  obtain ⟨hP1, hD1⟩ := hB
  rw [ht] at hP1
  have hPD := zP_call (w1 := [(q36, .inr (3, [.ref q37, .ref q38, .ref q39])), (q37, .inl (ca 0, 160, .inl (fun _ => 0))), (q38, .inl (ca 0, 3, .inl (fun _ => 0))), (q39, .inl (ca 0, 160, .inl (fun _ => 0)))]) hP hD hk1 hFc hP1 hD1
  clear hP hD hPc hDc hFc hk1 hz1 hvm ht hP1 hD1
  obtain ⟨hP, hD⟩ := hPD
  try clear H23
  try clear hw
  try clear t
  replace hP := zP_perm (zsw [(q36, .inr (3, [.ref q37, .ref q38, .ref q39]))] [(q37, .inl (ca 0, 160, .inl (fun _ => 0))), (q38, .inl (ca 0, 3, .inl (fun _ => 0))), (q39, .inl (ca 0, 160, .inl (fun _ => 0)))] [(q31, .inl (ca 4, 4, .inr (.inr (.inr (.inr (fun _ => none)))))), (q1, .inl (ca 3, 6, .inr (.inr (.inr (.inr (va_up (fun _ => none) ((0 : Int32)).toNatClampNeg (some q32))))))), (a, .inr (5, [.ref q1, .ref q2, .ref q6, .ref q10, .ref q17, .ref q24, .ref q31, .int 0, .int 0]))] X7) hP
  replace hD := zD_perm (zsw [(q36, .inr (3, [.ref q37, .ref q38, .ref q39]))] [(q37, .inl (ca 0, 160, .inl (fun _ => 0))), (q38, .inl (ca 0, 3, .inl (fun _ => 0))), (q39, .inl (ca 0, 160, .inl (fun _ => 0)))] [(q31, .inl (ca 4, 4, .inr (.inr (.inr (.inr (fun _ => none)))))), (q1, .inl (ca 3, 6, .inr (.inr (.inr (.inr (va_up (fun _ => none) ((0 : Int32)).toNatClampNeg (some q32))))))), (a, .inr (5, [.ref q1, .ref q2, .ref q6, .ref q10, .ref q17, .ref q24, .ref q31, .int 0, .int 0]))] X7) hD
  obtain ⟨X8, eX8⟩ : ∃ X : va_W, X = [(q37, .inl (ca 0, 160, .inl (fun _ => 0))), (q38, .inl (ca 0, 3, .inl (fun _ => 0))), (q39, .inl (ca 0, 160, .inl (fun _ => 0)))] ++ X7 := ⟨_, rfl⟩
  rw [← eX8] at hP hD
  replace hP : va_P D zcl ([(q36, .inr (3, [.ref q37, .ref q38, .ref q39])), (q31, .inl (ca 4, 4, .inr (.inr (.inr (.inr (fun _ => none)))))), (q1, .inl (ca 3, 6, .inr (.inr (.inr (.inr (va_up (fun _ => none) ((0 : Int32)).toNatClampNeg (some q32))))))), (a, .inr (5, [.ref q1, .ref q2, .ref q6, .ref q10, .ref q17, .ref q24, .ref q31, .int 0, .int 0]))] ++ X8) H24 := hP
  replace hD : va_D A ([(q36, .inr (3, [.ref q37, .ref q38, .ref q39])), (q31, .inl (ca 4, 4, .inr (.inr (.inr (.inr (fun _ => none)))))), (q1, .inl (ca 3, 6, .inr (.inr (.inr (.inr (va_up (fun _ => none) ((0 : Int32)).toNatClampNeg (some q32))))))), (a, .inr (5, [.ref q1, .ref q2, .ref q6, .ref q10, .ref q17, .ref q24, .ref q31, .int 0, .int 0]))] ++ X8) := hD
  refine W.widen (k := 39) (n := 12158) (by omega) (by omega) ?_
  refine va_astq (D := D) (tys := ztys2 ca) (i := (1 : Int32)) (r := (RX3, TX3, 3)) hx hb hK hP hD hS 2 3 0 3 rfl rfl rfl rfl (zin_i (by decide)) dX5_init_108 (fun H25 _ _ _ _ => ?_)
  clear hP hD hS; try clear locs
  rename_i locs hP hD hS
  try clear H24
  replace hP : va_P D zcl ([(q36, .inr (3, [.ref q37, .ref q38, .ref q39])), (q31, .inl (ca 4, 4, .inr (.inr (.inr (.inr (fun _ => none)))))), (q1, .inl (ca 3, 6, .inr (.inr (.inr (.inr (va_up (va_up (fun _ => none) ((0 : Int32)).toNatClampNeg (some q32)) ((1 : Int32)).toNatClampNeg (some q36))))))), (a, .inr (5, [.ref q1, .ref q2, .ref q6, .ref q10, .ref q17, .ref q24, .ref q31, .int 0, .int 0]))] ++ X8) H25 := hP
  replace hD : va_D A ([(q36, .inr (3, [.ref q37, .ref q38, .ref q39])), (q31, .inl (ca 4, 4, .inr (.inr (.inr (.inr (fun _ => none)))))), (q1, .inl (ca 3, 6, .inr (.inr (.inr (.inr (va_up (va_up (fun _ => none) ((0 : Int32)).toNatClampNeg (some q32)) ((1 : Int32)).toNatClampNeg (some q36))))))), (a, .inr (5, [.ref q1, .ref q2, .ref q6, .ref q10, .ref q17, .ref q24, .ref q31, .int 0, .int 0]))] ++ X8) := hD
  replace hP := zP_perm (zsw [] [(q36, .inr (3, [.ref q37, .ref q38, .ref q39]))] [(q31, .inl (ca 4, 4, .inr (.inr (.inr (.inr (fun _ => none)))))), (q1, .inl (ca 3, 6, .inr (.inr (.inr (.inr (va_up (va_up (fun _ => none) ((0 : Int32)).toNatClampNeg (some q32)) ((1 : Int32)).toNatClampNeg (some q36))))))), (a, .inr (5, [.ref q1, .ref q2, .ref q6, .ref q10, .ref q17, .ref q24, .ref q31, .int 0, .int 0]))] X8) hP
  replace hD := zD_perm (zsw [] [(q36, .inr (3, [.ref q37, .ref q38, .ref q39]))] [(q31, .inl (ca 4, 4, .inr (.inr (.inr (.inr (fun _ => none)))))), (q1, .inl (ca 3, 6, .inr (.inr (.inr (.inr (va_up (va_up (fun _ => none) ((0 : Int32)).toNatClampNeg (some q32)) ((1 : Int32)).toNatClampNeg (some q36))))))), (a, .inr (5, [.ref q1, .ref q2, .ref q6, .ref q10, .ref q17, .ref q24, .ref q31, .int 0, .int 0]))] X8) hD
  obtain ⟨X9, eX9⟩ : ∃ X : va_W, X = [(q36, .inr (3, [.ref q37, .ref q38, .ref q39]))] ++ X8 := ⟨_, rfl⟩
  rw [← eX9] at hP hD
  replace hP : va_P D zcl ([(q31, .inl (ca 4, 4, .inr (.inr (.inr (.inr (fun _ => none)))))), (q1, .inl (ca 3, 6, .inr (.inr (.inr (.inr (va_up (va_up (fun _ => none) ((0 : Int32)).toNatClampNeg (some q32)) ((1 : Int32)).toNatClampNeg (some q36))))))), (a, .inr (5, [.ref q1, .ref q2, .ref q6, .ref q10, .ref q17, .ref q24, .ref q31, .int 0, .int 0]))] ++ X9) H25 := hP
  replace hD : va_D A ([(q31, .inl (ca 4, 4, .inr (.inr (.inr (.inr (fun _ => none)))))), (q1, .inl (ca 3, 6, .inr (.inr (.inr (.inr (va_up (va_up (fun _ => none) ((0 : Int32)).toNatClampNeg (some q32)) ((1 : Int32)).toNatClampNeg (some q36))))))), (a, .inr (5, [.ref q1, .ref q2, .ref q6, .ref q10, .ref q17, .ref q24, .ref q31, .int 0, .int 0]))] ++ X9) := hD
  refine lv_iinc (v := (2 : Int32)) (lv' := [(1, .int (2 : Int32)), (0, .ref a)]) hx hb dX5_init_109 hl (k := 0) rfl (by decide) (by decide) rfl (fun _ _ => ?_)
  clear hl; try clear ls
  rename_i ls hl
  refine lv_goto (tgt := 90) hx hb dX5_init_112 (by decide) ?_
  refine lv_iload_n hx hb dX5_init_90 rfl (lv_at hl 0 rfl) ?_
  refine lv_bipush (v := (6 : Int32)) hx hb dX5_init_91 (by decide) ?_
  refine lv_icmp_ge (tgt := 115) hx hb dX5_init_93 (by decide) (fun c1 => absurd c1 (by decide)) (fun _ => ?_)
  refine lv_aload_n hx hb dX5_init_96 rfl (lv_at hl 1 rfl) ?_
  refine va_get (D := D) (ci := 5) (v := .ref q1) (C := RX5) (T := TX5) (N := 9) hx hb hts uw_X5 hown hK hP 2 rfl rfl 0 (by decide) (hts _ mw_255) (fun _ h9 => h9) rfl dX5_init_97 ?_
  refine lv_iload_n hx hb dX5_init_100 rfl (lv_at hl 0 rfl) ?_
  refine va_new (ci := 3) (fs := [.null, .null, .null]) (C := RX3) (T := TX3) (N := 3) hx hb hts uw_X3 tyX3 tyX3_ok hown (hts _ mw_713) (hts _ mw_714) (hts _ mw_71) hK hP hD hS hA rfl (fun j hj => by rcases (show j = 0 ∨ j = 1 ∨ j = 2 by omega) with rfl | rfl | rfl <;> rfl) (by rw [hRm]; exact Nat.le_of_ble_eq_true rfl) (by rw [hRm]; exact Nat.le_of_ble_eq_true rfl) dX5_init_101 (fun q40 H26 _ _ _ => ?_)
  clear hP hD hS
  rename_i hP hD hS
  try clear H25
  replace hP := zP_perm (zfr _ _) hP
  replace hD := zD_perm (zfr _ _) hD
  refine W.widen (k := 40) (n := 12161) (by omega) (by omega) ?_
  refine lv_dup hx hb dX5_init_104 rfl ?_
  have hPc : va_P D zcl [(q40, .inr (3, [.null, .null, .null]))] H26 := fun k q hk => by cases k with | zero => exact hP 0 q hk | succ k => simp at hk
  have hDc : va_D A [(q40, .inr (3, [.null, .null, .null]))] := zD_cons.mpr ⟨hD.2 0 _ rfl, fun q hq => absurd hq List.not_mem_nil, ⟨fun i j p q h => by simp at h, fun k q h => by simp at h⟩⟩
  have hFc : ∀ q, va_A [(q40, .inr (3, [.null, .null, .null]))] H26.size q → A q := fun q h => h.elim (fun ⟨k, e, h⟩ => by cases k with | zero => (simp at h; rw [← h.1]; exact hD.2 0 _ rfl) | succ k => simp at h) (fun h => hA q (Nat.le_trans hS.1 h))
  refine va_callv (va_runIN (As := []) (rest := [.ref q40, .int (2 : Int32), .ref q1]) ⟨hx, hb, hml, hown, hts⟩ (ci_X3_init l D ca sa q40 H26.size) ⟨va_cnB 0 hts (zT_good (zT_code mw_715)) rfl rfl rfl (hSt.1.2 _ (List.mem_of_getElem? (i := 2) rfl)) (hts _ mw_71) (by decide +kernel) (by rw [hRm]; exact ⟨Nat.le_of_ble_eq_true rfl, Nat.le_of_ble_eq_true rfl⟩), rfl, hts _ mw_716⟩ ⟨zIp_b _ _ _ _ _ _, zi_pre hK hSt hS (fun q h => hFc q h) hPc hDc⟩ rfl rfl hl.1 rfl (lv_room (Nat.le_of_ble_eq_true rfl)) dX5_init_105 (by rw [hRm]; exact ⟨Nat.le_of_ble_eq_true rfl, Nat.le_of_ble_eq_true rfl⟩)) hS (fun q _ h => hFc q h) hFc (fun u t H27 _ ht hvm hw hB hz1 hk1 _ => ?_)
  clear hS; try clear locs
  rename_i locs hS
  obtain ⟨q41, q42, q43⟩ := u
  obtain ⟨hP1, hD1⟩ := hB
  rw [ht] at hP1
  have hPD := zP_call (w1 := [(q40, .inr (3, [.ref q41, .ref q42, .ref q43])), (q41, .inl (ca 0, 160, .inl (fun _ => 0))), (q42, .inl (ca 0, 3, .inl (fun _ => 0))), (q43, .inl (ca 0, 160, .inl (fun _ => 0)))]) hP hD hk1 hFc hP1 hD1
  clear hP hD hPc hDc hFc hk1 hz1 hvm ht hP1 hD1
  obtain ⟨hP, hD⟩ := hPD
  try clear H26
  try clear hw
  try clear t
  replace hP := zP_perm (zsw [(q40, .inr (3, [.ref q41, .ref q42, .ref q43]))] [(q41, .inl (ca 0, 160, .inl (fun _ => 0))), (q42, .inl (ca 0, 3, .inl (fun _ => 0))), (q43, .inl (ca 0, 160, .inl (fun _ => 0)))] [(q31, .inl (ca 4, 4, .inr (.inr (.inr (.inr (fun _ => none)))))), (q1, .inl (ca 3, 6, .inr (.inr (.inr (.inr (va_up (va_up (fun _ => none) ((0 : Int32)).toNatClampNeg (some q32)) ((1 : Int32)).toNatClampNeg (some q36))))))), (a, .inr (5, [.ref q1, .ref q2, .ref q6, .ref q10, .ref q17, .ref q24, .ref q31, .int 0, .int 0]))] X9) hP
  replace hD := zD_perm (zsw [(q40, .inr (3, [.ref q41, .ref q42, .ref q43]))] [(q41, .inl (ca 0, 160, .inl (fun _ => 0))), (q42, .inl (ca 0, 3, .inl (fun _ => 0))), (q43, .inl (ca 0, 160, .inl (fun _ => 0)))] [(q31, .inl (ca 4, 4, .inr (.inr (.inr (.inr (fun _ => none)))))), (q1, .inl (ca 3, 6, .inr (.inr (.inr (.inr (va_up (va_up (fun _ => none) ((0 : Int32)).toNatClampNeg (some q32)) ((1 : Int32)).toNatClampNeg (some q36))))))), (a, .inr (5, [.ref q1, .ref q2, .ref q6, .ref q10, .ref q17, .ref q24, .ref q31, .int 0, .int 0]))] X9) hD
  obtain ⟨X10, eX10⟩ : ∃ X : va_W, X = [(q41, .inl (ca 0, 160, .inl (fun _ => 0))), (q42, .inl (ca 0, 3, .inl (fun _ => 0))), (q43, .inl (ca 0, 160, .inl (fun _ => 0)))] ++ X9 := ⟨_, rfl⟩
  rw [← eX10] at hP hD
  replace hP : va_P D zcl ([(q40, .inr (3, [.ref q41, .ref q42, .ref q43])), (q31, .inl (ca 4, 4, .inr (.inr (.inr (.inr (fun _ => none)))))), (q1, .inl (ca 3, 6, .inr (.inr (.inr (.inr (va_up (va_up (fun _ => none) ((0 : Int32)).toNatClampNeg (some q32)) ((1 : Int32)).toNatClampNeg (some q36))))))), (a, .inr (5, [.ref q1, .ref q2, .ref q6, .ref q10, .ref q17, .ref q24, .ref q31, .int 0, .int 0]))] ++ X10) H27 := hP
  replace hD : va_D A ([(q40, .inr (3, [.ref q41, .ref q42, .ref q43])), (q31, .inl (ca 4, 4, .inr (.inr (.inr (.inr (fun _ => none)))))), (q1, .inl (ca 3, 6, .inr (.inr (.inr (.inr (va_up (va_up (fun _ => none) ((0 : Int32)).toNatClampNeg (some q32)) ((1 : Int32)).toNatClampNeg (some q36))))))), (a, .inr (5, [.ref q1, .ref q2, .ref q6, .ref q10, .ref q17, .ref q24, .ref q31, .int 0, .int 0]))] ++ X10) := hD
  refine W.widen (k := 43) (n := 12484) (by omega) (by omega) ?_
  refine va_astq (D := D) (tys := ztys2 ca) (i := (2 : Int32)) (r := (RX3, TX3, 3)) hx hb hK hP hD hS 2 3 0 3 rfl rfl rfl rfl (zin_i (by decide)) dX5_init_108 (fun H28 _ _ _ _ => ?_)
  clear hP hD hS; try clear locs
  rename_i locs hP hD hS
  try clear H27
  replace hP : va_P D zcl ([(q40, .inr (3, [.ref q41, .ref q42, .ref q43])), (q31, .inl (ca 4, 4, .inr (.inr (.inr (.inr (fun _ => none)))))), (q1, .inl (ca 3, 6, .inr (.inr (.inr (.inr (va_up (va_up (va_up (fun _ => none) ((0 : Int32)).toNatClampNeg (some q32)) ((1 : Int32)).toNatClampNeg (some q36)) ((2 : Int32)).toNatClampNeg (some q40))))))), (a, .inr (5, [.ref q1, .ref q2, .ref q6, .ref q10, .ref q17, .ref q24, .ref q31, .int 0, .int 0]))] ++ X10) H28 := hP
  replace hD : va_D A ([(q40, .inr (3, [.ref q41, .ref q42, .ref q43])), (q31, .inl (ca 4, 4, .inr (.inr (.inr (.inr (fun _ => none)))))), (q1, .inl (ca 3, 6, .inr (.inr (.inr (.inr (va_up (va_up (va_up (fun _ => none) ((0 : Int32)).toNatClampNeg (some q32)) ((1 : Int32)).toNatClampNeg (some q36)) ((2 : Int32)).toNatClampNeg (some q40))))))), (a, .inr (5, [.ref q1, .ref q2, .ref q6, .ref q10, .ref q17, .ref q24, .ref q31, .int 0, .int 0]))] ++ X10) := hD
  replace hP := zP_perm (zsw [] [(q40, .inr (3, [.ref q41, .ref q42, .ref q43]))] [(q31, .inl (ca 4, 4, .inr (.inr (.inr (.inr (fun _ => none)))))), (q1, .inl (ca 3, 6, .inr (.inr (.inr (.inr (va_up (va_up (va_up (fun _ => none) ((0 : Int32)).toNatClampNeg (some q32)) ((1 : Int32)).toNatClampNeg (some q36)) ((2 : Int32)).toNatClampNeg (some q40))))))), (a, .inr (5, [.ref q1, .ref q2, .ref q6, .ref q10, .ref q17, .ref q24, .ref q31, .int 0, .int 0]))] X10) hP
  replace hD := zD_perm (zsw [] [(q40, .inr (3, [.ref q41, .ref q42, .ref q43]))] [(q31, .inl (ca 4, 4, .inr (.inr (.inr (.inr (fun _ => none)))))), (q1, .inl (ca 3, 6, .inr (.inr (.inr (.inr (va_up (va_up (va_up (fun _ => none) ((0 : Int32)).toNatClampNeg (some q32)) ((1 : Int32)).toNatClampNeg (some q36)) ((2 : Int32)).toNatClampNeg (some q40))))))), (a, .inr (5, [.ref q1, .ref q2, .ref q6, .ref q10, .ref q17, .ref q24, .ref q31, .int 0, .int 0]))] X10) hD
  obtain ⟨X11, eX11⟩ : ∃ X : va_W, X = [(q40, .inr (3, [.ref q41, .ref q42, .ref q43]))] ++ X10 := ⟨_, rfl⟩
  rw [← eX11] at hP hD
  replace hP : va_P D zcl ([(q31, .inl (ca 4, 4, .inr (.inr (.inr (.inr (fun _ => none)))))), (q1, .inl (ca 3, 6, .inr (.inr (.inr (.inr (va_up (va_up (va_up (fun _ => none) ((0 : Int32)).toNatClampNeg (some q32)) ((1 : Int32)).toNatClampNeg (some q36)) ((2 : Int32)).toNatClampNeg (some q40))))))), (a, .inr (5, [.ref q1, .ref q2, .ref q6, .ref q10, .ref q17, .ref q24, .ref q31, .int 0, .int 0]))] ++ X11) H28 := hP
  replace hD : va_D A ([(q31, .inl (ca 4, 4, .inr (.inr (.inr (.inr (fun _ => none)))))), (q1, .inl (ca 3, 6, .inr (.inr (.inr (.inr (va_up (va_up (va_up (fun _ => none) ((0 : Int32)).toNatClampNeg (some q32)) ((1 : Int32)).toNatClampNeg (some q36)) ((2 : Int32)).toNatClampNeg (some q40))))))), (a, .inr (5, [.ref q1, .ref q2, .ref q6, .ref q10, .ref q17, .ref q24, .ref q31, .int 0, .int 0]))] ++ X11) := hD
  refine lv_iinc (v := (3 : Int32)) (lv' := [(1, .int (3 : Int32)), (0, .ref a)]) hx hb dX5_init_109 hl (k := 0) rfl (by decide) (by decide) rfl (fun _ _ => ?_)
  clear hl; try clear ls
  rename_i ls hl
  refine lv_goto (tgt := 90) hx hb dX5_init_112 (by decide) ?_
  refine lv_iload_n hx hb dX5_init_90 rfl (lv_at hl 0 rfl) ?_
  refine lv_bipush (v := (6 : Int32)) hx hb dX5_init_91 (by decide) ?_
  refine lv_icmp_ge (tgt := 115) hx hb dX5_init_93 (by decide) (fun c1 => absurd c1 (by decide)) (fun _ => ?_)
  refine lv_aload_n hx hb dX5_init_96 rfl (lv_at hl 1 rfl) ?_
  refine va_get (D := D) (ci := 5) (v := .ref q1) (C := RX5) (T := TX5) (N := 9) hx hb hts uw_X5 hown hK hP 2 rfl rfl 0 (by decide) (hts _ mw_255) (fun _ h9 => h9) rfl dX5_init_97 ?_
  refine lv_iload_n hx hb dX5_init_100 rfl (lv_at hl 0 rfl) ?_
  refine va_new (ci := 3) (fs := [.null, .null, .null]) (C := RX3) (T := TX3) (N := 3) hx hb hts uw_X3 tyX3 tyX3_ok hown (hts _ mw_713) (hts _ mw_714) (hts _ mw_71) hK hP hD hS hA rfl (fun j hj => by rcases (show j = 0 ∨ j = 1 ∨ j = 2 by omega) with rfl | rfl | rfl <;> rfl) (by rw [hRm]; exact Nat.le_of_ble_eq_true rfl) (by rw [hRm]; exact Nat.le_of_ble_eq_true rfl) dX5_init_101 (fun q44 H29 _ _ _ => ?_)
  clear hP hD hS
  rename_i hP hD hS
  try clear H28
  replace hP := zP_perm (zfr _ _) hP
  replace hD := zD_perm (zfr _ _) hD
  refine W.widen (k := 44) (n := 12487) (by omega) (by omega) ?_
  refine lv_dup hx hb dX5_init_104 rfl ?_
  have hPc : va_P D zcl [(q44, .inr (3, [.null, .null, .null]))] H29 := fun k q hk => by cases k with | zero => exact hP 0 q hk | succ k => simp at hk
  have hDc : va_D A [(q44, .inr (3, [.null, .null, .null]))] := zD_cons.mpr ⟨hD.2 0 _ rfl, fun q hq => absurd hq List.not_mem_nil, ⟨fun i j p q h => by simp at h, fun k q h => by simp at h⟩⟩
  have hFc : ∀ q, va_A [(q44, .inr (3, [.null, .null, .null]))] H29.size q → A q := fun q h => h.elim (fun ⟨k, e, h⟩ => by cases k with | zero => (simp at h; rw [← h.1]; exact hD.2 0 _ rfl) | succ k => simp at h) (fun h => hA q (Nat.le_trans hS.1 h))
  refine va_callv (va_runIN (As := []) (rest := [.ref q44, .int (3 : Int32), .ref q1]) ⟨hx, hb, hml, hown, hts⟩ (ci_X3_init l D ca sa q44 H29.size) ⟨va_cnB 0 hts (zT_good (zT_code mw_715)) rfl rfl rfl (hSt.1.2 _ (List.mem_of_getElem? (i := 2) rfl)) (hts _ mw_71) (by decide +kernel) (by rw [hRm]; exact ⟨Nat.le_of_ble_eq_true rfl, Nat.le_of_ble_eq_true rfl⟩), rfl, hts _ mw_716⟩ ⟨zIp_b _ _ _ _ _ _, zi_pre hK hSt hS (fun q h => hFc q h) hPc hDc⟩ rfl rfl hl.1 rfl (lv_room (Nat.le_of_ble_eq_true rfl)) dX5_init_105 (by rw [hRm]; exact ⟨Nat.le_of_ble_eq_true rfl, Nat.le_of_ble_eq_true rfl⟩)) hS (fun q _ h => hFc q h) hFc (fun u t H30 _ ht hvm hw hB hz1 hk1 _ => ?_)
  clear hS; try clear locs
  rename_i locs hS
  obtain ⟨q45, q46, q47⟩ := u
  obtain ⟨hP1, hD1⟩ := hB
  rw [ht] at hP1
  have hPD := zP_call (w1 := [(q44, .inr (3, [.ref q45, .ref q46, .ref q47])), (q45, .inl (ca 0, 160, .inl (fun _ => 0))), (q46, .inl (ca 0, 3, .inl (fun _ => 0))), (q47, .inl (ca 0, 160, .inl (fun _ => 0)))]) hP hD hk1 hFc hP1 hD1
  clear hP hD hPc hDc hFc hk1 hz1 hvm ht hP1 hD1
  obtain ⟨hP, hD⟩ := hPD
  try clear H29
  try clear hw
  try clear t
  replace hP := zP_perm (zsw [(q44, .inr (3, [.ref q45, .ref q46, .ref q47]))] [(q45, .inl (ca 0, 160, .inl (fun _ => 0))), (q46, .inl (ca 0, 3, .inl (fun _ => 0))), (q47, .inl (ca 0, 160, .inl (fun _ => 0)))] [(q31, .inl (ca 4, 4, .inr (.inr (.inr (.inr (fun _ => none)))))), (q1, .inl (ca 3, 6, .inr (.inr (.inr (.inr (va_up (va_up (va_up (fun _ => none) ((0 : Int32)).toNatClampNeg (some q32)) ((1 : Int32)).toNatClampNeg (some q36)) ((2 : Int32)).toNatClampNeg (some q40))))))), (a, .inr (5, [.ref q1, .ref q2, .ref q6, .ref q10, .ref q17, .ref q24, .ref q31, .int 0, .int 0]))] X11) hP
  replace hD := zD_perm (zsw [(q44, .inr (3, [.ref q45, .ref q46, .ref q47]))] [(q45, .inl (ca 0, 160, .inl (fun _ => 0))), (q46, .inl (ca 0, 3, .inl (fun _ => 0))), (q47, .inl (ca 0, 160, .inl (fun _ => 0)))] [(q31, .inl (ca 4, 4, .inr (.inr (.inr (.inr (fun _ => none)))))), (q1, .inl (ca 3, 6, .inr (.inr (.inr (.inr (va_up (va_up (va_up (fun _ => none) ((0 : Int32)).toNatClampNeg (some q32)) ((1 : Int32)).toNatClampNeg (some q36)) ((2 : Int32)).toNatClampNeg (some q40))))))), (a, .inr (5, [.ref q1, .ref q2, .ref q6, .ref q10, .ref q17, .ref q24, .ref q31, .int 0, .int 0]))] X11) hD
  obtain ⟨X12, eX12⟩ : ∃ X : va_W, X = [(q45, .inl (ca 0, 160, .inl (fun _ => 0))), (q46, .inl (ca 0, 3, .inl (fun _ => 0))), (q47, .inl (ca 0, 160, .inl (fun _ => 0)))] ++ X11 := ⟨_, rfl⟩
  rw [← eX12] at hP hD
  replace hP : va_P D zcl ([(q44, .inr (3, [.ref q45, .ref q46, .ref q47])), (q31, .inl (ca 4, 4, .inr (.inr (.inr (.inr (fun _ => none)))))), (q1, .inl (ca 3, 6, .inr (.inr (.inr (.inr (va_up (va_up (va_up (fun _ => none) ((0 : Int32)).toNatClampNeg (some q32)) ((1 : Int32)).toNatClampNeg (some q36)) ((2 : Int32)).toNatClampNeg (some q40))))))), (a, .inr (5, [.ref q1, .ref q2, .ref q6, .ref q10, .ref q17, .ref q24, .ref q31, .int 0, .int 0]))] ++ X12) H30 := hP
  replace hD : va_D A ([(q44, .inr (3, [.ref q45, .ref q46, .ref q47])), (q31, .inl (ca 4, 4, .inr (.inr (.inr (.inr (fun _ => none)))))), (q1, .inl (ca 3, 6, .inr (.inr (.inr (.inr (va_up (va_up (va_up (fun _ => none) ((0 : Int32)).toNatClampNeg (some q32)) ((1 : Int32)).toNatClampNeg (some q36)) ((2 : Int32)).toNatClampNeg (some q40))))))), (a, .inr (5, [.ref q1, .ref q2, .ref q6, .ref q10, .ref q17, .ref q24, .ref q31, .int 0, .int 0]))] ++ X12) := hD
  refine W.widen (k := 47) (n := 12810) (by omega) (by omega) ?_
  refine va_astq (D := D) (tys := ztys2 ca) (i := (3 : Int32)) (r := (RX3, TX3, 3)) hx hb hK hP hD hS 2 3 0 3 rfl rfl rfl rfl (zin_i (by decide)) dX5_init_108 (fun H31 _ _ _ _ => ?_)
  clear hP hD hS; try clear locs
  rename_i locs hP hD hS
  try clear H30
  replace hP : va_P D zcl ([(q44, .inr (3, [.ref q45, .ref q46, .ref q47])), (q31, .inl (ca 4, 4, .inr (.inr (.inr (.inr (fun _ => none)))))), (q1, .inl (ca 3, 6, .inr (.inr (.inr (.inr (va_up (va_up (va_up (va_up (fun _ => none) ((0 : Int32)).toNatClampNeg (some q32)) ((1 : Int32)).toNatClampNeg (some q36)) ((2 : Int32)).toNatClampNeg (some q40)) ((3 : Int32)).toNatClampNeg (some q44))))))), (a, .inr (5, [.ref q1, .ref q2, .ref q6, .ref q10, .ref q17, .ref q24, .ref q31, .int 0, .int 0]))] ++ X12) H31 := hP
  replace hD : va_D A ([(q44, .inr (3, [.ref q45, .ref q46, .ref q47])), (q31, .inl (ca 4, 4, .inr (.inr (.inr (.inr (fun _ => none)))))), (q1, .inl (ca 3, 6, .inr (.inr (.inr (.inr (va_up (va_up (va_up (va_up (fun _ => none) ((0 : Int32)).toNatClampNeg (some q32)) ((1 : Int32)).toNatClampNeg (some q36)) ((2 : Int32)).toNatClampNeg (some q40)) ((3 : Int32)).toNatClampNeg (some q44))))))), (a, .inr (5, [.ref q1, .ref q2, .ref q6, .ref q10, .ref q17, .ref q24, .ref q31, .int 0, .int 0]))] ++ X12) := hD
  replace hP := zP_perm (zsw [] [(q44, .inr (3, [.ref q45, .ref q46, .ref q47]))] [(q31, .inl (ca 4, 4, .inr (.inr (.inr (.inr (fun _ => none)))))), (q1, .inl (ca 3, 6, .inr (.inr (.inr (.inr (va_up (va_up (va_up (va_up (fun _ => none) ((0 : Int32)).toNatClampNeg (some q32)) ((1 : Int32)).toNatClampNeg (some q36)) ((2 : Int32)).toNatClampNeg (some q40)) ((3 : Int32)).toNatClampNeg (some q44))))))), (a, .inr (5, [.ref q1, .ref q2, .ref q6, .ref q10, .ref q17, .ref q24, .ref q31, .int 0, .int 0]))] X12) hP
  replace hD := zD_perm (zsw [] [(q44, .inr (3, [.ref q45, .ref q46, .ref q47]))] [(q31, .inl (ca 4, 4, .inr (.inr (.inr (.inr (fun _ => none)))))), (q1, .inl (ca 3, 6, .inr (.inr (.inr (.inr (va_up (va_up (va_up (va_up (fun _ => none) ((0 : Int32)).toNatClampNeg (some q32)) ((1 : Int32)).toNatClampNeg (some q36)) ((2 : Int32)).toNatClampNeg (some q40)) ((3 : Int32)).toNatClampNeg (some q44))))))), (a, .inr (5, [.ref q1, .ref q2, .ref q6, .ref q10, .ref q17, .ref q24, .ref q31, .int 0, .int 0]))] X12) hD
  obtain ⟨X13, eX13⟩ : ∃ X : va_W, X = [(q44, .inr (3, [.ref q45, .ref q46, .ref q47]))] ++ X12 := ⟨_, rfl⟩
  rw [← eX13] at hP hD
  replace hP : va_P D zcl ([(q31, .inl (ca 4, 4, .inr (.inr (.inr (.inr (fun _ => none)))))), (q1, .inl (ca 3, 6, .inr (.inr (.inr (.inr (va_up (va_up (va_up (va_up (fun _ => none) ((0 : Int32)).toNatClampNeg (some q32)) ((1 : Int32)).toNatClampNeg (some q36)) ((2 : Int32)).toNatClampNeg (some q40)) ((3 : Int32)).toNatClampNeg (some q44))))))), (a, .inr (5, [.ref q1, .ref q2, .ref q6, .ref q10, .ref q17, .ref q24, .ref q31, .int 0, .int 0]))] ++ X13) H31 := hP
  replace hD : va_D A ([(q31, .inl (ca 4, 4, .inr (.inr (.inr (.inr (fun _ => none)))))), (q1, .inl (ca 3, 6, .inr (.inr (.inr (.inr (va_up (va_up (va_up (va_up (fun _ => none) ((0 : Int32)).toNatClampNeg (some q32)) ((1 : Int32)).toNatClampNeg (some q36)) ((2 : Int32)).toNatClampNeg (some q40)) ((3 : Int32)).toNatClampNeg (some q44))))))), (a, .inr (5, [.ref q1, .ref q2, .ref q6, .ref q10, .ref q17, .ref q24, .ref q31, .int 0, .int 0]))] ++ X13) := hD
  refine lv_iinc (v := (4 : Int32)) (lv' := [(1, .int (4 : Int32)), (0, .ref a)]) hx hb dX5_init_109 hl (k := 0) rfl (by decide) (by decide) rfl (fun _ _ => ?_)
  clear hl; try clear ls
  rename_i ls hl
  refine lv_goto (tgt := 90) hx hb dX5_init_112 (by decide) ?_
  refine lv_iload_n hx hb dX5_init_90 rfl (lv_at hl 0 rfl) ?_
  refine lv_bipush (v := (6 : Int32)) hx hb dX5_init_91 (by decide) ?_
  refine lv_icmp_ge (tgt := 115) hx hb dX5_init_93 (by decide) (fun c1 => absurd c1 (by decide)) (fun _ => ?_)
  refine lv_aload_n hx hb dX5_init_96 rfl (lv_at hl 1 rfl) ?_
  refine va_get (D := D) (ci := 5) (v := .ref q1) (C := RX5) (T := TX5) (N := 9) hx hb hts uw_X5 hown hK hP 2 rfl rfl 0 (by decide) (hts _ mw_255) (fun _ h9 => h9) rfl dX5_init_97 ?_
  refine lv_iload_n hx hb dX5_init_100 rfl (lv_at hl 0 rfl) ?_
  refine va_new (ci := 3) (fs := [.null, .null, .null]) (C := RX3) (T := TX3) (N := 3) hx hb hts uw_X3 tyX3 tyX3_ok hown (hts _ mw_713) (hts _ mw_714) (hts _ mw_71) hK hP hD hS hA rfl (fun j hj => by rcases (show j = 0 ∨ j = 1 ∨ j = 2 by omega) with rfl | rfl | rfl <;> rfl) (by rw [hRm]; exact Nat.le_of_ble_eq_true rfl) (by rw [hRm]; exact Nat.le_of_ble_eq_true rfl) dX5_init_101 (fun q48 H32 _ _ _ => ?_)
  clear hP hD hS
  rename_i hP hD hS
  try clear H31
  replace hP := zP_perm (zfr _ _) hP
  replace hD := zD_perm (zfr _ _) hD
  refine W.widen (k := 48) (n := 12813) (by omega) (by omega) ?_
  refine lv_dup hx hb dX5_init_104 rfl ?_
  have hPc : va_P D zcl [(q48, .inr (3, [.null, .null, .null]))] H32 := fun k q hk => by cases k with | zero => exact hP 0 q hk | succ k => simp at hk
  have hDc : va_D A [(q48, .inr (3, [.null, .null, .null]))] := zD_cons.mpr ⟨hD.2 0 _ rfl, fun q hq => absurd hq List.not_mem_nil, ⟨fun i j p q h => by simp at h, fun k q h => by simp at h⟩⟩
  have hFc : ∀ q, va_A [(q48, .inr (3, [.null, .null, .null]))] H32.size q → A q := fun q h => h.elim (fun ⟨k, e, h⟩ => by cases k with | zero => (simp at h; rw [← h.1]; exact hD.2 0 _ rfl) | succ k => simp at h) (fun h => hA q (Nat.le_trans hS.1 h))
  refine va_callv (va_runIN (As := []) (rest := [.ref q48, .int (4 : Int32), .ref q1]) ⟨hx, hb, hml, hown, hts⟩ (ci_X3_init l D ca sa q48 H32.size) ⟨va_cnB 0 hts (zT_good (zT_code mw_715)) rfl rfl rfl (hSt.1.2 _ (List.mem_of_getElem? (i := 2) rfl)) (hts _ mw_71) (by decide +kernel) (by rw [hRm]; exact ⟨Nat.le_of_ble_eq_true rfl, Nat.le_of_ble_eq_true rfl⟩), rfl, hts _ mw_716⟩ ⟨zIp_b _ _ _ _ _ _, zi_pre hK hSt hS (fun q h => hFc q h) hPc hDc⟩ rfl rfl hl.1 rfl (lv_room (Nat.le_of_ble_eq_true rfl)) dX5_init_105 (by rw [hRm]; exact ⟨Nat.le_of_ble_eq_true rfl, Nat.le_of_ble_eq_true rfl⟩)) hS (fun q _ h => hFc q h) hFc (fun u t H33 _ ht hvm hw hB hz1 hk1 _ => ?_)
  clear hS; try clear locs
  rename_i locs hS
  obtain ⟨q49, q50, q51⟩ := u
  obtain ⟨hP1, hD1⟩ := hB
  rw [ht] at hP1
  have hPD := zP_call (w1 := [(q48, .inr (3, [.ref q49, .ref q50, .ref q51])), (q49, .inl (ca 0, 160, .inl (fun _ => 0))), (q50, .inl (ca 0, 3, .inl (fun _ => 0))), (q51, .inl (ca 0, 160, .inl (fun _ => 0)))]) hP hD hk1 hFc hP1 hD1
  clear hP hD hPc hDc hFc hk1 hz1 hvm ht hP1 hD1
  obtain ⟨hP, hD⟩ := hPD
  try clear H32
  try clear hw
  try clear t
  replace hP := zP_perm (zsw [(q48, .inr (3, [.ref q49, .ref q50, .ref q51]))] [(q49, .inl (ca 0, 160, .inl (fun _ => 0))), (q50, .inl (ca 0, 3, .inl (fun _ => 0))), (q51, .inl (ca 0, 160, .inl (fun _ => 0)))] [(q31, .inl (ca 4, 4, .inr (.inr (.inr (.inr (fun _ => none)))))), (q1, .inl (ca 3, 6, .inr (.inr (.inr (.inr (va_up (va_up (va_up (va_up (fun _ => none) ((0 : Int32)).toNatClampNeg (some q32)) ((1 : Int32)).toNatClampNeg (some q36)) ((2 : Int32)).toNatClampNeg (some q40)) ((3 : Int32)).toNatClampNeg (some q44))))))), (a, .inr (5, [.ref q1, .ref q2, .ref q6, .ref q10, .ref q17, .ref q24, .ref q31, .int 0, .int 0]))] X13) hP
  replace hD := zD_perm (zsw [(q48, .inr (3, [.ref q49, .ref q50, .ref q51]))] [(q49, .inl (ca 0, 160, .inl (fun _ => 0))), (q50, .inl (ca 0, 3, .inl (fun _ => 0))), (q51, .inl (ca 0, 160, .inl (fun _ => 0)))] [(q31, .inl (ca 4, 4, .inr (.inr (.inr (.inr (fun _ => none)))))), (q1, .inl (ca 3, 6, .inr (.inr (.inr (.inr (va_up (va_up (va_up (va_up (fun _ => none) ((0 : Int32)).toNatClampNeg (some q32)) ((1 : Int32)).toNatClampNeg (some q36)) ((2 : Int32)).toNatClampNeg (some q40)) ((3 : Int32)).toNatClampNeg (some q44))))))), (a, .inr (5, [.ref q1, .ref q2, .ref q6, .ref q10, .ref q17, .ref q24, .ref q31, .int 0, .int 0]))] X13) hD
  obtain ⟨X14, eX14⟩ : ∃ X : va_W, X = [(q49, .inl (ca 0, 160, .inl (fun _ => 0))), (q50, .inl (ca 0, 3, .inl (fun _ => 0))), (q51, .inl (ca 0, 160, .inl (fun _ => 0)))] ++ X13 := ⟨_, rfl⟩
  rw [← eX14] at hP hD
  replace hP : va_P D zcl ([(q48, .inr (3, [.ref q49, .ref q50, .ref q51])), (q31, .inl (ca 4, 4, .inr (.inr (.inr (.inr (fun _ => none)))))), (q1, .inl (ca 3, 6, .inr (.inr (.inr (.inr (va_up (va_up (va_up (va_up (fun _ => none) ((0 : Int32)).toNatClampNeg (some q32)) ((1 : Int32)).toNatClampNeg (some q36)) ((2 : Int32)).toNatClampNeg (some q40)) ((3 : Int32)).toNatClampNeg (some q44))))))), (a, .inr (5, [.ref q1, .ref q2, .ref q6, .ref q10, .ref q17, .ref q24, .ref q31, .int 0, .int 0]))] ++ X14) H33 := hP
  replace hD : va_D A ([(q48, .inr (3, [.ref q49, .ref q50, .ref q51])), (q31, .inl (ca 4, 4, .inr (.inr (.inr (.inr (fun _ => none)))))), (q1, .inl (ca 3, 6, .inr (.inr (.inr (.inr (va_up (va_up (va_up (va_up (fun _ => none) ((0 : Int32)).toNatClampNeg (some q32)) ((1 : Int32)).toNatClampNeg (some q36)) ((2 : Int32)).toNatClampNeg (some q40)) ((3 : Int32)).toNatClampNeg (some q44))))))), (a, .inr (5, [.ref q1, .ref q2, .ref q6, .ref q10, .ref q17, .ref q24, .ref q31, .int 0, .int 0]))] ++ X14) := hD
  refine W.widen (k := 51) (n := 13136) (by omega) (by omega) ?_
  refine va_astq (D := D) (tys := ztys2 ca) (i := (4 : Int32)) (r := (RX3, TX3, 3)) hx hb hK hP hD hS 2 3 0 3 rfl rfl rfl rfl (zin_i (by decide)) dX5_init_108 (fun H34 _ _ _ _ => ?_)
  clear hP hD hS; try clear locs
  rename_i locs hP hD hS
  try clear H33
  replace hP : va_P D zcl ([(q48, .inr (3, [.ref q49, .ref q50, .ref q51])), (q31, .inl (ca 4, 4, .inr (.inr (.inr (.inr (fun _ => none)))))), (q1, .inl (ca 3, 6, .inr (.inr (.inr (.inr (va_up (va_up (va_up (va_up (va_up (fun _ => none) ((0 : Int32)).toNatClampNeg (some q32)) ((1 : Int32)).toNatClampNeg (some q36)) ((2 : Int32)).toNatClampNeg (some q40)) ((3 : Int32)).toNatClampNeg (some q44)) ((4 : Int32)).toNatClampNeg (some q48))))))), (a, .inr (5, [.ref q1, .ref q2, .ref q6, .ref q10, .ref q17, .ref q24, .ref q31, .int 0, .int 0]))] ++ X14) H34 := hP
  replace hD : va_D A ([(q48, .inr (3, [.ref q49, .ref q50, .ref q51])), (q31, .inl (ca 4, 4, .inr (.inr (.inr (.inr (fun _ => none)))))), (q1, .inl (ca 3, 6, .inr (.inr (.inr (.inr (va_up (va_up (va_up (va_up (va_up (fun _ => none) ((0 : Int32)).toNatClampNeg (some q32)) ((1 : Int32)).toNatClampNeg (some q36)) ((2 : Int32)).toNatClampNeg (some q40)) ((3 : Int32)).toNatClampNeg (some q44)) ((4 : Int32)).toNatClampNeg (some q48))))))), (a, .inr (5, [.ref q1, .ref q2, .ref q6, .ref q10, .ref q17, .ref q24, .ref q31, .int 0, .int 0]))] ++ X14) := hD
  replace hP := zP_perm (zsw [] [(q48, .inr (3, [.ref q49, .ref q50, .ref q51]))] [(q31, .inl (ca 4, 4, .inr (.inr (.inr (.inr (fun _ => none)))))), (q1, .inl (ca 3, 6, .inr (.inr (.inr (.inr (va_up (va_up (va_up (va_up (va_up (fun _ => none) ((0 : Int32)).toNatClampNeg (some q32)) ((1 : Int32)).toNatClampNeg (some q36)) ((2 : Int32)).toNatClampNeg (some q40)) ((3 : Int32)).toNatClampNeg (some q44)) ((4 : Int32)).toNatClampNeg (some q48))))))), (a, .inr (5, [.ref q1, .ref q2, .ref q6, .ref q10, .ref q17, .ref q24, .ref q31, .int 0, .int 0]))] X14) hP
  replace hD := zD_perm (zsw [] [(q48, .inr (3, [.ref q49, .ref q50, .ref q51]))] [(q31, .inl (ca 4, 4, .inr (.inr (.inr (.inr (fun _ => none)))))), (q1, .inl (ca 3, 6, .inr (.inr (.inr (.inr (va_up (va_up (va_up (va_up (va_up (fun _ => none) ((0 : Int32)).toNatClampNeg (some q32)) ((1 : Int32)).toNatClampNeg (some q36)) ((2 : Int32)).toNatClampNeg (some q40)) ((3 : Int32)).toNatClampNeg (some q44)) ((4 : Int32)).toNatClampNeg (some q48))))))), (a, .inr (5, [.ref q1, .ref q2, .ref q6, .ref q10, .ref q17, .ref q24, .ref q31, .int 0, .int 0]))] X14) hD
  obtain ⟨X15, eX15⟩ : ∃ X : va_W, X = [(q48, .inr (3, [.ref q49, .ref q50, .ref q51]))] ++ X14 := ⟨_, rfl⟩
  rw [← eX15] at hP hD
  replace hP : va_P D zcl ([(q31, .inl (ca 4, 4, .inr (.inr (.inr (.inr (fun _ => none)))))), (q1, .inl (ca 3, 6, .inr (.inr (.inr (.inr (va_up (va_up (va_up (va_up (va_up (fun _ => none) ((0 : Int32)).toNatClampNeg (some q32)) ((1 : Int32)).toNatClampNeg (some q36)) ((2 : Int32)).toNatClampNeg (some q40)) ((3 : Int32)).toNatClampNeg (some q44)) ((4 : Int32)).toNatClampNeg (some q48))))))), (a, .inr (5, [.ref q1, .ref q2, .ref q6, .ref q10, .ref q17, .ref q24, .ref q31, .int 0, .int 0]))] ++ X15) H34 := hP
  replace hD : va_D A ([(q31, .inl (ca 4, 4, .inr (.inr (.inr (.inr (fun _ => none)))))), (q1, .inl (ca 3, 6, .inr (.inr (.inr (.inr (va_up (va_up (va_up (va_up (va_up (fun _ => none) ((0 : Int32)).toNatClampNeg (some q32)) ((1 : Int32)).toNatClampNeg (some q36)) ((2 : Int32)).toNatClampNeg (some q40)) ((3 : Int32)).toNatClampNeg (some q44)) ((4 : Int32)).toNatClampNeg (some q48))))))), (a, .inr (5, [.ref q1, .ref q2, .ref q6, .ref q10, .ref q17, .ref q24, .ref q31, .int 0, .int 0]))] ++ X15) := hD
  refine lv_iinc (v := (5 : Int32)) (lv' := [(1, .int (5 : Int32)), (0, .ref a)]) hx hb dX5_init_109 hl (k := 0) rfl (by decide) (by decide) rfl (fun _ _ => ?_)
  clear hl; try clear ls
  rename_i ls hl
  refine lv_goto (tgt := 90) hx hb dX5_init_112 (by decide) ?_
  refine lv_iload_n hx hb dX5_init_90 rfl (lv_at hl 0 rfl) ?_
  refine lv_bipush (v := (6 : Int32)) hx hb dX5_init_91 (by decide) ?_
  refine lv_icmp_ge (tgt := 115) hx hb dX5_init_93 (by decide) (fun c1 => absurd c1 (by decide)) (fun _ => ?_)
  refine lv_aload_n hx hb dX5_init_96 rfl (lv_at hl 1 rfl) ?_
  refine va_get (D := D) (ci := 5) (v := .ref q1) (C := RX5) (T := TX5) (N := 9) hx hb hts uw_X5 hown hK hP 2 rfl rfl 0 (by decide) (hts _ mw_255) (fun _ h9 => h9) rfl dX5_init_97 ?_
  refine lv_iload_n hx hb dX5_init_100 rfl (lv_at hl 0 rfl) ?_
  refine va_new (ci := 3) (fs := [.null, .null, .null]) (C := RX3) (T := TX3) (N := 3) hx hb hts uw_X3 tyX3 tyX3_ok hown (hts _ mw_713) (hts _ mw_714) (hts _ mw_71) hK hP hD hS hA rfl (fun j hj => by rcases (show j = 0 ∨ j = 1 ∨ j = 2 by omega) with rfl | rfl | rfl <;> rfl) (by rw [hRm]; exact Nat.le_of_ble_eq_true rfl) (by rw [hRm]; exact Nat.le_of_ble_eq_true rfl) dX5_init_101 (fun q52 H35 _ _ _ => ?_)
  clear hP hD hS
  rename_i hP hD hS
  try clear H34
  replace hP := zP_perm (zfr _ _) hP
  replace hD := zD_perm (zfr _ _) hD
  refine W.widen (k := 52) (n := 13139) (by omega) (by omega) ?_
  refine lv_dup hx hb dX5_init_104 rfl ?_
  have hPc : va_P D zcl [(q52, .inr (3, [.null, .null, .null]))] H35 := fun k q hk => by cases k with | zero => exact hP 0 q hk | succ k => simp at hk
  have hDc : va_D A [(q52, .inr (3, [.null, .null, .null]))] := zD_cons.mpr ⟨hD.2 0 _ rfl, fun q hq => absurd hq List.not_mem_nil, ⟨fun i j p q h => by simp at h, fun k q h => by simp at h⟩⟩
  have hFc : ∀ q, va_A [(q52, .inr (3, [.null, .null, .null]))] H35.size q → A q := fun q h => h.elim (fun ⟨k, e, h⟩ => by cases k with | zero => (simp at h; rw [← h.1]; exact hD.2 0 _ rfl) | succ k => simp at h) (fun h => hA q (Nat.le_trans hS.1 h))
  refine va_callv (va_runIN (As := []) (rest := [.ref q52, .int (5 : Int32), .ref q1]) ⟨hx, hb, hml, hown, hts⟩ (ci_X3_init l D ca sa q52 H35.size) ⟨va_cnB 0 hts (zT_good (zT_code mw_715)) rfl rfl rfl (hSt.1.2 _ (List.mem_of_getElem? (i := 2) rfl)) (hts _ mw_71) (by decide +kernel) (by rw [hRm]; exact ⟨Nat.le_of_ble_eq_true rfl, Nat.le_of_ble_eq_true rfl⟩), rfl, hts _ mw_716⟩ ⟨zIp_b _ _ _ _ _ _, zi_pre hK hSt hS (fun q h => hFc q h) hPc hDc⟩ rfl rfl hl.1 rfl (lv_room (Nat.le_of_ble_eq_true rfl)) dX5_init_105 (by rw [hRm]; exact ⟨Nat.le_of_ble_eq_true rfl, Nat.le_of_ble_eq_true rfl⟩)) hS (fun q _ h => hFc q h) hFc (fun u t H36 _ ht hvm hw hB hz1 hk1 _ => ?_)
  clear hS; try clear locs
  rename_i locs hS
  obtain ⟨q53, q54, q55⟩ := u
  obtain ⟨hP1, hD1⟩ := hB
  rw [ht] at hP1
  have hPD := zP_call (w1 := [(q52, .inr (3, [.ref q53, .ref q54, .ref q55])), (q53, .inl (ca 0, 160, .inl (fun _ => 0))), (q54, .inl (ca 0, 3, .inl (fun _ => 0))), (q55, .inl (ca 0, 160, .inl (fun _ => 0)))]) hP hD hk1 hFc hP1 hD1
  clear hP hD hPc hDc hFc hk1 hz1 hvm ht hP1 hD1
  obtain ⟨hP, hD⟩ := hPD
  try clear H35
  try clear hw
  try clear t
  replace hP := zP_perm (zsw [(q52, .inr (3, [.ref q53, .ref q54, .ref q55]))] [(q53, .inl (ca 0, 160, .inl (fun _ => 0))), (q54, .inl (ca 0, 3, .inl (fun _ => 0))), (q55, .inl (ca 0, 160, .inl (fun _ => 0)))] [(q31, .inl (ca 4, 4, .inr (.inr (.inr (.inr (fun _ => none)))))), (q1, .inl (ca 3, 6, .inr (.inr (.inr (.inr (va_up (va_up (va_up (va_up (va_up (fun _ => none) ((0 : Int32)).toNatClampNeg (some q32)) ((1 : Int32)).toNatClampNeg (some q36)) ((2 : Int32)).toNatClampNeg (some q40)) ((3 : Int32)).toNatClampNeg (some q44)) ((4 : Int32)).toNatClampNeg (some q48))))))), (a, .inr (5, [.ref q1, .ref q2, .ref q6, .ref q10, .ref q17, .ref q24, .ref q31, .int 0, .int 0]))] X15) hP
  replace hD := zD_perm (zsw [(q52, .inr (3, [.ref q53, .ref q54, .ref q55]))] [(q53, .inl (ca 0, 160, .inl (fun _ => 0))), (q54, .inl (ca 0, 3, .inl (fun _ => 0))), (q55, .inl (ca 0, 160, .inl (fun _ => 0)))] [(q31, .inl (ca 4, 4, .inr (.inr (.inr (.inr (fun _ => none)))))), (q1, .inl (ca 3, 6, .inr (.inr (.inr (.inr (va_up (va_up (va_up (va_up (va_up (fun _ => none) ((0 : Int32)).toNatClampNeg (some q32)) ((1 : Int32)).toNatClampNeg (some q36)) ((2 : Int32)).toNatClampNeg (some q40)) ((3 : Int32)).toNatClampNeg (some q44)) ((4 : Int32)).toNatClampNeg (some q48))))))), (a, .inr (5, [.ref q1, .ref q2, .ref q6, .ref q10, .ref q17, .ref q24, .ref q31, .int 0, .int 0]))] X15) hD
  obtain ⟨X16, eX16⟩ : ∃ X : va_W, X = [(q53, .inl (ca 0, 160, .inl (fun _ => 0))), (q54, .inl (ca 0, 3, .inl (fun _ => 0))), (q55, .inl (ca 0, 160, .inl (fun _ => 0)))] ++ X15 := ⟨_, rfl⟩
  rw [← eX16] at hP hD
  replace hP : va_P D zcl ([(q52, .inr (3, [.ref q53, .ref q54, .ref q55])), (q31, .inl (ca 4, 4, .inr (.inr (.inr (.inr (fun _ => none)))))), (q1, .inl (ca 3, 6, .inr (.inr (.inr (.inr (va_up (va_up (va_up (va_up (va_up (fun _ => none) ((0 : Int32)).toNatClampNeg (some q32)) ((1 : Int32)).toNatClampNeg (some q36)) ((2 : Int32)).toNatClampNeg (some q40)) ((3 : Int32)).toNatClampNeg (some q44)) ((4 : Int32)).toNatClampNeg (some q48))))))), (a, .inr (5, [.ref q1, .ref q2, .ref q6, .ref q10, .ref q17, .ref q24, .ref q31, .int 0, .int 0]))] ++ X16) H36 := hP
  replace hD : va_D A ([(q52, .inr (3, [.ref q53, .ref q54, .ref q55])), (q31, .inl (ca 4, 4, .inr (.inr (.inr (.inr (fun _ => none)))))), (q1, .inl (ca 3, 6, .inr (.inr (.inr (.inr (va_up (va_up (va_up (va_up (va_up (fun _ => none) ((0 : Int32)).toNatClampNeg (some q32)) ((1 : Int32)).toNatClampNeg (some q36)) ((2 : Int32)).toNatClampNeg (some q40)) ((3 : Int32)).toNatClampNeg (some q44)) ((4 : Int32)).toNatClampNeg (some q48))))))), (a, .inr (5, [.ref q1, .ref q2, .ref q6, .ref q10, .ref q17, .ref q24, .ref q31, .int 0, .int 0]))] ++ X16) := hD
  refine W.widen (k := 55) (n := 13462) (by omega) (by omega) ?_
  refine va_astq (D := D) (tys := ztys2 ca) (i := (5 : Int32)) (r := (RX3, TX3, 3)) hx hb hK hP hD hS 2 3 0 3 rfl rfl rfl rfl (zin_i (by decide)) dX5_init_108 (fun H37 _ _ _ _ => ?_)
  clear hP hD hS; try clear locs
  rename_i locs hP hD hS
  try clear H36
  replace hP : va_P D zcl ([(q52, .inr (3, [.ref q53, .ref q54, .ref q55])), (q31, .inl (ca 4, 4, .inr (.inr (.inr (.inr (fun _ => none)))))), (q1, .inl (ca 3, 6, .inr (.inr (.inr (.inr (va_up (va_up (va_up (va_up (va_up (va_up (fun _ => none) ((0 : Int32)).toNatClampNeg (some q32)) ((1 : Int32)).toNatClampNeg (some q36)) ((2 : Int32)).toNatClampNeg (some q40)) ((3 : Int32)).toNatClampNeg (some q44)) ((4 : Int32)).toNatClampNeg (some q48)) ((5 : Int32)).toNatClampNeg (some q52))))))), (a, .inr (5, [.ref q1, .ref q2, .ref q6, .ref q10, .ref q17, .ref q24, .ref q31, .int 0, .int 0]))] ++ X16) H37 := hP
  replace hD : va_D A ([(q52, .inr (3, [.ref q53, .ref q54, .ref q55])), (q31, .inl (ca 4, 4, .inr (.inr (.inr (.inr (fun _ => none)))))), (q1, .inl (ca 3, 6, .inr (.inr (.inr (.inr (va_up (va_up (va_up (va_up (va_up (va_up (fun _ => none) ((0 : Int32)).toNatClampNeg (some q32)) ((1 : Int32)).toNatClampNeg (some q36)) ((2 : Int32)).toNatClampNeg (some q40)) ((3 : Int32)).toNatClampNeg (some q44)) ((4 : Int32)).toNatClampNeg (some q48)) ((5 : Int32)).toNatClampNeg (some q52))))))), (a, .inr (5, [.ref q1, .ref q2, .ref q6, .ref q10, .ref q17, .ref q24, .ref q31, .int 0, .int 0]))] ++ X16) := hD
  replace hP := zP_perm (zsw [] [(q52, .inr (3, [.ref q53, .ref q54, .ref q55]))] [(q31, .inl (ca 4, 4, .inr (.inr (.inr (.inr (fun _ => none)))))), (q1, .inl (ca 3, 6, .inr (.inr (.inr (.inr (va_up (va_up (va_up (va_up (va_up (va_up (fun _ => none) ((0 : Int32)).toNatClampNeg (some q32)) ((1 : Int32)).toNatClampNeg (some q36)) ((2 : Int32)).toNatClampNeg (some q40)) ((3 : Int32)).toNatClampNeg (some q44)) ((4 : Int32)).toNatClampNeg (some q48)) ((5 : Int32)).toNatClampNeg (some q52))))))), (a, .inr (5, [.ref q1, .ref q2, .ref q6, .ref q10, .ref q17, .ref q24, .ref q31, .int 0, .int 0]))] X16) hP
  replace hD := zD_perm (zsw [] [(q52, .inr (3, [.ref q53, .ref q54, .ref q55]))] [(q31, .inl (ca 4, 4, .inr (.inr (.inr (.inr (fun _ => none)))))), (q1, .inl (ca 3, 6, .inr (.inr (.inr (.inr (va_up (va_up (va_up (va_up (va_up (va_up (fun _ => none) ((0 : Int32)).toNatClampNeg (some q32)) ((1 : Int32)).toNatClampNeg (some q36)) ((2 : Int32)).toNatClampNeg (some q40)) ((3 : Int32)).toNatClampNeg (some q44)) ((4 : Int32)).toNatClampNeg (some q48)) ((5 : Int32)).toNatClampNeg (some q52))))))), (a, .inr (5, [.ref q1, .ref q2, .ref q6, .ref q10, .ref q17, .ref q24, .ref q31, .int 0, .int 0]))] X16) hD
  obtain ⟨X17, eX17⟩ : ∃ X : va_W, X = [(q52, .inr (3, [.ref q53, .ref q54, .ref q55]))] ++ X16 := ⟨_, rfl⟩
  rw [← eX17] at hP hD
  replace hP : va_P D zcl ([(q31, .inl (ca 4, 4, .inr (.inr (.inr (.inr (fun _ => none)))))), (q1, .inl (ca 3, 6, .inr (.inr (.inr (.inr (va_up (va_up (va_up (va_up (va_up (va_up (fun _ => none) ((0 : Int32)).toNatClampNeg (some q32)) ((1 : Int32)).toNatClampNeg (some q36)) ((2 : Int32)).toNatClampNeg (some q40)) ((3 : Int32)).toNatClampNeg (some q44)) ((4 : Int32)).toNatClampNeg (some q48)) ((5 : Int32)).toNatClampNeg (some q52))))))), (a, .inr (5, [.ref q1, .ref q2, .ref q6, .ref q10, .ref q17, .ref q24, .ref q31, .int 0, .int 0]))] ++ X17) H37 := hP
  replace hD : va_D A ([(q31, .inl (ca 4, 4, .inr (.inr (.inr (.inr (fun _ => none)))))), (q1, .inl (ca 3, 6, .inr (.inr (.inr (.inr (va_up (va_up (va_up (va_up (va_up (va_up (fun _ => none) ((0 : Int32)).toNatClampNeg (some q32)) ((1 : Int32)).toNatClampNeg (some q36)) ((2 : Int32)).toNatClampNeg (some q40)) ((3 : Int32)).toNatClampNeg (some q44)) ((4 : Int32)).toNatClampNeg (some q48)) ((5 : Int32)).toNatClampNeg (some q52))))))), (a, .inr (5, [.ref q1, .ref q2, .ref q6, .ref q10, .ref q17, .ref q24, .ref q31, .int 0, .int 0]))] ++ X17) := hD
  refine lv_iinc (v := (6 : Int32)) (lv' := [(1, .int (6 : Int32)), (0, .ref a)]) hx hb dX5_init_109 hl (k := 0) rfl (by decide) (by decide) rfl (fun _ _ => ?_)
  clear hl; try clear ls
  rename_i ls hl
  refine lv_goto (tgt := 90) hx hb dX5_init_112 (by decide) ?_
  refine lv_iload_n hx hb dX5_init_90 rfl (lv_at hl 0 rfl) ?_
  refine lv_bipush (v := (6 : Int32)) hx hb dX5_init_91 (by decide) ?_
  refine lv_icmp_ge (tgt := 115) hx hb dX5_init_93 (by decide) (fun _ => ?_) (fun c1 => absurd (by decide) c1)
  refine lv_iconst (v := (0 : Int32)) hx hb dX5_init_115 (by decide) ?_
  refine lv_istore_n (lv' := [(1, .int (0 : Int32)), (0, .ref a)]) hx hb dX5_init_116 rfl hl (by decide) rfl (fun _ _ => ?_)
  clear hl; try clear ls
  rename_i ls hl
  refine lv_iload_n hx hb dX5_init_117 rfl (lv_at hl 0 rfl) ?_
  refine lv_iconst (v := (4 : Int32)) hx hb dX5_init_118 (by decide) ?_
  refine lv_icmp_ge (tgt := 141) hx hb dX5_init_119 (by decide) (fun c1 => absurd c1 (by decide)) (fun _ => ?_)
  refine lv_aload_n hx hb dX5_init_122 rfl (lv_at hl 1 rfl) ?_
  refine va_get (D := D) (ci := 5) (v := .ref q31) (C := RX5) (T := TX5) (N := 9) hx hb hts uw_X5 hown hK hP 2 rfl rfl 6 (by decide) (hts _ mw_348) (fun _ h9 => h9) rfl dX5_init_123 ?_
  refine lv_iload_n hx hb dX5_init_126 rfl (lv_at hl 0 rfl) ?_
  refine va_new (ci := 0) (fs := [.null, .int 0, .int 0]) (C := RX0) (T := TX0) (N := 3) hx hb hts uw_X0 tyX0 tyX0_ok hown (hts _ mw_717) (hts _ mw_718) (hts _ mw_344) hK hP hD hS hA rfl (fun j hj => by rcases (show j = 0 ∨ j = 1 ∨ j = 2 by omega) with rfl | rfl | rfl <;> rfl) (by rw [hRm]; exact Nat.le_of_ble_eq_true rfl) (by rw [hRm]; exact Nat.le_of_ble_eq_true rfl) dX5_init_127 (fun q56 H38 _ _ _ => ?_)
  clear hP hD hS
  rename_i hP hD hS
  try clear H37
  replace hP := zP_perm (zfr _ _) hP
  replace hD := zD_perm (zfr _ _) hD
  refine W.widen (k := 56) (n := 13465) (by omega) (by omega) ?_
  refine lv_dup hx hb dX5_init_130 rfl ?_
  have hPc : va_P D zcl [(q56, .inr (0, [.null, .int 0, .int 0]))] H38 := fun k q hk => by cases k with | zero => exact hP 0 q hk | succ k => simp at hk
  have hDc : va_D A [(q56, .inr (0, [.null, .int 0, .int 0]))] := zD_cons.mpr ⟨hD.2 0 _ rfl, fun q hq => absurd hq List.not_mem_nil, ⟨fun i j p q h => by simp at h, fun k q h => by simp at h⟩⟩
  have hFc : ∀ q, va_A [(q56, .inr (0, [.null, .int 0, .int 0]))] H38.size q → A q := fun q h => h.elim (fun ⟨k, e, h⟩ => by cases k with | zero => (simp at h; rw [← h.1]; exact hD.2 0 _ rfl) | succ k => simp at h) (fun h => hA q (Nat.le_trans hS.1 h))
  refine va_callv (va_runIN (As := []) (rest := [.ref q56, .int (0 : Int32), .ref q31]) ⟨hx, hb, hml, hown, hts⟩ (ci_X0_init l D ca sa q56 H38.size) ⟨va_cnB 0 hts (zT_good (zT_code mw_719)) rfl rfl rfl (hSt.1.2 _ (List.mem_of_getElem? (i := 3) rfl)) (hts _ mw_344) (by decide +kernel) (by rw [hRm]; exact ⟨Nat.le_of_ble_eq_true rfl, Nat.le_of_ble_eq_true rfl⟩), rfl, hts _ mw_720⟩ ⟨zIp_b _ _ _ _ _ _, zi_pre hK hSt hS (fun q h => hFc q h) hPc hDc⟩ rfl rfl hl.1 rfl (lv_room (Nat.le_of_ble_eq_true rfl)) dX5_init_131 (by rw [hRm]; exact ⟨Nat.le_of_ble_eq_true rfl, Nat.le_of_ble_eq_true rfl⟩)) hS (fun q _ h => hFc q h) hFc (fun u t H39 _ ht hvm hw hB hz1 hk1 _ => ?_)
  clear hS; try clear locs
  rename_i locs hS
  obtain ⟨q57, eqq⟩ : ∃ z, z = u := ⟨_, rfl⟩; subst eqq
  obtain ⟨hP1, hD1⟩ := hB
  rw [ht] at hP1
  have hPD := zP_call (w1 := [(q56, .inr (0, [.ref q57, .int (-1 : Int32), .int 0])), (q57, .inl (ca 0, 40, .inl (fun _ => 0)))]) hP hD hk1 hFc hP1 hD1
  clear hP hD hPc hDc hFc hk1 hz1 hvm ht hP1 hD1
  obtain ⟨hP, hD⟩ := hPD
  try clear H38
  try clear hw
  try clear t
  replace hP := zP_perm (zsw [(q56, .inr (0, [.ref q57, .int (-1 : Int32), .int 0]))] [(q57, .inl (ca 0, 40, .inl (fun _ => 0)))] [(q31, .inl (ca 4, 4, .inr (.inr (.inr (.inr (fun _ => none)))))), (q1, .inl (ca 3, 6, .inr (.inr (.inr (.inr (va_up (va_up (va_up (va_up (va_up (va_up (fun _ => none) ((0 : Int32)).toNatClampNeg (some q32)) ((1 : Int32)).toNatClampNeg (some q36)) ((2 : Int32)).toNatClampNeg (some q40)) ((3 : Int32)).toNatClampNeg (some q44)) ((4 : Int32)).toNatClampNeg (some q48)) ((5 : Int32)).toNatClampNeg (some q52))))))), (a, .inr (5, [.ref q1, .ref q2, .ref q6, .ref q10, .ref q17, .ref q24, .ref q31, .int 0, .int 0]))] X17) hP
  replace hD := zD_perm (zsw [(q56, .inr (0, [.ref q57, .int (-1 : Int32), .int 0]))] [(q57, .inl (ca 0, 40, .inl (fun _ => 0)))] [(q31, .inl (ca 4, 4, .inr (.inr (.inr (.inr (fun _ => none)))))), (q1, .inl (ca 3, 6, .inr (.inr (.inr (.inr (va_up (va_up (va_up (va_up (va_up (va_up (fun _ => none) ((0 : Int32)).toNatClampNeg (some q32)) ((1 : Int32)).toNatClampNeg (some q36)) ((2 : Int32)).toNatClampNeg (some q40)) ((3 : Int32)).toNatClampNeg (some q44)) ((4 : Int32)).toNatClampNeg (some q48)) ((5 : Int32)).toNatClampNeg (some q52))))))), (a, .inr (5, [.ref q1, .ref q2, .ref q6, .ref q10, .ref q17, .ref q24, .ref q31, .int 0, .int 0]))] X17) hD
  obtain ⟨X18, eX18⟩ : ∃ X : va_W, X = [(q57, .inl (ca 0, 40, .inl (fun _ => 0)))] ++ X17 := ⟨_, rfl⟩
  rw [← eX18] at hP hD
  replace hP : va_P D zcl ([(q56, .inr (0, [.ref q57, .int (-1 : Int32), .int 0])), (q31, .inl (ca 4, 4, .inr (.inr (.inr (.inr (fun _ => none)))))), (q1, .inl (ca 3, 6, .inr (.inr (.inr (.inr (va_up (va_up (va_up (va_up (va_up (va_up (fun _ => none) ((0 : Int32)).toNatClampNeg (some q32)) ((1 : Int32)).toNatClampNeg (some q36)) ((2 : Int32)).toNatClampNeg (some q40)) ((3 : Int32)).toNatClampNeg (some q44)) ((4 : Int32)).toNatClampNeg (some q48)) ((5 : Int32)).toNatClampNeg (some q52))))))), (a, .inr (5, [.ref q1, .ref q2, .ref q6, .ref q10, .ref q17, .ref q24, .ref q31, .int 0, .int 0]))] ++ X18) H39 := hP
  replace hD : va_D A ([(q56, .inr (0, [.ref q57, .int (-1 : Int32), .int 0])), (q31, .inl (ca 4, 4, .inr (.inr (.inr (.inr (fun _ => none)))))), (q1, .inl (ca 3, 6, .inr (.inr (.inr (.inr (va_up (va_up (va_up (va_up (va_up (va_up (fun _ => none) ((0 : Int32)).toNatClampNeg (some q32)) ((1 : Int32)).toNatClampNeg (some q36)) ((2 : Int32)).toNatClampNeg (some q40)) ((3 : Int32)).toNatClampNeg (some q44)) ((4 : Int32)).toNatClampNeg (some q48)) ((5 : Int32)).toNatClampNeg (some q52))))))), (a, .inr (5, [.ref q1, .ref q2, .ref q6, .ref q10, .ref q17, .ref q24, .ref q31, .int 0, .int 0]))] ++ X18) := hD
  refine W.widen (k := 57) (n := 13505) (by omega) (by omega) ?_
  refine va_astq (D := D) (tys := ztys2 ca) (i := (0 : Int32)) (r := (RX0, TX0, 3)) hx hb hK hP hD hS 1 4 0 0 rfl rfl rfl rfl (zin_i (by decide)) dX5_init_134 (fun H40 _ _ _ _ => ?_)
  clear hP hD hS; try clear locs
  rename_i locs hP hD hS
  try clear H39
  replace hP : va_P D zcl ([(q56, .inr (0, [.ref q57, .int (-1 : Int32), .int 0])), (q31, .inl (ca 4, 4, .inr (.inr (.inr (.inr (va_up (fun _ => none) ((0 : Int32)).toNatClampNeg (some q56))))))), (q1, .inl (ca 3, 6, .inr (.inr (.inr (.inr (va_up (va_up (va_up (va_up (va_up (va_up (fun _ => none) ((0 : Int32)).toNatClampNeg (some q32)) ((1 : Int32)).toNatClampNeg (some q36)) ((2 : Int32)).toNatClampNeg (some q40)) ((3 : Int32)).toNatClampNeg (some q44)) ((4 : Int32)).toNatClampNeg (some q48)) ((5 : Int32)).toNatClampNeg (some q52))))))), (a, .inr (5, [.ref q1, .ref q2, .ref q6, .ref q10, .ref q17, .ref q24, .ref q31, .int 0, .int 0]))] ++ X18) H40 := hP
  replace hD : va_D A ([(q56, .inr (0, [.ref q57, .int (-1 : Int32), .int 0])), (q31, .inl (ca 4, 4, .inr (.inr (.inr (.inr (va_up (fun _ => none) ((0 : Int32)).toNatClampNeg (some q56))))))), (q1, .inl (ca 3, 6, .inr (.inr (.inr (.inr (va_up (va_up (va_up (va_up (va_up (va_up (fun _ => none) ((0 : Int32)).toNatClampNeg (some q32)) ((1 : Int32)).toNatClampNeg (some q36)) ((2 : Int32)).toNatClampNeg (some q40)) ((3 : Int32)).toNatClampNeg (some q44)) ((4 : Int32)).toNatClampNeg (some q48)) ((5 : Int32)).toNatClampNeg (some q52))))))), (a, .inr (5, [.ref q1, .ref q2, .ref q6, .ref q10, .ref q17, .ref q24, .ref q31, .int 0, .int 0]))] ++ X18) := hD
  replace hP := zP_perm (zsw [] [(q56, .inr (0, [.ref q57, .int (-1 : Int32), .int 0]))] [(q31, .inl (ca 4, 4, .inr (.inr (.inr (.inr (va_up (fun _ => none) ((0 : Int32)).toNatClampNeg (some q56))))))), (q1, .inl (ca 3, 6, .inr (.inr (.inr (.inr (va_up (va_up (va_up (va_up (va_up (va_up (fun _ => none) ((0 : Int32)).toNatClampNeg (some q32)) ((1 : Int32)).toNatClampNeg (some q36)) ((2 : Int32)).toNatClampNeg (some q40)) ((3 : Int32)).toNatClampNeg (some q44)) ((4 : Int32)).toNatClampNeg (some q48)) ((5 : Int32)).toNatClampNeg (some q52))))))), (a, .inr (5, [.ref q1, .ref q2, .ref q6, .ref q10, .ref q17, .ref q24, .ref q31, .int 0, .int 0]))] X18) hP
  replace hD := zD_perm (zsw [] [(q56, .inr (0, [.ref q57, .int (-1 : Int32), .int 0]))] [(q31, .inl (ca 4, 4, .inr (.inr (.inr (.inr (va_up (fun _ => none) ((0 : Int32)).toNatClampNeg (some q56))))))), (q1, .inl (ca 3, 6, .inr (.inr (.inr (.inr (va_up (va_up (va_up (va_up (va_up (va_up (fun _ => none) ((0 : Int32)).toNatClampNeg (some q32)) ((1 : Int32)).toNatClampNeg (some q36)) ((2 : Int32)).toNatClampNeg (some q40)) ((3 : Int32)).toNatClampNeg (some q44)) ((4 : Int32)).toNatClampNeg (some q48)) ((5 : Int32)).toNatClampNeg (some q52))))))), (a, .inr (5, [.ref q1, .ref q2, .ref q6, .ref q10, .ref q17, .ref q24, .ref q31, .int 0, .int 0]))] X18) hD
  obtain ⟨X19, eX19⟩ : ∃ X : va_W, X = [(q56, .inr (0, [.ref q57, .int (-1 : Int32), .int 0]))] ++ X18 := ⟨_, rfl⟩
  rw [← eX19] at hP hD
  replace hP : va_P D zcl ([(q31, .inl (ca 4, 4, .inr (.inr (.inr (.inr (va_up (fun _ => none) ((0 : Int32)).toNatClampNeg (some q56))))))), (q1, .inl (ca 3, 6, .inr (.inr (.inr (.inr (va_up (va_up (va_up (va_up (va_up (va_up (fun _ => none) ((0 : Int32)).toNatClampNeg (some q32)) ((1 : Int32)).toNatClampNeg (some q36)) ((2 : Int32)).toNatClampNeg (some q40)) ((3 : Int32)).toNatClampNeg (some q44)) ((4 : Int32)).toNatClampNeg (some q48)) ((5 : Int32)).toNatClampNeg (some q52))))))), (a, .inr (5, [.ref q1, .ref q2, .ref q6, .ref q10, .ref q17, .ref q24, .ref q31, .int 0, .int 0]))] ++ X19) H40 := hP
  replace hD : va_D A ([(q31, .inl (ca 4, 4, .inr (.inr (.inr (.inr (va_up (fun _ => none) ((0 : Int32)).toNatClampNeg (some q56))))))), (q1, .inl (ca 3, 6, .inr (.inr (.inr (.inr (va_up (va_up (va_up (va_up (va_up (va_up (fun _ => none) ((0 : Int32)).toNatClampNeg (some q32)) ((1 : Int32)).toNatClampNeg (some q36)) ((2 : Int32)).toNatClampNeg (some q40)) ((3 : Int32)).toNatClampNeg (some q44)) ((4 : Int32)).toNatClampNeg (some q48)) ((5 : Int32)).toNatClampNeg (some q52))))))), (a, .inr (5, [.ref q1, .ref q2, .ref q6, .ref q10, .ref q17, .ref q24, .ref q31, .int 0, .int 0]))] ++ X19) := hD
  refine lv_iinc (v := (1 : Int32)) (lv' := [(1, .int (1 : Int32)), (0, .ref a)]) hx hb dX5_init_135 hl (k := 0) rfl (by decide) (by decide) rfl (fun _ _ => ?_)
  clear hl; try clear ls
  rename_i ls hl
  refine lv_goto (tgt := 117) hx hb dX5_init_138 (by decide) ?_
  refine lv_iload_n hx hb dX5_init_117 rfl (lv_at hl 0 rfl) ?_
  refine lv_iconst (v := (4 : Int32)) hx hb dX5_init_118 (by decide) ?_
  refine lv_icmp_ge (tgt := 141) hx hb dX5_init_119 (by decide) (fun c1 => absurd c1 (by decide)) (fun _ => ?_)
  refine lv_aload_n hx hb dX5_init_122 rfl (lv_at hl 1 rfl) ?_
  refine va_get (D := D) (ci := 5) (v := .ref q31) (C := RX5) (T := TX5) (N := 9) hx hb hts uw_X5 hown hK hP 2 rfl rfl 6 (by decide) (hts _ mw_348) (fun _ h9 => h9) rfl dX5_init_123 ?_
  refine lv_iload_n hx hb dX5_init_126 rfl (lv_at hl 0 rfl) ?_
  refine va_new (ci := 0) (fs := [.null, .int 0, .int 0]) (C := RX0) (T := TX0) (N := 3) hx hb hts uw_X0 tyX0 tyX0_ok hown (hts _ mw_717) (hts _ mw_718) (hts _ mw_344) hK hP hD hS hA rfl (fun j hj => by rcases (show j = 0 ∨ j = 1 ∨ j = 2 by omega) with rfl | rfl | rfl <;> rfl) (by rw [hRm]; exact Nat.le_of_ble_eq_true rfl) (by rw [hRm]; exact Nat.le_of_ble_eq_true rfl) dX5_init_127 (fun q58 H41 _ _ _ => ?_)
  clear hP hD hS
  rename_i hP hD hS
  try clear H40
  replace hP := zP_perm (zfr _ _) hP
  replace hD := zD_perm (zfr _ _) hD
  refine W.widen (k := 58) (n := 13508) (by omega) (by omega) ?_
  refine lv_dup hx hb dX5_init_130 rfl ?_
  have hPc : va_P D zcl [(q58, .inr (0, [.null, .int 0, .int 0]))] H41 := fun k q hk => by cases k with | zero => exact hP 0 q hk | succ k => simp at hk
  have hDc : va_D A [(q58, .inr (0, [.null, .int 0, .int 0]))] := zD_cons.mpr ⟨hD.2 0 _ rfl, fun q hq => absurd hq List.not_mem_nil, ⟨fun i j p q h => by simp at h, fun k q h => by simp at h⟩⟩
  have hFc : ∀ q, va_A [(q58, .inr (0, [.null, .int 0, .int 0]))] H41.size q → A q := fun q h => h.elim (fun ⟨k, e, h⟩ => by cases k with | zero => (simp at h; rw [← h.1]; exact hD.2 0 _ rfl) | succ k => simp at h) (fun h => hA q (Nat.le_trans hS.1 h))
  refine va_callv (va_runIN (As := []) (rest := [.ref q58, .int (1 : Int32), .ref q31]) ⟨hx, hb, hml, hown, hts⟩ (ci_X0_init l D ca sa q58 H41.size) ⟨va_cnB 0 hts (zT_good (zT_code mw_719)) rfl rfl rfl (hSt.1.2 _ (List.mem_of_getElem? (i := 3) rfl)) (hts _ mw_344) (by decide +kernel) (by rw [hRm]; exact ⟨Nat.le_of_ble_eq_true rfl, Nat.le_of_ble_eq_true rfl⟩), rfl, hts _ mw_720⟩ ⟨zIp_b _ _ _ _ _ _, zi_pre hK hSt hS (fun q h => hFc q h) hPc hDc⟩ rfl rfl hl.1 rfl (lv_room (Nat.le_of_ble_eq_true rfl)) dX5_init_131 (by rw [hRm]; exact ⟨Nat.le_of_ble_eq_true rfl, Nat.le_of_ble_eq_true rfl⟩)) hS (fun q _ h => hFc q h) hFc (fun u t H42 _ ht hvm hw hB hz1 hk1 _ => ?_)
  clear hS; try clear locs
  rename_i locs hS
  obtain ⟨q59, eqq⟩ : ∃ z, z = u := ⟨_, rfl⟩; subst eqq
  obtain ⟨hP1, hD1⟩ := hB
  rw [ht] at hP1
  have hPD := zP_call (w1 := [(q58, .inr (0, [.ref q59, .int (-1 : Int32), .int 0])), (q59, .inl (ca 0, 40, .inl (fun _ => 0)))]) hP hD hk1 hFc hP1 hD1
  clear hP hD hPc hDc hFc hk1 hz1 hvm ht hP1 hD1
  obtain ⟨hP, hD⟩ := hPD
  try clear H41
  try clear hw
  try clear t
  replace hP := zP_perm (zsw [(q58, .inr (0, [.ref q59, .int (-1 : Int32), .int 0]))] [(q59, .inl (ca 0, 40, .inl (fun _ => 0)))] [(q31, .inl (ca 4, 4, .inr (.inr (.inr (.inr (va_up (fun _ => none) ((0 : Int32)).toNatClampNeg (some q56))))))), (q1, .inl (ca 3, 6, .inr (.inr (.inr (.inr (va_up (va_up (va_up (va_up (va_up (va_up (fun _ => none) ((0 : Int32)).toNatClampNeg (some q32)) ((1 : Int32)).toNatClampNeg (some q36)) ((2 : Int32)).toNatClampNeg (some q40)) ((3 : Int32)).toNatClampNeg (some q44)) ((4 : Int32)).toNatClampNeg (some q48)) ((5 : Int32)).toNatClampNeg (some q52))))))), (a, .inr (5, [.ref q1, .ref q2, .ref q6, .ref q10, .ref q17, .ref q24, .ref q31, .int 0, .int 0]))] X19) hP
  replace hD := zD_perm (zsw [(q58, .inr (0, [.ref q59, .int (-1 : Int32), .int 0]))] [(q59, .inl (ca 0, 40, .inl (fun _ => 0)))] [(q31, .inl (ca 4, 4, .inr (.inr (.inr (.inr (va_up (fun _ => none) ((0 : Int32)).toNatClampNeg (some q56))))))), (q1, .inl (ca 3, 6, .inr (.inr (.inr (.inr (va_up (va_up (va_up (va_up (va_up (va_up (fun _ => none) ((0 : Int32)).toNatClampNeg (some q32)) ((1 : Int32)).toNatClampNeg (some q36)) ((2 : Int32)).toNatClampNeg (some q40)) ((3 : Int32)).toNatClampNeg (some q44)) ((4 : Int32)).toNatClampNeg (some q48)) ((5 : Int32)).toNatClampNeg (some q52))))))), (a, .inr (5, [.ref q1, .ref q2, .ref q6, .ref q10, .ref q17, .ref q24, .ref q31, .int 0, .int 0]))] X19) hD
  obtain ⟨X20, eX20⟩ : ∃ X : va_W, X = [(q59, .inl (ca 0, 40, .inl (fun _ => 0)))] ++ X19 := ⟨_, rfl⟩
  rw [← eX20] at hP hD
  replace hP : va_P D zcl ([(q58, .inr (0, [.ref q59, .int (-1 : Int32), .int 0])), (q31, .inl (ca 4, 4, .inr (.inr (.inr (.inr (va_up (fun _ => none) ((0 : Int32)).toNatClampNeg (some q56))))))), (q1, .inl (ca 3, 6, .inr (.inr (.inr (.inr (va_up (va_up (va_up (va_up (va_up (va_up (fun _ => none) ((0 : Int32)).toNatClampNeg (some q32)) ((1 : Int32)).toNatClampNeg (some q36)) ((2 : Int32)).toNatClampNeg (some q40)) ((3 : Int32)).toNatClampNeg (some q44)) ((4 : Int32)).toNatClampNeg (some q48)) ((5 : Int32)).toNatClampNeg (some q52))))))), (a, .inr (5, [.ref q1, .ref q2, .ref q6, .ref q10, .ref q17, .ref q24, .ref q31, .int 0, .int 0]))] ++ X20) H42 := hP
  replace hD : va_D A ([(q58, .inr (0, [.ref q59, .int (-1 : Int32), .int 0])), (q31, .inl (ca 4, 4, .inr (.inr (.inr (.inr (va_up (fun _ => none) ((0 : Int32)).toNatClampNeg (some q56))))))), (q1, .inl (ca 3, 6, .inr (.inr (.inr (.inr (va_up (va_up (va_up (va_up (va_up (va_up (fun _ => none) ((0 : Int32)).toNatClampNeg (some q32)) ((1 : Int32)).toNatClampNeg (some q36)) ((2 : Int32)).toNatClampNeg (some q40)) ((3 : Int32)).toNatClampNeg (some q44)) ((4 : Int32)).toNatClampNeg (some q48)) ((5 : Int32)).toNatClampNeg (some q52))))))), (a, .inr (5, [.ref q1, .ref q2, .ref q6, .ref q10, .ref q17, .ref q24, .ref q31, .int 0, .int 0]))] ++ X20) := hD
  refine W.widen (k := 59) (n := 13548) (by omega) (by omega) ?_
  refine va_astq (D := D) (tys := ztys2 ca) (i := (1 : Int32)) (r := (RX0, TX0, 3)) hx hb hK hP hD hS 1 4 0 0 rfl rfl rfl rfl (zin_i (by decide)) dX5_init_134 (fun H43 _ _ _ _ => ?_)
  clear hP hD hS; try clear locs
  rename_i locs hP hD hS
  try clear H42
  replace hP : va_P D zcl ([(q58, .inr (0, [.ref q59, .int (-1 : Int32), .int 0])), (q31, .inl (ca 4, 4, .inr (.inr (.inr (.inr (va_up (va_up (fun _ => none) ((0 : Int32)).toNatClampNeg (some q56)) ((1 : Int32)).toNatClampNeg (some q58))))))), (q1, .inl (ca 3, 6, .inr (.inr (.inr (.inr (va_up (va_up (va_up (va_up (va_up (va_up (fun _ => none) ((0 : Int32)).toNatClampNeg (some q32)) ((1 : Int32)).toNatClampNeg (some q36)) ((2 : Int32)).toNatClampNeg (some q40)) ((3 : Int32)).toNatClampNeg (some q44)) ((4 : Int32)).toNatClampNeg (some q48)) ((5 : Int32)).toNatClampNeg (some q52))))))), (a, .inr (5, [.ref q1, .ref q2, .ref q6, .ref q10, .ref q17, .ref q24, .ref q31, .int 0, .int 0]))] ++ X20) H43 := hP
  replace hD : va_D A ([(q58, .inr (0, [.ref q59, .int (-1 : Int32), .int 0])), (q31, .inl (ca 4, 4, .inr (.inr (.inr (.inr (va_up (va_up (fun _ => none) ((0 : Int32)).toNatClampNeg (some q56)) ((1 : Int32)).toNatClampNeg (some q58))))))), (q1, .inl (ca 3, 6, .inr (.inr (.inr (.inr (va_up (va_up (va_up (va_up (va_up (va_up (fun _ => none) ((0 : Int32)).toNatClampNeg (some q32)) ((1 : Int32)).toNatClampNeg (some q36)) ((2 : Int32)).toNatClampNeg (some q40)) ((3 : Int32)).toNatClampNeg (some q44)) ((4 : Int32)).toNatClampNeg (some q48)) ((5 : Int32)).toNatClampNeg (some q52))))))), (a, .inr (5, [.ref q1, .ref q2, .ref q6, .ref q10, .ref q17, .ref q24, .ref q31, .int 0, .int 0]))] ++ X20) := hD
  replace hP := zP_perm (zsw [] [(q58, .inr (0, [.ref q59, .int (-1 : Int32), .int 0]))] [(q31, .inl (ca 4, 4, .inr (.inr (.inr (.inr (va_up (va_up (fun _ => none) ((0 : Int32)).toNatClampNeg (some q56)) ((1 : Int32)).toNatClampNeg (some q58))))))), (q1, .inl (ca 3, 6, .inr (.inr (.inr (.inr (va_up (va_up (va_up (va_up (va_up (va_up (fun _ => none) ((0 : Int32)).toNatClampNeg (some q32)) ((1 : Int32)).toNatClampNeg (some q36)) ((2 : Int32)).toNatClampNeg (some q40)) ((3 : Int32)).toNatClampNeg (some q44)) ((4 : Int32)).toNatClampNeg (some q48)) ((5 : Int32)).toNatClampNeg (some q52))))))), (a, .inr (5, [.ref q1, .ref q2, .ref q6, .ref q10, .ref q17, .ref q24, .ref q31, .int 0, .int 0]))] X20) hP
  replace hD := zD_perm (zsw [] [(q58, .inr (0, [.ref q59, .int (-1 : Int32), .int 0]))] [(q31, .inl (ca 4, 4, .inr (.inr (.inr (.inr (va_up (va_up (fun _ => none) ((0 : Int32)).toNatClampNeg (some q56)) ((1 : Int32)).toNatClampNeg (some q58))))))), (q1, .inl (ca 3, 6, .inr (.inr (.inr (.inr (va_up (va_up (va_up (va_up (va_up (va_up (fun _ => none) ((0 : Int32)).toNatClampNeg (some q32)) ((1 : Int32)).toNatClampNeg (some q36)) ((2 : Int32)).toNatClampNeg (some q40)) ((3 : Int32)).toNatClampNeg (some q44)) ((4 : Int32)).toNatClampNeg (some q48)) ((5 : Int32)).toNatClampNeg (some q52))))))), (a, .inr (5, [.ref q1, .ref q2, .ref q6, .ref q10, .ref q17, .ref q24, .ref q31, .int 0, .int 0]))] X20) hD
  obtain ⟨X21, eX21⟩ : ∃ X : va_W, X = [(q58, .inr (0, [.ref q59, .int (-1 : Int32), .int 0]))] ++ X20 := ⟨_, rfl⟩
  rw [← eX21] at hP hD
  replace hP : va_P D zcl ([(q31, .inl (ca 4, 4, .inr (.inr (.inr (.inr (va_up (va_up (fun _ => none) ((0 : Int32)).toNatClampNeg (some q56)) ((1 : Int32)).toNatClampNeg (some q58))))))), (q1, .inl (ca 3, 6, .inr (.inr (.inr (.inr (va_up (va_up (va_up (va_up (va_up (va_up (fun _ => none) ((0 : Int32)).toNatClampNeg (some q32)) ((1 : Int32)).toNatClampNeg (some q36)) ((2 : Int32)).toNatClampNeg (some q40)) ((3 : Int32)).toNatClampNeg (some q44)) ((4 : Int32)).toNatClampNeg (some q48)) ((5 : Int32)).toNatClampNeg (some q52))))))), (a, .inr (5, [.ref q1, .ref q2, .ref q6, .ref q10, .ref q17, .ref q24, .ref q31, .int 0, .int 0]))] ++ X21) H43 := hP
  replace hD : va_D A ([(q31, .inl (ca 4, 4, .inr (.inr (.inr (.inr (va_up (va_up (fun _ => none) ((0 : Int32)).toNatClampNeg (some q56)) ((1 : Int32)).toNatClampNeg (some q58))))))), (q1, .inl (ca 3, 6, .inr (.inr (.inr (.inr (va_up (va_up (va_up (va_up (va_up (va_up (fun _ => none) ((0 : Int32)).toNatClampNeg (some q32)) ((1 : Int32)).toNatClampNeg (some q36)) ((2 : Int32)).toNatClampNeg (some q40)) ((3 : Int32)).toNatClampNeg (some q44)) ((4 : Int32)).toNatClampNeg (some q48)) ((5 : Int32)).toNatClampNeg (some q52))))))), (a, .inr (5, [.ref q1, .ref q2, .ref q6, .ref q10, .ref q17, .ref q24, .ref q31, .int 0, .int 0]))] ++ X21) := hD
  refine lv_iinc (v := (2 : Int32)) (lv' := [(1, .int (2 : Int32)), (0, .ref a)]) hx hb dX5_init_135 hl (k := 0) rfl (by decide) (by decide) rfl (fun _ _ => ?_)
  clear hl; try clear ls
  rename_i ls hl
  refine lv_goto (tgt := 117) hx hb dX5_init_138 (by decide) ?_
  refine lv_iload_n hx hb dX5_init_117 rfl (lv_at hl 0 rfl) ?_
  refine lv_iconst (v := (4 : Int32)) hx hb dX5_init_118 (by decide) ?_
  refine lv_icmp_ge (tgt := 141) hx hb dX5_init_119 (by decide) (fun c1 => absurd c1 (by decide)) (fun _ => ?_)
  refine lv_aload_n hx hb dX5_init_122 rfl (lv_at hl 1 rfl) ?_
  refine va_get (D := D) (ci := 5) (v := .ref q31) (C := RX5) (T := TX5) (N := 9) hx hb hts uw_X5 hown hK hP 2 rfl rfl 6 (by decide) (hts _ mw_348) (fun _ h9 => h9) rfl dX5_init_123 ?_
  refine lv_iload_n hx hb dX5_init_126 rfl (lv_at hl 0 rfl) ?_
  refine va_new (ci := 0) (fs := [.null, .int 0, .int 0]) (C := RX0) (T := TX0) (N := 3) hx hb hts uw_X0 tyX0 tyX0_ok hown (hts _ mw_717) (hts _ mw_718) (hts _ mw_344) hK hP hD hS hA rfl (fun j hj => by rcases (show j = 0 ∨ j = 1 ∨ j = 2 by omega) with rfl | rfl | rfl <;> rfl) (by rw [hRm]; exact Nat.le_of_ble_eq_true rfl) (by rw [hRm]; exact Nat.le_of_ble_eq_true rfl) dX5_init_127 (fun q60 H44 _ _ _ => ?_)
  clear hP hD hS
  rename_i hP hD hS
  try clear H43
  replace hP := zP_perm (zfr _ _) hP
  replace hD := zD_perm (zfr _ _) hD
  refine W.widen (k := 60) (n := 13551) (by omega) (by omega) ?_
  refine lv_dup hx hb dX5_init_130 rfl ?_
  have hPc : va_P D zcl [(q60, .inr (0, [.null, .int 0, .int 0]))] H44 := fun k q hk => by cases k with | zero => exact hP 0 q hk | succ k => simp at hk
  have hDc : va_D A [(q60, .inr (0, [.null, .int 0, .int 0]))] := zD_cons.mpr ⟨hD.2 0 _ rfl, fun q hq => absurd hq List.not_mem_nil, ⟨fun i j p q h => by simp at h, fun k q h => by simp at h⟩⟩
  have hFc : ∀ q, va_A [(q60, .inr (0, [.null, .int 0, .int 0]))] H44.size q → A q := fun q h => h.elim (fun ⟨k, e, h⟩ => by cases k with | zero => (simp at h; rw [← h.1]; exact hD.2 0 _ rfl) | succ k => simp at h) (fun h => hA q (Nat.le_trans hS.1 h))
  refine va_callv (va_runIN (As := []) (rest := [.ref q60, .int (2 : Int32), .ref q31]) ⟨hx, hb, hml, hown, hts⟩ (ci_X0_init l D ca sa q60 H44.size) ⟨va_cnB 0 hts (zT_good (zT_code mw_719)) rfl rfl rfl (hSt.1.2 _ (List.mem_of_getElem? (i := 3) rfl)) (hts _ mw_344) (by decide +kernel) (by rw [hRm]; exact ⟨Nat.le_of_ble_eq_true rfl, Nat.le_of_ble_eq_true rfl⟩), rfl, hts _ mw_720⟩ ⟨zIp_b _ _ _ _ _ _, zi_pre hK hSt hS (fun q h => hFc q h) hPc hDc⟩ rfl rfl hl.1 rfl (lv_room (Nat.le_of_ble_eq_true rfl)) dX5_init_131 (by rw [hRm]; exact ⟨Nat.le_of_ble_eq_true rfl, Nat.le_of_ble_eq_true rfl⟩)) hS (fun q _ h => hFc q h) hFc (fun u t H45 _ ht hvm hw hB hz1 hk1 _ => ?_)
  clear hS; try clear locs
  rename_i locs hS
  obtain ⟨q61, eqq⟩ : ∃ z, z = u := ⟨_, rfl⟩; subst eqq
  obtain ⟨hP1, hD1⟩ := hB
  rw [ht] at hP1
  have hPD := zP_call (w1 := [(q60, .inr (0, [.ref q61, .int (-1 : Int32), .int 0])), (q61, .inl (ca 0, 40, .inl (fun _ => 0)))]) hP hD hk1 hFc hP1 hD1
  clear hP hD hPc hDc hFc hk1 hz1 hvm ht hP1 hD1
  obtain ⟨hP, hD⟩ := hPD
  try clear H44
  try clear hw
  try clear t
  replace hP := zP_perm (zsw [(q60, .inr (0, [.ref q61, .int (-1 : Int32), .int 0]))] [(q61, .inl (ca 0, 40, .inl (fun _ => 0)))] [(q31, .inl (ca 4, 4, .inr (.inr (.inr (.inr (va_up (va_up (fun _ => none) ((0 : Int32)).toNatClampNeg (some q56)) ((1 : Int32)).toNatClampNeg (some q58))))))), (q1, .inl (ca 3, 6, .inr (.inr (.inr (.inr (va_up (va_up (va_up (va_up (va_up (va_up (fun _ => none) ((0 : Int32)).toNatClampNeg (some q32)) ((1 : Int32)).toNatClampNeg (some q36)) ((2 : Int32)).toNatClampNeg (some q40)) ((3 : Int32)).toNatClampNeg (some q44)) ((4 : Int32)).toNatClampNeg (some q48)) ((5 : Int32)).toNatClampNeg (some q52))))))), (a, .inr (5, [.ref q1, .ref q2, .ref q6, .ref q10, .ref q17, .ref q24, .ref q31, .int 0, .int 0]))] X21) hP
  replace hD := zD_perm (zsw [(q60, .inr (0, [.ref q61, .int (-1 : Int32), .int 0]))] [(q61, .inl (ca 0, 40, .inl (fun _ => 0)))] [(q31, .inl (ca 4, 4, .inr (.inr (.inr (.inr (va_up (va_up (fun _ => none) ((0 : Int32)).toNatClampNeg (some q56)) ((1 : Int32)).toNatClampNeg (some q58))))))), (q1, .inl (ca 3, 6, .inr (.inr (.inr (.inr (va_up (va_up (va_up (va_up (va_up (va_up (fun _ => none) ((0 : Int32)).toNatClampNeg (some q32)) ((1 : Int32)).toNatClampNeg (some q36)) ((2 : Int32)).toNatClampNeg (some q40)) ((3 : Int32)).toNatClampNeg (some q44)) ((4 : Int32)).toNatClampNeg (some q48)) ((5 : Int32)).toNatClampNeg (some q52))))))), (a, .inr (5, [.ref q1, .ref q2, .ref q6, .ref q10, .ref q17, .ref q24, .ref q31, .int 0, .int 0]))] X21) hD
  obtain ⟨X22, eX22⟩ : ∃ X : va_W, X = [(q61, .inl (ca 0, 40, .inl (fun _ => 0)))] ++ X21 := ⟨_, rfl⟩
  rw [← eX22] at hP hD
  replace hP : va_P D zcl ([(q60, .inr (0, [.ref q61, .int (-1 : Int32), .int 0])), (q31, .inl (ca 4, 4, .inr (.inr (.inr (.inr (va_up (va_up (fun _ => none) ((0 : Int32)).toNatClampNeg (some q56)) ((1 : Int32)).toNatClampNeg (some q58))))))), (q1, .inl (ca 3, 6, .inr (.inr (.inr (.inr (va_up (va_up (va_up (va_up (va_up (va_up (fun _ => none) ((0 : Int32)).toNatClampNeg (some q32)) ((1 : Int32)).toNatClampNeg (some q36)) ((2 : Int32)).toNatClampNeg (some q40)) ((3 : Int32)).toNatClampNeg (some q44)) ((4 : Int32)).toNatClampNeg (some q48)) ((5 : Int32)).toNatClampNeg (some q52))))))), (a, .inr (5, [.ref q1, .ref q2, .ref q6, .ref q10, .ref q17, .ref q24, .ref q31, .int 0, .int 0]))] ++ X22) H45 := hP
  replace hD : va_D A ([(q60, .inr (0, [.ref q61, .int (-1 : Int32), .int 0])), (q31, .inl (ca 4, 4, .inr (.inr (.inr (.inr (va_up (va_up (fun _ => none) ((0 : Int32)).toNatClampNeg (some q56)) ((1 : Int32)).toNatClampNeg (some q58))))))), (q1, .inl (ca 3, 6, .inr (.inr (.inr (.inr (va_up (va_up (va_up (va_up (va_up (va_up (fun _ => none) ((0 : Int32)).toNatClampNeg (some q32)) ((1 : Int32)).toNatClampNeg (some q36)) ((2 : Int32)).toNatClampNeg (some q40)) ((3 : Int32)).toNatClampNeg (some q44)) ((4 : Int32)).toNatClampNeg (some q48)) ((5 : Int32)).toNatClampNeg (some q52))))))), (a, .inr (5, [.ref q1, .ref q2, .ref q6, .ref q10, .ref q17, .ref q24, .ref q31, .int 0, .int 0]))] ++ X22) := hD
  refine W.widen (k := 61) (n := 13591) (by omega) (by omega) ?_
  refine va_astq (D := D) (tys := ztys2 ca) (i := (2 : Int32)) (r := (RX0, TX0, 3)) hx hb hK hP hD hS 1 4 0 0 rfl rfl rfl rfl (zin_i (by decide)) dX5_init_134 (fun H46 _ _ _ _ => ?_)
  clear hP hD hS; try clear locs
  rename_i locs hP hD hS
  try clear H45
  replace hP : va_P D zcl ([(q60, .inr (0, [.ref q61, .int (-1 : Int32), .int 0])), (q31, .inl (ca 4, 4, .inr (.inr (.inr (.inr (va_up (va_up (va_up (fun _ => none) ((0 : Int32)).toNatClampNeg (some q56)) ((1 : Int32)).toNatClampNeg (some q58)) ((2 : Int32)).toNatClampNeg (some q60))))))), (q1, .inl (ca 3, 6, .inr (.inr (.inr (.inr (va_up (va_up (va_up (va_up (va_up (va_up (fun _ => none) ((0 : Int32)).toNatClampNeg (some q32)) ((1 : Int32)).toNatClampNeg (some q36)) ((2 : Int32)).toNatClampNeg (some q40)) ((3 : Int32)).toNatClampNeg (some q44)) ((4 : Int32)).toNatClampNeg (some q48)) ((5 : Int32)).toNatClampNeg (some q52))))))), (a, .inr (5, [.ref q1, .ref q2, .ref q6, .ref q10, .ref q17, .ref q24, .ref q31, .int 0, .int 0]))] ++ X22) H46 := hP
  replace hD : va_D A ([(q60, .inr (0, [.ref q61, .int (-1 : Int32), .int 0])), (q31, .inl (ca 4, 4, .inr (.inr (.inr (.inr (va_up (va_up (va_up (fun _ => none) ((0 : Int32)).toNatClampNeg (some q56)) ((1 : Int32)).toNatClampNeg (some q58)) ((2 : Int32)).toNatClampNeg (some q60))))))), (q1, .inl (ca 3, 6, .inr (.inr (.inr (.inr (va_up (va_up (va_up (va_up (va_up (va_up (fun _ => none) ((0 : Int32)).toNatClampNeg (some q32)) ((1 : Int32)).toNatClampNeg (some q36)) ((2 : Int32)).toNatClampNeg (some q40)) ((3 : Int32)).toNatClampNeg (some q44)) ((4 : Int32)).toNatClampNeg (some q48)) ((5 : Int32)).toNatClampNeg (some q52))))))), (a, .inr (5, [.ref q1, .ref q2, .ref q6, .ref q10, .ref q17, .ref q24, .ref q31, .int 0, .int 0]))] ++ X22) := hD
  replace hP := zP_perm (zsw [] [(q60, .inr (0, [.ref q61, .int (-1 : Int32), .int 0]))] [(q31, .inl (ca 4, 4, .inr (.inr (.inr (.inr (va_up (va_up (va_up (fun _ => none) ((0 : Int32)).toNatClampNeg (some q56)) ((1 : Int32)).toNatClampNeg (some q58)) ((2 : Int32)).toNatClampNeg (some q60))))))), (q1, .inl (ca 3, 6, .inr (.inr (.inr (.inr (va_up (va_up (va_up (va_up (va_up (va_up (fun _ => none) ((0 : Int32)).toNatClampNeg (some q32)) ((1 : Int32)).toNatClampNeg (some q36)) ((2 : Int32)).toNatClampNeg (some q40)) ((3 : Int32)).toNatClampNeg (some q44)) ((4 : Int32)).toNatClampNeg (some q48)) ((5 : Int32)).toNatClampNeg (some q52))))))), (a, .inr (5, [.ref q1, .ref q2, .ref q6, .ref q10, .ref q17, .ref q24, .ref q31, .int 0, .int 0]))] X22) hP
  replace hD := zD_perm (zsw [] [(q60, .inr (0, [.ref q61, .int (-1 : Int32), .int 0]))] [(q31, .inl (ca 4, 4, .inr (.inr (.inr (.inr (va_up (va_up (va_up (fun _ => none) ((0 : Int32)).toNatClampNeg (some q56)) ((1 : Int32)).toNatClampNeg (some q58)) ((2 : Int32)).toNatClampNeg (some q60))))))), (q1, .inl (ca 3, 6, .inr (.inr (.inr (.inr (va_up (va_up (va_up (va_up (va_up (va_up (fun _ => none) ((0 : Int32)).toNatClampNeg (some q32)) ((1 : Int32)).toNatClampNeg (some q36)) ((2 : Int32)).toNatClampNeg (some q40)) ((3 : Int32)).toNatClampNeg (some q44)) ((4 : Int32)).toNatClampNeg (some q48)) ((5 : Int32)).toNatClampNeg (some q52))))))), (a, .inr (5, [.ref q1, .ref q2, .ref q6, .ref q10, .ref q17, .ref q24, .ref q31, .int 0, .int 0]))] X22) hD
  obtain ⟨X23, eX23⟩ : ∃ X : va_W, X = [(q60, .inr (0, [.ref q61, .int (-1 : Int32), .int 0]))] ++ X22 := ⟨_, rfl⟩
  rw [← eX23] at hP hD
  replace hP : va_P D zcl ([(q31, .inl (ca 4, 4, .inr (.inr (.inr (.inr (va_up (va_up (va_up (fun _ => none) ((0 : Int32)).toNatClampNeg (some q56)) ((1 : Int32)).toNatClampNeg (some q58)) ((2 : Int32)).toNatClampNeg (some q60))))))), (q1, .inl (ca 3, 6, .inr (.inr (.inr (.inr (va_up (va_up (va_up (va_up (va_up (va_up (fun _ => none) ((0 : Int32)).toNatClampNeg (some q32)) ((1 : Int32)).toNatClampNeg (some q36)) ((2 : Int32)).toNatClampNeg (some q40)) ((3 : Int32)).toNatClampNeg (some q44)) ((4 : Int32)).toNatClampNeg (some q48)) ((5 : Int32)).toNatClampNeg (some q52))))))), (a, .inr (5, [.ref q1, .ref q2, .ref q6, .ref q10, .ref q17, .ref q24, .ref q31, .int 0, .int 0]))] ++ X23) H46 := hP
  replace hD : va_D A ([(q31, .inl (ca 4, 4, .inr (.inr (.inr (.inr (va_up (va_up (va_up (fun _ => none) ((0 : Int32)).toNatClampNeg (some q56)) ((1 : Int32)).toNatClampNeg (some q58)) ((2 : Int32)).toNatClampNeg (some q60))))))), (q1, .inl (ca 3, 6, .inr (.inr (.inr (.inr (va_up (va_up (va_up (va_up (va_up (va_up (fun _ => none) ((0 : Int32)).toNatClampNeg (some q32)) ((1 : Int32)).toNatClampNeg (some q36)) ((2 : Int32)).toNatClampNeg (some q40)) ((3 : Int32)).toNatClampNeg (some q44)) ((4 : Int32)).toNatClampNeg (some q48)) ((5 : Int32)).toNatClampNeg (some q52))))))), (a, .inr (5, [.ref q1, .ref q2, .ref q6, .ref q10, .ref q17, .ref q24, .ref q31, .int 0, .int 0]))] ++ X23) := hD
  refine lv_iinc (v := (3 : Int32)) (lv' := [(1, .int (3 : Int32)), (0, .ref a)]) hx hb dX5_init_135 hl (k := 0) rfl (by decide) (by decide) rfl (fun _ _ => ?_)
  clear hl; try clear ls
  rename_i ls hl
  refine lv_goto (tgt := 117) hx hb dX5_init_138 (by decide) ?_
  refine lv_iload_n hx hb dX5_init_117 rfl (lv_at hl 0 rfl) ?_
  refine lv_iconst (v := (4 : Int32)) hx hb dX5_init_118 (by decide) ?_
  refine lv_icmp_ge (tgt := 141) hx hb dX5_init_119 (by decide) (fun c1 => absurd c1 (by decide)) (fun _ => ?_)
  refine lv_aload_n hx hb dX5_init_122 rfl (lv_at hl 1 rfl) ?_
  refine va_get (D := D) (ci := 5) (v := .ref q31) (C := RX5) (T := TX5) (N := 9) hx hb hts uw_X5 hown hK hP 2 rfl rfl 6 (by decide) (hts _ mw_348) (fun _ h9 => h9) rfl dX5_init_123 ?_
  refine lv_iload_n hx hb dX5_init_126 rfl (lv_at hl 0 rfl) ?_
  refine va_new (ci := 0) (fs := [.null, .int 0, .int 0]) (C := RX0) (T := TX0) (N := 3) hx hb hts uw_X0 tyX0 tyX0_ok hown (hts _ mw_717) (hts _ mw_718) (hts _ mw_344) hK hP hD hS hA rfl (fun j hj => by rcases (show j = 0 ∨ j = 1 ∨ j = 2 by omega) with rfl | rfl | rfl <;> rfl) (by rw [hRm]; exact Nat.le_of_ble_eq_true rfl) (by rw [hRm]; exact Nat.le_of_ble_eq_true rfl) dX5_init_127 (fun q62 H47 _ _ _ => ?_)
  clear hP hD hS
  rename_i hP hD hS
  try clear H46
  replace hP := zP_perm (zfr _ _) hP
  replace hD := zD_perm (zfr _ _) hD
  refine W.widen (k := 62) (n := 13594) (by omega) (by omega) ?_
  refine lv_dup hx hb dX5_init_130 rfl ?_
  have hPc : va_P D zcl [(q62, .inr (0, [.null, .int 0, .int 0]))] H47 := fun k q hk => by cases k with | zero => exact hP 0 q hk | succ k => simp at hk
  have hDc : va_D A [(q62, .inr (0, [.null, .int 0, .int 0]))] := zD_cons.mpr ⟨hD.2 0 _ rfl, fun q hq => absurd hq List.not_mem_nil, ⟨fun i j p q h => by simp at h, fun k q h => by simp at h⟩⟩
  have hFc : ∀ q, va_A [(q62, .inr (0, [.null, .int 0, .int 0]))] H47.size q → A q := fun q h => h.elim (fun ⟨k, e, h⟩ => by cases k with | zero => (simp at h; rw [← h.1]; exact hD.2 0 _ rfl) | succ k => simp at h) (fun h => hA q (Nat.le_trans hS.1 h))
  refine va_callv (va_runIN (As := []) (rest := [.ref q62, .int (3 : Int32), .ref q31]) ⟨hx, hb, hml, hown, hts⟩ (ci_X0_init l D ca sa q62 H47.size) ⟨va_cnB 0 hts (zT_good (zT_code mw_719)) rfl rfl rfl (hSt.1.2 _ (List.mem_of_getElem? (i := 3) rfl)) (hts _ mw_344) (by decide +kernel) (by rw [hRm]; exact ⟨Nat.le_of_ble_eq_true rfl, Nat.le_of_ble_eq_true rfl⟩), rfl, hts _ mw_720⟩ ⟨zIp_b _ _ _ _ _ _, zi_pre hK hSt hS (fun q h => hFc q h) hPc hDc⟩ rfl rfl hl.1 rfl (lv_room (Nat.le_of_ble_eq_true rfl)) dX5_init_131 (by rw [hRm]; exact ⟨Nat.le_of_ble_eq_true rfl, Nat.le_of_ble_eq_true rfl⟩)) hS (fun q _ h => hFc q h) hFc (fun u t H48 _ ht hvm hw hB hz1 hk1 _ => ?_)
  clear hS; try clear locs
  rename_i locs hS
  obtain ⟨q63, eqq⟩ : ∃ z, z = u := ⟨_, rfl⟩; subst eqq
  obtain ⟨hP1, hD1⟩ := hB
  rw [ht] at hP1
  have hPD := zP_call (w1 := [(q62, .inr (0, [.ref q63, .int (-1 : Int32), .int 0])), (q63, .inl (ca 0, 40, .inl (fun _ => 0)))]) hP hD hk1 hFc hP1 hD1
  clear hP hD hPc hDc hFc hk1 hz1 hvm ht hP1 hD1
  obtain ⟨hP, hD⟩ := hPD
  try clear H47
  try clear hw
  try clear t
  replace hP := zP_perm (zsw [(q62, .inr (0, [.ref q63, .int (-1 : Int32), .int 0]))] [(q63, .inl (ca 0, 40, .inl (fun _ => 0)))] [(q31, .inl (ca 4, 4, .inr (.inr (.inr (.inr (va_up (va_up (va_up (fun _ => none) ((0 : Int32)).toNatClampNeg (some q56)) ((1 : Int32)).toNatClampNeg (some q58)) ((2 : Int32)).toNatClampNeg (some q60))))))), (q1, .inl (ca 3, 6, .inr (.inr (.inr (.inr (va_up (va_up (va_up (va_up (va_up (va_up (fun _ => none) ((0 : Int32)).toNatClampNeg (some q32)) ((1 : Int32)).toNatClampNeg (some q36)) ((2 : Int32)).toNatClampNeg (some q40)) ((3 : Int32)).toNatClampNeg (some q44)) ((4 : Int32)).toNatClampNeg (some q48)) ((5 : Int32)).toNatClampNeg (some q52))))))), (a, .inr (5, [.ref q1, .ref q2, .ref q6, .ref q10, .ref q17, .ref q24, .ref q31, .int 0, .int 0]))] X23) hP
  replace hD := zD_perm (zsw [(q62, .inr (0, [.ref q63, .int (-1 : Int32), .int 0]))] [(q63, .inl (ca 0, 40, .inl (fun _ => 0)))] [(q31, .inl (ca 4, 4, .inr (.inr (.inr (.inr (va_up (va_up (va_up (fun _ => none) ((0 : Int32)).toNatClampNeg (some q56)) ((1 : Int32)).toNatClampNeg (some q58)) ((2 : Int32)).toNatClampNeg (some q60))))))), (q1, .inl (ca 3, 6, .inr (.inr (.inr (.inr (va_up (va_up (va_up (va_up (va_up (va_up (fun _ => none) ((0 : Int32)).toNatClampNeg (some q32)) ((1 : Int32)).toNatClampNeg (some q36)) ((2 : Int32)).toNatClampNeg (some q40)) ((3 : Int32)).toNatClampNeg (some q44)) ((4 : Int32)).toNatClampNeg (some q48)) ((5 : Int32)).toNatClampNeg (some q52))))))), (a, .inr (5, [.ref q1, .ref q2, .ref q6, .ref q10, .ref q17, .ref q24, .ref q31, .int 0, .int 0]))] X23) hD
  obtain ⟨X24, eX24⟩ : ∃ X : va_W, X = [(q63, .inl (ca 0, 40, .inl (fun _ => 0)))] ++ X23 := ⟨_, rfl⟩
  rw [← eX24] at hP hD
  replace hP : va_P D zcl ([(q62, .inr (0, [.ref q63, .int (-1 : Int32), .int 0])), (q31, .inl (ca 4, 4, .inr (.inr (.inr (.inr (va_up (va_up (va_up (fun _ => none) ((0 : Int32)).toNatClampNeg (some q56)) ((1 : Int32)).toNatClampNeg (some q58)) ((2 : Int32)).toNatClampNeg (some q60))))))), (q1, .inl (ca 3, 6, .inr (.inr (.inr (.inr (va_up (va_up (va_up (va_up (va_up (va_up (fun _ => none) ((0 : Int32)).toNatClampNeg (some q32)) ((1 : Int32)).toNatClampNeg (some q36)) ((2 : Int32)).toNatClampNeg (some q40)) ((3 : Int32)).toNatClampNeg (some q44)) ((4 : Int32)).toNatClampNeg (some q48)) ((5 : Int32)).toNatClampNeg (some q52))))))), (a, .inr (5, [.ref q1, .ref q2, .ref q6, .ref q10, .ref q17, .ref q24, .ref q31, .int 0, .int 0]))] ++ X24) H48 := hP
  replace hD : va_D A ([(q62, .inr (0, [.ref q63, .int (-1 : Int32), .int 0])), (q31, .inl (ca 4, 4, .inr (.inr (.inr (.inr (va_up (va_up (va_up (fun _ => none) ((0 : Int32)).toNatClampNeg (some q56)) ((1 : Int32)).toNatClampNeg (some q58)) ((2 : Int32)).toNatClampNeg (some q60))))))), (q1, .inl (ca 3, 6, .inr (.inr (.inr (.inr (va_up (va_up (va_up (va_up (va_up (va_up (fun _ => none) ((0 : Int32)).toNatClampNeg (some q32)) ((1 : Int32)).toNatClampNeg (some q36)) ((2 : Int32)).toNatClampNeg (some q40)) ((3 : Int32)).toNatClampNeg (some q44)) ((4 : Int32)).toNatClampNeg (some q48)) ((5 : Int32)).toNatClampNeg (some q52))))))), (a, .inr (5, [.ref q1, .ref q2, .ref q6, .ref q10, .ref q17, .ref q24, .ref q31, .int 0, .int 0]))] ++ X24) := hD
  refine W.widen (k := 63) (n := 13634) (by omega) (by omega) ?_
  refine va_astq (D := D) (tys := ztys2 ca) (i := (3 : Int32)) (r := (RX0, TX0, 3)) hx hb hK hP hD hS 1 4 0 0 rfl rfl rfl rfl (zin_i (by decide)) dX5_init_134 (fun H49 _ _ _ _ => ?_)
  clear hP hD hS; try clear locs
  rename_i locs hP hD hS
  try clear H48
  replace hP : va_P D zcl ([(q62, .inr (0, [.ref q63, .int (-1 : Int32), .int 0])), (q31, .inl (ca 4, 4, .inr (.inr (.inr (.inr (va_up (va_up (va_up (va_up (fun _ => none) ((0 : Int32)).toNatClampNeg (some q56)) ((1 : Int32)).toNatClampNeg (some q58)) ((2 : Int32)).toNatClampNeg (some q60)) ((3 : Int32)).toNatClampNeg (some q62))))))), (q1, .inl (ca 3, 6, .inr (.inr (.inr (.inr (va_up (va_up (va_up (va_up (va_up (va_up (fun _ => none) ((0 : Int32)).toNatClampNeg (some q32)) ((1 : Int32)).toNatClampNeg (some q36)) ((2 : Int32)).toNatClampNeg (some q40)) ((3 : Int32)).toNatClampNeg (some q44)) ((4 : Int32)).toNatClampNeg (some q48)) ((5 : Int32)).toNatClampNeg (some q52))))))), (a, .inr (5, [.ref q1, .ref q2, .ref q6, .ref q10, .ref q17, .ref q24, .ref q31, .int 0, .int 0]))] ++ X24) H49 := hP
  replace hD : va_D A ([(q62, .inr (0, [.ref q63, .int (-1 : Int32), .int 0])), (q31, .inl (ca 4, 4, .inr (.inr (.inr (.inr (va_up (va_up (va_up (va_up (fun _ => none) ((0 : Int32)).toNatClampNeg (some q56)) ((1 : Int32)).toNatClampNeg (some q58)) ((2 : Int32)).toNatClampNeg (some q60)) ((3 : Int32)).toNatClampNeg (some q62))))))), (q1, .inl (ca 3, 6, .inr (.inr (.inr (.inr (va_up (va_up (va_up (va_up (va_up (va_up (fun _ => none) ((0 : Int32)).toNatClampNeg (some q32)) ((1 : Int32)).toNatClampNeg (some q36)) ((2 : Int32)).toNatClampNeg (some q40)) ((3 : Int32)).toNatClampNeg (some q44)) ((4 : Int32)).toNatClampNeg (some q48)) ((5 : Int32)).toNatClampNeg (some q52))))))), (a, .inr (5, [.ref q1, .ref q2, .ref q6, .ref q10, .ref q17, .ref q24, .ref q31, .int 0, .int 0]))] ++ X24) := hD
  replace hP := zP_perm (zsw [] [(q62, .inr (0, [.ref q63, .int (-1 : Int32), .int 0]))] [(q31, .inl (ca 4, 4, .inr (.inr (.inr (.inr (va_up (va_up (va_up (va_up (fun _ => none) ((0 : Int32)).toNatClampNeg (some q56)) ((1 : Int32)).toNatClampNeg (some q58)) ((2 : Int32)).toNatClampNeg (some q60)) ((3 : Int32)).toNatClampNeg (some q62))))))), (q1, .inl (ca 3, 6, .inr (.inr (.inr (.inr (va_up (va_up (va_up (va_up (va_up (va_up (fun _ => none) ((0 : Int32)).toNatClampNeg (some q32)) ((1 : Int32)).toNatClampNeg (some q36)) ((2 : Int32)).toNatClampNeg (some q40)) ((3 : Int32)).toNatClampNeg (some q44)) ((4 : Int32)).toNatClampNeg (some q48)) ((5 : Int32)).toNatClampNeg (some q52))))))), (a, .inr (5, [.ref q1, .ref q2, .ref q6, .ref q10, .ref q17, .ref q24, .ref q31, .int 0, .int 0]))] X24) hP
  replace hD := zD_perm (zsw [] [(q62, .inr (0, [.ref q63, .int (-1 : Int32), .int 0]))] [(q31, .inl (ca 4, 4, .inr (.inr (.inr (.inr (va_up (va_up (va_up (va_up (fun _ => none) ((0 : Int32)).toNatClampNeg (some q56)) ((1 : Int32)).toNatClampNeg (some q58)) ((2 : Int32)).toNatClampNeg (some q60)) ((3 : Int32)).toNatClampNeg (some q62))))))), (q1, .inl (ca 3, 6, .inr (.inr (.inr (.inr (va_up (va_up (va_up (va_up (va_up (va_up (fun _ => none) ((0 : Int32)).toNatClampNeg (some q32)) ((1 : Int32)).toNatClampNeg (some q36)) ((2 : Int32)).toNatClampNeg (some q40)) ((3 : Int32)).toNatClampNeg (some q44)) ((4 : Int32)).toNatClampNeg (some q48)) ((5 : Int32)).toNatClampNeg (some q52))))))), (a, .inr (5, [.ref q1, .ref q2, .ref q6, .ref q10, .ref q17, .ref q24, .ref q31, .int 0, .int 0]))] X24) hD
  obtain ⟨X25, eX25⟩ : ∃ X : va_W, X = [(q62, .inr (0, [.ref q63, .int (-1 : Int32), .int 0]))] ++ X24 := ⟨_, rfl⟩
  rw [← eX25] at hP hD
  replace hP : va_P D zcl ([(q31, .inl (ca 4, 4, .inr (.inr (.inr (.inr (va_up (va_up (va_up (va_up (fun _ => none) ((0 : Int32)).toNatClampNeg (some q56)) ((1 : Int32)).toNatClampNeg (some q58)) ((2 : Int32)).toNatClampNeg (some q60)) ((3 : Int32)).toNatClampNeg (some q62))))))), (q1, .inl (ca 3, 6, .inr (.inr (.inr (.inr (va_up (va_up (va_up (va_up (va_up (va_up (fun _ => none) ((0 : Int32)).toNatClampNeg (some q32)) ((1 : Int32)).toNatClampNeg (some q36)) ((2 : Int32)).toNatClampNeg (some q40)) ((3 : Int32)).toNatClampNeg (some q44)) ((4 : Int32)).toNatClampNeg (some q48)) ((5 : Int32)).toNatClampNeg (some q52))))))), (a, .inr (5, [.ref q1, .ref q2, .ref q6, .ref q10, .ref q17, .ref q24, .ref q31, .int 0, .int 0]))] ++ X25) H49 := hP
  replace hD : va_D A ([(q31, .inl (ca 4, 4, .inr (.inr (.inr (.inr (va_up (va_up (va_up (va_up (fun _ => none) ((0 : Int32)).toNatClampNeg (some q56)) ((1 : Int32)).toNatClampNeg (some q58)) ((2 : Int32)).toNatClampNeg (some q60)) ((3 : Int32)).toNatClampNeg (some q62))))))), (q1, .inl (ca 3, 6, .inr (.inr (.inr (.inr (va_up (va_up (va_up (va_up (va_up (va_up (fun _ => none) ((0 : Int32)).toNatClampNeg (some q32)) ((1 : Int32)).toNatClampNeg (some q36)) ((2 : Int32)).toNatClampNeg (some q40)) ((3 : Int32)).toNatClampNeg (some q44)) ((4 : Int32)).toNatClampNeg (some q48)) ((5 : Int32)).toNatClampNeg (some q52))))))), (a, .inr (5, [.ref q1, .ref q2, .ref q6, .ref q10, .ref q17, .ref q24, .ref q31, .int 0, .int 0]))] ++ X25) := hD
  refine lv_iinc (v := (4 : Int32)) (lv' := [(1, .int (4 : Int32)), (0, .ref a)]) hx hb dX5_init_135 hl (k := 0) rfl (by decide) (by decide) rfl (fun _ _ => ?_)
  clear hl; try clear ls
  rename_i ls hl
  refine lv_goto (tgt := 117) hx hb dX5_init_138 (by decide) ?_
  refine lv_iload_n hx hb dX5_init_117 rfl (lv_at hl 0 rfl) ?_
  refine lv_iconst (v := (4 : Int32)) hx hb dX5_init_118 (by decide) ?_
  refine lv_icmp_ge (tgt := 141) hx hb dX5_init_119 (by decide) (fun _ => ?_) (fun c1 => absurd (by decide) c1)
  rw [eX25, eX24, eX23, eX22, eX21, eX20, eX19, eX18, eX17, eX16, eX15, eX14, eX13, eX12, eX11, eX10, eX9, eX8, eX7, eX6, eX5, eX4, eX3, eX2, eX1, eX0] at hP hD
  clear eX25 eX24 eX23 eX22 eX21 eX20 eX19 eX18 eX17 eX16 eX15 eX14 eX13 eX12 eX11 eX10 eX9 eX8 eX7 eX6 eX5 eX4 eX3 eX2 eX1 eX0
  obtain ⟨H, eH⟩ : ∃ Hq : Heap, Hq = H49 := ⟨_, rfl⟩
  rw [← eH] at hP hS ⊢
  replace hP : va_P D zcl [(q31, .inl (ca 4, 4, .inr (.inr (.inr (.inr (va_up (va_up (va_up (va_up (fun _ => none) ((0 : Int32)).toNatClampNeg (some q56)) ((1 : Int32)).toNatClampNeg (some q58)) ((2 : Int32)).toNatClampNeg (some q60)) ((3 : Int32)).toNatClampNeg (some q62))))))), (q1, .inl (ca 3, 6, .inr (.inr (.inr (.inr (va_up (va_up (va_up (va_up (va_up (va_up (fun _ => none) ((0 : Int32)).toNatClampNeg (some q32)) ((1 : Int32)).toNatClampNeg (some q36)) ((2 : Int32)).toNatClampNeg (some q40)) ((3 : Int32)).toNatClampNeg (some q44)) ((4 : Int32)).toNatClampNeg (some q48)) ((5 : Int32)).toNatClampNeg (some q52))))))), (a, .inr (5, [.ref q1, .ref q2, .ref q6, .ref q10, .ref q17, .ref q24, .ref q31, .int 0, .int 0])), (q62, .inr (0, [.ref q63, .int (-1 : Int32), .int 0])), (q63, .inl (ca 0, 40, .inl (fun _ => 0))), (q60, .inr (0, [.ref q61, .int (-1 : Int32), .int 0])), (q61, .inl (ca 0, 40, .inl (fun _ => 0))), (q58, .inr (0, [.ref q59, .int (-1 : Int32), .int 0])), (q59, .inl (ca 0, 40, .inl (fun _ => 0))), (q56, .inr (0, [.ref q57, .int (-1 : Int32), .int 0])), (q57, .inl (ca 0, 40, .inl (fun _ => 0))), (q52, .inr (3, [.ref q53, .ref q54, .ref q55])), (q53, .inl (ca 0, 160, .inl (fun _ => 0))), (q54, .inl (ca 0, 3, .inl (fun _ => 0))), (q55, .inl (ca 0, 160, .inl (fun _ => 0))), (q48, .inr (3, [.ref q49, .ref q50, .ref q51])), (q49, .inl (ca 0, 160, .inl (fun _ => 0))), (q50, .inl (ca 0, 3, .inl (fun _ => 0))), (q51, .inl (ca 0, 160, .inl (fun _ => 0))), (q44, .inr (3, [.ref q45, .ref q46, .ref q47])), (q45, .inl (ca 0, 160, .inl (fun _ => 0))), (q46, .inl (ca 0, 3, .inl (fun _ => 0))), (q47, .inl (ca 0, 160, .inl (fun _ => 0))), (q40, .inr (3, [.ref q41, .ref q42, .ref q43])), (q41, .inl (ca 0, 160, .inl (fun _ => 0))), (q42, .inl (ca 0, 3, .inl (fun _ => 0))), (q43, .inl (ca 0, 160, .inl (fun _ => 0))), (q36, .inr (3, [.ref q37, .ref q38, .ref q39])), (q37, .inl (ca 0, 160, .inl (fun _ => 0))), (q38, .inl (ca 0, 3, .inl (fun _ => 0))), (q39, .inl (ca 0, 160, .inl (fun _ => 0))), (q32, .inr (3, [.ref q33, .ref q34, .ref q35])), (q33, .inl (ca 0, 160, .inl (fun _ => 0))), (q34, .inl (ca 0, 3, .inl (fun _ => 0))), (q35, .inl (ca 0, 160, .inl (fun _ => 0))), (q24, .inr (4, [.ref q1, .ref q25, .ref q26, .ref q27, .ref q28, .ref q29, .ref q30, .int 0, .int 0, .int 0, .int 0])), (q25, .inl (ca 0, 5, .inl (fun _ => 0))), (q26, .inl (ca 0, 5, .inl (fun _ => 0))), (q27, .inl (ca 0, 5, .inl (fun _ => 0))), (q28, .inl (ca 0, 5, .inl (fun _ => 0))), (q29, .inl (ca 0, 5, .inl (fun _ => 0))), (q30, .inl (ca 0, 6, .inl (fun _ => 0))), (q17, .inr (4, [.ref q1, .ref q18, .ref q19, .ref q20, .ref q21, .ref q22, .ref q23, .int 0, .int 0, .int 0, .int 0])), (q18, .inl (ca 0, 5, .inl (fun _ => 0))), (q19, .inl (ca 0, 5, .inl (fun _ => 0))), (q20, .inl (ca 0, 5, .inl (fun _ => 0))), (q21, .inl (ca 0, 5, .inl (fun _ => 0))), (q22, .inl (ca 0, 5, .inl (fun _ => 0))), (q23, .inl (ca 0, 6, .inl (fun _ => 0))), (q10, .inr (4, [.ref q1, .ref q11, .ref q12, .ref q13, .ref q14, .ref q15, .ref q16, .int 0, .int 0, .int 0, .int 0])), (q11, .inl (ca 0, 5, .inl (fun _ => 0))), (q12, .inl (ca 0, 5, .inl (fun _ => 0))), (q13, .inl (ca 0, 5, .inl (fun _ => 0))), (q14, .inl (ca 0, 5, .inl (fun _ => 0))), (q15, .inl (ca 0, 5, .inl (fun _ => 0))), (q16, .inl (ca 0, 6, .inl (fun _ => 0))), (q6, .inr (1, [.ref q7, .ref q8, .ref q9, .int 0, .int 0, .int 0, .int (-1 : Int32)])), (q7, .inl (ca 1, 10000, .inr (.inl (fun _ => 0)))), (q8, .inl (ca 1, 31, .inr (.inl (fun _ => 0)))), (q9, .inl (ca 0, 1000, .inl (fun _ => 0))), (q2, .inr (2, [.ref q3, .ref q4, .ref q5, .int 0, .int 0, .int 0, .int 0, .int 0, .int 0])), (q3, .inl (ca 0, 160, .inl (fun _ => 0))), (q4, .inl (ca 0, 160, .inl (fun _ => 0))), (q5, .inl (ca 0, 3, .inl (fun _ => 0)))] H := hP
  replace hD : va_D A [(q31, .inl (ca 4, 4, .inr (.inr (.inr (.inr (va_up (va_up (va_up (va_up (fun _ => none) ((0 : Int32)).toNatClampNeg (some q56)) ((1 : Int32)).toNatClampNeg (some q58)) ((2 : Int32)).toNatClampNeg (some q60)) ((3 : Int32)).toNatClampNeg (some q62))))))), (q1, .inl (ca 3, 6, .inr (.inr (.inr (.inr (va_up (va_up (va_up (va_up (va_up (va_up (fun _ => none) ((0 : Int32)).toNatClampNeg (some q32)) ((1 : Int32)).toNatClampNeg (some q36)) ((2 : Int32)).toNatClampNeg (some q40)) ((3 : Int32)).toNatClampNeg (some q44)) ((4 : Int32)).toNatClampNeg (some q48)) ((5 : Int32)).toNatClampNeg (some q52))))))), (a, .inr (5, [.ref q1, .ref q2, .ref q6, .ref q10, .ref q17, .ref q24, .ref q31, .int 0, .int 0])), (q62, .inr (0, [.ref q63, .int (-1 : Int32), .int 0])), (q63, .inl (ca 0, 40, .inl (fun _ => 0))), (q60, .inr (0, [.ref q61, .int (-1 : Int32), .int 0])), (q61, .inl (ca 0, 40, .inl (fun _ => 0))), (q58, .inr (0, [.ref q59, .int (-1 : Int32), .int 0])), (q59, .inl (ca 0, 40, .inl (fun _ => 0))), (q56, .inr (0, [.ref q57, .int (-1 : Int32), .int 0])), (q57, .inl (ca 0, 40, .inl (fun _ => 0))), (q52, .inr (3, [.ref q53, .ref q54, .ref q55])), (q53, .inl (ca 0, 160, .inl (fun _ => 0))), (q54, .inl (ca 0, 3, .inl (fun _ => 0))), (q55, .inl (ca 0, 160, .inl (fun _ => 0))), (q48, .inr (3, [.ref q49, .ref q50, .ref q51])), (q49, .inl (ca 0, 160, .inl (fun _ => 0))), (q50, .inl (ca 0, 3, .inl (fun _ => 0))), (q51, .inl (ca 0, 160, .inl (fun _ => 0))), (q44, .inr (3, [.ref q45, .ref q46, .ref q47])), (q45, .inl (ca 0, 160, .inl (fun _ => 0))), (q46, .inl (ca 0, 3, .inl (fun _ => 0))), (q47, .inl (ca 0, 160, .inl (fun _ => 0))), (q40, .inr (3, [.ref q41, .ref q42, .ref q43])), (q41, .inl (ca 0, 160, .inl (fun _ => 0))), (q42, .inl (ca 0, 3, .inl (fun _ => 0))), (q43, .inl (ca 0, 160, .inl (fun _ => 0))), (q36, .inr (3, [.ref q37, .ref q38, .ref q39])), (q37, .inl (ca 0, 160, .inl (fun _ => 0))), (q38, .inl (ca 0, 3, .inl (fun _ => 0))), (q39, .inl (ca 0, 160, .inl (fun _ => 0))), (q32, .inr (3, [.ref q33, .ref q34, .ref q35])), (q33, .inl (ca 0, 160, .inl (fun _ => 0))), (q34, .inl (ca 0, 3, .inl (fun _ => 0))), (q35, .inl (ca 0, 160, .inl (fun _ => 0))), (q24, .inr (4, [.ref q1, .ref q25, .ref q26, .ref q27, .ref q28, .ref q29, .ref q30, .int 0, .int 0, .int 0, .int 0])), (q25, .inl (ca 0, 5, .inl (fun _ => 0))), (q26, .inl (ca 0, 5, .inl (fun _ => 0))), (q27, .inl (ca 0, 5, .inl (fun _ => 0))), (q28, .inl (ca 0, 5, .inl (fun _ => 0))), (q29, .inl (ca 0, 5, .inl (fun _ => 0))), (q30, .inl (ca 0, 6, .inl (fun _ => 0))), (q17, .inr (4, [.ref q1, .ref q18, .ref q19, .ref q20, .ref q21, .ref q22, .ref q23, .int 0, .int 0, .int 0, .int 0])), (q18, .inl (ca 0, 5, .inl (fun _ => 0))), (q19, .inl (ca 0, 5, .inl (fun _ => 0))), (q20, .inl (ca 0, 5, .inl (fun _ => 0))), (q21, .inl (ca 0, 5, .inl (fun _ => 0))), (q22, .inl (ca 0, 5, .inl (fun _ => 0))), (q23, .inl (ca 0, 6, .inl (fun _ => 0))), (q10, .inr (4, [.ref q1, .ref q11, .ref q12, .ref q13, .ref q14, .ref q15, .ref q16, .int 0, .int 0, .int 0, .int 0])), (q11, .inl (ca 0, 5, .inl (fun _ => 0))), (q12, .inl (ca 0, 5, .inl (fun _ => 0))), (q13, .inl (ca 0, 5, .inl (fun _ => 0))), (q14, .inl (ca 0, 5, .inl (fun _ => 0))), (q15, .inl (ca 0, 5, .inl (fun _ => 0))), (q16, .inl (ca 0, 6, .inl (fun _ => 0))), (q6, .inr (1, [.ref q7, .ref q8, .ref q9, .int 0, .int 0, .int 0, .int (-1 : Int32)])), (q7, .inl (ca 1, 10000, .inr (.inl (fun _ => 0)))), (q8, .inl (ca 1, 31, .inr (.inl (fun _ => 0)))), (q9, .inl (ca 0, 1000, .inl (fun _ => 0))), (q2, .inr (2, [.ref q3, .ref q4, .ref q5, .int 0, .int 0, .int 0, .int 0, .int 0, .int 0])), (q3, .inl (ca 0, 160, .inl (fun _ => 0))), (q4, .inl (ca 0, 160, .inl (fun _ => 0))), (q5, .inl (ca 0, 3, .inl (fun _ => 0)))] := hD
  obtain ⟨ad, had⟩ : ∃ ad : Nat → Nat, ad = fun i => [a, q1, q2, q3, q4, q5, q6, q7, q8, q9, q10, q11, q12, q13, q14, q15, q16, q17, q18, q19, q20, q21, q22, q23, q24, q25, q26, q27, q28, q29, q30, q31, q32, q33, q34, q35, q36, q37, q38, q39, q40, q41, q42, q43, q44, q45, q46, q47, q48, q49, q50, q51, q52, q53, q54, q55, q56, q57, q58, q59, q60, q61, q62, q63].getD i 0 := ⟨_, rfl⟩
  have hP := zP_fix hP 1 (zat_q (g := (fun j => some (ad (32 + 4 * j)))) (hP 1 _ rfl) (by subst had; intro j hj; rcases (show j = 0 ∨ j = 1 ∨ j = 2 ∨ j = 3 ∨ j = 4 ∨ j = 5 by omega) with rfl | rfl | rfl | rfl | rfl | rfl <;> rfl))
  have hD := hD.set (p := 1) (e := .inl (ca 3, 6, .inr (.inr (.inr (.inr (fun j => some (ad (32 + 4 * j)))))))) rfl
  have hP : va_P D zcl [(q31, .inl (ca 4, 4, .inr (.inr (.inr (.inr (va_up (va_up (va_up (va_up (fun _ => none) ((0 : Int32)).toNatClampNeg (some q56)) ((1 : Int32)).toNatClampNeg (some q58)) ((2 : Int32)).toNatClampNeg (some q60)) ((3 : Int32)).toNatClampNeg (some q62))))))), (q1, .inl (ca 3, 6, .inr (.inr (.inr (.inr (fun j => some (ad (32 + 4 * j)))))))), (a, .inr (5, [.ref q1, .ref q2, .ref q6, .ref q10, .ref q17, .ref q24, .ref q31, .int 0, .int 0])), (q62, .inr (0, [.ref q63, .int (-1 : Int32), .int 0])), (q63, .inl (ca 0, 40, .inl (fun _ => 0))), (q60, .inr (0, [.ref q61, .int (-1 : Int32), .int 0])), (q61, .inl (ca 0, 40, .inl (fun _ => 0))), (q58, .inr (0, [.ref q59, .int (-1 : Int32), .int 0])), (q59, .inl (ca 0, 40, .inl (fun _ => 0))), (q56, .inr (0, [.ref q57, .int (-1 : Int32), .int 0])), (q57, .inl (ca 0, 40, .inl (fun _ => 0))), (q52, .inr (3, [.ref q53, .ref q54, .ref q55])), (q53, .inl (ca 0, 160, .inl (fun _ => 0))), (q54, .inl (ca 0, 3, .inl (fun _ => 0))), (q55, .inl (ca 0, 160, .inl (fun _ => 0))), (q48, .inr (3, [.ref q49, .ref q50, .ref q51])), (q49, .inl (ca 0, 160, .inl (fun _ => 0))), (q50, .inl (ca 0, 3, .inl (fun _ => 0))), (q51, .inl (ca 0, 160, .inl (fun _ => 0))), (q44, .inr (3, [.ref q45, .ref q46, .ref q47])), (q45, .inl (ca 0, 160, .inl (fun _ => 0))), (q46, .inl (ca 0, 3, .inl (fun _ => 0))), (q47, .inl (ca 0, 160, .inl (fun _ => 0))), (q40, .inr (3, [.ref q41, .ref q42, .ref q43])), (q41, .inl (ca 0, 160, .inl (fun _ => 0))), (q42, .inl (ca 0, 3, .inl (fun _ => 0))), (q43, .inl (ca 0, 160, .inl (fun _ => 0))), (q36, .inr (3, [.ref q37, .ref q38, .ref q39])), (q37, .inl (ca 0, 160, .inl (fun _ => 0))), (q38, .inl (ca 0, 3, .inl (fun _ => 0))), (q39, .inl (ca 0, 160, .inl (fun _ => 0))), (q32, .inr (3, [.ref q33, .ref q34, .ref q35])), (q33, .inl (ca 0, 160, .inl (fun _ => 0))), (q34, .inl (ca 0, 3, .inl (fun _ => 0))), (q35, .inl (ca 0, 160, .inl (fun _ => 0))), (q24, .inr (4, [.ref q1, .ref q25, .ref q26, .ref q27, .ref q28, .ref q29, .ref q30, .int 0, .int 0, .int 0, .int 0])), (q25, .inl (ca 0, 5, .inl (fun _ => 0))), (q26, .inl (ca 0, 5, .inl (fun _ => 0))), (q27, .inl (ca 0, 5, .inl (fun _ => 0))), (q28, .inl (ca 0, 5, .inl (fun _ => 0))), (q29, .inl (ca 0, 5, .inl (fun _ => 0))), (q30, .inl (ca 0, 6, .inl (fun _ => 0))), (q17, .inr (4, [.ref q1, .ref q18, .ref q19, .ref q20, .ref q21, .ref q22, .ref q23, .int 0, .int 0, .int 0, .int 0])), (q18, .inl (ca 0, 5, .inl (fun _ => 0))), (q19, .inl (ca 0, 5, .inl (fun _ => 0))), (q20, .inl (ca 0, 5, .inl (fun _ => 0))), (q21, .inl (ca 0, 5, .inl (fun _ => 0))), (q22, .inl (ca 0, 5, .inl (fun _ => 0))), (q23, .inl (ca 0, 6, .inl (fun _ => 0))), (q10, .inr (4, [.ref q1, .ref q11, .ref q12, .ref q13, .ref q14, .ref q15, .ref q16, .int 0, .int 0, .int 0, .int 0])), (q11, .inl (ca 0, 5, .inl (fun _ => 0))), (q12, .inl (ca 0, 5, .inl (fun _ => 0))), (q13, .inl (ca 0, 5, .inl (fun _ => 0))), (q14, .inl (ca 0, 5, .inl (fun _ => 0))), (q15, .inl (ca 0, 5, .inl (fun _ => 0))), (q16, .inl (ca 0, 6, .inl (fun _ => 0))), (q6, .inr (1, [.ref q7, .ref q8, .ref q9, .int 0, .int 0, .int 0, .int (-1 : Int32)])), (q7, .inl (ca 1, 10000, .inr (.inl (fun _ => 0)))), (q8, .inl (ca 1, 31, .inr (.inl (fun _ => 0)))), (q9, .inl (ca 0, 1000, .inl (fun _ => 0))), (q2, .inr (2, [.ref q3, .ref q4, .ref q5, .int 0, .int 0, .int 0, .int 0, .int 0, .int 0])), (q3, .inl (ca 0, 160, .inl (fun _ => 0))), (q4, .inl (ca 0, 160, .inl (fun _ => 0))), (q5, .inl (ca 0, 3, .inl (fun _ => 0)))] H := hP
  have hD : va_D A [(q31, .inl (ca 4, 4, .inr (.inr (.inr (.inr (va_up (va_up (va_up (va_up (fun _ => none) ((0 : Int32)).toNatClampNeg (some q56)) ((1 : Int32)).toNatClampNeg (some q58)) ((2 : Int32)).toNatClampNeg (some q60)) ((3 : Int32)).toNatClampNeg (some q62))))))), (q1, .inl (ca 3, 6, .inr (.inr (.inr (.inr (fun j => some (ad (32 + 4 * j)))))))), (a, .inr (5, [.ref q1, .ref q2, .ref q6, .ref q10, .ref q17, .ref q24, .ref q31, .int 0, .int 0])), (q62, .inr (0, [.ref q63, .int (-1 : Int32), .int 0])), (q63, .inl (ca 0, 40, .inl (fun _ => 0))), (q60, .inr (0, [.ref q61, .int (-1 : Int32), .int 0])), (q61, .inl (ca 0, 40, .inl (fun _ => 0))), (q58, .inr (0, [.ref q59, .int (-1 : Int32), .int 0])), (q59, .inl (ca 0, 40, .inl (fun _ => 0))), (q56, .inr (0, [.ref q57, .int (-1 : Int32), .int 0])), (q57, .inl (ca 0, 40, .inl (fun _ => 0))), (q52, .inr (3, [.ref q53, .ref q54, .ref q55])), (q53, .inl (ca 0, 160, .inl (fun _ => 0))), (q54, .inl (ca 0, 3, .inl (fun _ => 0))), (q55, .inl (ca 0, 160, .inl (fun _ => 0))), (q48, .inr (3, [.ref q49, .ref q50, .ref q51])), (q49, .inl (ca 0, 160, .inl (fun _ => 0))), (q50, .inl (ca 0, 3, .inl (fun _ => 0))), (q51, .inl (ca 0, 160, .inl (fun _ => 0))), (q44, .inr (3, [.ref q45, .ref q46, .ref q47])), (q45, .inl (ca 0, 160, .inl (fun _ => 0))), (q46, .inl (ca 0, 3, .inl (fun _ => 0))), (q47, .inl (ca 0, 160, .inl (fun _ => 0))), (q40, .inr (3, [.ref q41, .ref q42, .ref q43])), (q41, .inl (ca 0, 160, .inl (fun _ => 0))), (q42, .inl (ca 0, 3, .inl (fun _ => 0))), (q43, .inl (ca 0, 160, .inl (fun _ => 0))), (q36, .inr (3, [.ref q37, .ref q38, .ref q39])), (q37, .inl (ca 0, 160, .inl (fun _ => 0))), (q38, .inl (ca 0, 3, .inl (fun _ => 0))), (q39, .inl (ca 0, 160, .inl (fun _ => 0))), (q32, .inr (3, [.ref q33, .ref q34, .ref q35])), (q33, .inl (ca 0, 160, .inl (fun _ => 0))), (q34, .inl (ca 0, 3, .inl (fun _ => 0))), (q35, .inl (ca 0, 160, .inl (fun _ => 0))), (q24, .inr (4, [.ref q1, .ref q25, .ref q26, .ref q27, .ref q28, .ref q29, .ref q30, .int 0, .int 0, .int 0, .int 0])), (q25, .inl (ca 0, 5, .inl (fun _ => 0))), (q26, .inl (ca 0, 5, .inl (fun _ => 0))), (q27, .inl (ca 0, 5, .inl (fun _ => 0))), (q28, .inl (ca 0, 5, .inl (fun _ => 0))), (q29, .inl (ca 0, 5, .inl (fun _ => 0))), (q30, .inl (ca 0, 6, .inl (fun _ => 0))), (q17, .inr (4, [.ref q1, .ref q18, .ref q19, .ref q20, .ref q21, .ref q22, .ref q23, .int 0, .int 0, .int 0, .int 0])), (q18, .inl (ca 0, 5, .inl (fun _ => 0))), (q19, .inl (ca 0, 5, .inl (fun _ => 0))), (q20, .inl (ca 0, 5, .inl (fun _ => 0))), (q21, .inl (ca 0, 5, .inl (fun _ => 0))), (q22, .inl (ca 0, 5, .inl (fun _ => 0))), (q23, .inl (ca 0, 6, .inl (fun _ => 0))), (q10, .inr (4, [.ref q1, .ref q11, .ref q12, .ref q13, .ref q14, .ref q15, .ref q16, .int 0, .int 0, .int 0, .int 0])), (q11, .inl (ca 0, 5, .inl (fun _ => 0))), (q12, .inl (ca 0, 5, .inl (fun _ => 0))), (q13, .inl (ca 0, 5, .inl (fun _ => 0))), (q14, .inl (ca 0, 5, .inl (fun _ => 0))), (q15, .inl (ca 0, 5, .inl (fun _ => 0))), (q16, .inl (ca 0, 6, .inl (fun _ => 0))), (q6, .inr (1, [.ref q7, .ref q8, .ref q9, .int 0, .int 0, .int 0, .int (-1 : Int32)])), (q7, .inl (ca 1, 10000, .inr (.inl (fun _ => 0)))), (q8, .inl (ca 1, 31, .inr (.inl (fun _ => 0)))), (q9, .inl (ca 0, 1000, .inl (fun _ => 0))), (q2, .inr (2, [.ref q3, .ref q4, .ref q5, .int 0, .int 0, .int 0, .int 0, .int 0, .int 0])), (q3, .inl (ca 0, 160, .inl (fun _ => 0))), (q4, .inl (ca 0, 160, .inl (fun _ => 0))), (q5, .inl (ca 0, 3, .inl (fun _ => 0)))] := hD
  have hP := zP_fix hP 0 (zat_q (g := (fun j => some (ad (56 + 2 * j)))) (hP 0 _ rfl) (by subst had; intro j hj; rcases (show j = 0 ∨ j = 1 ∨ j = 2 ∨ j = 3 by omega) with rfl | rfl | rfl | rfl <;> rfl))
  have hD := hD.set (p := 0) (e := .inl (ca 4, 4, .inr (.inr (.inr (.inr (fun j => some (ad (56 + 2 * j)))))))) rfl
  have hP : va_P D zcl [(q31, .inl (ca 4, 4, .inr (.inr (.inr (.inr (fun j => some (ad (56 + 2 * j)))))))), (q1, .inl (ca 3, 6, .inr (.inr (.inr (.inr (fun j => some (ad (32 + 4 * j)))))))), (a, .inr (5, [.ref q1, .ref q2, .ref q6, .ref q10, .ref q17, .ref q24, .ref q31, .int 0, .int 0])), (q62, .inr (0, [.ref q63, .int (-1 : Int32), .int 0])), (q63, .inl (ca 0, 40, .inl (fun _ => 0))), (q60, .inr (0, [.ref q61, .int (-1 : Int32), .int 0])), (q61, .inl (ca 0, 40, .inl (fun _ => 0))), (q58, .inr (0, [.ref q59, .int (-1 : Int32), .int 0])), (q59, .inl (ca 0, 40, .inl (fun _ => 0))), (q56, .inr (0, [.ref q57, .int (-1 : Int32), .int 0])), (q57, .inl (ca 0, 40, .inl (fun _ => 0))), (q52, .inr (3, [.ref q53, .ref q54, .ref q55])), (q53, .inl (ca 0, 160, .inl (fun _ => 0))), (q54, .inl (ca 0, 3, .inl (fun _ => 0))), (q55, .inl (ca 0, 160, .inl (fun _ => 0))), (q48, .inr (3, [.ref q49, .ref q50, .ref q51])), (q49, .inl (ca 0, 160, .inl (fun _ => 0))), (q50, .inl (ca 0, 3, .inl (fun _ => 0))), (q51, .inl (ca 0, 160, .inl (fun _ => 0))), (q44, .inr (3, [.ref q45, .ref q46, .ref q47])), (q45, .inl (ca 0, 160, .inl (fun _ => 0))), (q46, .inl (ca 0, 3, .inl (fun _ => 0))), (q47, .inl (ca 0, 160, .inl (fun _ => 0))), (q40, .inr (3, [.ref q41, .ref q42, .ref q43])), (q41, .inl (ca 0, 160, .inl (fun _ => 0))), (q42, .inl (ca 0, 3, .inl (fun _ => 0))), (q43, .inl (ca 0, 160, .inl (fun _ => 0))), (q36, .inr (3, [.ref q37, .ref q38, .ref q39])), (q37, .inl (ca 0, 160, .inl (fun _ => 0))), (q38, .inl (ca 0, 3, .inl (fun _ => 0))), (q39, .inl (ca 0, 160, .inl (fun _ => 0))), (q32, .inr (3, [.ref q33, .ref q34, .ref q35])), (q33, .inl (ca 0, 160, .inl (fun _ => 0))), (q34, .inl (ca 0, 3, .inl (fun _ => 0))), (q35, .inl (ca 0, 160, .inl (fun _ => 0))), (q24, .inr (4, [.ref q1, .ref q25, .ref q26, .ref q27, .ref q28, .ref q29, .ref q30, .int 0, .int 0, .int 0, .int 0])), (q25, .inl (ca 0, 5, .inl (fun _ => 0))), (q26, .inl (ca 0, 5, .inl (fun _ => 0))), (q27, .inl (ca 0, 5, .inl (fun _ => 0))), (q28, .inl (ca 0, 5, .inl (fun _ => 0))), (q29, .inl (ca 0, 5, .inl (fun _ => 0))), (q30, .inl (ca 0, 6, .inl (fun _ => 0))), (q17, .inr (4, [.ref q1, .ref q18, .ref q19, .ref q20, .ref q21, .ref q22, .ref q23, .int 0, .int 0, .int 0, .int 0])), (q18, .inl (ca 0, 5, .inl (fun _ => 0))), (q19, .inl (ca 0, 5, .inl (fun _ => 0))), (q20, .inl (ca 0, 5, .inl (fun _ => 0))), (q21, .inl (ca 0, 5, .inl (fun _ => 0))), (q22, .inl (ca 0, 5, .inl (fun _ => 0))), (q23, .inl (ca 0, 6, .inl (fun _ => 0))), (q10, .inr (4, [.ref q1, .ref q11, .ref q12, .ref q13, .ref q14, .ref q15, .ref q16, .int 0, .int 0, .int 0, .int 0])), (q11, .inl (ca 0, 5, .inl (fun _ => 0))), (q12, .inl (ca 0, 5, .inl (fun _ => 0))), (q13, .inl (ca 0, 5, .inl (fun _ => 0))), (q14, .inl (ca 0, 5, .inl (fun _ => 0))), (q15, .inl (ca 0, 5, .inl (fun _ => 0))), (q16, .inl (ca 0, 6, .inl (fun _ => 0))), (q6, .inr (1, [.ref q7, .ref q8, .ref q9, .int 0, .int 0, .int 0, .int (-1 : Int32)])), (q7, .inl (ca 1, 10000, .inr (.inl (fun _ => 0)))), (q8, .inl (ca 1, 31, .inr (.inl (fun _ => 0)))), (q9, .inl (ca 0, 1000, .inl (fun _ => 0))), (q2, .inr (2, [.ref q3, .ref q4, .ref q5, .int 0, .int 0, .int 0, .int 0, .int 0, .int 0])), (q3, .inl (ca 0, 160, .inl (fun _ => 0))), (q4, .inl (ca 0, 160, .inl (fun _ => 0))), (q5, .inl (ca 0, 3, .inl (fun _ => 0)))] H := hP
  have hD : va_D A [(q31, .inl (ca 4, 4, .inr (.inr (.inr (.inr (fun j => some (ad (56 + 2 * j)))))))), (q1, .inl (ca 3, 6, .inr (.inr (.inr (.inr (fun j => some (ad (32 + 4 * j)))))))), (a, .inr (5, [.ref q1, .ref q2, .ref q6, .ref q10, .ref q17, .ref q24, .ref q31, .int 0, .int 0])), (q62, .inr (0, [.ref q63, .int (-1 : Int32), .int 0])), (q63, .inl (ca 0, 40, .inl (fun _ => 0))), (q60, .inr (0, [.ref q61, .int (-1 : Int32), .int 0])), (q61, .inl (ca 0, 40, .inl (fun _ => 0))), (q58, .inr (0, [.ref q59, .int (-1 : Int32), .int 0])), (q59, .inl (ca 0, 40, .inl (fun _ => 0))), (q56, .inr (0, [.ref q57, .int (-1 : Int32), .int 0])), (q57, .inl (ca 0, 40, .inl (fun _ => 0))), (q52, .inr (3, [.ref q53, .ref q54, .ref q55])), (q53, .inl (ca 0, 160, .inl (fun _ => 0))), (q54, .inl (ca 0, 3, .inl (fun _ => 0))), (q55, .inl (ca 0, 160, .inl (fun _ => 0))), (q48, .inr (3, [.ref q49, .ref q50, .ref q51])), (q49, .inl (ca 0, 160, .inl (fun _ => 0))), (q50, .inl (ca 0, 3, .inl (fun _ => 0))), (q51, .inl (ca 0, 160, .inl (fun _ => 0))), (q44, .inr (3, [.ref q45, .ref q46, .ref q47])), (q45, .inl (ca 0, 160, .inl (fun _ => 0))), (q46, .inl (ca 0, 3, .inl (fun _ => 0))), (q47, .inl (ca 0, 160, .inl (fun _ => 0))), (q40, .inr (3, [.ref q41, .ref q42, .ref q43])), (q41, .inl (ca 0, 160, .inl (fun _ => 0))), (q42, .inl (ca 0, 3, .inl (fun _ => 0))), (q43, .inl (ca 0, 160, .inl (fun _ => 0))), (q36, .inr (3, [.ref q37, .ref q38, .ref q39])), (q37, .inl (ca 0, 160, .inl (fun _ => 0))), (q38, .inl (ca 0, 3, .inl (fun _ => 0))), (q39, .inl (ca 0, 160, .inl (fun _ => 0))), (q32, .inr (3, [.ref q33, .ref q34, .ref q35])), (q33, .inl (ca 0, 160, .inl (fun _ => 0))), (q34, .inl (ca 0, 3, .inl (fun _ => 0))), (q35, .inl (ca 0, 160, .inl (fun _ => 0))), (q24, .inr (4, [.ref q1, .ref q25, .ref q26, .ref q27, .ref q28, .ref q29, .ref q30, .int 0, .int 0, .int 0, .int 0])), (q25, .inl (ca 0, 5, .inl (fun _ => 0))), (q26, .inl (ca 0, 5, .inl (fun _ => 0))), (q27, .inl (ca 0, 5, .inl (fun _ => 0))), (q28, .inl (ca 0, 5, .inl (fun _ => 0))), (q29, .inl (ca 0, 5, .inl (fun _ => 0))), (q30, .inl (ca 0, 6, .inl (fun _ => 0))), (q17, .inr (4, [.ref q1, .ref q18, .ref q19, .ref q20, .ref q21, .ref q22, .ref q23, .int 0, .int 0, .int 0, .int 0])), (q18, .inl (ca 0, 5, .inl (fun _ => 0))), (q19, .inl (ca 0, 5, .inl (fun _ => 0))), (q20, .inl (ca 0, 5, .inl (fun _ => 0))), (q21, .inl (ca 0, 5, .inl (fun _ => 0))), (q22, .inl (ca 0, 5, .inl (fun _ => 0))), (q23, .inl (ca 0, 6, .inl (fun _ => 0))), (q10, .inr (4, [.ref q1, .ref q11, .ref q12, .ref q13, .ref q14, .ref q15, .ref q16, .int 0, .int 0, .int 0, .int 0])), (q11, .inl (ca 0, 5, .inl (fun _ => 0))), (q12, .inl (ca 0, 5, .inl (fun _ => 0))), (q13, .inl (ca 0, 5, .inl (fun _ => 0))), (q14, .inl (ca 0, 5, .inl (fun _ => 0))), (q15, .inl (ca 0, 5, .inl (fun _ => 0))), (q16, .inl (ca 0, 6, .inl (fun _ => 0))), (q6, .inr (1, [.ref q7, .ref q8, .ref q9, .int 0, .int 0, .int 0, .int (-1 : Int32)])), (q7, .inl (ca 1, 10000, .inr (.inl (fun _ => 0)))), (q8, .inl (ca 1, 31, .inr (.inl (fun _ => 0)))), (q9, .inl (ca 0, 1000, .inl (fun _ => 0))), (q2, .inr (2, [.ref q3, .ref q4, .ref q5, .int 0, .int 0, .int 0, .int 0, .int 0, .int 0])), (q3, .inl (ca 0, 160, .inl (fun _ => 0))), (q4, .inl (ca 0, 160, .inl (fun _ => 0))), (q5, .inl (ca 0, 3, .inl (fun _ => 0)))] := hD
  obtain ⟨pf, hpf⟩ : ∃ pf : Nat → Nat, pf = fun i => [2, 1, 60, 61, 62, 63, 56, 57, 58, 59, 49, 50, 51, 52, 53, 54, 55, 42, 43, 44, 45, 46, 47, 48, 35, 36, 37, 38, 39, 40, 41, 0, 31, 32, 33, 34, 27, 28, 29, 30, 23, 24, 25, 26, 19, 20, 21, 22, 15, 16, 17, 18, 11, 12, 13, 14, 9, 10, 7, 8, 5, 6, 3, 4].getD i 0 := ⟨_, rfl⟩
  have key : ∀ i, i < 64 → (∃ e, ([(q31, .inl (ca 4, 4, .inr (.inr (.inr (.inr (fun j => some (ad (56 + 2 * j)))))))), (q1, .inl (ca 3, 6, .inr (.inr (.inr (.inr (fun j => some (ad (32 + 4 * j)))))))), (a, .inr (5, [.ref q1, .ref q2, .ref q6, .ref q10, .ref q17, .ref q24, .ref q31, .int 0, .int 0])), (q62, .inr (0, [.ref q63, .int (-1 : Int32), .int 0])), (q63, .inl (ca 0, 40, .inl (fun _ => 0))), (q60, .inr (0, [.ref q61, .int (-1 : Int32), .int 0])), (q61, .inl (ca 0, 40, .inl (fun _ => 0))), (q58, .inr (0, [.ref q59, .int (-1 : Int32), .int 0])), (q59, .inl (ca 0, 40, .inl (fun _ => 0))), (q56, .inr (0, [.ref q57, .int (-1 : Int32), .int 0])), (q57, .inl (ca 0, 40, .inl (fun _ => 0))), (q52, .inr (3, [.ref q53, .ref q54, .ref q55])), (q53, .inl (ca 0, 160, .inl (fun _ => 0))), (q54, .inl (ca 0, 3, .inl (fun _ => 0))), (q55, .inl (ca 0, 160, .inl (fun _ => 0))), (q48, .inr (3, [.ref q49, .ref q50, .ref q51])), (q49, .inl (ca 0, 160, .inl (fun _ => 0))), (q50, .inl (ca 0, 3, .inl (fun _ => 0))), (q51, .inl (ca 0, 160, .inl (fun _ => 0))), (q44, .inr (3, [.ref q45, .ref q46, .ref q47])), (q45, .inl (ca 0, 160, .inl (fun _ => 0))), (q46, .inl (ca 0, 3, .inl (fun _ => 0))), (q47, .inl (ca 0, 160, .inl (fun _ => 0))), (q40, .inr (3, [.ref q41, .ref q42, .ref q43])), (q41, .inl (ca 0, 160, .inl (fun _ => 0))), (q42, .inl (ca 0, 3, .inl (fun _ => 0))), (q43, .inl (ca 0, 160, .inl (fun _ => 0))), (q36, .inr (3, [.ref q37, .ref q38, .ref q39])), (q37, .inl (ca 0, 160, .inl (fun _ => 0))), (q38, .inl (ca 0, 3, .inl (fun _ => 0))), (q39, .inl (ca 0, 160, .inl (fun _ => 0))), (q32, .inr (3, [.ref q33, .ref q34, .ref q35])), (q33, .inl (ca 0, 160, .inl (fun _ => 0))), (q34, .inl (ca 0, 3, .inl (fun _ => 0))), (q35, .inl (ca 0, 160, .inl (fun _ => 0))), (q24, .inr (4, [.ref q1, .ref q25, .ref q26, .ref q27, .ref q28, .ref q29, .ref q30, .int 0, .int 0, .int 0, .int 0])), (q25, .inl (ca 0, 5, .inl (fun _ => 0))), (q26, .inl (ca 0, 5, .inl (fun _ => 0))), (q27, .inl (ca 0, 5, .inl (fun _ => 0))), (q28, .inl (ca 0, 5, .inl (fun _ => 0))), (q29, .inl (ca 0, 5, .inl (fun _ => 0))), (q30, .inl (ca 0, 6, .inl (fun _ => 0))), (q17, .inr (4, [.ref q1, .ref q18, .ref q19, .ref q20, .ref q21, .ref q22, .ref q23, .int 0, .int 0, .int 0, .int 0])), (q18, .inl (ca 0, 5, .inl (fun _ => 0))), (q19, .inl (ca 0, 5, .inl (fun _ => 0))), (q20, .inl (ca 0, 5, .inl (fun _ => 0))), (q21, .inl (ca 0, 5, .inl (fun _ => 0))), (q22, .inl (ca 0, 5, .inl (fun _ => 0))), (q23, .inl (ca 0, 6, .inl (fun _ => 0))), (q10, .inr (4, [.ref q1, .ref q11, .ref q12, .ref q13, .ref q14, .ref q15, .ref q16, .int 0, .int 0, .int 0, .int 0])), (q11, .inl (ca 0, 5, .inl (fun _ => 0))), (q12, .inl (ca 0, 5, .inl (fun _ => 0))), (q13, .inl (ca 0, 5, .inl (fun _ => 0))), (q14, .inl (ca 0, 5, .inl (fun _ => 0))), (q15, .inl (ca 0, 5, .inl (fun _ => 0))), (q16, .inl (ca 0, 6, .inl (fun _ => 0))), (q6, .inr (1, [.ref q7, .ref q8, .ref q9, .int 0, .int 0, .int 0, .int (-1 : Int32)])), (q7, .inl (ca 1, 10000, .inr (.inl (fun _ => 0)))), (q8, .inl (ca 1, 31, .inr (.inl (fun _ => 0)))), (q9, .inl (ca 0, 1000, .inl (fun _ => 0))), (q2, .inr (2, [.ref q3, .ref q4, .ref q5, .int 0, .int 0, .int 0, .int 0, .int 0, .int 0])), (q3, .inl (ca 0, 160, .inl (fun _ => 0))), (q4, .inl (ca 0, 160, .inl (fun _ => 0))), (q5, .inl (ca 0, 3, .inl (fun _ => 0)))] : va_W)[pf i]? = some (ad i, e)) ∧ va_at D zcl (ad i, zcell (D, ca, ad, sa) zM0X i (shX i)) H := by
    intro i hi
    rcases (show i = 0 ∨ i = 1 ∨ i = 2 ∨ i = 3 ∨ i = 4 ∨ i = 5 ∨ i = 6 ∨ i = 7 ∨ i = 8 ∨ i = 9 ∨ i = 10 ∨ i = 11 ∨ i = 12 ∨ i = 13 ∨ i = 14 ∨ i = 15 ∨ i = 16 ∨ i = 17 ∨ i = 18 ∨ i = 19 ∨ i = 20 ∨ i = 21 ∨ i = 22 ∨ i = 23 ∨ i = 24 ∨ i = 25 ∨ i = 26 ∨ i = 27 ∨ i = 28 ∨ i = 29 ∨ i = 30 ∨ i = 31 ∨ i = 32 ∨ i = 33 ∨ i = 34 ∨ i = 35 ∨ i = 36 ∨ i = 37 ∨ i = 38 ∨ i = 39 ∨ i = 40 ∨ i = 41 ∨ i = 42 ∨ i = 43 ∨ i = 44 ∨ i = 45 ∨ i = 46 ∨ i = 47 ∨ i = 48 ∨ i = 49 ∨ i = 50 ∨ i = 51 ∨ i = 52 ∨ i = 53 ∨ i = 54 ∨ i = 55 ∨ i = 56 ∨ i = 57 ∨ i = 58 ∨ i = 59 ∨ i = 60 ∨ i = 61 ∨ i = 62 ∨ i = 63 by omega) with rfl | rfl | rfl | rfl | rfl | rfl | rfl | rfl | rfl | rfl | rfl | rfl | rfl | rfl | rfl | rfl | rfl | rfl | rfl | rfl | rfl | rfl | rfl | rfl | rfl | rfl | rfl | rfl | rfl | rfl | rfl | rfl | rfl | rfl | rfl | rfl | rfl | rfl | rfl | rfl | rfl | rfl | rfl | rfl | rfl | rfl | rfl | rfl | rfl | rfl | rfl | rfl | rfl | rfl | rfl | rfl | rfl | rfl | rfl | rfl | rfl | rfl | rfl | rfl
    · exact ⟨⟨_, by rw [hpf, had]; rfl⟩, by rw [had]; exact hP 2 _ rfl⟩
    · exact ⟨⟨_, by rw [hpf, had]; rfl⟩, by rw [show ad 1 = q1 from by rw [had]; rfl]; exact hP 1 _ rfl⟩
    · exact ⟨⟨_, by rw [hpf, had]; rfl⟩, by rw [had]; exact hP 60 _ rfl⟩
    · exact ⟨⟨_, by rw [hpf, had]; rfl⟩, by rw [had]; exact hP 61 _ rfl⟩
    · exact ⟨⟨_, by rw [hpf, had]; rfl⟩, by rw [had]; exact hP 62 _ rfl⟩
    · exact ⟨⟨_, by rw [hpf, had]; rfl⟩, by rw [had]; exact hP 63 _ rfl⟩
    · exact ⟨⟨_, by rw [hpf, had]; rfl⟩, by rw [had]; exact hP 56 _ rfl⟩
    · exact ⟨⟨_, by rw [hpf, had]; rfl⟩, by rw [had]; exact hP 57 _ rfl⟩
    · exact ⟨⟨_, by rw [hpf, had]; rfl⟩, by rw [had]; exact hP 58 _ rfl⟩
    · exact ⟨⟨_, by rw [hpf, had]; rfl⟩, by rw [had]; exact hP 59 _ rfl⟩
    · exact ⟨⟨_, by rw [hpf, had]; rfl⟩, by rw [had]; exact hP 49 _ rfl⟩
    · exact ⟨⟨_, by rw [hpf, had]; rfl⟩, by rw [had]; exact hP 50 _ rfl⟩
    · exact ⟨⟨_, by rw [hpf, had]; rfl⟩, by rw [had]; exact hP 51 _ rfl⟩
    · exact ⟨⟨_, by rw [hpf, had]; rfl⟩, by rw [had]; exact hP 52 _ rfl⟩
    · exact ⟨⟨_, by rw [hpf, had]; rfl⟩, by rw [had]; exact hP 53 _ rfl⟩
    · exact ⟨⟨_, by rw [hpf, had]; rfl⟩, by rw [had]; exact hP 54 _ rfl⟩
    · exact ⟨⟨_, by rw [hpf, had]; rfl⟩, by rw [had]; exact hP 55 _ rfl⟩
    · exact ⟨⟨_, by rw [hpf, had]; rfl⟩, by rw [had]; exact hP 42 _ rfl⟩
    · exact ⟨⟨_, by rw [hpf, had]; rfl⟩, by rw [had]; exact hP 43 _ rfl⟩
    · exact ⟨⟨_, by rw [hpf, had]; rfl⟩, by rw [had]; exact hP 44 _ rfl⟩
    · exact ⟨⟨_, by rw [hpf, had]; rfl⟩, by rw [had]; exact hP 45 _ rfl⟩
    · exact ⟨⟨_, by rw [hpf, had]; rfl⟩, by rw [had]; exact hP 46 _ rfl⟩
    · exact ⟨⟨_, by rw [hpf, had]; rfl⟩, by rw [had]; exact hP 47 _ rfl⟩
    · exact ⟨⟨_, by rw [hpf, had]; rfl⟩, by rw [had]; exact hP 48 _ rfl⟩
    · exact ⟨⟨_, by rw [hpf, had]; rfl⟩, by rw [had]; exact hP 35 _ rfl⟩
    · exact ⟨⟨_, by rw [hpf, had]; rfl⟩, by rw [had]; exact hP 36 _ rfl⟩
    · exact ⟨⟨_, by rw [hpf, had]; rfl⟩, by rw [had]; exact hP 37 _ rfl⟩
    · exact ⟨⟨_, by rw [hpf, had]; rfl⟩, by rw [had]; exact hP 38 _ rfl⟩
    · exact ⟨⟨_, by rw [hpf, had]; rfl⟩, by rw [had]; exact hP 39 _ rfl⟩
    · exact ⟨⟨_, by rw [hpf, had]; rfl⟩, by rw [had]; exact hP 40 _ rfl⟩
    · exact ⟨⟨_, by rw [hpf, had]; rfl⟩, by rw [had]; exact hP 41 _ rfl⟩
    · exact ⟨⟨_, by rw [hpf, had]; rfl⟩, by rw [show ad 31 = q31 from by rw [had]; rfl]; exact hP 0 _ rfl⟩
    · exact ⟨⟨_, by rw [hpf, had]; rfl⟩, by rw [had]; exact hP 31 _ rfl⟩
    · exact ⟨⟨_, by rw [hpf, had]; rfl⟩, by rw [had]; exact hP 32 _ rfl⟩
    · exact ⟨⟨_, by rw [hpf, had]; rfl⟩, by rw [had]; exact hP 33 _ rfl⟩
    · exact ⟨⟨_, by rw [hpf, had]; rfl⟩, by rw [had]; exact hP 34 _ rfl⟩
    · exact ⟨⟨_, by rw [hpf, had]; rfl⟩, by rw [had]; exact hP 27 _ rfl⟩
    · exact ⟨⟨_, by rw [hpf, had]; rfl⟩, by rw [had]; exact hP 28 _ rfl⟩
    · exact ⟨⟨_, by rw [hpf, had]; rfl⟩, by rw [had]; exact hP 29 _ rfl⟩
    · exact ⟨⟨_, by rw [hpf, had]; rfl⟩, by rw [had]; exact hP 30 _ rfl⟩
    · exact ⟨⟨_, by rw [hpf, had]; rfl⟩, by rw [had]; exact hP 23 _ rfl⟩
    · exact ⟨⟨_, by rw [hpf, had]; rfl⟩, by rw [had]; exact hP 24 _ rfl⟩
    · exact ⟨⟨_, by rw [hpf, had]; rfl⟩, by rw [had]; exact hP 25 _ rfl⟩
    · exact ⟨⟨_, by rw [hpf, had]; rfl⟩, by rw [had]; exact hP 26 _ rfl⟩
    · exact ⟨⟨_, by rw [hpf, had]; rfl⟩, by rw [had]; exact hP 19 _ rfl⟩
    · exact ⟨⟨_, by rw [hpf, had]; rfl⟩, by rw [had]; exact hP 20 _ rfl⟩
    · exact ⟨⟨_, by rw [hpf, had]; rfl⟩, by rw [had]; exact hP 21 _ rfl⟩
    · exact ⟨⟨_, by rw [hpf, had]; rfl⟩, by rw [had]; exact hP 22 _ rfl⟩
    · exact ⟨⟨_, by rw [hpf, had]; rfl⟩, by rw [had]; exact hP 15 _ rfl⟩
    · exact ⟨⟨_, by rw [hpf, had]; rfl⟩, by rw [had]; exact hP 16 _ rfl⟩
    · exact ⟨⟨_, by rw [hpf, had]; rfl⟩, by rw [had]; exact hP 17 _ rfl⟩
    · exact ⟨⟨_, by rw [hpf, had]; rfl⟩, by rw [had]; exact hP 18 _ rfl⟩
    · exact ⟨⟨_, by rw [hpf, had]; rfl⟩, by rw [had]; exact hP 11 _ rfl⟩
    · exact ⟨⟨_, by rw [hpf, had]; rfl⟩, by rw [had]; exact hP 12 _ rfl⟩
    · exact ⟨⟨_, by rw [hpf, had]; rfl⟩, by rw [had]; exact hP 13 _ rfl⟩
    · exact ⟨⟨_, by rw [hpf, had]; rfl⟩, by rw [had]; exact hP 14 _ rfl⟩
    · exact ⟨⟨_, by rw [hpf, had]; rfl⟩, by rw [had]; exact hP 9 _ rfl⟩
    · exact ⟨⟨_, by rw [hpf, had]; rfl⟩, by rw [had]; exact hP 10 _ rfl⟩
    · exact ⟨⟨_, by rw [hpf, had]; rfl⟩, by rw [had]; exact hP 7 _ rfl⟩
    · exact ⟨⟨_, by rw [hpf, had]; rfl⟩, by rw [had]; exact hP 8 _ rfl⟩
    · exact ⟨⟨_, by rw [hpf, had]; rfl⟩, by rw [had]; exact hP 5 _ rfl⟩
    · exact ⟨⟨_, by rw [hpf, had]; rfl⟩, by rw [had]; exact hP 6 _ rfl⟩
    · exact ⟨⟨_, by rw [hpf, had]; rfl⟩, by rw [had]; exact hP 3 _ rfl⟩
    · exact ⟨⟨_, by rw [hpf, had]; rfl⟩, by rw [had]; exact hP 4 _ rfl⟩
  have hpi : ∀ i, i < 64 → ∀ j, j < 64 → pf i = pf j → i = j := by rw [hpf]; decide +kernel
  have hP : va_P D zcl (zw (D, ca, ad, sa) shX 64 zM0X) H := zPz (fun i hi => (key i hi).2)
  have hJ : zJ (D, ca, ad, sa) 64 := fun i j hi hj e => by
    obtain ⟨⟨e1, h1⟩, -⟩ := key i hi
    obtain ⟨⟨e2, h2⟩, -⟩ := key j hj
    exact hpi i hi j hj (hD.1 _ _ _ _ h1 h2 e)
  have hAd : ∀ i, i < 64 → A (ad i) := fun i hi => by
    obtain ⟨⟨e1, h1⟩, -⟩ := key i hi
    exact hD.2 _ _ h1
  clear key hpi
  have ha0 : ad 0 = a := by rw [had]; rfl
  have hAA : A = zA (D, ca, ad, sa) 64 s.heap.size := zAA hAe ha0 (by decide) hAd
  have hAs : ∀ i, i < 64 → 0 < i → s.heap.size ≤ ad i := zAs hAe ha0 hJ hAd
  clear hA hD hAd
  subst hAA
  have C0 : zCx p s m args meth c cX5_init 2 RX5 none (D, ca, ad, sa) 64 := ⟨hx, hb, hml, hown, hts, hr, hlk, hK, hSt⟩
  obtain ⟨G, hG⟩ : ∃ G : zGr, G = (D, ca, ad, sa) := ⟨_, rfl⟩
  have hGD : G.1 = D := by rw [hG]
  have hret : ∀ (M : zM) (H : Heap) (locs : List Loc) (ls : Array Slot), va_P G.1 zcl (zw G shX 64 M) H → va_S (zA G 64 s.heap.size) s.heap H locs → some M = some o → W p l e R s m args below meth c H locs 63 13634 Q (F0 m 177 ls []) := by
    intro M H locs ls hP hS hf
    subst hQ
    subst hG
    rw [← hAe]
    exact W.vret hx hb hr (fun t ht hW => ⟨⟨(ad, M), rfl, ⟨Option.some.inj hf, ha0, hJ, hAs⟩, by show va_P D zcl _ t.heap; rw [ht]; exact hP⟩, hS.F ht⟩) hS.2.2 dX5_init_177 hlk
  replace hP : va_P G.1 zcl (zw G shX 64 zM0X) H := by rw [hG]; exact hP
  replace hS : va_S (zA G 64 s.heap.size) s.heap H locs := by rw [hG]; exact hS
  replace hJ : zJ G 64 := by rw [hG]; exact hJ
  replace C0 : zCx p s m args meth c cX5_init 2 RX5 none G 64 := by rw [hG]; exact C0
  have L143 : ∀ (n143 : Nat), ∀ (x1 : Int32) (M : zM) (H : Heap) (locs : List Loc) (ls : Array Slot), lv_has ls 2 [(0, .ref (G.2.2.1 0)), (1, .int x1)] → va_P G.1 zcl (zw G shX 64 M) H → va_S (zA G 64 s.heap.size) s.heap H locs → fX5_init_L143 n143 x1 M = some o → W p l e R s m args below meth c H locs 63 13634 Q (F0 m 143 ls []) := by
    intro n143
    induction n143 with
    | zero => intro x1 M H locs ls hl hP hS hf; exact zn_s (show none = some o from hf)
    | succ n143 ih143 =>
      intro x1 M H locs ls hl hP hS hf
      replace hf : fX5_init_B143 (fX5_init_L143 n143) x1 M = some o := hf
      unfold fX5_init_B143 at hf
      refine lv_iload_n hx hb dX5_init_143 rfl (lv_at hl 1 rfl) ?_
      refine va_ldcS hx hb hown (C0.2.2.2.2.2.2.2.2.2.2.2.1 0 _ rfl) dX5_init_144 ?_
      obtain ⟨r_3, M_1, hc_2, hf⟩ := zB_o hf
      refine zc_xi (As := []) (rest := [.int x1]) C0 hP hS hl.1 0 (by decide) (mtJ0_length_8abf5 l G hJ 0 (by decide) M _ hc_2) lk_X5_54 rfl ds_J0_length_8abf5 (by rw [hRm]; exact ⟨Nat.le_of_ble_eq_true rfl, Nat.le_of_ble_eq_true rfl⟩) rfl rfl (Nat.le_of_ble_eq_true rfl) dX5_init_146 (by rw [hRm]; exact ⟨Nat.le_of_ble_eq_true rfl, Nat.le_of_ble_eq_true rfl⟩) (fun H locs hP hS => ?_)
      refine lv_icmp_ge (tgt := 172) hx hb dX5_init_149 (by decide) (fun c_4 => ?_) (fun c_4 => ?_)
      · replace hf := zI_t c_4 hf
        refine lv_aload_n hx hb dX5_init_172 rfl (lv_at hl 0 rfl) ?_
        obtain ⟨r_7, M_5, hc_6, hf⟩ := zB_o hf
        refine zc_vi (As := []) (rest := []) C0 hP hS hl.1 0 (mtX5_text l G hJ M_1 _ hc_6) lk_X5_68 (by decide) shX_0 (T := TX5) (n' := 9) rfl ds_X5_text (by rw [hRm]; exact ⟨Nat.le_of_ble_eq_true rfl, Nat.le_of_ble_eq_true rfl⟩) rfl rfl (Nat.le_of_ble_eq_true rfl) dX5_init_173 (by rw [hRm]; exact ⟨Nat.le_of_ble_eq_true rfl, Nat.le_of_ble_eq_true rfl⟩) (fun H locs hP hS => ?_)
        refine lv_pop hx hb dX5_init_176 rfl ?_
        exact hret M_5 H locs ls hP hS hf
      · replace hf := zI_f c_4 hf
        refine lv_aload_n hx hb dX5_init_152 rfl (lv_at hl 0 rfl) ?_
        refine zr_getq (C := RX5) (T := TX5) (n := 9) C0 hP 0 (by decide) shX_0 1 2 rfl (by decide) uw_X5 mw_245 rfl dX5_init_153 ?_
        refine va_ldcS hx hb hown (C0.2.2.2.2.2.2.2.2.2.2.2.1 0 _ rfl) dX5_init_156 ?_
        refine lv_iload_n hx hb dX5_init_158 rfl (lv_at hl 1 rfl) ?_
        obtain ⟨r_10, M_8, hc_9, hf⟩ := zB_o hf
        refine zc_xi (As := [.int x1]) (rest := [.ref (G.2.2.1 2)]) C0 hP hS hl.1 0 (by decide) (mtJ0_charAt_5068e l G hJ 0 (by decide) x1 M_1 _ hc_9) lk_X5_60 rfl ds_J0_charAt_5068e (by rw [hRm]; exact ⟨Nat.le_of_ble_eq_true rfl, Nat.le_of_ble_eq_true rfl⟩) rfl rfl (Nat.le_of_ble_eq_true rfl) dX5_init_159 (by rw [hRm]; exact ⟨Nat.le_of_ble_eq_true rfl, Nat.le_of_ble_eq_true rfl⟩) (fun H locs hP hS => ?_)
        obtain ⟨r_13, M_11, hc_12, hf⟩ := zB_o hf
        refine zc_vi (As := [.int r_10]) (rest := []) C0 hP hS hl.1 2 (mtX2_add l G hJ r_10 M_8 _ hc_12) lk_X5_64 (by decide) shX_2 (T := TX2) (n' := 9) rfl ds_X2_add (by rw [hRm]; exact ⟨Nat.le_of_ble_eq_true rfl, Nat.le_of_ble_eq_true rfl⟩) rfl rfl (Nat.le_of_ble_eq_true rfl) dX5_init_162 (by rw [hRm]; exact ⟨Nat.le_of_ble_eq_true rfl, Nat.le_of_ble_eq_true rfl⟩) (fun H locs hP hS => ?_)
        refine lv_pop hx hb dX5_init_165 rfl ?_
        obtain ⟨x1_14, ex1_14, hf⟩ := zL_o hf
        refine lv_iinc (v := x1_14) (lv' := [(1, .int x1_14), (0, .ref (G.2.2.1 0))]) hx hb dX5_init_166 hl (k := 1) rfl (by rw [ex1_14]; rfl) (by decide) rfl (fun ls hl => ?_)
        refine lv_goto (tgt := 143) hx hb dX5_init_169 (by decide) ?_
        exact ih143 x1_14 M_11 H locs ls (lv_sub hl [1, 0] rfl) hP hS hf
  have J141 : ∀ (M : zM) (H : Heap) (locs : List Loc) (ls : Array Slot), lv_has ls 2 [(0, .ref (G.2.2.1 0))] → va_P G.1 zcl (zw G shX 64 M) H → va_S (zA G 64 s.heap.size) s.heap H locs → fX5_init_J141 M = some o → W p l e R s m args below meth c H locs 63 13634 Q (F0 m 141 ls []) := by
    intro M H locs ls hl hP hS hf
    unfold fX5_init_J141 at hf
    refine lv_iconst (v := (0 : Int32)) hx hb dX5_init_141 (by decide) ?_
    refine lv_istore_n (lv' := [(1, .int (0 : Int32)), (0, .ref (G.2.2.1 0))]) hx hb dX5_init_142 rfl hl (by decide) rfl (fun ls hl => ?_)
    exact L143 zF (0 : Int32) M H locs ls (lv_sub hl [1, 0] rfl) hP hS hf
  have hl0 : lv_has ls 2 [(0, .ref (G.2.2.1 0))] := by rw [hG]; show lv_has ls 2 [(0, .ref (ad 0))]; rw [ha0]; exact lv_sub hl [1] rfl
  exact J141 zM0X H locs ls hl0 hP hS ho

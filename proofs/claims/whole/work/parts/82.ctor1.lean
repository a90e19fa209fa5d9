set_option maxHeartbeats 4000000 in
set_option maxRecDepth 100000 in
theorem ctX1 (l : Launch) (D : va_G) (cI cB : ClassId) (RO : (Nat → Prop) → State → Heap → Prop) (h0 sz : Nat) : Met l yX1_init wsX1_init ({ frames := 1, cells := 1, slots := 32, locals := 12 }) (ct_Pre D [(cI, .int), (cB, .byte)] RO [(h0, .inr (1, [.int 0, .int 0, .int 0, .int 0, .null]))] sz [.ref h0]) (va_Qv (fun _ : Nat => True) (ct_B D (fun _ => [(cI, .int), (cB, .byte)]) (fun q : Nat => [(h0, .inr (1, [.int 0, .int 0, .int 0, .int 0, .ref q])), (q, .inl (cI, 32, .inl (fun _ => 0)))]) (va_A [(h0, .inr (1, [.int 0, .int 0, .int 0, .int 0, .null]))] sz)) (va_A [(h0, .inr (1, [.int 0, .int 0, .int 0, .int 0, .null]))] sz)) 1 32 (va_A [(h0, .inr (1, [.int 0, .int 0, .int 0, .int 0, .null]))] sz) := by
  refine ct_met (cc := cX1_init) (maxL := 1) rfl rfl (by decide) rfl (Nat.le_of_ble_eq_true rfl) ?_
  intro p e s m args below meth c A Q ls S hin hA hro hK ret hP hD hS hl
  obtain ⟨hx, hb, hml, hown, hts⟩ := S
  have hl : lv_has ls 1 [(0, .ref h0)] := hl
  refine lv_aload_n hx hb dX1_init_0 rfl (lv_at hl 0 rfl) ?_
  refine W.objInit hx hb hown (hts (.methodLink RX1 3 objectInit) (by decide +kernel)) (hts (.instanceMethod objectInit) (by decide +kernel)) (hts (.code objectInit ⟨#[0xb1]⟩ 1 none) (by decide +kernel)) rfl (by rw [hml]; exact hl.1) rfl dX1_init_1 (Nat.le_of_ble_eq_true rfl) (Nat.le_of_ble_eq_true rfl) ?_
  refine W.eq (g2 := F0 m 4 ls []) rfl ?_
  refine lv_aload_n hx hb dX1_init_4 rfl (lv_at hl 0 rfl) ?_
  refine lv_bipush (v := 32) hx hb dX1_init_5 (by decide) ?_
  refine va_newa (atype := .int) (ty := .int) (N' := 32) (a0 := (32, .inl (fun _ => 0))) hx hb (hts (.arrayClass .int) (by decide +kernel)) rfl hK hP hD hS hA (fun _ => rfl) (by decide) rfl (Nat.le_of_ble_eq_true rfl) (Nat.le_of_ble_eq_true rfl) (Nat.le_of_ble_eq_true rfl) dX1_init_7 (fun q cA H hK2 hP hD hS => ?_)
  obtain rfl : cA = cI := k_one hK2 nm_i (i := 2) (j := 0) rfl rfl
  have hP : va_P D vwCl [(h0, .inr (1, [.int 0, .int 0, .int 0, .int 0, .null])), (q, .inl (cA, 32, .inl (fun _ => 0)))] H := hP
  have hD : va_D A [(h0, .inr (1, [.int 0, .int 0, .int 0, .int 0, .null])), (q, .inl (cA, 32, .inl (fun _ => 0)))] := hD
  refine va_putF (D := D) (ci := 1) (v := .ref q) (ty := .array .int) (C := RX1) (T := TX1) (N := 5) hx hb hts (by decide +kernel) tyX1 tyX1_ok nmX1 hown hK hP hD hS 0 rfl rfl 4 (by decide) (hts (.fieldLink RX1 9 "PlusCodes$Code" "terms" "[I") (by decide +kernel)) (fun _ h9 => h9) rfl hin rfl (by decide +kernel) rfl rfl (Nat.le_of_ble_eq_true rfl) dX1_init_9 (fun H locs hP hD hS => ?_)
  have hP : va_P D vwCl [(h0, .inr (1, [.int 0, .int 0, .int 0, .int 0, .ref q])), (q, .inl (cA, 32, .inl (fun _ => 0)))] H := hP
  have hD : va_D A [(h0, .inr (1, [.int 0, .int 0, .int 0, .int 0, .ref q])), (q, .inl (cA, 32, .inl (fun _ => 0)))] := hD
  exact ret q H locs 12 ls trivial hP hK hD hS dX1_init_12
set_option maxHeartbeats 4000000 in
set_option maxRecDepth 100000 in
theorem ctX3 (l : Launch) (D : va_G) (cI cB : ClassId) (RO : (Nat → Prop) → State → Heap → Prop) (h0 sz : Nat) : Met l yX3_init wsX3_init ({ frames := 1, cells := 1, slots := 1024, locals := 12 }) (ct_Pre D [(cI, .int), (cB, .byte)] RO [(h0, .inr (3, [.null]))] sz [.ref h0]) (va_Qv (fun _ : Nat => True) (ct_B D (fun _ => [(cI, .int), (cB, .byte)]) (fun q : Nat => [(h0, .inr (3, [.ref q])), (q, .inl (cI, 1024, .inl (fun _ => 0)))]) (va_A [(h0, .inr (3, [.null]))] sz)) (va_A [(h0, .inr (3, [.null]))] sz)) 1 1024 (va_A [(h0, .inr (3, [.null]))] sz) := by
  refine ct_met (cc := cX3_init) (maxL := 1) rfl rfl (by decide) rfl (Nat.le_of_ble_eq_true rfl) ?_
  intro p e s m args below meth c A Q ls S hin hA hro hK ret hP hD hS hl
  obtain ⟨hx, hb, hml, hown, hts⟩ := S
  have hl : lv_has ls 1 [(0, .ref h0)] := hl
  refine lv_aload_n hx hb dX3_init_0 rfl (lv_at hl 0 rfl) ?_
  refine W.objInit hx hb hown (hts (.methodLink RX3 1 objectInit) (by decide +kernel)) (hts (.instanceMethod objectInit) (by decide +kernel)) (hts (.code objectInit ⟨#[0xb1]⟩ 1 none) (by decide +kernel)) rfl (by rw [hml]; exact hl.1) rfl dX3_init_1 (Nat.le_of_ble_eq_true rfl) (Nat.le_of_ble_eq_true rfl) ?_
  refine W.eq (g2 := F0 m 4 ls []) rfl ?_
  refine lv_aload_n hx hb dX3_init_4 rfl (lv_at hl 0 rfl) ?_
  refine lv_sipush (v := 1024) hx hb dX3_init_5 (by decide) ?_
  refine va_newa (atype := .int) (ty := .int) (N' := 1024) (a0 := (1024, .inl (fun _ => 0))) hx hb (hts (.arrayClass .int) (by decide +kernel)) rfl hK hP hD hS hA (fun _ => rfl) (by decide) rfl (Nat.le_of_ble_eq_true rfl) (Nat.le_of_ble_eq_true rfl) (Nat.le_of_ble_eq_true rfl) dX3_init_8 (fun q cA H hK2 hP hD hS => ?_)
  obtain rfl : cA = cI := k_one hK2 nm_i (i := 2) (j := 0) rfl rfl
  have hP : va_P D vwCl [(h0, .inr (3, [.null])), (q, .inl (cA, 1024, .inl (fun _ => 0)))] H := hP
  have hD : va_D A [(h0, .inr (3, [.null])), (q, .inl (cA, 1024, .inl (fun _ => 0)))] := hD
  refine va_putF (D := D) (ci := 3) (v := .ref q) (ty := .array .int) (C := RX3) (T := TX3) (N := 1) hx hb hts (by decide +kernel) tyX3 tyX3_ok nmX3 hown hK hP hD hS 0 rfl rfl 0 (by decide) (hts (.fieldLink RX3 9 "PlusCodes$Merits" "sums" "[I") (by decide +kernel)) (fun _ h9 => h9) rfl hin rfl (by decide +kernel) rfl rfl (Nat.le_of_ble_eq_true rfl) dX3_init_10 (fun H locs hP hD hS => ?_)
  have hP : va_P D vwCl [(h0, .inr (3, [.ref q])), (q, .inl (cA, 1024, .inl (fun _ => 0)))] H := hP
  have hD : va_D A [(h0, .inr (3, [.ref q])), (q, .inl (cA, 1024, .inl (fun _ => 0)))] := hD
  exact ret q H locs 13 ls trivial hP hK hD hS dX3_init_13
set_option maxHeartbeats 4000000 in
set_option maxRecDepth 100000 in
theorem ctX7 (l : Launch) (D : va_G) (cI cB : ClassId) (RO : (Nat → Prop) → State → Heap → Prop) (h0 sz : Nat) : Met l yX7_init wsX7_init ({ frames := 1, cells := 1, slots := 16, locals := 12 }) (ct_Pre D [(cI, .int), (cB, .byte)] RO [(h0, .inr (7, [.null, .int 0, .int 0, .int 0, .int 0, .int 0]))] sz [.ref h0]) (va_Qv (fun _ : Nat => True) (ct_B D (fun _ => [(cI, .int), (cB, .byte)]) (fun q : Nat => [(h0, .inr (7, [.ref q, .int 0, .int 0, .int 0, .int 0, .int 0])), (q, .inl (cI, 16, .inl (fun _ => 0)))]) (va_A [(h0, .inr (7, [.null, .int 0, .int 0, .int 0, .int 0, .int 0]))] sz)) (va_A [(h0, .inr (7, [.null, .int 0, .int 0, .int 0, .int 0, .int 0]))] sz)) 1 16 (va_A [(h0, .inr (7, [.null, .int 0, .int 0, .int 0, .int 0, .int 0]))] sz) := by
  refine ct_met (cc := cX7_init) (maxL := 1) rfl rfl (by decide) rfl (Nat.le_of_ble_eq_true rfl) ?_
  intro p e s m args below meth c A Q ls S hin hA hro hK ret hP hD hS hl
  obtain ⟨hx, hb, hml, hown, hts⟩ := S
  have hl : lv_has ls 1 [(0, .ref h0)] := hl
  refine lv_aload_n hx hb dX7_init_0 rfl (lv_at hl 0 rfl) ?_
  refine W.objInit hx hb hown (hts (.methodLink RX7 3 objectInit) (by decide +kernel)) (hts (.instanceMethod objectInit) (by decide +kernel)) (hts (.code objectInit ⟨#[0xb1]⟩ 1 none) (by decide +kernel)) rfl (by rw [hml]; exact hl.1) rfl dX7_init_1 (Nat.le_of_ble_eq_true rfl) (Nat.le_of_ble_eq_true rfl) ?_
  refine W.eq (g2 := F0 m 4 ls []) rfl ?_
  refine lv_aload_n hx hb dX7_init_4 rfl (lv_at hl 0 rfl) ?_
  refine lv_bipush (v := 16) hx hb dX7_init_5 (by decide) ?_
  refine va_newa (atype := .int) (ty := .int) (N' := 16) (a0 := (16, .inl (fun _ => 0))) hx hb (hts (.arrayClass .int) (by decide +kernel)) rfl hK hP hD hS hA (fun _ => rfl) (by decide) rfl (Nat.le_of_ble_eq_true rfl) (Nat.le_of_ble_eq_true rfl) (Nat.le_of_ble_eq_true rfl) dX7_init_7 (fun q cA H hK2 hP hD hS => ?_)
  obtain rfl : cA = cI := k_one hK2 nm_i (i := 2) (j := 0) rfl rfl
  have hP : va_P D vwCl [(h0, .inr (7, [.null, .int 0, .int 0, .int 0, .int 0, .int 0])), (q, .inl (cA, 16, .inl (fun _ => 0)))] H := hP
  have hD : va_D A [(h0, .inr (7, [.null, .int 0, .int 0, .int 0, .int 0, .int 0])), (q, .inl (cA, 16, .inl (fun _ => 0)))] := hD
  refine va_putF (D := D) (ci := 7) (v := .ref q) (ty := .array .int) (C := RX7) (T := TX7) (N := 6) hx hb hts (by decide +kernel) tyX7 tyX7_ok nmX7 hown hK hP hD hS 0 rfl rfl 0 (by decide) (hts (.fieldLink RX7 9 "PlusCodes$Walk" "steps" "[I") (by decide +kernel)) (fun _ h9 => h9) rfl hin rfl (by decide +kernel) rfl rfl (Nat.le_of_ble_eq_true rfl) dX7_init_9 (fun H locs hP hD hS => ?_)
  have hP : va_P D vwCl [(h0, .inr (7, [.ref q, .int 0, .int 0, .int 0, .int 0, .int 0])), (q, .inl (cA, 16, .inl (fun _ => 0)))] H := hP
  have hD : va_D A [(h0, .inr (7, [.ref q, .int 0, .int 0, .int 0, .int 0, .int 0])), (q, .inl (cA, 16, .inl (fun _ => 0)))] := hD
  exact ret q H locs 12 ls trivial hP hK hD hS dX7_init_12
set_option maxHeartbeats 4000000 in
set_option maxRecDepth 100000 in
theorem ctX6 (l : Launch) (D : va_G) (cI cB : ClassId) (RO : (Nat → Prop) → State → Heap → Prop) (h0 sz : Nat) : Met l yX6_init wsX6_init ({ frames := 1, cells := 1, slots := 120, locals := 12 }) (ct_Pre D [(cI, .int), (cB, .byte)] RO [(h0, .inr (6, [.null, .int 0, .int 0, .int 0]))] sz [.ref h0]) (va_Qv (fun _ : Nat => True) (ct_B D (fun _ => [(cI, .int), (cB, .byte)]) (fun q : Nat => [(h0, .inr (6, [.ref q, .int 0, .int 0, .int (-1)])), (q, .inl (cB, 120, .inl (fun _ => 0)))]) (va_A [(h0, .inr (6, [.null, .int 0, .int 0, .int 0]))] sz)) (va_A [(h0, .inr (6, [.null, .int 0, .int 0, .int 0]))] sz)) 1 120 (va_A [(h0, .inr (6, [.null, .int 0, .int 0, .int 0]))] sz) := by
  refine ct_met (cc := cX6_init) (maxL := 1) rfl rfl (by decide) rfl (Nat.le_of_ble_eq_true rfl) ?_
  intro p e s m args below meth c A Q ls S hin hA hro hK ret hP hD hS hl
  obtain ⟨hx, hb, hml, hown, hts⟩ := S
  have hl : lv_has ls 1 [(0, .ref h0)] := hl
  refine lv_aload_n hx hb dX6_init_0 rfl (lv_at hl 0 rfl) ?_
  refine W.objInit hx hb hown (hts (.methodLink RX6 3 objectInit) (by decide +kernel)) (hts (.instanceMethod objectInit) (by decide +kernel)) (hts (.code objectInit ⟨#[0xb1]⟩ 1 none) (by decide +kernel)) rfl (by rw [hml]; exact hl.1) rfl dX6_init_1 (Nat.le_of_ble_eq_true rfl) (Nat.le_of_ble_eq_true rfl) ?_
  refine W.eq (g2 := F0 m 4 ls []) rfl ?_
  refine lv_aload_n hx hb dX6_init_4 rfl (lv_at hl 0 rfl) ?_
  refine lv_bipush (v := 120) hx hb dX6_init_5 (by decide) ?_
  refine va_newa (atype := .byte) (ty := .byte) (N' := 120) (a0 := (120, .inl (fun _ => 0))) hx hb (hts (.arrayClass .byte) (by decide +kernel)) rfl hK hP hD hS hA (fun _ => rfl) (by decide) rfl (Nat.le_of_ble_eq_true rfl) (Nat.le_of_ble_eq_true rfl) (Nat.le_of_ble_eq_true rfl) dX6_init_7 (fun q cA H hK2 hP hD hS => ?_)
  obtain rfl : cA = cB := k_one hK2 nm_b (i := 2) (j := 1) rfl rfl
  have hP : va_P D vwCl [(h0, .inr (6, [.null, .int 0, .int 0, .int 0])), (q, .inl (cA, 120, .inl (fun _ => 0)))] H := hP
  have hD : va_D A [(h0, .inr (6, [.null, .int 0, .int 0, .int 0])), (q, .inl (cA, 120, .inl (fun _ => 0)))] := hD
  refine va_putF (D := D) (ci := 6) (v := .ref q) (ty := .array .byte) (C := RX6) (T := TX6) (N := 4) hx hb hts (by decide +kernel) tyX6 tyX6_ok nmX6 hown hK hP hD hS 0 rfl rfl 0 (by decide) (hts (.fieldLink RX6 9 "PlusCodes$Text" "bytes" "[B") (by decide +kernel)) (fun _ h9 => h9) rfl hin rfl (by decide +kernel) rfl rfl (Nat.le_of_ble_eq_true rfl) dX6_init_9 (fun H locs hP hD hS => ?_)
  have hP : va_P D vwCl [(h0, .inr (6, [.ref q, .int 0, .int 0, .int 0])), (q, .inl (cA, 120, .inl (fun _ => 0)))] H := hP
  have hD : va_D A [(h0, .inr (6, [.ref q, .int 0, .int 0, .int 0])), (q, .inl (cA, 120, .inl (fun _ => 0)))] := hD
  refine lv_aload_n hx hb dX6_init_12 rfl (lv_at hl 0 rfl) ?_
  refine lv_iconst (v := -1) hx hb dX6_init_13 (by decide) ?_
  refine va_put (D := D) (ci := 6) (v := .int (-1)) (ty := .int) (C := RX6) (T := TX6) (N := 4) hx hb hts (by decide +kernel) tyX6 tyX6_ok nmX6 hown hK hP hD hS 0 rfl rfl 3 (by decide) (hts (.fieldLink RX6 15 "PlusCodes$Text" "fault" "I") (by decide +kernel)) (fun _ h9 => h9) rfl (by decide +kernel) rfl rfl (Nat.le_of_ble_eq_true rfl) dX6_init_14 (fun H locs hP hD hS => ?_)
  exact ret q H locs 17 ls trivial hP hK hD hS dX6_init_17

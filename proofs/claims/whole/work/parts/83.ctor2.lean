set_option maxHeartbeats 4000000 in
set_option maxRecDepth 100000 in
theorem ctX0 (l : Launch) (D : va_G) (cI cB : ClassId) (RO : (Nat → Prop) → State → Heap → Prop) (h0 sz : Nat) : Met l yX0_init wsX0_init ({ frames := 1, cells := 0, slots := 0, locals := 12 }) (ct_Pre D [(cI, .int), (cB, .byte)] RO [(h0, .inr (0, [.int 0, .int 0, .int 0, .int 0, .int 0]))] sz [.ref h0]) (va_Qv (fun _ : Nat => True) (ct_B D (fun _ => [(cI, .int), (cB, .byte)]) (fun _ : Nat => [(h0, .inr (0, [.int 0, .int 0, .int 0, .int 0, .int 0]))]) (va_A [(h0, .inr (0, [.int 0, .int 0, .int 0, .int 0, .int 0]))] sz)) (va_A [(h0, .inr (0, [.int 0, .int 0, .int 0, .int 0, .int 0]))] sz)) 0 0 (va_A [(h0, .inr (0, [.int 0, .int 0, .int 0, .int 0, .int 0]))] sz) := by
  refine ct_met (cc := cX0_init) (maxL := 1) rfl rfl (by decide) rfl (Nat.le_of_ble_eq_true rfl) ?_
  intro p e s m args below meth c A Q ls S hin hA hro hK ret hP hD hS hl
  obtain ⟨hx, hb, hml, hown, hts⟩ := id S
  have hl : lv_has ls 1 [(0, .ref h0)] := hl
  refine lv_aload_n hx hb dX0_init_0 rfl (lv_at hl 0 rfl) ?_
  refine W.objInit hx hb hown (hts (.methodLink RX0 3 objectInit) (by decide +kernel)) (hts (.instanceMethod objectInit) (by decide +kernel)) (hts (.code objectInit ⟨#[0xb1]⟩ 1 none) (by decide +kernel)) rfl (by rw [hml]; exact hl.1) rfl dX0_init_1 (Nat.le_of_ble_eq_true rfl) (Nat.le_of_ble_eq_true rfl) ?_
  refine W.eq (g2 := F0 m 4 ls []) rfl ?_
  exact ret 0 _ _ 4 ls trivial hP hK hD hS dX0_init_4
def sW (h0 : Nat) (u : Nat × Nat × Nat) (cI : ClassId) : va_W := [(h0, .inr (5, [.ref u.1, .ref u.2.2, .int 0])), (u.1, .inr (1, [.int 0, .int 0, .int 0, .int 0, .ref u.2.1])), (u.2.1, .inl (cI, 32, .inl (fun _ => 0))), (u.2.2, .inl (cI, 32, .inl (fun _ => 0)))]
set_option maxHeartbeats 4000000 in
set_option maxRecDepth 100000 in
theorem ctX5 (l : Launch) (D : va_G) (cI cB : ClassId) {RO : (Nat → Prop) → State → Heap → Prop} (hRO : wx_RoT RO) (hNw : ∀ A U H, RO A U H → va_Nw (.methodLinkNest RX5 11 yX1_init RX8) U) (h0 sz : Nat) : Met l yX5_init wsX5_init ({ frames := 2, cells := 3, slots := 69, locals := 32 }) (ct_Pre D [(cI, .int), (cB, .byte)] RO [(h0, .inr (5, [.null, .null, .int 0]))] sz [.ref h0]) (va_Qv (fun _ : Nat × Nat × Nat => True) (ct_B D (fun _ => [(cI, .int), (cB, .byte)]) (fun u => sW h0 u cI) (va_A [(h0, .inr (5, [.null, .null, .int 0]))] sz)) (va_A [(h0, .inr (5, [.null, .null, .int 0]))] sz)) 3 69 (va_A [(h0, .inr (5, [.null, .null, .int 0]))] sz) := by
  refine ct_met (cc := cX5_init) (maxL := 1) rfl rfl (by decide) rfl (Nat.le_of_ble_eq_true rfl) ?_
  intro p e s m args below meth c A Q ls S hin hA hro hK ret hP hD hS hl
  obtain ⟨hx, hb, hml, hown, hts⟩ := id S
  have hl : lv_has ls 1 [(0, .ref h0)] := hl
  refine lv_aload_n hx hb dX5_init_0 rfl (lv_at hl 0 rfl) ?_
  refine W.objInit hx hb hown (hts (.methodLink RX5 3 objectInit) (by decide +kernel)) (hts (.instanceMethod objectInit) (by decide +kernel)) (hts (.code objectInit ⟨#[0xb1]⟩ 1 none) (by decide +kernel)) rfl (by rw [hml]; exact hl.1) rfl dX5_init_1 (Nat.le_of_ble_eq_true rfl) (Nat.le_of_ble_eq_true rfl) ?_
  refine W.eq (g2 := F0 m 4 ls []) rfl ?_
  refine lv_aload_n hx hb dX5_init_4 rfl (lv_at hl 0 rfl) ?_
  refine va_new (ci := 1) (fs := [.int 0, .int 0, .int 0, .int 0, .null]) (C := RX1) (T := TX1) (N := 5) hx hb hts (by decide +kernel) tyX1 tyX1_ok hown (hts (.classLink RX5 9 RX1) (by decide +kernel)) (hts (.instantiable RX1 5) (by decide +kernel)) (hts (.initialized RX1) (by decide +kernel)) hK hP hD hS hA rfl (fun j hj => by rcases (show j = 0 ∨ j = 1 ∨ j = 2 ∨ j = 3 ∨ j = 4 by omega) with rfl | rfl | rfl | rfl | rfl <;> rfl) (Nat.le_of_ble_eq_true rfl) (Nat.le_of_ble_eq_true rfl) dX5_init_5 (fun q H hP hD hS => ?_)
  refine lv_dup hx hb dX5_init_8 rfl ?_
  refine ct_cv hA hP hD hS (va_runIN (As := []) (rest := [.ref q, .ref h0]) S (ctX1 l D cI cB RO q H.size) ⟨va_cnB 0 hts gX5_init_X1_init_n11 rfl rfl rfl (hNw _ _ _ hro) (hts (.initialized RX1) (by decide +kernel)) (by decide +kernel) ⟨Nat.le_of_ble_eq_true rfl, Nat.le_of_ble_eq_true rfl⟩, rfl, hts (.instanceMethod yX1_init) (by decide +kernel)⟩ (ct_pre hRO hro hA hK hP hD hS) rfl rfl hl.1 rfl (lv_room (Nat.le_of_ble_eq_true rfl)) dX5_init_9 ⟨Nat.le_of_ble_eq_true rfl, Nat.le_of_ble_eq_true rfl⟩) (fun t H locs _ hK hP hD hS => ?_)
  have hP : va_P D vwCl [(h0, .inr (5, [.null, .null, .int 0])), (q, .inr (1, [.int 0, .int 0, .int 0, .int 0, .ref t])), (t, .inl (cI, 32, .inl (fun _ => 0)))] H := hP
  have hD : va_D A [(h0, .inr (5, [.null, .null, .int 0])), (q, .inr (1, [.int 0, .int 0, .int 0, .int 0, .ref t])), (t, .inl (cI, 32, .inl (fun _ => 0)))] := hD
  refine va_putF (D := D) (ci := 5) (v := .ref q) (ty := .object "PlusCodes$Code") (C := RX5) (T := TX5) (N := 3) hx hb hts (by decide +kernel) tyX5 tyX5_ok nmX5 hown hK hP hD hS 0 rfl rfl 0 (by decide) (hts (.fieldLink RX5 12 "PlusCodes$State" "code" "LPlusCodes$Code;") (by decide +kernel)) (fun _ h9 => h9) rfl hin rfl (by decide +kernel) rfl rfl (Nat.le_of_ble_eq_true rfl) dX5_init_12 (fun H locs hP hD hS => ?_)
  have hP : va_P D vwCl [(h0, .inr (5, [.ref q, .null, .int 0])), (q, .inr (1, [.int 0, .int 0, .int 0, .int 0, .ref t])), (t, .inl (cI, 32, .inl (fun _ => 0)))] H := hP
  have hD : va_D A [(h0, .inr (5, [.ref q, .null, .int 0])), (q, .inr (1, [.int 0, .int 0, .int 0, .int 0, .ref t])), (t, .inl (cI, 32, .inl (fun _ => 0)))] := hD
  refine lv_aload_n hx hb dX5_init_15 rfl (lv_at hl 0 rfl) ?_
  refine lv_bipush (v := 32) hx hb dX5_init_16 (by decide) ?_
  refine va_newa (atype := .int) (ty := .int) (N' := 32) (a0 := (32, .inl (fun _ => 0))) hx hb (hts (.arrayClass .int) (by decide +kernel)) rfl hK hP hD hS hA (fun _ => rfl) (by decide) rfl (Nat.le_of_ble_eq_true rfl) (Nat.le_of_ble_eq_true rfl) (Nat.le_of_ble_eq_true rfl) dX5_init_18 (fun o cA H hK2 hP hD hS => ?_)
  obtain rfl : cA = cI := k_one hK2 nm_i (i := 2) (j := 0) rfl rfl
  have hP : va_P D vwCl [(h0, .inr (5, [.ref q, .null, .int 0])), (q, .inr (1, [.int 0, .int 0, .int 0, .int 0, .ref t])), (t, .inl (cA, 32, .inl (fun _ => 0))), (o, .inl (cA, 32, .inl (fun _ => 0)))] H := hP
  have hD : va_D A [(h0, .inr (5, [.ref q, .null, .int 0])), (q, .inr (1, [.int 0, .int 0, .int 0, .int 0, .ref t])), (t, .inl (cA, 32, .inl (fun _ => 0))), (o, .inl (cA, 32, .inl (fun _ => 0)))] := hD
  refine va_putF (D := D) (ci := 5) (v := .ref o) (ty := .array .int) (C := RX5) (T := TX5) (N := 3) hx hb hts (by decide +kernel) tyX5 tyX5_ok nmX5 hown hK hP hD hS 0 rfl rfl 1 (by decide) (hts (.fieldLink RX5 18 "PlusCodes$State" "soft" "[I") (by decide +kernel)) (fun _ h9 => h9) rfl hin rfl (by decide +kernel) rfl rfl (Nat.le_of_ble_eq_true rfl) dX5_init_20 (fun H locs hP hD hS => ?_)
  exact ret (q, t, o) H locs 23 ls trivial hP hK hD hS dX5_init_23

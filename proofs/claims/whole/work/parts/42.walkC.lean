abbrev rmX5_copy : Room := { frames := 3, cells := 0, slots := 0, locals := 86 }
set_option maxRecDepth 20000 in
theorem inX5_copy_X1 : ∀ w ∈ u_ws RX1 TX1 5, w ∈ wsX5_copy := by decide +kernel
set_option maxRecDepth 20000 in
theorem inX5_copy_X5 : ∀ w ∈ u_ws RX5 TX5 3, w ∈ wsX5_copy := by decide +kernel
theorem nyX1_become : yX1_become.cls = RX1 ∧ yX1_become.cls ≠ "java/lang/invoke/MethodHandle" ∧ yX1_become.cls ≠ "java/lang/invoke/VarHandle" ∧ (parseMethodDescriptor yX1_become.desc).map (fun d => d.parameters.length) = some 2 := by decide +kernel
set_option maxRecDepth 100000 in
set_option maxHeartbeats 4000000 in
theorem mtX5_copy {l : Launch} {D : va_G} {cI cB cS cR : ClassId} {ad : Nat → Nat} {tS tP : Nat} {kS vS : Nat → Nat} {sz : Nat} {g : Nat} {g2 : Nat} {σ : wx_Z} {K : wx_Z → Prop} (hg : g < 10) (hg2 : g2 < 10) (h : wpX5_copy g g2 σ K) : Met l yX5_copy wsX5_copy rmX5_copy (wx_Pre D [(cI, .int), (cB, .byte), (cS, .object RX5), (cR, .array .int)] (wC_RO tS tP kS vS) 58 (wC_E cI cB cS cR ad) ad σ sz [.ref (ad (cSt g)), .ref (ad (cSt g2))]) (va_Qv K (wx_B D [(cI, .int), (cB, .byte), (cS, .object RX5), (cR, .array .int)] 58 (wC_E cI cB cS cR ad) ad (va_A (wx_w 58 (wC_E cI cB cS cR ad) ad σ) sz)) (va_A (wx_w 58 (wC_E cI cB cS cR ad) ad σ) sz)) 0 0 (va_A (wx_w 58 (wC_E cI cB cS cR ad) ad σ) sz) := by
  unfold wpX5_copy at h
  refine wx_metv (cc := cX5_copy) (maxL := 2) (own := RX5) rfl (by decide) rfl (Nat.le_of_ble_eq_true rfl) (wC_ROok tS tP kS vS) ?_
  intro p e s m args below meth c A Q ls C Rt hP hD hS hl
  obtain ⟨⟨hx, hb, hml, hown, hts⟩, hA, hK, hRO, hro⟩ := id C
  have hl : lv_has ls 2 [(0, .ref (ad (cSt g))), (1, .ref (ad (cSt g2)))] := hl
  obtain ⟨H, eH⟩ : ∃ z, z = s.heap := ⟨_, rfl⟩
  obtain ⟨locs, eL⟩ : ∃ z : List Loc, z = [] := ⟨_, rfl⟩
  rw [← eH] at hP
  have hS : va_S A s.heap H locs := by rw [eH, eL]; exact hS
  have goal : W p l e rmX5_copy s m args below meth c H locs 0 0 Q (F0 m 0 ls []) := by
    refine lv_aload_n hx hb dX5_copy_0 rfl (lv_at hl 0 rfl) ?_
    refine wx_get C hP (q := (cSt g)) (ci := 5) (lt_st hg) (eC_st hg _) (Cn := RX5) (T := TX5) (Nf := 3) rfl inX5_copy_X5 0 (by decide) (List.mem_of_getElem? (i := 1) rfl) (v := .ref (ad (cCo g))) rfl dX5_copy_1 ?_
    refine lv_aload_n hx hb dX5_copy_4 rfl (lv_at hl 1 rfl) ?_
    refine wx_get C hP (q := (cSt g2)) (ci := 5) (lt_st hg2) (eC_st hg2 _) (Cn := RX5) (T := TX5) (Nf := 3) rfl inX5_copy_X5 0 (by decide) (List.mem_of_getElem? (i := 1) rfl) (v := .ref (ad (cCo g2))) rfl dX5_copy_5 ?_
    refine wx_get C hP (q := (cCo g2)) (ci := 1) (lt_co hg2) (eC_co hg2 _) (Cn := RX1) (T := TX1) (Nf := 5) rfl inX5_copy_X1 0 (by decide) (List.mem_of_getElem? (i := 2) rfl) (v := .int (σ (cCo g2) 0)) rfl dX5_copy_8 ?_
    refine lv_aload_n hx hb dX5_copy_11 rfl (lv_at hl 1 rfl) ?_
    refine wx_get C hP (q := (cSt g2)) (ci := 5) (lt_st hg2) (eC_st hg2 _) (Cn := RX5) (T := TX5) (Nf := 3) rfl inX5_copy_X5 0 (by decide) (List.mem_of_getElem? (i := 1) rfl) (v := .ref (ad (cCo g2))) rfl dX5_copy_12 ?_
    refine wx_get C hP (q := (cCo g2)) (ci := 1) (lt_co hg2) (eC_co hg2 _) (Cn := RX1) (T := TX1) (Nf := 5) rfl inX5_copy_X1 1 (by decide) (List.mem_of_getElem? (i := 3) rfl) (v := .int (σ (cCo g2) 1)) rfl dX5_copy_15 ?_
    refine wx_cv C hD hS (va_runV (As := [.int (σ (cCo g2) 0), .int (σ (cCo g2) 1)]) (rest := []) C.1 (mtX1_become (l := l) (D := D) (sz := H.size) hg h) (cwV 2 hts gX5_copy_X1_become rfl rfl rfl nyX1_become ⟨Nat.le_of_ble_eq_true rfl, Nat.le_of_ble_eq_true rfl⟩) (wx_pv C hP hD hS (q := (cCo g)) (ci := 1) (lt_co hg) (eC_co hg _) rfl) rfl rfl hl.1 rfl (lv_room (Nat.le_of_ble_eq_true rfl)) dX5_copy_18 ⟨Nat.zero_le _, Nat.zero_le _⟩) (fun σ18 H locs h hP hD hS => ?_)
    refine lv_aload_n hx hb dX5_copy_21 rfl (lv_at hl 0 rfl) ?_
    refine lv_aload_n hx hb dX5_copy_22 rfl (lv_at hl 1 rfl) ?_
    refine wx_get C hP (q := (cSt g2)) (ci := 5) (lt_st hg2) (eC_st hg2 _) (Cn := RX5) (T := TX5) (Nf := 3) rfl inX5_copy_X5 2 (by decide) (List.mem_of_getElem? (i := 4) rfl) (v := .int (σ18 (cSt g2) 2)) rfl dX5_copy_23 ?_
    refine wx_put C hP hD hS (q := (cSt g)) (ci := 5) (lt_st hg) (eC_st hg _) (Cn := RX5) (T := TX5) (Nf := 3) rfl inX5_copy_X5 tyX5 tyX5_ok nmX5 2 (by decide) (List.mem_of_getElem? (i := 4) rfl) rfl rfl (Nat.le_of_ble_eq_true rfl) (eC_st hg _) dX5_copy_26 (fun H locs hP hD hS => ?_)
    generalize e_σ26 : wx_up σ18 (cSt g) 2 (σ18 (cSt g2) 2) = σ26 at hP hD
    have h := h σ26 e_σ26.symm
    refine lv_aload_n hx hb dX5_copy_29 rfl (lv_at hl 1 rfl) ?_
    refine wx_get C hP (q := (cSt g2)) (ci := 5) (lt_st hg2) (eC_st hg2 _) (Cn := RX5) (T := TX5) (Nf := 3) rfl inX5_copy_X5 1 (by decide) (List.mem_of_getElem? (i := 5) rfl) (v := .ref (ad (cSo g2))) rfl dX5_copy_30 ?_
    refine lv_iconst (v := 0) hx hb dX5_copy_33 (by decide) ?_
    refine lv_aload_n hx hb dX5_copy_34 rfl (lv_at hl 0 rfl) ?_
    refine wx_get C hP (q := (cSt g)) (ci := 5) (lt_st hg) (eC_st hg _) (Cn := RX5) (T := TX5) (Nf := 3) rfl inX5_copy_X5 1 (by decide) (List.mem_of_getElem? (i := 5) rfl) (v := .ref (ad (cSo g))) rfl dX5_copy_35 ?_
    refine lv_iconst (v := 0) hx hb dX5_copy_38 (by decide) ?_
    refine lv_bipush (v := 32) hx hb dX5_copy_39 (by decide) ?_
    refine wx_cpy C hP hD hS hl.1 (List.mem_of_getElem? (i := 6) rfl) (List.mem_of_getElem? (i := 7) rfl) (List.mem_of_getElem? (i := 8) rfl) (List.mem_of_getElem? (i := 9) rfl) (q0 := (cSo g2)) (q1 := (cSo g)) (lt_so hg2) (lt_so hg) (eC_so hg2) (eC_so hg) 0 rfl h.1 (Nat.le_of_ble_eq_true rfl) (Nat.le_of_ble_eq_true rfl) dX5_copy_41 (fun H locs hP hD hS => ?_)
    generalize e_σ41 : va_up σ26 (cSo g) (va_cpy (σ26 (cSo g2)) (σ26 (cSo g)) (Int32.toNatClampNeg (0 : Int32)) (Int32.toNatClampNeg (0 : Int32)) (Int32.toNatClampNeg (32 : Int32))) = σ41 at hP hD
    have h := h.2 σ41 e_σ41.symm
    exact Rt _ _ _ _ _ h hP hD hS dX5_copy_44
  rw [eH, eL] at goal
  exact goal
abbrev rmX4_keep : Room := { frames := 4, cells := 0, slots := 0, locals := 107 }
set_option maxRecDepth 20000 in
theorem inX4_keep_X4 : ∀ w ∈ u_ws RX4 TX4 3, w ∈ wsX4_keep := by decide +kernel
theorem nyX5_copy : yX5_copy.cls = RX5 ∧ yX5_copy.cls ≠ "java/lang/invoke/MethodHandle" ∧ yX5_copy.cls ≠ "java/lang/invoke/VarHandle" ∧ (parseMethodDescriptor yX5_copy.desc).map (fun d => d.parameters.length) = some 1 := by decide +kernel
set_option maxRecDepth 100000 in
set_option maxHeartbeats 4000000 in
theorem mtX4_keep {l : Launch} {D : va_G} {cI cB cS cR : ClassId} {ad : Nat → Nat} {tS tP : Nat} {kS vS : Nat → Nat} {sz : Nat} {g : Nat} {σ : wx_Z} {K : wx_Z → Prop} (hg : g < 10) (h : wpX4_keep g σ K) : Met l yX4_keep wsX4_keep rmX4_keep (wx_Pre D [(cI, .int), (cB, .byte), (cS, .object RX5), (cR, .array .int)] (wC_RO tS tP kS vS) 58 (wC_E cI cB cS cR ad) ad σ sz [.ref (ad 41), .ref (ad (cSt g))]) (va_Qv K (wx_B D [(cI, .int), (cB, .byte), (cS, .object RX5), (cR, .array .int)] 58 (wC_E cI cB cS cR ad) ad (va_A (wx_w 58 (wC_E cI cB cS cR ad) ad σ) sz)) (va_A (wx_w 58 (wC_E cI cB cS cR ad) ad σ) sz)) 0 0 (va_A (wx_w 58 (wC_E cI cB cS cR ad) ad σ) sz) := by
  unfold wpX4_keep at h
  refine wx_metv (cc := cX4_keep) (maxL := 2) (own := RX4) rfl (by decide) rfl (Nat.le_of_ble_eq_true rfl) (wC_ROok tS tP kS vS) ?_
  intro p e s m args below meth c A Q ls C Rt hP hD hS hl
  obtain ⟨⟨hx, hb, hml, hown, hts⟩, hA, hK, hRO, hro⟩ := id C
  have hl : lv_has ls 2 [(0, .ref (ad 41)), (1, .ref (ad (cSt g)))] := hl
  obtain ⟨H, eH⟩ : ∃ z, z = s.heap := ⟨_, rfl⟩
  obtain ⟨locs, eL⟩ : ∃ z : List Loc, z = [] := ⟨_, rfl⟩
  rw [← eH] at hP
  have hS : va_S A s.heap H locs := by rw [eH, eL]; exact hS
  have goal : W p l e rmX4_keep s m args below meth c H locs 0 0 Q (F0 m 0 ls []) := by
    refine lv_aload_n hx hb dX4_keep_0 rfl (lv_at hl 0 rfl) ?_
    refine wx_get C hP (q := 41) (ci := 4) (Nat.le_of_ble_eq_true rfl) (eC_41 _) (Cn := RX4) (T := TX4) (Nf := 3) rfl inX4_keep_X4 0 (by decide) (List.mem_of_getElem? (i := 1) rfl) (v := .ref (ad 42)) rfl dX4_keep_1 ?_
    refine lv_aload_n hx hb dX4_keep_4 rfl (lv_at hl 0 rfl) ?_
    refine wx_get C hP (q := 41) (ci := 4) (Nat.le_of_ble_eq_true rfl) (eC_41 _) (Cn := RX4) (T := TX4) (Nf := 3) rfl inX4_keep_X4 1 (by decide) (List.mem_of_getElem? (i := 2) rfl) (v := .int (σ 41 1)) rfl dX4_keep_5 ?_
    have v8 := h.1
    have h := h.2
    refine wx_ald C hP (q := 42) (Nat.le_of_ble_eq_true rfl) (eC_42 _) 2 rfl rfl v8 (a := ad (cSt (2 + (Int32.toNatClampNeg (σ 41 1))))) rfl dX4_keep_8 ?_
    refine lv_aload_n hx hb dX4_keep_9 rfl (lv_at hl 1 rfl) ?_
    refine wx_cv C hD hS (va_runV (As := [.ref (ad (cSt g))]) (rest := []) C.1 (mtX5_copy (l := l) (D := D) (sz := H.size) (lt_ri (vp_lt v8)) hg h) (cwV 1 hts gX4_keep_X5_copy rfl rfl rfl nyX5_copy ⟨Nat.le_of_ble_eq_true rfl, Nat.le_of_ble_eq_true rfl⟩) (wx_pv C hP hD hS (q := (cSt (2 + (Int32.toNatClampNeg (σ 41 1))))) (ci := 5) (lt_st (lt_ri (vp_lt v8))) (eC_st (lt_ri (vp_lt v8)) _) rfl) rfl rfl hl.1 rfl (lv_room (Nat.le_of_ble_eq_true rfl)) dX4_keep_10 ⟨Nat.zero_le _, Nat.zero_le _⟩) (fun σ10 H locs h hP hD hS => ?_)
    refine lv_aload_n hx hb dX4_keep_13 rfl (lv_at hl 0 rfl) ?_
    refine lv_aload_n hx hb dX4_keep_14 rfl (lv_at hl 0 rfl) ?_
    refine wx_get C hP (q := 41) (ci := 4) (Nat.le_of_ble_eq_true rfl) (eC_41 _) (Cn := RX4) (T := TX4) (Nf := 3) rfl inX4_keep_X4 1 (by decide) (List.mem_of_getElem? (i := 2) rfl) (v := .int (σ10 41 1)) rfl dX4_keep_15 ?_
    refine lv_iconst (v := 1) hx hb dX4_keep_18 (by decide) ?_
    refine lv_iadd hx hb dX4_keep_19 ?_
    refine lv_bipush (v := 8) hx hb dX4_keep_20 (by decide) ?_
    refine lv_irem hx hb dX4_keep_22 h.1 ?_
    have h := h.2
    refine wx_put C hP hD hS (q := 41) (ci := 4) (Nat.le_of_ble_eq_true rfl) (eC_41 _) (Cn := RX4) (T := TX4) (Nf := 3) rfl inX4_keep_X4 tyX4 tyX4_ok nmX4 1 (by decide) (List.mem_of_getElem? (i := 2) rfl) rfl rfl (Nat.le_of_ble_eq_true rfl) rfl dX4_keep_23 (fun H locs hP hD hS => ?_)
    generalize e_σ23 : wx_up σ10 41 1 (((σ10 41 1) + 1) - ((σ10 41 1) + 1) / 8 * 8) = σ23 at hP hD
    have h := h σ23 e_σ23.symm
    refine lv_aload_n hx hb dX4_keep_26 rfl (lv_at hl 0 rfl) ?_
    refine lv_aload_n hx hb dX4_keep_27 rfl (lv_at hl 0 rfl) ?_
    refine wx_get C hP (q := 41) (ci := 4) (Nat.le_of_ble_eq_true rfl) (eC_41 _) (Cn := RX4) (T := TX4) (Nf := 3) rfl inX4_keep_X4 2 (by decide) (List.mem_of_getElem? (i := 3) rfl) (v := .int (σ23 41 2)) rfl dX4_keep_28 ?_
    refine lv_iconst (v := 1) hx hb dX4_keep_31 (by decide) ?_
    refine lv_iadd hx hb dX4_keep_32 ?_
    refine lv_bipush (v := 8) hx hb dX4_keep_33 (by decide) ?_
    refine va_mmin hx hb (hml.trans hl.1.symm) hown (hts (.methodLink RX4 29 Lib.Math.min.name) (List.mem_of_getElem? (i := 4) rfl)) (hts (.static Lib.Math.min.name) (List.mem_of_getElem? (i := 5) rfl)) (hts (.initialized "java/lang/Math") (List.mem_of_getElem? (i := 6) rfl)) (hts (.code Lib.Math.min.name Lib.Math.min.code 2 (some .int)) (List.mem_of_getElem? (i := 7) rfl)) (Nat.le_of_ble_eq_true rfl) (Nat.le_of_ble_eq_true rfl) (Nat.zero_le _) (Nat.zero_le _) dX4_keep_35 ?_
    refine lv_topi (fun t35 e_t35 => ?_)
    have h := h t35 e_t35
    refine wx_put C hP hD hS (q := 41) (ci := 4) (Nat.le_of_ble_eq_true rfl) (eC_41 _) (Cn := RX4) (T := TX4) (Nf := 3) rfl inX4_keep_X4 tyX4 tyX4_ok nmX4 2 (by decide) (List.mem_of_getElem? (i := 3) rfl) rfl rfl (Nat.le_of_ble_eq_true rfl) rfl dX4_keep_38 (fun H locs hP hD hS => ?_)
    generalize e_σ38 : wx_up σ23 41 2 t35 = σ38 at hP hD
    have h := h σ38 e_σ38.symm
    exact Rt _ _ _ _ _ h hP hD hS dX4_keep_41
  rw [eH, eL] at goal
  exact goal
abbrev rmX4_giveBack : Room := { frames := 4, cells := 0, slots := 0, locals := 107 }
set_option maxRecDepth 20000 in
theorem inX4_giveBack_X4 : ∀ w ∈ u_ws RX4 TX4 3, w ∈ wsX4_giveBack := by decide +kernel
set_option maxRecDepth 100000 in
set_option maxHeartbeats 4000000 in
theorem mtX4_giveBack {l : Launch} {D : va_G} {cI cB cS cR : ClassId} {ad : Nat → Nat} {tS tP : Nat} {kS vS : Nat → Nat} {sz : Nat} {g : Nat} {σ : wx_Z} {K : wx_Z → Prop} (hg : g < 10) (h : wpX4_giveBack g σ K) : Met l yX4_giveBack wsX4_giveBack rmX4_giveBack (wx_Pre D [(cI, .int), (cB, .byte), (cS, .object RX5), (cR, .array .int)] (wC_RO tS tP kS vS) 58 (wC_E cI cB cS cR ad) ad σ sz [.ref (ad 41), .ref (ad (cSt g))]) (va_Qv K (wx_B D [(cI, .int), (cB, .byte), (cS, .object RX5), (cR, .array .int)] 58 (wC_E cI cB cS cR ad) ad (va_A (wx_w 58 (wC_E cI cB cS cR ad) ad σ) sz)) (va_A (wx_w 58 (wC_E cI cB cS cR ad) ad σ) sz)) 0 0 (va_A (wx_w 58 (wC_E cI cB cS cR ad) ad σ) sz) := by
  unfold wpX4_giveBack at h
  refine wx_metv (cc := cX4_giveBack) (maxL := 2) (own := RX4) rfl (by decide) rfl (Nat.le_of_ble_eq_true rfl) (wC_ROok tS tP kS vS) ?_
  intro p e s m args below meth c A Q ls C Rt hP hD hS hl
  obtain ⟨⟨hx, hb, hml, hown, hts⟩, hA, hK, hRO, hro⟩ := id C
  have hl : lv_has ls 2 [(0, .ref (ad 41)), (1, .ref (ad (cSt g)))] := hl
  obtain ⟨H, eH⟩ : ∃ z, z = s.heap := ⟨_, rfl⟩
  obtain ⟨locs, eL⟩ : ∃ z : List Loc, z = [] := ⟨_, rfl⟩
  rw [← eH] at hP
  have hS : va_S A s.heap H locs := by rw [eH, eL]; exact hS
  have goal : W p l e rmX4_giveBack s m args below meth c H locs 0 0 Q (F0 m 0 ls []) := by
    refine lv_aload_n hx hb dX4_giveBack_0 rfl (lv_at hl 0 rfl) ?_
    refine wx_get C hP (q := 41) (ci := 4) (Nat.le_of_ble_eq_true rfl) (eC_41 _) (Cn := RX4) (T := TX4) (Nf := 3) rfl inX4_giveBack_X4 2 (by decide) (List.mem_of_getElem? (i := 1) rfl) (v := .int (σ 41 2)) rfl dX4_giveBack_1 ?_
    refine lv_if_le (tgt := 46) hx hb dX4_giveBack_4 (by decide) (fun c4 => ?_) (fun c4 => ?_)
    · have h := h.1 c4
      exact Rt _ _ _ _ _ h hP hD hS dX4_giveBack_46
    · have h := h.2 c4
      refine lv_aload_n hx hb dX4_giveBack_7 rfl (lv_at hl 0 rfl) ?_
      refine lv_aload_n hx hb dX4_giveBack_8 rfl (lv_at hl 0 rfl) ?_
      refine wx_get C hP (q := 41) (ci := 4) (Nat.le_of_ble_eq_true rfl) (eC_41 _) (Cn := RX4) (T := TX4) (Nf := 3) rfl inX4_giveBack_X4 1 (by decide) (List.mem_of_getElem? (i := 2) rfl) (v := .int (σ 41 1)) rfl dX4_giveBack_9 ?_
      refine lv_bipush (v := 8) hx hb dX4_giveBack_12 (by decide) ?_
      refine lv_iadd hx hb dX4_giveBack_14 ?_
      refine lv_iconst (v := 1) hx hb dX4_giveBack_15 (by decide) ?_
      refine lv_isub hx hb dX4_giveBack_16 ?_
      refine lv_bipush (v := 8) hx hb dX4_giveBack_17 (by decide) ?_
      refine lv_irem hx hb dX4_giveBack_19 h.1 ?_
      have h := h.2
      refine wx_put C hP hD hS (q := 41) (ci := 4) (Nat.le_of_ble_eq_true rfl) (eC_41 _) (Cn := RX4) (T := TX4) (Nf := 3) rfl inX4_giveBack_X4 tyX4 tyX4_ok nmX4 1 (by decide) (List.mem_of_getElem? (i := 2) rfl) rfl rfl (Nat.le_of_ble_eq_true rfl) rfl dX4_giveBack_20 (fun H locs hP hD hS => ?_)
      generalize e_σ20 : wx_up σ 41 1 ((((σ 41 1) + 8) - 1) - (((σ 41 1) + 8) - 1) / 8 * 8) = σ20 at hP hD
      have h := h σ20 e_σ20.symm
      refine lv_aload_n hx hb dX4_giveBack_23 rfl (lv_at hl 0 rfl) ?_
      refine lv_dup hx hb dX4_giveBack_24 rfl ?_
      refine wx_get C hP (q := 41) (ci := 4) (Nat.le_of_ble_eq_true rfl) (eC_41 _) (Cn := RX4) (T := TX4) (Nf := 3) rfl inX4_giveBack_X4 2 (by decide) (List.mem_of_getElem? (i := 1) rfl) (v := .int (σ20 41 2)) rfl dX4_giveBack_25 ?_
      refine lv_iconst (v := 1) hx hb dX4_giveBack_28 (by decide) ?_
      refine lv_isub hx hb dX4_giveBack_29 ?_
      refine wx_put C hP hD hS (q := 41) (ci := 4) (Nat.le_of_ble_eq_true rfl) (eC_41 _) (Cn := RX4) (T := TX4) (Nf := 3) rfl inX4_giveBack_X4 tyX4 tyX4_ok nmX4 2 (by decide) (List.mem_of_getElem? (i := 1) rfl) rfl rfl (Nat.le_of_ble_eq_true rfl) rfl dX4_giveBack_30 (fun H locs hP hD hS => ?_)
      generalize e_σ30 : wx_up σ20 41 2 ((σ20 41 2) - 1) = σ30 at hP hD
      have h := h σ30 e_σ30.symm
      refine lv_aload_n hx hb dX4_giveBack_33 rfl (lv_at hl 1 rfl) ?_
      refine lv_aload_n hx hb dX4_giveBack_34 rfl (lv_at hl 0 rfl) ?_
      refine wx_get C hP (q := 41) (ci := 4) (Nat.le_of_ble_eq_true rfl) (eC_41 _) (Cn := RX4) (T := TX4) (Nf := 3) rfl inX4_giveBack_X4 0 (by decide) (List.mem_of_getElem? (i := 3) rfl) (v := .ref (ad 42)) rfl dX4_giveBack_35 ?_
      refine lv_aload_n hx hb dX4_giveBack_38 rfl (lv_at hl 0 rfl) ?_
      refine wx_get C hP (q := 41) (ci := 4) (Nat.le_of_ble_eq_true rfl) (eC_41 _) (Cn := RX4) (T := TX4) (Nf := 3) rfl inX4_giveBack_X4 1 (by decide) (List.mem_of_getElem? (i := 2) rfl) (v := .int (σ30 41 1)) rfl dX4_giveBack_39 ?_
      have v42 := h.1
      have h := h.2
      refine wx_ald C hP (q := 42) (Nat.le_of_ble_eq_true rfl) (eC_42 _) 2 rfl rfl v42 (a := ad (cSt (2 + (Int32.toNatClampNeg (σ30 41 1))))) rfl dX4_giveBack_42 ?_
      refine wx_cv C hD hS (va_runV (As := [.ref (ad (cSt (2 + (Int32.toNatClampNeg (σ30 41 1)))))]) (rest := []) C.1 (mtX5_copy (l := l) (D := D) (sz := H.size) hg (lt_ri (vp_lt v42)) h) (cwV 1 hts gX4_giveBack_X5_copy rfl rfl rfl nyX5_copy ⟨Nat.le_of_ble_eq_true rfl, Nat.le_of_ble_eq_true rfl⟩) (wx_pv C hP hD hS (q := (cSt g)) (ci := 5) (lt_st hg) (eC_st hg _) rfl) rfl rfl hl.1 rfl (lv_room (Nat.le_of_ble_eq_true rfl)) dX4_giveBack_43 ⟨Nat.zero_le _, Nat.zero_le _⟩) (fun σ43 H locs h hP hD hS => ?_)
      exact Rt _ _ _ _ _ h hP hD hS dX4_giveBack_46
  rw [eH, eL] at goal
  exact goal
abbrev rmX5_start : Room := { frames := 3, cells := 0, slots := 0, locals := 86 }
set_option maxRecDepth 20000 in
theorem inX5_start_X5 : ∀ w ∈ u_ws RX5 TX5 3, w ∈ wsX5_start := by decide +kernel
theorem nyJ7_fill_53178 : yJ7_fill_53178.cls = RJ7 ∧ yJ7_fill_53178.cls ≠ "java/lang/invoke/MethodHandle" ∧ yJ7_fill_53178.cls ≠ "java/lang/invoke/VarHandle" ∧ (parseMethodDescriptor yJ7_fill_53178.desc).map (fun d => d.parameters.length) = some 2 := by decide +kernel
set_option maxRecDepth 100000 in
set_option maxHeartbeats 4000000 in
theorem mtX5_start {l : Launch} {D : va_G} {cI cB cS cR : ClassId} {ad : Nat → Nat} {tS tP : Nat} {kS vS : Nat → Nat} {sz : Nat} {g : Nat} {σ : wx_Z} {x1 : Int32} {x2 : Int32} {K : wx_Z → Prop} (hg : g < 10) (h : wpX5_start g σ x1 x2 K) : Met l yX5_start wsX5_start rmX5_start (wx_Pre D [(cI, .int), (cB, .byte), (cS, .object RX5), (cR, .array .int)] (wC_RO tS tP kS vS) 58 (wC_E cI cB cS cR ad) ad σ sz [.ref (ad (cSt g)), .int x1, .int x2]) (va_Qv K (wx_B D [(cI, .int), (cB, .byte), (cS, .object RX5), (cR, .array .int)] 58 (wC_E cI cB cS cR ad) ad (va_A (wx_w 58 (wC_E cI cB cS cR ad) ad σ) sz)) (va_A (wx_w 58 (wC_E cI cB cS cR ad) ad σ) sz)) 0 0 (va_A (wx_w 58 (wC_E cI cB cS cR ad) ad σ) sz) := by
  unfold wpX5_start at h
  refine wx_metv (cc := cX5_start) (maxL := 3) (own := RX5) rfl (by decide) rfl (Nat.le_of_ble_eq_true rfl) (wC_ROok tS tP kS vS) ?_
  intro p e s m args below meth c A Q ls C Rt hP hD hS hl
  obtain ⟨⟨hx, hb, hml, hown, hts⟩, hA, hK, hRO, hro⟩ := id C
  have hl : lv_has ls 3 [(0, .ref (ad (cSt g))), (1, .int x1), (2, .int x2)] := hl
  obtain ⟨H, eH⟩ : ∃ z, z = s.heap := ⟨_, rfl⟩
  obtain ⟨locs, eL⟩ : ∃ z : List Loc, z = [] := ⟨_, rfl⟩
  rw [← eH] at hP
  have hS : va_S A s.heap H locs := by rw [eH, eL]; exact hS
  have goal : W p l e rmX5_start s m args below meth c H locs 0 0 Q (F0 m 0 ls []) := by
    refine lv_aload_n hx hb dX5_start_0 rfl (lv_at hl 0 rfl) ?_
    refine wx_get C hP (q := (cSt g)) (ci := 5) (lt_st hg) (eC_st hg _) (Cn := RX5) (T := TX5) (Nf := 3) rfl inX5_start_X5 0 (by decide) (List.mem_of_getElem? (i := 1) rfl) (v := .ref (ad (cCo g))) rfl dX5_start_1 ?_
    refine lv_iload_n hx hb dX5_start_4 rfl (lv_at hl 1 rfl) ?_
    refine lv_iload_n hx hb dX5_start_5 rfl (lv_at hl 2 rfl) ?_
    refine wx_cv C hD hS (va_runV (As := [.int x1, .int x2]) (rest := []) C.1 (mtX1_become (l := l) (D := D) (sz := H.size) hg h) (cwV 2 hts gX5_start_X1_become rfl rfl rfl nyX1_become ⟨Nat.le_of_ble_eq_true rfl, Nat.le_of_ble_eq_true rfl⟩) (wx_pv C hP hD hS (q := (cCo g)) (ci := 1) (lt_co hg) (eC_co hg _) rfl) rfl rfl hl.1 rfl (lv_room (Nat.le_of_ble_eq_true rfl)) dX5_start_6 ⟨Nat.zero_le _, Nat.zero_le _⟩) (fun σ6 H locs h hP hD hS => ?_)
    refine lv_aload_n hx hb dX5_start_9 rfl (lv_at hl 0 rfl) ?_
    refine lv_iconst (v := 0) hx hb dX5_start_10 (by decide) ?_
    refine wx_put C hP hD hS (q := (cSt g)) (ci := 5) (lt_st hg) (eC_st hg _) (Cn := RX5) (T := TX5) (Nf := 3) rfl inX5_start_X5 tyX5 tyX5_ok nmX5 2 (by decide) (List.mem_of_getElem? (i := 2) rfl) rfl rfl (Nat.le_of_ble_eq_true rfl) (eC_st hg _) dX5_start_11 (fun H locs hP hD hS => ?_)
    generalize e_σ11 : wx_up σ6 (cSt g) 2 0 = σ11 at hP hD
    have h := h σ11 e_σ11.symm
    refine lv_aload_n hx hb dX5_start_14 rfl (lv_at hl 0 rfl) ?_
    refine wx_get C hP (q := (cSt g)) (ci := 5) (lt_st hg) (eC_st hg _) (Cn := RX5) (T := TX5) (Nf := 3) rfl inX5_start_X5 1 (by decide) (List.mem_of_getElem? (i := 3) rfl) (v := .ref (ad (cSo g))) rfl dX5_start_15 ?_
    refine lv_iconst (v := 0) hx hb dX5_start_18 (by decide) ?_
    refine wx_cv C hD hS (va_runS (As := [.ref (ad (cSo g)), .int 0]) (rest := []) C.1 (mtJ7_fill_53178 (l := l) (D := D) (sz := H.size) hg h) (va_cwS 2 hts gX5_start_J7_fill_53178 rfl rfl rfl nyJ7_fill_53178.2 ⟨Nat.le_of_ble_eq_true rfl, Nat.le_of_ble_eq_true rfl⟩) (wx_ps C hP hD hS) rfl rfl hl.1 rfl (lv_room (Nat.le_of_ble_eq_true rfl)) dX5_start_19 ⟨Nat.zero_le _, Nat.zero_le _⟩) (fun σ19 H locs h hP hD hS => ?_)
    exact Rt _ _ _ _ _ h hP hD hS dX5_start_22
  rw [eH, eL] at goal
  exact goal
abbrev rmX5_bit : Room := { frames := 1, cells := 0, slots := 0, locals := 40 }
set_option maxRecDepth 20000 in
theorem inX5_bit_X5 : ∀ w ∈ u_ws RX5 TX5 3, w ∈ wsX5_bit := by decide +kernel
set_option maxRecDepth 100000 in
set_option maxHeartbeats 4000000 in
theorem mtX5_bit {l : Launch} {D : va_G} {cI cB cS cR : ClassId} {ad : Nat → Nat} {tS tP : Nat} {kS vS : Nat → Nat} {sz : Nat} {g : Nat} {σ : wx_Z} {x1 : Int32} {K : Int32 → wx_Z → Prop} (hg : g < 10) (h : wpX5_bit g σ x1 K) : Met l yX5_bit wsX5_bit rmX5_bit (wx_Pre D [(cI, .int), (cB, .byte), (cS, .object RX5), (cR, .array .int)] (wC_RO tS tP kS vS) 58 (wC_E cI cB cS cR ad) ad σ sz [.ref (ad (cSt g)), .int x1]) (va_Qi K (wx_B D [(cI, .int), (cB, .byte), (cS, .object RX5), (cR, .array .int)] 58 (wC_E cI cB cS cR ad) ad (va_A (wx_w 58 (wC_E cI cB cS cR ad) ad σ) sz)) (va_A (wx_w 58 (wC_E cI cB cS cR ad) ad σ) sz)) 0 0 (va_A (wx_w 58 (wC_E cI cB cS cR ad) ad σ) sz) := by
  unfold wpX5_bit at h
  refine wx_meti (cc := cX5_bit) (maxL := 2) (own := RX5) rfl (by decide) rfl (Nat.le_of_ble_eq_true rfl) (wC_ROok tS tP kS vS) ?_
  intro p e s m args below meth c A Q ls C Rt hP hD hS hl
  obtain ⟨⟨hx, hb, hml, hown, hts⟩, hA, hK, hRO, hro⟩ := id C
  have hl : lv_has ls 2 [(0, .ref (ad (cSt g))), (1, .int x1)] := hl
  obtain ⟨H, eH⟩ : ∃ z, z = s.heap := ⟨_, rfl⟩
  obtain ⟨locs, eL⟩ : ∃ z : List Loc, z = [] := ⟨_, rfl⟩
  rw [← eH] at hP
  have hS : va_S A s.heap H locs := by rw [eH, eL]; exact hS
  have goal : W p l e rmX5_bit s m args below meth c H locs 0 0 Q (F0 m 0 ls []) := by
    refine lv_aload_n hx hb dX5_bit_0 rfl (lv_at hl 0 rfl) ?_
    refine wx_get C hP (q := (cSt g)) (ci := 5) (lt_st hg) (eC_st hg _) (Cn := RX5) (T := TX5) (Nf := 3) rfl inX5_bit_X5 2 (by decide) (List.mem_of_getElem? (i := 1) rfl) (v := .int (σ (cSt g) 2)) rfl dX5_bit_1 ?_
    refine lv_iload_n hx hb dX5_bit_4 rfl (lv_at hl 1 rfl) ?_
    refine lv_iushr (v := wx_us (σ (cSt g) 2) x1) hx hb dX5_bit_5 rfl ?_
    refine lv_iconst (v := 1) hx hb dX5_bit_6 (by decide) ?_
    refine lv_iand hx hb dX5_bit_7 ?_
    exact Rt _ _ _ _ _ _ h hP hD hS dX5_bit_8
  rw [eH, eL] at goal
  exact goal
abbrev rmX6_append : Room := { frames := 1, cells := 0, slots := 0, locals := 40 }
set_option maxRecDepth 20000 in
theorem inX6_append_X6 : ∀ w ∈ u_ws RX6 TX6 4, w ∈ wsX6_append := by decide +kernel
set_option maxRecDepth 100000 in
set_option maxHeartbeats 4000000 in
theorem mtX6_append {l : Launch} {D : va_G} {cI cB cS cR : ClassId} {ad : Nat → Nat} {tS tP : Nat} {kS vS : Nat → Nat} {sz : Nat} {σ : wx_Z} {x1 : Int32} {K : wx_Z → Prop} (h : wpX6_append σ x1 K) : Met l yX6_append wsX6_append rmX6_append (wx_Pre D [(cI, .int), (cB, .byte), (cS, .object RX5), (cR, .array .int)] (wC_RO tS tP kS vS) 58 (wC_E cI cB cS cR ad) ad σ sz [.ref (ad 43), .int x1]) (va_Qv K (wx_B D [(cI, .int), (cB, .byte), (cS, .object RX5), (cR, .array .int)] 58 (wC_E cI cB cS cR ad) ad (va_A (wx_w 58 (wC_E cI cB cS cR ad) ad σ) sz)) (va_A (wx_w 58 (wC_E cI cB cS cR ad) ad σ) sz)) 0 0 (va_A (wx_w 58 (wC_E cI cB cS cR ad) ad σ) sz) := by
  unfold wpX6_append at h
  refine wx_metv (cc := cX6_append) (maxL := 2) (own := RX6) rfl (by decide) rfl (Nat.le_of_ble_eq_true rfl) (wC_ROok tS tP kS vS) ?_
  intro p e s m args below meth c A Q ls C Rt hP hD hS hl
  obtain ⟨⟨hx, hb, hml, hown, hts⟩, hA, hK, hRO, hro⟩ := id C
  have hl : lv_has ls 2 [(0, .ref (ad 43)), (1, .int x1)] := hl
  obtain ⟨H, eH⟩ : ∃ z, z = s.heap := ⟨_, rfl⟩
  obtain ⟨locs, eL⟩ : ∃ z : List Loc, z = [] := ⟨_, rfl⟩
  rw [← eH] at hP
  have hS : va_S A s.heap H locs := by rw [eH, eL]; exact hS
  have goal : W p l e rmX6_append s m args below meth c H locs 0 0 Q (F0 m 0 ls []) := by
    refine lv_aload_n hx hb dX6_append_0 rfl (lv_at hl 0 rfl) ?_
    refine wx_get C hP (q := 43) (ci := 6) (Nat.le_of_ble_eq_true rfl) (eC_43 _) (Cn := RX6) (T := TX6) (Nf := 4) rfl inX6_append_X6 2 (by decide) (List.mem_of_getElem? (i := 1) rfl) (v := .int (σ 43 2)) rfl dX6_append_1 ?_
    refine lv_bipush (v := 120) hx hb dX6_append_4 (by decide) ?_
    refine lv_icmp_ge (tgt := 30) hx hb dX6_append_6 (by decide) (fun c6 => ?_) (fun c6 => ?_)
    · have h := h.1 c6
      exact Rt _ _ _ _ _ h hP hD hS dX6_append_30
    · have h := h.2 c6
      refine lv_aload_n hx hb dX6_append_9 rfl (lv_at hl 0 rfl) ?_
      refine wx_get C hP (q := 43) (ci := 6) (Nat.le_of_ble_eq_true rfl) (eC_43 _) (Cn := RX6) (T := TX6) (Nf := 4) rfl inX6_append_X6 0 (by decide) (List.mem_of_getElem? (i := 2) rfl) (v := .ref (ad 44)) rfl dX6_append_10 ?_
      refine lv_aload_n hx hb dX6_append_13 rfl (lv_at hl 0 rfl) ?_
      refine wx_get C hP (q := 43) (ci := 6) (Nat.le_of_ble_eq_true rfl) (eC_43 _) (Cn := RX6) (T := TX6) (Nf := 4) rfl inX6_append_X6 2 (by decide) (List.mem_of_getElem? (i := 1) rfl) (v := .int (σ 43 2)) rfl dX6_append_14 ?_
      refine lv_iload_n hx hb dX6_append_17 rfl (lv_at hl 1 rfl) ?_
      refine lv_i2b (v := (Int32.toInt8 x1).toInt32) hx hb dX6_append_18 rfl ?_
      refine wx_bst C hP hD hS (q := 44) (Nat.le_of_ble_eq_true rfl) eC_44 1 rfl h.1 dX6_append_19 (fun H locs hP hD hS => ?_)
      generalize e_σ19 : wx_up σ 44 (Int32.toNatClampNeg (σ 43 2)) (vp_nar .byte ((Int32.toInt8 x1).toInt32)) = σ19 at hP hD
      have h := h.2 σ19 e_σ19.symm
      refine lv_aload_n hx hb dX6_append_20 rfl (lv_at hl 0 rfl) ?_
      refine lv_dup hx hb dX6_append_21 rfl ?_
      refine wx_get C hP (q := 43) (ci := 6) (Nat.le_of_ble_eq_true rfl) (eC_43 _) (Cn := RX6) (T := TX6) (Nf := 4) rfl inX6_append_X6 2 (by decide) (List.mem_of_getElem? (i := 1) rfl) (v := .int (σ19 43 2)) rfl dX6_append_22 ?_
      refine lv_iconst (v := 1) hx hb dX6_append_25 (by decide) ?_
      refine lv_iadd hx hb dX6_append_26 ?_
      refine wx_put C hP hD hS (q := 43) (ci := 6) (Nat.le_of_ble_eq_true rfl) (eC_43 _) (Cn := RX6) (T := TX6) (Nf := 4) rfl inX6_append_X6 tyX6 tyX6_ok nmX6 2 (by decide) (List.mem_of_getElem? (i := 1) rfl) rfl rfl (Nat.le_of_ble_eq_true rfl) rfl dX6_append_27 (fun H locs hP hD hS => ?_)
      generalize e_σ27 : wx_up σ19 43 2 ((σ19 43 2) + 1) = σ27 at hP hD
      have h := h σ27 e_σ27.symm
      exact Rt _ _ _ _ _ h hP hD hS dX6_append_30
  rw [eH, eL] at goal
  exact goal
abbrev rmX6_rewind : Room := { frames := 1, cells := 0, slots := 0, locals := 40 }
set_option maxRecDepth 20000 in
theorem inX6_rewind_X6 : ∀ w ∈ u_ws RX6 TX6 4, w ∈ wsX6_rewind := by decide +kernel
set_option maxRecDepth 100000 in
set_option maxHeartbeats 4000000 in
theorem mtX6_rewind {l : Launch} {D : va_G} {cI cB cS cR : ClassId} {ad : Nat → Nat} {tS tP : Nat} {kS vS : Nat → Nat} {sz : Nat} {σ : wx_Z} {K : wx_Z → Prop} (h : wpX6_rewind σ K) : Met l yX6_rewind wsX6_rewind rmX6_rewind (wx_Pre D [(cI, .int), (cB, .byte), (cS, .object RX5), (cR, .array .int)] (wC_RO tS tP kS vS) 58 (wC_E cI cB cS cR ad) ad σ sz [.ref (ad 43)]) (va_Qv K (wx_B D [(cI, .int), (cB, .byte), (cS, .object RX5), (cR, .array .int)] 58 (wC_E cI cB cS cR ad) ad (va_A (wx_w 58 (wC_E cI cB cS cR ad) ad σ) sz)) (va_A (wx_w 58 (wC_E cI cB cS cR ad) ad σ) sz)) 0 0 (va_A (wx_w 58 (wC_E cI cB cS cR ad) ad σ) sz) := by
  unfold wpX6_rewind at h
  refine wx_metv (cc := cX6_rewind) (maxL := 1) (own := RX6) rfl (by decide) rfl (Nat.le_of_ble_eq_true rfl) (wC_ROok tS tP kS vS) ?_
  intro p e s m args below meth c A Q ls C Rt hP hD hS hl
  obtain ⟨⟨hx, hb, hml, hown, hts⟩, hA, hK, hRO, hro⟩ := id C
  have hl : lv_has ls 1 [(0, .ref (ad 43))] := hl
  obtain ⟨H, eH⟩ : ∃ z, z = s.heap := ⟨_, rfl⟩
  obtain ⟨locs, eL⟩ : ∃ z : List Loc, z = [] := ⟨_, rfl⟩
  rw [← eH] at hP
  have hS : va_S A s.heap H locs := by rw [eH, eL]; exact hS
  have goal : W p l e rmX6_rewind s m args below meth c H locs 0 0 Q (F0 m 0 ls []) := by
    refine lv_aload_n hx hb dX6_rewind_0 rfl (lv_at hl 0 rfl) ?_
    refine lv_iconst (v := 0) hx hb dX6_rewind_1 (by decide) ?_
    refine wx_put C hP hD hS (q := 43) (ci := 6) (Nat.le_of_ble_eq_true rfl) (eC_43 _) (Cn := RX6) (T := TX6) (Nf := 4) rfl inX6_rewind_X6 tyX6 tyX6_ok nmX6 1 (by decide) (List.mem_of_getElem? (i := 1) rfl) rfl rfl (Nat.le_of_ble_eq_true rfl) rfl dX6_rewind_2 (fun H locs hP hD hS => ?_)
    generalize e_σ2 : wx_up σ 43 1 0 = σ2 at hP hD
    have h := h σ2 e_σ2.symm
    refine lv_aload_n hx hb dX6_rewind_5 rfl (lv_at hl 0 rfl) ?_
    refine lv_iconst (v := (-1)) hx hb dX6_rewind_6 (by decide) ?_
    refine wx_put C hP hD hS (q := 43) (ci := 6) (Nat.le_of_ble_eq_true rfl) (eC_43 _) (Cn := RX6) (T := TX6) (Nf := 4) rfl inX6_rewind_X6 tyX6 tyX6_ok nmX6 3 (by decide) (List.mem_of_getElem? (i := 2) rfl) rfl rfl (Nat.le_of_ble_eq_true rfl) rfl dX6_rewind_7 (fun H locs hP hD hS => ?_)
    generalize e_σ7 : wx_up σ2 43 3 (-1) = σ7 at hP hD
    have h := h σ7 e_σ7.symm
    exact Rt _ _ _ _ _ h hP hD hS dX6_rewind_10
  rw [eH, eL] at goal
  exact goal
abbrev rmX6_skipBlanks : Room := { frames := 1, cells := 0, slots := 0, locals := 40 }
set_option maxRecDepth 20000 in
theorem inX6_skipBlanks_X6 : ∀ w ∈ u_ws RX6 TX6 4, w ∈ wsX6_skipBlanks := by decide +kernel
set_option maxRecDepth 100000 in
set_option maxHeartbeats 4000000 in
theorem bX6_skipBlanks_0 {p : Program} {l : Launch} {e : Env} {s : State} {m : MethodId} {args : Array Value} {below : List Frame} {meth : Method} {c : Code} {A : Nat → Prop} {Q : State → Prop} {D : va_G} {cI cB cS cR : ClassId} {ad : Nat → Nat} {tS tP : Nat} {kS vS : Nat → Nat} {K : wx_Z → Prop} (C : wx_C p s m args c cX6_skipBlanks 1 RX6 wsX6_skipBlanks D [(cI, .int), (cB, .byte), (cS, .object RX5), (cR, .array .int)] (wC_RO tS tP kS vS) A) (Rt : wx_Rv p l e rmX6_skipBlanks s m args below meth c cX6_skipBlanks D 58 (wC_E cI cB cS cR ad) ad A K Q) : ∀ (n : Nat) (σ : wx_Z), wpX6_skipBlanks_0 K n σ → ∀ (H : Heap) (locs : List Loc) (ls : Array Slot), va_P D vwCl (wx_w 58 (wC_E cI cB cS cR ad) ad σ) H → va_D A (wx_w 58 (wC_E cI cB cS cR ad) ad σ) → va_S A s.heap H locs → lv_has ls 1 [(0, .ref (ad 43))] → W p l e rmX6_skipBlanks s m args below meth c H locs 0 0 Q (F0 m 0 ls []) := by
  obtain ⟨⟨hx, hb, hml, hown, hts⟩, hA, hK, hRO, hro⟩ := id C
  intro n
  induction n with
  | zero => intro σ h; exact h.elim
  | succ n ih =>
    intro σ h H locs ls hP hD hS hl
    unfold wpX6_skipBlanks_0 at h
    refine lv_aload_n hx hb dX6_skipBlanks_0 rfl (lv_at hl 0 rfl) ?_
    refine wx_get C hP (q := 43) (ci := 6) (Nat.le_of_ble_eq_true rfl) (eC_43 _) (Cn := RX6) (T := TX6) (Nf := 4) rfl inX6_skipBlanks_X6 1 (by decide) (List.mem_of_getElem? (i := 1) rfl) (v := .int (σ 43 1)) rfl dX6_skipBlanks_1 ?_
    refine lv_aload_n hx hb dX6_skipBlanks_4 rfl (lv_at hl 0 rfl) ?_
    refine wx_get C hP (q := 43) (ci := 6) (Nat.le_of_ble_eq_true rfl) (eC_43 _) (Cn := RX6) (T := TX6) (Nf := 4) rfl inX6_skipBlanks_X6 2 (by decide) (List.mem_of_getElem? (i := 2) rfl) (v := .int (σ 43 2)) rfl dX6_skipBlanks_5 ?_
    refine lv_icmp_ge (tgt := 38) hx hb dX6_skipBlanks_8 (by decide) (fun c8 => ?_) (fun c8 => ?_)
    · have h := h.1 c8
      exact Rt _ _ _ _ _ h hP hD hS dX6_skipBlanks_38
    · have h := h.2 c8
      refine lv_aload_n hx hb dX6_skipBlanks_11 rfl (lv_at hl 0 rfl) ?_
      refine wx_get C hP (q := 43) (ci := 6) (Nat.le_of_ble_eq_true rfl) (eC_43 _) (Cn := RX6) (T := TX6) (Nf := 4) rfl inX6_skipBlanks_X6 0 (by decide) (List.mem_of_getElem? (i := 3) rfl) (v := .ref (ad 44)) rfl dX6_skipBlanks_12 ?_
      refine lv_aload_n hx hb dX6_skipBlanks_15 rfl (lv_at hl 0 rfl) ?_
      refine wx_get C hP (q := 43) (ci := 6) (Nat.le_of_ble_eq_true rfl) (eC_43 _) (Cn := RX6) (T := TX6) (Nf := 4) rfl inX6_skipBlanks_X6 1 (by decide) (List.mem_of_getElem? (i := 1) rfl) (v := .int (σ 43 1)) rfl dX6_skipBlanks_16 ?_
      refine wx_bld C hP (q := 44) (Nat.le_of_ble_eq_true rfl) eC_44 1 rfl h.1 dX6_skipBlanks_19 ?_
      have h := h.2
      refine lv_bipush (v := 32) hx hb dX6_skipBlanks_20 (by decide) ?_
      refine lv_icmp_ne (tgt := 38) hx hb dX6_skipBlanks_22 (by decide) (fun c22 => ?_) (fun c22 => ?_)
      · have h := h.1 c22
        exact Rt _ _ _ _ _ h hP hD hS dX6_skipBlanks_38
      · have h := h.2 c22
        refine lv_aload_n hx hb dX6_skipBlanks_25 rfl (lv_at hl 0 rfl) ?_
        refine lv_dup hx hb dX6_skipBlanks_26 rfl ?_
        refine wx_get C hP (q := 43) (ci := 6) (Nat.le_of_ble_eq_true rfl) (eC_43 _) (Cn := RX6) (T := TX6) (Nf := 4) rfl inX6_skipBlanks_X6 1 (by decide) (List.mem_of_getElem? (i := 1) rfl) (v := .int (σ 43 1)) rfl dX6_skipBlanks_27 ?_
        refine lv_iconst (v := 1) hx hb dX6_skipBlanks_30 (by decide) ?_
        refine lv_iadd hx hb dX6_skipBlanks_31 ?_
        refine wx_put C hP hD hS (q := 43) (ci := 6) (Nat.le_of_ble_eq_true rfl) (eC_43 _) (Cn := RX6) (T := TX6) (Nf := 4) rfl inX6_skipBlanks_X6 tyX6 tyX6_ok nmX6 1 (by decide) (List.mem_of_getElem? (i := 1) rfl) rfl rfl (Nat.le_of_ble_eq_true rfl) rfl dX6_skipBlanks_32 (fun H locs hP hD hS => ?_)
        generalize e_σ32 : wx_up σ 43 1 ((σ 43 1) + 1) = σ32 at hP hD
        have h := h σ32 e_σ32.symm
        refine lv_goto (tgt := 0) hx hb dX6_skipBlanks_35 (by decide) ?_
        exact ih σ32  h _ _ _ hP hD hS (lv_sub hl [0] rfl)
set_option maxRecDepth 100000 in
set_option maxHeartbeats 4000000 in
theorem mtX6_skipBlanks {l : Launch} {D : va_G} {cI cB cS cR : ClassId} {ad : Nat → Nat} {tS tP : Nat} {kS vS : Nat → Nat} {sz : Nat} {σ : wx_Z} {K : wx_Z → Prop} (h : wpX6_skipBlanks σ K) : Met l yX6_skipBlanks wsX6_skipBlanks rmX6_skipBlanks (wx_Pre D [(cI, .int), (cB, .byte), (cS, .object RX5), (cR, .array .int)] (wC_RO tS tP kS vS) 58 (wC_E cI cB cS cR ad) ad σ sz [.ref (ad 43)]) (va_Qv K (wx_B D [(cI, .int), (cB, .byte), (cS, .object RX5), (cR, .array .int)] 58 (wC_E cI cB cS cR ad) ad (va_A (wx_w 58 (wC_E cI cB cS cR ad) ad σ) sz)) (va_A (wx_w 58 (wC_E cI cB cS cR ad) ad σ) sz)) 0 0 (va_A (wx_w 58 (wC_E cI cB cS cR ad) ad σ) sz) := by
  unfold wpX6_skipBlanks at h
  refine wx_metv (cc := cX6_skipBlanks) (maxL := 1) (own := RX6) rfl (by decide) rfl (Nat.le_of_ble_eq_true rfl) (wC_ROok tS tP kS vS) ?_
  intro p e s m args below meth c A Q ls C Rt hP hD hS hl
  obtain ⟨⟨hx, hb, hml, hown, hts⟩, hA, hK, hRO, hro⟩ := id C
  have hl : lv_has ls 1 [(0, .ref (ad 43))] := hl
  obtain ⟨H, eH⟩ : ∃ z, z = s.heap := ⟨_, rfl⟩
  obtain ⟨locs, eL⟩ : ∃ z : List Loc, z = [] := ⟨_, rfl⟩
  rw [← eH] at hP
  have hS : va_S A s.heap H locs := by rw [eH, eL]; exact hS
  have goal : W p l e rmX6_skipBlanks s m args below meth c H locs 0 0 Q (F0 m 0 ls []) := by
    obtain ⟨n0, h⟩ := h
    exact bX6_skipBlanks_0 C Rt n0 σ  h _ _ _ hP hD hS (lv_sub hl [0] rfl)
  rw [eH, eL] at goal
  exact goal
abbrev rmX6_isAtEnd : Room := { frames := 2, cells := 0, slots := 0, locals := 60 }
set_option maxRecDepth 20000 in
theorem inX6_isAtEnd_X6 : ∀ w ∈ u_ws RX6 TX6 4, w ∈ wsX6_isAtEnd := by decide +kernel
theorem nyX6_skipBlanks : yX6_skipBlanks.cls = RX6 ∧ yX6_skipBlanks.cls ≠ "java/lang/invoke/MethodHandle" ∧ yX6_skipBlanks.cls ≠ "java/lang/invoke/VarHandle" ∧ (parseMethodDescriptor yX6_skipBlanks.desc).map (fun d => d.parameters.length) = some 0 := by decide +kernel
set_option maxRecDepth 100000 in
set_option maxHeartbeats 4000000 in
theorem mtX6_isAtEnd {l : Launch} {D : va_G} {cI cB cS cR : ClassId} {ad : Nat → Nat} {tS tP : Nat} {kS vS : Nat → Nat} {sz : Nat} {σ : wx_Z} {K : Int32 → wx_Z → Prop} (h : wpX6_isAtEnd σ K) : Met l yX6_isAtEnd wsX6_isAtEnd rmX6_isAtEnd (wx_Pre D [(cI, .int), (cB, .byte), (cS, .object RX5), (cR, .array .int)] (wC_RO tS tP kS vS) 58 (wC_E cI cB cS cR ad) ad σ sz [.ref (ad 43)]) (va_Qi K (wx_B D [(cI, .int), (cB, .byte), (cS, .object RX5), (cR, .array .int)] 58 (wC_E cI cB cS cR ad) ad (va_A (wx_w 58 (wC_E cI cB cS cR ad) ad σ) sz)) (va_A (wx_w 58 (wC_E cI cB cS cR ad) ad σ) sz)) 0 0 (va_A (wx_w 58 (wC_E cI cB cS cR ad) ad σ) sz) := by
  unfold wpX6_isAtEnd at h
  refine wx_metz (cc := cX6_isAtEnd) (maxL := 1) (own := RX6) rfl (by decide) rfl (Nat.le_of_ble_eq_true rfl) (wC_ROok tS tP kS vS) ?_
  intro p e s m args below meth c A Q ls C Rt hP hD hS hl
  obtain ⟨⟨hx, hb, hml, hown, hts⟩, hA, hK, hRO, hro⟩ := id C
  have hl : lv_has ls 1 [(0, .ref (ad 43))] := hl
  obtain ⟨H, eH⟩ : ∃ z, z = s.heap := ⟨_, rfl⟩
  obtain ⟨locs, eL⟩ : ∃ z : List Loc, z = [] := ⟨_, rfl⟩
  rw [← eH] at hP
  have hS : va_S A s.heap H locs := by rw [eH, eL]; exact hS
  have goal : W p l e rmX6_isAtEnd s m args below meth c H locs 0 0 Q (F0 m 0 ls []) := by
    refine lv_aload_n hx hb dX6_isAtEnd_0 rfl (lv_at hl 0 rfl) ?_
    refine wx_cv C hD hS (va_runV (As := []) (rest := []) C.1 (mtX6_skipBlanks (l := l) (D := D) (sz := H.size) h) (cwV 0 hts gX6_isAtEnd_X6_skipBlanks rfl rfl rfl nyX6_skipBlanks ⟨Nat.le_of_ble_eq_true rfl, Nat.le_of_ble_eq_true rfl⟩) (wx_pv C hP hD hS (q := 43) (ci := 6) (Nat.le_of_ble_eq_true rfl) (eC_43 _) rfl) rfl rfl hl.1 rfl (lv_room (Nat.le_of_ble_eq_true rfl)) dX6_isAtEnd_1 ⟨Nat.zero_le _, Nat.zero_le _⟩) (fun σ1 H locs h hP hD hS => ?_)
    refine lv_aload_n hx hb dX6_isAtEnd_4 rfl (lv_at hl 0 rfl) ?_
    refine wx_get C hP (q := 43) (ci := 6) (Nat.le_of_ble_eq_true rfl) (eC_43 _) (Cn := RX6) (T := TX6) (Nf := 4) rfl inX6_isAtEnd_X6 1 (by decide) (List.mem_of_getElem? (i := 1) rfl) (v := .int (σ1 43 1)) rfl dX6_isAtEnd_5 ?_
    refine lv_aload_n hx hb dX6_isAtEnd_8 rfl (lv_at hl 0 rfl) ?_
    refine wx_get C hP (q := 43) (ci := 6) (Nat.le_of_ble_eq_true rfl) (eC_43 _) (Cn := RX6) (T := TX6) (Nf := 4) rfl inX6_isAtEnd_X6 2 (by decide) (List.mem_of_getElem? (i := 2) rfl) (v := .int (σ1 43 2)) rfl dX6_isAtEnd_9 ?_
    refine lv_icmp_lt (tgt := 19) hx hb dX6_isAtEnd_12 (by decide) (fun c12 => ?_) (fun c12 => ?_)
    · have h := h.1 c12
      refine lv_iconst (v := 0) hx hb dX6_isAtEnd_19 (by decide) ?_
      exact Rt _ _ _ _ _ _ rfl h hP hD hS dX6_isAtEnd_20
    · have h := h.2 c12
      refine lv_iconst (v := 1) hx hb dX6_isAtEnd_15 (by decide) ?_
      refine lv_goto (tgt := 20) hx hb dX6_isAtEnd_16 (by decide) ?_
      exact Rt _ _ _ _ _ _ rfl h hP hD hS dX6_isAtEnd_20
  rw [eH, eL] at goal
  exact goal
abbrev rmX6_failAt : Room := { frames := 1, cells := 0, slots := 0, locals := 40 }
set_option maxRecDepth 20000 in
theorem inX6_failAt_X6 : ∀ w ∈ u_ws RX6 TX6 4, w ∈ wsX6_failAt := by decide +kernel
set_option maxRecDepth 100000 in
set_option maxHeartbeats 4000000 in
theorem mtX6_failAt {l : Launch} {D : va_G} {cI cB cS cR : ClassId} {ad : Nat → Nat} {tS tP : Nat} {kS vS : Nat → Nat} {sz : Nat} {σ : wx_Z} {x1 : Int32} {K : wx_Z → Prop} (h : wpX6_failAt σ x1 K) : Met l yX6_failAt wsX6_failAt rmX6_failAt (wx_Pre D [(cI, .int), (cB, .byte), (cS, .object RX5), (cR, .array .int)] (wC_RO tS tP kS vS) 58 (wC_E cI cB cS cR ad) ad σ sz [.ref (ad 43), .int x1]) (va_Qv K (wx_B D [(cI, .int), (cB, .byte), (cS, .object RX5), (cR, .array .int)] 58 (wC_E cI cB cS cR ad) ad (va_A (wx_w 58 (wC_E cI cB cS cR ad) ad σ) sz)) (va_A (wx_w 58 (wC_E cI cB cS cR ad) ad σ) sz)) 0 0 (va_A (wx_w 58 (wC_E cI cB cS cR ad) ad σ) sz) := by
  unfold wpX6_failAt at h
  refine wx_metv (cc := cX6_failAt) (maxL := 2) (own := RX6) rfl (by decide) rfl (Nat.le_of_ble_eq_true rfl) (wC_ROok tS tP kS vS) ?_
  intro p e s m args below meth c A Q ls C Rt hP hD hS hl
  obtain ⟨⟨hx, hb, hml, hown, hts⟩, hA, hK, hRO, hro⟩ := id C
  have hl : lv_has ls 2 [(0, .ref (ad 43)), (1, .int x1)] := hl
  obtain ⟨H, eH⟩ : ∃ z, z = s.heap := ⟨_, rfl⟩
  obtain ⟨locs, eL⟩ : ∃ z : List Loc, z = [] := ⟨_, rfl⟩
  rw [← eH] at hP
  have hS : va_S A s.heap H locs := by rw [eH, eL]; exact hS
  have goal : W p l e rmX6_failAt s m args below meth c H locs 0 0 Q (F0 m 0 ls []) := by
    refine lv_aload_n hx hb dX6_failAt_0 rfl (lv_at hl 0 rfl) ?_
    refine wx_get C hP (q := 43) (ci := 6) (Nat.le_of_ble_eq_true rfl) (eC_43 _) (Cn := RX6) (T := TX6) (Nf := 4) rfl inX6_failAt_X6 3 (by decide) (List.mem_of_getElem? (i := 1) rfl) (v := .int (σ 43 3)) rfl dX6_failAt_1 ?_
    refine lv_iconst (v := (-1)) hx hb dX6_failAt_4 (by decide) ?_
    refine lv_icmp_ne (tgt := 13) hx hb dX6_failAt_5 (by decide) (fun c5 => ?_) (fun c5 => ?_)
    · have h := h.1 c5
      exact Rt _ _ _ _ _ h hP hD hS dX6_failAt_13
    · have h := h.2 c5
      refine lv_aload_n hx hb dX6_failAt_8 rfl (lv_at hl 0 rfl) ?_
      refine lv_iload_n hx hb dX6_failAt_9 rfl (lv_at hl 1 rfl) ?_
      refine wx_put C hP hD hS (q := 43) (ci := 6) (Nat.le_of_ble_eq_true rfl) (eC_43 _) (Cn := RX6) (T := TX6) (Nf := 4) rfl inX6_failAt_X6 tyX6 tyX6_ok nmX6 3 (by decide) (List.mem_of_getElem? (i := 1) rfl) rfl rfl (Nat.le_of_ble_eq_true rfl) rfl dX6_failAt_10 (fun H locs hP hD hS => ?_)
      generalize e_σ10 : wx_up σ 43 3 x1 = σ10 at hP hD
      have h := h σ10 e_σ10.symm
      exact Rt _ _ _ _ _ h hP hD hS dX6_failAt_13
  rw [eH, eL] at goal
  exact goal
abbrev rmX6_readOneOf : Room := { frames := 5, cells := 0, slots := 0, locals := 131 }
set_option maxRecDepth 20000 in
theorem inX6_readOneOf_X6 : ∀ w ∈ u_ws RX6 TX6 4, w ∈ wsX6_readOneOf := by decide +kernel
theorem nyJ0_indexOf_0f7a4 : yJ0_indexOf_0f7a4.cls = RJ0 ∧ yJ0_indexOf_0f7a4.cls ≠ "java/lang/invoke/MethodHandle" ∧ yJ0_indexOf_0f7a4.cls ≠ "java/lang/invoke/VarHandle" ∧ (parseMethodDescriptor yJ0_indexOf_0f7a4.desc).map (fun d => d.parameters.length) = some 1 := by decide +kernel
theorem nyX6_failAt : yX6_failAt.cls = RX6 ∧ yX6_failAt.cls ≠ "java/lang/invoke/MethodHandle" ∧ yX6_failAt.cls ≠ "java/lang/invoke/VarHandle" ∧ (parseMethodDescriptor yX6_failAt.desc).map (fun d => d.parameters.length) = some 1 := by decide +kernel
theorem nyX6_isAtEnd : yX6_isAtEnd.cls = RX6 ∧ yX6_isAtEnd.cls ≠ "java/lang/invoke/MethodHandle" ∧ yX6_isAtEnd.cls ≠ "java/lang/invoke/VarHandle" ∧ (parseMethodDescriptor yX6_isAtEnd.desc).map (fun d => d.parameters.length) = some 0 := by decide +kernel
set_option maxRecDepth 100000 in
set_option maxHeartbeats 4000000 in
theorem bX6_readOneOf_24 {p : Program} {l : Launch} {e : Env} {s : State} {m : MethodId} {args : Array Value} {below : List Frame} {meth : Method} {c : Code} {A : Nat → Prop} {Q : State → Prop} {D : va_G} {cI cB cS cR : ClassId} {ad : Nat → Nat} {tS tP : Nat} {kS vS : Nat → Nat} {j : Nat} {K : Int32 → wx_Z → Prop} (C : wx_C p s m args c cX6_readOneOf 2 RX6 wsX6_readOneOf D [(cI, .int), (cB, .byte), (cS, .object RX5), (cR, .array .int)] (wC_RO tS tP kS vS) A) (Rt : wx_Ri p l e rmX6_readOneOf s m args below meth c cX6_readOneOf D 58 (wC_E cI cB cS cR ad) ad A K Q) (hj : j < 2) : ∀ (σ : wx_Z), wpX6_readOneOf_24 j K σ → ∀ (H : Heap) (locs : List Loc) (ls : Array Slot), va_P D vwCl (wx_w 58 (wC_E cI cB cS cR ad) ad σ) H → va_D A (wx_w 58 (wC_E cI cB cS cR ad) ad σ) → va_S A s.heap H locs → lv_has ls 2 [(0, .ref (ad 43))] → W p l e rmX6_readOneOf s m args below meth c H locs 0 0 Q (F0 m 24 ls []) := by
  obtain ⟨⟨hx, hb, hml, hown, hts⟩, hA, hK, hRO, hro⟩ := id C
  intro σ h H locs ls hP hD hS hl
  unfold wpX6_readOneOf_24 at h
  refine lv_aload_n hx hb dX6_readOneOf_24 rfl (lv_at hl 0 rfl) ?_
  refine lv_aload_n hx hb dX6_readOneOf_25 rfl (lv_at hl 0 rfl) ?_
  refine wx_get C hP (q := 43) (ci := 6) (Nat.le_of_ble_eq_true rfl) (eC_43 _) (Cn := RX6) (T := TX6) (Nf := 4) rfl inX6_readOneOf_X6 1 (by decide) (List.mem_of_getElem? (i := 2) rfl) (v := .int (σ 43 1)) rfl dX6_readOneOf_26 ?_
  refine wx_cv C hD hS (va_runV (As := [.int (σ 43 1)]) (rest := []) C.1 (mtX6_failAt (l := l) (D := D) (sz := H.size) h) (cwV 1 hts gX6_readOneOf_X6_failAt rfl rfl rfl nyX6_failAt ⟨Nat.le_of_ble_eq_true rfl, Nat.le_of_ble_eq_true rfl⟩) (wx_pv C hP hD hS (q := 43) (ci := 6) (Nat.le_of_ble_eq_true rfl) (eC_43 _) rfl) rfl rfl hl.1 rfl (lv_room (Nat.le_of_ble_eq_true rfl)) dX6_readOneOf_29 ⟨Nat.zero_le _, Nat.zero_le _⟩) (fun σ29 H locs h hP hD hS => ?_)
  refine lv_iconst (v := (-1)) hx hb dX6_readOneOf_32 (by decide) ?_
  exact Rt _ _ _ _ _ _ h hP hD hS dX6_readOneOf_33
set_option maxRecDepth 100000 in
set_option maxHeartbeats 4000000 in
theorem mtX6_readOneOf {l : Launch} {D : va_G} {cI cB cS cR : ClassId} {ad : Nat → Nat} {tS tP : Nat} {kS vS : Nat → Nat} {sz : Nat} {j : Nat} {σ : wx_Z} {K : Int32 → wx_Z → Prop} (hj : j < 2) (h : wpX6_readOneOf j σ K) : Met l yX6_readOneOf wsX6_readOneOf rmX6_readOneOf (wx_Pre D [(cI, .int), (cB, .byte), (cS, .object RX5), (cR, .array .int)] (wC_RO tS tP kS vS) 58 (wC_E cI cB cS cR ad) ad σ sz [.ref (ad 43), .ref (kS j)]) (va_Qi K (wx_B D [(cI, .int), (cB, .byte), (cS, .object RX5), (cR, .array .int)] 58 (wC_E cI cB cS cR ad) ad (va_A (wx_w 58 (wC_E cI cB cS cR ad) ad σ) sz)) (va_A (wx_w 58 (wC_E cI cB cS cR ad) ad σ) sz)) 0 0 (va_A (wx_w 58 (wC_E cI cB cS cR ad) ad σ) sz) := by
  unfold wpX6_readOneOf at h
  refine wx_meti (cc := cX6_readOneOf) (maxL := 2) (own := RX6) rfl (by decide) rfl (Nat.le_of_ble_eq_true rfl) (wC_ROok tS tP kS vS) ?_
  intro p e s m args below meth c A Q ls C Rt hP hD hS hl
  obtain ⟨⟨hx, hb, hml, hown, hts⟩, hA, hK, hRO, hro⟩ := id C
  have hl : lv_has ls 2 [(0, .ref (ad 43)), (1, .ref (kS j))] := hl
  obtain ⟨H, eH⟩ : ∃ z, z = s.heap := ⟨_, rfl⟩
  obtain ⟨locs, eL⟩ : ∃ z : List Loc, z = [] := ⟨_, rfl⟩
  rw [← eH] at hP
  have hS : va_S A s.heap H locs := by rw [eH, eL]; exact hS
  have goal : W p l e rmX6_readOneOf s m args below meth c H locs 0 0 Q (F0 m 0 ls []) := by
    refine lv_aload_n hx hb dX6_readOneOf_0 rfl (lv_at hl 0 rfl) ?_
    refine wx_ci C hD hS (va_runV (As := []) (rest := []) C.1 (mtX6_isAtEnd (l := l) (D := D) (sz := H.size) h) (cwV 0 hts gX6_readOneOf_X6_isAtEnd rfl rfl rfl nyX6_isAtEnd ⟨Nat.le_of_ble_eq_true rfl, Nat.le_of_ble_eq_true rfl⟩) (wx_pv C hP hD hS (q := 43) (ci := 6) (Nat.le_of_ble_eq_true rfl) (eC_43 _) rfl) rfl rfl hl.1 rfl (lv_room (Nat.le_of_ble_eq_true rfl)) dX6_readOneOf_1 ⟨Nat.zero_le _, Nat.zero_le _⟩) (fun r1 σ1 H locs h hP hD hS => ?_)
    refine lv_if_ne (tgt := 24) hx hb dX6_readOneOf_4 (by decide) (fun c4 => ?_) (fun c4 => ?_)
    · have h := h.1 c4
      exact bX6_readOneOf_24 C Rt hj σ1  h _ _ _ hP hD hS (lv_sub hl [0] rfl)
    · have h := h.2 c4
      refine lv_aload_n hx hb dX6_readOneOf_7 rfl (lv_at hl 1 rfl) ?_
      refine lv_aload_n hx hb dX6_readOneOf_8 rfl (lv_at hl 0 rfl) ?_
      refine wx_get C hP (q := 43) (ci := 6) (Nat.le_of_ble_eq_true rfl) (eC_43 _) (Cn := RX6) (T := TX6) (Nf := 4) rfl inX6_readOneOf_X6 0 (by decide) (List.mem_of_getElem? (i := 1) rfl) (v := .ref (ad 44)) rfl dX6_readOneOf_9 ?_
      refine lv_aload_n hx hb dX6_readOneOf_12 rfl (lv_at hl 0 rfl) ?_
      refine wx_get C hP (q := 43) (ci := 6) (Nat.le_of_ble_eq_true rfl) (eC_43 _) (Cn := RX6) (T := TX6) (Nf := 4) rfl inX6_readOneOf_X6 1 (by decide) (List.mem_of_getElem? (i := 2) rfl) (v := .int (σ1 43 1)) rfl dX6_readOneOf_13 ?_
      refine wx_bld C hP (q := 44) (Nat.le_of_ble_eq_true rfl) eC_44 1 rfl h.1 dX6_readOneOf_16 ?_
      have h := h.2
      refine lv_i2c (v := ((Int32.toUInt32 (σ1 44 (Int32.toNatClampNeg (σ1 43 1)))) % 65536).toInt32) hx hb dX6_readOneOf_17 rfl ?_
      refine wx_ci C hD hS (va_runV (As := [.int (((Int32.toUInt32 (σ1 44 (Int32.toNatClampNeg (σ1 43 1)))) % 65536).toInt32)]) (rest := []) C.1 (mtJ0_indexOf_0f7a4 (l := l) (D := D) (sz := H.size) hj h) (cwV 1 hts gX6_readOneOf_J0_indexOf_0f7a4 rfl rfl rfl nyJ0_indexOf_0f7a4 ⟨Nat.le_of_ble_eq_true rfl, Nat.le_of_ble_eq_true rfl⟩) (wx_px C hP hD hS (vk_recv (ro_k hro) hj hS)) rfl rfl hl.1 rfl (lv_room (Nat.le_of_ble_eq_true rfl)) dX6_readOneOf_18 ⟨Nat.zero_le _, Nat.zero_le _⟩) (fun r18 σ18 H locs h hP hD hS => ?_)
      refine lv_if_ge (tgt := 34) hx hb dX6_readOneOf_21 (by decide) (fun c21 => ?_) (fun c21 => ?_)
      · have h := h.1 c21
        refine lv_aload_n hx hb dX6_readOneOf_34 rfl (lv_at hl 0 rfl) ?_
        refine lv_dup hx hb dX6_readOneOf_35 rfl ?_
        refine wx_get C hP (q := 43) (ci := 6) (Nat.le_of_ble_eq_true rfl) (eC_43 _) (Cn := RX6) (T := TX6) (Nf := 4) rfl inX6_readOneOf_X6 1 (by decide) (List.mem_of_getElem? (i := 2) rfl) (v := .int (σ18 43 1)) rfl dX6_readOneOf_36 ?_
        refine lv_iconst (v := 1) hx hb dX6_readOneOf_39 (by decide) ?_
        refine lv_iadd hx hb dX6_readOneOf_40 ?_
        refine wx_put C hP hD hS (q := 43) (ci := 6) (Nat.le_of_ble_eq_true rfl) (eC_43 _) (Cn := RX6) (T := TX6) (Nf := 4) rfl inX6_readOneOf_X6 tyX6 tyX6_ok nmX6 1 (by decide) (List.mem_of_getElem? (i := 2) rfl) rfl rfl (Nat.le_of_ble_eq_true rfl) rfl dX6_readOneOf_41 (fun H locs hP hD hS => ?_)
        generalize e_σ41 : wx_up σ18 43 1 ((σ18 43 1) + 1) = σ41 at hP hD
        have h := h σ41 e_σ41.symm
        refine lv_aload_n hx hb dX6_readOneOf_44 rfl (lv_at hl 0 rfl) ?_
        refine wx_get C hP (q := 43) (ci := 6) (Nat.le_of_ble_eq_true rfl) (eC_43 _) (Cn := RX6) (T := TX6) (Nf := 4) rfl inX6_readOneOf_X6 0 (by decide) (List.mem_of_getElem? (i := 1) rfl) (v := .ref (ad 44)) rfl dX6_readOneOf_45 ?_
        refine lv_aload_n hx hb dX6_readOneOf_48 rfl (lv_at hl 0 rfl) ?_
        refine wx_get C hP (q := 43) (ci := 6) (Nat.le_of_ble_eq_true rfl) (eC_43 _) (Cn := RX6) (T := TX6) (Nf := 4) rfl inX6_readOneOf_X6 1 (by decide) (List.mem_of_getElem? (i := 2) rfl) (v := .int (σ41 43 1)) rfl dX6_readOneOf_49 ?_
        refine lv_iconst (v := 1) hx hb dX6_readOneOf_52 (by decide) ?_
        refine lv_isub hx hb dX6_readOneOf_53 ?_
        refine wx_bld C hP (q := 44) (Nat.le_of_ble_eq_true rfl) eC_44 1 rfl h.1 dX6_readOneOf_54 ?_
        have h := h.2
        exact Rt _ _ _ _ _ _ h hP hD hS dX6_readOneOf_55
      · have h := h.2 c21
        exact bX6_readOneOf_24 C Rt hj σ18  h _ _ _ hP hD hS (lv_sub hl [0] rfl)
  rw [eH, eL] at goal
  exact goal
abbrev rmX6_readNumber : Room := { frames := 2, cells := 0, slots := 0, locals := 61 }
set_option maxRecDepth 20000 in
theorem inX6_readNumber_X6 : ∀ w ∈ u_ws RX6 TX6 4, w ∈ wsX6_readNumber := by decide +kernel
set_option maxRecDepth 100000 in
set_option maxHeartbeats 4000000 in
theorem bX6_readNumber_189 {p : Program} {l : Launch} {e : Env} {s : State} {m : MethodId} {args : Array Value} {below : List Frame} {meth : Method} {c : Code} {A : Nat → Prop} {Q : State → Prop} {D : va_G} {cI cB cS cR : ClassId} {ad : Nat → Nat} {tS tP : Nat} {kS vS : Nat → Nat} {K : Int32 → wx_Z → Prop} (C : wx_C p s m args c cX6_readNumber 9 RX6 wsX6_readNumber D [(cI, .int), (cB, .byte), (cS, .object RX5), (cR, .array .int)] (wC_RO tS tP kS vS) A) (Rt : wx_Ri p l e rmX6_readNumber s m args below meth c cX6_readNumber D 58 (wC_E cI cB cS cR ad) ad A K Q) : ∀ (σ : wx_Z) (x1 : Int32) (x3 : Int32), wpX6_readNumber_189 K σ x1 x3 → ∀ (H : Heap) (locs : List Loc) (ls : Array Slot), va_P D vwCl (wx_w 58 (wC_E cI cB cS cR ad) ad σ) H → va_D A (wx_w 58 (wC_E cI cB cS cR ad) ad σ) → va_S A s.heap H locs → lv_has ls 9 [(0, .ref (ad 43)), (1, .int x1), (3, .int x3)] → W p l e rmX6_readNumber s m args below meth c H locs 0 0 Q (F0 m 189 ls []) := by
  obtain ⟨⟨hx, hb, hml, hown, hts⟩, hA, hK, hRO, hro⟩ := id C
  intro σ x1 x3 h H locs ls hP hD hS hl
  unfold wpX6_readNumber_189 at h
  refine lv_aload_n hx hb dX6_readNumber_189 rfl (lv_at hl 0 rfl) ?_
  refine lv_iload_n hx hb dX6_readNumber_190 rfl (lv_at hl 2 rfl) ?_
  refine wx_cv C hD hS (va_runV (As := [.int x3]) (rest := []) C.1 (mtX6_failAt (l := l) (D := D) (sz := H.size) h) (cwV 1 hts gX6_readNumber_X6_failAt rfl rfl rfl nyX6_failAt ⟨Nat.le_of_ble_eq_true rfl, Nat.le_of_ble_eq_true rfl⟩) (wx_pv C hP hD hS (q := 43) (ci := 6) (Nat.le_of_ble_eq_true rfl) (eC_43 _) rfl) rfl rfl hl.1 rfl (lv_room (Nat.le_of_ble_eq_true rfl)) dX6_readNumber_191 ⟨Nat.zero_le _, Nat.zero_le _⟩) (fun σ191 H locs h hP hD hS => ?_)
  refine lv_iload_n hx hb dX6_readNumber_194 rfl (lv_at hl 1 rfl) ?_
  exact Rt _ _ _ _ _ _ h hP hD hS dX6_readNumber_195
set_option maxRecDepth 100000 in
set_option maxHeartbeats 4000000 in
theorem bX6_readNumber_163 {p : Program} {l : Launch} {e : Env} {s : State} {m : MethodId} {args : Array Value} {below : List Frame} {meth : Method} {c : Code} {A : Nat → Prop} {Q : State → Prop} {D : va_G} {cI cB cS cR : ClassId} {ad : Nat → Nat} {tS tP : Nat} {kS vS : Nat → Nat} {K : Int32 → wx_Z → Prop} (C : wx_C p s m args c cX6_readNumber 9 RX6 wsX6_readNumber D [(cI, .int), (cB, .byte), (cS, .object RX5), (cR, .array .int)] (wC_RO tS tP kS vS) A) (Rt : wx_Ri p l e rmX6_readNumber s m args below meth c cX6_readNumber D 58 (wC_E cI cB cS cR ad) ad A K Q) : ∀ (σ : wx_Z) (x1 : Int32) (x2 : Int32) (x3 : Int32) (x7 : Int32) (s0 : Int32), wpX6_readNumber_163 K σ x1 x2 x3 x7 s0 → ∀ (H : Heap) (locs : List Loc) (ls : Array Slot), va_P D vwCl (wx_w 58 (wC_E cI cB cS cR ad) ad σ) H → va_D A (wx_w 58 (wC_E cI cB cS cR ad) ad σ) → va_S A s.heap H locs → lv_has ls 9 [(0, .ref (ad 43)), (1, .int x1), (2, .int x2), (3, .int x3), (7, .int x7)] → W p l e rmX6_readNumber s m args below meth c H locs 0 0 Q (F0 m 163 ls [.int s0]) := by
  obtain ⟨⟨hx, hb, hml, hown, hts⟩, hA, hK, hRO, hro⟩ := id C
  intro σ x1 x2 x3 x7 s0 h H locs ls hP hD hS hl
  unfold wpX6_readNumber_163 at h
  refine lv_istore (lv' := [(8, .int s0), (0, .ref (ad 43)), (1, .int x1), (2, .int x2), (3, .int x3), (7, .int x7)]) hx hb dX6_readNumber_163 hl (by decide) rfl (fun ls hl => ?_)
  refine lv_iload hx hb dX6_readNumber_165 (lv_at hl 5 rfl) ?_
  refine lv_iconst (v := 1) hx hb dX6_readNumber_167 (by decide) ?_
  refine lv_icmp_lt (tgt := 189) hx hb dX6_readNumber_168 (by decide) (fun c168 => ?_) (fun c168 => ?_)
  · have h := h.1 c168
    exact bX6_readNumber_189 C Rt σ x1 x3  h _ _ _ hP hD hS (lv_sub hl [1, 2, 4] rfl)
  · have h := h.2 c168
    refine lv_iload hx hb dX6_readNumber_171 (lv_at hl 5 rfl) ?_
    refine lv_iconst (v := 2) hx hb dX6_readNumber_173 (by decide) ?_
    refine lv_icmp_gt (tgt := 189) hx hb dX6_readNumber_174 (by decide) (fun c174 => ?_) (fun c174 => ?_)
    · have h := h.1 c174
      exact bX6_readNumber_189 C Rt σ x1 x3  h _ _ _ hP hD hS (lv_sub hl [1, 2, 4] rfl)
    · have h := h.2 c174
      refine lv_iload hx hb dX6_readNumber_177 (lv_at hl 0 rfl) ?_
      refine lv_iload_n hx hb dX6_readNumber_179 rfl (lv_at hl 2 rfl) ?_
      refine lv_icmp_lt (tgt := 189) hx hb dX6_readNumber_180 (by decide) (fun c180 => ?_) (fun c180 => ?_)
      · have h := h.1 c180
        exact bX6_readNumber_189 C Rt σ x1 x3  h _ _ _ hP hD hS (lv_sub hl [1, 2, 4] rfl)
      · have h := h.2 c180
        refine lv_iload hx hb dX6_readNumber_183 (lv_at hl 0 rfl) ?_
        refine lv_iload_n hx hb dX6_readNumber_185 rfl (lv_at hl 3 rfl) ?_
        refine lv_icmp_le (tgt := 196) hx hb dX6_readNumber_186 (by decide) (fun c186 => ?_) (fun c186 => ?_)
        · have h := h.1 c186
          refine lv_iload hx hb dX6_readNumber_196 (lv_at hl 0 rfl) ?_
          exact Rt _ _ _ _ _ _ h hP hD hS dX6_readNumber_198
        · have h := h.2 c186
          exact bX6_readNumber_189 C Rt σ x1 x3  h _ _ _ hP hD hS (lv_sub hl [1, 2, 4] rfl)
set_option maxRecDepth 100000 in
set_option maxHeartbeats 4000000 in
theorem bX6_readNumber_141 {p : Program} {l : Launch} {e : Env} {s : State} {m : MethodId} {args : Array Value} {below : List Frame} {meth : Method} {c : Code} {A : Nat → Prop} {Q : State → Prop} {D : va_G} {cI cB cS cR : ClassId} {ad : Nat → Nat} {tS tP : Nat} {kS vS : Nat → Nat} {K : Int32 → wx_Z → Prop} (C : wx_C p s m args c cX6_readNumber 9 RX6 wsX6_readNumber D [(cI, .int), (cB, .byte), (cS, .object RX5), (cR, .array .int)] (wC_RO tS tP kS vS) A) (Rt : wx_Ri p l e rmX6_readNumber s m args below meth c cX6_readNumber D 58 (wC_E cI cB cS cR ad) ad A K Q) : ∀ (σ : wx_Z) (x1 : Int32) (x2 : Int32) (x3 : Int32) (x4 : Int32) (x5 : Int32) (x6 : Int32), wpX6_readNumber_141 K σ x1 x2 x3 x4 x5 x6 → ∀ (H : Heap) (locs : List Loc) (ls : Array Slot), va_P D vwCl (wx_w 58 (wC_E cI cB cS cR ad) ad σ) H → va_D A (wx_w 58 (wC_E cI cB cS cR ad) ad σ) → va_S A s.heap H locs → lv_has ls 9 [(0, .ref (ad 43)), (1, .int x1), (2, .int x2), (3, .int x3), (4, .int x4), (5, .int x5), (6, .int x6)] → W p l e rmX6_readNumber s m args below meth c H locs 0 0 Q (F0 m 141 ls []) := by
  obtain ⟨⟨hx, hb, hml, hown, hts⟩, hA, hK, hRO, hro⟩ := id C
  intro σ x1 x2 x3 x4 x5 x6 h H locs ls hP hD hS hl
  unfold wpX6_readNumber_141 at h
  refine lv_aload_n hx hb dX6_readNumber_141 rfl (lv_at hl 0 rfl) ?_
  refine wx_get C hP (q := 43) (ci := 6) (Nat.le_of_ble_eq_true rfl) (eC_43 _) (Cn := RX6) (T := TX6) (Nf := 4) rfl inX6_readNumber_X6 1 (by decide) (List.mem_of_getElem? (i := 1) rfl) (v := .int (σ 43 1)) rfl dX6_readNumber_142 ?_
  refine lv_iload hx hb dX6_readNumber_145 (lv_at hl 5 rfl) ?_
  refine lv_isub hx hb dX6_readNumber_147 ?_
  refine lv_topi (fun t148 e_t148 => ?_)
  have h := h t148 e_t148
  refine lv_istore (lv' := [(7, .int t148), (0, .ref (ad 43)), (1, .int x1), (2, .int x2), (3, .int x3), (4, .int x4), (5, .int x5), (6, .int x6)]) hx hb dX6_readNumber_148 hl (by decide) rfl (fun ls hl => ?_)
  refine lv_iload hx hb dX6_readNumber_150 (lv_at hl 5 rfl) ?_
  refine lv_if_eq (tgt := 161) hx hb dX6_readNumber_152 (by decide) (fun c152 => ?_) (fun c152 => ?_)
  · have h := h.1 c152
    refine lv_iload hx hb dX6_readNumber_161 (lv_at hl 7 rfl) ?_
    exact bX6_readNumber_163 C Rt σ x1 x2 x3 t148 x6  h _ _ _ hP hD hS (lv_sub hl [1, 2, 3, 4, 0] rfl)
  · have h := h.2 c152
    refine lv_iload hx hb dX6_readNumber_155 (lv_at hl 7 rfl) ?_
    refine lv_ineg hx hb dX6_readNumber_157 ?_
    refine lv_goto (tgt := 163) hx hb dX6_readNumber_158 (by decide) ?_
    exact bX6_readNumber_163 C Rt σ x1 x2 x3 t148 (-x6)  h _ _ _ hP hD hS (lv_sub hl [1, 2, 3, 4, 0] rfl)
set_option maxRecDepth 100000 in
set_option maxHeartbeats 4000000 in
theorem bX6_readNumber_69 {p : Program} {l : Launch} {e : Env} {s : State} {m : MethodId} {args : Array Value} {below : List Frame} {meth : Method} {c : Code} {A : Nat → Prop} {Q : State → Prop} {D : va_G} {cI cB cS cR : ClassId} {ad : Nat → Nat} {tS tP : Nat} {kS vS : Nat → Nat} {K : Int32 → wx_Z → Prop} (C : wx_C p s m args c cX6_readNumber 9 RX6 wsX6_readNumber D [(cI, .int), (cB, .byte), (cS, .object RX5), (cR, .array .int)] (wC_RO tS tP kS vS) A) (Rt : wx_Ri p l e rmX6_readNumber s m args below meth c cX6_readNumber D 58 (wC_E cI cB cS cR ad) ad A K Q) : ∀ (n : Nat) (σ : wx_Z) (x1 : Int32) (x2 : Int32) (x3 : Int32) (x4 : Int32) (x5 : Int32) (x6 : Int32), wpX6_readNumber_69 K n σ x1 x2 x3 x4 x5 x6 → ∀ (H : Heap) (locs : List Loc) (ls : Array Slot), va_P D vwCl (wx_w 58 (wC_E cI cB cS cR ad) ad σ) H → va_D A (wx_w 58 (wC_E cI cB cS cR ad) ad σ) → va_S A s.heap H locs → lv_has ls 9 [(0, .ref (ad 43)), (1, .int x1), (2, .int x2), (3, .int x3), (4, .int x4), (5, .int x5), (6, .int x6)] → W p l e rmX6_readNumber s m args below meth c H locs 0 0 Q (F0 m 69 ls []) := by
  obtain ⟨⟨hx, hb, hml, hown, hts⟩, hA, hK, hRO, hro⟩ := id C
  intro n
  induction n with
  | zero => intro σ x1 x2 x3 x4 x5 x6 h; exact h.elim
  | succ n ih =>
    intro σ x1 x2 x3 x4 x5 x6 h H locs ls hP hD hS hl
    unfold wpX6_readNumber_69 at h
    refine lv_aload_n hx hb dX6_readNumber_69 rfl (lv_at hl 0 rfl) ?_
    refine wx_get C hP (q := 43) (ci := 6) (Nat.le_of_ble_eq_true rfl) (eC_43 _) (Cn := RX6) (T := TX6) (Nf := 4) rfl inX6_readNumber_X6 1 (by decide) (List.mem_of_getElem? (i := 1) rfl) (v := .int (σ 43 1)) rfl dX6_readNumber_70 ?_
    refine lv_aload_n hx hb dX6_readNumber_73 rfl (lv_at hl 0 rfl) ?_
    refine wx_get C hP (q := 43) (ci := 6) (Nat.le_of_ble_eq_true rfl) (eC_43 _) (Cn := RX6) (T := TX6) (Nf := 4) rfl inX6_readNumber_X6 2 (by decide) (List.mem_of_getElem? (i := 2) rfl) (v := .int (σ 43 2)) rfl dX6_readNumber_74 ?_
    refine lv_icmp_ge (tgt := 141) hx hb dX6_readNumber_77 (by decide) (fun c77 => ?_) (fun c77 => ?_)
    · have h := h.1 c77
      exact bX6_readNumber_141 C Rt σ x1 x2 x3 x4 x5 x6  h _ _ _ hP hD hS (lv_sub hl [0, 1, 2, 3, 4, 5, 6] rfl)
    · have h := h.2 c77
      refine lv_aload_n hx hb dX6_readNumber_80 rfl (lv_at hl 0 rfl) ?_
      refine wx_get C hP (q := 43) (ci := 6) (Nat.le_of_ble_eq_true rfl) (eC_43 _) (Cn := RX6) (T := TX6) (Nf := 4) rfl inX6_readNumber_X6 0 (by decide) (List.mem_of_getElem? (i := 3) rfl) (v := .ref (ad 44)) rfl dX6_readNumber_81 ?_
      refine lv_aload_n hx hb dX6_readNumber_84 rfl (lv_at hl 0 rfl) ?_
      refine wx_get C hP (q := 43) (ci := 6) (Nat.le_of_ble_eq_true rfl) (eC_43 _) (Cn := RX6) (T := TX6) (Nf := 4) rfl inX6_readNumber_X6 1 (by decide) (List.mem_of_getElem? (i := 1) rfl) (v := .int (σ 43 1)) rfl dX6_readNumber_85 ?_
      refine wx_bld C hP (q := 44) (Nat.le_of_ble_eq_true rfl) eC_44 1 rfl h.1 dX6_readNumber_88 ?_
      have h := h.2
      refine lv_bipush (v := 48) hx hb dX6_readNumber_89 (by decide) ?_
      refine lv_icmp_lt (tgt := 141) hx hb dX6_readNumber_91 (by decide) (fun c91 => ?_) (fun c91 => ?_)
      · have h := h.1 c91
        exact bX6_readNumber_141 C Rt σ x1 x2 x3 x4 x5 x6  h _ _ _ hP hD hS (lv_sub hl [0, 1, 2, 3, 4, 5, 6] rfl)
      · have h := h.2 c91
        refine lv_aload_n hx hb dX6_readNumber_94 rfl (lv_at hl 0 rfl) ?_
        refine wx_get C hP (q := 43) (ci := 6) (Nat.le_of_ble_eq_true rfl) (eC_43 _) (Cn := RX6) (T := TX6) (Nf := 4) rfl inX6_readNumber_X6 0 (by decide) (List.mem_of_getElem? (i := 3) rfl) (v := .ref (ad 44)) rfl dX6_readNumber_95 ?_
        refine lv_aload_n hx hb dX6_readNumber_98 rfl (lv_at hl 0 rfl) ?_
        refine wx_get C hP (q := 43) (ci := 6) (Nat.le_of_ble_eq_true rfl) (eC_43 _) (Cn := RX6) (T := TX6) (Nf := 4) rfl inX6_readNumber_X6 1 (by decide) (List.mem_of_getElem? (i := 1) rfl) (v := .int (σ 43 1)) rfl dX6_readNumber_99 ?_
        refine wx_bld C hP (q := 44) (Nat.le_of_ble_eq_true rfl) eC_44 1 rfl h.1 dX6_readNumber_102 ?_
        have h := h.2
        refine lv_bipush (v := 57) hx hb dX6_readNumber_103 (by decide) ?_
        refine lv_icmp_gt (tgt := 141) hx hb dX6_readNumber_105 (by decide) (fun c105 => ?_) (fun c105 => ?_)
        · have h := h.1 c105
          exact bX6_readNumber_141 C Rt σ x1 x2 x3 x4 x5 x6  h _ _ _ hP hD hS (lv_sub hl [0, 1, 2, 3, 4, 5, 6] rfl)
        · have h := h.2 c105
          refine lv_bipush (v := 10) hx hb dX6_readNumber_108 (by decide) ?_
          refine lv_iload hx hb dX6_readNumber_110 (lv_at hl 6 rfl) ?_
          refine lv_imul hx hb dX6_readNumber_112 ?_
          refine lv_aload_n hx hb dX6_readNumber_113 rfl (lv_at hl 0 rfl) ?_
          refine wx_get C hP (q := 43) (ci := 6) (Nat.le_of_ble_eq_true rfl) (eC_43 _) (Cn := RX6) (T := TX6) (Nf := 4) rfl inX6_readNumber_X6 0 (by decide) (List.mem_of_getElem? (i := 3) rfl) (v := .ref (ad 44)) rfl dX6_readNumber_114 ?_
          refine lv_aload_n hx hb dX6_readNumber_117 rfl (lv_at hl 0 rfl) ?_
          refine wx_get C hP (q := 43) (ci := 6) (Nat.le_of_ble_eq_true rfl) (eC_43 _) (Cn := RX6) (T := TX6) (Nf := 4) rfl inX6_readNumber_X6 1 (by decide) (List.mem_of_getElem? (i := 1) rfl) (v := .int (σ 43 1)) rfl dX6_readNumber_118 ?_
          refine wx_bld C hP (q := 44) (Nat.le_of_ble_eq_true rfl) eC_44 1 rfl h.1 dX6_readNumber_121 ?_
          have h := h.2
          refine lv_iadd hx hb dX6_readNumber_122 ?_
          refine lv_bipush (v := 48) hx hb dX6_readNumber_123 (by decide) ?_
          refine lv_isub hx hb dX6_readNumber_125 ?_
          refine lv_topi (fun t126 e_t126 => ?_)
          have h := h t126 e_t126
          refine lv_istore (lv' := [(6, .int t126), (0, .ref (ad 43)), (1, .int x1), (2, .int x2), (3, .int x3), (4, .int x4), (5, .int x5)]) hx hb dX6_readNumber_126 hl (by decide) rfl (fun ls hl => ?_)
          refine lv_aload_n hx hb dX6_readNumber_128 rfl (lv_at hl 1 rfl) ?_
          refine lv_dup hx hb dX6_readNumber_129 rfl ?_
          refine wx_get C hP (q := 43) (ci := 6) (Nat.le_of_ble_eq_true rfl) (eC_43 _) (Cn := RX6) (T := TX6) (Nf := 4) rfl inX6_readNumber_X6 1 (by decide) (List.mem_of_getElem? (i := 1) rfl) (v := .int (σ 43 1)) rfl dX6_readNumber_130 ?_
          refine lv_iconst (v := 1) hx hb dX6_readNumber_133 (by decide) ?_
          refine lv_iadd hx hb dX6_readNumber_134 ?_
          refine wx_put C hP hD hS (q := 43) (ci := 6) (Nat.le_of_ble_eq_true rfl) (eC_43 _) (Cn := RX6) (T := TX6) (Nf := 4) rfl inX6_readNumber_X6 tyX6 tyX6_ok nmX6 1 (by decide) (List.mem_of_getElem? (i := 1) rfl) rfl rfl (Nat.le_of_ble_eq_true rfl) rfl dX6_readNumber_135 (fun H locs hP hD hS => ?_)
          generalize e_σ135 : wx_up σ 43 1 ((σ 43 1) + 1) = σ135 at hP hD
          have h := h σ135 e_σ135.symm
          refine lv_goto (tgt := 69) hx hb dX6_readNumber_138 (by decide) ?_
          exact ih σ135 x1 x2 x3 x4 x5 t126  h _ _ _ hP hD hS (lv_sub hl [1, 2, 3, 4, 5, 6, 0] rfl)
set_option maxRecDepth 100000 in
set_option maxHeartbeats 4000000 in
theorem bX6_readNumber_43 {p : Program} {l : Launch} {e : Env} {s : State} {m : MethodId} {args : Array Value} {below : List Frame} {meth : Method} {c : Code} {A : Nat → Prop} {Q : State → Prop} {D : va_G} {cI cB cS cR : ClassId} {ad : Nat → Nat} {tS tP : Nat} {kS vS : Nat → Nat} {K : Int32 → wx_Z → Prop} (C : wx_C p s m args c cX6_readNumber 9 RX6 wsX6_readNumber D [(cI, .int), (cB, .byte), (cS, .object RX5), (cR, .array .int)] (wC_RO tS tP kS vS) A) (Rt : wx_Ri p l e rmX6_readNumber s m args below meth c cX6_readNumber D 58 (wC_E cI cB cS cR ad) ad A K Q) : ∀ (σ : wx_Z) (x1 : Int32) (x2 : Int32) (x3 : Int32) (s0 : Int32), wpX6_readNumber_43 K σ x1 x2 x3 s0 → ∀ (H : Heap) (locs : List Loc) (ls : Array Slot), va_P D vwCl (wx_w 58 (wC_E cI cB cS cR ad) ad σ) H → va_D A (wx_w 58 (wC_E cI cB cS cR ad) ad σ) → va_S A s.heap H locs → lv_has ls 9 [(0, .ref (ad 43)), (1, .int x1), (2, .int x2), (3, .int x3)] → W p l e rmX6_readNumber s m args below meth c H locs 0 0 Q (F0 m 43 ls [.int s0]) := by
  obtain ⟨⟨hx, hb, hml, hown, hts⟩, hA, hK, hRO, hro⟩ := id C
  intro σ x1 x2 x3 s0 h H locs ls hP hD hS hl
  unfold wpX6_readNumber_43 at h
  refine lv_istore (lv' := [(4, .int s0), (0, .ref (ad 43)), (1, .int x1), (2, .int x2), (3, .int x3)]) hx hb dX6_readNumber_43 hl (by decide) rfl (fun ls hl => ?_)
  refine lv_iload hx hb dX6_readNumber_45 (lv_at hl 0 rfl) ?_
  refine lv_if_eq (tgt := 60) hx hb dX6_readNumber_47 (by decide) (fun c47 => ?_) (fun c47 => ?_)
  · have h := h.1 c47
    refine lv_aload_n hx hb dX6_readNumber_60 rfl (lv_at hl 1 rfl) ?_
    refine wx_get C hP (q := 43) (ci := 6) (Nat.le_of_ble_eq_true rfl) (eC_43 _) (Cn := RX6) (T := TX6) (Nf := 4) rfl inX6_readNumber_X6 1 (by decide) (List.mem_of_getElem? (i := 1) rfl) (v := .int (σ 43 1)) rfl dX6_readNumber_61 ?_
    refine lv_istore (lv' := [(5, .int (σ 43 1)), (4, .int s0), (0, .ref (ad 43)), (1, .int x1), (2, .int x2), (3, .int x3)]) hx hb dX6_readNumber_64 hl (by decide) rfl (fun ls hl => ?_)
    refine lv_iconst (v := 0) hx hb dX6_readNumber_66 (by decide) ?_
    refine lv_istore (lv' := [(6, .int 0), (5, .int (σ 43 1)), (4, .int s0), (0, .ref (ad 43)), (1, .int x1), (2, .int x2), (3, .int x3)]) hx hb dX6_readNumber_67 hl (by decide) rfl (fun ls hl => ?_)
    obtain ⟨n69, h⟩ := h
    exact bX6_readNumber_69 C Rt n69 σ x1 x2 x3 s0 (σ 43 1) 0  h _ _ _ hP hD hS (lv_sub hl [3, 4, 5, 6, 2, 1, 0] rfl)
  · have h := h.2 c47
    refine lv_aload_n hx hb dX6_readNumber_50 rfl (lv_at hl 1 rfl) ?_
    refine lv_dup hx hb dX6_readNumber_51 rfl ?_
    refine wx_get C hP (q := 43) (ci := 6) (Nat.le_of_ble_eq_true rfl) (eC_43 _) (Cn := RX6) (T := TX6) (Nf := 4) rfl inX6_readNumber_X6 1 (by decide) (List.mem_of_getElem? (i := 1) rfl) (v := .int (σ 43 1)) rfl dX6_readNumber_52 ?_
    refine lv_iconst (v := 1) hx hb dX6_readNumber_55 (by decide) ?_
    refine lv_iadd hx hb dX6_readNumber_56 ?_
    refine wx_put C hP hD hS (q := 43) (ci := 6) (Nat.le_of_ble_eq_true rfl) (eC_43 _) (Cn := RX6) (T := TX6) (Nf := 4) rfl inX6_readNumber_X6 tyX6 tyX6_ok nmX6 1 (by decide) (List.mem_of_getElem? (i := 1) rfl) rfl rfl (Nat.le_of_ble_eq_true rfl) rfl dX6_readNumber_57 (fun H locs hP hD hS => ?_)
    generalize e_σ57 : wx_up σ 43 1 ((σ 43 1) + 1) = σ57 at hP hD
    have h := h σ57 e_σ57.symm
    refine lv_aload_n hx hb dX6_readNumber_60 rfl (lv_at hl 1 rfl) ?_
    refine wx_get C hP (q := 43) (ci := 6) (Nat.le_of_ble_eq_true rfl) (eC_43 _) (Cn := RX6) (T := TX6) (Nf := 4) rfl inX6_readNumber_X6 1 (by decide) (List.mem_of_getElem? (i := 1) rfl) (v := .int (σ57 43 1)) rfl dX6_readNumber_61 ?_
    refine lv_istore (lv' := [(5, .int (σ57 43 1)), (4, .int s0), (0, .ref (ad 43)), (1, .int x1), (2, .int x2), (3, .int x3)]) hx hb dX6_readNumber_64 hl (by decide) rfl (fun ls hl => ?_)
    refine lv_iconst (v := 0) hx hb dX6_readNumber_66 (by decide) ?_
    refine lv_istore (lv' := [(6, .int 0), (5, .int (σ57 43 1)), (4, .int s0), (0, .ref (ad 43)), (1, .int x1), (2, .int x2), (3, .int x3)]) hx hb dX6_readNumber_67 hl (by decide) rfl (fun ls hl => ?_)
    obtain ⟨n69, h⟩ := h
    exact bX6_readNumber_69 C Rt n69 σ57 x1 x2 x3 s0 (σ57 43 1) 0  h _ _ _ hP hD hS (lv_sub hl [3, 4, 5, 6, 2, 1, 0] rfl)
set_option maxRecDepth 100000 in
set_option maxHeartbeats 4000000 in
theorem mtX6_readNumber {l : Launch} {D : va_G} {cI cB cS cR : ClassId} {ad : Nat → Nat} {tS tP : Nat} {kS vS : Nat → Nat} {sz : Nat} {σ : wx_Z} {x1 : Int32} {x2 : Int32} {K : Int32 → wx_Z → Prop} (h : wpX6_readNumber σ x1 x2 K) : Met l yX6_readNumber wsX6_readNumber rmX6_readNumber (wx_Pre D [(cI, .int), (cB, .byte), (cS, .object RX5), (cR, .array .int)] (wC_RO tS tP kS vS) 58 (wC_E cI cB cS cR ad) ad σ sz [.ref (ad 43), .int x1, .int x2]) (va_Qi K (wx_B D [(cI, .int), (cB, .byte), (cS, .object RX5), (cR, .array .int)] 58 (wC_E cI cB cS cR ad) ad (va_A (wx_w 58 (wC_E cI cB cS cR ad) ad σ) sz)) (va_A (wx_w 58 (wC_E cI cB cS cR ad) ad σ) sz)) 0 0 (va_A (wx_w 58 (wC_E cI cB cS cR ad) ad σ) sz) := by
  unfold wpX6_readNumber at h
  refine wx_meti (cc := cX6_readNumber) (maxL := 9) (own := RX6) rfl (by decide) rfl (Nat.le_of_ble_eq_true rfl) (wC_ROok tS tP kS vS) ?_
  intro p e s m args below meth c A Q ls C Rt hP hD hS hl
  obtain ⟨⟨hx, hb, hml, hown, hts⟩, hA, hK, hRO, hro⟩ := id C
  have hl : lv_has ls 9 [(0, .ref (ad 43)), (1, .int x1), (2, .int x2)] := hl
  obtain ⟨H, eH⟩ : ∃ z, z = s.heap := ⟨_, rfl⟩
  obtain ⟨locs, eL⟩ : ∃ z : List Loc, z = [] := ⟨_, rfl⟩
  rw [← eH] at hP
  have hS : va_S A s.heap H locs := by rw [eH, eL]; exact hS
  have goal : W p l e rmX6_readNumber s m args below meth c H locs 0 0 Q (F0 m 0 ls []) := by
    refine lv_aload_n hx hb dX6_readNumber_0 rfl (lv_at hl 0 rfl) ?_
    refine wx_cv C hD hS (va_runV (As := []) (rest := []) C.1 (mtX6_skipBlanks (l := l) (D := D) (sz := H.size) h) (cwV 0 hts gX6_readNumber_X6_skipBlanks rfl rfl rfl nyX6_skipBlanks ⟨Nat.le_of_ble_eq_true rfl, Nat.le_of_ble_eq_true rfl⟩) (wx_pv C hP hD hS (q := 43) (ci := 6) (Nat.le_of_ble_eq_true rfl) (eC_43 _) rfl) rfl rfl hl.1 rfl (lv_room (Nat.le_of_ble_eq_true rfl)) dX6_readNumber_1 ⟨Nat.zero_le _, Nat.zero_le _⟩) (fun σ1 H locs h hP hD hS => ?_)
    refine lv_aload_n hx hb dX6_readNumber_4 rfl (lv_at hl 0 rfl) ?_
    refine wx_get C hP (q := 43) (ci := 6) (Nat.le_of_ble_eq_true rfl) (eC_43 _) (Cn := RX6) (T := TX6) (Nf := 4) rfl inX6_readNumber_X6 1 (by decide) (List.mem_of_getElem? (i := 1) rfl) (v := .int (σ1 43 1)) rfl dX6_readNumber_5 ?_
    refine lv_istore_n (lv' := [(3, .int (σ1 43 1)), (0, .ref (ad 43)), (1, .int x1), (2, .int x2)]) hx hb dX6_readNumber_8 rfl hl (by decide) rfl (fun ls hl => ?_)
    refine lv_iload_n hx hb dX6_readNumber_9 rfl (lv_at hl 2 rfl) ?_
    refine lv_if_ge (tgt := 42) hx hb dX6_readNumber_10 (by decide) (fun c10 => ?_) (fun c10 => ?_)
    · have h := h.1 c10
      refine lv_iconst (v := 0) hx hb dX6_readNumber_42 (by decide) ?_
      exact bX6_readNumber_43 C Rt σ1 x1 x2 (σ1 43 1) 0  h _ _ _ hP hD hS (lv_sub hl [1, 2, 3, 0] rfl)
    · have h := h.2 c10
      refine lv_aload_n hx hb dX6_readNumber_13 rfl (lv_at hl 1 rfl) ?_
      refine wx_get C hP (q := 43) (ci := 6) (Nat.le_of_ble_eq_true rfl) (eC_43 _) (Cn := RX6) (T := TX6) (Nf := 4) rfl inX6_readNumber_X6 1 (by decide) (List.mem_of_getElem? (i := 1) rfl) (v := .int (σ1 43 1)) rfl dX6_readNumber_14 ?_
      refine lv_aload_n hx hb dX6_readNumber_17 rfl (lv_at hl 1 rfl) ?_
      refine wx_get C hP (q := 43) (ci := 6) (Nat.le_of_ble_eq_true rfl) (eC_43 _) (Cn := RX6) (T := TX6) (Nf := 4) rfl inX6_readNumber_X6 2 (by decide) (List.mem_of_getElem? (i := 2) rfl) (v := .int (σ1 43 2)) rfl dX6_readNumber_18 ?_
      refine lv_icmp_ge (tgt := 42) hx hb dX6_readNumber_21 (by decide) (fun c21 => ?_) (fun c21 => ?_)
      · have h := h.1 c21
        refine lv_iconst (v := 0) hx hb dX6_readNumber_42 (by decide) ?_
        exact bX6_readNumber_43 C Rt σ1 x1 x2 (σ1 43 1) 0  h _ _ _ hP hD hS (lv_sub hl [1, 2, 3, 0] rfl)
      · have h := h.2 c21
        refine lv_aload_n hx hb dX6_readNumber_24 rfl (lv_at hl 1 rfl) ?_
        refine wx_get C hP (q := 43) (ci := 6) (Nat.le_of_ble_eq_true rfl) (eC_43 _) (Cn := RX6) (T := TX6) (Nf := 4) rfl inX6_readNumber_X6 0 (by decide) (List.mem_of_getElem? (i := 3) rfl) (v := .ref (ad 44)) rfl dX6_readNumber_25 ?_
        refine lv_aload_n hx hb dX6_readNumber_28 rfl (lv_at hl 1 rfl) ?_
        refine wx_get C hP (q := 43) (ci := 6) (Nat.le_of_ble_eq_true rfl) (eC_43 _) (Cn := RX6) (T := TX6) (Nf := 4) rfl inX6_readNumber_X6 1 (by decide) (List.mem_of_getElem? (i := 1) rfl) (v := .int (σ1 43 1)) rfl dX6_readNumber_29 ?_
        refine wx_bld C hP (q := 44) (Nat.le_of_ble_eq_true rfl) eC_44 1 rfl h.1 dX6_readNumber_32 ?_
        have h := h.2
        refine lv_bipush (v := 45) hx hb dX6_readNumber_33 (by decide) ?_
        refine lv_icmp_ne (tgt := 42) hx hb dX6_readNumber_35 (by decide) (fun c35 => ?_) (fun c35 => ?_)
        · have h := h.1 c35
          refine lv_iconst (v := 0) hx hb dX6_readNumber_42 (by decide) ?_
          exact bX6_readNumber_43 C Rt σ1 x1 x2 (σ1 43 1) 0  h _ _ _ hP hD hS (lv_sub hl [1, 2, 3, 0] rfl)
        · have h := h.2 c35
          refine lv_iconst (v := 1) hx hb dX6_readNumber_38 (by decide) ?_
          refine lv_goto (tgt := 43) hx hb dX6_readNumber_39 (by decide) ?_
          exact bX6_readNumber_43 C Rt σ1 x1 x2 (σ1 43 1) 1  h _ _ _ hP hD hS (lv_sub hl [1, 2, 3, 0] rfl)
  rw [eH, eL] at goal
  exact goal
abbrev rmX6_hexValue : Room := { frames := 1, cells := 0, slots := 0, locals := 40 }
set_option maxRecDepth 100000 in
set_option maxHeartbeats 4000000 in
theorem bX6_hexValue_17 {p : Program} {l : Launch} {e : Env} {s : State} {m : MethodId} {args : Array Value} {below : List Frame} {meth : Method} {c : Code} {A : Nat → Prop} {Q : State → Prop} {D : va_G} {cI cB cS cR : ClassId} {ad : Nat → Nat} {tS tP : Nat} {kS vS : Nat → Nat} {K : Int32 → wx_Z → Prop} (C : wx_C p s m args c cX6_hexValue 1 RX6 wsX6_hexValue D [(cI, .int), (cB, .byte), (cS, .object RX5), (cR, .array .int)] (wC_RO tS tP kS vS) A) (Rt : wx_Ri p l e rmX6_hexValue s m args below meth c cX6_hexValue D 58 (wC_E cI cB cS cR ad) ad A K Q) : ∀ (σ : wx_Z) (x0 : Int32), wpX6_hexValue_17 K σ x0 → ∀ (H : Heap) (locs : List Loc) (ls : Array Slot), va_P D vwCl (wx_w 58 (wC_E cI cB cS cR ad) ad σ) H → va_D A (wx_w 58 (wC_E cI cB cS cR ad) ad σ) → va_S A s.heap H locs → lv_has ls 1 [(0, .int x0)] → W p l e rmX6_hexValue s m args below meth c H locs 0 0 Q (F0 m 17 ls []) := by
  obtain ⟨⟨hx, hb, hml, hown, hts⟩, hA, hK, hRO, hro⟩ := id C
  intro σ x0 h H locs ls hP hD hS hl
  unfold wpX6_hexValue_17 at h
  refine lv_iload_n hx hb dX6_hexValue_17 rfl (lv_at hl 0 rfl) ?_
  refine lv_bipush (v := 97) hx hb dX6_hexValue_18 (by decide) ?_
  refine lv_icmp_lt (tgt := 39) hx hb dX6_hexValue_20 (by decide) (fun c20 => ?_) (fun c20 => ?_)
  · have h := h.1 c20
    refine lv_iconst (v := (-1)) hx hb dX6_hexValue_39 (by decide) ?_
    exact Rt _ _ _ _ _ _ h hP hD hS dX6_hexValue_40
  · have h := h.2 c20
    refine lv_iload_n hx hb dX6_hexValue_23 rfl (lv_at hl 0 rfl) ?_
    refine lv_bipush (v := 102) hx hb dX6_hexValue_24 (by decide) ?_
    refine lv_icmp_gt (tgt := 39) hx hb dX6_hexValue_26 (by decide) (fun c26 => ?_) (fun c26 => ?_)
    · have h := h.1 c26
      refine lv_iconst (v := (-1)) hx hb dX6_hexValue_39 (by decide) ?_
      exact Rt _ _ _ _ _ _ h hP hD hS dX6_hexValue_40
    · have h := h.2 c26
      refine lv_iload_n hx hb dX6_hexValue_29 rfl (lv_at hl 0 rfl) ?_
      refine lv_bipush (v := 97) hx hb dX6_hexValue_30 (by decide) ?_
      refine lv_isub hx hb dX6_hexValue_32 ?_
      refine lv_bipush (v := 10) hx hb dX6_hexValue_33 (by decide) ?_
      refine lv_iadd hx hb dX6_hexValue_35 ?_
      refine lv_goto (tgt := 40) hx hb dX6_hexValue_36 (by decide) ?_
      exact Rt _ _ _ _ _ _ h hP hD hS dX6_hexValue_40
set_option maxRecDepth 100000 in
set_option maxHeartbeats 4000000 in
theorem mtX6_hexValue {l : Launch} {D : va_G} {cI cB cS cR : ClassId} {ad : Nat → Nat} {tS tP : Nat} {kS vS : Nat → Nat} {sz : Nat} {σ : wx_Z} {x0 : Int32} {K : Int32 → wx_Z → Prop} (h : wpX6_hexValue σ x0 K) : Met l yX6_hexValue wsX6_hexValue rmX6_hexValue (wx_Pre D [(cI, .int), (cB, .byte), (cS, .object RX5), (cR, .array .int)] (wC_RO tS tP kS vS) 58 (wC_E cI cB cS cR ad) ad σ sz [.int x0]) (va_Qi K (wx_B D [(cI, .int), (cB, .byte), (cS, .object RX5), (cR, .array .int)] 58 (wC_E cI cB cS cR ad) ad (va_A (wx_w 58 (wC_E cI cB cS cR ad) ad σ) sz)) (va_A (wx_w 58 (wC_E cI cB cS cR ad) ad σ) sz)) 0 0 (va_A (wx_w 58 (wC_E cI cB cS cR ad) ad σ) sz) := by
  unfold wpX6_hexValue at h
  refine wx_meti (cc := cX6_hexValue) (maxL := 1) (own := RX6) rfl (by decide) rfl (Nat.le_of_ble_eq_true rfl) (wC_ROok tS tP kS vS) ?_
  intro p e s m args below meth c A Q ls C Rt hP hD hS hl
  obtain ⟨⟨hx, hb, hml, hown, hts⟩, hA, hK, hRO, hro⟩ := id C
  have hl : lv_has ls 1 [(0, .int x0)] := hl
  obtain ⟨H, eH⟩ : ∃ z, z = s.heap := ⟨_, rfl⟩
  obtain ⟨locs, eL⟩ : ∃ z : List Loc, z = [] := ⟨_, rfl⟩
  rw [← eH] at hP
  have hS : va_S A s.heap H locs := by rw [eH, eL]; exact hS
  have goal : W p l e rmX6_hexValue s m args below meth c H locs 0 0 Q (F0 m 0 ls []) := by
    refine lv_iload_n hx hb dX6_hexValue_0 rfl (lv_at hl 0 rfl) ?_
    refine lv_bipush (v := 48) hx hb dX6_hexValue_1 (by decide) ?_
    refine lv_icmp_lt (tgt := 17) hx hb dX6_hexValue_3 (by decide) (fun c3 => ?_) (fun c3 => ?_)
    · have h := h.1 c3
      exact bX6_hexValue_17 C Rt σ x0  h _ _ _ hP hD hS (lv_sub hl [0] rfl)
    · have h := h.2 c3
      refine lv_iload_n hx hb dX6_hexValue_6 rfl (lv_at hl 0 rfl) ?_
      refine lv_bipush (v := 57) hx hb dX6_hexValue_7 (by decide) ?_
      refine lv_icmp_gt (tgt := 17) hx hb dX6_hexValue_9 (by decide) (fun c9 => ?_) (fun c9 => ?_)
      · have h := h.1 c9
        exact bX6_hexValue_17 C Rt σ x0  h _ _ _ hP hD hS (lv_sub hl [0] rfl)
      · have h := h.2 c9
        refine lv_iload_n hx hb dX6_hexValue_12 rfl (lv_at hl 0 rfl) ?_
        refine lv_bipush (v := 48) hx hb dX6_hexValue_13 (by decide) ?_
        refine lv_isub hx hb dX6_hexValue_15 ?_
        exact Rt _ _ _ _ _ _ h hP hD hS dX6_hexValue_16
  rw [eH, eL] at goal
  exact goal
abbrev rmX6_readHex : Room := { frames := 2, cells := 0, slots := 0, locals := 61 }
set_option maxRecDepth 20000 in
theorem inX6_readHex_X6 : ∀ w ∈ u_ws RX6 TX6 4, w ∈ wsX6_readHex := by decide +kernel
theorem nyX6_hexValue : yX6_hexValue.cls = RX6 ∧ yX6_hexValue.cls ≠ "java/lang/invoke/MethodHandle" ∧ yX6_hexValue.cls ≠ "java/lang/invoke/VarHandle" ∧ (parseMethodDescriptor yX6_hexValue.desc).map (fun d => d.parameters.length) = some 1 := by decide +kernel
set_option maxRecDepth 100000 in
set_option maxHeartbeats 4000000 in
theorem bX6_readHex_96 {p : Program} {l : Launch} {e : Env} {s : State} {m : MethodId} {args : Array Value} {below : List Frame} {meth : Method} {c : Code} {A : Nat → Prop} {Q : State → Prop} {D : va_G} {cI cB cS cR : ClassId} {ad : Nat → Nat} {tS tP : Nat} {kS vS : Nat → Nat} {K : Int32 → wx_Z → Prop} (C : wx_C p s m args c cX6_readHex 5 RX6 wsX6_readHex D [(cI, .int), (cB, .byte), (cS, .object RX5), (cR, .array .int)] (wC_RO tS tP kS vS) A) (Rt : wx_Ri p l e rmX6_readHex s m args below meth c cX6_readHex D 58 (wC_E cI cB cS cR ad) ad A K Q) : ∀ (σ : wx_Z) (x2 : Int32), wpX6_readHex_96 K σ x2 → ∀ (H : Heap) (locs : List Loc) (ls : Array Slot), va_P D vwCl (wx_w 58 (wC_E cI cB cS cR ad) ad σ) H → va_D A (wx_w 58 (wC_E cI cB cS cR ad) ad σ) → va_S A s.heap H locs → lv_has ls 5 [(0, .ref (ad 43)), (2, .int x2)] → W p l e rmX6_readHex s m args below meth c H locs 0 0 Q (F0 m 96 ls []) := by
  obtain ⟨⟨hx, hb, hml, hown, hts⟩, hA, hK, hRO, hro⟩ := id C
  intro σ x2 h H locs ls hP hD hS hl
  unfold wpX6_readHex_96 at h
  refine lv_aload_n hx hb dX6_readHex_96 rfl (lv_at hl 0 rfl) ?_
  refine lv_iload_n hx hb dX6_readHex_97 rfl (lv_at hl 1 rfl) ?_
  refine wx_cv C hD hS (va_runV (As := [.int x2]) (rest := []) C.1 (mtX6_failAt (l := l) (D := D) (sz := H.size) h) (cwV 1 hts gX6_readHex_X6_failAt rfl rfl rfl nyX6_failAt ⟨Nat.le_of_ble_eq_true rfl, Nat.le_of_ble_eq_true rfl⟩) (wx_pv C hP hD hS (q := 43) (ci := 6) (Nat.le_of_ble_eq_true rfl) (eC_43 _) rfl) rfl rfl hl.1 rfl (lv_room (Nat.le_of_ble_eq_true rfl)) dX6_readHex_98 ⟨Nat.zero_le _, Nat.zero_le _⟩) (fun σ98 H locs h hP hD hS => ?_)
  refine lv_iconst (v := 0) hx hb dX6_readHex_101 (by decide) ?_
  exact Rt _ _ _ _ _ _ h hP hD hS dX6_readHex_102
set_option maxRecDepth 100000 in
set_option maxHeartbeats 4000000 in
theorem bX6_readHex_67 {p : Program} {l : Launch} {e : Env} {s : State} {m : MethodId} {args : Array Value} {below : List Frame} {meth : Method} {c : Code} {A : Nat → Prop} {Q : State → Prop} {D : va_G} {cI cB cS cR : ClassId} {ad : Nat → Nat} {tS tP : Nat} {kS vS : Nat → Nat} {K : Int32 → wx_Z → Prop} (C : wx_C p s m args c cX6_readHex 5 RX6 wsX6_readHex D [(cI, .int), (cB, .byte), (cS, .object RX5), (cR, .array .int)] (wC_RO tS tP kS vS) A) (Rt : wx_Ri p l e rmX6_readHex s m args below meth c cX6_readHex D 58 (wC_E cI cB cS cR ad) ad A K Q) : ∀ (σ : wx_Z) (x1 : Int32) (x2 : Int32) (x3 : Int32), wpX6_readHex_67 K σ x1 x2 x3 → ∀ (H : Heap) (locs : List Loc) (ls : Array Slot), va_P D vwCl (wx_w 58 (wC_E cI cB cS cR ad) ad σ) H → va_D A (wx_w 58 (wC_E cI cB cS cR ad) ad σ) → va_S A s.heap H locs → lv_has ls 5 [(0, .ref (ad 43)), (1, .int x1), (2, .int x2), (3, .int x3)] → W p l e rmX6_readHex s m args below meth c H locs 0 0 Q (F0 m 67 ls []) := by
  obtain ⟨⟨hx, hb, hml, hown, hts⟩, hA, hK, hRO, hro⟩ := id C
  intro σ x1 x2 x3 h H locs ls hP hD hS hl
  unfold wpX6_readHex_67 at h
  refine lv_aload_n hx hb dX6_readHex_67 rfl (lv_at hl 0 rfl) ?_
  refine wx_get C hP (q := 43) (ci := 6) (Nat.le_of_ble_eq_true rfl) (eC_43 _) (Cn := RX6) (T := TX6) (Nf := 4) rfl inX6_readHex_X6 1 (by decide) (List.mem_of_getElem? (i := 1) rfl) (v := .int (σ 43 1)) rfl dX6_readHex_68 ?_
  refine lv_iload_n hx hb dX6_readHex_71 rfl (lv_at hl 2 rfl) ?_
  refine lv_isub hx hb dX6_readHex_72 ?_
  refine lv_topi (fun t73 e_t73 => ?_)
  have h := h t73 e_t73
  refine lv_istore (lv' := [(4, .int t73), (0, .ref (ad 43)), (1, .int x1), (2, .int x2), (3, .int x3)]) hx hb dX6_readHex_73 hl (by decide) rfl (fun ls hl => ?_)
  refine lv_iload hx hb dX6_readHex_75 (lv_at hl 0 rfl) ?_
  refine lv_iconst (v := 1) hx hb dX6_readHex_77 (by decide) ?_
  refine lv_icmp_lt (tgt := 96) hx hb dX6_readHex_78 (by decide) (fun c78 => ?_) (fun c78 => ?_)
  · have h := h.1 c78
    exact bX6_readHex_96 C Rt σ x2  h _ _ _ hP hD hS (lv_sub hl [1, 3] rfl)
  · have h := h.2 c78
    refine lv_iload hx hb dX6_readHex_81 (lv_at hl 0 rfl) ?_
    refine lv_bipush (v := 8) hx hb dX6_readHex_83 (by decide) ?_
    refine lv_icmp_gt (tgt := 96) hx hb dX6_readHex_85 (by decide) (fun c85 => ?_) (fun c85 => ?_)
    · have h := h.1 c85
      exact bX6_readHex_96 C Rt σ x2  h _ _ _ hP hD hS (lv_sub hl [1, 3] rfl)
    · have h := h.2 c85
      refine lv_iload_n hx hb dX6_readHex_88 rfl (lv_at hl 4 rfl) ?_
      refine lv_iload_n hx hb dX6_readHex_89 rfl (lv_at hl 2 rfl) ?_
      refine lv_iconst (v := (-1)) hx hb dX6_readHex_90 (by decide) ?_
      refine lv_ixor hx hb dX6_readHex_91 ?_
      refine lv_iand hx hb dX6_readHex_92 ?_
      refine lv_if_eq (tgt := 103) hx hb dX6_readHex_93 (by decide) (fun c93 => ?_) (fun c93 => ?_)
      · have h := h.1 c93
        refine lv_iload_n hx hb dX6_readHex_103 rfl (lv_at hl 4 rfl) ?_
        exact Rt _ _ _ _ _ _ h hP hD hS dX6_readHex_104
      · have h := h.2 c93
        exact bX6_readHex_96 C Rt σ x2  h _ _ _ hP hD hS (lv_sub hl [1, 3] rfl)
set_option maxRecDepth 100000 in
set_option maxHeartbeats 4000000 in
theorem bX6_readHex_11 {p : Program} {l : Launch} {e : Env} {s : State} {m : MethodId} {args : Array Value} {below : List Frame} {meth : Method} {c : Code} {A : Nat → Prop} {Q : State → Prop} {D : va_G} {cI cB cS cR : ClassId} {ad : Nat → Nat} {tS tP : Nat} {kS vS : Nat → Nat} {K : Int32 → wx_Z → Prop} (C : wx_C p s m args c cX6_readHex 5 RX6 wsX6_readHex D [(cI, .int), (cB, .byte), (cS, .object RX5), (cR, .array .int)] (wC_RO tS tP kS vS) A) (Rt : wx_Ri p l e rmX6_readHex s m args below meth c cX6_readHex D 58 (wC_E cI cB cS cR ad) ad A K Q) : ∀ (n : Nat) (σ : wx_Z) (x1 : Int32) (x2 : Int32) (x3 : Int32), wpX6_readHex_11 K n σ x1 x2 x3 → ∀ (H : Heap) (locs : List Loc) (ls : Array Slot), va_P D vwCl (wx_w 58 (wC_E cI cB cS cR ad) ad σ) H → va_D A (wx_w 58 (wC_E cI cB cS cR ad) ad σ) → va_S A s.heap H locs → lv_has ls 5 [(0, .ref (ad 43)), (1, .int x1), (2, .int x2), (3, .int x3)] → W p l e rmX6_readHex s m args below meth c H locs 0 0 Q (F0 m 11 ls []) := by
  obtain ⟨⟨hx, hb, hml, hown, hts⟩, hA, hK, hRO, hro⟩ := id C
  intro n
  induction n with
  | zero => intro σ x1 x2 x3 h; exact h.elim
  | succ n ih =>
    intro σ x1 x2 x3 h H locs ls hP hD hS hl
    unfold wpX6_readHex_11 at h
    refine lv_aload_n hx hb dX6_readHex_11 rfl (lv_at hl 0 rfl) ?_
    refine wx_get C hP (q := 43) (ci := 6) (Nat.le_of_ble_eq_true rfl) (eC_43 _) (Cn := RX6) (T := TX6) (Nf := 4) rfl inX6_readHex_X6 1 (by decide) (List.mem_of_getElem? (i := 1) rfl) (v := .int (σ 43 1)) rfl dX6_readHex_12 ?_
    refine lv_aload_n hx hb dX6_readHex_15 rfl (lv_at hl 0 rfl) ?_
    refine wx_get C hP (q := 43) (ci := 6) (Nat.le_of_ble_eq_true rfl) (eC_43 _) (Cn := RX6) (T := TX6) (Nf := 4) rfl inX6_readHex_X6 2 (by decide) (List.mem_of_getElem? (i := 2) rfl) (v := .int (σ 43 2)) rfl dX6_readHex_16 ?_
    refine lv_icmp_ge (tgt := 67) hx hb dX6_readHex_19 (by decide) (fun c19 => ?_) (fun c19 => ?_)
    · have h := h.1 c19
      exact bX6_readHex_67 C Rt σ x1 x2 x3  h _ _ _ hP hD hS (lv_sub hl [0, 1, 2, 3] rfl)
    · have h := h.2 c19
      refine lv_aload_n hx hb dX6_readHex_22 rfl (lv_at hl 0 rfl) ?_
      refine wx_get C hP (q := 43) (ci := 6) (Nat.le_of_ble_eq_true rfl) (eC_43 _) (Cn := RX6) (T := TX6) (Nf := 4) rfl inX6_readHex_X6 0 (by decide) (List.mem_of_getElem? (i := 3) rfl) (v := .ref (ad 44)) rfl dX6_readHex_23 ?_
      refine lv_aload_n hx hb dX6_readHex_26 rfl (lv_at hl 0 rfl) ?_
      refine wx_get C hP (q := 43) (ci := 6) (Nat.le_of_ble_eq_true rfl) (eC_43 _) (Cn := RX6) (T := TX6) (Nf := 4) rfl inX6_readHex_X6 1 (by decide) (List.mem_of_getElem? (i := 1) rfl) (v := .int (σ 43 1)) rfl dX6_readHex_27 ?_
      refine wx_bld C hP (q := 44) (Nat.le_of_ble_eq_true rfl) eC_44 1 rfl h.1 dX6_readHex_30 ?_
      have h := h.2
      refine wx_ci C hD hS (va_runS (As := [.int (σ 44 (Int32.toNatClampNeg (σ 43 1)))]) (rest := []) C.1 (mtX6_hexValue (l := l) (D := D) (sz := H.size) h) (va_cwS 1 hts gX6_readHex_X6_hexValue rfl rfl rfl nyX6_hexValue.2 ⟨Nat.le_of_ble_eq_true rfl, Nat.le_of_ble_eq_true rfl⟩) (wx_ps C hP hD hS) rfl rfl hl.1 rfl (lv_room (Nat.le_of_ble_eq_true rfl)) dX6_readHex_31 ⟨Nat.zero_le _, Nat.zero_le _⟩) (fun r31 σ31 H locs h hP hD hS => ?_)
      refine lv_if_lt (tgt := 67) hx hb dX6_readHex_34 (by decide) (fun c34 => ?_) (fun c34 => ?_)
      · have h := h.1 c34
        exact bX6_readHex_67 C Rt σ31 x1 x2 x3  h _ _ _ hP hD hS (lv_sub hl [0, 1, 2, 3] rfl)
      · have h := h.2 c34
        refine lv_iload_n hx hb dX6_readHex_37 rfl (lv_at hl 3 rfl) ?_
        refine lv_iconst (v := 4) hx hb dX6_readHex_38 (by decide) ?_
        refine lv_ishl hx hb dX6_readHex_39 ?_
        refine lv_aload_n hx hb dX6_readHex_40 rfl (lv_at hl 0 rfl) ?_
        refine wx_get C hP (q := 43) (ci := 6) (Nat.le_of_ble_eq_true rfl) (eC_43 _) (Cn := RX6) (T := TX6) (Nf := 4) rfl inX6_readHex_X6 0 (by decide) (List.mem_of_getElem? (i := 3) rfl) (v := .ref (ad 44)) rfl dX6_readHex_41 ?_
        refine lv_aload_n hx hb dX6_readHex_44 rfl (lv_at hl 0 rfl) ?_
        refine wx_get C hP (q := 43) (ci := 6) (Nat.le_of_ble_eq_true rfl) (eC_43 _) (Cn := RX6) (T := TX6) (Nf := 4) rfl inX6_readHex_X6 1 (by decide) (List.mem_of_getElem? (i := 1) rfl) (v := .int (σ31 43 1)) rfl dX6_readHex_45 ?_
        refine wx_bld C hP (q := 44) (Nat.le_of_ble_eq_true rfl) eC_44 1 rfl h.1 dX6_readHex_48 ?_
        have h := h.2
        refine wx_ci C hD hS (va_runS (As := [.int (σ31 44 (Int32.toNatClampNeg (σ31 43 1)))]) (rest := [.int (x3 <<< (4 &&& 31))]) C.1 (mtX6_hexValue (l := l) (D := D) (sz := H.size) h) (va_cwS 1 hts gX6_readHex_X6_hexValue rfl rfl rfl nyX6_hexValue.2 ⟨Nat.le_of_ble_eq_true rfl, Nat.le_of_ble_eq_true rfl⟩) (wx_ps C hP hD hS) rfl rfl hl.1 rfl (lv_room (Nat.le_of_ble_eq_true rfl)) dX6_readHex_49 ⟨Nat.zero_le _, Nat.zero_le _⟩) (fun r49 σ49 H locs h hP hD hS => ?_)
        refine lv_ior hx hb dX6_readHex_52 ?_
        refine lv_topi (fun t53 e_t53 => ?_)
        have h := h t53 e_t53
        refine lv_istore_n (lv' := [(3, .int t53), (0, .ref (ad 43)), (1, .int x1), (2, .int x2)]) hx hb dX6_readHex_53 rfl hl (by decide) rfl (fun ls hl => ?_)
        refine lv_aload_n hx hb dX6_readHex_54 rfl (lv_at hl 1 rfl) ?_
        refine lv_dup hx hb dX6_readHex_55 rfl ?_
        refine wx_get C hP (q := 43) (ci := 6) (Nat.le_of_ble_eq_true rfl) (eC_43 _) (Cn := RX6) (T := TX6) (Nf := 4) rfl inX6_readHex_X6 1 (by decide) (List.mem_of_getElem? (i := 1) rfl) (v := .int (σ49 43 1)) rfl dX6_readHex_56 ?_
        refine lv_iconst (v := 1) hx hb dX6_readHex_59 (by decide) ?_
        refine lv_iadd hx hb dX6_readHex_60 ?_
        refine wx_put C hP hD hS (q := 43) (ci := 6) (Nat.le_of_ble_eq_true rfl) (eC_43 _) (Cn := RX6) (T := TX6) (Nf := 4) rfl inX6_readHex_X6 tyX6 tyX6_ok nmX6 1 (by decide) (List.mem_of_getElem? (i := 1) rfl) rfl rfl (Nat.le_of_ble_eq_true rfl) rfl dX6_readHex_61 (fun H locs hP hD hS => ?_)
        generalize e_σ61 : wx_up σ49 43 1 ((σ49 43 1) + 1) = σ61 at hP hD
        have h := h σ61 e_σ61.symm
        refine lv_goto (tgt := 11) hx hb dX6_readHex_64 (by decide) ?_
        exact ih σ61 x1 x2 t53  h _ _ _ hP hD hS (lv_sub hl [1, 2, 3, 0] rfl)
set_option maxRecDepth 100000 in
set_option maxHeartbeats 4000000 in
theorem mtX6_readHex {l : Launch} {D : va_G} {cI cB cS cR : ClassId} {ad : Nat → Nat} {tS tP : Nat} {kS vS : Nat → Nat} {sz : Nat} {σ : wx_Z} {x1 : Int32} {K : Int32 → wx_Z → Prop} (h : wpX6_readHex σ x1 K) : Met l yX6_readHex wsX6_readHex rmX6_readHex (wx_Pre D [(cI, .int), (cB, .byte), (cS, .object RX5), (cR, .array .int)] (wC_RO tS tP kS vS) 58 (wC_E cI cB cS cR ad) ad σ sz [.ref (ad 43), .int x1]) (va_Qi K (wx_B D [(cI, .int), (cB, .byte), (cS, .object RX5), (cR, .array .int)] 58 (wC_E cI cB cS cR ad) ad (va_A (wx_w 58 (wC_E cI cB cS cR ad) ad σ) sz)) (va_A (wx_w 58 (wC_E cI cB cS cR ad) ad σ) sz)) 0 0 (va_A (wx_w 58 (wC_E cI cB cS cR ad) ad σ) sz) := by
  unfold wpX6_readHex at h
  refine wx_meti (cc := cX6_readHex) (maxL := 5) (own := RX6) rfl (by decide) rfl (Nat.le_of_ble_eq_true rfl) (wC_ROok tS tP kS vS) ?_
  intro p e s m args below meth c A Q ls C Rt hP hD hS hl
  obtain ⟨⟨hx, hb, hml, hown, hts⟩, hA, hK, hRO, hro⟩ := id C
  have hl : lv_has ls 5 [(0, .ref (ad 43)), (1, .int x1)] := hl
  obtain ⟨H, eH⟩ : ∃ z, z = s.heap := ⟨_, rfl⟩
  obtain ⟨locs, eL⟩ : ∃ z : List Loc, z = [] := ⟨_, rfl⟩
  rw [← eH] at hP
  have hS : va_S A s.heap H locs := by rw [eH, eL]; exact hS
  have goal : W p l e rmX6_readHex s m args below meth c H locs 0 0 Q (F0 m 0 ls []) := by
    refine lv_aload_n hx hb dX6_readHex_0 rfl (lv_at hl 0 rfl) ?_
    refine wx_cv C hD hS (va_runV (As := []) (rest := []) C.1 (mtX6_skipBlanks (l := l) (D := D) (sz := H.size) h) (cwV 0 hts gX6_readHex_X6_skipBlanks rfl rfl rfl nyX6_skipBlanks ⟨Nat.le_of_ble_eq_true rfl, Nat.le_of_ble_eq_true rfl⟩) (wx_pv C hP hD hS (q := 43) (ci := 6) (Nat.le_of_ble_eq_true rfl) (eC_43 _) rfl) rfl rfl hl.1 rfl (lv_room (Nat.le_of_ble_eq_true rfl)) dX6_readHex_1 ⟨Nat.zero_le _, Nat.zero_le _⟩) (fun σ1 H locs h hP hD hS => ?_)
    refine lv_aload_n hx hb dX6_readHex_4 rfl (lv_at hl 0 rfl) ?_
    refine wx_get C hP (q := 43) (ci := 6) (Nat.le_of_ble_eq_true rfl) (eC_43 _) (Cn := RX6) (T := TX6) (Nf := 4) rfl inX6_readHex_X6 1 (by decide) (List.mem_of_getElem? (i := 1) rfl) (v := .int (σ1 43 1)) rfl dX6_readHex_5 ?_
    refine lv_istore_n (lv' := [(2, .int (σ1 43 1)), (0, .ref (ad 43)), (1, .int x1)]) hx hb dX6_readHex_8 rfl hl (by decide) rfl (fun ls hl => ?_)
    refine lv_iconst (v := 0) hx hb dX6_readHex_9 (by decide) ?_
    refine lv_istore_n (lv' := [(3, .int 0), (2, .int (σ1 43 1)), (0, .ref (ad 43)), (1, .int x1)]) hx hb dX6_readHex_10 rfl hl (by decide) rfl (fun ls hl => ?_)
    obtain ⟨n11, h⟩ := h
    exact bX6_readHex_11 C Rt n11 σ1 x1 (σ1 43 1) 0  h _ _ _ hP hD hS (lv_sub hl [2, 3, 1, 0] rfl)
  rw [eH, eL] at goal
  exact goal
abbrev rmX7_prepare : Room := { frames := 3, cells := 0, slots := 0, locals := 84 }
set_option maxRecDepth 20000 in
theorem inX7_prepare_X1 : ∀ w ∈ u_ws RX1 TX1 5, w ∈ wsX7_prepare := by decide +kernel
set_option maxRecDepth 20000 in
theorem inX7_prepare_X7 : ∀ w ∈ u_ws RX7 TX7 6, w ∈ wsX7_prepare := by decide +kernel
theorem nyX1_wordOfTerm : yX1_wordOfTerm.cls = RX1 ∧ yX1_wordOfTerm.cls ≠ "java/lang/invoke/MethodHandle" ∧ yX1_wordOfTerm.cls ≠ "java/lang/invoke/VarHandle" ∧ (parseMethodDescriptor yX1_wordOfTerm.desc).map (fun d => d.parameters.length) = some 1 := by decide +kernel
set_option maxRecDepth 100000 in
set_option maxHeartbeats 4000000 in
theorem bX7_prepare_15 {p : Program} {l : Launch} {e : Env} {s : State} {m : MethodId} {args : Array Value} {below : List Frame} {meth : Method} {c : Code} {A : Nat → Prop} {Q : State → Prop} {D : va_G} {cI cB cS cR : ClassId} {ad : Nat → Nat} {tS tP : Nat} {kS vS : Nat → Nat} {g : Nat} {K : wx_Z → Prop} (C : wx_C p s m args c cX7_prepare 5 RX7 wsX7_prepare D [(cI, .int), (cB, .byte), (cS, .object RX5), (cR, .array .int)] (wC_RO tS tP kS vS) A) (Rt : wx_Rv p l e rmX7_prepare s m args below meth c cX7_prepare D 58 (wC_E cI cB cS cR ad) ad A K Q) (hg : g < 10) : ∀ (n : Nat) (σ : wx_Z) (x2 : Int32) (x3 : Int32) (x4 : Int32), wpX7_prepare_15 g K n σ x2 x3 x4 → ∀ (H : Heap) (locs : List Loc) (ls : Array Slot), va_P D vwCl (wx_w 58 (wC_E cI cB cS cR ad) ad σ) H → va_D A (wx_w 58 (wC_E cI cB cS cR ad) ad σ) → va_S A s.heap H locs → lv_has ls 5 [(0, .ref (ad 56)), (1, .ref (ad (cCo g))), (2, .int x2), (3, .int x3), (4, .int x4)] → W p l e rmX7_prepare s m args below meth c H locs 0 0 Q (F0 m 15 ls []) := by
  obtain ⟨⟨hx, hb, hml, hown, hts⟩, hA, hK, hRO, hro⟩ := id C
  intro n
  induction n with
  | zero => intro σ x2 x3 x4 h; exact h.elim
  | succ n ih =>
    intro σ x2 x3 x4 h H locs ls hP hD hS hl
    unfold wpX7_prepare_15 at h
    refine lv_iload hx hb dX7_prepare_15 (lv_at hl 4 rfl) ?_
    refine lv_iload_n hx hb dX7_prepare_17 rfl (lv_at hl 2 rfl) ?_
    refine lv_icmp_ge (tgt := 44) hx hb dX7_prepare_18 (by decide) (fun c18 => ?_) (fun c18 => ?_)
    · have h := h.1 c18
      refine lv_aload_n hx hb dX7_prepare_44 rfl (lv_at hl 0 rfl) ?_
      refine lv_iconst (v := 1) hx hb dX7_prepare_45 (by decide) ?_
      refine lv_iload_n hx hb dX7_prepare_46 rfl (lv_at hl 2 rfl) ?_
      refine lv_ishl hx hb dX7_prepare_47 ?_
      refine wx_put C hP hD hS (q := 56) (ci := 7) (Nat.le_of_ble_eq_true rfl) (eC_56 _) (Cn := RX7) (T := TX7) (Nf := 6) rfl inX7_prepare_X7 tyX7 tyX7_ok nmX7 1 (by decide) (List.mem_of_getElem? (i := 7) rfl) rfl rfl (Nat.le_of_ble_eq_true rfl) rfl dX7_prepare_48 (fun H locs hP hD hS => ?_)
      generalize e_σ48 : wx_up σ 56 1 (1 <<< (x2 &&& 31)) = σ48 at hP hD
      have h := h σ48 e_σ48.symm
      refine lv_aload_n hx hb dX7_prepare_51 rfl (lv_at hl 0 rfl) ?_
      refine lv_iconst (v := 0) hx hb dX7_prepare_52 (by decide) ?_
      refine wx_put C hP hD hS (q := 56) (ci := 7) (Nat.le_of_ble_eq_true rfl) (eC_56 _) (Cn := RX7) (T := TX7) (Nf := 6) rfl inX7_prepare_X7 tyX7 tyX7_ok nmX7 2 (by decide) (List.mem_of_getElem? (i := 8) rfl) rfl rfl (Nat.le_of_ble_eq_true rfl) rfl dX7_prepare_53 (fun H locs hP hD hS => ?_)
      generalize e_σ53 : wx_up σ48 56 2 0 = σ53 at hP hD
      have h := h σ53 e_σ53.symm
      exact Rt _ _ _ _ _ h hP hD hS dX7_prepare_56
    · have h := h.2 c18
      refine lv_iload_n hx hb dX7_prepare_21 rfl (lv_at hl 3 rfl) ?_
      refine lv_aload_n hx hb dX7_prepare_22 rfl (lv_at hl 1 rfl) ?_
      refine lv_iload hx hb dX7_prepare_23 (lv_at hl 4 rfl) ?_
      refine wx_ci C hD hS (va_runV (As := [.int x4]) (rest := [.int x3]) C.1 (mtX1_wordOfTerm (l := l) (D := D) (sz := H.size) hg h) (cwV 1 hts gX7_prepare_X1_wordOfTerm rfl rfl rfl nyX1_wordOfTerm ⟨Nat.le_of_ble_eq_true rfl, Nat.le_of_ble_eq_true rfl⟩) (wx_pv C hP hD hS (q := (cCo g)) (ci := 1) (lt_co hg) (eC_co hg _) rfl) rfl rfl hl.1 rfl (lv_room (Nat.le_of_ble_eq_true rfl)) dX7_prepare_25 ⟨Nat.zero_le _, Nat.zero_le _⟩) (fun r25 σ25 H locs h hP hD hS => ?_)
      refine lv_ixor hx hb dX7_prepare_28 ?_
      refine lv_topi (fun t29 e_t29 => ?_)
      have h := h t29 e_t29
      refine lv_istore_n (lv' := [(3, .int t29), (0, .ref (ad 56)), (1, .ref (ad (cCo g))), (2, .int x2), (4, .int x4)]) hx hb dX7_prepare_29 rfl hl (by decide) rfl (fun ls hl => ?_)
      refine lv_aload_n hx hb dX7_prepare_30 rfl (lv_at hl 1 rfl) ?_
      refine wx_get C hP (q := 56) (ci := 7) (Nat.le_of_ble_eq_true rfl) (eC_56 _) (Cn := RX7) (T := TX7) (Nf := 6) rfl inX7_prepare_X7 0 (by decide) (List.mem_of_getElem? (i := 6) rfl) (v := .ref (ad 57)) rfl dX7_prepare_31 ?_
      refine lv_iload hx hb dX7_prepare_34 (lv_at hl 4 rfl) ?_
      refine lv_iload_n hx hb dX7_prepare_36 rfl (lv_at hl 0 rfl) ?_
      refine wx_ist C hP hD hS (q := 57) (Nat.le_of_ble_eq_true rfl) eC_57 0 rfl h.1 dX7_prepare_37 (fun H locs hP hD hS => ?_)
      generalize e_σ37 : wx_up σ25 57 (Int32.toNatClampNeg x4) t29 = σ37 at hP hD
      have h := h.2 σ37 e_σ37.symm
      obtain ⟨t38, e_t38⟩ : ∃ y : Int32, y = x4 + 1 := ⟨_, rfl⟩
      have h := h t38 e_t38
      refine lv_iinc (v := t38) (lv' := [(4, .int t38), (3, .int t29), (0, .ref (ad 56)), (1, .ref (ad (cCo g))), (2, .int x2)]) hx hb dX7_prepare_38 hl (k := 4) rfl (by rw [e_t38]; rfl) (by decide) rfl (fun ls hl => ?_)
      refine lv_goto (tgt := 15) hx hb dX7_prepare_41 (by decide) ?_
      exact ih σ37 x2 t29 t38  h _ _ _ hP hD hS (lv_sub hl [2, 3, 4, 1, 0] rfl)
set_option maxRecDepth 100000 in
set_option maxHeartbeats 4000000 in
theorem mtX7_prepare {l : Launch} {D : va_G} {cI cB cS cR : ClassId} {ad : Nat → Nat} {tS tP : Nat} {kS vS : Nat → Nat} {sz : Nat} {g : Nat} {σ : wx_Z} {K : wx_Z → Prop} (hg : g < 10) (h : wpX7_prepare g σ K) : Met l yX7_prepare wsX7_prepare rmX7_prepare (wx_Pre D [(cI, .int), (cB, .byte), (cS, .object RX5), (cR, .array .int)] (wC_RO tS tP kS vS) 58 (wC_E cI cB cS cR ad) ad σ sz [.ref (ad 56), .ref (ad (cCo g))]) (va_Qv K (wx_B D [(cI, .int), (cB, .byte), (cS, .object RX5), (cR, .array .int)] 58 (wC_E cI cB cS cR ad) ad (va_A (wx_w 58 (wC_E cI cB cS cR ad) ad σ) sz)) (va_A (wx_w 58 (wC_E cI cB cS cR ad) ad σ) sz)) 0 0 (va_A (wx_w 58 (wC_E cI cB cS cR ad) ad σ) sz) := by
  unfold wpX7_prepare at h
  refine wx_metv (cc := cX7_prepare) (maxL := 5) (own := RX7) rfl (by decide) rfl (Nat.le_of_ble_eq_true rfl) (wC_ROok tS tP kS vS) ?_
  intro p e s m args below meth c A Q ls C Rt hP hD hS hl
  obtain ⟨⟨hx, hb, hml, hown, hts⟩, hA, hK, hRO, hro⟩ := id C
  have hl : lv_has ls 5 [(0, .ref (ad 56)), (1, .ref (ad (cCo g)))] := hl
  obtain ⟨H, eH⟩ : ∃ z, z = s.heap := ⟨_, rfl⟩
  obtain ⟨locs, eL⟩ : ∃ z : List Loc, z = [] := ⟨_, rfl⟩
  rw [← eH] at hP
  have hS : va_S A s.heap H locs := by rw [eH, eL]; exact hS
  have goal : W p l e rmX7_prepare s m args below meth c H locs 0 0 Q (F0 m 0 ls []) := by
    refine lv_aload_n hx hb dX7_prepare_0 rfl (lv_at hl 1 rfl) ?_
    refine wx_get C hP (q := (cCo g)) (ci := 1) (lt_co hg) (eC_co hg _) (Cn := RX1) (T := TX1) (Nf := 5) rfl inX7_prepare_X1 3 (by decide) (List.mem_of_getElem? (i := 1) rfl) (v := .int (σ (cCo g) 3)) rfl dX7_prepare_1 ?_
    refine lv_bipush (v := 16) hx hb dX7_prepare_4 (by decide) ?_
    refine va_mmin hx hb (hml.trans hl.1.symm) hown (hts (.methodLink RX7 61 Lib.Math.min.name) (List.mem_of_getElem? (i := 2) rfl)) (hts (.static Lib.Math.min.name) (List.mem_of_getElem? (i := 3) rfl)) (hts (.initialized "java/lang/Math") (List.mem_of_getElem? (i := 4) rfl)) (hts (.code Lib.Math.min.name Lib.Math.min.code 2 (some .int)) (List.mem_of_getElem? (i := 5) rfl)) (Nat.le_of_ble_eq_true rfl) (Nat.le_of_ble_eq_true rfl) (Nat.zero_le _) (Nat.zero_le _) dX7_prepare_6 ?_
    refine lv_topi (fun t6 e_t6 => ?_)
    have h := h t6 e_t6
    refine lv_istore_n (lv' := [(2, .int t6), (0, .ref (ad 56)), (1, .ref (ad (cCo g)))]) hx hb dX7_prepare_9 rfl hl (by decide) rfl (fun ls hl => ?_)
    refine lv_iconst (v := 0) hx hb dX7_prepare_10 (by decide) ?_
    refine lv_istore_n (lv' := [(3, .int 0), (2, .int t6), (0, .ref (ad 56)), (1, .ref (ad (cCo g)))]) hx hb dX7_prepare_11 rfl hl (by decide) rfl (fun ls hl => ?_)
    refine lv_iconst (v := 0) hx hb dX7_prepare_12 (by decide) ?_
    refine lv_istore (lv' := [(4, .int 0), (3, .int 0), (2, .int t6), (0, .ref (ad 56)), (1, .ref (ad (cCo g)))]) hx hb dX7_prepare_13 hl (by decide) rfl (fun ls hl => ?_)
    obtain ⟨n15, h⟩ := h
    exact bX7_prepare_15 C Rt hg n15 σ t6 0 0  h _ _ _ hP hD hS (lv_sub hl [3, 4, 2, 1, 0] rfl)
  rw [eH, eL] at goal
  exact goal
abbrev rmX7_stepTo : Room := { frames := 2, cells := 0, slots := 0, locals := 61 }
set_option maxRecDepth 20000 in
theorem inX7_stepTo_X7 : ∀ w ∈ u_ws RX7 TX7 6, w ∈ wsX7_stepTo := by decide +kernel
set_option maxRecDepth 100000 in
set_option maxHeartbeats 4000000 in
theorem mtX7_stepTo {l : Launch} {D : va_G} {cI cB cS cR : ClassId} {ad : Nat → Nat} {tS tP : Nat} {kS vS : Nat → Nat} {sz : Nat} {σ : wx_Z} {x1 : Int32} {K : wx_Z → Prop} (h : wpX7_stepTo σ x1 K) : Met l yX7_stepTo wsX7_stepTo rmX7_stepTo (wx_Pre D [(cI, .int), (cB, .byte), (cS, .object RX5), (cR, .array .int)] (wC_RO tS tP kS vS) 58 (wC_E cI cB cS cR ad) ad σ sz [.ref (ad 56), .int x1]) (va_Qv K (wx_B D [(cI, .int), (cB, .byte), (cS, .object RX5), (cR, .array .int)] 58 (wC_E cI cB cS cR ad) ad (va_A (wx_w 58 (wC_E cI cB cS cR ad) ad σ) sz)) (va_A (wx_w 58 (wC_E cI cB cS cR ad) ad σ) sz)) 0 0 (va_A (wx_w 58 (wC_E cI cB cS cR ad) ad σ) sz) := by
  unfold wpX7_stepTo at h
  refine wx_metv (cc := cX7_stepTo) (maxL := 3) (own := RX7) rfl (by decide) rfl (Nat.le_of_ble_eq_true rfl) (wC_ROok tS tP kS vS) ?_
  intro p e s m args below meth c A Q ls C Rt hP hD hS hl
  obtain ⟨⟨hx, hb, hml, hown, hts⟩, hA, hK, hRO, hro⟩ := id C
  have hl : lv_has ls 3 [(0, .ref (ad 56)), (1, .int x1)] := hl
  obtain ⟨H, eH⟩ : ∃ z, z = s.heap := ⟨_, rfl⟩
  obtain ⟨locs, eL⟩ : ∃ z : List Loc, z = [] := ⟨_, rfl⟩
  rw [← eH] at hP
  have hS : va_S A s.heap H locs := by rw [eH, eL]; exact hS
  have goal : W p l e rmX7_stepTo s m args below meth c H locs 0 0 Q (F0 m 0 ls []) := by
    refine lv_iload_n hx hb dX7_stepTo_0 rfl (lv_at hl 1 rfl) ?_
    refine wx_ci C hD hS (va_runS (As := [.int x1]) (rest := []) C.1 (mtJ6_numberOfTrailingZeros_0f7a4 (l := l) (D := D) (sz := H.size) h) (va_cwS 1 hts gX7_stepTo_J6_numberOfTrailingZeros_0f7a4 rfl rfl rfl nyJ6_numberOfTrailingZeros_0f7a4.2 ⟨Nat.le_of_ble_eq_true rfl, Nat.le_of_ble_eq_true rfl⟩) (wx_ps C hP hD hS) rfl rfl hl.1 rfl (lv_room (Nat.le_of_ble_eq_true rfl)) dX7_stepTo_1 ⟨Nat.zero_le _, Nat.zero_le _⟩) (fun r1 σ1 H locs h hP hD hS => ?_)
    refine lv_istore_n (lv' := [(2, .int r1), (0, .ref (ad 56)), (1, .int x1)]) hx hb dX7_stepTo_4 rfl hl (by decide) rfl (fun ls hl => ?_)
    refine lv_iload_n hx hb dX7_stepTo_5 rfl (lv_at hl 0 rfl) ?_
    refine lv_bipush (v := 16) hx hb dX7_stepTo_6 (by decide) ?_
    refine lv_icmp_ge (tgt := 26) hx hb dX7_stepTo_8 (by decide) (fun c8 => ?_) (fun c8 => ?_)
    · have h := h.1 c8
      exact Rt _ _ _ _ _ h hP hD hS dX7_stepTo_26
    · have h := h.2 c8
      refine lv_aload_n hx hb dX7_stepTo_11 rfl (lv_at hl 1 rfl) ?_
      refine lv_dup hx hb dX7_stepTo_12 rfl ?_
      refine wx_get C hP (q := 56) (ci := 7) (Nat.le_of_ble_eq_true rfl) (eC_56 _) (Cn := RX7) (T := TX7) (Nf := 6) rfl inX7_stepTo_X7 2 (by decide) (List.mem_of_getElem? (i := 1) rfl) (v := .int (σ1 56 2)) rfl dX7_stepTo_13 ?_
      refine lv_aload_n hx hb dX7_stepTo_16 rfl (lv_at hl 1 rfl) ?_
      refine wx_get C hP (q := 56) (ci := 7) (Nat.le_of_ble_eq_true rfl) (eC_56 _) (Cn := RX7) (T := TX7) (Nf := 6) rfl inX7_stepTo_X7 0 (by decide) (List.mem_of_getElem? (i := 2) rfl) (v := .ref (ad 57)) rfl dX7_stepTo_17 ?_
      refine lv_iload_n hx hb dX7_stepTo_20 rfl (lv_at hl 0 rfl) ?_
      refine wx_ild C hP (q := 57) (Nat.le_of_ble_eq_true rfl) eC_57 0 rfl h.1 dX7_stepTo_21 ?_
      have h := h.2
      refine lv_ixor hx hb dX7_stepTo_22 ?_
      refine wx_put C hP hD hS (q := 56) (ci := 7) (Nat.le_of_ble_eq_true rfl) (eC_56 _) (Cn := RX7) (T := TX7) (Nf := 6) rfl inX7_stepTo_X7 tyX7 tyX7_ok nmX7 2 (by decide) (List.mem_of_getElem? (i := 1) rfl) rfl rfl (Nat.le_of_ble_eq_true rfl) rfl dX7_stepTo_23 (fun H locs hP hD hS => ?_)
      generalize e_σ23 : wx_up σ1 56 2 ((σ1 56 2) ^^^ (σ1 57 (Int32.toNatClampNeg r1))) = σ23 at hP hD
      have h := h σ23 e_σ23.symm
      exact Rt _ _ _ _ _ h hP hD hS dX7_stepTo_26
  rw [eH, eL] at goal
  exact goal
abbrev rmX7_seek : Room := { frames := 4, cells := 0, slots := 0, locals := 108 }
set_option maxRecDepth 20000 in
theorem inX7_seek_X7 : ∀ w ∈ u_ws RX7 TX7 6, w ∈ wsX7_seek := by decide +kernel
theorem nyX7_prepare : yX7_prepare.cls = RX7 ∧ yX7_prepare.cls ≠ "java/lang/invoke/MethodHandle" ∧ yX7_prepare.cls ≠ "java/lang/invoke/VarHandle" ∧ (parseMethodDescriptor yX7_prepare.desc).map (fun d => d.parameters.length) = some 1 := by decide +kernel
theorem nyX7_stepTo : yX7_stepTo.cls = RX7 ∧ yX7_stepTo.cls ≠ "java/lang/invoke/MethodHandle" ∧ yX7_stepTo.cls ≠ "java/lang/invoke/VarHandle" ∧ (parseMethodDescriptor yX7_stepTo.desc).map (fun d => d.parameters.length) = some 1 := by decide +kernel
set_option maxRecDepth 100000 in
set_option maxHeartbeats 4000000 in
theorem bX7_seek_13 {p : Program} {l : Launch} {e : Env} {s : State} {m : MethodId} {args : Array Value} {below : List Frame} {meth : Method} {c : Code} {A : Nat → Prop} {Q : State → Prop} {D : va_G} {cI cB cS cR : ClassId} {ad : Nat → Nat} {tS tP : Nat} {kS vS : Nat → Nat} {g : Nat} {K : wx_Z → Prop} (C : wx_C p s m args c cX7_seek 5 RX7 wsX7_seek D [(cI, .int), (cB, .byte), (cS, .object RX5), (cR, .array .int)] (wC_RO tS tP kS vS) A) (Rt : wx_Rv p l e rmX7_seek s m args below meth c cX7_seek D 58 (wC_E cI cB cS cR ad) ad A K Q) (hg : g < 10) : ∀ (n : Nat) (σ : wx_Z) (x2 : Int32) (x3 : Int32), wpX7_seek_13 g K n σ x2 x3 → ∀ (H : Heap) (locs : List Loc) (ls : Array Slot), va_P D vwCl (wx_w 58 (wC_E cI cB cS cR ad) ad σ) H → va_D A (wx_w 58 (wC_E cI cB cS cR ad) ad σ) → va_S A s.heap H locs → lv_has ls 5 [(0, .ref (ad 56)), (2, .int x2), (3, .int x3)] → W p l e rmX7_seek s m args below meth c H locs 0 0 Q (F0 m 13 ls []) := by
  obtain ⟨⟨hx, hb, hml, hown, hts⟩, hA, hK, hRO, hro⟩ := id C
  intro n
  induction n with
  | zero => intro σ x2 x3 h; exact h.elim
  | succ n ih =>
    intro σ x2 x3 h H locs ls hP hD hS hl
    unfold wpX7_seek_13 at h
    refine lv_iload_n hx hb dX7_seek_13 rfl (lv_at hl 2 rfl) ?_
    refine lv_aload_n hx hb dX7_seek_14 rfl (lv_at hl 0 rfl) ?_
    refine wx_get C hP (q := 56) (ci := 7) (Nat.le_of_ble_eq_true rfl) (eC_56 _) (Cn := RX7) (T := TX7) (Nf := 6) rfl inX7_seek_X7 1 (by decide) (List.mem_of_getElem? (i := 2) rfl) (v := .int (σ 56 1)) rfl dX7_seek_15 ?_
    refine lv_icmp_ge (tgt := 93) hx hb dX7_seek_18 (by decide) (fun c18 => ?_) (fun c18 => ?_)
    · have h := h.1 c18
      exact Rt _ _ _ _ _ h hP hD hS dX7_seek_93
    · have h := h.2 c18
      refine lv_aload_n hx hb dX7_seek_21 rfl (lv_at hl 0 rfl) ?_
      refine lv_iload_n hx hb dX7_seek_22 rfl (lv_at hl 2 rfl) ?_
      refine wx_cv C hD hS (va_runV (As := [.int x3]) (rest := []) C.1 (mtX7_stepTo (l := l) (D := D) (sz := H.size) h) (cwV 1 hts gX7_seek_X7_stepTo rfl rfl rfl nyX7_stepTo ⟨Nat.le_of_ble_eq_true rfl, Nat.le_of_ble_eq_true rfl⟩) (wx_pv C hP hD hS (q := 56) (ci := 7) (Nat.le_of_ble_eq_true rfl) (eC_56 _) rfl) rfl rfl hl.1 rfl (lv_room (Nat.le_of_ble_eq_true rfl)) dX7_seek_23 ⟨Nat.zero_le _, Nat.zero_le _⟩) (fun σ23 H locs h hP hD hS => ?_)
      refine lv_aload_n hx hb dX7_seek_26 rfl (lv_at hl 0 rfl) ?_
      refine wx_get C hP (q := 56) (ci := 7) (Nat.le_of_ble_eq_true rfl) (eC_56 _) (Cn := RX7) (T := TX7) (Nf := 6) rfl inX7_seek_X7 2 (by decide) (List.mem_of_getElem? (i := 3) rfl) (v := .int (σ23 56 2)) rfl dX7_seek_27 ?_
      refine lv_iload_n hx hb dX7_seek_30 rfl (lv_at hl 1 rfl) ?_
      refine lv_ixor hx hb dX7_seek_31 ?_
      refine wx_ci C hD hS (va_runS (As := [.int ((σ23 56 2) ^^^ x2)]) (rest := []) C.1 (mtJ6_bitCount_0f7a4 (l := l) (D := D) (sz := H.size) h) (va_cwS 1 hts gX7_seek_J6_bitCount_0f7a4 rfl rfl rfl nyJ6_bitCount_0f7a4.2 ⟨Nat.le_of_ble_eq_true rfl, Nat.le_of_ble_eq_true rfl⟩) (wx_ps C hP hD hS) rfl rfl hl.1 rfl (lv_room (Nat.le_of_ble_eq_true rfl)) dX7_seek_32 ⟨Nat.zero_le _, Nat.zero_le _⟩) (fun r32 σ32 H locs h hP hD hS => ?_)
      refine lv_istore (lv' := [(4, .int r32), (0, .ref (ad 56)), (2, .int x2), (3, .int x3)]) hx hb dX7_seek_35 hl (by decide) rfl (fun ls hl => ?_)
      refine lv_iload hx hb dX7_seek_37 (lv_at hl 0 rfl) ?_
      refine lv_aload_n hx hb dX7_seek_39 rfl (lv_at hl 1 rfl) ?_
      refine wx_get C hP (q := 56) (ci := 7) (Nat.le_of_ble_eq_true rfl) (eC_56 _) (Cn := RX7) (T := TX7) (Nf := 6) rfl inX7_seek_X7 3 (by decide) (List.mem_of_getElem? (i := 1) rfl) (v := .int (σ32 56 3)) rfl dX7_seek_40 ?_
      refine lv_icmp_ge (tgt := 68) hx hb dX7_seek_43 (by decide) (fun c43 => ?_) (fun c43 => ?_)
      · have h := h.1 c43
        refine lv_iload hx hb dX7_seek_68 (lv_at hl 0 rfl) ?_
        refine lv_aload_n hx hb dX7_seek_70 rfl (lv_at hl 1 rfl) ?_
        refine wx_get C hP (q := 56) (ci := 7) (Nat.le_of_ble_eq_true rfl) (eC_56 _) (Cn := RX7) (T := TX7) (Nf := 6) rfl inX7_seek_X7 3 (by decide) (List.mem_of_getElem? (i := 1) rfl) (v := .int (σ32 56 3)) rfl dX7_seek_71 ?_
        refine lv_icmp_ne (tgt := 87) hx hb dX7_seek_74 (by decide) (fun c74 => ?_) (fun c74 => ?_)
        · have h := h.1 c74
          obtain ⟨t87, e_t87⟩ : ∃ y : Int32, y = x3 + 1 := ⟨_, rfl⟩
          have h := h t87 e_t87
          refine lv_iinc (v := t87) (lv' := [(3, .int t87), (4, .int r32), (0, .ref (ad 56)), (2, .int x2)]) hx hb dX7_seek_87 hl (k := 3) rfl (by rw [e_t87]; rfl) (by decide) rfl (fun ls hl => ?_)
          refine lv_goto (tgt := 13) hx hb dX7_seek_90 (by decide) ?_
          exact ih σ32 x2 t87  h _ _ _ hP hD hS (lv_sub hl [2, 3, 0] rfl)
        · have h := h.2 c74
          refine lv_aload_n hx hb dX7_seek_77 rfl (lv_at hl 1 rfl) ?_
          refine lv_dup hx hb dX7_seek_78 rfl ?_
          refine wx_get C hP (q := 56) (ci := 7) (Nat.le_of_ble_eq_true rfl) (eC_56 _) (Cn := RX7) (T := TX7) (Nf := 6) rfl inX7_seek_X7 4 (by decide) (List.mem_of_getElem? (i := 4) rfl) (v := .int (σ32 56 4)) rfl dX7_seek_79 ?_
          refine lv_iconst (v := 1) hx hb dX7_seek_82 (by decide) ?_
          refine lv_iadd hx hb dX7_seek_83 ?_
          refine wx_put C hP hD hS (q := 56) (ci := 7) (Nat.le_of_ble_eq_true rfl) (eC_56 _) (Cn := RX7) (T := TX7) (Nf := 6) rfl inX7_seek_X7 tyX7 tyX7_ok nmX7 4 (by decide) (List.mem_of_getElem? (i := 4) rfl) rfl rfl (Nat.le_of_ble_eq_true rfl) rfl dX7_seek_84 (fun H locs hP hD hS => ?_)
          generalize e_σ84 : wx_up σ32 56 4 ((σ32 56 4) + 1) = σ84 at hP hD
          have h := h σ84 e_σ84.symm
          obtain ⟨t87_1, e_t87_1⟩ : ∃ y : Int32, y = x3 + 1 := ⟨_, rfl⟩
          have h := h t87_1 e_t87_1
          refine lv_iinc (v := t87_1) (lv' := [(3, .int t87_1), (4, .int r32), (0, .ref (ad 56)), (2, .int x2)]) hx hb dX7_seek_87 hl (k := 3) rfl (by rw [e_t87_1]; rfl) (by decide) rfl (fun ls hl => ?_)
          refine lv_goto (tgt := 13) hx hb dX7_seek_90 (by decide) ?_
          exact ih σ84 x2 t87_1  h _ _ _ hP hD hS (lv_sub hl [2, 3, 0] rfl)
      · have h := h.2 c43
        refine lv_aload_n hx hb dX7_seek_46 rfl (lv_at hl 1 rfl) ?_
        refine lv_iload hx hb dX7_seek_47 (lv_at hl 0 rfl) ?_
        refine wx_put C hP hD hS (q := 56) (ci := 7) (Nat.le_of_ble_eq_true rfl) (eC_56 _) (Cn := RX7) (T := TX7) (Nf := 6) rfl inX7_seek_X7 tyX7 tyX7_ok nmX7 3 (by decide) (List.mem_of_getElem? (i := 1) rfl) rfl rfl (Nat.le_of_ble_eq_true rfl) rfl dX7_seek_49 (fun H locs hP hD hS => ?_)
        generalize e_σ49 : wx_up σ32 56 3 r32 = σ49 at hP hD
        have h := h σ49 e_σ49.symm
        refine lv_aload_n hx hb dX7_seek_52 rfl (lv_at hl 1 rfl) ?_
        refine lv_iconst (v := 1) hx hb dX7_seek_53 (by decide) ?_
        refine wx_put C hP hD hS (q := 56) (ci := 7) (Nat.le_of_ble_eq_true rfl) (eC_56 _) (Cn := RX7) (T := TX7) (Nf := 6) rfl inX7_seek_X7 tyX7 tyX7_ok nmX7 4 (by decide) (List.mem_of_getElem? (i := 4) rfl) rfl rfl (Nat.le_of_ble_eq_true rfl) rfl dX7_seek_54 (fun H locs hP hD hS => ?_)
        generalize e_σ54 : wx_up σ49 56 4 1 = σ54 at hP hD
        have h := h σ54 e_σ54.symm
        refine lv_aload_n hx hb dX7_seek_57 rfl (lv_at hl 1 rfl) ?_
        refine lv_aload_n hx hb dX7_seek_58 rfl (lv_at hl 1 rfl) ?_
        refine wx_get C hP (q := 56) (ci := 7) (Nat.le_of_ble_eq_true rfl) (eC_56 _) (Cn := RX7) (T := TX7) (Nf := 6) rfl inX7_seek_X7 2 (by decide) (List.mem_of_getElem? (i := 3) rfl) (v := .int (σ54 56 2)) rfl dX7_seek_59 ?_
        refine wx_put C hP hD hS (q := 56) (ci := 7) (Nat.le_of_ble_eq_true rfl) (eC_56 _) (Cn := RX7) (T := TX7) (Nf := 6) rfl inX7_seek_X7 tyX7 tyX7_ok nmX7 5 (by decide) (List.mem_of_getElem? (i := 5) rfl) rfl rfl (Nat.le_of_ble_eq_true rfl) rfl dX7_seek_62 (fun H locs hP hD hS => ?_)
        generalize e_σ62 : wx_up σ54 56 5 (σ54 56 2) = σ62 at hP hD
        have h := h σ62 e_σ62.symm
        refine lv_goto (tgt := 87) hx hb dX7_seek_65 (by decide) ?_
        obtain ⟨t87_2, e_t87_2⟩ : ∃ y : Int32, y = x3 + 1 := ⟨_, rfl⟩
        have h := h t87_2 e_t87_2
        refine lv_iinc (v := t87_2) (lv' := [(3, .int t87_2), (4, .int r32), (0, .ref (ad 56)), (2, .int x2)]) hx hb dX7_seek_87 hl (k := 3) rfl (by rw [e_t87_2]; rfl) (by decide) rfl (fun ls hl => ?_)
        refine lv_goto (tgt := 13) hx hb dX7_seek_90 (by decide) ?_
        exact ih σ62 x2 t87_2  h _ _ _ hP hD hS (lv_sub hl [2, 3, 0] rfl)
set_option maxRecDepth 100000 in
set_option maxHeartbeats 4000000 in
theorem mtX7_seek {l : Launch} {D : va_G} {cI cB cS cR : ClassId} {ad : Nat → Nat} {tS tP : Nat} {kS vS : Nat → Nat} {sz : Nat} {g : Nat} {σ : wx_Z} {x2 : Int32} {K : wx_Z → Prop} (hg : g < 10) (h : wpX7_seek g σ x2 K) : Met l yX7_seek wsX7_seek rmX7_seek (wx_Pre D [(cI, .int), (cB, .byte), (cS, .object RX5), (cR, .array .int)] (wC_RO tS tP kS vS) 58 (wC_E cI cB cS cR ad) ad σ sz [.ref (ad 56), .ref (ad (cCo g)), .int x2]) (va_Qv K (wx_B D [(cI, .int), (cB, .byte), (cS, .object RX5), (cR, .array .int)] 58 (wC_E cI cB cS cR ad) ad (va_A (wx_w 58 (wC_E cI cB cS cR ad) ad σ) sz)) (va_A (wx_w 58 (wC_E cI cB cS cR ad) ad σ) sz)) 0 0 (va_A (wx_w 58 (wC_E cI cB cS cR ad) ad σ) sz) := by
  unfold wpX7_seek at h
  refine wx_metv (cc := cX7_seek) (maxL := 5) (own := RX7) rfl (by decide) rfl (Nat.le_of_ble_eq_true rfl) (wC_ROok tS tP kS vS) ?_
  intro p e s m args below meth c A Q ls C Rt hP hD hS hl
  obtain ⟨⟨hx, hb, hml, hown, hts⟩, hA, hK, hRO, hro⟩ := id C
  have hl : lv_has ls 5 [(0, .ref (ad 56)), (1, .ref (ad (cCo g))), (2, .int x2)] := hl
  obtain ⟨H, eH⟩ : ∃ z, z = s.heap := ⟨_, rfl⟩
  obtain ⟨locs, eL⟩ : ∃ z : List Loc, z = [] := ⟨_, rfl⟩
  rw [← eH] at hP
  have hS : va_S A s.heap H locs := by rw [eH, eL]; exact hS
  have goal : W p l e rmX7_seek s m args below meth c H locs 0 0 Q (F0 m 0 ls []) := by
    refine lv_aload_n hx hb dX7_seek_0 rfl (lv_at hl 0 rfl) ?_
    refine lv_aload_n hx hb dX7_seek_1 rfl (lv_at hl 1 rfl) ?_
    refine wx_cv C hD hS (va_runV (As := [.ref (ad (cCo g))]) (rest := []) C.1 (mtX7_prepare (l := l) (D := D) (sz := H.size) hg h) (cwV 1 hts gX7_seek_X7_prepare rfl rfl rfl nyX7_prepare ⟨Nat.le_of_ble_eq_true rfl, Nat.le_of_ble_eq_true rfl⟩) (wx_pv C hP hD hS (q := 56) (ci := 7) (Nat.le_of_ble_eq_true rfl) (eC_56 _) rfl) rfl rfl hl.1 rfl (lv_room (Nat.le_of_ble_eq_true rfl)) dX7_seek_2 ⟨Nat.zero_le _, Nat.zero_le _⟩) (fun σ2 H locs h hP hD hS => ?_)
    refine lv_aload_n hx hb dX7_seek_5 rfl (lv_at hl 0 rfl) ?_
    refine lv_bipush (v := 33) hx hb dX7_seek_6 (by decide) ?_
    refine wx_put C hP hD hS (q := 56) (ci := 7) (Nat.le_of_ble_eq_true rfl) (eC_56 _) (Cn := RX7) (T := TX7) (Nf := 6) rfl inX7_seek_X7 tyX7 tyX7_ok nmX7 3 (by decide) (List.mem_of_getElem? (i := 1) rfl) rfl rfl (Nat.le_of_ble_eq_true rfl) rfl dX7_seek_8 (fun H locs hP hD hS => ?_)
    generalize e_σ8 : wx_up σ2 56 3 33 = σ8 at hP hD
    have h := h σ8 e_σ8.symm
    refine lv_iconst (v := 0) hx hb dX7_seek_11 (by decide) ?_
    refine lv_istore_n (lv' := [(3, .int 0), (0, .ref (ad 56)), (1, .ref (ad (cCo g))), (2, .int x2)]) hx hb dX7_seek_12 rfl hl (by decide) rfl (fun ls hl => ?_)
    obtain ⟨n13, h⟩ := h
    exact bX7_seek_13 C Rt hg n13 σ8 x2 0  h _ _ _ hP hD hS (lv_sub hl [1, 3, 0] rfl)
  rw [eH, eL] at goal
  exact goal
abbrev rmX7_howManyWeigh : Room := { frames := 4, cells := 0, slots := 0, locals := 108 }
set_option maxRecDepth 20000 in
theorem inX7_howManyWeigh_X7 : ∀ w ∈ u_ws RX7 TX7 6, w ∈ wsX7_howManyWeigh := by decide +kernel
set_option maxRecDepth 100000 in
set_option maxHeartbeats 4000000 in
theorem bX7_howManyWeigh_10 {p : Program} {l : Launch} {e : Env} {s : State} {m : MethodId} {args : Array Value} {below : List Frame} {meth : Method} {c : Code} {A : Nat → Prop} {Q : State → Prop} {D : va_G} {cI cB cS cR : ClassId} {ad : Nat → Nat} {tS tP : Nat} {kS vS : Nat → Nat} {g : Nat} {K : Int32 → wx_Z → Prop} (C : wx_C p s m args c cX7_howManyWeigh 5 RX7 wsX7_howManyWeigh D [(cI, .int), (cB, .byte), (cS, .object RX5), (cR, .array .int)] (wC_RO tS tP kS vS) A) (Rt : wx_Ri p l e rmX7_howManyWeigh s m args below meth c cX7_howManyWeigh D 58 (wC_E cI cB cS cR ad) ad A K Q) (hg : g < 10) : ∀ (n : Nat) (σ : wx_Z) (x2 : Int32) (x3 : Int32) (x4 : Int32), wpX7_howManyWeigh_10 g K n σ x2 x3 x4 → ∀ (H : Heap) (locs : List Loc) (ls : Array Slot), va_P D vwCl (wx_w 58 (wC_E cI cB cS cR ad) ad σ) H → va_D A (wx_w 58 (wC_E cI cB cS cR ad) ad σ) → va_S A s.heap H locs → lv_has ls 5 [(0, .ref (ad 56)), (2, .int x2), (3, .int x3), (4, .int x4)] → W p l e rmX7_howManyWeigh s m args below meth c H locs 0 0 Q (F0 m 10 ls []) := by
  obtain ⟨⟨hx, hb, hml, hown, hts⟩, hA, hK, hRO, hro⟩ := id C
  intro n
  induction n with
  | zero => intro σ x2 x3 x4 h; exact h.elim
  | succ n ih =>
    intro σ x2 x3 x4 h H locs ls hP hD hS hl
    unfold wpX7_howManyWeigh_10 at h
    refine lv_iload hx hb dX7_howManyWeigh_10 (lv_at hl 3 rfl) ?_
    refine lv_aload_n hx hb dX7_howManyWeigh_12 rfl (lv_at hl 0 rfl) ?_
    refine wx_get C hP (q := 56) (ci := 7) (Nat.le_of_ble_eq_true rfl) (eC_56 _) (Cn := RX7) (T := TX7) (Nf := 6) rfl inX7_howManyWeigh_X7 1 (by decide) (List.mem_of_getElem? (i := 1) rfl) (v := .int (σ 56 1)) rfl dX7_howManyWeigh_13 ?_
    refine lv_icmp_ge (tgt := 45) hx hb dX7_howManyWeigh_16 (by decide) (fun c16 => ?_) (fun c16 => ?_)
    · have h := h.1 c16
      refine lv_iload_n hx hb dX7_howManyWeigh_45 rfl (lv_at hl 2 rfl) ?_
      exact Rt _ _ _ _ _ _ h hP hD hS dX7_howManyWeigh_46
    · have h := h.2 c16
      refine lv_aload_n hx hb dX7_howManyWeigh_19 rfl (lv_at hl 0 rfl) ?_
      refine lv_iload hx hb dX7_howManyWeigh_20 (lv_at hl 3 rfl) ?_
      refine wx_cv C hD hS (va_runV (As := [.int x4]) (rest := []) C.1 (mtX7_stepTo (l := l) (D := D) (sz := H.size) h) (cwV 1 hts gX7_howManyWeigh_X7_stepTo rfl rfl rfl nyX7_stepTo ⟨Nat.le_of_ble_eq_true rfl, Nat.le_of_ble_eq_true rfl⟩) (wx_pv C hP hD hS (q := 56) (ci := 7) (Nat.le_of_ble_eq_true rfl) (eC_56 _) rfl) rfl rfl hl.1 rfl (lv_room (Nat.le_of_ble_eq_true rfl)) dX7_howManyWeigh_22 ⟨Nat.zero_le _, Nat.zero_le _⟩) (fun σ22 H locs h hP hD hS => ?_)
      refine lv_aload_n hx hb dX7_howManyWeigh_25 rfl (lv_at hl 0 rfl) ?_
      refine wx_get C hP (q := 56) (ci := 7) (Nat.le_of_ble_eq_true rfl) (eC_56 _) (Cn := RX7) (T := TX7) (Nf := 6) rfl inX7_howManyWeigh_X7 2 (by decide) (List.mem_of_getElem? (i := 2) rfl) (v := .int (σ22 56 2)) rfl dX7_howManyWeigh_26 ?_
      refine wx_ci C hD hS (va_runS (As := [.int (σ22 56 2)]) (rest := []) C.1 (mtJ6_bitCount_0f7a4 (l := l) (D := D) (sz := H.size) h) (va_cwS 1 hts gX7_howManyWeigh_J6_bitCount_0f7a4 rfl rfl rfl nyJ6_bitCount_0f7a4.2 ⟨Nat.le_of_ble_eq_true rfl, Nat.le_of_ble_eq_true rfl⟩) (wx_ps C hP hD hS) rfl rfl hl.1 rfl (lv_room (Nat.le_of_ble_eq_true rfl)) dX7_howManyWeigh_29 ⟨Nat.zero_le _, Nat.zero_le _⟩) (fun r29 σ29 H locs h hP hD hS => ?_)
      refine lv_iload_n hx hb dX7_howManyWeigh_32 rfl (lv_at hl 1 rfl) ?_
      refine lv_icmp_ne (tgt := 39) hx hb dX7_howManyWeigh_33 (by decide) (fun c33 => ?_) (fun c33 => ?_)
      · have h := h.1 c33
        obtain ⟨t39, e_t39⟩ : ∃ y : Int32, y = x4 + 1 := ⟨_, rfl⟩
        have h := h t39 e_t39
        refine lv_iinc (v := t39) (lv' := [(4, .int t39), (0, .ref (ad 56)), (2, .int x2), (3, .int x3)]) hx hb dX7_howManyWeigh_39 hl (k := 3) rfl (by rw [e_t39]; rfl) (by decide) rfl (fun ls hl => ?_)
        refine lv_goto (tgt := 10) hx hb dX7_howManyWeigh_42 (by decide) ?_
        exact ih σ29 x2 x3 t39  h _ _ _ hP hD hS (lv_sub hl [1, 2, 3, 0] rfl)
      · have h := h.2 c33
        obtain ⟨t36, e_t36⟩ : ∃ y : Int32, y = x3 + 1 := ⟨_, rfl⟩
        have h := h t36 e_t36
        refine lv_iinc (v := t36) (lv' := [(3, .int t36), (0, .ref (ad 56)), (2, .int x2), (4, .int x4)]) hx hb dX7_howManyWeigh_36 hl (k := 2) rfl (by rw [e_t36]; rfl) (by decide) rfl (fun ls hl => ?_)
        obtain ⟨t39_1, e_t39_1⟩ : ∃ y : Int32, y = x4 + 1 := ⟨_, rfl⟩
        have h := h t39_1 e_t39_1
        refine lv_iinc (v := t39_1) (lv' := [(4, .int t39_1), (3, .int t36), (0, .ref (ad 56)), (2, .int x2)]) hx hb dX7_howManyWeigh_39 hl (k := 3) rfl (by rw [e_t39_1]; rfl) (by decide) rfl (fun ls hl => ?_)
        refine lv_goto (tgt := 10) hx hb dX7_howManyWeigh_42 (by decide) ?_
        exact ih σ29 x2 t36 t39_1  h _ _ _ hP hD hS (lv_sub hl [2, 3, 1, 0] rfl)
set_option maxRecDepth 100000 in
set_option maxHeartbeats 4000000 in
theorem mtX7_howManyWeigh {l : Launch} {D : va_G} {cI cB cS cR : ClassId} {ad : Nat → Nat} {tS tP : Nat} {kS vS : Nat → Nat} {sz : Nat} {g : Nat} {σ : wx_Z} {x2 : Int32} {K : Int32 → wx_Z → Prop} (hg : g < 10) (h : wpX7_howManyWeigh g σ x2 K) : Met l yX7_howManyWeigh wsX7_howManyWeigh rmX7_howManyWeigh (wx_Pre D [(cI, .int), (cB, .byte), (cS, .object RX5), (cR, .array .int)] (wC_RO tS tP kS vS) 58 (wC_E cI cB cS cR ad) ad σ sz [.ref (ad 56), .ref (ad (cCo g)), .int x2]) (va_Qi K (wx_B D [(cI, .int), (cB, .byte), (cS, .object RX5), (cR, .array .int)] 58 (wC_E cI cB cS cR ad) ad (va_A (wx_w 58 (wC_E cI cB cS cR ad) ad σ) sz)) (va_A (wx_w 58 (wC_E cI cB cS cR ad) ad σ) sz)) 0 0 (va_A (wx_w 58 (wC_E cI cB cS cR ad) ad σ) sz) := by
  unfold wpX7_howManyWeigh at h
  refine wx_meti (cc := cX7_howManyWeigh) (maxL := 5) (own := RX7) rfl (by decide) rfl (Nat.le_of_ble_eq_true rfl) (wC_ROok tS tP kS vS) ?_
  intro p e s m args below meth c A Q ls C Rt hP hD hS hl
  obtain ⟨⟨hx, hb, hml, hown, hts⟩, hA, hK, hRO, hro⟩ := id C
  have hl : lv_has ls 5 [(0, .ref (ad 56)), (1, .ref (ad (cCo g))), (2, .int x2)] := hl
  obtain ⟨H, eH⟩ : ∃ z, z = s.heap := ⟨_, rfl⟩
  obtain ⟨locs, eL⟩ : ∃ z : List Loc, z = [] := ⟨_, rfl⟩
  rw [← eH] at hP
  have hS : va_S A s.heap H locs := by rw [eH, eL]; exact hS
  have goal : W p l e rmX7_howManyWeigh s m args below meth c H locs 0 0 Q (F0 m 0 ls []) := by
    refine lv_aload_n hx hb dX7_howManyWeigh_0 rfl (lv_at hl 0 rfl) ?_
    refine lv_aload_n hx hb dX7_howManyWeigh_1 rfl (lv_at hl 1 rfl) ?_
    refine wx_cv C hD hS (va_runV (As := [.ref (ad (cCo g))]) (rest := []) C.1 (mtX7_prepare (l := l) (D := D) (sz := H.size) hg h) (cwV 1 hts gX7_howManyWeigh_X7_prepare rfl rfl rfl nyX7_prepare ⟨Nat.le_of_ble_eq_true rfl, Nat.le_of_ble_eq_true rfl⟩) (wx_pv C hP hD hS (q := 56) (ci := 7) (Nat.le_of_ble_eq_true rfl) (eC_56 _) rfl) rfl rfl hl.1 rfl (lv_room (Nat.le_of_ble_eq_true rfl)) dX7_howManyWeigh_2 ⟨Nat.zero_le _, Nat.zero_le _⟩) (fun σ2 H locs h hP hD hS => ?_)
    refine lv_iconst (v := 0) hx hb dX7_howManyWeigh_5 (by decide) ?_
    refine lv_istore_n (lv' := [(3, .int 0), (0, .ref (ad 56)), (1, .ref (ad (cCo g))), (2, .int x2)]) hx hb dX7_howManyWeigh_6 rfl hl (by decide) rfl (fun ls hl => ?_)
    refine lv_iconst (v := 0) hx hb dX7_howManyWeigh_7 (by decide) ?_
    refine lv_istore (lv' := [(4, .int 0), (3, .int 0), (0, .ref (ad 56)), (1, .ref (ad (cCo g))), (2, .int x2)]) hx hb dX7_howManyWeigh_8 hl (by decide) rfl (fun ls hl => ?_)
    obtain ⟨n10, h⟩ := h
    exact bX7_howManyWeigh_10 C Rt hg n10 σ2 x2 0 0  h _ _ _ hP hD hS (lv_sub hl [2, 4, 1, 0] rfl)
  rw [eH, eL] at goal
  exact goal

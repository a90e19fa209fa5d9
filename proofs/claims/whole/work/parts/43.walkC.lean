abbrev rmX7_greatest : Room := { frames := 4, cells := 0, slots := 0, locals := 108 }
set_option maxRecDepth 20000 in
theorem inX7_greatest_X7 : ∀ w ∈ u_ws RX7 TX7 6, w ∈ wsX7_greatest := by decide +kernel
theorem nyX3_sumFor : yX3_sumFor.cls = RX3 ∧ yX3_sumFor.cls ≠ "java/lang/invoke/MethodHandle" ∧ yX3_sumFor.cls ≠ "java/lang/invoke/VarHandle" ∧ (parseMethodDescriptor yX3_sumFor.desc).map (fun d => d.parameters.length) = some 1 := by decide +kernel
set_option maxRecDepth 100000 in
set_option maxHeartbeats 4000000 in
theorem bX7_greatest_14 {p : Program} {l : Launch} {e : Env} {s : State} {m : MethodId} {args : Array Value} {below : List Frame} {meth : Method} {c : Code} {A : Nat → Prop} {Q : State → Prop} {D : va_G} {cI cB cS cR : ClassId} {ad : Nat → Nat} {tS tP : Nat} {kS vS : Nat → Nat} {g : Nat} {K : Int32 → wx_Z → Prop} (C : wx_C p s m args c cX7_greatest 5 RX7 wsX7_greatest D [(cI, .int), (cB, .byte), (cS, .object RX5), (cR, .array .int)] (wC_RO tS tP kS vS) A) (Rt : wx_Ri p l e rmX7_greatest s m args below meth c cX7_greatest D 58 (wC_E cI cB cS cR ad) ad A K Q) (hg : g < 10) : ∀ (n : Nat) (σ : wx_Z) (x3 : Int32) (x4 : Int32), wpX7_greatest_14 g K n σ x3 x4 → ∀ (H : Heap) (locs : List Loc) (ls : Array Slot), va_P D vwCl (wx_w 58 (wC_E cI cB cS cR ad) ad σ) H → va_D A (wx_w 58 (wC_E cI cB cS cR ad) ad σ) → va_S A s.heap H locs → lv_has ls 5 [(0, .ref (ad 56)), (2, .ref (ad 54)), (3, .int x3), (4, .int x4)] → W p l e rmX7_greatest s m args below meth c H locs 0 0 Q (F0 m 14 ls []) := by
  obtain ⟨⟨hx, hb, hml, hown, hts⟩, hA, hK, hRO, hro⟩ := id C
  intro n
  induction n with
  | zero => intro σ x3 x4 h; exact h.elim
  | succ n ih =>
    intro σ x3 x4 h H locs ls hP hD hS hl
    unfold wpX7_greatest_14 at h
    refine lv_iload hx hb dX7_greatest_14 (lv_at hl 3 rfl) ?_
    refine lv_aload_n hx hb dX7_greatest_16 rfl (lv_at hl 0 rfl) ?_
    refine wx_get C hP (q := 56) (ci := 7) (Nat.le_of_ble_eq_true rfl) (eC_56 _) (Cn := RX7) (T := TX7) (Nf := 6) rfl inX7_greatest_X7 1 (by decide) (List.mem_of_getElem? (i := 1) rfl) (v := .int (σ 56 1)) rfl dX7_greatest_17 ?_
    refine lv_icmp_ge (tgt := 48) hx hb dX7_greatest_20 (by decide) (fun c20 => ?_) (fun c20 => ?_)
    · have h := h.1 c20
      refine lv_iload_n hx hb dX7_greatest_48 rfl (lv_at hl 2 rfl) ?_
      exact Rt _ _ _ _ _ _ h hP hD hS dX7_greatest_49
    · have h := h.2 c20
      refine lv_aload_n hx hb dX7_greatest_23 rfl (lv_at hl 0 rfl) ?_
      refine lv_iload hx hb dX7_greatest_24 (lv_at hl 3 rfl) ?_
      refine wx_cv C hD hS (va_runV (As := [.int x4]) (rest := []) C.1 (mtX7_stepTo (l := l) (D := D) (sz := H.size) h) (cwV 1 hts gX7_greatest_X7_stepTo rfl rfl rfl nyX7_stepTo ⟨Nat.le_of_ble_eq_true rfl, Nat.le_of_ble_eq_true rfl⟩) (wx_pv C hP hD hS (q := 56) (ci := 7) (Nat.le_of_ble_eq_true rfl) (eC_56 _) rfl) rfl rfl hl.1 rfl (lv_room (Nat.le_of_ble_eq_true rfl)) dX7_greatest_26 ⟨Nat.zero_le _, Nat.zero_le _⟩) (fun σ26 H locs h hP hD hS => ?_)
      refine lv_iload_n hx hb dX7_greatest_29 rfl (lv_at hl 2 rfl) ?_
      refine lv_aload_n hx hb dX7_greatest_30 rfl (lv_at hl 1 rfl) ?_
      refine lv_aload_n hx hb dX7_greatest_31 rfl (lv_at hl 0 rfl) ?_
      refine wx_get C hP (q := 56) (ci := 7) (Nat.le_of_ble_eq_true rfl) (eC_56 _) (Cn := RX7) (T := TX7) (Nf := 6) rfl inX7_greatest_X7 2 (by decide) (List.mem_of_getElem? (i := 2) rfl) (v := .int (σ26 56 2)) rfl dX7_greatest_32 ?_
      refine wx_ci C hD hS (va_runV (As := [.int (σ26 56 2)]) (rest := [.int x3]) C.1 (mtX3_sumFor (l := l) (D := D) (sz := H.size) h) (cwV 1 hts gX7_greatest_X3_sumFor rfl rfl rfl nyX3_sumFor ⟨Nat.le_of_ble_eq_true rfl, Nat.le_of_ble_eq_true rfl⟩) (wx_pv C hP hD hS (q := 54) (ci := 3) (Nat.le_of_ble_eq_true rfl) (eC_54 _) rfl) rfl rfl hl.1 rfl (lv_room (Nat.le_of_ble_eq_true rfl)) dX7_greatest_35 ⟨Nat.zero_le _, Nat.zero_le _⟩) (fun r35 σ35 H locs h hP hD hS => ?_)
      refine va_mmax hx hb (hml.trans hl.1.symm) hown (hts (.methodLink RX7 50 Lib.Math.max.name) (List.mem_of_getElem? (i := 3) rfl)) (hts (.static Lib.Math.max.name) (List.mem_of_getElem? (i := 4) rfl)) (hts (.initialized "java/lang/Math") (List.mem_of_getElem? (i := 5) rfl)) (hts (.code Lib.Math.max.name Lib.Math.max.code 2 (some .int)) (List.mem_of_getElem? (i := 6) rfl)) (Nat.le_of_ble_eq_true rfl) (Nat.le_of_ble_eq_true rfl) (Nat.zero_le _) (Nat.zero_le _) dX7_greatest_38 ?_
      refine lv_topi (fun t38 e_t38 => ?_)
      have h := h t38 e_t38
      refine lv_istore_n (lv' := [(3, .int t38), (0, .ref (ad 56)), (2, .ref (ad 54)), (4, .int x4)]) hx hb dX7_greatest_41 rfl hl (by decide) rfl (fun ls hl => ?_)
      obtain ⟨t42, e_t42⟩ : ∃ y : Int32, y = x4 + 1 := ⟨_, rfl⟩
      have h := h t42 e_t42
      refine lv_iinc (v := t42) (lv' := [(4, .int t42), (3, .int t38), (0, .ref (ad 56)), (2, .ref (ad 54))]) hx hb dX7_greatest_42 hl (k := 3) rfl (by rw [e_t42]; rfl) (by decide) rfl (fun ls hl => ?_)
      refine lv_goto (tgt := 14) hx hb dX7_greatest_45 (by decide) ?_
      exact ih σ35 t38 t42  h _ _ _ hP hD hS (lv_sub hl [2, 3, 1, 0] rfl)
set_option maxRecDepth 100000 in
set_option maxHeartbeats 4000000 in
theorem mtX7_greatest {l : Launch} {D : va_G} {cI cB cS cR : ClassId} {ad : Nat → Nat} {tS tP : Nat} {kS vS : Nat → Nat} {sz : Nat} {g : Nat} {σ : wx_Z} {K : Int32 → wx_Z → Prop} (hg : g < 10) (h : wpX7_greatest g σ K) : Met l yX7_greatest wsX7_greatest rmX7_greatest (wx_Pre D [(cI, .int), (cB, .byte), (cS, .object RX5), (cR, .array .int)] (wC_RO tS tP kS vS) 58 (wC_E cI cB cS cR ad) ad σ sz [.ref (ad 56), .ref (ad (cCo g)), .ref (ad 54)]) (va_Qi K (wx_B D [(cI, .int), (cB, .byte), (cS, .object RX5), (cR, .array .int)] 58 (wC_E cI cB cS cR ad) ad (va_A (wx_w 58 (wC_E cI cB cS cR ad) ad σ) sz)) (va_A (wx_w 58 (wC_E cI cB cS cR ad) ad σ) sz)) 0 0 (va_A (wx_w 58 (wC_E cI cB cS cR ad) ad σ) sz) := by
  unfold wpX7_greatest at h
  refine wx_meti (cc := cX7_greatest) (maxL := 5) (own := RX7) rfl (by decide) rfl (Nat.le_of_ble_eq_true rfl) (wC_ROok tS tP kS vS) ?_
  intro p e s m args below meth c A Q ls C Rt hP hD hS hl
  obtain ⟨⟨hx, hb, hml, hown, hts⟩, hA, hK, hRO, hro⟩ := id C
  have hl : lv_has ls 5 [(0, .ref (ad 56)), (1, .ref (ad (cCo g))), (2, .ref (ad 54))] := hl
  obtain ⟨H, eH⟩ : ∃ z, z = s.heap := ⟨_, rfl⟩
  obtain ⟨locs, eL⟩ : ∃ z : List Loc, z = [] := ⟨_, rfl⟩
  rw [← eH] at hP
  have hS : va_S A s.heap H locs := by rw [eH, eL]; exact hS
  have goal : W p l e rmX7_greatest s m args below meth c H locs 0 0 Q (F0 m 0 ls []) := by
    refine lv_aload_n hx hb dX7_greatest_0 rfl (lv_at hl 0 rfl) ?_
    refine lv_aload_n hx hb dX7_greatest_1 rfl (lv_at hl 1 rfl) ?_
    refine wx_cv C hD hS (va_runV (As := [.ref (ad (cCo g))]) (rest := []) C.1 (mtX7_prepare (l := l) (D := D) (sz := H.size) hg h) (cwV 1 hts gX7_greatest_X7_prepare rfl rfl rfl nyX7_prepare ⟨Nat.le_of_ble_eq_true rfl, Nat.le_of_ble_eq_true rfl⟩) (wx_pv C hP hD hS (q := 56) (ci := 7) (Nat.le_of_ble_eq_true rfl) (eC_56 _) rfl) rfl rfl hl.1 rfl (lv_room (Nat.le_of_ble_eq_true rfl)) dX7_greatest_2 ⟨Nat.zero_le _, Nat.zero_le _⟩) (fun σ2 H locs h hP hD hS => ?_)
    refine lv_aload_n hx hb dX7_greatest_5 rfl (lv_at hl 2 rfl) ?_
    refine lv_iconst (v := 0) hx hb dX7_greatest_6 (by decide) ?_
    refine wx_ci C hD hS (va_runV (As := [.int 0]) (rest := []) C.1 (mtX3_sumFor (l := l) (D := D) (sz := H.size) h) (cwV 1 hts gX7_greatest_X3_sumFor rfl rfl rfl nyX3_sumFor ⟨Nat.le_of_ble_eq_true rfl, Nat.le_of_ble_eq_true rfl⟩) (wx_pv C hP hD hS (q := 54) (ci := 3) (Nat.le_of_ble_eq_true rfl) (eC_54 _) rfl) rfl rfl hl.1 rfl (lv_room (Nat.le_of_ble_eq_true rfl)) dX7_greatest_7 ⟨Nat.zero_le _, Nat.zero_le _⟩) (fun r7 σ7 H locs h hP hD hS => ?_)
    refine lv_istore_n (lv' := [(3, .int r7), (0, .ref (ad 56)), (1, .ref (ad (cCo g))), (2, .ref (ad 54))]) hx hb dX7_greatest_10 rfl hl (by decide) rfl (fun ls hl => ?_)
    refine lv_iconst (v := 0) hx hb dX7_greatest_11 (by decide) ?_
    refine lv_istore (lv' := [(4, .int 0), (3, .int r7), (0, .ref (ad 56)), (1, .ref (ad (cCo g))), (2, .ref (ad 54))]) hx hb dX7_greatest_12 hl (by decide) rfl (fun ls hl => ?_)
    obtain ⟨n14, h⟩ := h
    exact bX7_greatest_14 C Rt hg n14 σ7 r7 0  h _ _ _ hP hD hS (lv_sub hl [2, 4, 1, 0] rfl)
  rw [eH, eL] at goal
  exact goal
abbrev rmX8_refuseBad : Room := { frames := 1, cells := 0, slots := 0, locals := 40 }
set_option maxRecDepth 20000 in
theorem inX8_refuseBad_X8 : ∀ w ∈ u_ws RX8 TX8 11, w ∈ wsX8_refuseBad := by decide +kernel
set_option maxRecDepth 100000 in
set_option maxHeartbeats 4000000 in
theorem mtX8_refuseBad {l : Launch} {D : va_G} {cI cB cS cR : ClassId} {ad : Nat → Nat} {tS tP : Nat} {kS vS : Nat → Nat} {sz : Nat} {σ : wx_Z} {x1 : Int32} {K : Int32 → wx_Z → Prop} (h : wpX8_refuseBad σ x1 K) : Met l yX8_refuseBad wsX8_refuseBad rmX8_refuseBad (wx_Pre D [(cI, .int), (cB, .byte), (cS, .object RX5), (cR, .array .int)] (wC_RO tS tP kS vS) 58 (wC_E cI cB cS cR ad) ad σ sz [.ref (ad 0), .int x1]) (va_Qi K (wx_B D [(cI, .int), (cB, .byte), (cS, .object RX5), (cR, .array .int)] 58 (wC_E cI cB cS cR ad) ad (va_A (wx_w 58 (wC_E cI cB cS cR ad) ad σ) sz)) (va_A (wx_w 58 (wC_E cI cB cS cR ad) ad σ) sz)) 0 0 (va_A (wx_w 58 (wC_E cI cB cS cR ad) ad σ) sz) := by
  unfold wpX8_refuseBad at h
  refine wx_meti (cc := cX8_refuseBad) (maxL := 2) (own := RX8) rfl (by decide) rfl (Nat.le_of_ble_eq_true rfl) (wC_ROok tS tP kS vS) ?_
  intro p e s m args below meth c A Q ls C Rt hP hD hS hl
  obtain ⟨⟨hx, hb, hml, hown, hts⟩, hA, hK, hRO, hro⟩ := id C
  have hl : lv_has ls 2 [(0, .ref (ad 0)), (1, .int x1)] := hl
  obtain ⟨H, eH⟩ : ∃ z, z = s.heap := ⟨_, rfl⟩
  obtain ⟨locs, eL⟩ : ∃ z : List Loc, z = [] := ⟨_, rfl⟩
  rw [← eH] at hP
  have hS : va_S A s.heap H locs := by rw [eH, eL]; exact hS
  have goal : W p l e rmX8_refuseBad s m args below meth c H locs 0 0 Q (F0 m 0 ls []) := by
    refine lv_aload_n hx hb dX8_refuseBad_0 rfl (lv_at hl 0 rfl) ?_
    refine lv_dup hx hb dX8_refuseBad_1 rfl ?_
    refine wx_get C hP (q := 0) (ci := 8) (Nat.le_of_ble_eq_true rfl) (eC_0 _) (Cn := RX8) (T := TX8) (Nf := 11) rfl inX8_refuseBad_X8 8 (by decide) (List.mem_of_getElem? (i := 1) rfl) (v := .int (σ 0 8)) rfl dX8_refuseBad_2 ?_
    refine lv_iconst (v := 1) hx hb dX8_refuseBad_5 (by decide) ?_
    refine lv_iadd hx hb dX8_refuseBad_6 ?_
    refine wx_put C hP hD hS (q := 0) (ci := 8) (Nat.le_of_ble_eq_true rfl) (eC_0 _) (Cn := RX8) (T := TX8) (Nf := 11) rfl inX8_refuseBad_X8 tyX8 tyX8_ok nmX8 8 (by decide) (List.mem_of_getElem? (i := 1) rfl) rfl rfl (Nat.le_of_ble_eq_true rfl) rfl dX8_refuseBad_7 (fun H locs hP hD hS => ?_)
    generalize e_σ7 : wx_up σ 0 8 ((σ 0 8) + 1) = σ7 at hP hD
    have h := h σ7 e_σ7.symm
    refine lv_iload_n hx hb dX8_refuseBad_10 rfl (lv_at hl 1 rfl) ?_
    exact Rt _ _ _ _ _ _ h hP hD hS dX8_refuseBad_11
  rw [eH, eL] at goal
  exact goal
abbrev rmX8_code : Room := { frames := 5, cells := 0, slots := 0, locals := 128 }
set_option maxRecDepth 20000 in
theorem inX8_code_X1 : ∀ w ∈ u_ws RX1 TX1 5, w ∈ wsX8_code := by decide +kernel
set_option maxRecDepth 20000 in
theorem inX8_code_X5 : ∀ w ∈ u_ws RX5 TX5 3, w ∈ wsX8_code := by decide +kernel
set_option maxRecDepth 20000 in
theorem inX8_code_X8 : ∀ w ∈ u_ws RX8 TX8 11, w ∈ wsX8_code := by decide +kernel
theorem nyX4_keep : yX4_keep.cls = RX4 ∧ yX4_keep.cls ≠ "java/lang/invoke/MethodHandle" ∧ yX4_keep.cls ≠ "java/lang/invoke/VarHandle" ∧ (parseMethodDescriptor yX4_keep.desc).map (fun d => d.parameters.length) = some 1 := by decide +kernel
theorem nyX5_start : yX5_start.cls = RX5 ∧ yX5_start.cls ≠ "java/lang/invoke/MethodHandle" ∧ yX5_start.cls ≠ "java/lang/invoke/VarHandle" ∧ (parseMethodDescriptor yX5_start.desc).map (fun d => d.parameters.length) = some 2 := by decide +kernel
theorem nyX8_refuseBad : yX8_refuseBad.cls = RX8 ∧ yX8_refuseBad.cls ≠ "java/lang/invoke/MethodHandle" ∧ yX8_refuseBad.cls ≠ "java/lang/invoke/VarHandle" ∧ (parseMethodDescriptor yX8_refuseBad.desc).map (fun d => d.parameters.length) = some 1 := by decide +kernel
set_option maxRecDepth 100000 in
set_option maxHeartbeats 4000000 in
theorem mtX8_code {l : Launch} {D : va_G} {cI cB cS cR : ClassId} {ad : Nat → Nat} {tS tP : Nat} {kS vS : Nat → Nat} {sz : Nat} {σ : wx_Z} {x1 : Int32} {x2 : Int32} {K : Int32 → wx_Z → Prop} (h : wpX8_code σ x1 x2 K) : Met l yX8_code wsX8_code rmX8_code (wx_Pre D [(cI, .int), (cB, .byte), (cS, .object RX5), (cR, .array .int)] (wC_RO tS tP kS vS) 58 (wC_E cI cB cS cR ad) ad σ sz [.ref (ad 0), .int x1, .int x2]) (va_Qi K (wx_B D [(cI, .int), (cB, .byte), (cS, .object RX5), (cR, .array .int)] 58 (wC_E cI cB cS cR ad) ad (va_A (wx_w 58 (wC_E cI cB cS cR ad) ad σ) sz)) (va_A (wx_w 58 (wC_E cI cB cS cR ad) ad σ) sz)) 0 0 (va_A (wx_w 58 (wC_E cI cB cS cR ad) ad σ) sz) := by
  unfold wpX8_code at h
  refine wx_meti (cc := cX8_code) (maxL := 3) (own := RX8) rfl (by decide) rfl (Nat.le_of_ble_eq_true rfl) (wC_ROok tS tP kS vS) ?_
  intro p e s m args below meth c A Q ls C Rt hP hD hS hl
  obtain ⟨⟨hx, hb, hml, hown, hts⟩, hA, hK, hRO, hro⟩ := id C
  have hl : lv_has ls 3 [(0, .ref (ad 0)), (1, .int x1), (2, .int x2)] := hl
  obtain ⟨H, eH⟩ : ∃ z, z = s.heap := ⟨_, rfl⟩
  obtain ⟨locs, eL⟩ : ∃ z : List Loc, z = [] := ⟨_, rfl⟩
  rw [← eH] at hP
  have hS : va_S A s.heap H locs := by rw [eH, eL]; exact hS
  have goal : W p l e rmX8_code s m args below meth c H locs 0 0 Q (F0 m 0 ls []) := by
    refine lv_iload_n hx hb dX8_code_0 rfl (lv_at hl 2 rfl) ?_
    refine lv_if_lt (tgt := 18) hx hb dX8_code_1 (by decide) (fun c1 => ?_) (fun c1 => ?_)
    · have h := h.1 c1
      refine lv_aload_n hx hb dX8_code_18 rfl (lv_at hl 0 rfl) ?_
      refine lv_bipush (v := (-2)) hx hb dX8_code_19 (by decide) ?_
      refine wx_ci C hD hS (va_runV (As := [.int (-2)]) (rest := []) C.1 (mtX8_refuseBad (l := l) (D := D) (sz := H.size) h) (cwV 1 hts gX8_code_X8_refuseBad rfl rfl rfl nyX8_refuseBad ⟨Nat.le_of_ble_eq_true rfl, Nat.le_of_ble_eq_true rfl⟩) (wx_pv C hP hD hS (q := 0) (ci := 8) (Nat.le_of_ble_eq_true rfl) (eC_0 _) rfl) rfl rfl hl.1 rfl (lv_room (Nat.le_of_ble_eq_true rfl)) dX8_code_21 ⟨Nat.zero_le _, Nat.zero_le _⟩) (fun r21 σ21 H locs h hP hD hS => ?_)
      exact Rt _ _ _ _ _ _ h hP hD hS dX8_code_24
    · have h := h.2 c1
      refine lv_iload_n hx hb dX8_code_4 rfl (lv_at hl 2 rfl) ?_
      refine lv_iconst (v := 5) hx hb dX8_code_5 (by decide) ?_
      refine lv_icmp_gt (tgt := 18) hx hb dX8_code_6 (by decide) (fun c6 => ?_) (fun c6 => ?_)
      · have h := h.1 c6
        refine lv_aload_n hx hb dX8_code_18 rfl (lv_at hl 0 rfl) ?_
        refine lv_bipush (v := (-2)) hx hb dX8_code_19 (by decide) ?_
        refine wx_ci C hD hS (va_runV (As := [.int (-2)]) (rest := []) C.1 (mtX8_refuseBad (l := l) (D := D) (sz := H.size) h) (cwV 1 hts gX8_code_X8_refuseBad rfl rfl rfl nyX8_refuseBad ⟨Nat.le_of_ble_eq_true rfl, Nat.le_of_ble_eq_true rfl⟩) (wx_pv C hP hD hS (q := 0) (ci := 8) (Nat.le_of_ble_eq_true rfl) (eC_0 _) rfl) rfl rfl hl.1 rfl (lv_room (Nat.le_of_ble_eq_true rfl)) dX8_code_21 ⟨Nat.zero_le _, Nat.zero_le _⟩) (fun r21_1 σ21_1 H locs h hP hD hS => ?_)
        exact Rt _ _ _ _ _ _ h hP hD hS dX8_code_24
      · have h := h.2 c6
        refine lv_iload_n hx hb dX8_code_9 rfl (lv_at hl 1 rfl) ?_
        refine lv_if_lt (tgt := 18) hx hb dX8_code_10 (by decide) (fun c10 => ?_) (fun c10 => ?_)
        · have h := h.1 c10
          refine lv_aload_n hx hb dX8_code_18 rfl (lv_at hl 0 rfl) ?_
          refine lv_bipush (v := (-2)) hx hb dX8_code_19 (by decide) ?_
          refine wx_ci C hD hS (va_runV (As := [.int (-2)]) (rest := []) C.1 (mtX8_refuseBad (l := l) (D := D) (sz := H.size) h) (cwV 1 hts gX8_code_X8_refuseBad rfl rfl rfl nyX8_refuseBad ⟨Nat.le_of_ble_eq_true rfl, Nat.le_of_ble_eq_true rfl⟩) (wx_pv C hP hD hS (q := 0) (ci := 8) (Nat.le_of_ble_eq_true rfl) (eC_0 _) rfl) rfl rfl hl.1 rfl (lv_room (Nat.le_of_ble_eq_true rfl)) dX8_code_21 ⟨Nat.zero_le _, Nat.zero_le _⟩) (fun r21_2 σ21_2 H locs h hP hD hS => ?_)
          exact Rt _ _ _ _ _ _ h hP hD hS dX8_code_24
        · have h := h.2 c10
          refine lv_iload_n hx hb dX8_code_13 rfl (lv_at hl 1 rfl) ?_
          refine lv_iload_n hx hb dX8_code_14 rfl (lv_at hl 2 rfl) ?_
          refine lv_icmp_le (tgt := 25) hx hb dX8_code_15 (by decide) (fun c15 => ?_) (fun c15 => ?_)
          · have h := h.1 c15
            refine lv_aload_n hx hb dX8_code_25 rfl (lv_at hl 0 rfl) ?_
            refine wx_get C hP (q := 0) (ci := 8) (Nat.le_of_ble_eq_true rfl) (eC_0 _) (Cn := RX8) (T := TX8) (Nf := 11) rfl inX8_code_X8 2 (by decide) (List.mem_of_getElem? (i := 1) rfl) (v := .ref (ad 41)) rfl dX8_code_26 ?_
            refine lv_aload_n hx hb dX8_code_29 rfl (lv_at hl 0 rfl) ?_
            refine wx_get C hP (q := 0) (ci := 8) (Nat.le_of_ble_eq_true rfl) (eC_0 _) (Cn := RX8) (T := TX8) (Nf := 11) rfl inX8_code_X8 0 (by decide) (List.mem_of_getElem? (i := 2) rfl) (v := .ref (ad (cSt 0))) rfl dX8_code_30 ?_
            refine wx_cv C hD hS (va_runV (As := [.ref (ad (cSt 0))]) (rest := []) C.1 (mtX4_keep (l := l) (D := D) (sz := H.size) (Nat.le_of_ble_eq_true rfl) h) (cwV 1 hts gX8_code_X4_keep rfl rfl rfl nyX4_keep ⟨Nat.le_of_ble_eq_true rfl, Nat.le_of_ble_eq_true rfl⟩) (wx_pv C hP hD hS (q := 41) (ci := 4) (Nat.le_of_ble_eq_true rfl) (eC_41 _) rfl) rfl rfl hl.1 rfl (lv_room (Nat.le_of_ble_eq_true rfl)) dX8_code_33 ⟨Nat.zero_le _, Nat.zero_le _⟩) (fun σ33 H locs h hP hD hS => ?_)
            refine lv_aload_n hx hb dX8_code_36 rfl (lv_at hl 0 rfl) ?_
            refine wx_get C hP (q := 0) (ci := 8) (Nat.le_of_ble_eq_true rfl) (eC_0 _) (Cn := RX8) (T := TX8) (Nf := 11) rfl inX8_code_X8 0 (by decide) (List.mem_of_getElem? (i := 2) rfl) (v := .ref (ad (cSt 0))) rfl dX8_code_37 ?_
            refine lv_iload_n hx hb dX8_code_40 rfl (lv_at hl 1 rfl) ?_
            refine lv_iload_n hx hb dX8_code_41 rfl (lv_at hl 2 rfl) ?_
            refine wx_cv C hD hS (va_runV (As := [.int x1, .int x2]) (rest := []) C.1 (mtX5_start (l := l) (D := D) (sz := H.size) (Nat.le_of_ble_eq_true rfl) h) (cwV 2 hts gX8_code_X5_start rfl rfl rfl nyX5_start ⟨Nat.le_of_ble_eq_true rfl, Nat.le_of_ble_eq_true rfl⟩) (wx_pv C hP hD hS (q := (cSt 0)) (ci := 5) (lt_st (Nat.le_of_ble_eq_true rfl)) (eC_st (Nat.le_of_ble_eq_true rfl) _) rfl) rfl rfl hl.1 rfl (lv_room (Nat.le_of_ble_eq_true rfl)) dX8_code_42 ⟨Nat.zero_le _, Nat.zero_le _⟩) (fun σ42 H locs h hP hD hS => ?_)
            refine lv_aload_n hx hb dX8_code_45 rfl (lv_at hl 0 rfl) ?_
            refine wx_get C hP (q := 0) (ci := 8) (Nat.le_of_ble_eq_true rfl) (eC_0 _) (Cn := RX8) (T := TX8) (Nf := 11) rfl inX8_code_X8 0 (by decide) (List.mem_of_getElem? (i := 2) rfl) (v := .ref (ad (cSt 0))) rfl dX8_code_46 ?_
            refine wx_get C hP (q := (cSt 0)) (ci := 5) (lt_st (Nat.le_of_ble_eq_true rfl)) (eC_st (Nat.le_of_ble_eq_true rfl) _) (Cn := RX5) (T := TX5) (Nf := 3) rfl inX8_code_X5 0 (by decide) (List.mem_of_getElem? (i := 3) rfl) (v := .ref (ad (cCo 0))) rfl dX8_code_49 ?_
            refine wx_get C hP (q := (cCo 0)) (ci := 1) (lt_co (Nat.le_of_ble_eq_true rfl)) (eC_co (Nat.le_of_ble_eq_true rfl) _) (Cn := RX1) (T := TX1) (Nf := 5) rfl inX8_code_X1 3 (by decide) (List.mem_of_getElem? (i := 4) rfl) (v := .int (σ42 (cCo 0) 3)) rfl dX8_code_52 ?_
            exact Rt _ _ _ _ _ _ h hP hD hS dX8_code_55
          · have h := h.2 c15
            refine lv_aload_n hx hb dX8_code_18 rfl (lv_at hl 0 rfl) ?_
            refine lv_bipush (v := (-2)) hx hb dX8_code_19 (by decide) ?_
            refine wx_ci C hD hS (va_runV (As := [.int (-2)]) (rest := []) C.1 (mtX8_refuseBad (l := l) (D := D) (sz := H.size) h) (cwV 1 hts gX8_code_X8_refuseBad rfl rfl rfl nyX8_refuseBad ⟨Nat.le_of_ble_eq_true rfl, Nat.le_of_ble_eq_true rfl⟩) (wx_pv C hP hD hS (q := 0) (ci := 8) (Nat.le_of_ble_eq_true rfl) (eC_0 _) rfl) rfl rfl hl.1 rfl (lv_room (Nat.le_of_ble_eq_true rfl)) dX8_code_21 ⟨Nat.zero_le _, Nat.zero_le _⟩) (fun r21_3 σ21_3 H locs h hP hD hS => ?_)
            exact Rt _ _ _ _ _ _ h hP hD hS dX8_code_24
  rw [eH, eL] at goal
  exact goal
abbrev rmX8_of : Room := { frames := 2, cells := 0, slots := 0, locals := 61 }
set_option maxRecDepth 20000 in
theorem inX8_of_X1 : ∀ w ∈ u_ws RX1 TX1 5, w ∈ wsX8_of := by decide +kernel
set_option maxRecDepth 20000 in
theorem inX8_of_X5 : ∀ w ∈ u_ws RX5 TX5 3, w ∈ wsX8_of := by decide +kernel
set_option maxRecDepth 20000 in
theorem inX8_of_X8 : ∀ w ∈ u_ws RX8 TX8 11, w ∈ wsX8_of := by decide +kernel
theorem nyX1_distance : yX1_distance.cls = RX1 ∧ yX1_distance.cls ≠ "java/lang/invoke/MethodHandle" ∧ yX1_distance.cls ≠ "java/lang/invoke/VarHandle" ∧ (parseMethodDescriptor yX1_distance.desc).map (fun d => d.parameters.length) = some 0 := by decide +kernel
set_option maxRecDepth 100000 in
set_option maxHeartbeats 4000000 in
theorem mtX8_of {l : Launch} {D : va_G} {cI cB cS cR : ClassId} {ad : Nat → Nat} {tS tP : Nat} {kS vS : Nat → Nat} {sz : Nat} {σ : wx_Z} {x1 : Int32} {K : Int32 → wx_Z → Prop} (h : wpX8_of σ x1 K) : Met l yX8_of wsX8_of rmX8_of (wx_Pre D [(cI, .int), (cB, .byte), (cS, .object RX5), (cR, .array .int)] (wC_RO tS tP kS vS) 58 (wC_E cI cB cS cR ad) ad σ sz [.ref (ad 0), .int x1]) (va_Qi K (wx_B D [(cI, .int), (cB, .byte), (cS, .object RX5), (cR, .array .int)] 58 (wC_E cI cB cS cR ad) ad (va_A (wx_w 58 (wC_E cI cB cS cR ad) ad σ) sz)) (va_A (wx_w 58 (wC_E cI cB cS cR ad) ad σ) sz)) 0 0 (va_A (wx_w 58 (wC_E cI cB cS cR ad) ad σ) sz) := by
  unfold wpX8_of at h
  refine wx_meti (cc := cX8_of) (maxL := 3) (own := RX8) rfl (by decide) rfl (Nat.le_of_ble_eq_true rfl) (wC_ROok tS tP kS vS) ?_
  intro p e s m args below meth c A Q ls C Rt hP hD hS hl
  obtain ⟨⟨hx, hb, hml, hown, hts⟩, hA, hK, hRO, hro⟩ := id C
  have hl : lv_has ls 3 [(0, .ref (ad 0)), (1, .int x1)] := hl
  obtain ⟨H, eH⟩ : ∃ z, z = s.heap := ⟨_, rfl⟩
  obtain ⟨locs, eL⟩ : ∃ z : List Loc, z = [] := ⟨_, rfl⟩
  rw [← eH] at hP
  have hS : va_S A s.heap H locs := by rw [eH, eL]; exact hS
  have goal : W p l e rmX8_of s m args below meth c H locs 0 0 Q (F0 m 0 ls []) := by
    refine lv_aload_n hx hb dX8_of_0 rfl (lv_at hl 0 rfl) ?_
    refine wx_get C hP (q := 0) (ci := 8) (Nat.le_of_ble_eq_true rfl) (eC_0 _) (Cn := RX8) (T := TX8) (Nf := 11) rfl inX8_of_X8 0 (by decide) (List.mem_of_getElem? (i := 1) rfl) (v := .ref (ad (cSt 0))) rfl dX8_of_1 ?_
    refine wx_get C hP (q := (cSt 0)) (ci := 5) (lt_st (Nat.le_of_ble_eq_true rfl)) (eC_st (Nat.le_of_ble_eq_true rfl) _) (Cn := RX5) (T := TX5) (Nf := 3) rfl inX8_of_X5 0 (by decide) (List.mem_of_getElem? (i := 2) rfl) (v := .ref (ad (cCo 0))) rfl dX8_of_4 ?_
    refine lv_astore_n (lv' := [(2, .ref (ad (cCo 0))), (0, .ref (ad 0)), (1, .int x1)]) hx hb dX8_of_7 rfl hl (by decide) rfl (fun ls hl => ?_)
    refine lv_iload_n hx hb dX8_of_8 rfl (lv_at hl 2 rfl) ?_
    by_cases q1 : x1 = 0
    · have h := h.1 q1
      refine lv_tableIn (tgt := 48) hx hb dX8_of_9 (by rw [q1]; decide) (by rw [q1]; decide) (by rw [q1]; try rfl) (by decide) ?_
      refine lv_aload_n hx hb dX8_of_48 rfl (lv_at hl 0 rfl) ?_
      refine wx_get C hP (q := (cCo 0)) (ci := 1) (lt_co (Nat.le_of_ble_eq_true rfl)) (eC_co (Nat.le_of_ble_eq_true rfl) _) (Cn := RX1) (T := TX1) (Nf := 5) rfl inX8_of_X1 0 (by decide) (List.mem_of_getElem? (i := 3) rfl) (v := .int (σ (cCo 0) 0)) rfl dX8_of_49 ?_
      exact Rt _ _ _ _ _ _ h hP hD hS dX8_of_52
    by_cases q2 : x1 = 1
    · have h := h.2.1 q2
      refine lv_tableIn (tgt := 53) hx hb dX8_of_9 (by rw [q2]; decide) (by rw [q2]; decide) (by rw [q2]; try rfl) (by decide) ?_
      refine lv_aload_n hx hb dX8_of_53 rfl (lv_at hl 0 rfl) ?_
      refine wx_get C hP (q := (cCo 0)) (ci := 1) (lt_co (Nat.le_of_ble_eq_true rfl)) (eC_co (Nat.le_of_ble_eq_true rfl) _) (Cn := RX1) (T := TX1) (Nf := 5) rfl inX8_of_X1 1 (by decide) (List.mem_of_getElem? (i := 4) rfl) (v := .int (σ (cCo 0) 1)) rfl dX8_of_54 ?_
      exact Rt _ _ _ _ _ _ h hP hD hS dX8_of_57
    by_cases q3 : x1 = 2
    · have h := h.2.2.1 q3
      refine lv_tableIn (tgt := 58) hx hb dX8_of_9 (by rw [q3]; decide) (by rw [q3]; decide) (by rw [q3]; try rfl) (by decide) ?_
      refine lv_aload_n hx hb dX8_of_58 rfl (lv_at hl 0 rfl) ?_
      refine wx_get C hP (q := (cCo 0)) (ci := 1) (lt_co (Nat.le_of_ble_eq_true rfl)) (eC_co (Nat.le_of_ble_eq_true rfl) _) (Cn := RX1) (T := TX1) (Nf := 5) rfl inX8_of_X1 3 (by decide) (List.mem_of_getElem? (i := 5) rfl) (v := .int (σ (cCo 0) 3)) rfl dX8_of_59 ?_
      exact Rt _ _ _ _ _ _ h hP hD hS dX8_of_62
    by_cases q4 : x1 = 3
    · have h := h.2.2.2.1 q4
      refine lv_tableIn (tgt := 63) hx hb dX8_of_9 (by rw [q4]; decide) (by rw [q4]; decide) (by rw [q4]; try rfl) (by decide) ?_
      refine lv_aload_n hx hb dX8_of_63 rfl (lv_at hl 0 rfl) ?_
      refine wx_ci C hD hS (va_runV (As := []) (rest := []) C.1 (mtX1_distance (l := l) (D := D) (sz := H.size) (Nat.le_of_ble_eq_true rfl) h) (cwV 0 hts gX8_of_X1_distance rfl rfl rfl nyX1_distance ⟨Nat.le_of_ble_eq_true rfl, Nat.le_of_ble_eq_true rfl⟩) (wx_pv C hP hD hS (q := (cCo 0)) (ci := 1) (lt_co (Nat.le_of_ble_eq_true rfl)) (eC_co (Nat.le_of_ble_eq_true rfl) _) rfl) rfl rfl hl.1 rfl (lv_room (Nat.le_of_ble_eq_true rfl)) dX8_of_64 ⟨Nat.zero_le _, Nat.zero_le _⟩) (fun r64 σ64 H locs h hP hD hS => ?_)
      exact Rt _ _ _ _ _ _ h hP hD hS dX8_of_67
    by_cases q5 : x1 = 4
    · have h := h.2.2.2.2.1 q5
      refine lv_tableIn (tgt := 68) hx hb dX8_of_9 (by rw [q5]; decide) (by rw [q5]; decide) (by rw [q5]; try rfl) (by decide) ?_
      refine lv_aload_n hx hb dX8_of_68 rfl (lv_at hl 0 rfl) ?_
      refine wx_get C hP (q := (cCo 0)) (ci := 1) (lt_co (Nat.le_of_ble_eq_true rfl)) (eC_co (Nat.le_of_ble_eq_true rfl) _) (Cn := RX1) (T := TX1) (Nf := 5) rfl inX8_of_X1 2 (by decide) (List.mem_of_getElem? (i := 6) rfl) (v := .int (σ (cCo 0) 2)) rfl dX8_of_69 ?_
      exact Rt _ _ _ _ _ _ h hP hD hS dX8_of_72
    by_cases q6 : x1 = 5
    · have h := h.2.2.2.2.2.1 q6
      refine lv_tableIn (tgt := 73) hx hb dX8_of_9 (by rw [q6]; decide) (by rw [q6]; decide) (by rw [q6]; try rfl) (by decide) ?_
      refine lv_aload_n hx hb dX8_of_73 rfl (lv_at hl 0 rfl) ?_
      refine wx_ci C hD hS (va_runV (As := []) (rest := []) C.1 (mtX1_distance (l := l) (D := D) (sz := H.size) (Nat.le_of_ble_eq_true rfl) h) (cwV 0 hts gX8_of_X1_distance rfl rfl rfl nyX1_distance ⟨Nat.le_of_ble_eq_true rfl, Nat.le_of_ble_eq_true rfl⟩) (wx_pv C hP hD hS (q := (cCo 0)) (ci := 1) (lt_co (Nat.le_of_ble_eq_true rfl)) (eC_co (Nat.le_of_ble_eq_true rfl) _) rfl) rfl rfl hl.1 rfl (lv_room (Nat.le_of_ble_eq_true rfl)) dX8_of_74 ⟨Nat.zero_le _, Nat.zero_le _⟩) (fun r74 σ74 H locs h hP hD hS => ?_)
      refine lv_iconst (v := 1) hx hb dX8_of_77 (by decide) ?_
      refine lv_isub hx hb dX8_of_78 ?_
      refine lv_iconst (v := 2) hx hb dX8_of_79 (by decide) ?_
      refine lv_idiv hx hb dX8_of_80 h.1 ?_
      have h := h.2
      exact Rt _ _ _ _ _ _ h hP hD hS dX8_of_81
    have h := h.2.2.2.2.2.2 q1 q2 q3 q4 q5 q6
    have z1 := lv_neT q1 (show (0 : Int32).toInt = 0 from by decide)
    have z2 := lv_neT q2 (show (1 : Int32).toInt = 1 from by decide)
    have z3 := lv_neT q3 (show (2 : Int32).toInt = 2 from by decide)
    have z4 := lv_neT q4 (show (3 : Int32).toInt = 3 from by decide)
    have z5 := lv_neT q5 (show (4 : Int32).toInt = 4 from by decide)
    have z6 := lv_neT q6 (show (5 : Int32).toInt = 5 from by decide)
    refine lv_tableOut (tgt := 82) hx hb dX8_of_9 (by omega) (by decide) ?_
    refine lv_aload_n hx hb dX8_of_82 rfl (lv_at hl 1 rfl) ?_
    refine lv_bipush (v := (-2)) hx hb dX8_of_83 (by decide) ?_
    refine wx_ci C hD hS (va_runV (As := [.int (-2)]) (rest := []) C.1 (mtX8_refuseBad (l := l) (D := D) (sz := H.size) h) (cwV 1 hts gX8_of_X8_refuseBad rfl rfl rfl nyX8_refuseBad ⟨Nat.le_of_ble_eq_true rfl, Nat.le_of_ble_eq_true rfl⟩) (wx_pv C hP hD hS (q := 0) (ci := 8) (Nat.le_of_ble_eq_true rfl) (eC_0 _) rfl) rfl rfl hl.1 rfl (lv_room (Nat.le_of_ble_eq_true rfl)) dX8_of_85 ⟨Nat.zero_le _, Nat.zero_le _⟩) (fun r85 σ85 H locs h hP hD hS => ?_)
    exact Rt _ _ _ _ _ _ h hP hD hS dX8_of_88
  rw [eH, eL] at goal
  exact goal
abbrev rmX8_term : Room := { frames := 2, cells := 0, slots := 0, locals := 61 }
set_option maxRecDepth 20000 in
theorem inX8_term_X1 : ∀ w ∈ u_ws RX1 TX1 5, w ∈ wsX8_term := by decide +kernel
set_option maxRecDepth 20000 in
theorem inX8_term_X5 : ∀ w ∈ u_ws RX5 TX5 3, w ∈ wsX8_term := by decide +kernel
set_option maxRecDepth 20000 in
theorem inX8_term_X8 : ∀ w ∈ u_ws RX8 TX8 11, w ∈ wsX8_term := by decide +kernel
set_option maxRecDepth 100000 in
set_option maxHeartbeats 4000000 in
theorem mtX8_term {l : Launch} {D : va_G} {cI cB cS cR : ClassId} {ad : Nat → Nat} {tS tP : Nat} {kS vS : Nat → Nat} {sz : Nat} {σ : wx_Z} {x1 : Int32} {K : Int32 → wx_Z → Prop} (h : wpX8_term σ x1 K) : Met l yX8_term wsX8_term rmX8_term (wx_Pre D [(cI, .int), (cB, .byte), (cS, .object RX5), (cR, .array .int)] (wC_RO tS tP kS vS) 58 (wC_E cI cB cS cR ad) ad σ sz [.ref (ad 0), .int x1]) (va_Qi K (wx_B D [(cI, .int), (cB, .byte), (cS, .object RX5), (cR, .array .int)] 58 (wC_E cI cB cS cR ad) ad (va_A (wx_w 58 (wC_E cI cB cS cR ad) ad σ) sz)) (va_A (wx_w 58 (wC_E cI cB cS cR ad) ad σ) sz)) 0 0 (va_A (wx_w 58 (wC_E cI cB cS cR ad) ad σ) sz) := by
  unfold wpX8_term at h
  refine wx_meti (cc := cX8_term) (maxL := 2) (own := RX8) rfl (by decide) rfl (Nat.le_of_ble_eq_true rfl) (wC_ROok tS tP kS vS) ?_
  intro p e s m args below meth c A Q ls C Rt hP hD hS hl
  obtain ⟨⟨hx, hb, hml, hown, hts⟩, hA, hK, hRO, hro⟩ := id C
  have hl : lv_has ls 2 [(0, .ref (ad 0)), (1, .int x1)] := hl
  obtain ⟨H, eH⟩ : ∃ z, z = s.heap := ⟨_, rfl⟩
  obtain ⟨locs, eL⟩ : ∃ z : List Loc, z = [] := ⟨_, rfl⟩
  rw [← eH] at hP
  have hS : va_S A s.heap H locs := by rw [eH, eL]; exact hS
  have goal : W p l e rmX8_term s m args below meth c H locs 0 0 Q (F0 m 0 ls []) := by
    refine lv_iload_n hx hb dX8_term_0 rfl (lv_at hl 1 rfl) ?_
    refine lv_if_ge (tgt := 11) hx hb dX8_term_1 (by decide) (fun c1 => ?_) (fun c1 => ?_)
    · have h := h.1 c1
      refine lv_iload_n hx hb dX8_term_11 rfl (lv_at hl 1 rfl) ?_
      refine lv_aload_n hx hb dX8_term_12 rfl (lv_at hl 0 rfl) ?_
      refine wx_get C hP (q := 0) (ci := 8) (Nat.le_of_ble_eq_true rfl) (eC_0 _) (Cn := RX8) (T := TX8) (Nf := 11) rfl inX8_term_X8 0 (by decide) (List.mem_of_getElem? (i := 1) rfl) (v := .ref (ad (cSt 0))) rfl dX8_term_13 ?_
      refine wx_get C hP (q := (cSt 0)) (ci := 5) (lt_st (Nat.le_of_ble_eq_true rfl)) (eC_st (Nat.le_of_ble_eq_true rfl) _) (Cn := RX5) (T := TX5) (Nf := 3) rfl inX8_term_X5 0 (by decide) (List.mem_of_getElem? (i := 2) rfl) (v := .ref (ad (cCo 0))) rfl dX8_term_16 ?_
      refine wx_get C hP (q := (cCo 0)) (ci := 1) (lt_co (Nat.le_of_ble_eq_true rfl)) (eC_co (Nat.le_of_ble_eq_true rfl) _) (Cn := RX1) (T := TX1) (Nf := 5) rfl inX8_term_X1 3 (by decide) (List.mem_of_getElem? (i := 3) rfl) (v := .int (σ (cCo 0) 3)) rfl dX8_term_19 ?_
      refine lv_icmp_ge (tgt := 40) hx hb dX8_term_22 (by decide) (fun c22 => ?_) (fun c22 => ?_)
      · have h := h.1 c22
        refine lv_iconst (v := (-1)) hx hb dX8_term_40 (by decide) ?_
        exact Rt _ _ _ _ _ _ h hP hD hS dX8_term_41
      · have h := h.2 c22
        refine lv_aload_n hx hb dX8_term_25 rfl (lv_at hl 0 rfl) ?_
        refine wx_get C hP (q := 0) (ci := 8) (Nat.le_of_ble_eq_true rfl) (eC_0 _) (Cn := RX8) (T := TX8) (Nf := 11) rfl inX8_term_X8 0 (by decide) (List.mem_of_getElem? (i := 1) rfl) (v := .ref (ad (cSt 0))) rfl dX8_term_26 ?_
        refine wx_get C hP (q := (cSt 0)) (ci := 5) (lt_st (Nat.le_of_ble_eq_true rfl)) (eC_st (Nat.le_of_ble_eq_true rfl) _) (Cn := RX5) (T := TX5) (Nf := 3) rfl inX8_term_X5 0 (by decide) (List.mem_of_getElem? (i := 2) rfl) (v := .ref (ad (cCo 0))) rfl dX8_term_29 ?_
        refine wx_get C hP (q := (cCo 0)) (ci := 1) (lt_co (Nat.le_of_ble_eq_true rfl)) (eC_co (Nat.le_of_ble_eq_true rfl) _) (Cn := RX1) (T := TX1) (Nf := 5) rfl inX8_term_X1 4 (by decide) (List.mem_of_getElem? (i := 4) rfl) (v := .ref (ad (cTe 0))) rfl dX8_term_32 ?_
        refine lv_iload_n hx hb dX8_term_35 rfl (lv_at hl 1 rfl) ?_
        refine wx_ild C hP (q := (cTe 0)) (lt_te (Nat.le_of_ble_eq_true rfl)) (eC_te (Nat.le_of_ble_eq_true rfl)) 0 rfl h.1 dX8_term_36 ?_
        have h := h.2
        refine lv_goto (tgt := 41) hx hb dX8_term_37 (by decide) ?_
        exact Rt _ _ _ _ _ _ h hP hD hS dX8_term_41
    · have h := h.2 c1
      refine lv_aload_n hx hb dX8_term_4 rfl (lv_at hl 0 rfl) ?_
      refine lv_bipush (v := (-2)) hx hb dX8_term_5 (by decide) ?_
      refine wx_ci C hD hS (va_runV (As := [.int (-2)]) (rest := []) C.1 (mtX8_refuseBad (l := l) (D := D) (sz := H.size) h) (cwV 1 hts gX8_term_X8_refuseBad rfl rfl rfl nyX8_refuseBad ⟨Nat.le_of_ble_eq_true rfl, Nat.le_of_ble_eq_true rfl⟩) (wx_pv C hP hD hS (q := 0) (ci := 8) (Nat.le_of_ble_eq_true rfl) (eC_0 _) rfl) rfl rfl hl.1 rfl (lv_room (Nat.le_of_ble_eq_true rfl)) dX8_term_7 ⟨Nat.zero_le _, Nat.zero_le _⟩) (fun r7 σ7 H locs h hP hD hS => ?_)
      exact Rt _ _ _ _ _ _ h hP hD hS dX8_term_10
  rw [eH, eL] at goal
  exact goal
abbrev rmX8_word : Room := { frames := 5, cells := 0, slots := 0, locals := 128 }
set_option maxRecDepth 20000 in
theorem inX8_word_X5 : ∀ w ∈ u_ws RX5 TX5 3, w ∈ wsX8_word := by decide +kernel
set_option maxRecDepth 20000 in
theorem inX8_word_X8 : ∀ w ∈ u_ws RX8 TX8 11, w ∈ wsX8_word := by decide +kernel
theorem nyX1_allPlaces : yX1_allPlaces.cls = RX1 ∧ yX1_allPlaces.cls ≠ "java/lang/invoke/MethodHandle" ∧ yX1_allPlaces.cls ≠ "java/lang/invoke/VarHandle" ∧ (parseMethodDescriptor yX1_allPlaces.desc).map (fun d => d.parameters.length) = some 0 := by decide +kernel
set_option maxRecDepth 100000 in
set_option maxHeartbeats 4000000 in
theorem mtX8_word {l : Launch} {D : va_G} {cI cB cS cR : ClassId} {ad : Nat → Nat} {tS tP : Nat} {kS vS : Nat → Nat} {sz : Nat} {σ : wx_Z} {x1 : Int32} {K : Int32 → wx_Z → Prop} (h : wpX8_word σ x1 K) : Met l yX8_word wsX8_word rmX8_word (wx_Pre D [(cI, .int), (cB, .byte), (cS, .object RX5), (cR, .array .int)] (wC_RO tS tP kS vS) 58 (wC_E cI cB cS cR ad) ad σ sz [.ref (ad 0), .int x1]) (va_Qi K (wx_B D [(cI, .int), (cB, .byte), (cS, .object RX5), (cR, .array .int)] 58 (wC_E cI cB cS cR ad) ad (va_A (wx_w 58 (wC_E cI cB cS cR ad) ad σ) sz)) (va_A (wx_w 58 (wC_E cI cB cS cR ad) ad σ) sz)) 0 0 (va_A (wx_w 58 (wC_E cI cB cS cR ad) ad σ) sz) := by
  unfold wpX8_word at h
  refine wx_meti (cc := cX8_word) (maxL := 2) (own := RX8) rfl (by decide) rfl (Nat.le_of_ble_eq_true rfl) (wC_ROok tS tP kS vS) ?_
  intro p e s m args below meth c A Q ls C Rt hP hD hS hl
  obtain ⟨⟨hx, hb, hml, hown, hts⟩, hA, hK, hRO, hro⟩ := id C
  have hl : lv_has ls 2 [(0, .ref (ad 0)), (1, .int x1)] := hl
  obtain ⟨H, eH⟩ : ∃ z, z = s.heap := ⟨_, rfl⟩
  obtain ⟨locs, eL⟩ : ∃ z : List Loc, z = [] := ⟨_, rfl⟩
  rw [← eH] at hP
  have hS : va_S A s.heap H locs := by rw [eH, eL]; exact hS
  have goal : W p l e rmX8_word s m args below meth c H locs 0 0 Q (F0 m 0 ls []) := by
    refine lv_iload_n hx hb dX8_word_0 rfl (lv_at hl 1 rfl) ?_
    refine lv_aload_n hx hb dX8_word_1 rfl (lv_at hl 0 rfl) ?_
    refine wx_get C hP (q := 0) (ci := 8) (Nat.le_of_ble_eq_true rfl) (eC_0 _) (Cn := RX8) (T := TX8) (Nf := 11) rfl inX8_word_X8 0 (by decide) (List.mem_of_getElem? (i := 1) rfl) (v := .ref (ad (cSt 0))) rfl dX8_word_2 ?_
    refine wx_get C hP (q := (cSt 0)) (ci := 5) (lt_st (Nat.le_of_ble_eq_true rfl)) (eC_st (Nat.le_of_ble_eq_true rfl) _) (Cn := RX5) (T := TX5) (Nf := 3) rfl inX8_word_X5 0 (by decide) (List.mem_of_getElem? (i := 2) rfl) (v := .ref (ad (cCo 0))) rfl dX8_word_5 ?_
    refine wx_ci C hD hS (va_runV (As := []) (rest := [.int x1]) C.1 (mtX1_allPlaces (l := l) (D := D) (sz := H.size) (Nat.le_of_ble_eq_true rfl) h) (cwV 0 hts gX8_word_X1_allPlaces rfl rfl rfl nyX1_allPlaces ⟨Nat.le_of_ble_eq_true rfl, Nat.le_of_ble_eq_true rfl⟩) (wx_pv C hP hD hS (q := (cCo 0)) (ci := 1) (lt_co (Nat.le_of_ble_eq_true rfl)) (eC_co (Nat.le_of_ble_eq_true rfl) _) rfl) rfl rfl hl.1 rfl (lv_room (Nat.le_of_ble_eq_true rfl)) dX8_word_8 ⟨Nat.zero_le _, Nat.zero_le _⟩) (fun r8 σ8 H locs h hP hD hS => ?_)
    refine lv_iconst (v := (-1)) hx hb dX8_word_11 (by decide) ?_
    refine lv_ixor hx hb dX8_word_12 ?_
    refine lv_iand hx hb dX8_word_13 ?_
    refine lv_if_eq (tgt := 24) hx hb dX8_word_14 (by decide) (fun c14 => ?_) (fun c14 => ?_)
    · have h := h.1 c14
      refine lv_aload_n hx hb dX8_word_24 rfl (lv_at hl 0 rfl) ?_
      refine wx_get C hP (q := 0) (ci := 8) (Nat.le_of_ble_eq_true rfl) (eC_0 _) (Cn := RX8) (T := TX8) (Nf := 11) rfl inX8_word_X8 2 (by decide) (List.mem_of_getElem? (i := 3) rfl) (v := .ref (ad 41)) rfl dX8_word_25 ?_
      refine lv_aload_n hx hb dX8_word_28 rfl (lv_at hl 0 rfl) ?_
      refine wx_get C hP (q := 0) (ci := 8) (Nat.le_of_ble_eq_true rfl) (eC_0 _) (Cn := RX8) (T := TX8) (Nf := 11) rfl inX8_word_X8 0 (by decide) (List.mem_of_getElem? (i := 1) rfl) (v := .ref (ad (cSt 0))) rfl dX8_word_29 ?_
      refine wx_cv C hD hS (va_runV (As := [.ref (ad (cSt 0))]) (rest := []) C.1 (mtX4_keep (l := l) (D := D) (sz := H.size) (Nat.le_of_ble_eq_true rfl) h) (cwV 1 hts gX8_word_X4_keep rfl rfl rfl nyX4_keep ⟨Nat.le_of_ble_eq_true rfl, Nat.le_of_ble_eq_true rfl⟩) (wx_pv C hP hD hS (q := 41) (ci := 4) (Nat.le_of_ble_eq_true rfl) (eC_41 _) rfl) rfl rfl hl.1 rfl (lv_room (Nat.le_of_ble_eq_true rfl)) dX8_word_32 ⟨Nat.zero_le _, Nat.zero_le _⟩) (fun σ32 H locs h hP hD hS => ?_)
      refine lv_aload_n hx hb dX8_word_35 rfl (lv_at hl 0 rfl) ?_
      refine wx_get C hP (q := 0) (ci := 8) (Nat.le_of_ble_eq_true rfl) (eC_0 _) (Cn := RX8) (T := TX8) (Nf := 11) rfl inX8_word_X8 0 (by decide) (List.mem_of_getElem? (i := 1) rfl) (v := .ref (ad (cSt 0))) rfl dX8_word_36 ?_
      refine lv_iload_n hx hb dX8_word_39 rfl (lv_at hl 1 rfl) ?_
      refine wx_put C hP hD hS (q := (cSt 0)) (ci := 5) (lt_st (Nat.le_of_ble_eq_true rfl)) (eC_st (Nat.le_of_ble_eq_true rfl) _) (Cn := RX5) (T := TX5) (Nf := 3) rfl inX8_word_X5 tyX5 tyX5_ok nmX5 2 (by decide) (List.mem_of_getElem? (i := 4) rfl) rfl rfl (Nat.le_of_ble_eq_true rfl) (eC_st (Nat.le_of_ble_eq_true rfl) _) dX8_word_40 (fun H locs hP hD hS => ?_)
      generalize e_σ40 : wx_up σ32 (cSt 0) 2 x1 = σ40 at hP hD
      have h := h σ40 e_σ40.symm
      refine lv_iconst (v := 1) hx hb dX8_word_43 (by decide) ?_
      exact Rt _ _ _ _ _ _ h hP hD hS dX8_word_44
    · have h := h.2 c14
      refine lv_aload_n hx hb dX8_word_17 rfl (lv_at hl 0 rfl) ?_
      refine lv_bipush (v := (-2)) hx hb dX8_word_18 (by decide) ?_
      refine wx_ci C hD hS (va_runV (As := [.int (-2)]) (rest := []) C.1 (mtX8_refuseBad (l := l) (D := D) (sz := H.size) h) (cwV 1 hts gX8_word_X8_refuseBad rfl rfl rfl nyX8_refuseBad ⟨Nat.le_of_ble_eq_true rfl, Nat.le_of_ble_eq_true rfl⟩) (wx_pv C hP hD hS (q := 0) (ci := 8) (Nat.le_of_ble_eq_true rfl) (eC_0 _) rfl) rfl rfl hl.1 rfl (lv_room (Nat.le_of_ble_eq_true rfl)) dX8_word_20 ⟨Nat.zero_le _, Nat.zero_le _⟩) (fun r20 σ20 H locs h hP hD hS => ?_)
      exact Rt _ _ _ _ _ _ h hP hD hS dX8_word_23
  rw [eH, eL] at goal
  exact goal
abbrev rmX8_weight : Room := { frames := 2, cells := 0, slots := 0, locals := 60 }
set_option maxRecDepth 20000 in
theorem inX8_weight_X5 : ∀ w ∈ u_ws RX5 TX5 3, w ∈ wsX8_weight := by decide +kernel
set_option maxRecDepth 20000 in
theorem inX8_weight_X8 : ∀ w ∈ u_ws RX8 TX8 11, w ∈ wsX8_weight := by decide +kernel
set_option maxRecDepth 100000 in
set_option maxHeartbeats 4000000 in
theorem mtX8_weight {l : Launch} {D : va_G} {cI cB cS cR : ClassId} {ad : Nat → Nat} {tS tP : Nat} {kS vS : Nat → Nat} {sz : Nat} {σ : wx_Z} {K : Int32 → wx_Z → Prop} (h : wpX8_weight σ K) : Met l yX8_weight wsX8_weight rmX8_weight (wx_Pre D [(cI, .int), (cB, .byte), (cS, .object RX5), (cR, .array .int)] (wC_RO tS tP kS vS) 58 (wC_E cI cB cS cR ad) ad σ sz [.ref (ad 0)]) (va_Qi K (wx_B D [(cI, .int), (cB, .byte), (cS, .object RX5), (cR, .array .int)] 58 (wC_E cI cB cS cR ad) ad (va_A (wx_w 58 (wC_E cI cB cS cR ad) ad σ) sz)) (va_A (wx_w 58 (wC_E cI cB cS cR ad) ad σ) sz)) 0 0 (va_A (wx_w 58 (wC_E cI cB cS cR ad) ad σ) sz) := by
  unfold wpX8_weight at h
  refine wx_meti (cc := cX8_weight) (maxL := 1) (own := RX8) rfl (by decide) rfl (Nat.le_of_ble_eq_true rfl) (wC_ROok tS tP kS vS) ?_
  intro p e s m args below meth c A Q ls C Rt hP hD hS hl
  obtain ⟨⟨hx, hb, hml, hown, hts⟩, hA, hK, hRO, hro⟩ := id C
  have hl : lv_has ls 1 [(0, .ref (ad 0))] := hl
  obtain ⟨H, eH⟩ : ∃ z, z = s.heap := ⟨_, rfl⟩
  obtain ⟨locs, eL⟩ : ∃ z : List Loc, z = [] := ⟨_, rfl⟩
  rw [← eH] at hP
  have hS : va_S A s.heap H locs := by rw [eH, eL]; exact hS
  have goal : W p l e rmX8_weight s m args below meth c H locs 0 0 Q (F0 m 0 ls []) := by
    refine lv_aload_n hx hb dX8_weight_0 rfl (lv_at hl 0 rfl) ?_
    refine wx_get C hP (q := 0) (ci := 8) (Nat.le_of_ble_eq_true rfl) (eC_0 _) (Cn := RX8) (T := TX8) (Nf := 11) rfl inX8_weight_X8 0 (by decide) (List.mem_of_getElem? (i := 1) rfl) (v := .ref (ad (cSt 0))) rfl dX8_weight_1 ?_
    refine wx_get C hP (q := (cSt 0)) (ci := 5) (lt_st (Nat.le_of_ble_eq_true rfl)) (eC_st (Nat.le_of_ble_eq_true rfl) _) (Cn := RX5) (T := TX5) (Nf := 3) rfl inX8_weight_X5 2 (by decide) (List.mem_of_getElem? (i := 2) rfl) (v := .int (σ (cSt 0) 2)) rfl dX8_weight_4 ?_
    refine wx_ci C hD hS (va_runS (As := [.int (σ (cSt 0) 2)]) (rest := []) C.1 (mtJ6_bitCount_0f7a4 (l := l) (D := D) (sz := H.size) h) (va_cwS 1 hts gX8_weight_J6_bitCount_0f7a4 rfl rfl rfl nyJ6_bitCount_0f7a4.2 ⟨Nat.le_of_ble_eq_true rfl, Nat.le_of_ble_eq_true rfl⟩) (wx_ps C hP hD hS) rfl rfl hl.1 rfl (lv_room (Nat.le_of_ble_eq_true rfl)) dX8_weight_7 ⟨Nat.zero_le _, Nat.zero_le _⟩) (fun r7 σ7 H locs h hP hD hS => ?_)
    exact Rt _ _ _ _ _ _ h hP hD hS dX8_weight_10
  rw [eH, eL] at goal
  exact goal
abbrev rmX8_encode : Room := { frames := 5, cells := 0, slots := 0, locals := 128 }
set_option maxRecDepth 20000 in
theorem inX8_encode_X5 : ∀ w ∈ u_ws RX5 TX5 3, w ∈ wsX8_encode := by decide +kernel
set_option maxRecDepth 20000 in
theorem inX8_encode_X8 : ∀ w ∈ u_ws RX8 TX8 11, w ∈ wsX8_encode := by decide +kernel
theorem nyX1_allTerms : yX1_allTerms.cls = RX1 ∧ yX1_allTerms.cls ≠ "java/lang/invoke/MethodHandle" ∧ yX1_allTerms.cls ≠ "java/lang/invoke/VarHandle" ∧ (parseMethodDescriptor yX1_allTerms.desc).map (fun d => d.parameters.length) = some 0 := by decide +kernel
theorem nyX1_wordOf : yX1_wordOf.cls = RX1 ∧ yX1_wordOf.cls ≠ "java/lang/invoke/MethodHandle" ∧ yX1_wordOf.cls ≠ "java/lang/invoke/VarHandle" ∧ (parseMethodDescriptor yX1_wordOf.desc).map (fun d => d.parameters.length) = some 1 := by decide +kernel
theorem nyX8_weight : yX8_weight.cls = RX8 ∧ yX8_weight.cls ≠ "java/lang/invoke/MethodHandle" ∧ yX8_weight.cls ≠ "java/lang/invoke/VarHandle" ∧ (parseMethodDescriptor yX8_weight.desc).map (fun d => d.parameters.length) = some 0 := by decide +kernel
set_option maxRecDepth 100000 in
set_option maxHeartbeats 4000000 in
theorem mtX8_encode {l : Launch} {D : va_G} {cI cB cS cR : ClassId} {ad : Nat → Nat} {tS tP : Nat} {kS vS : Nat → Nat} {sz : Nat} {σ : wx_Z} {x1 : Int32} {K : Int32 → wx_Z → Prop} (h : wpX8_encode σ x1 K) : Met l yX8_encode wsX8_encode rmX8_encode (wx_Pre D [(cI, .int), (cB, .byte), (cS, .object RX5), (cR, .array .int)] (wC_RO tS tP kS vS) 58 (wC_E cI cB cS cR ad) ad σ sz [.ref (ad 0), .int x1]) (va_Qi K (wx_B D [(cI, .int), (cB, .byte), (cS, .object RX5), (cR, .array .int)] 58 (wC_E cI cB cS cR ad) ad (va_A (wx_w 58 (wC_E cI cB cS cR ad) ad σ) sz)) (va_A (wx_w 58 (wC_E cI cB cS cR ad) ad σ) sz)) 0 0 (va_A (wx_w 58 (wC_E cI cB cS cR ad) ad σ) sz) := by
  unfold wpX8_encode at h
  refine wx_meti (cc := cX8_encode) (maxL := 2) (own := RX8) rfl (by decide) rfl (Nat.le_of_ble_eq_true rfl) (wC_ROok tS tP kS vS) ?_
  intro p e s m args below meth c A Q ls C Rt hP hD hS hl
  obtain ⟨⟨hx, hb, hml, hown, hts⟩, hA, hK, hRO, hro⟩ := id C
  have hl : lv_has ls 2 [(0, .ref (ad 0)), (1, .int x1)] := hl
  obtain ⟨H, eH⟩ : ∃ z, z = s.heap := ⟨_, rfl⟩
  obtain ⟨locs, eL⟩ : ∃ z : List Loc, z = [] := ⟨_, rfl⟩
  rw [← eH] at hP
  have hS : va_S A s.heap H locs := by rw [eH, eL]; exact hS
  have goal : W p l e rmX8_encode s m args below meth c H locs 0 0 Q (F0 m 0 ls []) := by
    refine lv_iload_n hx hb dX8_encode_0 rfl (lv_at hl 1 rfl) ?_
    refine lv_aload_n hx hb dX8_encode_1 rfl (lv_at hl 0 rfl) ?_
    refine wx_get C hP (q := 0) (ci := 8) (Nat.le_of_ble_eq_true rfl) (eC_0 _) (Cn := RX8) (T := TX8) (Nf := 11) rfl inX8_encode_X8 0 (by decide) (List.mem_of_getElem? (i := 1) rfl) (v := .ref (ad (cSt 0))) rfl dX8_encode_2 ?_
    refine wx_get C hP (q := (cSt 0)) (ci := 5) (lt_st (Nat.le_of_ble_eq_true rfl)) (eC_st (Nat.le_of_ble_eq_true rfl) _) (Cn := RX5) (T := TX5) (Nf := 3) rfl inX8_encode_X5 0 (by decide) (List.mem_of_getElem? (i := 2) rfl) (v := .ref (ad (cCo 0))) rfl dX8_encode_5 ?_
    refine wx_ci C hD hS (va_runV (As := []) (rest := [.int x1]) C.1 (mtX1_allTerms (l := l) (D := D) (sz := H.size) (Nat.le_of_ble_eq_true rfl) h) (cwV 0 hts gX8_encode_X1_allTerms rfl rfl rfl nyX1_allTerms ⟨Nat.le_of_ble_eq_true rfl, Nat.le_of_ble_eq_true rfl⟩) (wx_pv C hP hD hS (q := (cCo 0)) (ci := 1) (lt_co (Nat.le_of_ble_eq_true rfl)) (eC_co (Nat.le_of_ble_eq_true rfl) _) rfl) rfl rfl hl.1 rfl (lv_room (Nat.le_of_ble_eq_true rfl)) dX8_encode_8 ⟨Nat.zero_le _, Nat.zero_le _⟩) (fun r8 σ8 H locs h hP hD hS => ?_)
    refine lv_iconst (v := (-1)) hx hb dX8_encode_11 (by decide) ?_
    refine lv_ixor hx hb dX8_encode_12 ?_
    refine lv_iand hx hb dX8_encode_13 ?_
    refine lv_if_eq (tgt := 24) hx hb dX8_encode_14 (by decide) (fun c14 => ?_) (fun c14 => ?_)
    · have h := h.1 c14
      refine lv_aload_n hx hb dX8_encode_24 rfl (lv_at hl 0 rfl) ?_
      refine wx_get C hP (q := 0) (ci := 8) (Nat.le_of_ble_eq_true rfl) (eC_0 _) (Cn := RX8) (T := TX8) (Nf := 11) rfl inX8_encode_X8 2 (by decide) (List.mem_of_getElem? (i := 3) rfl) (v := .ref (ad 41)) rfl dX8_encode_25 ?_
      refine lv_aload_n hx hb dX8_encode_28 rfl (lv_at hl 0 rfl) ?_
      refine wx_get C hP (q := 0) (ci := 8) (Nat.le_of_ble_eq_true rfl) (eC_0 _) (Cn := RX8) (T := TX8) (Nf := 11) rfl inX8_encode_X8 0 (by decide) (List.mem_of_getElem? (i := 1) rfl) (v := .ref (ad (cSt 0))) rfl dX8_encode_29 ?_
      refine wx_cv C hD hS (va_runV (As := [.ref (ad (cSt 0))]) (rest := []) C.1 (mtX4_keep (l := l) (D := D) (sz := H.size) (Nat.le_of_ble_eq_true rfl) h) (cwV 1 hts gX8_encode_X4_keep rfl rfl rfl nyX4_keep ⟨Nat.le_of_ble_eq_true rfl, Nat.le_of_ble_eq_true rfl⟩) (wx_pv C hP hD hS (q := 41) (ci := 4) (Nat.le_of_ble_eq_true rfl) (eC_41 _) rfl) rfl rfl hl.1 rfl (lv_room (Nat.le_of_ble_eq_true rfl)) dX8_encode_32 ⟨Nat.zero_le _, Nat.zero_le _⟩) (fun σ32 H locs h hP hD hS => ?_)
      refine lv_aload_n hx hb dX8_encode_35 rfl (lv_at hl 0 rfl) ?_
      refine wx_get C hP (q := 0) (ci := 8) (Nat.le_of_ble_eq_true rfl) (eC_0 _) (Cn := RX8) (T := TX8) (Nf := 11) rfl inX8_encode_X8 0 (by decide) (List.mem_of_getElem? (i := 1) rfl) (v := .ref (ad (cSt 0))) rfl dX8_encode_36 ?_
      refine lv_aload_n hx hb dX8_encode_39 rfl (lv_at hl 0 rfl) ?_
      refine wx_get C hP (q := 0) (ci := 8) (Nat.le_of_ble_eq_true rfl) (eC_0 _) (Cn := RX8) (T := TX8) (Nf := 11) rfl inX8_encode_X8 0 (by decide) (List.mem_of_getElem? (i := 1) rfl) (v := .ref (ad (cSt 0))) rfl dX8_encode_40 ?_
      refine wx_get C hP (q := (cSt 0)) (ci := 5) (lt_st (Nat.le_of_ble_eq_true rfl)) (eC_st (Nat.le_of_ble_eq_true rfl) _) (Cn := RX5) (T := TX5) (Nf := 3) rfl inX8_encode_X5 0 (by decide) (List.mem_of_getElem? (i := 2) rfl) (v := .ref (ad (cCo 0))) rfl dX8_encode_43 ?_
      refine lv_iload_n hx hb dX8_encode_46 rfl (lv_at hl 1 rfl) ?_
      refine wx_ci C hD hS (va_runV (As := [.int x1]) (rest := [.ref (ad (cSt 0))]) C.1 (mtX1_wordOf (l := l) (D := D) (sz := H.size) (Nat.le_of_ble_eq_true rfl) h) (cwV 1 hts gX8_encode_X1_wordOf rfl rfl rfl nyX1_wordOf ⟨Nat.le_of_ble_eq_true rfl, Nat.le_of_ble_eq_true rfl⟩) (wx_pv C hP hD hS (q := (cCo 0)) (ci := 1) (lt_co (Nat.le_of_ble_eq_true rfl)) (eC_co (Nat.le_of_ble_eq_true rfl) _) rfl) rfl rfl hl.1 rfl (lv_room (Nat.le_of_ble_eq_true rfl)) dX8_encode_47 ⟨Nat.zero_le _, Nat.zero_le _⟩) (fun r47 σ47 H locs h hP hD hS => ?_)
      refine wx_put C hP hD hS (q := (cSt 0)) (ci := 5) (lt_st (Nat.le_of_ble_eq_true rfl)) (eC_st (Nat.le_of_ble_eq_true rfl) _) (Cn := RX5) (T := TX5) (Nf := 3) rfl inX8_encode_X5 tyX5 tyX5_ok nmX5 2 (by decide) (List.mem_of_getElem? (i := 4) rfl) rfl rfl (Nat.le_of_ble_eq_true rfl) (eC_st (Nat.le_of_ble_eq_true rfl) _) dX8_encode_50 (fun H locs hP hD hS => ?_)
      generalize e_σ50 : wx_up σ47 (cSt 0) 2 r47 = σ50 at hP hD
      have h := h σ50 e_σ50.symm
      refine lv_aload_n hx hb dX8_encode_53 rfl (lv_at hl 0 rfl) ?_
      refine wx_ci C hD hS (va_runV (As := []) (rest := []) C.1 (mtX8_weight (l := l) (D := D) (sz := H.size) h) (cwV 0 hts gX8_encode_X8_weight rfl rfl rfl nyX8_weight ⟨Nat.le_of_ble_eq_true rfl, Nat.le_of_ble_eq_true rfl⟩) (wx_pv C hP hD hS (q := 0) (ci := 8) (Nat.le_of_ble_eq_true rfl) (eC_0 _) rfl) rfl rfl hl.1 rfl (lv_room (Nat.le_of_ble_eq_true rfl)) dX8_encode_54 ⟨Nat.zero_le _, Nat.zero_le _⟩) (fun r54 σ54 H locs h hP hD hS => ?_)
      exact Rt _ _ _ _ _ _ h hP hD hS dX8_encode_57
    · have h := h.2 c14
      refine lv_aload_n hx hb dX8_encode_17 rfl (lv_at hl 0 rfl) ?_
      refine lv_bipush (v := (-2)) hx hb dX8_encode_18 (by decide) ?_
      refine wx_ci C hD hS (va_runV (As := [.int (-2)]) (rest := []) C.1 (mtX8_refuseBad (l := l) (D := D) (sz := H.size) h) (cwV 1 hts gX8_encode_X8_refuseBad rfl rfl rfl nyX8_refuseBad ⟨Nat.le_of_ble_eq_true rfl, Nat.le_of_ble_eq_true rfl⟩) (wx_pv C hP hD hS (q := 0) (ci := 8) (Nat.le_of_ble_eq_true rfl) (eC_0 _) rfl) rfl rfl hl.1 rfl (lv_room (Nat.le_of_ble_eq_true rfl)) dX8_encode_20 ⟨Nat.zero_le _, Nat.zero_le _⟩) (fun r20 σ20 H locs h hP hD hS => ?_)
      exact Rt _ _ _ _ _ _ h hP hD hS dX8_encode_23
  rw [eH, eL] at goal
  exact goal
abbrev rmX8_flip : Room := { frames := 5, cells := 0, slots := 0, locals := 128 }
set_option maxRecDepth 20000 in
theorem inX8_flip_X5 : ∀ w ∈ u_ws RX5 TX5 3, w ∈ wsX8_flip := by decide +kernel
set_option maxRecDepth 20000 in
theorem inX8_flip_X8 : ∀ w ∈ u_ws RX8 TX8 11, w ∈ wsX8_flip := by decide +kernel
theorem nyX1_hasPlace : yX1_hasPlace.cls = RX1 ∧ yX1_hasPlace.cls ≠ "java/lang/invoke/MethodHandle" ∧ yX1_hasPlace.cls ≠ "java/lang/invoke/VarHandle" ∧ (parseMethodDescriptor yX1_hasPlace.desc).map (fun d => d.parameters.length) = some 1 := by decide +kernel
theorem nyX5_bit : yX5_bit.cls = RX5 ∧ yX5_bit.cls ≠ "java/lang/invoke/MethodHandle" ∧ yX5_bit.cls ≠ "java/lang/invoke/VarHandle" ∧ (parseMethodDescriptor yX5_bit.desc).map (fun d => d.parameters.length) = some 1 := by decide +kernel
set_option maxRecDepth 100000 in
set_option maxHeartbeats 4000000 in
theorem mtX8_flip {l : Launch} {D : va_G} {cI cB cS cR : ClassId} {ad : Nat → Nat} {tS tP : Nat} {kS vS : Nat → Nat} {sz : Nat} {σ : wx_Z} {x1 : Int32} {K : Int32 → wx_Z → Prop} (h : wpX8_flip σ x1 K) : Met l yX8_flip wsX8_flip rmX8_flip (wx_Pre D [(cI, .int), (cB, .byte), (cS, .object RX5), (cR, .array .int)] (wC_RO tS tP kS vS) 58 (wC_E cI cB cS cR ad) ad σ sz [.ref (ad 0), .int x1]) (va_Qi K (wx_B D [(cI, .int), (cB, .byte), (cS, .object RX5), (cR, .array .int)] 58 (wC_E cI cB cS cR ad) ad (va_A (wx_w 58 (wC_E cI cB cS cR ad) ad σ) sz)) (va_A (wx_w 58 (wC_E cI cB cS cR ad) ad σ) sz)) 0 0 (va_A (wx_w 58 (wC_E cI cB cS cR ad) ad σ) sz) := by
  unfold wpX8_flip at h
  refine wx_meti (cc := cX8_flip) (maxL := 2) (own := RX8) rfl (by decide) rfl (Nat.le_of_ble_eq_true rfl) (wC_ROok tS tP kS vS) ?_
  intro p e s m args below meth c A Q ls C Rt hP hD hS hl
  obtain ⟨⟨hx, hb, hml, hown, hts⟩, hA, hK, hRO, hro⟩ := id C
  have hl : lv_has ls 2 [(0, .ref (ad 0)), (1, .int x1)] := hl
  obtain ⟨H, eH⟩ : ∃ z, z = s.heap := ⟨_, rfl⟩
  obtain ⟨locs, eL⟩ : ∃ z : List Loc, z = [] := ⟨_, rfl⟩
  rw [← eH] at hP
  have hS : va_S A s.heap H locs := by rw [eH, eL]; exact hS
  have goal : W p l e rmX8_flip s m args below meth c H locs 0 0 Q (F0 m 0 ls []) := by
    refine lv_aload_n hx hb dX8_flip_0 rfl (lv_at hl 0 rfl) ?_
    refine wx_get C hP (q := 0) (ci := 8) (Nat.le_of_ble_eq_true rfl) (eC_0 _) (Cn := RX8) (T := TX8) (Nf := 11) rfl inX8_flip_X8 0 (by decide) (List.mem_of_getElem? (i := 1) rfl) (v := .ref (ad (cSt 0))) rfl dX8_flip_1 ?_
    refine wx_get C hP (q := (cSt 0)) (ci := 5) (lt_st (Nat.le_of_ble_eq_true rfl)) (eC_st (Nat.le_of_ble_eq_true rfl) _) (Cn := RX5) (T := TX5) (Nf := 3) rfl inX8_flip_X5 0 (by decide) (List.mem_of_getElem? (i := 2) rfl) (v := .ref (ad (cCo 0))) rfl dX8_flip_4 ?_
    refine lv_iload_n hx hb dX8_flip_7 rfl (lv_at hl 1 rfl) ?_
    refine wx_ci C hD hS (va_runV (As := [.int x1]) (rest := []) C.1 (mtX1_hasPlace (l := l) (D := D) (sz := H.size) (Nat.le_of_ble_eq_true rfl) h) (cwV 1 hts gX8_flip_X1_hasPlace rfl rfl rfl nyX1_hasPlace ⟨Nat.le_of_ble_eq_true rfl, Nat.le_of_ble_eq_true rfl⟩) (wx_pv C hP hD hS (q := (cCo 0)) (ci := 1) (lt_co (Nat.le_of_ble_eq_true rfl)) (eC_co (Nat.le_of_ble_eq_true rfl) _) rfl) rfl rfl hl.1 rfl (lv_room (Nat.le_of_ble_eq_true rfl)) dX8_flip_8 ⟨Nat.zero_le _, Nat.zero_le _⟩) (fun r8 σ8 H locs h hP hD hS => ?_)
    refine lv_if_ne (tgt := 21) hx hb dX8_flip_11 (by decide) (fun c11 => ?_) (fun c11 => ?_)
    · have h := h.1 c11
      refine lv_aload_n hx hb dX8_flip_21 rfl (lv_at hl 0 rfl) ?_
      refine wx_get C hP (q := 0) (ci := 8) (Nat.le_of_ble_eq_true rfl) (eC_0 _) (Cn := RX8) (T := TX8) (Nf := 11) rfl inX8_flip_X8 2 (by decide) (List.mem_of_getElem? (i := 3) rfl) (v := .ref (ad 41)) rfl dX8_flip_22 ?_
      refine lv_aload_n hx hb dX8_flip_25 rfl (lv_at hl 0 rfl) ?_
      refine wx_get C hP (q := 0) (ci := 8) (Nat.le_of_ble_eq_true rfl) (eC_0 _) (Cn := RX8) (T := TX8) (Nf := 11) rfl inX8_flip_X8 0 (by decide) (List.mem_of_getElem? (i := 1) rfl) (v := .ref (ad (cSt 0))) rfl dX8_flip_26 ?_
      refine wx_cv C hD hS (va_runV (As := [.ref (ad (cSt 0))]) (rest := []) C.1 (mtX4_keep (l := l) (D := D) (sz := H.size) (Nat.le_of_ble_eq_true rfl) h) (cwV 1 hts gX8_flip_X4_keep rfl rfl rfl nyX4_keep ⟨Nat.le_of_ble_eq_true rfl, Nat.le_of_ble_eq_true rfl⟩) (wx_pv C hP hD hS (q := 41) (ci := 4) (Nat.le_of_ble_eq_true rfl) (eC_41 _) rfl) rfl rfl hl.1 rfl (lv_room (Nat.le_of_ble_eq_true rfl)) dX8_flip_29 ⟨Nat.zero_le _, Nat.zero_le _⟩) (fun σ29 H locs h hP hD hS => ?_)
      refine lv_aload_n hx hb dX8_flip_32 rfl (lv_at hl 0 rfl) ?_
      refine wx_get C hP (q := 0) (ci := 8) (Nat.le_of_ble_eq_true rfl) (eC_0 _) (Cn := RX8) (T := TX8) (Nf := 11) rfl inX8_flip_X8 0 (by decide) (List.mem_of_getElem? (i := 1) rfl) (v := .ref (ad (cSt 0))) rfl dX8_flip_33 ?_
      refine lv_dup hx hb dX8_flip_36 rfl ?_
      refine wx_get C hP (q := (cSt 0)) (ci := 5) (lt_st (Nat.le_of_ble_eq_true rfl)) (eC_st (Nat.le_of_ble_eq_true rfl) _) (Cn := RX5) (T := TX5) (Nf := 3) rfl inX8_flip_X5 2 (by decide) (List.mem_of_getElem? (i := 4) rfl) (v := .int (σ29 (cSt 0) 2)) rfl dX8_flip_37 ?_
      refine lv_iconst (v := 1) hx hb dX8_flip_40 (by decide) ?_
      refine lv_iload_n hx hb dX8_flip_41 rfl (lv_at hl 1 rfl) ?_
      refine lv_ishl hx hb dX8_flip_42 ?_
      refine lv_ixor hx hb dX8_flip_43 ?_
      refine wx_put C hP hD hS (q := (cSt 0)) (ci := 5) (lt_st (Nat.le_of_ble_eq_true rfl)) (eC_st (Nat.le_of_ble_eq_true rfl) _) (Cn := RX5) (T := TX5) (Nf := 3) rfl inX8_flip_X5 tyX5 tyX5_ok nmX5 2 (by decide) (List.mem_of_getElem? (i := 4) rfl) rfl rfl (Nat.le_of_ble_eq_true rfl) (eC_st (Nat.le_of_ble_eq_true rfl) _) dX8_flip_44 (fun H locs hP hD hS => ?_)
      generalize e_σ44 : wx_up σ29 (cSt 0) 2 ((σ29 (cSt 0) 2) ^^^ (1 <<< (x1 &&& 31))) = σ44 at hP hD
      have h := h σ44 e_σ44.symm
      refine lv_aload_n hx hb dX8_flip_47 rfl (lv_at hl 0 rfl) ?_
      refine wx_get C hP (q := 0) (ci := 8) (Nat.le_of_ble_eq_true rfl) (eC_0 _) (Cn := RX8) (T := TX8) (Nf := 11) rfl inX8_flip_X8 0 (by decide) (List.mem_of_getElem? (i := 1) rfl) (v := .ref (ad (cSt 0))) rfl dX8_flip_48 ?_
      refine lv_iload_n hx hb dX8_flip_51 rfl (lv_at hl 1 rfl) ?_
      refine wx_ci C hD hS (va_runV (As := [.int x1]) (rest := []) C.1 (mtX5_bit (l := l) (D := D) (sz := H.size) (Nat.le_of_ble_eq_true rfl) h) (cwV 1 hts gX8_flip_X5_bit rfl rfl rfl nyX5_bit ⟨Nat.le_of_ble_eq_true rfl, Nat.le_of_ble_eq_true rfl⟩) (wx_pv C hP hD hS (q := (cSt 0)) (ci := 5) (lt_st (Nat.le_of_ble_eq_true rfl)) (eC_st (Nat.le_of_ble_eq_true rfl) _) rfl) rfl rfl hl.1 rfl (lv_room (Nat.le_of_ble_eq_true rfl)) dX8_flip_52 ⟨Nat.zero_le _, Nat.zero_le _⟩) (fun r52 σ52 H locs h hP hD hS => ?_)
      exact Rt _ _ _ _ _ _ h hP hD hS dX8_flip_55
    · have h := h.2 c11
      refine lv_aload_n hx hb dX8_flip_14 rfl (lv_at hl 0 rfl) ?_
      refine lv_bipush (v := (-2)) hx hb dX8_flip_15 (by decide) ?_
      refine wx_ci C hD hS (va_runV (As := [.int (-2)]) (rest := []) C.1 (mtX8_refuseBad (l := l) (D := D) (sz := H.size) h) (cwV 1 hts gX8_flip_X8_refuseBad rfl rfl rfl nyX8_refuseBad ⟨Nat.le_of_ble_eq_true rfl, Nat.le_of_ble_eq_true rfl⟩) (wx_pv C hP hD hS (q := 0) (ci := 8) (Nat.le_of_ble_eq_true rfl) (eC_0 _) rfl) rfl rfl hl.1 rfl (lv_room (Nat.le_of_ble_eq_true rfl)) dX8_flip_17 ⟨Nat.zero_le _, Nat.zero_le _⟩) (fun r17 σ17 H locs h hP hD hS => ?_)
      exact Rt _ _ _ _ _ _ h hP hD hS dX8_flip_20
  rw [eH, eL] at goal
  exact goal
abbrev rmX8_drawPlaces : Room := { frames := 1, cells := 0, slots := 0, locals := 40 }
set_option maxRecDepth 20000 in
theorem inX8_drawPlaces_X1 : ∀ w ∈ u_ws RX1 TX1 5, w ∈ wsX8_drawPlaces := by decide +kernel
set_option maxRecDepth 20000 in
theorem inX8_drawPlaces_X5 : ∀ w ∈ u_ws RX5 TX5 3, w ∈ wsX8_drawPlaces := by decide +kernel
set_option maxRecDepth 20000 in
theorem inX8_drawPlaces_X8 : ∀ w ∈ u_ws RX8 TX8 11, w ∈ wsX8_drawPlaces := by decide +kernel
set_option maxRecDepth 100000 in
set_option maxHeartbeats 4000000 in
theorem bX8_drawPlaces_89 {p : Program} {l : Launch} {e : Env} {s : State} {m : MethodId} {args : Array Value} {below : List Frame} {meth : Method} {c : Code} {A : Nat → Prop} {Q : State → Prop} {D : va_G} {cI cB cS cR : ClassId} {ad : Nat → Nat} {tS tP : Nat} {kS vS : Nat → Nat} {K : Int32 → wx_Z → Prop} {C23 : wx_Z → Int32 → Int32 → Int32 → Int64 → Int32 → Prop} (C : wx_C p s m args c cX8_drawPlaces 10 RX8 wsX8_drawPlaces D [(cI, .int), (cB, .byte), (cS, .object RX5), (cR, .array .int)] (wC_RO tS tP kS vS) A) (Rt : wx_Ri p l e rmX8_drawPlaces s m args below meth c cX8_drawPlaces D 58 (wC_E cI cB cS cR ad) ad A K Q) (hC23 : ∀ (σ : wx_Z) (x2 : Int32) (x3 : Int32) (x4 : Int32) (y5 : Int64) (x7 : Int32), C23 σ x2 x3 x4 y5 x7 → ∀ (H : Heap) (locs : List Loc) (ls : Array Slot), va_P D vwCl (wx_w 58 (wC_E cI cB cS cR ad) ad σ) H → va_D A (wx_w 58 (wC_E cI cB cS cR ad) ad σ) → va_S A s.heap H locs → lv_has ls 10 [(2, .int x2), (3, .int x3), (4, .int x4), (5, .long y5), (7, .int x7)] → W p l e rmX8_drawPlaces s m args below meth c H locs 0 0 Q (F0 m 23 ls [])) : ∀ (σ : wx_Z) (x2 : Int32) (x3 : Int32) (x4 : Int32) (y5 : Int64) (x7 : Int32) (x8 : Int32), wpX8_drawPlaces_89 K C23 σ x2 x3 x4 y5 x7 x8 → ∀ (H : Heap) (locs : List Loc) (ls : Array Slot), va_P D vwCl (wx_w 58 (wC_E cI cB cS cR ad) ad σ) H → va_D A (wx_w 58 (wC_E cI cB cS cR ad) ad σ) → va_S A s.heap H locs → lv_has ls 10 [(2, .int x2), (3, .int x3), (4, .int x4), (5, .long y5), (7, .int x7), (8, .int x8)] → W p l e rmX8_drawPlaces s m args below meth c H locs 0 0 Q (F0 m 89 ls []) := by
  obtain ⟨⟨hx, hb, hml, hown, hts⟩, hA, hK, hRO, hro⟩ := id C
  intro σ x2 x3 x4 y5 x7 x8 h H locs ls hP hD hS hl
  unfold wpX8_drawPlaces_89 at h
  refine lv_iload hx hb dX8_drawPlaces_89 (lv_at hl 2 rfl) ?_
  refine lv_iconst (v := 1) hx hb dX8_drawPlaces_91 (by decide) ?_
  refine lv_iload hx hb dX8_drawPlaces_92 (lv_at hl 5 rfl) ?_
  refine lv_ishl hx hb dX8_drawPlaces_94 ?_
  refine lv_ior hx hb dX8_drawPlaces_95 ?_
  refine lv_topi (fun t96 e_t96 => ?_)
  have h := h t96 e_t96
  refine lv_istore (lv' := [(4, .int t96), (2, .int x2), (3, .int x3), (5, .long y5), (7, .int x7), (8, .int x8)]) hx hb dX8_drawPlaces_96 hl (by decide) rfl (fun ls hl => ?_)
  obtain ⟨t98, e_t98⟩ : ∃ y : Int32, y = x7 + 1 := ⟨_, rfl⟩
  have h := h t98 e_t98
  refine lv_iinc (v := t98) (lv' := [(7, .int t98), (4, .int t96), (2, .int x2), (3, .int x3), (5, .long y5), (8, .int x8)]) hx hb dX8_drawPlaces_98 hl (k := 4) rfl (by rw [e_t98]; rfl) (by decide) rfl (fun ls hl => ?_)
  refine lv_goto (tgt := 23) hx hb dX8_drawPlaces_101 (by decide) ?_
  exact hC23 σ x2 x3 t96 y5 t98  h _ _ _ hP hD hS (lv_sub hl [2, 3, 1, 4, 0] rfl)
set_option maxRecDepth 100000 in
set_option maxHeartbeats 4000000 in
theorem bX8_drawPlaces_58 {p : Program} {l : Launch} {e : Env} {s : State} {m : MethodId} {args : Array Value} {below : List Frame} {meth : Method} {c : Code} {A : Nat → Prop} {Q : State → Prop} {D : va_G} {cI cB cS cR : ClassId} {ad : Nat → Nat} {tS tP : Nat} {kS vS : Nat → Nat} {K : Int32 → wx_Z → Prop} {C23 : wx_Z → Int32 → Int32 → Int32 → Int64 → Int32 → Prop} (C : wx_C p s m args c cX8_drawPlaces 10 RX8 wsX8_drawPlaces D [(cI, .int), (cB, .byte), (cS, .object RX5), (cR, .array .int)] (wC_RO tS tP kS vS) A) (Rt : wx_Ri p l e rmX8_drawPlaces s m args below meth c cX8_drawPlaces D 58 (wC_E cI cB cS cR ad) ad A K Q) (hC23 : ∀ (σ : wx_Z) (x2 : Int32) (x3 : Int32) (x4 : Int32) (y5 : Int64) (x7 : Int32), C23 σ x2 x3 x4 y5 x7 → ∀ (H : Heap) (locs : List Loc) (ls : Array Slot), va_P D vwCl (wx_w 58 (wC_E cI cB cS cR ad) ad σ) H → va_D A (wx_w 58 (wC_E cI cB cS cR ad) ad σ) → va_S A s.heap H locs → lv_has ls 10 [(2, .int x2), (3, .int x3), (4, .int x4), (5, .long y5), (7, .int x7)] → W p l e rmX8_drawPlaces s m args below meth c H locs 0 0 Q (F0 m 23 ls [])) : ∀ (n : Nat) (σ : wx_Z) (x2 : Int32) (x3 : Int32) (x4 : Int32) (y5 : Int64) (x7 : Int32) (x8 : Int32) (x9 : Int32), wpX8_drawPlaces_58 K C23 n σ x2 x3 x4 y5 x7 x8 x9 → ∀ (H : Heap) (locs : List Loc) (ls : Array Slot), va_P D vwCl (wx_w 58 (wC_E cI cB cS cR ad) ad σ) H → va_D A (wx_w 58 (wC_E cI cB cS cR ad) ad σ) → va_S A s.heap H locs → lv_has ls 10 [(2, .int x2), (3, .int x3), (4, .int x4), (5, .long y5), (7, .int x7), (8, .int x8), (9, .int x9)] → W p l e rmX8_drawPlaces s m args below meth c H locs 0 0 Q (F0 m 58 ls []) := by
  obtain ⟨⟨hx, hb, hml, hown, hts⟩, hA, hK, hRO, hro⟩ := id C
  intro n
  induction n with
  | zero => intro σ x2 x3 x4 y5 x7 x8 x9 h; exact h.elim
  | succ n ih =>
    intro σ x2 x3 x4 y5 x7 x8 x9 h H locs ls hP hD hS hl
    unfold wpX8_drawPlaces_58 at h
    refine lv_iload hx hb dX8_drawPlaces_58 (lv_at hl 6 rfl) ?_
    refine lv_iload_n hx hb dX8_drawPlaces_60 rfl (lv_at hl 1 rfl) ?_
    refine lv_icmp_ge (tgt := 89) hx hb dX8_drawPlaces_61 (by decide) (fun c61 => ?_) (fun c61 => ?_)
    · have h := h.1 c61
      exact bX8_drawPlaces_89 C Rt hC23 σ x2 x3 x4 y5 x7 x8  h _ _ _ hP hD hS (lv_sub hl [0, 1, 2, 3, 4, 5] rfl)
    · have h := h.2 c61
      refine lv_iload hx hb dX8_drawPlaces_64 (lv_at hl 2 rfl) ?_
      refine lv_iload hx hb dX8_drawPlaces_66 (lv_at hl 5 rfl) ?_
      refine lv_iushr (v := wx_us x4 x8) hx hb dX8_drawPlaces_68 rfl ?_
      refine lv_iconst (v := 1) hx hb dX8_drawPlaces_69 (by decide) ?_
      refine lv_iand hx hb dX8_drawPlaces_70 ?_
      refine lv_iconst (v := 1) hx hb dX8_drawPlaces_71 (by decide) ?_
      refine lv_icmp_ne (tgt := 89) hx hb dX8_drawPlaces_72 (by decide) (fun c72 => ?_) (fun c72 => ?_)
      · have h := h.1 c72
        exact bX8_drawPlaces_89 C Rt hC23 σ x2 x3 x4 y5 x7 x8  h _ _ _ hP hD hS (lv_sub hl [0, 1, 2, 3, 4, 5] rfl)
      · have h := h.2 c72
        refine lv_iload hx hb dX8_drawPlaces_75 (lv_at hl 5 rfl) ?_
        refine lv_iconst (v := 1) hx hb dX8_drawPlaces_77 (by decide) ?_
        refine lv_iadd hx hb dX8_drawPlaces_78 ?_
        refine lv_iload_n hx hb dX8_drawPlaces_79 rfl (lv_at hl 1 rfl) ?_
        refine lv_iand hx hb dX8_drawPlaces_80 ?_
        refine lv_topi (fun t81 e_t81 => ?_)
        have h := h t81 e_t81
        refine lv_istore (lv' := [(8, .int t81), (2, .int x2), (3, .int x3), (4, .int x4), (5, .long y5), (7, .int x7), (9, .int x9)]) hx hb dX8_drawPlaces_81 hl (by decide) rfl (fun ls hl => ?_)
        obtain ⟨t83, e_t83⟩ : ∃ y : Int32, y = x9 + 1 := ⟨_, rfl⟩
        have h := h t83 e_t83
        refine lv_iinc (v := t83) (lv' := [(9, .int t83), (8, .int t81), (2, .int x2), (3, .int x3), (4, .int x4), (5, .long y5), (7, .int x7)]) hx hb dX8_drawPlaces_83 hl (k := 6) rfl (by rw [e_t83]; rfl) (by decide) rfl (fun ls hl => ?_)
        refine lv_goto (tgt := 58) hx hb dX8_drawPlaces_86 (by decide) ?_
        exact ih σ x2 x3 x4 y5 x7 t81 t83  h _ _ _ hP hD hS (lv_sub hl [2, 3, 4, 5, 6, 1, 0] rfl)
set_option maxRecDepth 100000 in
set_option maxHeartbeats 4000000 in
theorem bX8_drawPlaces_23 {p : Program} {l : Launch} {e : Env} {s : State} {m : MethodId} {args : Array Value} {below : List Frame} {meth : Method} {c : Code} {A : Nat → Prop} {Q : State → Prop} {D : va_G} {cI cB cS cR : ClassId} {ad : Nat → Nat} {tS tP : Nat} {kS vS : Nat → Nat} {K : Int32 → wx_Z → Prop} (C : wx_C p s m args c cX8_drawPlaces 10 RX8 wsX8_drawPlaces D [(cI, .int), (cB, .byte), (cS, .object RX5), (cR, .array .int)] (wC_RO tS tP kS vS) A) (Rt : wx_Ri p l e rmX8_drawPlaces s m args below meth c cX8_drawPlaces D 58 (wC_E cI cB cS cR ad) ad A K Q) : ∀ (n : Nat) (σ : wx_Z) (x2 : Int32) (x3 : Int32) (x4 : Int32) (y5 : Int64) (x7 : Int32), wpX8_drawPlaces_23 K n σ x2 x3 x4 y5 x7 → ∀ (H : Heap) (locs : List Loc) (ls : Array Slot), va_P D vwCl (wx_w 58 (wC_E cI cB cS cR ad) ad σ) H → va_D A (wx_w 58 (wC_E cI cB cS cR ad) ad σ) → va_S A s.heap H locs → lv_has ls 10 [(2, .int x2), (3, .int x3), (4, .int x4), (5, .long y5), (7, .int x7)] → W p l e rmX8_drawPlaces s m args below meth c H locs 0 0 Q (F0 m 23 ls []) := by
  obtain ⟨⟨hx, hb, hml, hown, hts⟩, hA, hK, hRO, hro⟩ := id C
  intro n
  induction n with
  | zero => intro σ x2 x3 x4 y5 x7 h; exact h.elim
  | succ n ih =>
    intro σ x2 x3 x4 y5 x7 h H locs ls hP hD hS hl
    unfold wpX8_drawPlaces_23 at h
    refine lv_iload hx hb dX8_drawPlaces_23 (lv_at hl 4 rfl) ?_
    refine lv_iload_n hx hb dX8_drawPlaces_25 rfl (lv_at hl 0 rfl) ?_
    refine lv_icmp_ge (tgt := 104) hx hb dX8_drawPlaces_26 (by decide) (fun c26 => ?_) (fun c26 => ?_)
    · have h := h.1 c26
      refine lv_iload hx hb dX8_drawPlaces_104 (lv_at hl 2 rfl) ?_
      exact Rt _ _ _ _ _ _ h hP hD hS dX8_drawPlaces_106
    · have h := h.2 c26
      refine lv_lload hx hb dX8_drawPlaces_29 (lv_at hl 3 rfl) ?_
      refine lv_ldc2 hx hb hown (hts _ (List.mem_of_getElem? (i := 4) rfl)) dX8_drawPlaces_31 ?_
      refine lv_lmul hx hb dX8_drawPlaces_34 ?_
      refine lv_ldc2 hx hb hown (hts _ (List.mem_of_getElem? (i := 5) rfl)) dX8_drawPlaces_35 ?_
      refine lv_ladd hx hb dX8_drawPlaces_38 ?_
      refine lv_ldc2 hx hb hown (hts _ (List.mem_of_getElem? (i := 6) rfl)) dX8_drawPlaces_39 ?_
      refine lv_land hx hb dX8_drawPlaces_42 ?_
      refine lv_topl (fun t43 e_t43 => ?_)
      have h := h t43 e_t43
      refine lv_lstore (lv' := [(5, .long t43), (2, .int x2), (3, .int x3), (4, .int x4), (7, .int x7)]) hx hb dX8_drawPlaces_43 hl (by decide) rfl (fun ls hl => ?_)
      refine lv_lload hx hb dX8_drawPlaces_45 (lv_at hl 0 rfl) ?_
      refine lv_bipush (v := 16) hx hb dX8_drawPlaces_47 (by decide) ?_
      refine lv_lushr (v := wx_uL t43 16) hx hb dX8_drawPlaces_49 rfl ?_
      refine lv_l2i (v := Int64.toInt32 (wx_uL t43 16)) hx hb dX8_drawPlaces_50 rfl ?_
      refine lv_iload_n hx hb dX8_drawPlaces_51 rfl (lv_at hl 2 rfl) ?_
      refine lv_iand hx hb dX8_drawPlaces_52 ?_
      refine lv_topi (fun t53 e_t53 => ?_)
      have h := h t53 e_t53
      refine lv_istore (lv' := [(8, .int t53), (5, .long t43), (2, .int x2), (3, .int x3), (4, .int x4), (7, .int x7)]) hx hb dX8_drawPlaces_53 hl (by decide) rfl (fun ls hl => ?_)
      refine lv_iconst (v := 0) hx hb dX8_drawPlaces_55 (by decide) ?_
      refine lv_istore (lv' := [(9, .int 0), (8, .int t53), (5, .long t43), (2, .int x2), (3, .int x3), (4, .int x4), (7, .int x7)]) hx hb dX8_drawPlaces_56 hl (by decide) rfl (fun ls hl => ?_)
      obtain ⟨n58, h⟩ := h
      exact bX8_drawPlaces_58 C Rt ih n58 σ x2 x3 x4 t43 x7 t53 0  h _ _ _ hP hD hS (lv_sub hl [3, 4, 5, 2, 6, 1, 0] rfl)
set_option maxRecDepth 100000 in
set_option maxHeartbeats 4000000 in
theorem mtX8_drawPlaces {l : Launch} {D : va_G} {cI cB cS cR : ClassId} {ad : Nat → Nat} {tS tP : Nat} {kS vS : Nat → Nat} {sz : Nat} {σ : wx_Z} {x1 : Int32} {x2 : Int32} {K : Int32 → wx_Z → Prop} (h : wpX8_drawPlaces σ x1 x2 K) : Met l yX8_drawPlaces wsX8_drawPlaces rmX8_drawPlaces (wx_Pre D [(cI, .int), (cB, .byte), (cS, .object RX5), (cR, .array .int)] (wC_RO tS tP kS vS) 58 (wC_E cI cB cS cR ad) ad σ sz [.ref (ad 0), .int x1, .int x2]) (va_Qi K (wx_B D [(cI, .int), (cB, .byte), (cS, .object RX5), (cR, .array .int)] 58 (wC_E cI cB cS cR ad) ad (va_A (wx_w 58 (wC_E cI cB cS cR ad) ad σ) sz)) (va_A (wx_w 58 (wC_E cI cB cS cR ad) ad σ) sz)) 0 0 (va_A (wx_w 58 (wC_E cI cB cS cR ad) ad σ) sz) := by
  unfold wpX8_drawPlaces at h
  refine wx_meti (cc := cX8_drawPlaces) (maxL := 10) (own := RX8) rfl (by decide) rfl (Nat.le_of_ble_eq_true rfl) (wC_ROok tS tP kS vS) ?_
  intro p e s m args below meth c A Q ls C Rt hP hD hS hl
  obtain ⟨⟨hx, hb, hml, hown, hts⟩, hA, hK, hRO, hro⟩ := id C
  have hl : lv_has ls 10 [(0, .ref (ad 0)), (1, .int x1), (2, .int x2)] := hl
  obtain ⟨H, eH⟩ : ∃ z, z = s.heap := ⟨_, rfl⟩
  obtain ⟨locs, eL⟩ : ∃ z : List Loc, z = [] := ⟨_, rfl⟩
  rw [← eH] at hP
  have hS : va_S A s.heap H locs := by rw [eH, eL]; exact hS
  have goal : W p l e rmX8_drawPlaces s m args below meth c H locs 0 0 Q (F0 m 0 ls []) := by
    refine lv_aload_n hx hb dX8_drawPlaces_0 rfl (lv_at hl 0 rfl) ?_
    refine wx_get C hP (q := 0) (ci := 8) (Nat.le_of_ble_eq_true rfl) (eC_0 _) (Cn := RX8) (T := TX8) (Nf := 11) rfl inX8_drawPlaces_X8 0 (by decide) (List.mem_of_getElem? (i := 1) rfl) (v := .ref (ad (cSt 0))) rfl dX8_drawPlaces_1 ?_
    refine wx_get C hP (q := (cSt 0)) (ci := 5) (lt_st (Nat.le_of_ble_eq_true rfl)) (eC_st (Nat.le_of_ble_eq_true rfl) _) (Cn := RX5) (T := TX5) (Nf := 3) rfl inX8_drawPlaces_X5 0 (by decide) (List.mem_of_getElem? (i := 2) rfl) (v := .ref (ad (cCo 0))) rfl dX8_drawPlaces_4 ?_
    refine wx_get C hP (q := (cCo 0)) (ci := 1) (lt_co (Nat.le_of_ble_eq_true rfl)) (eC_co (Nat.le_of_ble_eq_true rfl) _) (Cn := RX1) (T := TX1) (Nf := 5) rfl inX8_drawPlaces_X1 2 (by decide) (List.mem_of_getElem? (i := 3) rfl) (v := .int (σ (cCo 0) 2)) rfl dX8_drawPlaces_7 ?_
    refine lv_iconst (v := 1) hx hb dX8_drawPlaces_10 (by decide) ?_
    refine lv_isub hx hb dX8_drawPlaces_11 ?_
    refine lv_topi (fun t12 e_t12 => ?_)
    have h := h t12 e_t12
    refine lv_istore_n (lv' := [(3, .int t12), (0, .ref (ad 0)), (1, .int x1), (2, .int x2)]) hx hb dX8_drawPlaces_12 rfl hl (by decide) rfl (fun ls hl => ?_)
    refine lv_iconst (v := 0) hx hb dX8_drawPlaces_13 (by decide) ?_
    refine lv_istore (lv' := [(4, .int 0), (3, .int t12), (0, .ref (ad 0)), (1, .int x1), (2, .int x2)]) hx hb dX8_drawPlaces_14 hl (by decide) rfl (fun ls hl => ?_)
    refine lv_iload_n hx hb dX8_drawPlaces_16 rfl (lv_at hl 3 rfl) ?_
    refine lv_i2l (v := Int32.toInt64 x1) hx hb dX8_drawPlaces_17 rfl ?_
    refine lv_topl (fun t18 e_t18 => ?_)
    have h := h t18 e_t18
    refine lv_lstore (lv' := [(5, .long t18), (4, .int 0), (3, .int t12), (0, .ref (ad 0)), (1, .int x1), (2, .int x2)]) hx hb dX8_drawPlaces_18 hl (by decide) rfl (fun ls hl => ?_)
    refine lv_iconst (v := 0) hx hb dX8_drawPlaces_20 (by decide) ?_
    refine lv_istore (lv' := [(7, .int 0), (5, .long t18), (4, .int 0), (3, .int t12), (0, .ref (ad 0)), (1, .int x1), (2, .int x2)]) hx hb dX8_drawPlaces_21 hl (by decide) rfl (fun ls hl => ?_)
    obtain ⟨n23, h⟩ := h
    exact bX8_drawPlaces_23 C Rt n23 σ x2 t12 0 t18 0  h _ _ _ hP hD hS (lv_sub hl [6, 3, 2, 1, 0] rfl)
  rw [eH, eL] at goal
  exact goal
abbrev rmX8_hurt : Room := { frames := 5, cells := 0, slots := 0, locals := 128 }
set_option maxRecDepth 20000 in
theorem inX8_hurt_X1 : ∀ w ∈ u_ws RX1 TX1 5, w ∈ wsX8_hurt := by decide +kernel
set_option maxRecDepth 20000 in
theorem inX8_hurt_X5 : ∀ w ∈ u_ws RX5 TX5 3, w ∈ wsX8_hurt := by decide +kernel
set_option maxRecDepth 20000 in
theorem inX8_hurt_X8 : ∀ w ∈ u_ws RX8 TX8 11, w ∈ wsX8_hurt := by decide +kernel
theorem nyX8_drawPlaces : yX8_drawPlaces.cls = RX8 ∧ yX8_drawPlaces.cls ≠ "java/lang/invoke/MethodHandle" ∧ yX8_drawPlaces.cls ≠ "java/lang/invoke/VarHandle" ∧ (parseMethodDescriptor yX8_drawPlaces.desc).map (fun d => d.parameters.length) = some 2 := by decide +kernel
set_option maxRecDepth 100000 in
set_option maxHeartbeats 4000000 in
theorem mtX8_hurt {l : Launch} {D : va_G} {cI cB cS cR : ClassId} {ad : Nat → Nat} {tS tP : Nat} {kS vS : Nat → Nat} {sz : Nat} {σ : wx_Z} {x1 : Int32} {x2 : Int32} {K : Int32 → wx_Z → Prop} (h : wpX8_hurt σ x1 x2 K) : Met l yX8_hurt wsX8_hurt rmX8_hurt (wx_Pre D [(cI, .int), (cB, .byte), (cS, .object RX5), (cR, .array .int)] (wC_RO tS tP kS vS) 58 (wC_E cI cB cS cR ad) ad σ sz [.ref (ad 0), .int x1, .int x2]) (va_Qi K (wx_B D [(cI, .int), (cB, .byte), (cS, .object RX5), (cR, .array .int)] 58 (wC_E cI cB cS cR ad) ad (va_A (wx_w 58 (wC_E cI cB cS cR ad) ad σ) sz)) (va_A (wx_w 58 (wC_E cI cB cS cR ad) ad σ) sz)) 0 0 (va_A (wx_w 58 (wC_E cI cB cS cR ad) ad σ) sz) := by
  unfold wpX8_hurt at h
  refine wx_meti (cc := cX8_hurt) (maxL := 3) (own := RX8) rfl (by decide) rfl (Nat.le_of_ble_eq_true rfl) (wC_ROok tS tP kS vS) ?_
  intro p e s m args below meth c A Q ls C Rt hP hD hS hl
  obtain ⟨⟨hx, hb, hml, hown, hts⟩, hA, hK, hRO, hro⟩ := id C
  have hl : lv_has ls 3 [(0, .ref (ad 0)), (1, .int x1), (2, .int x2)] := hl
  obtain ⟨H, eH⟩ : ∃ z, z = s.heap := ⟨_, rfl⟩
  obtain ⟨locs, eL⟩ : ∃ z : List Loc, z = [] := ⟨_, rfl⟩
  rw [← eH] at hP
  have hS : va_S A s.heap H locs := by rw [eH, eL]; exact hS
  have goal : W p l e rmX8_hurt s m args below meth c H locs 0 0 Q (F0 m 0 ls []) := by
    refine lv_iload_n hx hb dX8_hurt_0 rfl (lv_at hl 1 rfl) ?_
    refine lv_if_lt (tgt := 28) hx hb dX8_hurt_1 (by decide) (fun c1 => ?_) (fun c1 => ?_)
    · have h := h.1 c1
      refine lv_aload_n hx hb dX8_hurt_28 rfl (lv_at hl 0 rfl) ?_
      refine lv_bipush (v := (-2)) hx hb dX8_hurt_29 (by decide) ?_
      refine wx_ci C hD hS (va_runV (As := [.int (-2)]) (rest := []) C.1 (mtX8_refuseBad (l := l) (D := D) (sz := H.size) h) (cwV 1 hts gX8_hurt_X8_refuseBad rfl rfl rfl nyX8_refuseBad ⟨Nat.le_of_ble_eq_true rfl, Nat.le_of_ble_eq_true rfl⟩) (wx_pv C hP hD hS (q := 0) (ci := 8) (Nat.le_of_ble_eq_true rfl) (eC_0 _) rfl) rfl rfl hl.1 rfl (lv_room (Nat.le_of_ble_eq_true rfl)) dX8_hurt_31 ⟨Nat.zero_le _, Nat.zero_le _⟩) (fun r31 σ31 H locs h hP hD hS => ?_)
      exact Rt _ _ _ _ _ _ h hP hD hS dX8_hurt_34
    · have h := h.2 c1
      refine lv_iload_n hx hb dX8_hurt_4 rfl (lv_at hl 1 rfl) ?_
      refine lv_ldc hx hb hown (hts _ (List.mem_of_getElem? (i := 1) rfl)) dX8_hurt_5 ?_
      refine lv_icmp_gt (tgt := 28) hx hb dX8_hurt_7 (by decide) (fun c7 => ?_) (fun c7 => ?_)
      · have h := h.1 c7
        refine lv_aload_n hx hb dX8_hurt_28 rfl (lv_at hl 0 rfl) ?_
        refine lv_bipush (v := (-2)) hx hb dX8_hurt_29 (by decide) ?_
        refine wx_ci C hD hS (va_runV (As := [.int (-2)]) (rest := []) C.1 (mtX8_refuseBad (l := l) (D := D) (sz := H.size) h) (cwV 1 hts gX8_hurt_X8_refuseBad rfl rfl rfl nyX8_refuseBad ⟨Nat.le_of_ble_eq_true rfl, Nat.le_of_ble_eq_true rfl⟩) (wx_pv C hP hD hS (q := 0) (ci := 8) (Nat.le_of_ble_eq_true rfl) (eC_0 _) rfl) rfl rfl hl.1 rfl (lv_room (Nat.le_of_ble_eq_true rfl)) dX8_hurt_31 ⟨Nat.zero_le _, Nat.zero_le _⟩) (fun r31_1 σ31_1 H locs h hP hD hS => ?_)
        exact Rt _ _ _ _ _ _ h hP hD hS dX8_hurt_34
      · have h := h.2 c7
        refine lv_iload_n hx hb dX8_hurt_10 rfl (lv_at hl 2 rfl) ?_
        refine lv_if_lt (tgt := 28) hx hb dX8_hurt_11 (by decide) (fun c11 => ?_) (fun c11 => ?_)
        · have h := h.1 c11
          refine lv_aload_n hx hb dX8_hurt_28 rfl (lv_at hl 0 rfl) ?_
          refine lv_bipush (v := (-2)) hx hb dX8_hurt_29 (by decide) ?_
          refine wx_ci C hD hS (va_runV (As := [.int (-2)]) (rest := []) C.1 (mtX8_refuseBad (l := l) (D := D) (sz := H.size) h) (cwV 1 hts gX8_hurt_X8_refuseBad rfl rfl rfl nyX8_refuseBad ⟨Nat.le_of_ble_eq_true rfl, Nat.le_of_ble_eq_true rfl⟩) (wx_pv C hP hD hS (q := 0) (ci := 8) (Nat.le_of_ble_eq_true rfl) (eC_0 _) rfl) rfl rfl hl.1 rfl (lv_room (Nat.le_of_ble_eq_true rfl)) dX8_hurt_31 ⟨Nat.zero_le _, Nat.zero_le _⟩) (fun r31_2 σ31_2 H locs h hP hD hS => ?_)
          exact Rt _ _ _ _ _ _ h hP hD hS dX8_hurt_34
        · have h := h.2 c11
          refine lv_iload_n hx hb dX8_hurt_14 rfl (lv_at hl 2 rfl) ?_
          refine lv_aload_n hx hb dX8_hurt_15 rfl (lv_at hl 0 rfl) ?_
          refine wx_get C hP (q := 0) (ci := 8) (Nat.le_of_ble_eq_true rfl) (eC_0 _) (Cn := RX8) (T := TX8) (Nf := 11) rfl inX8_hurt_X8 0 (by decide) (List.mem_of_getElem? (i := 2) rfl) (v := .ref (ad (cSt 0))) rfl dX8_hurt_16 ?_
          refine wx_get C hP (q := (cSt 0)) (ci := 5) (lt_st (Nat.le_of_ble_eq_true rfl)) (eC_st (Nat.le_of_ble_eq_true rfl) _) (Cn := RX5) (T := TX5) (Nf := 3) rfl inX8_hurt_X5 0 (by decide) (List.mem_of_getElem? (i := 3) rfl) (v := .ref (ad (cCo 0))) rfl dX8_hurt_19 ?_
          refine wx_get C hP (q := (cCo 0)) (ci := 1) (lt_co (Nat.le_of_ble_eq_true rfl)) (eC_co (Nat.le_of_ble_eq_true rfl) _) (Cn := RX1) (T := TX1) (Nf := 5) rfl inX8_hurt_X1 2 (by decide) (List.mem_of_getElem? (i := 4) rfl) (v := .int (σ (cCo 0) 2)) rfl dX8_hurt_22 ?_
          refine lv_icmp_le (tgt := 35) hx hb dX8_hurt_25 (by decide) (fun c25 => ?_) (fun c25 => ?_)
          · have h := h.1 c25
            refine lv_aload_n hx hb dX8_hurt_35 rfl (lv_at hl 0 rfl) ?_
            refine wx_get C hP (q := 0) (ci := 8) (Nat.le_of_ble_eq_true rfl) (eC_0 _) (Cn := RX8) (T := TX8) (Nf := 11) rfl inX8_hurt_X8 2 (by decide) (List.mem_of_getElem? (i := 5) rfl) (v := .ref (ad 41)) rfl dX8_hurt_36 ?_
            refine lv_aload_n hx hb dX8_hurt_39 rfl (lv_at hl 0 rfl) ?_
            refine wx_get C hP (q := 0) (ci := 8) (Nat.le_of_ble_eq_true rfl) (eC_0 _) (Cn := RX8) (T := TX8) (Nf := 11) rfl inX8_hurt_X8 0 (by decide) (List.mem_of_getElem? (i := 2) rfl) (v := .ref (ad (cSt 0))) rfl dX8_hurt_40 ?_
            refine wx_cv C hD hS (va_runV (As := [.ref (ad (cSt 0))]) (rest := []) C.1 (mtX4_keep (l := l) (D := D) (sz := H.size) (Nat.le_of_ble_eq_true rfl) h) (cwV 1 hts gX8_hurt_X4_keep rfl rfl rfl nyX4_keep ⟨Nat.le_of_ble_eq_true rfl, Nat.le_of_ble_eq_true rfl⟩) (wx_pv C hP hD hS (q := 41) (ci := 4) (Nat.le_of_ble_eq_true rfl) (eC_41 _) rfl) rfl rfl hl.1 rfl (lv_room (Nat.le_of_ble_eq_true rfl)) dX8_hurt_43 ⟨Nat.zero_le _, Nat.zero_le _⟩) (fun σ43 H locs h hP hD hS => ?_)
            refine lv_aload_n hx hb dX8_hurt_46 rfl (lv_at hl 0 rfl) ?_
            refine wx_get C hP (q := 0) (ci := 8) (Nat.le_of_ble_eq_true rfl) (eC_0 _) (Cn := RX8) (T := TX8) (Nf := 11) rfl inX8_hurt_X8 0 (by decide) (List.mem_of_getElem? (i := 2) rfl) (v := .ref (ad (cSt 0))) rfl dX8_hurt_47 ?_
            refine lv_dup hx hb dX8_hurt_50 rfl ?_
            refine wx_get C hP (q := (cSt 0)) (ci := 5) (lt_st (Nat.le_of_ble_eq_true rfl)) (eC_st (Nat.le_of_ble_eq_true rfl) _) (Cn := RX5) (T := TX5) (Nf := 3) rfl inX8_hurt_X5 2 (by decide) (List.mem_of_getElem? (i := 6) rfl) (v := .int (σ43 (cSt 0) 2)) rfl dX8_hurt_51 ?_
            refine lv_aload_n hx hb dX8_hurt_54 rfl (lv_at hl 0 rfl) ?_
            refine lv_iload_n hx hb dX8_hurt_55 rfl (lv_at hl 1 rfl) ?_
            refine lv_iload_n hx hb dX8_hurt_56 rfl (lv_at hl 2 rfl) ?_
            refine wx_ci C hD hS (va_runV (As := [.int x1, .int x2]) (rest := [.int (σ43 (cSt 0) 2), .ref (ad (cSt 0))]) C.1 (mtX8_drawPlaces (l := l) (D := D) (sz := H.size) h) (cwV 2 hts gX8_hurt_X8_drawPlaces rfl rfl rfl nyX8_drawPlaces ⟨Nat.le_of_ble_eq_true rfl, Nat.le_of_ble_eq_true rfl⟩) (wx_pv C hP hD hS (q := 0) (ci := 8) (Nat.le_of_ble_eq_true rfl) (eC_0 _) rfl) rfl rfl hl.1 rfl (lv_room (Nat.le_of_ble_eq_true rfl)) dX8_hurt_57 ⟨Nat.zero_le _, Nat.zero_le _⟩) (fun r57 σ57 H locs h hP hD hS => ?_)
            refine lv_ixor hx hb dX8_hurt_60 ?_
            refine wx_put C hP hD hS (q := (cSt 0)) (ci := 5) (lt_st (Nat.le_of_ble_eq_true rfl)) (eC_st (Nat.le_of_ble_eq_true rfl) _) (Cn := RX5) (T := TX5) (Nf := 3) rfl inX8_hurt_X5 tyX5 tyX5_ok nmX5 2 (by decide) (List.mem_of_getElem? (i := 6) rfl) rfl rfl (Nat.le_of_ble_eq_true rfl) (eC_st (Nat.le_of_ble_eq_true rfl) _) dX8_hurt_61 (fun H locs hP hD hS => ?_)
            generalize e_σ61 : wx_up σ57 (cSt 0) 2 ((σ43 (cSt 0) 2) ^^^ r57) = σ61 at hP hD
            have h := h σ61 e_σ61.symm
            refine lv_aload_n hx hb dX8_hurt_64 rfl (lv_at hl 0 rfl) ?_
            refine wx_ci C hD hS (va_runV (As := []) (rest := []) C.1 (mtX8_weight (l := l) (D := D) (sz := H.size) h) (cwV 0 hts gX8_hurt_X8_weight rfl rfl rfl nyX8_weight ⟨Nat.le_of_ble_eq_true rfl, Nat.le_of_ble_eq_true rfl⟩) (wx_pv C hP hD hS (q := 0) (ci := 8) (Nat.le_of_ble_eq_true rfl) (eC_0 _) rfl) rfl rfl hl.1 rfl (lv_room (Nat.le_of_ble_eq_true rfl)) dX8_hurt_65 ⟨Nat.zero_le _, Nat.zero_le _⟩) (fun r65 σ65 H locs h hP hD hS => ?_)
            exact Rt _ _ _ _ _ _ h hP hD hS dX8_hurt_68
          · have h := h.2 c25
            refine lv_aload_n hx hb dX8_hurt_28 rfl (lv_at hl 0 rfl) ?_
            refine lv_bipush (v := (-2)) hx hb dX8_hurt_29 (by decide) ?_
            refine wx_ci C hD hS (va_runV (As := [.int (-2)]) (rest := []) C.1 (mtX8_refuseBad (l := l) (D := D) (sz := H.size) h) (cwV 1 hts gX8_hurt_X8_refuseBad rfl rfl rfl nyX8_refuseBad ⟨Nat.le_of_ble_eq_true rfl, Nat.le_of_ble_eq_true rfl⟩) (wx_pv C hP hD hS (q := 0) (ci := 8) (Nat.le_of_ble_eq_true rfl) (eC_0 _) rfl) rfl rfl hl.1 rfl (lv_room (Nat.le_of_ble_eq_true rfl)) dX8_hurt_31 ⟨Nat.zero_le _, Nat.zero_le _⟩) (fun r31_3 σ31_3 H locs h hP hD hS => ?_)
            exact Rt _ _ _ _ _ _ h hP hD hS dX8_hurt_34
  rw [eH, eL] at goal
  exact goal
abbrev rmX8_now : Room := { frames := 1, cells := 0, slots := 0, locals := 40 }
set_option maxRecDepth 20000 in
theorem inX8_now_X5 : ∀ w ∈ u_ws RX5 TX5 3, w ∈ wsX8_now := by decide +kernel
set_option maxRecDepth 20000 in
theorem inX8_now_X8 : ∀ w ∈ u_ws RX8 TX8 11, w ∈ wsX8_now := by decide +kernel
set_option maxRecDepth 100000 in
set_option maxHeartbeats 4000000 in
theorem mtX8_now {l : Launch} {D : va_G} {cI cB cS cR : ClassId} {ad : Nat → Nat} {tS tP : Nat} {kS vS : Nat → Nat} {sz : Nat} {σ : wx_Z} {K : Int32 → wx_Z → Prop} (h : wpX8_now σ K) : Met l yX8_now wsX8_now rmX8_now (wx_Pre D [(cI, .int), (cB, .byte), (cS, .object RX5), (cR, .array .int)] (wC_RO tS tP kS vS) 58 (wC_E cI cB cS cR ad) ad σ sz [.ref (ad 0)]) (va_Qi K (wx_B D [(cI, .int), (cB, .byte), (cS, .object RX5), (cR, .array .int)] 58 (wC_E cI cB cS cR ad) ad (va_A (wx_w 58 (wC_E cI cB cS cR ad) ad σ) sz)) (va_A (wx_w 58 (wC_E cI cB cS cR ad) ad σ) sz)) 0 0 (va_A (wx_w 58 (wC_E cI cB cS cR ad) ad σ) sz) := by
  unfold wpX8_now at h
  refine wx_meti (cc := cX8_now) (maxL := 1) (own := RX8) rfl (by decide) rfl (Nat.le_of_ble_eq_true rfl) (wC_ROok tS tP kS vS) ?_
  intro p e s m args below meth c A Q ls C Rt hP hD hS hl
  obtain ⟨⟨hx, hb, hml, hown, hts⟩, hA, hK, hRO, hro⟩ := id C
  have hl : lv_has ls 1 [(0, .ref (ad 0))] := hl
  obtain ⟨H, eH⟩ : ∃ z, z = s.heap := ⟨_, rfl⟩
  obtain ⟨locs, eL⟩ : ∃ z : List Loc, z = [] := ⟨_, rfl⟩
  rw [← eH] at hP
  have hS : va_S A s.heap H locs := by rw [eH, eL]; exact hS
  have goal : W p l e rmX8_now s m args below meth c H locs 0 0 Q (F0 m 0 ls []) := by
    refine lv_aload_n hx hb dX8_now_0 rfl (lv_at hl 0 rfl) ?_
    refine wx_get C hP (q := 0) (ci := 8) (Nat.le_of_ble_eq_true rfl) (eC_0 _) (Cn := RX8) (T := TX8) (Nf := 11) rfl inX8_now_X8 0 (by decide) (List.mem_of_getElem? (i := 1) rfl) (v := .ref (ad (cSt 0))) rfl dX8_now_1 ?_
    refine wx_get C hP (q := (cSt 0)) (ci := 5) (lt_st (Nat.le_of_ble_eq_true rfl)) (eC_st (Nat.le_of_ble_eq_true rfl) _) (Cn := RX5) (T := TX5) (Nf := 3) rfl inX8_now_X5 2 (by decide) (List.mem_of_getElem? (i := 2) rfl) (v := .int (σ (cSt 0) 2)) rfl dX8_now_4 ?_
    exact Rt _ _ _ _ _ _ h hP hD hS dX8_now_7
  rw [eH, eL] at goal
  exact goal
abbrev rmX8_at : Room := { frames := 2, cells := 0, slots := 0, locals := 61 }
set_option maxRecDepth 20000 in
theorem inX8_at_X5 : ∀ w ∈ u_ws RX5 TX5 3, w ∈ wsX8_at := by decide +kernel
set_option maxRecDepth 20000 in
theorem inX8_at_X8 : ∀ w ∈ u_ws RX8 TX8 11, w ∈ wsX8_at := by decide +kernel
set_option maxRecDepth 100000 in
set_option maxHeartbeats 4000000 in
theorem mtX8_at {l : Launch} {D : va_G} {cI cB cS cR : ClassId} {ad : Nat → Nat} {tS tP : Nat} {kS vS : Nat → Nat} {sz : Nat} {σ : wx_Z} {x1 : Int32} {K : Int32 → wx_Z → Prop} (h : wpX8_at σ x1 K) : Met l yX8_at wsX8_at rmX8_at (wx_Pre D [(cI, .int), (cB, .byte), (cS, .object RX5), (cR, .array .int)] (wC_RO tS tP kS vS) 58 (wC_E cI cB cS cR ad) ad σ sz [.ref (ad 0), .int x1]) (va_Qi K (wx_B D [(cI, .int), (cB, .byte), (cS, .object RX5), (cR, .array .int)] 58 (wC_E cI cB cS cR ad) ad (va_A (wx_w 58 (wC_E cI cB cS cR ad) ad σ) sz)) (va_A (wx_w 58 (wC_E cI cB cS cR ad) ad σ) sz)) 0 0 (va_A (wx_w 58 (wC_E cI cB cS cR ad) ad σ) sz) := by
  unfold wpX8_at at h
  refine wx_meti (cc := cX8_at) (maxL := 2) (own := RX8) rfl (by decide) rfl (Nat.le_of_ble_eq_true rfl) (wC_ROok tS tP kS vS) ?_
  intro p e s m args below meth c A Q ls C Rt hP hD hS hl
  obtain ⟨⟨hx, hb, hml, hown, hts⟩, hA, hK, hRO, hro⟩ := id C
  have hl : lv_has ls 2 [(0, .ref (ad 0)), (1, .int x1)] := hl
  obtain ⟨H, eH⟩ : ∃ z, z = s.heap := ⟨_, rfl⟩
  obtain ⟨locs, eL⟩ : ∃ z : List Loc, z = [] := ⟨_, rfl⟩
  rw [← eH] at hP
  have hS : va_S A s.heap H locs := by rw [eH, eL]; exact hS
  have goal : W p l e rmX8_at s m args below meth c H locs 0 0 Q (F0 m 0 ls []) := by
    refine lv_aload_n hx hb dX8_at_0 rfl (lv_at hl 0 rfl) ?_
    refine wx_get C hP (q := 0) (ci := 8) (Nat.le_of_ble_eq_true rfl) (eC_0 _) (Cn := RX8) (T := TX8) (Nf := 11) rfl inX8_at_X8 0 (by decide) (List.mem_of_getElem? (i := 1) rfl) (v := .ref (ad (cSt 0))) rfl dX8_at_1 ?_
    refine wx_get C hP (q := (cSt 0)) (ci := 5) (lt_st (Nat.le_of_ble_eq_true rfl)) (eC_st (Nat.le_of_ble_eq_true rfl) _) (Cn := RX5) (T := TX5) (Nf := 3) rfl inX8_at_X5 0 (by decide) (List.mem_of_getElem? (i := 2) rfl) (v := .ref (ad (cCo 0))) rfl dX8_at_4 ?_
    refine lv_iload_n hx hb dX8_at_7 rfl (lv_at hl 1 rfl) ?_
    refine wx_ci C hD hS (va_runV (As := [.int x1]) (rest := []) C.1 (mtX1_hasPlace (l := l) (D := D) (sz := H.size) (Nat.le_of_ble_eq_true rfl) h) (cwV 1 hts gX8_at_X1_hasPlace rfl rfl rfl nyX1_hasPlace ⟨Nat.le_of_ble_eq_true rfl, Nat.le_of_ble_eq_true rfl⟩) (wx_pv C hP hD hS (q := (cCo 0)) (ci := 1) (lt_co (Nat.le_of_ble_eq_true rfl)) (eC_co (Nat.le_of_ble_eq_true rfl) _) rfl) rfl rfl hl.1 rfl (lv_room (Nat.le_of_ble_eq_true rfl)) dX8_at_8 ⟨Nat.zero_le _, Nat.zero_le _⟩) (fun r8 σ8 H locs h hP hD hS => ?_)
    refine lv_if_eq (tgt := 25) hx hb dX8_at_11 (by decide) (fun c11 => ?_) (fun c11 => ?_)
    · have h := h.1 c11
      refine lv_aload_n hx hb dX8_at_25 rfl (lv_at hl 0 rfl) ?_
      refine lv_bipush (v := (-2)) hx hb dX8_at_26 (by decide) ?_
      refine wx_ci C hD hS (va_runV (As := [.int (-2)]) (rest := []) C.1 (mtX8_refuseBad (l := l) (D := D) (sz := H.size) h) (cwV 1 hts gX8_at_X8_refuseBad rfl rfl rfl nyX8_refuseBad ⟨Nat.le_of_ble_eq_true rfl, Nat.le_of_ble_eq_true rfl⟩) (wx_pv C hP hD hS (q := 0) (ci := 8) (Nat.le_of_ble_eq_true rfl) (eC_0 _) rfl) rfl rfl hl.1 rfl (lv_room (Nat.le_of_ble_eq_true rfl)) dX8_at_28 ⟨Nat.zero_le _, Nat.zero_le _⟩) (fun r28 σ28 H locs h hP hD hS => ?_)
      exact Rt _ _ _ _ _ _ h hP hD hS dX8_at_31
    · have h := h.2 c11
      refine lv_aload_n hx hb dX8_at_14 rfl (lv_at hl 0 rfl) ?_
      refine wx_get C hP (q := 0) (ci := 8) (Nat.le_of_ble_eq_true rfl) (eC_0 _) (Cn := RX8) (T := TX8) (Nf := 11) rfl inX8_at_X8 0 (by decide) (List.mem_of_getElem? (i := 1) rfl) (v := .ref (ad (cSt 0))) rfl dX8_at_15 ?_
      refine lv_iload_n hx hb dX8_at_18 rfl (lv_at hl 1 rfl) ?_
      refine wx_ci C hD hS (va_runV (As := [.int x1]) (rest := []) C.1 (mtX5_bit (l := l) (D := D) (sz := H.size) (Nat.le_of_ble_eq_true rfl) h) (cwV 1 hts gX8_at_X5_bit rfl rfl rfl nyX5_bit ⟨Nat.le_of_ble_eq_true rfl, Nat.le_of_ble_eq_true rfl⟩) (wx_pv C hP hD hS (q := (cSt 0)) (ci := 5) (lt_st (Nat.le_of_ble_eq_true rfl)) (eC_st (Nat.le_of_ble_eq_true rfl) _) rfl) rfl rfl hl.1 rfl (lv_room (Nat.le_of_ble_eq_true rfl)) dX8_at_19 ⟨Nat.zero_le _, Nat.zero_le _⟩) (fun r19 σ19 H locs h hP hD hS => ?_)
      refine lv_goto (tgt := 31) hx hb dX8_at_22 (by decide) ?_
      exact Rt _ _ _ _ _ _ h hP hD hS dX8_at_31
  rw [eH, eL] at goal
  exact goal
abbrev rmX8_isWord : Room := { frames := 2, cells := 0, slots := 0, locals := 63 }
set_option maxRecDepth 20000 in
theorem inX8_isWord_X5 : ∀ w ∈ u_ws RX5 TX5 3, w ∈ wsX8_isWord := by decide +kernel
set_option maxRecDepth 20000 in
theorem inX8_isWord_X8 : ∀ w ∈ u_ws RX8 TX8 11, w ∈ wsX8_isWord := by decide +kernel
theorem nyX1_termPlaces : yX1_termPlaces.cls = RX1 ∧ yX1_termPlaces.cls ≠ "java/lang/invoke/MethodHandle" ∧ yX1_termPlaces.cls ≠ "java/lang/invoke/VarHandle" ∧ (parseMethodDescriptor yX1_termPlaces.desc).map (fun d => d.parameters.length) = some 0 := by decide +kernel
set_option maxRecDepth 100000 in
set_option maxHeartbeats 4000000 in
theorem mtX8_isWord {l : Launch} {D : va_G} {cI cB cS cR : ClassId} {ad : Nat → Nat} {tS tP : Nat} {kS vS : Nat → Nat} {sz : Nat} {σ : wx_Z} {K : Int32 → wx_Z → Prop} (h : wpX8_isWord σ K) : Met l yX8_isWord wsX8_isWord rmX8_isWord (wx_Pre D [(cI, .int), (cB, .byte), (cS, .object RX5), (cR, .array .int)] (wC_RO tS tP kS vS) 58 (wC_E cI cB cS cR ad) ad σ sz [.ref (ad 0)]) (va_Qi K (wx_B D [(cI, .int), (cB, .byte), (cS, .object RX5), (cR, .array .int)] 58 (wC_E cI cB cS cR ad) ad (va_A (wx_w 58 (wC_E cI cB cS cR ad) ad σ) sz)) (va_A (wx_w 58 (wC_E cI cB cS cR ad) ad σ) sz)) 0 0 (va_A (wx_w 58 (wC_E cI cB cS cR ad) ad σ) sz) := by
  unfold wpX8_isWord at h
  refine wx_meti (cc := cX8_isWord) (maxL := 2) (own := RX8) rfl (by decide) rfl (Nat.le_of_ble_eq_true rfl) (wC_ROok tS tP kS vS) ?_
  intro p e s m args below meth c A Q ls C Rt hP hD hS hl
  obtain ⟨⟨hx, hb, hml, hown, hts⟩, hA, hK, hRO, hro⟩ := id C
  have hl : lv_has ls 2 [(0, .ref (ad 0))] := hl
  obtain ⟨H, eH⟩ : ∃ z, z = s.heap := ⟨_, rfl⟩
  obtain ⟨locs, eL⟩ : ∃ z : List Loc, z = [] := ⟨_, rfl⟩
  rw [← eH] at hP
  have hS : va_S A s.heap H locs := by rw [eH, eL]; exact hS
  have goal : W p l e rmX8_isWord s m args below meth c H locs 0 0 Q (F0 m 0 ls []) := by
    refine lv_aload_n hx hb dX8_isWord_0 rfl (lv_at hl 0 rfl) ?_
    refine wx_get C hP (q := 0) (ci := 8) (Nat.le_of_ble_eq_true rfl) (eC_0 _) (Cn := RX8) (T := TX8) (Nf := 11) rfl inX8_isWord_X8 0 (by decide) (List.mem_of_getElem? (i := 1) rfl) (v := .ref (ad (cSt 0))) rfl dX8_isWord_1 ?_
    refine wx_get C hP (q := (cSt 0)) (ci := 5) (lt_st (Nat.le_of_ble_eq_true rfl)) (eC_st (Nat.le_of_ble_eq_true rfl) _) (Cn := RX5) (T := TX5) (Nf := 3) rfl inX8_isWord_X5 0 (by decide) (List.mem_of_getElem? (i := 2) rfl) (v := .ref (ad (cCo 0))) rfl dX8_isWord_4 ?_
    refine lv_aload_n hx hb dX8_isWord_7 rfl (lv_at hl 0 rfl) ?_
    refine wx_get C hP (q := 0) (ci := 8) (Nat.le_of_ble_eq_true rfl) (eC_0 _) (Cn := RX8) (T := TX8) (Nf := 11) rfl inX8_isWord_X8 0 (by decide) (List.mem_of_getElem? (i := 1) rfl) (v := .ref (ad (cSt 0))) rfl dX8_isWord_8 ?_
    refine wx_get C hP (q := (cSt 0)) (ci := 5) (lt_st (Nat.le_of_ble_eq_true rfl)) (eC_st (Nat.le_of_ble_eq_true rfl) _) (Cn := RX5) (T := TX5) (Nf := 3) rfl inX8_isWord_X5 2 (by decide) (List.mem_of_getElem? (i := 3) rfl) (v := .int (σ (cSt 0) 2)) rfl dX8_isWord_11 ?_
    refine wx_ci C hD hS (va_runV (As := [.int (σ (cSt 0) 2)]) (rest := []) C.1 (mtX1_summed (l := l) (D := D) (sz := H.size) (Nat.le_of_ble_eq_true rfl) h) (cwV 1 hts gX8_isWord_X1_summed rfl rfl rfl nyX1_summed ⟨Nat.le_of_ble_eq_true rfl, Nat.le_of_ble_eq_true rfl⟩) (wx_pv C hP hD hS (q := (cCo 0)) (ci := 1) (lt_co (Nat.le_of_ble_eq_true rfl)) (eC_co (Nat.le_of_ble_eq_true rfl) _) rfl) rfl rfl hl.1 rfl (lv_room (Nat.le_of_ble_eq_true rfl)) dX8_isWord_14 ⟨Nat.zero_le _, Nat.zero_le _⟩) (fun r14 σ14 H locs h hP hD hS => ?_)
    refine lv_aload_n hx hb dX8_isWord_17 rfl (lv_at hl 0 rfl) ?_
    refine wx_get C hP (q := 0) (ci := 8) (Nat.le_of_ble_eq_true rfl) (eC_0 _) (Cn := RX8) (T := TX8) (Nf := 11) rfl inX8_isWord_X8 0 (by decide) (List.mem_of_getElem? (i := 1) rfl) (v := .ref (ad (cSt 0))) rfl dX8_isWord_18 ?_
    refine wx_get C hP (q := (cSt 0)) (ci := 5) (lt_st (Nat.le_of_ble_eq_true rfl)) (eC_st (Nat.le_of_ble_eq_true rfl) _) (Cn := RX5) (T := TX5) (Nf := 3) rfl inX8_isWord_X5 0 (by decide) (List.mem_of_getElem? (i := 2) rfl) (v := .ref (ad (cCo 0))) rfl dX8_isWord_21 ?_
    refine wx_ci C hD hS (va_runV (As := []) (rest := [.int r14]) C.1 (mtX1_termPlaces (l := l) (D := D) (sz := H.size) (Nat.le_of_ble_eq_true rfl) h) (cwV 0 hts gX8_isWord_X1_termPlaces rfl rfl rfl nyX1_termPlaces ⟨Nat.le_of_ble_eq_true rfl, Nat.le_of_ble_eq_true rfl⟩) (wx_pv C hP hD hS (q := (cCo 0)) (ci := 1) (lt_co (Nat.le_of_ble_eq_true rfl)) (eC_co (Nat.le_of_ble_eq_true rfl) _) rfl) rfl rfl hl.1 rfl (lv_room (Nat.le_of_ble_eq_true rfl)) dX8_isWord_24 ⟨Nat.zero_le _, Nat.zero_le _⟩) (fun r24 σ24 H locs h hP hD hS => ?_)
    refine lv_iconst (v := (-1)) hx hb dX8_isWord_27 (by decide) ?_
    refine lv_ixor hx hb dX8_isWord_28 ?_
    refine lv_iand hx hb dX8_isWord_29 ?_
    refine lv_topi (fun t30 e_t30 => ?_)
    have h := h t30 e_t30
    refine lv_istore_n (lv' := [(1, .int t30), (0, .ref (ad 0))]) hx hb dX8_isWord_30 rfl hl (by decide) rfl (fun ls hl => ?_)
    refine lv_iload_n hx hb dX8_isWord_31 rfl (lv_at hl 0 rfl) ?_
    refine lv_if_ne (tgt := 39) hx hb dX8_isWord_32 (by decide) (fun c32 => ?_) (fun c32 => ?_)
    · have h := h.1 c32
      refine lv_iconst (v := 0) hx hb dX8_isWord_39 (by decide) ?_
      exact Rt _ _ _ _ _ _ h hP hD hS dX8_isWord_40
    · have h := h.2 c32
      refine lv_iconst (v := 1) hx hb dX8_isWord_35 (by decide) ?_
      refine lv_goto (tgt := 40) hx hb dX8_isWord_36 (by decide) ?_
      exact Rt _ _ _ _ _ _ h hP hD hS dX8_isWord_40
  rw [eH, eL] at goal
  exact goal
abbrev rmX8_coefficient : Room := { frames := 2, cells := 0, slots := 0, locals := 66 }
set_option maxRecDepth 20000 in
theorem inX8_coefficient_X5 : ∀ w ∈ u_ws RX5 TX5 3, w ∈ wsX8_coefficient := by decide +kernel
set_option maxRecDepth 20000 in
theorem inX8_coefficient_X8 : ∀ w ∈ u_ws RX8 TX8 11, w ∈ wsX8_coefficient := by decide +kernel
theorem nyX1_setAt : yX1_setAt.cls = RX1 ∧ yX1_setAt.cls ≠ "java/lang/invoke/MethodHandle" ∧ yX1_setAt.cls ≠ "java/lang/invoke/VarHandle" ∧ (parseMethodDescriptor yX1_setAt.desc).map (fun d => d.parameters.length) = some 1 := by decide +kernel
set_option maxRecDepth 100000 in
set_option maxHeartbeats 4000000 in
theorem mtX8_coefficient {l : Launch} {D : va_G} {cI cB cS cR : ClassId} {ad : Nat → Nat} {tS tP : Nat} {kS vS : Nat → Nat} {sz : Nat} {σ : wx_Z} {x1 : Int32} {K : Int32 → wx_Z → Prop} (h : wpX8_coefficient σ x1 K) : Met l yX8_coefficient wsX8_coefficient rmX8_coefficient (wx_Pre D [(cI, .int), (cB, .byte), (cS, .object RX5), (cR, .array .int)] (wC_RO tS tP kS vS) 58 (wC_E cI cB cS cR ad) ad σ sz [.ref (ad 0), .int x1]) (va_Qi K (wx_B D [(cI, .int), (cB, .byte), (cS, .object RX5), (cR, .array .int)] 58 (wC_E cI cB cS cR ad) ad (va_A (wx_w 58 (wC_E cI cB cS cR ad) ad σ) sz)) (va_A (wx_w 58 (wC_E cI cB cS cR ad) ad σ) sz)) 0 0 (va_A (wx_w 58 (wC_E cI cB cS cR ad) ad σ) sz) := by
  unfold wpX8_coefficient at h
  refine wx_meti (cc := cX8_coefficient) (maxL := 2) (own := RX8) rfl (by decide) rfl (Nat.le_of_ble_eq_true rfl) (wC_ROok tS tP kS vS) ?_
  intro p e s m args below meth c A Q ls C Rt hP hD hS hl
  obtain ⟨⟨hx, hb, hml, hown, hts⟩, hA, hK, hRO, hro⟩ := id C
  have hl : lv_has ls 2 [(0, .ref (ad 0)), (1, .int x1)] := hl
  obtain ⟨H, eH⟩ : ∃ z, z = s.heap := ⟨_, rfl⟩
  obtain ⟨locs, eL⟩ : ∃ z : List Loc, z = [] := ⟨_, rfl⟩
  rw [← eH] at hP
  have hS : va_S A s.heap H locs := by rw [eH, eL]; exact hS
  have goal : W p l e rmX8_coefficient s m args below meth c H locs 0 0 Q (F0 m 0 ls []) := by
    refine lv_aload_n hx hb dX8_coefficient_0 rfl (lv_at hl 0 rfl) ?_
    refine wx_get C hP (q := 0) (ci := 8) (Nat.le_of_ble_eq_true rfl) (eC_0 _) (Cn := RX8) (T := TX8) (Nf := 11) rfl inX8_coefficient_X8 0 (by decide) (List.mem_of_getElem? (i := 1) rfl) (v := .ref (ad (cSt 0))) rfl dX8_coefficient_1 ?_
    refine wx_get C hP (q := (cSt 0)) (ci := 5) (lt_st (Nat.le_of_ble_eq_true rfl)) (eC_st (Nat.le_of_ble_eq_true rfl) _) (Cn := RX5) (T := TX5) (Nf := 3) rfl inX8_coefficient_X5 0 (by decide) (List.mem_of_getElem? (i := 2) rfl) (v := .ref (ad (cCo 0))) rfl dX8_coefficient_4 ?_
    refine lv_iload_n hx hb dX8_coefficient_7 rfl (lv_at hl 1 rfl) ?_
    refine wx_ci C hD hS (va_runV (As := [.int x1]) (rest := []) C.1 (mtX1_hasPlace (l := l) (D := D) (sz := H.size) (Nat.le_of_ble_eq_true rfl) h) (cwV 1 hts gX8_coefficient_X1_hasPlace rfl rfl rfl nyX1_hasPlace ⟨Nat.le_of_ble_eq_true rfl, Nat.le_of_ble_eq_true rfl⟩) (wx_pv C hP hD hS (q := (cCo 0)) (ci := 1) (lt_co (Nat.le_of_ble_eq_true rfl)) (eC_co (Nat.le_of_ble_eq_true rfl) _) rfl) rfl rfl hl.1 rfl (lv_room (Nat.le_of_ble_eq_true rfl)) dX8_coefficient_8 ⟨Nat.zero_le _, Nat.zero_le _⟩) (fun r8 σ8 H locs h hP hD hS => ?_)
    refine lv_if_ne (tgt := 21) hx hb dX8_coefficient_11 (by decide) (fun c11 => ?_) (fun c11 => ?_)
    · have h := h.1 c11
      refine lv_aload_n hx hb dX8_coefficient_21 rfl (lv_at hl 0 rfl) ?_
      refine wx_get C hP (q := 0) (ci := 8) (Nat.le_of_ble_eq_true rfl) (eC_0 _) (Cn := RX8) (T := TX8) (Nf := 11) rfl inX8_coefficient_X8 0 (by decide) (List.mem_of_getElem? (i := 1) rfl) (v := .ref (ad (cSt 0))) rfl dX8_coefficient_22 ?_
      refine wx_get C hP (q := (cSt 0)) (ci := 5) (lt_st (Nat.le_of_ble_eq_true rfl)) (eC_st (Nat.le_of_ble_eq_true rfl) _) (Cn := RX5) (T := TX5) (Nf := 3) rfl inX8_coefficient_X5 0 (by decide) (List.mem_of_getElem? (i := 2) rfl) (v := .ref (ad (cCo 0))) rfl dX8_coefficient_25 ?_
      refine lv_aload_n hx hb dX8_coefficient_28 rfl (lv_at hl 0 rfl) ?_
      refine wx_get C hP (q := 0) (ci := 8) (Nat.le_of_ble_eq_true rfl) (eC_0 _) (Cn := RX8) (T := TX8) (Nf := 11) rfl inX8_coefficient_X8 0 (by decide) (List.mem_of_getElem? (i := 1) rfl) (v := .ref (ad (cSt 0))) rfl dX8_coefficient_29 ?_
      refine wx_get C hP (q := (cSt 0)) (ci := 5) (lt_st (Nat.le_of_ble_eq_true rfl)) (eC_st (Nat.le_of_ble_eq_true rfl) _) (Cn := RX5) (T := TX5) (Nf := 3) rfl inX8_coefficient_X5 2 (by decide) (List.mem_of_getElem? (i := 3) rfl) (v := .int (σ8 (cSt 0) 2)) rfl dX8_coefficient_32 ?_
      refine wx_ci C hD hS (va_runV (As := [.int (σ8 (cSt 0) 2)]) (rest := []) C.1 (mtX1_summed (l := l) (D := D) (sz := H.size) (Nat.le_of_ble_eq_true rfl) h) (cwV 1 hts gX8_coefficient_X1_summed rfl rfl rfl nyX1_summed ⟨Nat.le_of_ble_eq_true rfl, Nat.le_of_ble_eq_true rfl⟩) (wx_pv C hP hD hS (q := (cCo 0)) (ci := 1) (lt_co (Nat.le_of_ble_eq_true rfl)) (eC_co (Nat.le_of_ble_eq_true rfl) _) rfl) rfl rfl hl.1 rfl (lv_room (Nat.le_of_ble_eq_true rfl)) dX8_coefficient_35 ⟨Nat.zero_le _, Nat.zero_le _⟩) (fun r35 σ35 H locs h hP hD hS => ?_)
      refine lv_aload_n hx hb dX8_coefficient_38 rfl (lv_at hl 0 rfl) ?_
      refine wx_get C hP (q := 0) (ci := 8) (Nat.le_of_ble_eq_true rfl) (eC_0 _) (Cn := RX8) (T := TX8) (Nf := 11) rfl inX8_coefficient_X8 0 (by decide) (List.mem_of_getElem? (i := 1) rfl) (v := .ref (ad (cSt 0))) rfl dX8_coefficient_39 ?_
      refine wx_get C hP (q := (cSt 0)) (ci := 5) (lt_st (Nat.le_of_ble_eq_true rfl)) (eC_st (Nat.le_of_ble_eq_true rfl) _) (Cn := RX5) (T := TX5) (Nf := 3) rfl inX8_coefficient_X5 0 (by decide) (List.mem_of_getElem? (i := 2) rfl) (v := .ref (ad (cCo 0))) rfl dX8_coefficient_42 ?_
      refine lv_iload_n hx hb dX8_coefficient_45 rfl (lv_at hl 1 rfl) ?_
      refine wx_ci C hD hS (va_runV (As := [.int x1]) (rest := [.int r35]) C.1 (mtX1_setAt (l := l) (D := D) (sz := H.size) (Nat.le_of_ble_eq_true rfl) h) (cwV 1 hts gX8_coefficient_X1_setAt rfl rfl rfl nyX1_setAt ⟨Nat.le_of_ble_eq_true rfl, Nat.le_of_ble_eq_true rfl⟩) (wx_pv C hP hD hS (q := (cCo 0)) (ci := 1) (lt_co (Nat.le_of_ble_eq_true rfl)) (eC_co (Nat.le_of_ble_eq_true rfl) _) rfl) rfl rfl hl.1 rfl (lv_room (Nat.le_of_ble_eq_true rfl)) dX8_coefficient_46 ⟨Nat.zero_le _, Nat.zero_le _⟩) (fun r46 σ46 H locs h hP hD hS => ?_)
      refine lv_iushr (v := wx_us r35 r46) hx hb dX8_coefficient_49 rfl ?_
      refine lv_iconst (v := 1) hx hb dX8_coefficient_50 (by decide) ?_
      refine lv_iand hx hb dX8_coefficient_51 ?_
      exact Rt _ _ _ _ _ _ h hP hD hS dX8_coefficient_52
    · have h := h.2 c11
      refine lv_aload_n hx hb dX8_coefficient_14 rfl (lv_at hl 0 rfl) ?_
      refine lv_bipush (v := (-2)) hx hb dX8_coefficient_15 (by decide) ?_
      refine wx_ci C hD hS (va_runV (As := [.int (-2)]) (rest := []) C.1 (mtX8_refuseBad (l := l) (D := D) (sz := H.size) h) (cwV 1 hts gX8_coefficient_X8_refuseBad rfl rfl rfl nyX8_refuseBad ⟨Nat.le_of_ble_eq_true rfl, Nat.le_of_ble_eq_true rfl⟩) (wx_pv C hP hD hS (q := 0) (ci := 8) (Nat.le_of_ble_eq_true rfl) (eC_0 _) rfl) rfl rfl hl.1 rfl (lv_room (Nat.le_of_ble_eq_true rfl)) dX8_coefficient_17 ⟨Nat.zero_le _, Nat.zero_le _⟩) (fun r17 σ17 H locs h hP hD hS => ?_)
      exact Rt _ _ _ _ _ _ h hP hD hS dX8_coefficient_20
  rw [eH, eL] at goal
  exact goal
abbrev rmX8_votes : Room := { frames := 6, cells := 0, slots := 0, locals := 155 }
set_option maxRecDepth 20000 in
theorem inX8_votes_X0 : ∀ w ∈ u_ws RX0 TX0 5, w ∈ wsX8_votes := by decide +kernel
set_option maxRecDepth 20000 in
theorem inX8_votes_X5 : ∀ w ∈ u_ws RX5 TX5 3, w ∈ wsX8_votes := by decide +kernel
set_option maxRecDepth 20000 in
theorem inX8_votes_X8 : ∀ w ∈ u_ws RX8 TX8 11, w ∈ wsX8_votes := by decide +kernel
theorem nyX0_hold : yX0_hold.cls = RX0 ∧ yX0_hold.cls ≠ "java/lang/invoke/MethodHandle" ∧ yX0_hold.cls ≠ "java/lang/invoke/VarHandle" ∧ (parseMethodDescriptor yX0_hold.desc).map (fun d => d.parameters.length) = some 2 := by decide +kernel
set_option maxRecDepth 100000 in
set_option maxHeartbeats 4000000 in
theorem mtX8_votes {l : Launch} {D : va_G} {cI cB cS cR : ClassId} {ad : Nat → Nat} {tS tP : Nat} {kS vS : Nat → Nat} {sz : Nat} {σ : wx_Z} {K : Int32 → wx_Z → Prop} (h : wpX8_votes σ K) : Met l yX8_votes wsX8_votes rmX8_votes (wx_Pre D [(cI, .int), (cB, .byte), (cS, .object RX5), (cR, .array .int)] (wC_RO tS tP kS vS) 58 (wC_E cI cB cS cR ad) ad σ sz [.ref (ad 0)]) (va_Qi K (wx_B D [(cI, .int), (cB, .byte), (cS, .object RX5), (cR, .array .int)] 58 (wC_E cI cB cS cR ad) ad (va_A (wx_w 58 (wC_E cI cB cS cR ad) ad σ) sz)) (va_A (wx_w 58 (wC_E cI cB cS cR ad) ad σ) sz)) 0 0 (va_A (wx_w 58 (wC_E cI cB cS cR ad) ad σ) sz) := by
  unfold wpX8_votes at h
  refine wx_meti (cc := cX8_votes) (maxL := 1) (own := RX8) rfl (by decide) rfl (Nat.le_of_ble_eq_true rfl) (wC_ROok tS tP kS vS) ?_
  intro p e s m args below meth c A Q ls C Rt hP hD hS hl
  obtain ⟨⟨hx, hb, hml, hown, hts⟩, hA, hK, hRO, hro⟩ := id C
  have hl : lv_has ls 1 [(0, .ref (ad 0))] := hl
  obtain ⟨H, eH⟩ : ∃ z, z = s.heap := ⟨_, rfl⟩
  obtain ⟨locs, eL⟩ : ∃ z : List Loc, z = [] := ⟨_, rfl⟩
  rw [← eH] at hP
  have hS : va_S A s.heap H locs := by rw [eH, eL]; exact hS
  have goal : W p l e rmX8_votes s m args below meth c H locs 0 0 Q (F0 m 0 ls []) := by
    refine lv_aload_n hx hb dX8_votes_0 rfl (lv_at hl 0 rfl) ?_
    refine wx_get C hP (q := 0) (ci := 8) (Nat.le_of_ble_eq_true rfl) (eC_0 _) (Cn := RX8) (T := TX8) (Nf := 11) rfl inX8_votes_X8 4 (by decide) (List.mem_of_getElem? (i := 1) rfl) (v := .ref (ad 45)) rfl dX8_votes_1 ?_
    refine lv_aload_n hx hb dX8_votes_4 rfl (lv_at hl 0 rfl) ?_
    refine wx_get C hP (q := 0) (ci := 8) (Nat.le_of_ble_eq_true rfl) (eC_0 _) (Cn := RX8) (T := TX8) (Nf := 11) rfl inX8_votes_X8 0 (by decide) (List.mem_of_getElem? (i := 2) rfl) (v := .ref (ad (cSt 0))) rfl dX8_votes_5 ?_
    refine wx_get C hP (q := (cSt 0)) (ci := 5) (lt_st (Nat.le_of_ble_eq_true rfl)) (eC_st (Nat.le_of_ble_eq_true rfl) _) (Cn := RX5) (T := TX5) (Nf := 3) rfl inX8_votes_X5 0 (by decide) (List.mem_of_getElem? (i := 3) rfl) (v := .ref (ad (cCo 0))) rfl dX8_votes_8 ?_
    refine lv_aload_n hx hb dX8_votes_11 rfl (lv_at hl 0 rfl) ?_
    refine wx_get C hP (q := 0) (ci := 8) (Nat.le_of_ble_eq_true rfl) (eC_0 _) (Cn := RX8) (T := TX8) (Nf := 11) rfl inX8_votes_X8 0 (by decide) (List.mem_of_getElem? (i := 2) rfl) (v := .ref (ad (cSt 0))) rfl dX8_votes_12 ?_
    refine wx_get C hP (q := (cSt 0)) (ci := 5) (lt_st (Nat.le_of_ble_eq_true rfl)) (eC_st (Nat.le_of_ble_eq_true rfl) _) (Cn := RX5) (T := TX5) (Nf := 3) rfl inX8_votes_X5 2 (by decide) (List.mem_of_getElem? (i := 4) rfl) (v := .int (σ (cSt 0) 2)) rfl dX8_votes_15 ?_
    refine wx_cv C hD hS (va_runV (As := [.ref (ad (cCo 0)), .int (σ (cSt 0) 2)]) (rest := []) C.1 (mtX0_hold (l := l) (D := D) (sz := H.size) (Nat.le_of_ble_eq_true rfl) h) (cwV 2 hts gX8_votes_X0_hold rfl rfl rfl nyX0_hold ⟨Nat.le_of_ble_eq_true rfl, Nat.le_of_ble_eq_true rfl⟩) (wx_pv C hP hD hS (q := 45) (ci := 0) (Nat.le_of_ble_eq_true rfl) (eC_45 _) rfl) rfl rfl hl.1 rfl (lv_room (Nat.le_of_ble_eq_true rfl)) dX8_votes_18 ⟨Nat.zero_le _, Nat.zero_le _⟩) (fun σ18 H locs h hP hD hS => ?_)
    refine lv_aload_n hx hb dX8_votes_21 rfl (lv_at hl 0 rfl) ?_
    refine wx_get C hP (q := 0) (ci := 8) (Nat.le_of_ble_eq_true rfl) (eC_0 _) (Cn := RX8) (T := TX8) (Nf := 11) rfl inX8_votes_X8 4 (by decide) (List.mem_of_getElem? (i := 1) rfl) (v := .ref (ad 45)) rfl dX8_votes_22 ?_
    refine wx_get C hP (q := 45) (ci := 0) (Nat.le_of_ble_eq_true rfl) (eC_45 _) (Cn := RX0) (T := TX0) (Nf := 5) rfl inX8_votes_X0 0 (by decide) (List.mem_of_getElem? (i := 5) rfl) (v := .int (σ18 45 0)) rfl dX8_votes_25 ?_
    exact Rt _ _ _ _ _ _ h hP hD hS dX8_votes_28
  rw [eH, eL] at goal
  exact goal
abbrev rmX8_vote : Room := { frames := 6, cells := 0, slots := 0, locals := 155 }
set_option maxRecDepth 20000 in
theorem inX8_vote_X0 : ∀ w ∈ u_ws RX0 TX0 5, w ∈ wsX8_vote := by decide +kernel
set_option maxRecDepth 20000 in
theorem inX8_vote_X5 : ∀ w ∈ u_ws RX5 TX5 3, w ∈ wsX8_vote := by decide +kernel
set_option maxRecDepth 20000 in
theorem inX8_vote_X8 : ∀ w ∈ u_ws RX8 TX8 11, w ∈ wsX8_vote := by decide +kernel
set_option maxRecDepth 100000 in
set_option maxHeartbeats 4000000 in
theorem mtX8_vote {l : Launch} {D : va_G} {cI cB cS cR : ClassId} {ad : Nat → Nat} {tS tP : Nat} {kS vS : Nat → Nat} {sz : Nat} {σ : wx_Z} {x1 : Int32} {K : Int32 → wx_Z → Prop} (h : wpX8_vote σ x1 K) : Met l yX8_vote wsX8_vote rmX8_vote (wx_Pre D [(cI, .int), (cB, .byte), (cS, .object RX5), (cR, .array .int)] (wC_RO tS tP kS vS) 58 (wC_E cI cB cS cR ad) ad σ sz [.ref (ad 0), .int x1]) (va_Qi K (wx_B D [(cI, .int), (cB, .byte), (cS, .object RX5), (cR, .array .int)] 58 (wC_E cI cB cS cR ad) ad (va_A (wx_w 58 (wC_E cI cB cS cR ad) ad σ) sz)) (va_A (wx_w 58 (wC_E cI cB cS cR ad) ad σ) sz)) 0 0 (va_A (wx_w 58 (wC_E cI cB cS cR ad) ad σ) sz) := by
  unfold wpX8_vote at h
  refine wx_meti (cc := cX8_vote) (maxL := 2) (own := RX8) rfl (by decide) rfl (Nat.le_of_ble_eq_true rfl) (wC_ROok tS tP kS vS) ?_
  intro p e s m args below meth c A Q ls C Rt hP hD hS hl
  obtain ⟨⟨hx, hb, hml, hown, hts⟩, hA, hK, hRO, hro⟩ := id C
  have hl : lv_has ls 2 [(0, .ref (ad 0)), (1, .int x1)] := hl
  obtain ⟨H, eH⟩ : ∃ z, z = s.heap := ⟨_, rfl⟩
  obtain ⟨locs, eL⟩ : ∃ z : List Loc, z = [] := ⟨_, rfl⟩
  rw [← eH] at hP
  have hS : va_S A s.heap H locs := by rw [eH, eL]; exact hS
  have goal : W p l e rmX8_vote s m args below meth c H locs 0 0 Q (F0 m 0 ls []) := by
    refine lv_aload_n hx hb dX8_vote_0 rfl (lv_at hl 0 rfl) ?_
    refine wx_get C hP (q := 0) (ci := 8) (Nat.le_of_ble_eq_true rfl) (eC_0 _) (Cn := RX8) (T := TX8) (Nf := 11) rfl inX8_vote_X8 4 (by decide) (List.mem_of_getElem? (i := 1) rfl) (v := .ref (ad 45)) rfl dX8_vote_1 ?_
    refine lv_aload_n hx hb dX8_vote_4 rfl (lv_at hl 0 rfl) ?_
    refine wx_get C hP (q := 0) (ci := 8) (Nat.le_of_ble_eq_true rfl) (eC_0 _) (Cn := RX8) (T := TX8) (Nf := 11) rfl inX8_vote_X8 0 (by decide) (List.mem_of_getElem? (i := 2) rfl) (v := .ref (ad (cSt 0))) rfl dX8_vote_5 ?_
    refine wx_get C hP (q := (cSt 0)) (ci := 5) (lt_st (Nat.le_of_ble_eq_true rfl)) (eC_st (Nat.le_of_ble_eq_true rfl) _) (Cn := RX5) (T := TX5) (Nf := 3) rfl inX8_vote_X5 0 (by decide) (List.mem_of_getElem? (i := 3) rfl) (v := .ref (ad (cCo 0))) rfl dX8_vote_8 ?_
    refine lv_aload_n hx hb dX8_vote_11 rfl (lv_at hl 0 rfl) ?_
    refine wx_get C hP (q := 0) (ci := 8) (Nat.le_of_ble_eq_true rfl) (eC_0 _) (Cn := RX8) (T := TX8) (Nf := 11) rfl inX8_vote_X8 0 (by decide) (List.mem_of_getElem? (i := 2) rfl) (v := .ref (ad (cSt 0))) rfl dX8_vote_12 ?_
    refine wx_get C hP (q := (cSt 0)) (ci := 5) (lt_st (Nat.le_of_ble_eq_true rfl)) (eC_st (Nat.le_of_ble_eq_true rfl) _) (Cn := RX5) (T := TX5) (Nf := 3) rfl inX8_vote_X5 2 (by decide) (List.mem_of_getElem? (i := 4) rfl) (v := .int (σ (cSt 0) 2)) rfl dX8_vote_15 ?_
    refine wx_cv C hD hS (va_runV (As := [.ref (ad (cCo 0)), .int (σ (cSt 0) 2)]) (rest := []) C.1 (mtX0_hold (l := l) (D := D) (sz := H.size) (Nat.le_of_ble_eq_true rfl) h) (cwV 2 hts gX8_vote_X0_hold rfl rfl rfl nyX0_hold ⟨Nat.le_of_ble_eq_true rfl, Nat.le_of_ble_eq_true rfl⟩) (wx_pv C hP hD hS (q := 45) (ci := 0) (Nat.le_of_ble_eq_true rfl) (eC_45 _) rfl) rfl rfl hl.1 rfl (lv_room (Nat.le_of_ble_eq_true rfl)) dX8_vote_18 ⟨Nat.zero_le _, Nat.zero_le _⟩) (fun σ18 H locs h hP hD hS => ?_)
    refine lv_iload_n hx hb dX8_vote_21 rfl (lv_at hl 1 rfl) ?_
    by_cases q1 : x1 = 0
    · have h := h.1 q1
      refine lv_tableIn (tgt := 52) hx hb dX8_vote_22 (by rw [q1]; decide) (by rw [q1]; decide) (by rw [q1]; try rfl) (by decide) ?_
      refine lv_aload_n hx hb dX8_vote_52 rfl (lv_at hl 0 rfl) ?_
      refine wx_get C hP (q := 0) (ci := 8) (Nat.le_of_ble_eq_true rfl) (eC_0 _) (Cn := RX8) (T := TX8) (Nf := 11) rfl inX8_vote_X8 0 (by decide) (List.mem_of_getElem? (i := 2) rfl) (v := .ref (ad (cSt 0))) rfl dX8_vote_53 ?_
      refine wx_get C hP (q := (cSt 0)) (ci := 5) (lt_st (Nat.le_of_ble_eq_true rfl)) (eC_st (Nat.le_of_ble_eq_true rfl) _) (Cn := RX5) (T := TX5) (Nf := 3) rfl inX8_vote_X5 2 (by decide) (List.mem_of_getElem? (i := 4) rfl) (v := .int (σ18 (cSt 0) 2)) rfl dX8_vote_56 ?_
      refine lv_aload_n hx hb dX8_vote_59 rfl (lv_at hl 0 rfl) ?_
      refine wx_get C hP (q := 0) (ci := 8) (Nat.le_of_ble_eq_true rfl) (eC_0 _) (Cn := RX8) (T := TX8) (Nf := 11) rfl inX8_vote_X8 4 (by decide) (List.mem_of_getElem? (i := 1) rfl) (v := .ref (ad 45)) rfl dX8_vote_60 ?_
      refine wx_get C hP (q := 45) (ci := 0) (Nat.le_of_ble_eq_true rfl) (eC_45 _) (Cn := RX0) (T := TX0) (Nf := 5) rfl inX8_vote_X0 1 (by decide) (List.mem_of_getElem? (i := 5) rfl) (v := .int (σ18 45 1)) rfl dX8_vote_63 ?_
      refine lv_ixor hx hb dX8_vote_66 ?_
      refine wx_ci C hD hS (va_runS (As := [.int ((σ18 (cSt 0) 2) ^^^ (σ18 45 1))]) (rest := []) C.1 (mtJ6_bitCount_0f7a4 (l := l) (D := D) (sz := H.size) h) (va_cwS 1 hts gX8_vote_J6_bitCount_0f7a4 rfl rfl rfl nyJ6_bitCount_0f7a4.2 ⟨Nat.le_of_ble_eq_true rfl, Nat.le_of_ble_eq_true rfl⟩) (wx_ps C hP hD hS) rfl rfl hl.1 rfl (lv_room (Nat.le_of_ble_eq_true rfl)) dX8_vote_67 ⟨Nat.zero_le _, Nat.zero_le _⟩) (fun r67 σ67 H locs h hP hD hS => ?_)
      exact Rt _ _ _ _ _ _ h hP hD hS dX8_vote_70
    by_cases q2 : x1 = 1
    · have h := h.2.1 q2
      refine lv_tableIn (tgt := 71) hx hb dX8_vote_22 (by rw [q2]; decide) (by rw [q2]; decide) (by rw [q2]; try rfl) (by decide) ?_
      refine lv_aload_n hx hb dX8_vote_71 rfl (lv_at hl 0 rfl) ?_
      refine wx_get C hP (q := 0) (ci := 8) (Nat.le_of_ble_eq_true rfl) (eC_0 _) (Cn := RX8) (T := TX8) (Nf := 11) rfl inX8_vote_X8 4 (by decide) (List.mem_of_getElem? (i := 1) rfl) (v := .ref (ad 45)) rfl dX8_vote_72 ?_
      refine wx_get C hP (q := 45) (ci := 0) (Nat.le_of_ble_eq_true rfl) (eC_45 _) (Cn := RX0) (T := TX0) (Nf := 5) rfl inX8_vote_X0 2 (by decide) (List.mem_of_getElem? (i := 6) rfl) (v := .int (σ18 45 2)) rfl dX8_vote_75 ?_
      exact Rt _ _ _ _ _ _ h hP hD hS dX8_vote_78
    by_cases q3 : x1 = 2
    · have h := h.2.2.1 q3
      refine lv_tableIn (tgt := 79) hx hb dX8_vote_22 (by rw [q3]; decide) (by rw [q3]; decide) (by rw [q3]; try rfl) (by decide) ?_
      refine lv_aload_n hx hb dX8_vote_79 rfl (lv_at hl 0 rfl) ?_
      refine wx_get C hP (q := 0) (ci := 8) (Nat.le_of_ble_eq_true rfl) (eC_0 _) (Cn := RX8) (T := TX8) (Nf := 11) rfl inX8_vote_X8 4 (by decide) (List.mem_of_getElem? (i := 1) rfl) (v := .ref (ad 45)) rfl dX8_vote_80 ?_
      refine wx_get C hP (q := 45) (ci := 0) (Nat.le_of_ble_eq_true rfl) (eC_45 _) (Cn := RX0) (T := TX0) (Nf := 5) rfl inX8_vote_X0 3 (by decide) (List.mem_of_getElem? (i := 7) rfl) (v := .int (σ18 45 3)) rfl dX8_vote_83 ?_
      exact Rt _ _ _ _ _ _ h hP hD hS dX8_vote_86
    by_cases q4 : x1 = 3
    · have h := h.2.2.2.1 q4
      refine lv_tableIn (tgt := 87) hx hb dX8_vote_22 (by rw [q4]; decide) (by rw [q4]; decide) (by rw [q4]; try rfl) (by decide) ?_
      refine lv_aload_n hx hb dX8_vote_87 rfl (lv_at hl 0 rfl) ?_
      refine wx_get C hP (q := 0) (ci := 8) (Nat.le_of_ble_eq_true rfl) (eC_0 _) (Cn := RX8) (T := TX8) (Nf := 11) rfl inX8_vote_X8 4 (by decide) (List.mem_of_getElem? (i := 1) rfl) (v := .ref (ad 45)) rfl dX8_vote_88 ?_
      refine wx_get C hP (q := 45) (ci := 0) (Nat.le_of_ble_eq_true rfl) (eC_45 _) (Cn := RX0) (T := TX0) (Nf := 5) rfl inX8_vote_X0 4 (by decide) (List.mem_of_getElem? (i := 8) rfl) (v := .int (σ18 45 4)) rfl dX8_vote_91 ?_
      exact Rt _ _ _ _ _ _ h hP hD hS dX8_vote_94
    have h := h.2.2.2.2 q1 q2 q3 q4
    have z1 := lv_neT q1 (show (0 : Int32).toInt = 0 from by decide)
    have z2 := lv_neT q2 (show (1 : Int32).toInt = 1 from by decide)
    have z3 := lv_neT q3 (show (2 : Int32).toInt = 2 from by decide)
    have z4 := lv_neT q4 (show (3 : Int32).toInt = 3 from by decide)
    refine lv_tableOut (tgt := 95) hx hb dX8_vote_22 (by omega) (by decide) ?_
    refine lv_aload_n hx hb dX8_vote_95 rfl (lv_at hl 0 rfl) ?_
    refine lv_bipush (v := (-2)) hx hb dX8_vote_96 (by decide) ?_
    refine wx_ci C hD hS (va_runV (As := [.int (-2)]) (rest := []) C.1 (mtX8_refuseBad (l := l) (D := D) (sz := H.size) h) (cwV 1 hts gX8_vote_X8_refuseBad rfl rfl rfl nyX8_refuseBad ⟨Nat.le_of_ble_eq_true rfl, Nat.le_of_ble_eq_true rfl⟩) (wx_pv C hP hD hS (q := 0) (ci := 8) (Nat.le_of_ble_eq_true rfl) (eC_0 _) rfl) rfl rfl hl.1 rfl (lv_room (Nat.le_of_ble_eq_true rfl)) dX8_vote_98 ⟨Nat.zero_le _, Nat.zero_le _⟩) (fun r98 σ98 H locs h hP hD hS => ?_)
    exact Rt _ _ _ _ _ _ h hP hD hS dX8_vote_101
  rw [eH, eL] at goal
  exact goal
abbrev rmX8_mends : Room := { frames := 6, cells := 0, slots := 0, locals := 155 }
set_option maxRecDepth 20000 in
theorem inX8_mends_X0 : ∀ w ∈ u_ws RX0 TX0 5, w ∈ wsX8_mends := by decide +kernel
set_option maxRecDepth 20000 in
theorem inX8_mends_X5 : ∀ w ∈ u_ws RX5 TX5 3, w ∈ wsX8_mends := by decide +kernel
set_option maxRecDepth 20000 in
theorem inX8_mends_X8 : ∀ w ∈ u_ws RX8 TX8 11, w ∈ wsX8_mends := by decide +kernel
set_option maxRecDepth 100000 in
set_option maxHeartbeats 4000000 in
theorem mtX8_mends {l : Launch} {D : va_G} {cI cB cS cR : ClassId} {ad : Nat → Nat} {tS tP : Nat} {kS vS : Nat → Nat} {sz : Nat} {σ : wx_Z} {K : Int32 → wx_Z → Prop} (h : wpX8_mends σ K) : Met l yX8_mends wsX8_mends rmX8_mends (wx_Pre D [(cI, .int), (cB, .byte), (cS, .object RX5), (cR, .array .int)] (wC_RO tS tP kS vS) 58 (wC_E cI cB cS cR ad) ad σ sz [.ref (ad 0)]) (va_Qi K (wx_B D [(cI, .int), (cB, .byte), (cS, .object RX5), (cR, .array .int)] 58 (wC_E cI cB cS cR ad) ad (va_A (wx_w 58 (wC_E cI cB cS cR ad) ad σ) sz)) (va_A (wx_w 58 (wC_E cI cB cS cR ad) ad σ) sz)) 0 0 (va_A (wx_w 58 (wC_E cI cB cS cR ad) ad σ) sz) := by
  unfold wpX8_mends at h
  refine wx_meti (cc := cX8_mends) (maxL := 2) (own := RX8) rfl (by decide) rfl (Nat.le_of_ble_eq_true rfl) (wC_ROok tS tP kS vS) ?_
  intro p e s m args below meth c A Q ls C Rt hP hD hS hl
  obtain ⟨⟨hx, hb, hml, hown, hts⟩, hA, hK, hRO, hro⟩ := id C
  have hl : lv_has ls 2 [(0, .ref (ad 0))] := hl
  obtain ⟨H, eH⟩ : ∃ z, z = s.heap := ⟨_, rfl⟩
  obtain ⟨locs, eL⟩ : ∃ z : List Loc, z = [] := ⟨_, rfl⟩
  rw [← eH] at hP
  have hS : va_S A s.heap H locs := by rw [eH, eL]; exact hS
  have goal : W p l e rmX8_mends s m args below meth c H locs 0 0 Q (F0 m 0 ls []) := by
    refine lv_aload_n hx hb dX8_mends_0 rfl (lv_at hl 0 rfl) ?_
    refine wx_get C hP (q := 0) (ci := 8) (Nat.le_of_ble_eq_true rfl) (eC_0 _) (Cn := RX8) (T := TX8) (Nf := 11) rfl inX8_mends_X8 2 (by decide) (List.mem_of_getElem? (i := 1) rfl) (v := .ref (ad 41)) rfl dX8_mends_1 ?_
    refine lv_aload_n hx hb dX8_mends_4 rfl (lv_at hl 0 rfl) ?_
    refine wx_get C hP (q := 0) (ci := 8) (Nat.le_of_ble_eq_true rfl) (eC_0 _) (Cn := RX8) (T := TX8) (Nf := 11) rfl inX8_mends_X8 0 (by decide) (List.mem_of_getElem? (i := 2) rfl) (v := .ref (ad (cSt 0))) rfl dX8_mends_5 ?_
    refine wx_cv C hD hS (va_runV (As := [.ref (ad (cSt 0))]) (rest := []) C.1 (mtX4_keep (l := l) (D := D) (sz := H.size) (Nat.le_of_ble_eq_true rfl) h) (cwV 1 hts gX8_mends_X4_keep rfl rfl rfl nyX4_keep ⟨Nat.le_of_ble_eq_true rfl, Nat.le_of_ble_eq_true rfl⟩) (wx_pv C hP hD hS (q := 41) (ci := 4) (Nat.le_of_ble_eq_true rfl) (eC_41 _) rfl) rfl rfl hl.1 rfl (lv_room (Nat.le_of_ble_eq_true rfl)) dX8_mends_8 ⟨Nat.zero_le _, Nat.zero_le _⟩) (fun σ8 H locs h hP hD hS => ?_)
    refine lv_aload_n hx hb dX8_mends_11 rfl (lv_at hl 0 rfl) ?_
    refine wx_get C hP (q := 0) (ci := 8) (Nat.le_of_ble_eq_true rfl) (eC_0 _) (Cn := RX8) (T := TX8) (Nf := 11) rfl inX8_mends_X8 4 (by decide) (List.mem_of_getElem? (i := 3) rfl) (v := .ref (ad 45)) rfl dX8_mends_12 ?_
    refine lv_aload_n hx hb dX8_mends_15 rfl (lv_at hl 0 rfl) ?_
    refine wx_get C hP (q := 0) (ci := 8) (Nat.le_of_ble_eq_true rfl) (eC_0 _) (Cn := RX8) (T := TX8) (Nf := 11) rfl inX8_mends_X8 0 (by decide) (List.mem_of_getElem? (i := 2) rfl) (v := .ref (ad (cSt 0))) rfl dX8_mends_16 ?_
    refine wx_get C hP (q := (cSt 0)) (ci := 5) (lt_st (Nat.le_of_ble_eq_true rfl)) (eC_st (Nat.le_of_ble_eq_true rfl) _) (Cn := RX5) (T := TX5) (Nf := 3) rfl inX8_mends_X5 0 (by decide) (List.mem_of_getElem? (i := 4) rfl) (v := .ref (ad (cCo 0))) rfl dX8_mends_19 ?_
    refine lv_aload_n hx hb dX8_mends_22 rfl (lv_at hl 0 rfl) ?_
    refine wx_get C hP (q := 0) (ci := 8) (Nat.le_of_ble_eq_true rfl) (eC_0 _) (Cn := RX8) (T := TX8) (Nf := 11) rfl inX8_mends_X8 0 (by decide) (List.mem_of_getElem? (i := 2) rfl) (v := .ref (ad (cSt 0))) rfl dX8_mends_23 ?_
    refine wx_get C hP (q := (cSt 0)) (ci := 5) (lt_st (Nat.le_of_ble_eq_true rfl)) (eC_st (Nat.le_of_ble_eq_true rfl) _) (Cn := RX5) (T := TX5) (Nf := 3) rfl inX8_mends_X5 2 (by decide) (List.mem_of_getElem? (i := 5) rfl) (v := .int (σ8 (cSt 0) 2)) rfl dX8_mends_26 ?_
    refine wx_cv C hD hS (va_runV (As := [.ref (ad (cCo 0)), .int (σ8 (cSt 0) 2)]) (rest := []) C.1 (mtX0_hold (l := l) (D := D) (sz := H.size) (Nat.le_of_ble_eq_true rfl) h) (cwV 2 hts gX8_mends_X0_hold rfl rfl rfl nyX0_hold ⟨Nat.le_of_ble_eq_true rfl, Nat.le_of_ble_eq_true rfl⟩) (wx_pv C hP hD hS (q := 45) (ci := 0) (Nat.le_of_ble_eq_true rfl) (eC_45 _) rfl) rfl rfl hl.1 rfl (lv_room (Nat.le_of_ble_eq_true rfl)) dX8_mends_29 ⟨Nat.zero_le _, Nat.zero_le _⟩) (fun σ29 H locs h hP hD hS => ?_)
    refine lv_aload_n hx hb dX8_mends_32 rfl (lv_at hl 0 rfl) ?_
    refine wx_get C hP (q := 0) (ci := 8) (Nat.le_of_ble_eq_true rfl) (eC_0 _) (Cn := RX8) (T := TX8) (Nf := 11) rfl inX8_mends_X8 0 (by decide) (List.mem_of_getElem? (i := 2) rfl) (v := .ref (ad (cSt 0))) rfl dX8_mends_33 ?_
    refine wx_get C hP (q := (cSt 0)) (ci := 5) (lt_st (Nat.le_of_ble_eq_true rfl)) (eC_st (Nat.le_of_ble_eq_true rfl) _) (Cn := RX5) (T := TX5) (Nf := 3) rfl inX8_mends_X5 2 (by decide) (List.mem_of_getElem? (i := 5) rfl) (v := .int (σ29 (cSt 0) 2)) rfl dX8_mends_36 ?_
    refine lv_aload_n hx hb dX8_mends_39 rfl (lv_at hl 0 rfl) ?_
    refine wx_get C hP (q := 0) (ci := 8) (Nat.le_of_ble_eq_true rfl) (eC_0 _) (Cn := RX8) (T := TX8) (Nf := 11) rfl inX8_mends_X8 4 (by decide) (List.mem_of_getElem? (i := 3) rfl) (v := .ref (ad 45)) rfl dX8_mends_40 ?_
    refine wx_get C hP (q := 45) (ci := 0) (Nat.le_of_ble_eq_true rfl) (eC_45 _) (Cn := RX0) (T := TX0) (Nf := 5) rfl inX8_mends_X0 1 (by decide) (List.mem_of_getElem? (i := 6) rfl) (v := .int (σ29 45 1)) rfl dX8_mends_43 ?_
    refine lv_ixor hx hb dX8_mends_46 ?_
    refine wx_ci C hD hS (va_runS (As := [.int ((σ29 (cSt 0) 2) ^^^ (σ29 45 1))]) (rest := []) C.1 (mtJ6_bitCount_0f7a4 (l := l) (D := D) (sz := H.size) h) (va_cwS 1 hts gX8_mends_J6_bitCount_0f7a4 rfl rfl rfl nyJ6_bitCount_0f7a4.2 ⟨Nat.le_of_ble_eq_true rfl, Nat.le_of_ble_eq_true rfl⟩) (wx_ps C hP hD hS) rfl rfl hl.1 rfl (lv_room (Nat.le_of_ble_eq_true rfl)) dX8_mends_47 ⟨Nat.zero_le _, Nat.zero_le _⟩) (fun r47 σ47 H locs h hP hD hS => ?_)
    refine lv_istore_n (lv' := [(1, .int r47), (0, .ref (ad 0))]) hx hb dX8_mends_50 rfl hl (by decide) rfl (fun ls hl => ?_)
    refine lv_aload_n hx hb dX8_mends_51 rfl (lv_at hl 1 rfl) ?_
    refine wx_get C hP (q := 0) (ci := 8) (Nat.le_of_ble_eq_true rfl) (eC_0 _) (Cn := RX8) (T := TX8) (Nf := 11) rfl inX8_mends_X8 0 (by decide) (List.mem_of_getElem? (i := 2) rfl) (v := .ref (ad (cSt 0))) rfl dX8_mends_52 ?_
    refine lv_aload_n hx hb dX8_mends_55 rfl (lv_at hl 1 rfl) ?_
    refine wx_get C hP (q := 0) (ci := 8) (Nat.le_of_ble_eq_true rfl) (eC_0 _) (Cn := RX8) (T := TX8) (Nf := 11) rfl inX8_mends_X8 4 (by decide) (List.mem_of_getElem? (i := 3) rfl) (v := .ref (ad 45)) rfl dX8_mends_56 ?_
    refine wx_get C hP (q := 45) (ci := 0) (Nat.le_of_ble_eq_true rfl) (eC_45 _) (Cn := RX0) (T := TX0) (Nf := 5) rfl inX8_mends_X0 1 (by decide) (List.mem_of_getElem? (i := 6) rfl) (v := .int (σ47 45 1)) rfl dX8_mends_59 ?_
    refine wx_put C hP hD hS (q := (cSt 0)) (ci := 5) (lt_st (Nat.le_of_ble_eq_true rfl)) (eC_st (Nat.le_of_ble_eq_true rfl) _) (Cn := RX5) (T := TX5) (Nf := 3) rfl inX8_mends_X5 tyX5 tyX5_ok nmX5 2 (by decide) (List.mem_of_getElem? (i := 5) rfl) rfl rfl (Nat.le_of_ble_eq_true rfl) (eC_st (Nat.le_of_ble_eq_true rfl) _) dX8_mends_62 (fun H locs hP hD hS => ?_)
    generalize e_σ62 : wx_up σ47 (cSt 0) 2 (σ47 45 1) = σ62 at hP hD
    have h := h σ62 e_σ62.symm
    refine lv_iload_n hx hb dX8_mends_65 rfl (lv_at hl 0 rfl) ?_
    exact Rt _ _ _ _ _ _ h hP hD hS dX8_mends_66
  rw [eH, eL] at goal
  exact goal

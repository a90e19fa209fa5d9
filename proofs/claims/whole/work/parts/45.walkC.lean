abbrev rmX8_carryOutAll : Room := { frames := 12, cells := 0, slots := 0, locals := 294 }
set_option maxRecDepth 20000 in
theorem inX8_carryOutAll_X6 : ∀ w ∈ u_ws RX6 TX6 4, w ∈ wsX8_carryOutAll := by decide +kernel
set_option maxRecDepth 20000 in
theorem inX8_carryOutAll_X8 : ∀ w ∈ u_ws RX8 TX8 11, w ∈ wsX8_carryOutAll := by decide +kernel
theorem nyX6_rewind : yX6_rewind.cls = RX6 ∧ yX6_rewind.cls ≠ "java/lang/invoke/MethodHandle" ∧ yX6_rewind.cls ≠ "java/lang/invoke/VarHandle" ∧ (parseMethodDescriptor yX6_rewind.desc).map (fun d => d.parameters.length) = some 0 := by decide +kernel
theorem nyX8_carryOutNext : yX8_carryOutNext.cls = RX8 ∧ yX8_carryOutNext.cls ≠ "java/lang/invoke/MethodHandle" ∧ yX8_carryOutNext.cls ≠ "java/lang/invoke/VarHandle" ∧ (parseMethodDescriptor yX8_carryOutNext.desc).map (fun d => d.parameters.length) = some 0 := by decide +kernel
set_option maxRecDepth 100000 in
set_option maxHeartbeats 4000000 in
theorem bX8_carryOutAll_9 {p : Program} {l : Launch} {e : Env} {s : State} {m : MethodId} {args : Array Value} {below : List Frame} {meth : Method} {c : Code} {A : Nat → Prop} {Q : State → Prop} {D : va_G} {cI cB cS cR : ClassId} {ad : Nat → Nat} {tS tP : Nat} {kS vS : Nat → Nat} {K : Int32 → wx_Z → Prop} (C : wx_C p s m args c cX8_carryOutAll 2 RX8 wsX8_carryOutAll D [(cI, .int), (cB, .byte), (cS, .object RX5), (cR, .array .int)] (wC_RO tS tP kS vS) A) (Rt : wx_Ri p l e rmX8_carryOutAll s m args below meth c cX8_carryOutAll D 58 (wC_E cI cB cS cR ad) ad A K Q) : ∀ (n : Nat) (σ : wx_Z) (x1 : Int32), wpX8_carryOutAll_9 K n σ x1 → ∀ (H : Heap) (locs : List Loc) (ls : Array Slot), va_P D vwCl (wx_w 58 (wC_E cI cB cS cR ad) ad σ) H → va_D A (wx_w 58 (wC_E cI cB cS cR ad) ad σ) → va_S A s.heap H locs → lv_has ls 2 [(0, .ref (ad 0)), (1, .int x1)] → W p l e rmX8_carryOutAll s m args below meth c H locs 0 0 Q (F0 m 9 ls []) := by
  obtain ⟨⟨hx, hb, hml, hown, hts⟩, hA, hK, hRO, hro⟩ := id C
  intro n
  induction n with
  | zero => intro σ x1 h; exact h.elim
  | succ n ih =>
    intro σ x1 h H locs ls hP hD hS hl
    unfold wpX8_carryOutAll_9 at h
    refine lv_iload_n hx hb dX8_carryOutAll_9 rfl (lv_at hl 1 rfl) ?_
    refine lv_bipush (v := 120) hx hb dX8_carryOutAll_10 (by decide) ?_
    refine lv_icmp_gt (tgt := 48) hx hb dX8_carryOutAll_12 (by decide) (fun c12 => ?_) (fun c12 => ?_)
    · have h := h.1 c12
      refine lv_bipush (v := 120) hx hb dX8_carryOutAll_48 (by decide) ?_
      exact Rt _ _ _ _ _ _ h hP hD hS dX8_carryOutAll_50
    · have h := h.2 c12
      refine lv_aload_n hx hb dX8_carryOutAll_15 rfl (lv_at hl 0 rfl) ?_
      refine wx_cv C hD hS (va_runV (As := []) (rest := []) C.1 (mtX8_carryOutNext (l := l) (D := D) (sz := H.size) h) (cwV 0 hts gX8_carryOutAll_X8_carryOutNext rfl rfl rfl nyX8_carryOutNext ⟨Nat.le_of_ble_eq_true rfl, Nat.le_of_ble_eq_true rfl⟩) (wx_pv C hP hD hS (q := 0) (ci := 8) (Nat.le_of_ble_eq_true rfl) (eC_0 _) rfl) rfl rfl hl.1 rfl (lv_room (Nat.le_of_ble_eq_true rfl)) dX8_carryOutAll_16 ⟨Nat.zero_le _, Nat.zero_le _⟩) (fun σ16 H locs h hP hD hS => ?_)
      refine lv_aload_n hx hb dX8_carryOutAll_19 rfl (lv_at hl 0 rfl) ?_
      refine wx_get C hP (q := 0) (ci := 8) (Nat.le_of_ble_eq_true rfl) (eC_0 _) (Cn := RX8) (T := TX8) (Nf := 11) rfl inX8_carryOutAll_X8 3 (by decide) (List.mem_of_getElem? (i := 1) rfl) (v := .ref (ad 43)) rfl dX8_carryOutAll_20 ?_
      refine wx_get C hP (q := 43) (ci := 6) (Nat.le_of_ble_eq_true rfl) (eC_43 _) (Cn := RX6) (T := TX6) (Nf := 4) rfl inX8_carryOutAll_X6 3 (by decide) (List.mem_of_getElem? (i := 2) rfl) (v := .int (σ16 43 3)) rfl dX8_carryOutAll_23 ?_
      refine lv_iconst (v := (-1)) hx hb dX8_carryOutAll_26 (by decide) ?_
      refine lv_icmp_ne (tgt := 40) hx hb dX8_carryOutAll_27 (by decide) (fun c27 => ?_) (fun c27 => ?_)
      · have h := h.1 c27
        refine lv_iload_n hx hb dX8_carryOutAll_40 rfl (lv_at hl 1 rfl) ?_
        exact Rt _ _ _ _ _ _ h hP hD hS dX8_carryOutAll_41
      · have h := h.2 c27
        refine lv_aload_n hx hb dX8_carryOutAll_30 rfl (lv_at hl 0 rfl) ?_
        refine wx_get C hP (q := 0) (ci := 8) (Nat.le_of_ble_eq_true rfl) (eC_0 _) (Cn := RX8) (T := TX8) (Nf := 11) rfl inX8_carryOutAll_X8 3 (by decide) (List.mem_of_getElem? (i := 1) rfl) (v := .ref (ad 43)) rfl dX8_carryOutAll_31 ?_
        refine wx_ci C hD hS (va_runV (As := []) (rest := []) C.1 (mtX6_isAtEnd (l := l) (D := D) (sz := H.size) h) (cwV 0 hts gX8_carryOutAll_X6_isAtEnd rfl rfl rfl nyX6_isAtEnd ⟨Nat.le_of_ble_eq_true rfl, Nat.le_of_ble_eq_true rfl⟩) (wx_pv C hP hD hS (q := 43) (ci := 6) (Nat.le_of_ble_eq_true rfl) (eC_43 _) rfl) rfl rfl hl.1 rfl (lv_room (Nat.le_of_ble_eq_true rfl)) dX8_carryOutAll_34 ⟨Nat.zero_le _, Nat.zero_le _⟩) (fun r34 σ34 H locs h hP hD hS => ?_)
        refine lv_if_eq (tgt := 42) hx hb dX8_carryOutAll_37 (by decide) (fun c37 => ?_) (fun c37 => ?_)
        · have h := h.1 c37
          obtain ⟨t42, e_t42⟩ : ∃ y : Int32, y = x1 + 1 := ⟨_, rfl⟩
          have h := h t42 e_t42
          refine lv_iinc (v := t42) (lv' := [(1, .int t42), (0, .ref (ad 0))]) hx hb dX8_carryOutAll_42 hl (k := 1) rfl (by rw [e_t42]; rfl) (by decide) rfl (fun ls hl => ?_)
          refine lv_goto (tgt := 9) hx hb dX8_carryOutAll_45 (by decide) ?_
          exact ih σ34 t42  h _ _ _ hP hD hS (lv_sub hl [1, 0] rfl)
        · have h := h.2 c37
          refine lv_iload_n hx hb dX8_carryOutAll_40 rfl (lv_at hl 1 rfl) ?_
          exact Rt _ _ _ _ _ _ h hP hD hS dX8_carryOutAll_41
set_option maxRecDepth 100000 in
set_option maxHeartbeats 4000000 in
theorem mtX8_carryOutAll {l : Launch} {D : va_G} {cI cB cS cR : ClassId} {ad : Nat → Nat} {tS tP : Nat} {kS vS : Nat → Nat} {sz : Nat} {σ : wx_Z} {K : Int32 → wx_Z → Prop} (h : wpX8_carryOutAll σ K) : Met l yX8_carryOutAll wsX8_carryOutAll rmX8_carryOutAll (wx_Pre D [(cI, .int), (cB, .byte), (cS, .object RX5), (cR, .array .int)] (wC_RO tS tP kS vS) 58 (wC_E cI cB cS cR ad) ad σ sz [.ref (ad 0)]) (va_Qi K (wx_B D [(cI, .int), (cB, .byte), (cS, .object RX5), (cR, .array .int)] 58 (wC_E cI cB cS cR ad) ad (va_A (wx_w 58 (wC_E cI cB cS cR ad) ad σ) sz)) (va_A (wx_w 58 (wC_E cI cB cS cR ad) ad σ) sz)) 0 0 (va_A (wx_w 58 (wC_E cI cB cS cR ad) ad σ) sz) := by
  unfold wpX8_carryOutAll at h
  refine wx_meti (cc := cX8_carryOutAll) (maxL := 2) (own := RX8) rfl (by decide) rfl (Nat.le_of_ble_eq_true rfl) (wC_ROok tS tP kS vS) ?_
  intro p e s m args below meth c A Q ls C Rt hP hD hS hl
  obtain ⟨⟨hx, hb, hml, hown, hts⟩, hA, hK, hRO, hro⟩ := id C
  have hl : lv_has ls 2 [(0, .ref (ad 0))] := hl
  obtain ⟨H, eH⟩ : ∃ z, z = s.heap := ⟨_, rfl⟩
  obtain ⟨locs, eL⟩ : ∃ z : List Loc, z = [] := ⟨_, rfl⟩
  rw [← eH] at hP
  have hS : va_S A s.heap H locs := by rw [eH, eL]; exact hS
  have goal : W p l e rmX8_carryOutAll s m args below meth c H locs 0 0 Q (F0 m 0 ls []) := by
    refine lv_aload_n hx hb dX8_carryOutAll_0 rfl (lv_at hl 0 rfl) ?_
    refine wx_get C hP (q := 0) (ci := 8) (Nat.le_of_ble_eq_true rfl) (eC_0 _) (Cn := RX8) (T := TX8) (Nf := 11) rfl inX8_carryOutAll_X8 3 (by decide) (List.mem_of_getElem? (i := 1) rfl) (v := .ref (ad 43)) rfl dX8_carryOutAll_1 ?_
    refine wx_cv C hD hS (va_runV (As := []) (rest := []) C.1 (mtX6_rewind (l := l) (D := D) (sz := H.size) h) (cwV 0 hts gX8_carryOutAll_X6_rewind rfl rfl rfl nyX6_rewind ⟨Nat.le_of_ble_eq_true rfl, Nat.le_of_ble_eq_true rfl⟩) (wx_pv C hP hD hS (q := 43) (ci := 6) (Nat.le_of_ble_eq_true rfl) (eC_43 _) rfl) rfl rfl hl.1 rfl (lv_room (Nat.le_of_ble_eq_true rfl)) dX8_carryOutAll_4 ⟨Nat.zero_le _, Nat.zero_le _⟩) (fun σ4 H locs h hP hD hS => ?_)
    refine lv_iconst (v := 1) hx hb dX8_carryOutAll_7 (by decide) ?_
    refine lv_istore_n (lv' := [(1, .int 1), (0, .ref (ad 0))]) hx hb dX8_carryOutAll_8 rfl hl (by decide) rfl (fun ls hl => ?_)
    obtain ⟨n9, h⟩ := h
    exact bX8_carryOutAll_9 C Rt n9 σ4 1  h _ _ _ hP hD hS (lv_sub hl [1, 0] rfl)
  rw [eH, eL] at goal
  exact goal
abbrev rmX8_does : Room := { frames := 13, cells := 0, slots := 0, locals := 315 }
set_option maxRecDepth 20000 in
theorem inX8_does_X6 : ∀ w ∈ u_ws RX6 TX6 4, w ∈ wsX8_does := by decide +kernel
set_option maxRecDepth 20000 in
theorem inX8_does_X8 : ∀ w ∈ u_ws RX8 TX8 11, w ∈ wsX8_does := by decide +kernel
theorem nyX8_carryOutAll : yX8_carryOutAll.cls = RX8 ∧ yX8_carryOutAll.cls ≠ "java/lang/invoke/MethodHandle" ∧ yX8_carryOutAll.cls ≠ "java/lang/invoke/VarHandle" ∧ (parseMethodDescriptor yX8_carryOutAll.desc).map (fun d => d.parameters.length) = some 0 := by decide +kernel
set_option maxRecDepth 100000 in
set_option maxHeartbeats 4000000 in
theorem mtX8_does {l : Launch} {D : va_G} {cI cB cS cR : ClassId} {ad : Nat → Nat} {tS tP : Nat} {kS vS : Nat → Nat} {sz : Nat} {σ : wx_Z} {K : Int32 → wx_Z → Prop} (h : wpX8_does σ K) : Met l yX8_does wsX8_does rmX8_does (wx_Pre D [(cI, .int), (cB, .byte), (cS, .object RX5), (cR, .array .int)] (wC_RO tS tP kS vS) 58 (wC_E cI cB cS cR ad) ad σ sz [.ref (ad 0)]) (va_Qi K (wx_B D [(cI, .int), (cB, .byte), (cS, .object RX5), (cR, .array .int)] 58 (wC_E cI cB cS cR ad) ad (va_A (wx_w 58 (wC_E cI cB cS cR ad) ad σ) sz)) (va_A (wx_w 58 (wC_E cI cB cS cR ad) ad σ) sz)) 0 0 (va_A (wx_w 58 (wC_E cI cB cS cR ad) ad σ) sz) := by
  unfold wpX8_does at h
  refine wx_meti (cc := cX8_does) (maxL := 2) (own := RX8) rfl (by decide) rfl (Nat.le_of_ble_eq_true rfl) (wC_ROok tS tP kS vS) ?_
  intro p e s m args below meth c A Q ls C Rt hP hD hS hl
  obtain ⟨⟨hx, hb, hml, hown, hts⟩, hA, hK, hRO, hro⟩ := id C
  have hl : lv_has ls 2 [(0, .ref (ad 0))] := hl
  obtain ⟨H, eH⟩ : ∃ z, z = s.heap := ⟨_, rfl⟩
  obtain ⟨locs, eL⟩ : ∃ z : List Loc, z = [] := ⟨_, rfl⟩
  rw [← eH] at hP
  have hS : va_S A s.heap H locs := by rw [eH, eL]; exact hS
  have goal : W p l e rmX8_does s m args below meth c H locs 0 0 Q (F0 m 0 ls []) := by
    refine lv_aload_n hx hb dX8_does_0 rfl (lv_at hl 0 rfl) ?_
    refine wx_get C hP (q := 0) (ci := 8) (Nat.le_of_ble_eq_true rfl) (eC_0 _) (Cn := RX8) (T := TX8) (Nf := 11) rfl inX8_does_X8 1 (by decide) (List.mem_of_getElem? (i := 1) rfl) (v := .ref (ad (cSt 1))) rfl dX8_does_1 ?_
    refine lv_aload_n hx hb dX8_does_4 rfl (lv_at hl 0 rfl) ?_
    refine wx_get C hP (q := 0) (ci := 8) (Nat.le_of_ble_eq_true rfl) (eC_0 _) (Cn := RX8) (T := TX8) (Nf := 11) rfl inX8_does_X8 0 (by decide) (List.mem_of_getElem? (i := 2) rfl) (v := .ref (ad (cSt 0))) rfl dX8_does_5 ?_
    refine wx_cv C hD hS (va_runV (As := [.ref (ad (cSt 0))]) (rest := []) C.1 (mtX5_copy (l := l) (D := D) (sz := H.size) (Nat.le_of_ble_eq_true rfl) (Nat.le_of_ble_eq_true rfl) h) (cwV 1 hts gX8_does_X5_copy rfl rfl rfl nyX5_copy ⟨Nat.le_of_ble_eq_true rfl, Nat.le_of_ble_eq_true rfl⟩) (wx_pv C hP hD hS (q := (cSt 1)) (ci := 5) (lt_st (Nat.le_of_ble_eq_true rfl)) (eC_st (Nat.le_of_ble_eq_true rfl) _) rfl) rfl rfl hl.1 rfl (lv_room (Nat.le_of_ble_eq_true rfl)) dX8_does_8 ⟨Nat.zero_le _, Nat.zero_le _⟩) (fun σ8 H locs h hP hD hS => ?_)
    refine lv_aload_n hx hb dX8_does_11 rfl (lv_at hl 0 rfl) ?_
    refine wx_ci C hD hS (va_runV (As := []) (rest := []) C.1 (mtX8_carryOutAll (l := l) (D := D) (sz := H.size) h) (cwV 0 hts gX8_does_X8_carryOutAll rfl rfl rfl nyX8_carryOutAll ⟨Nat.le_of_ble_eq_true rfl, Nat.le_of_ble_eq_true rfl⟩) (wx_pv C hP hD hS (q := 0) (ci := 8) (Nat.le_of_ble_eq_true rfl) (eC_0 _) rfl) rfl rfl hl.1 rfl (lv_room (Nat.le_of_ble_eq_true rfl)) dX8_does_12 ⟨Nat.zero_le _, Nat.zero_le _⟩) (fun r12 σ12 H locs h hP hD hS => ?_)
    refine lv_istore_n (lv' := [(1, .int r12), (0, .ref (ad 0))]) hx hb dX8_does_15 rfl hl (by decide) rfl (fun ls hl => ?_)
    refine lv_aload_n hx hb dX8_does_16 rfl (lv_at hl 1 rfl) ?_
    refine wx_get C hP (q := 0) (ci := 8) (Nat.le_of_ble_eq_true rfl) (eC_0 _) (Cn := RX8) (T := TX8) (Nf := 11) rfl inX8_does_X8 3 (by decide) (List.mem_of_getElem? (i := 3) rfl) (v := .ref (ad 43)) rfl dX8_does_17 ?_
    refine wx_get C hP (q := 43) (ci := 6) (Nat.le_of_ble_eq_true rfl) (eC_43 _) (Cn := RX6) (T := TX6) (Nf := 4) rfl inX8_does_X6 3 (by decide) (List.mem_of_getElem? (i := 4) rfl) (v := .int (σ12 43 3)) rfl dX8_does_20 ?_
    refine lv_iconst (v := (-1)) hx hb dX8_does_23 (by decide) ?_
    refine lv_icmp_eq (tgt := 49) hx hb dX8_does_24 (by decide) (fun c24 => ?_) (fun c24 => ?_)
    · have h := h.1 c24
      refine lv_aload_n hx hb dX8_does_49 rfl (lv_at hl 1 rfl) ?_
      refine wx_get C hP (q := 0) (ci := 8) (Nat.le_of_ble_eq_true rfl) (eC_0 _) (Cn := RX8) (T := TX8) (Nf := 11) rfl inX8_does_X8 2 (by decide) (List.mem_of_getElem? (i := 5) rfl) (v := .ref (ad 41)) rfl dX8_does_50 ?_
      refine lv_aload_n hx hb dX8_does_53 rfl (lv_at hl 1 rfl) ?_
      refine wx_get C hP (q := 0) (ci := 8) (Nat.le_of_ble_eq_true rfl) (eC_0 _) (Cn := RX8) (T := TX8) (Nf := 11) rfl inX8_does_X8 1 (by decide) (List.mem_of_getElem? (i := 1) rfl) (v := .ref (ad (cSt 1))) rfl dX8_does_54 ?_
      refine wx_cv C hD hS (va_runV (As := [.ref (ad (cSt 1))]) (rest := []) C.1 (mtX4_keep (l := l) (D := D) (sz := H.size) (Nat.le_of_ble_eq_true rfl) h) (cwV 1 hts gX8_does_X4_keep rfl rfl rfl nyX4_keep ⟨Nat.le_of_ble_eq_true rfl, Nat.le_of_ble_eq_true rfl⟩) (wx_pv C hP hD hS (q := 41) (ci := 4) (Nat.le_of_ble_eq_true rfl) (eC_41 _) rfl) rfl rfl hl.1 rfl (lv_room (Nat.le_of_ble_eq_true rfl)) dX8_does_57 ⟨Nat.zero_le _, Nat.zero_le _⟩) (fun σ57 H locs h hP hD hS => ?_)
      refine lv_iload_n hx hb dX8_does_60 rfl (lv_at hl 0 rfl) ?_
      exact Rt _ _ _ _ _ _ h hP hD hS dX8_does_61
    · have h := h.2 c24
      refine lv_aload_n hx hb dX8_does_27 rfl (lv_at hl 1 rfl) ?_
      refine wx_get C hP (q := 0) (ci := 8) (Nat.le_of_ble_eq_true rfl) (eC_0 _) (Cn := RX8) (T := TX8) (Nf := 11) rfl inX8_does_X8 0 (by decide) (List.mem_of_getElem? (i := 2) rfl) (v := .ref (ad (cSt 0))) rfl dX8_does_28 ?_
      refine lv_aload_n hx hb dX8_does_31 rfl (lv_at hl 1 rfl) ?_
      refine wx_get C hP (q := 0) (ci := 8) (Nat.le_of_ble_eq_true rfl) (eC_0 _) (Cn := RX8) (T := TX8) (Nf := 11) rfl inX8_does_X8 1 (by decide) (List.mem_of_getElem? (i := 1) rfl) (v := .ref (ad (cSt 1))) rfl dX8_does_32 ?_
      refine wx_cv C hD hS (va_runV (As := [.ref (ad (cSt 1))]) (rest := []) C.1 (mtX5_copy (l := l) (D := D) (sz := H.size) (Nat.le_of_ble_eq_true rfl) (Nat.le_of_ble_eq_true rfl) h) (cwV 1 hts gX8_does_X5_copy rfl rfl rfl nyX5_copy ⟨Nat.le_of_ble_eq_true rfl, Nat.le_of_ble_eq_true rfl⟩) (wx_pv C hP hD hS (q := (cSt 0)) (ci := 5) (lt_st (Nat.le_of_ble_eq_true rfl)) (eC_st (Nat.le_of_ble_eq_true rfl) _) rfl) rfl rfl hl.1 rfl (lv_room (Nat.le_of_ble_eq_true rfl)) dX8_does_35 ⟨Nat.zero_le _, Nat.zero_le _⟩) (fun σ35 H locs h hP hD hS => ?_)
      refine lv_bipush (v := (-10)) hx hb dX8_does_38 (by decide) ?_
      refine lv_aload_n hx hb dX8_does_40 rfl (lv_at hl 1 rfl) ?_
      refine wx_get C hP (q := 0) (ci := 8) (Nat.le_of_ble_eq_true rfl) (eC_0 _) (Cn := RX8) (T := TX8) (Nf := 11) rfl inX8_does_X8 3 (by decide) (List.mem_of_getElem? (i := 3) rfl) (v := .ref (ad 43)) rfl dX8_does_41 ?_
      refine wx_get C hP (q := 43) (ci := 6) (Nat.le_of_ble_eq_true rfl) (eC_43 _) (Cn := RX6) (T := TX6) (Nf := 4) rfl inX8_does_X6 3 (by decide) (List.mem_of_getElem? (i := 4) rfl) (v := .int (σ35 43 3)) rfl dX8_does_44 ?_
      refine lv_isub hx hb dX8_does_47 ?_
      exact Rt _ _ _ _ _ _ h hP hD hS dX8_does_48
  rw [eH, eL] at goal
  exact goal
abbrev rmX8_back : Room := { frames := 5, cells := 0, slots := 0, locals := 128 }
set_option maxRecDepth 20000 in
theorem inX8_back_X4 : ∀ w ∈ u_ws RX4 TX4 3, w ∈ wsX8_back := by decide +kernel
set_option maxRecDepth 20000 in
theorem inX8_back_X8 : ∀ w ∈ u_ws RX8 TX8 11, w ∈ wsX8_back := by decide +kernel
theorem nyX4_giveBack : yX4_giveBack.cls = RX4 ∧ yX4_giveBack.cls ≠ "java/lang/invoke/MethodHandle" ∧ yX4_giveBack.cls ≠ "java/lang/invoke/VarHandle" ∧ (parseMethodDescriptor yX4_giveBack.desc).map (fun d => d.parameters.length) = some 1 := by decide +kernel
set_option maxRecDepth 100000 in
set_option maxHeartbeats 4000000 in
theorem mtX8_back {l : Launch} {D : va_G} {cI cB cS cR : ClassId} {ad : Nat → Nat} {tS tP : Nat} {kS vS : Nat → Nat} {sz : Nat} {σ : wx_Z} {K : Int32 → wx_Z → Prop} (h : wpX8_back σ K) : Met l yX8_back wsX8_back rmX8_back (wx_Pre D [(cI, .int), (cB, .byte), (cS, .object RX5), (cR, .array .int)] (wC_RO tS tP kS vS) 58 (wC_E cI cB cS cR ad) ad σ sz [.ref (ad 0)]) (va_Qi K (wx_B D [(cI, .int), (cB, .byte), (cS, .object RX5), (cR, .array .int)] 58 (wC_E cI cB cS cR ad) ad (va_A (wx_w 58 (wC_E cI cB cS cR ad) ad σ) sz)) (va_A (wx_w 58 (wC_E cI cB cS cR ad) ad σ) sz)) 0 0 (va_A (wx_w 58 (wC_E cI cB cS cR ad) ad σ) sz) := by
  unfold wpX8_back at h
  refine wx_meti (cc := cX8_back) (maxL := 1) (own := RX8) rfl (by decide) rfl (Nat.le_of_ble_eq_true rfl) (wC_ROok tS tP kS vS) ?_
  intro p e s m args below meth c A Q ls C Rt hP hD hS hl
  obtain ⟨⟨hx, hb, hml, hown, hts⟩, hA, hK, hRO, hro⟩ := id C
  have hl : lv_has ls 1 [(0, .ref (ad 0))] := hl
  obtain ⟨H, eH⟩ : ∃ z, z = s.heap := ⟨_, rfl⟩
  obtain ⟨locs, eL⟩ : ∃ z : List Loc, z = [] := ⟨_, rfl⟩
  rw [← eH] at hP
  have hS : va_S A s.heap H locs := by rw [eH, eL]; exact hS
  have goal : W p l e rmX8_back s m args below meth c H locs 0 0 Q (F0 m 0 ls []) := by
    refine lv_aload_n hx hb dX8_back_0 rfl (lv_at hl 0 rfl) ?_
    refine wx_get C hP (q := 0) (ci := 8) (Nat.le_of_ble_eq_true rfl) (eC_0 _) (Cn := RX8) (T := TX8) (Nf := 11) rfl inX8_back_X8 2 (by decide) (List.mem_of_getElem? (i := 1) rfl) (v := .ref (ad 41)) rfl dX8_back_1 ?_
    refine wx_get C hP (q := 41) (ci := 4) (Nat.le_of_ble_eq_true rfl) (eC_41 _) (Cn := RX4) (T := TX4) (Nf := 3) rfl inX8_back_X4 2 (by decide) (List.mem_of_getElem? (i := 2) rfl) (v := .int (σ 41 2)) rfl dX8_back_4 ?_
    refine lv_if_ne (tgt := 17) hx hb dX8_back_7 (by decide) (fun c7 => ?_) (fun c7 => ?_)
    · have h := h.1 c7
      refine lv_aload_n hx hb dX8_back_17 rfl (lv_at hl 0 rfl) ?_
      refine wx_get C hP (q := 0) (ci := 8) (Nat.le_of_ble_eq_true rfl) (eC_0 _) (Cn := RX8) (T := TX8) (Nf := 11) rfl inX8_back_X8 2 (by decide) (List.mem_of_getElem? (i := 1) rfl) (v := .ref (ad 41)) rfl dX8_back_18 ?_
      refine lv_aload_n hx hb dX8_back_21 rfl (lv_at hl 0 rfl) ?_
      refine wx_get C hP (q := 0) (ci := 8) (Nat.le_of_ble_eq_true rfl) (eC_0 _) (Cn := RX8) (T := TX8) (Nf := 11) rfl inX8_back_X8 0 (by decide) (List.mem_of_getElem? (i := 3) rfl) (v := .ref (ad (cSt 0))) rfl dX8_back_22 ?_
      refine wx_cv C hD hS (va_runV (As := [.ref (ad (cSt 0))]) (rest := []) C.1 (mtX4_giveBack (l := l) (D := D) (sz := H.size) (Nat.le_of_ble_eq_true rfl) h) (cwV 1 hts gX8_back_X4_giveBack rfl rfl rfl nyX4_giveBack ⟨Nat.le_of_ble_eq_true rfl, Nat.le_of_ble_eq_true rfl⟩) (wx_pv C hP hD hS (q := 41) (ci := 4) (Nat.le_of_ble_eq_true rfl) (eC_41 _) rfl) rfl rfl hl.1 rfl (lv_room (Nat.le_of_ble_eq_true rfl)) dX8_back_25 ⟨Nat.zero_le _, Nat.zero_le _⟩) (fun σ25 H locs h hP hD hS => ?_)
      refine lv_aload_n hx hb dX8_back_28 rfl (lv_at hl 0 rfl) ?_
      refine wx_get C hP (q := 0) (ci := 8) (Nat.le_of_ble_eq_true rfl) (eC_0 _) (Cn := RX8) (T := TX8) (Nf := 11) rfl inX8_back_X8 2 (by decide) (List.mem_of_getElem? (i := 1) rfl) (v := .ref (ad 41)) rfl dX8_back_29 ?_
      refine wx_get C hP (q := 41) (ci := 4) (Nat.le_of_ble_eq_true rfl) (eC_41 _) (Cn := RX4) (T := TX4) (Nf := 3) rfl inX8_back_X4 2 (by decide) (List.mem_of_getElem? (i := 2) rfl) (v := .int (σ25 41 2)) rfl dX8_back_32 ?_
      exact Rt _ _ _ _ _ _ h hP hD hS dX8_back_35
    · have h := h.2 c7
      refine lv_aload_n hx hb dX8_back_10 rfl (lv_at hl 0 rfl) ?_
      refine lv_bipush (v := (-3)) hx hb dX8_back_11 (by decide) ?_
      refine wx_ci C hD hS (va_runV (As := [.int (-3)]) (rest := []) C.1 (mtX8_refuseNo (l := l) (D := D) (sz := H.size) h) (cwV 1 hts gX8_back_X8_refuseNo rfl rfl rfl nyX8_refuseNo ⟨Nat.le_of_ble_eq_true rfl, Nat.le_of_ble_eq_true rfl⟩) (wx_pv C hP hD hS (q := 0) (ci := 8) (Nat.le_of_ble_eq_true rfl) (eC_0 _) rfl) rfl rfl hl.1 rfl (lv_room (Nat.le_of_ble_eq_true rfl)) dX8_back_13 ⟨Nat.zero_le _, Nat.zero_le _⟩) (fun r13 σ13 H locs h hP hD hS => ?_)
      exact Rt _ _ _ _ _ _ h hP hD hS dX8_back_16
  rw [eH, eL] at goal
  exact goal
abbrev rmX8_told : Room := { frames := 2, cells := 0, slots := 0, locals := 61 }
set_option maxRecDepth 20000 in
theorem inX8_told_X4 : ∀ w ∈ u_ws RX4 TX4 3, w ∈ wsX8_told := by decide +kernel
set_option maxRecDepth 20000 in
theorem inX8_told_X6 : ∀ w ∈ u_ws RX6 TX6 4, w ∈ wsX8_told := by decide +kernel
set_option maxRecDepth 20000 in
theorem inX8_told_X8 : ∀ w ∈ u_ws RX8 TX8 11, w ∈ wsX8_told := by decide +kernel
set_option maxRecDepth 100000 in
set_option maxHeartbeats 4000000 in
theorem mtX8_told {l : Launch} {D : va_G} {cI cB cS cR : ClassId} {ad : Nat → Nat} {tS tP : Nat} {kS vS : Nat → Nat} {sz : Nat} {σ : wx_Z} {x1 : Int32} {K : Int32 → wx_Z → Prop} (h : wpX8_told σ x1 K) : Met l yX8_told wsX8_told rmX8_told (wx_Pre D [(cI, .int), (cB, .byte), (cS, .object RX5), (cR, .array .int)] (wC_RO tS tP kS vS) 58 (wC_E cI cB cS cR ad) ad σ sz [.ref (ad 0), .int x1]) (va_Qi K (wx_B D [(cI, .int), (cB, .byte), (cS, .object RX5), (cR, .array .int)] 58 (wC_E cI cB cS cR ad) ad (va_A (wx_w 58 (wC_E cI cB cS cR ad) ad σ) sz)) (va_A (wx_w 58 (wC_E cI cB cS cR ad) ad σ) sz)) 0 0 (va_A (wx_w 58 (wC_E cI cB cS cR ad) ad σ) sz) := by
  unfold wpX8_told at h
  refine wx_meti (cc := cX8_told) (maxL := 2) (own := RX8) rfl (by decide) rfl (Nat.le_of_ble_eq_true rfl) (wC_ROok tS tP kS vS) ?_
  intro p e s m args below meth c A Q ls C Rt hP hD hS hl
  obtain ⟨⟨hx, hb, hml, hown, hts⟩, hA, hK, hRO, hro⟩ := id C
  have hl : lv_has ls 2 [(0, .ref (ad 0)), (1, .int x1)] := hl
  obtain ⟨H, eH⟩ : ∃ z, z = s.heap := ⟨_, rfl⟩
  obtain ⟨locs, eL⟩ : ∃ z : List Loc, z = [] := ⟨_, rfl⟩
  rw [← eH] at hP
  have hS : va_S A s.heap H locs := by rw [eH, eL]; exact hS
  have goal : W p l e rmX8_told s m args below meth c H locs 0 0 Q (F0 m 0 ls []) := by
    refine lv_iload_n hx hb dX8_told_0 rfl (lv_at hl 1 rfl) ?_
    by_cases q1 : x1 = 0
    · have h := h.1 q1
      refine lv_tableIn (tgt := 36) hx hb dX8_told_1 (by rw [q1]; decide) (by rw [q1]; decide) (by rw [q1]; try rfl) (by decide) ?_
      refine lv_aload_n hx hb dX8_told_36 rfl (lv_at hl 0 rfl) ?_
      refine wx_get C hP (q := 0) (ci := 8) (Nat.le_of_ble_eq_true rfl) (eC_0 _) (Cn := RX8) (T := TX8) (Nf := 11) rfl inX8_told_X8 8 (by decide) (List.mem_of_getElem? (i := 1) rfl) (v := .int (σ 0 8)) rfl dX8_told_37 ?_
      exact Rt _ _ _ _ _ _ h hP hD hS dX8_told_40
    by_cases q2 : x1 = 1
    · have h := h.2.1 q2
      refine lv_tableIn (tgt := 41) hx hb dX8_told_1 (by rw [q2]; decide) (by rw [q2]; decide) (by rw [q2]; try rfl) (by decide) ?_
      refine lv_aload_n hx hb dX8_told_41 rfl (lv_at hl 0 rfl) ?_
      refine wx_get C hP (q := 0) (ci := 8) (Nat.le_of_ble_eq_true rfl) (eC_0 _) (Cn := RX8) (T := TX8) (Nf := 11) rfl inX8_told_X8 9 (by decide) (List.mem_of_getElem? (i := 2) rfl) (v := .int (σ 0 9)) rfl dX8_told_42 ?_
      exact Rt _ _ _ _ _ _ h hP hD hS dX8_told_45
    by_cases q3 : x1 = 2
    · have h := h.2.2.1 q3
      refine lv_tableIn (tgt := 46) hx hb dX8_told_1 (by rw [q3]; decide) (by rw [q3]; decide) (by rw [q3]; try rfl) (by decide) ?_
      refine lv_aload_n hx hb dX8_told_46 rfl (lv_at hl 0 rfl) ?_
      refine wx_get C hP (q := 0) (ci := 8) (Nat.le_of_ble_eq_true rfl) (eC_0 _) (Cn := RX8) (T := TX8) (Nf := 11) rfl inX8_told_X8 10 (by decide) (List.mem_of_getElem? (i := 3) rfl) (v := .int (σ 0 10)) rfl dX8_told_47 ?_
      exact Rt _ _ _ _ _ _ h hP hD hS dX8_told_50
    by_cases q4 : x1 = 3
    · have h := h.2.2.2.1 q4
      refine lv_tableIn (tgt := 51) hx hb dX8_told_1 (by rw [q4]; decide) (by rw [q4]; decide) (by rw [q4]; try rfl) (by decide) ?_
      refine lv_aload_n hx hb dX8_told_51 rfl (lv_at hl 0 rfl) ?_
      refine wx_get C hP (q := 0) (ci := 8) (Nat.le_of_ble_eq_true rfl) (eC_0 _) (Cn := RX8) (T := TX8) (Nf := 11) rfl inX8_told_X8 3 (by decide) (List.mem_of_getElem? (i := 4) rfl) (v := .ref (ad 43)) rfl dX8_told_52 ?_
      refine wx_get C hP (q := 43) (ci := 6) (Nat.le_of_ble_eq_true rfl) (eC_43 _) (Cn := RX6) (T := TX6) (Nf := 4) rfl inX8_told_X6 2 (by decide) (List.mem_of_getElem? (i := 5) rfl) (v := .int (σ 43 2)) rfl dX8_told_55 ?_
      exact Rt _ _ _ _ _ _ h hP hD hS dX8_told_58
    by_cases q5 : x1 = 4
    · have h := h.2.2.2.2.1 q5
      refine lv_tableIn (tgt := 59) hx hb dX8_told_1 (by rw [q5]; decide) (by rw [q5]; decide) (by rw [q5]; try rfl) (by decide) ?_
      refine lv_aload_n hx hb dX8_told_59 rfl (lv_at hl 0 rfl) ?_
      refine wx_get C hP (q := 0) (ci := 8) (Nat.le_of_ble_eq_true rfl) (eC_0 _) (Cn := RX8) (T := TX8) (Nf := 11) rfl inX8_told_X8 2 (by decide) (List.mem_of_getElem? (i := 6) rfl) (v := .ref (ad 41)) rfl dX8_told_60 ?_
      refine wx_get C hP (q := 41) (ci := 4) (Nat.le_of_ble_eq_true rfl) (eC_41 _) (Cn := RX4) (T := TX4) (Nf := 3) rfl inX8_told_X4 2 (by decide) (List.mem_of_getElem? (i := 7) rfl) (v := .int (σ 41 2)) rfl dX8_told_63 ?_
      exact Rt _ _ _ _ _ _ h hP hD hS dX8_told_66
    have h := h.2.2.2.2.2 q1 q2 q3 q4 q5
    have z1 := lv_neT q1 (show (0 : Int32).toInt = 0 from by decide)
    have z2 := lv_neT q2 (show (1 : Int32).toInt = 1 from by decide)
    have z3 := lv_neT q3 (show (2 : Int32).toInt = 2 from by decide)
    have z4 := lv_neT q4 (show (3 : Int32).toInt = 3 from by decide)
    have z5 := lv_neT q5 (show (4 : Int32).toInt = 4 from by decide)
    refine lv_tableOut (tgt := 67) hx hb dX8_told_1 (by omega) (by decide) ?_
    refine lv_aload_n hx hb dX8_told_67 rfl (lv_at hl 0 rfl) ?_
    refine lv_bipush (v := (-2)) hx hb dX8_told_68 (by decide) ?_
    refine wx_ci C hD hS (va_runV (As := [.int (-2)]) (rest := []) C.1 (mtX8_refuseBad (l := l) (D := D) (sz := H.size) h) (cwV 1 hts gX8_told_X8_refuseBad rfl rfl rfl nyX8_refuseBad ⟨Nat.le_of_ble_eq_true rfl, Nat.le_of_ble_eq_true rfl⟩) (wx_pv C hP hD hS (q := 0) (ci := 8) (Nat.le_of_ble_eq_true rfl) (eC_0 _) rfl) rfl rfl hl.1 rfl (lv_room (Nat.le_of_ble_eq_true rfl)) dX8_told_70 ⟨Nat.zero_le _, Nat.zero_le _⟩) (fun r70 σ70 H locs h hP hD hS => ?_)
    exact Rt _ _ _ _ _ _ h hP hD hS dX8_told_73
  rw [eH, eL] at goal
  exact goal
abbrev rmX8_digest : Room := { frames := 12, cells := 0, slots := 0, locals := 294 }
set_option maxRecDepth 20000 in
theorem inX8_digest_X1 : ∀ w ∈ u_ws RX1 TX1 5, w ∈ wsX8_digest := by decide +kernel
set_option maxRecDepth 20000 in
theorem inX8_digest_X5 : ∀ w ∈ u_ws RX5 TX5 3, w ∈ wsX8_digest := by decide +kernel
set_option maxRecDepth 20000 in
theorem inX8_digest_X8 : ∀ w ∈ u_ws RX8 TX8 11, w ∈ wsX8_digest := by decide +kernel
theorem nyX8_told : yX8_told.cls = RX8 ∧ yX8_told.cls ≠ "java/lang/invoke/MethodHandle" ∧ yX8_told.cls ≠ "java/lang/invoke/VarHandle" ∧ (parseMethodDescriptor yX8_told.desc).map (fun d => d.parameters.length) = some 1 := by decide +kernel
theorem nyX8_votes : yX8_votes.cls = RX8 ∧ yX8_votes.cls ≠ "java/lang/invoke/MethodHandle" ∧ yX8_votes.cls ≠ "java/lang/invoke/VarHandle" ∧ (parseMethodDescriptor yX8_votes.desc).map (fun d => d.parameters.length) = some 0 := by decide +kernel
set_option maxRecDepth 100000 in
set_option maxHeartbeats 4000000 in
theorem bX8_digest_83 {p : Program} {l : Launch} {e : Env} {s : State} {m : MethodId} {args : Array Value} {below : List Frame} {meth : Method} {c : Code} {A : Nat → Prop} {Q : State → Prop} {D : va_G} {cI cB cS cR : ClassId} {ad : Nat → Nat} {tS tP : Nat} {kS vS : Nat → Nat} {K : Int64 → wx_Z → Prop} (C : wx_C p s m args c cX8_digest 4 RX8 wsX8_digest D [(cI, .int), (cB, .byte), (cS, .object RX5), (cR, .array .int)] (wC_RO tS tP kS vS) A) (Rt : wx_Rl p l e rmX8_digest s m args below meth c cX8_digest D 58 (wC_E cI cB cS cR ad) ad A K Q) : ∀ (n : Nat) (σ : wx_Z) (y1 : Int64) (x3 : Int32), wpX8_digest_83 K n σ y1 x3 → ∀ (H : Heap) (locs : List Loc) (ls : Array Slot), va_P D vwCl (wx_w 58 (wC_E cI cB cS cR ad) ad σ) H → va_D A (wx_w 58 (wC_E cI cB cS cR ad) ad σ) → va_S A s.heap H locs → lv_has ls 4 [(0, .ref (ad 0)), (1, .long y1), (3, .int x3)] → W p l e rmX8_digest s m args below meth c H locs 0 0 Q (F0 m 83 ls []) := by
  obtain ⟨⟨hx, hb, hml, hown, hts⟩, hA, hK, hRO, hro⟩ := id C
  intro n
  induction n with
  | zero => intro σ y1 x3 h; exact h.elim
  | succ n ih =>
    intro σ y1 x3 h H locs ls hP hD hS hl
    unfold wpX8_digest_83 at h
    refine lv_iload_n hx hb dX8_digest_83 rfl (lv_at hl 2 rfl) ?_
    refine lv_aload_n hx hb dX8_digest_84 rfl (lv_at hl 0 rfl) ?_
    refine wx_get C hP (q := 0) (ci := 8) (Nat.le_of_ble_eq_true rfl) (eC_0 _) (Cn := RX8) (T := TX8) (Nf := 11) rfl inX8_digest_X8 0 (by decide) (List.mem_of_getElem? (i := 3) rfl) (v := .ref (ad (cSt 0))) rfl dX8_digest_85 ?_
    refine wx_get C hP (q := (cSt 0)) (ci := 5) (lt_st (Nat.le_of_ble_eq_true rfl)) (eC_st (Nat.le_of_ble_eq_true rfl) _) (Cn := RX5) (T := TX5) (Nf := 3) rfl inX8_digest_X5 0 (by decide) (List.mem_of_getElem? (i := 4) rfl) (v := .ref (ad (cCo 0))) rfl dX8_digest_88 ?_
    refine wx_get C hP (q := (cCo 0)) (ci := 1) (lt_co (Nat.le_of_ble_eq_true rfl)) (eC_co (Nat.le_of_ble_eq_true rfl) _) (Cn := RX1) (T := TX1) (Nf := 5) rfl inX8_digest_X1 2 (by decide) (List.mem_of_getElem? (i := 8) rfl) (v := .int (σ (cCo 0) 2)) rfl dX8_digest_91 ?_
    refine lv_icmp_ge (tgt := 120) hx hb dX8_digest_94 (by decide) (fun c94 => ?_) (fun c94 => ?_)
    · have h := h.1 c94
      refine lv_ldc2 hx hb hown (hts _ (List.mem_of_getElem? (i := 2) rfl)) dX8_digest_120 ?_
      refine lv_lload_n hx hb dX8_digest_123 rfl (lv_at hl 1 rfl) ?_
      refine lv_lmul hx hb dX8_digest_124 ?_
      refine lv_aload_n hx hb dX8_digest_125 rfl (lv_at hl 0 rfl) ?_
      refine wx_ci C hD hS (va_runV (As := []) (rest := [.long (31 * y1)]) C.1 (mtX8_votes (l := l) (D := D) (sz := H.size) h) (cwV 0 hts gX8_digest_X8_votes rfl rfl rfl nyX8_votes ⟨Nat.le_of_ble_eq_true rfl, Nat.le_of_ble_eq_true rfl⟩) (wx_pv C hP hD hS (q := 0) (ci := 8) (Nat.le_of_ble_eq_true rfl) (eC_0 _) rfl) rfl rfl hl.1 rfl (lv_room (Nat.le_of_ble_eq_true rfl)) dX8_digest_126 ⟨Nat.zero_le _, Nat.zero_le _⟩) (fun r126 σ126 H locs h hP hD hS => ?_)
      refine lv_i2l (v := Int32.toInt64 r126) hx hb dX8_digest_129 rfl ?_
      refine lv_ladd hx hb dX8_digest_130 ?_
      refine lv_topl (fun t131 e_t131 => ?_)
      have h := h t131 e_t131
      refine lv_lstore_n (lv' := [(1, .long t131), (0, .ref (ad 0)), (3, .int x3)]) hx hb dX8_digest_131 rfl hl (by decide) rfl (fun ls hl => ?_)
      refine lv_ldc2 hx hb hown (hts _ (List.mem_of_getElem? (i := 2) rfl)) dX8_digest_132 ?_
      refine lv_lload_n hx hb dX8_digest_135 rfl (lv_at hl 0 rfl) ?_
      refine lv_lmul hx hb dX8_digest_136 ?_
      refine lv_aload_n hx hb dX8_digest_137 rfl (lv_at hl 1 rfl) ?_
      refine wx_ci C hD hS (va_runV (As := []) (rest := [.long (31 * t131)]) C.1 (mtX8_halves (l := l) (D := D) (sz := H.size) h) (cwV 0 hts gX8_digest_X8_halves rfl rfl rfl nyX8_halves ⟨Nat.le_of_ble_eq_true rfl, Nat.le_of_ble_eq_true rfl⟩) (wx_pv C hP hD hS (q := 0) (ci := 8) (Nat.le_of_ble_eq_true rfl) (eC_0 _) rfl) rfl rfl hl.1 rfl (lv_room (Nat.le_of_ble_eq_true rfl)) dX8_digest_138 ⟨Nat.zero_le _, Nat.zero_le _⟩) (fun r138 σ138 H locs h hP hD hS => ?_)
      refine lv_i2l (v := Int32.toInt64 r138) hx hb dX8_digest_141 rfl ?_
      refine lv_ladd hx hb dX8_digest_142 ?_
      exact Rt _ _ _ _ _ _ h hP hD hS dX8_digest_143
    · have h := h.2 c94
      refine lv_ldc2 hx hb hown (hts _ (List.mem_of_getElem? (i := 2) rfl)) dX8_digest_97 ?_
      refine lv_lload_n hx hb dX8_digest_100 rfl (lv_at hl 1 rfl) ?_
      refine lv_lmul hx hb dX8_digest_101 ?_
      refine lv_aload_n hx hb dX8_digest_102 rfl (lv_at hl 0 rfl) ?_
      refine wx_get C hP (q := 0) (ci := 8) (Nat.le_of_ble_eq_true rfl) (eC_0 _) (Cn := RX8) (T := TX8) (Nf := 11) rfl inX8_digest_X8 0 (by decide) (List.mem_of_getElem? (i := 3) rfl) (v := .ref (ad (cSt 0))) rfl dX8_digest_103 ?_
      refine wx_get C hP (q := (cSt 0)) (ci := 5) (lt_st (Nat.le_of_ble_eq_true rfl)) (eC_st (Nat.le_of_ble_eq_true rfl) _) (Cn := RX5) (T := TX5) (Nf := 3) rfl inX8_digest_X5 1 (by decide) (List.mem_of_getElem? (i := 9) rfl) (v := .ref (ad (cSo 0))) rfl dX8_digest_106 ?_
      refine lv_iload_n hx hb dX8_digest_109 rfl (lv_at hl 2 rfl) ?_
      refine wx_ild C hP (q := (cSo 0)) (lt_so (Nat.le_of_ble_eq_true rfl)) (eC_so (Nat.le_of_ble_eq_true rfl)) 0 rfl h.1 dX8_digest_110 ?_
      have h := h.2
      refine lv_i2l (v := Int32.toInt64 (σ (cSo 0) (Int32.toNatClampNeg x3))) hx hb dX8_digest_111 rfl ?_
      refine lv_ladd hx hb dX8_digest_112 ?_
      refine lv_topl (fun t113 e_t113 => ?_)
      have h := h t113 e_t113
      refine lv_lstore_n (lv' := [(1, .long t113), (0, .ref (ad 0)), (3, .int x3)]) hx hb dX8_digest_113 rfl hl (by decide) rfl (fun ls hl => ?_)
      obtain ⟨t114, e_t114⟩ : ∃ y : Int32, y = x3 + 1 := ⟨_, rfl⟩
      have h := h t114 e_t114
      refine lv_iinc (v := t114) (lv' := [(3, .int t114), (1, .long t113), (0, .ref (ad 0))]) hx hb dX8_digest_114 hl (k := 2) rfl (by rw [e_t114]; rfl) (by decide) rfl (fun ls hl => ?_)
      refine lv_goto (tgt := 83) hx hb dX8_digest_117 (by decide) ?_
      exact ih σ t113 t114  h _ _ _ hP hD hS (lv_sub hl [2, 1, 0] rfl)
set_option maxRecDepth 100000 in
set_option maxHeartbeats 4000000 in
theorem bX8_digest_6 {p : Program} {l : Launch} {e : Env} {s : State} {m : MethodId} {args : Array Value} {below : List Frame} {meth : Method} {c : Code} {A : Nat → Prop} {Q : State → Prop} {D : va_G} {cI cB cS cR : ClassId} {ad : Nat → Nat} {tS tP : Nat} {kS vS : Nat → Nat} {K : Int64 → wx_Z → Prop} (C : wx_C p s m args c cX8_digest 4 RX8 wsX8_digest D [(cI, .int), (cB, .byte), (cS, .object RX5), (cR, .array .int)] (wC_RO tS tP kS vS) A) (Rt : wx_Rl p l e rmX8_digest s m args below meth c cX8_digest D 58 (wC_E cI cB cS cR ad) ad A K Q) : ∀ (n : Nat) (σ : wx_Z) (y1 : Int64) (x3 : Int32), wpX8_digest_6 K n σ y1 x3 → ∀ (H : Heap) (locs : List Loc) (ls : Array Slot), va_P D vwCl (wx_w 58 (wC_E cI cB cS cR ad) ad σ) H → va_D A (wx_w 58 (wC_E cI cB cS cR ad) ad σ) → va_S A s.heap H locs → lv_has ls 4 [(0, .ref (ad 0)), (1, .long y1), (3, .int x3)] → W p l e rmX8_digest s m args below meth c H locs 0 0 Q (F0 m 6 ls []) := by
  obtain ⟨⟨hx, hb, hml, hown, hts⟩, hA, hK, hRO, hro⟩ := id C
  intro n
  induction n with
  | zero => intro σ y1 x3 h; exact h.elim
  | succ n ih =>
    intro σ y1 x3 h H locs ls hP hD hS hl
    unfold wpX8_digest_6 at h
    refine lv_iload_n hx hb dX8_digest_6 rfl (lv_at hl 2 rfl) ?_
    refine lv_iconst (v := 5) hx hb dX8_digest_7 (by decide) ?_
    refine lv_icmp_ge (tgt := 30) hx hb dX8_digest_8 (by decide) (fun c8 => ?_) (fun c8 => ?_)
    · have h := h.1 c8
      refine lv_ldc2 hx hb hown (hts _ (List.mem_of_getElem? (i := 2) rfl)) dX8_digest_30 ?_
      refine lv_lload_n hx hb dX8_digest_33 rfl (lv_at hl 1 rfl) ?_
      refine lv_lmul hx hb dX8_digest_34 ?_
      refine lv_aload_n hx hb dX8_digest_35 rfl (lv_at hl 0 rfl) ?_
      refine wx_get C hP (q := 0) (ci := 8) (Nat.le_of_ble_eq_true rfl) (eC_0 _) (Cn := RX8) (T := TX8) (Nf := 11) rfl inX8_digest_X8 0 (by decide) (List.mem_of_getElem? (i := 3) rfl) (v := .ref (ad (cSt 0))) rfl dX8_digest_36 ?_
      refine wx_get C hP (q := (cSt 0)) (ci := 5) (lt_st (Nat.le_of_ble_eq_true rfl)) (eC_st (Nat.le_of_ble_eq_true rfl) _) (Cn := RX5) (T := TX5) (Nf := 3) rfl inX8_digest_X5 0 (by decide) (List.mem_of_getElem? (i := 4) rfl) (v := .ref (ad (cCo 0))) rfl dX8_digest_39 ?_
      refine wx_get C hP (q := (cCo 0)) (ci := 1) (lt_co (Nat.le_of_ble_eq_true rfl)) (eC_co (Nat.le_of_ble_eq_true rfl) _) (Cn := RX1) (T := TX1) (Nf := 5) rfl inX8_digest_X1 0 (by decide) (List.mem_of_getElem? (i := 5) rfl) (v := .int (σ (cCo 0) 0)) rfl dX8_digest_42 ?_
      refine lv_i2l (v := Int32.toInt64 (σ (cCo 0) 0)) hx hb dX8_digest_45 rfl ?_
      refine lv_ladd hx hb dX8_digest_46 ?_
      refine lv_topl (fun t47 e_t47 => ?_)
      have h := h t47 e_t47
      refine lv_lstore_n (lv' := [(1, .long t47), (0, .ref (ad 0)), (3, .int x3)]) hx hb dX8_digest_47 rfl hl (by decide) rfl (fun ls hl => ?_)
      refine lv_ldc2 hx hb hown (hts _ (List.mem_of_getElem? (i := 2) rfl)) dX8_digest_48 ?_
      refine lv_lload_n hx hb dX8_digest_51 rfl (lv_at hl 0 rfl) ?_
      refine lv_lmul hx hb dX8_digest_52 ?_
      refine lv_aload_n hx hb dX8_digest_53 rfl (lv_at hl 1 rfl) ?_
      refine wx_get C hP (q := 0) (ci := 8) (Nat.le_of_ble_eq_true rfl) (eC_0 _) (Cn := RX8) (T := TX8) (Nf := 11) rfl inX8_digest_X8 0 (by decide) (List.mem_of_getElem? (i := 3) rfl) (v := .ref (ad (cSt 0))) rfl dX8_digest_54 ?_
      refine wx_get C hP (q := (cSt 0)) (ci := 5) (lt_st (Nat.le_of_ble_eq_true rfl)) (eC_st (Nat.le_of_ble_eq_true rfl) _) (Cn := RX5) (T := TX5) (Nf := 3) rfl inX8_digest_X5 0 (by decide) (List.mem_of_getElem? (i := 4) rfl) (v := .ref (ad (cCo 0))) rfl dX8_digest_57 ?_
      refine wx_get C hP (q := (cCo 0)) (ci := 1) (lt_co (Nat.le_of_ble_eq_true rfl)) (eC_co (Nat.le_of_ble_eq_true rfl) _) (Cn := RX1) (T := TX1) (Nf := 5) rfl inX8_digest_X1 1 (by decide) (List.mem_of_getElem? (i := 6) rfl) (v := .int (σ (cCo 0) 1)) rfl dX8_digest_60 ?_
      refine lv_i2l (v := Int32.toInt64 (σ (cCo 0) 1)) hx hb dX8_digest_63 rfl ?_
      refine lv_ladd hx hb dX8_digest_64 ?_
      refine lv_topl (fun t65 e_t65 => ?_)
      have h := h t65 e_t65
      refine lv_lstore_n (lv' := [(1, .long t65), (0, .ref (ad 0)), (3, .int x3)]) hx hb dX8_digest_65 rfl hl (by decide) rfl (fun ls hl => ?_)
      refine lv_ldc2 hx hb hown (hts _ (List.mem_of_getElem? (i := 2) rfl)) dX8_digest_66 ?_
      refine lv_lload_n hx hb dX8_digest_69 rfl (lv_at hl 0 rfl) ?_
      refine lv_lmul hx hb dX8_digest_70 ?_
      refine lv_aload_n hx hb dX8_digest_71 rfl (lv_at hl 1 rfl) ?_
      refine wx_get C hP (q := 0) (ci := 8) (Nat.le_of_ble_eq_true rfl) (eC_0 _) (Cn := RX8) (T := TX8) (Nf := 11) rfl inX8_digest_X8 0 (by decide) (List.mem_of_getElem? (i := 3) rfl) (v := .ref (ad (cSt 0))) rfl dX8_digest_72 ?_
      refine wx_get C hP (q := (cSt 0)) (ci := 5) (lt_st (Nat.le_of_ble_eq_true rfl)) (eC_st (Nat.le_of_ble_eq_true rfl) _) (Cn := RX5) (T := TX5) (Nf := 3) rfl inX8_digest_X5 2 (by decide) (List.mem_of_getElem? (i := 7) rfl) (v := .int (σ (cSt 0) 2)) rfl dX8_digest_75 ?_
      refine lv_i2l (v := Int32.toInt64 (σ (cSt 0) 2)) hx hb dX8_digest_78 rfl ?_
      refine lv_ladd hx hb dX8_digest_79 ?_
      refine lv_topl (fun t80 e_t80 => ?_)
      have h := h t80 e_t80
      refine lv_lstore_n (lv' := [(1, .long t80), (0, .ref (ad 0)), (3, .int x3)]) hx hb dX8_digest_80 rfl hl (by decide) rfl (fun ls hl => ?_)
      refine lv_iconst (v := 0) hx hb dX8_digest_81 (by decide) ?_
      refine lv_istore_n (lv' := [(3, .int 0), (1, .long t80), (0, .ref (ad 0))]) hx hb dX8_digest_82 rfl hl (by decide) rfl (fun ls hl => ?_)
      obtain ⟨n83, h⟩ := h
      exact bX8_digest_83 C Rt n83 σ t80 0  h _ _ _ hP hD hS (lv_sub hl [2, 1, 0] rfl)
    · have h := h.2 c8
      refine lv_ldc2 hx hb hown (hts _ (List.mem_of_getElem? (i := 2) rfl)) dX8_digest_11 ?_
      refine lv_lload_n hx hb dX8_digest_14 rfl (lv_at hl 1 rfl) ?_
      refine lv_lmul hx hb dX8_digest_15 ?_
      refine lv_aload_n hx hb dX8_digest_16 rfl (lv_at hl 0 rfl) ?_
      refine lv_iload_n hx hb dX8_digest_17 rfl (lv_at hl 2 rfl) ?_
      refine wx_ci C hD hS (va_runV (As := [.int x3]) (rest := [.long (31 * y1)]) C.1 (mtX8_told (l := l) (D := D) (sz := H.size) h) (cwV 1 hts gX8_digest_X8_told rfl rfl rfl nyX8_told ⟨Nat.le_of_ble_eq_true rfl, Nat.le_of_ble_eq_true rfl⟩) (wx_pv C hP hD hS (q := 0) (ci := 8) (Nat.le_of_ble_eq_true rfl) (eC_0 _) rfl) rfl rfl hl.1 rfl (lv_room (Nat.le_of_ble_eq_true rfl)) dX8_digest_18 ⟨Nat.zero_le _, Nat.zero_le _⟩) (fun r18 σ18 H locs h hP hD hS => ?_)
      refine lv_i2l (v := Int32.toInt64 r18) hx hb dX8_digest_21 rfl ?_
      refine lv_ladd hx hb dX8_digest_22 ?_
      refine lv_topl (fun t23 e_t23 => ?_)
      have h := h t23 e_t23
      refine lv_lstore_n (lv' := [(1, .long t23), (0, .ref (ad 0)), (3, .int x3)]) hx hb dX8_digest_23 rfl hl (by decide) rfl (fun ls hl => ?_)
      obtain ⟨t24, e_t24⟩ : ∃ y : Int32, y = x3 + 1 := ⟨_, rfl⟩
      have h := h t24 e_t24
      refine lv_iinc (v := t24) (lv' := [(3, .int t24), (1, .long t23), (0, .ref (ad 0))]) hx hb dX8_digest_24 hl (k := 2) rfl (by rw [e_t24]; rfl) (by decide) rfl (fun ls hl => ?_)
      refine lv_goto (tgt := 6) hx hb dX8_digest_27 (by decide) ?_
      exact ih σ18 t23 t24  h _ _ _ hP hD hS (lv_sub hl [2, 1, 0] rfl)
set_option maxRecDepth 100000 in
set_option maxHeartbeats 4000000 in
theorem mtX8_digest {l : Launch} {D : va_G} {cI cB cS cR : ClassId} {ad : Nat → Nat} {tS tP : Nat} {kS vS : Nat → Nat} {sz : Nat} {σ : wx_Z} {K : Int64 → wx_Z → Prop} (h : wpX8_digest σ K) : Met l yX8_digest wsX8_digest rmX8_digest (wx_Pre D [(cI, .int), (cB, .byte), (cS, .object RX5), (cR, .array .int)] (wC_RO tS tP kS vS) 58 (wC_E cI cB cS cR ad) ad σ sz [.ref (ad 0)]) (va_Ql K (wx_B D [(cI, .int), (cB, .byte), (cS, .object RX5), (cR, .array .int)] 58 (wC_E cI cB cS cR ad) ad (va_A (wx_w 58 (wC_E cI cB cS cR ad) ad σ) sz)) (va_A (wx_w 58 (wC_E cI cB cS cR ad) ad σ) sz)) 0 0 (va_A (wx_w 58 (wC_E cI cB cS cR ad) ad σ) sz) := by
  unfold wpX8_digest at h
  refine wx_metl (cc := cX8_digest) (maxL := 4) (own := RX8) rfl (by decide) rfl (Nat.le_of_ble_eq_true rfl) (wC_ROok tS tP kS vS) ?_
  intro p e s m args below meth c A Q ls C Rt hP hD hS hl
  obtain ⟨⟨hx, hb, hml, hown, hts⟩, hA, hK, hRO, hro⟩ := id C
  have hl : lv_has ls 4 [(0, .ref (ad 0))] := hl
  obtain ⟨H, eH⟩ : ∃ z, z = s.heap := ⟨_, rfl⟩
  obtain ⟨locs, eL⟩ : ∃ z : List Loc, z = [] := ⟨_, rfl⟩
  rw [← eH] at hP
  have hS : va_S A s.heap H locs := by rw [eH, eL]; exact hS
  have goal : W p l e rmX8_digest s m args below meth c H locs 0 0 Q (F0 m 0 ls []) := by
    refine lv_ldc2 hx hb hown (hts _ (List.mem_of_getElem? (i := 1) rfl)) dX8_digest_0 ?_
    refine lv_lstore_n (lv' := [(1, .long 2111), (0, .ref (ad 0))]) hx hb dX8_digest_3 rfl hl (by decide) rfl (fun ls hl => ?_)
    refine lv_iconst (v := 0) hx hb dX8_digest_4 (by decide) ?_
    refine lv_istore_n (lv' := [(3, .int 0), (1, .long 2111), (0, .ref (ad 0))]) hx hb dX8_digest_5 rfl hl (by decide) rfl (fun ls hl => ?_)
    obtain ⟨n6, h⟩ := h
    exact bX8_digest_6 C Rt n6 σ 2111 0  h _ _ _ hP hD hS (lv_sub hl [2, 1, 0] rfl)
  rw [eH, eL] at goal
  exact goal

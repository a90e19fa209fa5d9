abbrev rmX9_term : Room := { frames := 5, cells := 0, slots := 0, locals := 123 }
set_option maxRecDepth 20000 in
theorem inX9_term_X9 : ∀ w ∈ u_ws RX9 TX9 27, w ∈ wsX9_term := by decide +kernel
set_option maxRecDepth 100000 in
set_option maxHeartbeats 4000000 in
theorem mtX9_term {l : Launch} {D : va_G} {cI : ClassId} {ad : Nat → Nat} {sz : Nat} {σ : wx_Z} {x1 : Int32} {K : Int32 → wx_Z → Prop} (h : wpX9_term σ x1 K) : Met l yX9_term wsX9_term rmX9_term (wx_Pre D [(cI, .int)] wx_T0 14 (wM_E cI ad) ad σ sz [.ref (ad 0), .int x1]) (va_Qi K (wx_B D [(cI, .int)] 14 (wM_E cI ad) ad (va_A (wx_w 14 (wM_E cI ad) ad σ) sz)) (va_A (wx_w 14 (wM_E cI ad) ad σ) sz)) 0 0 (va_A (wx_w 14 (wM_E cI ad) ad σ) sz) := by
  unfold wpX9_term at h
  refine wx_meti (cc := cX9_term) (maxL := 2) (own := RX9) rfl (by decide) rfl (Nat.le_of_ble_eq_true rfl) wx_T0_ok ?_
  intro p e s m args below meth c A Q ls C Rt hP hD hS hl
  obtain ⟨⟨hx, hb, hml, hown, hts⟩, hA, hK, hRO, hro⟩ := id C
  have hl : lv_has ls 2 [(0, .ref (ad 0)), (1, .int x1)] := hl
  obtain ⟨H, eH⟩ : ∃ z, z = s.heap := ⟨_, rfl⟩
  obtain ⟨locs, eL⟩ : ∃ z : List Loc, z = [] := ⟨_, rfl⟩
  rw [← eH] at hP
  have hS : va_S A s.heap H locs := by rw [eH, eL]; exact hS
  have goal : W p l e rmX9_term s m args below meth c H locs 0 0 Q (F0 m 0 ls []) := by
    refine lv_iload_n hx hb dX9_term_0 rfl (lv_at hl 1 rfl) ?_
    refine lv_if_ge (tgt := 11) hx hb dX9_term_1 (by decide) (fun c1 => ?_) (fun c1 => ?_)
    · have h := h.1 c1
      refine lv_iload_n hx hb dX9_term_11 rfl (lv_at hl 1 rfl) ?_
      refine lv_aload_n hx hb dX9_term_12 rfl (lv_at hl 0 rfl) ?_
      refine wx_ci C hD hS (va_runV (As := []) (rest := [.int x1]) C.1 (mtX9_many (l := l) (D := D) (sz := H.size) h) (cwV 0 hts gX9_term_X9_many rfl rfl rfl nyX9_many ⟨Nat.le_of_ble_eq_true rfl, Nat.le_of_ble_eq_true rfl⟩) (wx_pv C hP hD hS (q := 0) (ci := 9) (Nat.le_of_ble_eq_true rfl) (eM_0 cI ad _) rfl) rfl rfl hl.1 rfl (lv_room (Nat.le_of_ble_eq_true rfl)) dX9_term_13 ⟨Nat.zero_le _, Nat.zero_le _⟩) (fun r13 σ13 H locs h hP hD hS => ?_)
      refine lv_icmp_ge (tgt := 28) hx hb dX9_term_16 (by decide) (fun c16 => ?_) (fun c16 => ?_)
      · have h := h.1 c16
        refine lv_iconst (v := (-1)) hx hb dX9_term_28 (by decide) ?_
        exact Rt _ _ _ _ _ _ h hP hD hS dX9_term_29
      · have h := h.2 c16
        refine lv_aload_n hx hb dX9_term_19 rfl (lv_at hl 0 rfl) ?_
        refine wx_get C hP (q := 0) (ci := 9) (Nat.le_of_ble_eq_true rfl) (eM_0 cI ad _) (Cn := RX9) (T := TX9) (Nf := 27) rfl inX9_term_X9 4 (by decide) (List.mem_of_getElem? (i := 1) rfl) (v := .ref (ad 4)) rfl dX9_term_20 ?_
        refine lv_iload_n hx hb dX9_term_23 rfl (lv_at hl 1 rfl) ?_
        refine wx_ild C hP (q := 4) (Nat.le_of_ble_eq_true rfl) (fun _ => rfl) 0 rfl h.1 dX9_term_24 ?_
        have h := h.2
        refine lv_goto (tgt := 29) hx hb dX9_term_25 (by decide) ?_
        exact Rt _ _ _ _ _ _ h hP hD hS dX9_term_29
    · have h := h.2 c1
      refine lv_aload_n hx hb dX9_term_4 rfl (lv_at hl 0 rfl) ?_
      refine lv_bipush (v := (-2)) hx hb dX9_term_5 (by decide) ?_
      refine wx_ci C hD hS (va_runV (As := [.int (-2)]) (rest := []) C.1 (mtX9_bad (l := l) (D := D) (sz := H.size) h) (cwV 1 hts gX9_term_X9_bad rfl rfl rfl nyX9_bad ⟨Nat.le_of_ble_eq_true rfl, Nat.le_of_ble_eq_true rfl⟩) (wx_pv C hP hD hS (q := 0) (ci := 9) (Nat.le_of_ble_eq_true rfl) (eM_0 cI ad _) rfl) rfl rfl hl.1 rfl (lv_room (Nat.le_of_ble_eq_true rfl)) dX9_term_7 ⟨Nat.zero_le _, Nat.zero_le _⟩) (fun r7 σ7 H locs h hP hD hS => ?_)
      exact Rt _ _ _ _ _ _ h hP hD hS dX9_term_10
  rw [eH, eL] at goal
  exact goal
abbrev rmX9_isWithin : Room := { frames := 2, cells := 0, slots := 0, locals := 60 }
theorem nyX9_allOf : yX9_allOf.cls = RX9 ∧ yX9_allOf.cls ≠ "java/lang/invoke/MethodHandle" ∧ yX9_allOf.cls ≠ "java/lang/invoke/VarHandle" ∧ (parseMethodDescriptor yX9_allOf.desc).map (fun d => d.parameters.length) = some 1 := by decide +kernel
set_option maxRecDepth 100000 in
set_option maxHeartbeats 4000000 in
theorem mtX9_isWithin {l : Launch} {D : va_G} {cI : ClassId} {ad : Nat → Nat} {sz : Nat} {σ : wx_Z} {x1 : Int32} {x2 : Int32} {K : Int32 → wx_Z → Prop} (h : wpX9_isWithin σ x1 x2 K) : Met l yX9_isWithin wsX9_isWithin rmX9_isWithin (wx_Pre D [(cI, .int)] wx_T0 14 (wM_E cI ad) ad σ sz [.ref (ad 0), .int x1, .int x2]) (va_Qi K (wx_B D [(cI, .int)] 14 (wM_E cI ad) ad (va_A (wx_w 14 (wM_E cI ad) ad σ) sz)) (va_A (wx_w 14 (wM_E cI ad) ad σ) sz)) 0 0 (va_A (wx_w 14 (wM_E cI ad) ad σ) sz) := by
  unfold wpX9_isWithin at h
  refine wx_metz (cc := cX9_isWithin) (maxL := 3) (own := RX9) rfl (by decide) rfl (Nat.le_of_ble_eq_true rfl) wx_T0_ok ?_
  intro p e s m args below meth c A Q ls C Rt hP hD hS hl
  obtain ⟨⟨hx, hb, hml, hown, hts⟩, hA, hK, hRO, hro⟩ := id C
  have hl : lv_has ls 3 [(0, .ref (ad 0)), (1, .int x1), (2, .int x2)] := hl
  obtain ⟨H, eH⟩ : ∃ z, z = s.heap := ⟨_, rfl⟩
  obtain ⟨locs, eL⟩ : ∃ z : List Loc, z = [] := ⟨_, rfl⟩
  rw [← eH] at hP
  have hS : va_S A s.heap H locs := by rw [eH, eL]; exact hS
  have goal : W p l e rmX9_isWithin s m args below meth c H locs 0 0 Q (F0 m 0 ls []) := by
    refine lv_iload_n hx hb dX9_isWithin_0 rfl (lv_at hl 1 rfl) ?_
    refine lv_iload_n hx hb dX9_isWithin_1 rfl (lv_at hl 2 rfl) ?_
    refine wx_ci C hD hS (va_runS (As := [.int x2]) (rest := [.int x1]) C.1 (mtX9_allOf (l := l) (D := D) (sz := H.size) h) (va_cwS 1 hts gX9_isWithin_X9_allOf rfl rfl rfl nyX9_allOf.2 ⟨Nat.le_of_ble_eq_true rfl, Nat.le_of_ble_eq_true rfl⟩) (wx_ps C hP hD hS) rfl rfl hl.1 rfl (lv_room (Nat.le_of_ble_eq_true rfl)) dX9_isWithin_2 ⟨Nat.zero_le _, Nat.zero_le _⟩) (fun r2 σ2 H locs h hP hD hS => ?_)
    refine lv_iconst (v := (-1)) hx hb dX9_isWithin_5 (by decide) ?_
    refine lv_ixor hx hb dX9_isWithin_6 ?_
    refine lv_iand hx hb dX9_isWithin_7 ?_
    refine lv_if_ne (tgt := 15) hx hb dX9_isWithin_8 (by decide) (fun c8 => ?_) (fun c8 => ?_)
    · have h := h.1 c8
      refine lv_iconst (v := 0) hx hb dX9_isWithin_15 (by decide) ?_
      exact Rt _ _ _ _ _ _ rfl h hP hD hS dX9_isWithin_16
    · have h := h.2 c8
      refine lv_iconst (v := 1) hx hb dX9_isWithin_11 (by decide) ?_
      refine lv_goto (tgt := 16) hx hb dX9_isWithin_12 (by decide) ?_
      exact Rt _ _ _ _ _ _ rfl h hP hD hS dX9_isWithin_16
  rw [eH, eL] at goal
  exact goal
abbrev rmX9_word : Room := { frames := 3, cells := 0, slots := 0, locals := 82 }
set_option maxRecDepth 20000 in
theorem inX9_word_X9 : ∀ w ∈ u_ws RX9 TX9 27, w ∈ wsX9_word := by decide +kernel
theorem nyX9_isWithin : yX9_isWithin.cls = RX9 ∧ yX9_isWithin.cls ≠ "java/lang/invoke/MethodHandle" ∧ yX9_isWithin.cls ≠ "java/lang/invoke/VarHandle" ∧ (parseMethodDescriptor yX9_isWithin.desc).map (fun d => d.parameters.length) = some 2 := by decide +kernel
set_option maxRecDepth 100000 in
set_option maxHeartbeats 4000000 in
theorem mtX9_word {l : Launch} {D : va_G} {cI : ClassId} {ad : Nat → Nat} {sz : Nat} {σ : wx_Z} {x1 : Int32} {K : Int32 → wx_Z → Prop} (h : wpX9_word σ x1 K) : Met l yX9_word wsX9_word rmX9_word (wx_Pre D [(cI, .int)] wx_T0 14 (wM_E cI ad) ad σ sz [.ref (ad 0), .int x1]) (va_Qi K (wx_B D [(cI, .int)] 14 (wM_E cI ad) ad (va_A (wx_w 14 (wM_E cI ad) ad σ) sz)) (va_A (wx_w 14 (wM_E cI ad) ad σ) sz)) 0 0 (va_A (wx_w 14 (wM_E cI ad) ad σ) sz) := by
  unfold wpX9_word at h
  refine wx_meti (cc := cX9_word) (maxL := 2) (own := RX9) rfl (by decide) rfl (Nat.le_of_ble_eq_true rfl) wx_T0_ok ?_
  intro p e s m args below meth c A Q ls C Rt hP hD hS hl
  obtain ⟨⟨hx, hb, hml, hown, hts⟩, hA, hK, hRO, hro⟩ := id C
  have hl : lv_has ls 2 [(0, .ref (ad 0)), (1, .int x1)] := hl
  obtain ⟨H, eH⟩ : ∃ z, z = s.heap := ⟨_, rfl⟩
  obtain ⟨locs, eL⟩ : ∃ z : List Loc, z = [] := ⟨_, rfl⟩
  rw [← eH] at hP
  have hS : va_S A s.heap H locs := by rw [eH, eL]; exact hS
  have goal : W p l e rmX9_word s m args below meth c H locs 0 0 Q (F0 m 0 ls []) := by
    refine lv_aload_n hx hb dX9_word_0 rfl (lv_at hl 0 rfl) ?_
    refine lv_iload_n hx hb dX9_word_1 rfl (lv_at hl 1 rfl) ?_
    refine lv_aload_n hx hb dX9_word_2 rfl (lv_at hl 0 rfl) ?_
    refine wx_ci C hD hS (va_runV (As := []) (rest := [.int x1, .ref (ad 0)]) C.1 (mtX9_places (l := l) (D := D) (sz := H.size) h) (cwV 0 hts gX9_word_X9_places rfl rfl rfl nyX9_places ⟨Nat.le_of_ble_eq_true rfl, Nat.le_of_ble_eq_true rfl⟩) (wx_pv C hP hD hS (q := 0) (ci := 9) (Nat.le_of_ble_eq_true rfl) (eM_0 cI ad _) rfl) rfl rfl hl.1 rfl (lv_room (Nat.le_of_ble_eq_true rfl)) dX9_word_3 ⟨Nat.zero_le _, Nat.zero_le _⟩) (fun r3 σ3 H locs h hP hD hS => ?_)
    refine wx_ci C hD hS (va_runV (As := [.int x1, .int r3]) (rest := []) C.1 (mtX9_isWithin (l := l) (D := D) (sz := H.size) h) (cwV 2 hts gX9_word_X9_isWithin rfl rfl rfl nyX9_isWithin ⟨Nat.le_of_ble_eq_true rfl, Nat.le_of_ble_eq_true rfl⟩) (wx_pv C hP hD hS (q := 0) (ci := 9) (Nat.le_of_ble_eq_true rfl) (eM_0 cI ad _) rfl) rfl rfl hl.1 rfl (lv_room (Nat.le_of_ble_eq_true rfl)) dX9_word_6 ⟨Nat.zero_le _, Nat.zero_le _⟩) (fun r6 σ6 H locs h hP hD hS => ?_)
    refine lv_if_ne (tgt := 19) hx hb dX9_word_9 (by decide) (fun c9 => ?_) (fun c9 => ?_)
    · have h := h.1 c9
      refine lv_aload_n hx hb dX9_word_19 rfl (lv_at hl 0 rfl) ?_
      refine wx_cv C hD hS (va_runV (As := []) (rest := []) C.1 (mtX9_keep (l := l) (D := D) (sz := H.size) h) (cwV 0 hts gX9_word_X9_keep rfl rfl rfl nyX9_keep ⟨Nat.le_of_ble_eq_true rfl, Nat.le_of_ble_eq_true rfl⟩) (wx_pv C hP hD hS (q := 0) (ci := 9) (Nat.le_of_ble_eq_true rfl) (eM_0 cI ad _) rfl) rfl rfl hl.1 rfl (lv_room (Nat.le_of_ble_eq_true rfl)) dX9_word_20 ⟨Nat.zero_le _, Nat.zero_le _⟩) (fun σ20 H locs h hP hD hS => ?_)
      refine lv_aload_n hx hb dX9_word_23 rfl (lv_at hl 0 rfl) ?_
      refine wx_get C hP (q := 0) (ci := 9) (Nat.le_of_ble_eq_true rfl) (eM_0 cI ad _) (Cn := RX9) (T := TX9) (Nf := 27) rfl inX9_word_X9 0 (by decide) (List.mem_of_getElem? (i := 1) rfl) (v := .ref (ad 1)) rfl dX9_word_24 ?_
      refine lv_iconst (v := 2) hx hb dX9_word_27 (by decide) ?_
      refine lv_iload_n hx hb dX9_word_28 rfl (lv_at hl 1 rfl) ?_
      refine wx_ist C hP hD hS (q := 1) (Nat.le_of_ble_eq_true rfl) (fun _ => rfl) 0 rfl h.1 dX9_word_29 (fun H locs hP hD hS => ?_)
      generalize e_σ29 : wx_up σ20 1 (Int32.toNatClampNeg 2) x1 = σ29 at hP hD
      have h := h.2 σ29 e_σ29.symm
      refine lv_iconst (v := 1) hx hb dX9_word_30 (by decide) ?_
      exact Rt _ _ _ _ _ _ h hP hD hS dX9_word_31
    · have h := h.2 c9
      refine lv_aload_n hx hb dX9_word_12 rfl (lv_at hl 0 rfl) ?_
      refine lv_bipush (v := (-2)) hx hb dX9_word_13 (by decide) ?_
      refine wx_ci C hD hS (va_runV (As := [.int (-2)]) (rest := []) C.1 (mtX9_bad (l := l) (D := D) (sz := H.size) h) (cwV 1 hts gX9_word_X9_bad rfl rfl rfl nyX9_bad ⟨Nat.le_of_ble_eq_true rfl, Nat.le_of_ble_eq_true rfl⟩) (wx_pv C hP hD hS (q := 0) (ci := 9) (Nat.le_of_ble_eq_true rfl) (eM_0 cI ad _) rfl) rfl rfl hl.1 rfl (lv_room (Nat.le_of_ble_eq_true rfl)) dX9_word_15 ⟨Nat.zero_le _, Nat.zero_le _⟩) (fun r15 σ15 H locs h hP hD hS => ?_)
      exact Rt _ _ _ _ _ _ h hP hD hS dX9_word_18
  rw [eH, eL] at goal
  exact goal
abbrev rmX9_encodes : Room := { frames := 5, cells := 0, slots := 0, locals := 127 }
set_option maxRecDepth 20000 in
theorem inX9_encodes_X9 : ∀ w ∈ u_ws RX9 TX9 27, w ∈ wsX9_encodes := by decide +kernel
theorem nyX9_sumOf : yX9_sumOf.cls = RX9 ∧ yX9_sumOf.cls ≠ "java/lang/invoke/MethodHandle" ∧ yX9_sumOf.cls ≠ "java/lang/invoke/VarHandle" ∧ (parseMethodDescriptor yX9_sumOf.desc).map (fun d => d.parameters.length) = some 2 := by decide +kernel
theorem nyX9_theWord : yX9_theWord.cls = RX9 ∧ yX9_theWord.cls ≠ "java/lang/invoke/MethodHandle" ∧ yX9_theWord.cls ≠ "java/lang/invoke/VarHandle" ∧ (parseMethodDescriptor yX9_theWord.desc).map (fun d => d.parameters.length) = some 0 := by decide +kernel
set_option maxRecDepth 100000 in
set_option maxHeartbeats 4000000 in
theorem mtX9_encodes {l : Launch} {D : va_G} {cI : ClassId} {ad : Nat → Nat} {sz : Nat} {σ : wx_Z} {x1 : Int32} {K : Int32 → wx_Z → Prop} (h : wpX9_encodes σ x1 K) : Met l yX9_encodes wsX9_encodes rmX9_encodes (wx_Pre D [(cI, .int)] wx_T0 14 (wM_E cI ad) ad σ sz [.ref (ad 0), .int x1]) (va_Qi K (wx_B D [(cI, .int)] 14 (wM_E cI ad) ad (va_A (wx_w 14 (wM_E cI ad) ad σ) sz)) (va_A (wx_w 14 (wM_E cI ad) ad σ) sz)) 0 0 (va_A (wx_w 14 (wM_E cI ad) ad σ) sz) := by
  unfold wpX9_encodes at h
  refine wx_meti (cc := cX9_encodes) (maxL := 3) (own := RX9) rfl (by decide) rfl (Nat.le_of_ble_eq_true rfl) wx_T0_ok ?_
  intro p e s m args below meth c A Q ls C Rt hP hD hS hl
  obtain ⟨⟨hx, hb, hml, hown, hts⟩, hA, hK, hRO, hro⟩ := id C
  have hl : lv_has ls 3 [(0, .ref (ad 0)), (1, .int x1)] := hl
  obtain ⟨H, eH⟩ : ∃ z, z = s.heap := ⟨_, rfl⟩
  obtain ⟨locs, eL⟩ : ∃ z : List Loc, z = [] := ⟨_, rfl⟩
  rw [← eH] at hP
  have hS : va_S A s.heap H locs := by rw [eH, eL]; exact hS
  have goal : W p l e rmX9_encodes s m args below meth c H locs 0 0 Q (F0 m 0 ls []) := by
    refine lv_aload_n hx hb dX9_encodes_0 rfl (lv_at hl 0 rfl) ?_
    refine wx_ci C hD hS (va_runV (As := []) (rest := []) C.1 (mtX9_many (l := l) (D := D) (sz := H.size) h) (cwV 0 hts gX9_encodes_X9_many rfl rfl rfl nyX9_many ⟨Nat.le_of_ble_eq_true rfl, Nat.le_of_ble_eq_true rfl⟩) (wx_pv C hP hD hS (q := 0) (ci := 9) (Nat.le_of_ble_eq_true rfl) (eM_0 cI ad _) rfl) rfl rfl hl.1 rfl (lv_room (Nat.le_of_ble_eq_true rfl)) dX9_encodes_1 ⟨Nat.zero_le _, Nat.zero_le _⟩) (fun r1 σ1 H locs h hP hD hS => ?_)
    refine lv_istore_n (lv' := [(2, .int r1), (0, .ref (ad 0)), (1, .int x1)]) hx hb dX9_encodes_4 rfl hl (by decide) rfl (fun ls hl => ?_)
    refine lv_aload_n hx hb dX9_encodes_5 rfl (lv_at hl 1 rfl) ?_
    refine wx_get C hP (q := 0) (ci := 9) (Nat.le_of_ble_eq_true rfl) (eM_0 cI ad _) (Cn := RX9) (T := TX9) (Nf := 27) rfl inX9_encodes_X9 0 (by decide) (List.mem_of_getElem? (i := 1) rfl) (v := .ref (ad 1)) rfl dX9_encodes_6 ?_
    refine lv_iconst (v := 2) hx hb dX9_encodes_9 (by decide) ?_
    refine lv_aload_n hx hb dX9_encodes_10 rfl (lv_at hl 1 rfl) ?_
    refine lv_iload_n hx hb dX9_encodes_11 rfl (lv_at hl 2 rfl) ?_
    refine lv_iload_n hx hb dX9_encodes_12 rfl (lv_at hl 0 rfl) ?_
    refine wx_ci C hD hS (va_runV (As := [.int x1, .int r1]) (rest := [.int 2, .ref (ad 1)]) C.1 (mtX9_sumOf (l := l) (D := D) (sz := H.size) h) (cwV 2 hts gX9_encodes_X9_sumOf rfl rfl rfl nyX9_sumOf ⟨Nat.le_of_ble_eq_true rfl, Nat.le_of_ble_eq_true rfl⟩) (wx_pv C hP hD hS (q := 0) (ci := 9) (Nat.le_of_ble_eq_true rfl) (eM_0 cI ad _) rfl) rfl rfl hl.1 rfl (lv_room (Nat.le_of_ble_eq_true rfl)) dX9_encodes_13 ⟨Nat.zero_le _, Nat.zero_le _⟩) (fun r13 σ13 H locs h hP hD hS => ?_)
    refine wx_ist C hP hD hS (q := 1) (Nat.le_of_ble_eq_true rfl) (fun _ => rfl) 0 rfl h.1 dX9_encodes_16 (fun H locs hP hD hS => ?_)
    generalize e_σ16 : wx_up σ13 1 (Int32.toNatClampNeg 2) r13 = σ16 at hP hD
    have h := h.2 σ16 e_σ16.symm
    refine lv_aload_n hx hb dX9_encodes_17 rfl (lv_at hl 1 rfl) ?_
    refine wx_ci C hD hS (va_runV (As := []) (rest := []) C.1 (mtX9_theWord (l := l) (D := D) (sz := H.size) h) (cwV 0 hts gX9_encodes_X9_theWord rfl rfl rfl nyX9_theWord ⟨Nat.le_of_ble_eq_true rfl, Nat.le_of_ble_eq_true rfl⟩) (wx_pv C hP hD hS (q := 0) (ci := 9) (Nat.le_of_ble_eq_true rfl) (eM_0 cI ad _) rfl) rfl rfl hl.1 rfl (lv_room (Nat.le_of_ble_eq_true rfl)) dX9_encodes_18 ⟨Nat.zero_le _, Nat.zero_le _⟩) (fun r18 σ18 H locs h hP hD hS => ?_)
    refine wx_ci C hD hS (va_runS (As := [.int r18]) (rest := []) C.1 (mtX9_bits (l := l) (D := D) (sz := H.size) h) (va_cwS 1 hts gX9_encodes_X9_bits rfl rfl rfl nyX9_bits.2 ⟨Nat.le_of_ble_eq_true rfl, Nat.le_of_ble_eq_true rfl⟩) (wx_ps C hP hD hS) rfl rfl hl.1 rfl (lv_room (Nat.le_of_ble_eq_true rfl)) dX9_encodes_21 ⟨Nat.zero_le _, Nat.zero_le _⟩) (fun r21 σ21 H locs h hP hD hS => ?_)
    exact Rt _ _ _ _ _ _ h hP hD hS dX9_encodes_24
  rw [eH, eL] at goal
  exact goal
abbrev rmX9_encode : Room := { frames := 6, cells := 0, slots := 0, locals := 149 }
theorem nyX9_encodes : yX9_encodes.cls = RX9 ∧ yX9_encodes.cls ≠ "java/lang/invoke/MethodHandle" ∧ yX9_encodes.cls ≠ "java/lang/invoke/VarHandle" ∧ (parseMethodDescriptor yX9_encodes.desc).map (fun d => d.parameters.length) = some 1 := by decide +kernel
set_option maxRecDepth 100000 in
set_option maxHeartbeats 4000000 in
theorem mtX9_encode {l : Launch} {D : va_G} {cI : ClassId} {ad : Nat → Nat} {sz : Nat} {σ : wx_Z} {x1 : Int32} {K : Int32 → wx_Z → Prop} (h : wpX9_encode σ x1 K) : Met l yX9_encode wsX9_encode rmX9_encode (wx_Pre D [(cI, .int)] wx_T0 14 (wM_E cI ad) ad σ sz [.ref (ad 0), .int x1]) (va_Qi K (wx_B D [(cI, .int)] 14 (wM_E cI ad) ad (va_A (wx_w 14 (wM_E cI ad) ad σ) sz)) (va_A (wx_w 14 (wM_E cI ad) ad σ) sz)) 0 0 (va_A (wx_w 14 (wM_E cI ad) ad σ) sz) := by
  unfold wpX9_encode at h
  refine wx_meti (cc := cX9_encode) (maxL := 2) (own := RX9) rfl (by decide) rfl (Nat.le_of_ble_eq_true rfl) wx_T0_ok ?_
  intro p e s m args below meth c A Q ls C Rt hP hD hS hl
  obtain ⟨⟨hx, hb, hml, hown, hts⟩, hA, hK, hRO, hro⟩ := id C
  have hl : lv_has ls 2 [(0, .ref (ad 0)), (1, .int x1)] := hl
  obtain ⟨H, eH⟩ : ∃ z, z = s.heap := ⟨_, rfl⟩
  obtain ⟨locs, eL⟩ : ∃ z : List Loc, z = [] := ⟨_, rfl⟩
  rw [← eH] at hP
  have hS : va_S A s.heap H locs := by rw [eH, eL]; exact hS
  have goal : W p l e rmX9_encode s m args below meth c H locs 0 0 Q (F0 m 0 ls []) := by
    refine lv_aload_n hx hb dX9_encode_0 rfl (lv_at hl 0 rfl) ?_
    refine lv_iload_n hx hb dX9_encode_1 rfl (lv_at hl 1 rfl) ?_
    refine lv_aload_n hx hb dX9_encode_2 rfl (lv_at hl 0 rfl) ?_
    refine wx_ci C hD hS (va_runV (As := []) (rest := [.int x1, .ref (ad 0)]) C.1 (mtX9_many (l := l) (D := D) (sz := H.size) h) (cwV 0 hts gX9_encode_X9_many rfl rfl rfl nyX9_many ⟨Nat.le_of_ble_eq_true rfl, Nat.le_of_ble_eq_true rfl⟩) (wx_pv C hP hD hS (q := 0) (ci := 9) (Nat.le_of_ble_eq_true rfl) (eM_0 cI ad _) rfl) rfl rfl hl.1 rfl (lv_room (Nat.le_of_ble_eq_true rfl)) dX9_encode_3 ⟨Nat.zero_le _, Nat.zero_le _⟩) (fun r3 σ3 H locs h hP hD hS => ?_)
    refine wx_ci C hD hS (va_runV (As := [.int x1, .int r3]) (rest := []) C.1 (mtX9_isWithin (l := l) (D := D) (sz := H.size) h) (cwV 2 hts gX9_encode_X9_isWithin rfl rfl rfl nyX9_isWithin ⟨Nat.le_of_ble_eq_true rfl, Nat.le_of_ble_eq_true rfl⟩) (wx_pv C hP hD hS (q := 0) (ci := 9) (Nat.le_of_ble_eq_true rfl) (eM_0 cI ad _) rfl) rfl rfl hl.1 rfl (lv_room (Nat.le_of_ble_eq_true rfl)) dX9_encode_6 ⟨Nat.zero_le _, Nat.zero_le _⟩) (fun r6 σ6 H locs h hP hD hS => ?_)
    refine lv_if_ne (tgt := 19) hx hb dX9_encode_9 (by decide) (fun c9 => ?_) (fun c9 => ?_)
    · have h := h.1 c9
      refine lv_aload_n hx hb dX9_encode_19 rfl (lv_at hl 0 rfl) ?_
      refine wx_cv C hD hS (va_runV (As := []) (rest := []) C.1 (mtX9_keep (l := l) (D := D) (sz := H.size) h) (cwV 0 hts gX9_encode_X9_keep rfl rfl rfl nyX9_keep ⟨Nat.le_of_ble_eq_true rfl, Nat.le_of_ble_eq_true rfl⟩) (wx_pv C hP hD hS (q := 0) (ci := 9) (Nat.le_of_ble_eq_true rfl) (eM_0 cI ad _) rfl) rfl rfl hl.1 rfl (lv_room (Nat.le_of_ble_eq_true rfl)) dX9_encode_20 ⟨Nat.zero_le _, Nat.zero_le _⟩) (fun σ20 H locs h hP hD hS => ?_)
      refine lv_aload_n hx hb dX9_encode_23 rfl (lv_at hl 0 rfl) ?_
      refine lv_iload_n hx hb dX9_encode_24 rfl (lv_at hl 1 rfl) ?_
      refine wx_ci C hD hS (va_runV (As := [.int x1]) (rest := []) C.1 (mtX9_encodes (l := l) (D := D) (sz := H.size) h) (cwV 1 hts gX9_encode_X9_encodes rfl rfl rfl nyX9_encodes ⟨Nat.le_of_ble_eq_true rfl, Nat.le_of_ble_eq_true rfl⟩) (wx_pv C hP hD hS (q := 0) (ci := 9) (Nat.le_of_ble_eq_true rfl) (eM_0 cI ad _) rfl) rfl rfl hl.1 rfl (lv_room (Nat.le_of_ble_eq_true rfl)) dX9_encode_25 ⟨Nat.zero_le _, Nat.zero_le _⟩) (fun r25 σ25 H locs h hP hD hS => ?_)
      exact Rt _ _ _ _ _ _ h hP hD hS dX9_encode_28
    · have h := h.2 c9
      refine lv_aload_n hx hb dX9_encode_12 rfl (lv_at hl 0 rfl) ?_
      refine lv_bipush (v := (-2)) hx hb dX9_encode_13 (by decide) ?_
      refine wx_ci C hD hS (va_runV (As := [.int (-2)]) (rest := []) C.1 (mtX9_bad (l := l) (D := D) (sz := H.size) h) (cwV 1 hts gX9_encode_X9_bad rfl rfl rfl nyX9_bad ⟨Nat.le_of_ble_eq_true rfl, Nat.le_of_ble_eq_true rfl⟩) (wx_pv C hP hD hS (q := 0) (ci := 9) (Nat.le_of_ble_eq_true rfl) (eM_0 cI ad _) rfl) rfl rfl hl.1 rfl (lv_room (Nat.le_of_ble_eq_true rfl)) dX9_encode_15 ⟨Nat.zero_le _, Nat.zero_le _⟩) (fun r15 σ15 H locs h hP hD hS => ?_)
      exact Rt _ _ _ _ _ _ h hP hD hS dX9_encode_18
  rw [eH, eL] at goal
  exact goal
abbrev rmX9_isPlace : Room := { frames := 3, cells := 0, slots := 0, locals := 80 }
set_option maxRecDepth 100000 in
set_option maxHeartbeats 4000000 in
theorem mtX9_isPlace {l : Launch} {D : va_G} {cI : ClassId} {ad : Nat → Nat} {sz : Nat} {σ : wx_Z} {x1 : Int32} {K : Int32 → wx_Z → Prop} (h : wpX9_isPlace σ x1 K) : Met l yX9_isPlace wsX9_isPlace rmX9_isPlace (wx_Pre D [(cI, .int)] wx_T0 14 (wM_E cI ad) ad σ sz [.ref (ad 0), .int x1]) (va_Qi K (wx_B D [(cI, .int)] 14 (wM_E cI ad) ad (va_A (wx_w 14 (wM_E cI ad) ad σ) sz)) (va_A (wx_w 14 (wM_E cI ad) ad σ) sz)) 0 0 (va_A (wx_w 14 (wM_E cI ad) ad σ) sz) := by
  unfold wpX9_isPlace at h
  refine wx_metz (cc := cX9_isPlace) (maxL := 2) (own := RX9) rfl (by decide) rfl (Nat.le_of_ble_eq_true rfl) wx_T0_ok ?_
  intro p e s m args below meth c A Q ls C Rt hP hD hS hl
  obtain ⟨⟨hx, hb, hml, hown, hts⟩, hA, hK, hRO, hro⟩ := id C
  have hl : lv_has ls 2 [(0, .ref (ad 0)), (1, .int x1)] := hl
  obtain ⟨H, eH⟩ : ∃ z, z = s.heap := ⟨_, rfl⟩
  obtain ⟨locs, eL⟩ : ∃ z : List Loc, z = [] := ⟨_, rfl⟩
  rw [← eH] at hP
  have hS : va_S A s.heap H locs := by rw [eH, eL]; exact hS
  have goal : W p l e rmX9_isPlace s m args below meth c H locs 0 0 Q (F0 m 0 ls []) := by
    refine lv_iload_n hx hb dX9_isPlace_0 rfl (lv_at hl 1 rfl) ?_
    refine lv_i2l (v := Int32.toInt64 x1) hx hb dX9_isPlace_1 rfl ?_
    refine lv_lconst (v := 0) hx hb dX9_isPlace_2 (by decide) ?_
    refine lv_aload_n hx hb dX9_isPlace_3 rfl (lv_at hl 0 rfl) ?_
    refine wx_ci C hD hS (va_runV (As := []) (rest := [.long 0, .long (Int32.toInt64 x1)]) C.1 (mtX9_places (l := l) (D := D) (sz := H.size) h) (cwV 0 hts gX9_isPlace_X9_places rfl rfl rfl nyX9_places ⟨Nat.le_of_ble_eq_true rfl, Nat.le_of_ble_eq_true rfl⟩) (wx_pv C hP hD hS (q := 0) (ci := 9) (Nat.le_of_ble_eq_true rfl) (eM_0 cI ad _) rfl) rfl rfl hl.1 rfl (lv_room (Nat.le_of_ble_eq_true rfl)) dX9_isPlace_4 ⟨Nat.zero_le _, Nat.zero_le _⟩) (fun r4 σ4 H locs h hP hD hS => ?_)
    refine lv_iconst (v := 1) hx hb dX9_isPlace_7 (by decide) ?_
    refine lv_isub hx hb dX9_isPlace_8 ?_
    refine lv_i2l (v := Int32.toInt64 (r4 - 1)) hx hb dX9_isPlace_9 rfl ?_
    refine wx_ci C hD hS (va_runS (As := [.long (Int32.toInt64 x1), .long 0, .long (Int32.toInt64 (r4 - 1))]) (rest := []) C.1 (mtX9_in (l := l) (D := D) (sz := H.size) h) (va_cwS 3 hts gX9_isPlace_X9_in rfl rfl rfl nyX9_in.2 ⟨Nat.le_of_ble_eq_true rfl, Nat.le_of_ble_eq_true rfl⟩) (wx_ps C hP hD hS) rfl rfl hl.1 rfl (lv_room (Nat.le_of_ble_eq_true rfl)) dX9_isPlace_10 ⟨Nat.zero_le _, Nat.zero_le _⟩) (fun r10 σ10 H locs h hP hD hS => ?_)
    exact Rt _ _ _ _ _ _ h.1 h.2 hP hD hS dX9_isPlace_13
  rw [eH, eL] at goal
  exact goal
abbrev rmX9_flips : Room := { frames := 2, cells := 0, slots := 0, locals := 61 }
set_option maxRecDepth 20000 in
theorem inX9_flips_X9 : ∀ w ∈ u_ws RX9 TX9 27, w ∈ wsX9_flips := by decide +kernel
set_option maxRecDepth 100000 in
set_option maxHeartbeats 4000000 in
theorem mtX9_flips {l : Launch} {D : va_G} {cI : ClassId} {ad : Nat → Nat} {sz : Nat} {σ : wx_Z} {x1 : Int32} {K : Int32 → wx_Z → Prop} (h : wpX9_flips σ x1 K) : Met l yX9_flips wsX9_flips rmX9_flips (wx_Pre D [(cI, .int)] wx_T0 14 (wM_E cI ad) ad σ sz [.ref (ad 0), .int x1]) (va_Qi K (wx_B D [(cI, .int)] 14 (wM_E cI ad) ad (va_A (wx_w 14 (wM_E cI ad) ad σ) sz)) (va_A (wx_w 14 (wM_E cI ad) ad σ) sz)) 0 0 (va_A (wx_w 14 (wM_E cI ad) ad σ) sz) := by
  unfold wpX9_flips at h
  refine wx_meti (cc := cX9_flips) (maxL := 2) (own := RX9) rfl (by decide) rfl (Nat.le_of_ble_eq_true rfl) wx_T0_ok ?_
  intro p e s m args below meth c A Q ls C Rt hP hD hS hl
  obtain ⟨⟨hx, hb, hml, hown, hts⟩, hA, hK, hRO, hro⟩ := id C
  have hl : lv_has ls 2 [(0, .ref (ad 0)), (1, .int x1)] := hl
  obtain ⟨H, eH⟩ : ∃ z, z = s.heap := ⟨_, rfl⟩
  obtain ⟨locs, eL⟩ : ∃ z : List Loc, z = [] := ⟨_, rfl⟩
  rw [← eH] at hP
  have hS : va_S A s.heap H locs := by rw [eH, eL]; exact hS
  have goal : W p l e rmX9_flips s m args below meth c H locs 0 0 Q (F0 m 0 ls []) := by
    refine lv_aload_n hx hb dX9_flips_0 rfl (lv_at hl 0 rfl) ?_
    refine wx_get C hP (q := 0) (ci := 9) (Nat.le_of_ble_eq_true rfl) (eM_0 cI ad _) (Cn := RX9) (T := TX9) (Nf := 27) rfl inX9_flips_X9 0 (by decide) (List.mem_of_getElem? (i := 1) rfl) (v := .ref (ad 1)) rfl dX9_flips_1 ?_
    refine lv_iconst (v := 2) hx hb dX9_flips_4 (by decide) ?_
    refine lv_dup2_11 hx hb dX9_flips_5 rfl rfl ?_
    refine wx_ild C hP (q := 1) (Nat.le_of_ble_eq_true rfl) (fun _ => rfl) 0 rfl h.1 dX9_flips_6 ?_
    have h := h.2
    refine lv_iconst (v := 1) hx hb dX9_flips_7 (by decide) ?_
    refine lv_iload_n hx hb dX9_flips_8 rfl (lv_at hl 1 rfl) ?_
    refine lv_ishl hx hb dX9_flips_9 ?_
    refine lv_ixor hx hb dX9_flips_10 ?_
    refine wx_ist C hP hD hS (q := 1) (Nat.le_of_ble_eq_true rfl) (fun _ => rfl) 0 rfl h.1 dX9_flips_11 (fun H locs hP hD hS => ?_)
    generalize e_σ11 : wx_up σ 1 (Int32.toNatClampNeg 2) ((σ 1 (Int32.toNatClampNeg 2)) ^^^ (1 <<< (x1 &&& 31))) = σ11 at hP hD
    have h := h.2 σ11 e_σ11.symm
    refine lv_aload_n hx hb dX9_flips_12 rfl (lv_at hl 0 rfl) ?_
    refine wx_ci C hD hS (va_runV (As := []) (rest := []) C.1 (mtX9_theWord (l := l) (D := D) (sz := H.size) h) (cwV 0 hts gX9_flips_X9_theWord rfl rfl rfl nyX9_theWord ⟨Nat.le_of_ble_eq_true rfl, Nat.le_of_ble_eq_true rfl⟩) (wx_pv C hP hD hS (q := 0) (ci := 9) (Nat.le_of_ble_eq_true rfl) (eM_0 cI ad _) rfl) rfl rfl hl.1 rfl (lv_room (Nat.le_of_ble_eq_true rfl)) dX9_flips_13 ⟨Nat.zero_le _, Nat.zero_le _⟩) (fun r13 σ13 H locs h hP hD hS => ?_)
    refine lv_iload_n hx hb dX9_flips_16 rfl (lv_at hl 1 rfl) ?_
    refine wx_ci C hD hS (va_runS (As := [.int r13, .int x1]) (rest := []) C.1 (mtX9_has (l := l) (D := D) (sz := H.size) h) (va_cwS 2 hts gX9_flips_X9_has rfl rfl rfl nyX9_has.2 ⟨Nat.le_of_ble_eq_true rfl, Nat.le_of_ble_eq_true rfl⟩) (wx_ps C hP hD hS) rfl rfl hl.1 rfl (lv_room (Nat.le_of_ble_eq_true rfl)) dX9_flips_17 ⟨Nat.zero_le _, Nat.zero_le _⟩) (fun r17 σ17 H locs h hP hD hS => ?_)
    refine lv_if_eq (tgt := 27) hx hb dX9_flips_20 (by decide) (fun c20 => ?_) (fun c20 => ?_)
    · have h := h.1 c20
      refine lv_iconst (v := 0) hx hb dX9_flips_27 (by decide) ?_
      exact Rt _ _ _ _ _ _ h hP hD hS dX9_flips_28
    · have h := h.2 c20
      refine lv_iconst (v := 1) hx hb dX9_flips_23 (by decide) ?_
      refine lv_goto (tgt := 28) hx hb dX9_flips_24 (by decide) ?_
      exact Rt _ _ _ _ _ _ h hP hD hS dX9_flips_28
  rw [eH, eL] at goal
  exact goal
abbrev rmX9_flip : Room := { frames := 4, cells := 0, slots := 0, locals := 101 }
theorem nyX9_flips : yX9_flips.cls = RX9 ∧ yX9_flips.cls ≠ "java/lang/invoke/MethodHandle" ∧ yX9_flips.cls ≠ "java/lang/invoke/VarHandle" ∧ (parseMethodDescriptor yX9_flips.desc).map (fun d => d.parameters.length) = some 1 := by decide +kernel
theorem nyX9_isPlace : yX9_isPlace.cls = RX9 ∧ yX9_isPlace.cls ≠ "java/lang/invoke/MethodHandle" ∧ yX9_isPlace.cls ≠ "java/lang/invoke/VarHandle" ∧ (parseMethodDescriptor yX9_isPlace.desc).map (fun d => d.parameters.length) = some 1 := by decide +kernel
set_option maxRecDepth 100000 in
set_option maxHeartbeats 4000000 in
theorem mtX9_flip {l : Launch} {D : va_G} {cI : ClassId} {ad : Nat → Nat} {sz : Nat} {σ : wx_Z} {x1 : Int32} {K : Int32 → wx_Z → Prop} (h : wpX9_flip σ x1 K) : Met l yX9_flip wsX9_flip rmX9_flip (wx_Pre D [(cI, .int)] wx_T0 14 (wM_E cI ad) ad σ sz [.ref (ad 0), .int x1]) (va_Qi K (wx_B D [(cI, .int)] 14 (wM_E cI ad) ad (va_A (wx_w 14 (wM_E cI ad) ad σ) sz)) (va_A (wx_w 14 (wM_E cI ad) ad σ) sz)) 0 0 (va_A (wx_w 14 (wM_E cI ad) ad σ) sz) := by
  unfold wpX9_flip at h
  refine wx_meti (cc := cX9_flip) (maxL := 2) (own := RX9) rfl (by decide) rfl (Nat.le_of_ble_eq_true rfl) wx_T0_ok ?_
  intro p e s m args below meth c A Q ls C Rt hP hD hS hl
  obtain ⟨⟨hx, hb, hml, hown, hts⟩, hA, hK, hRO, hro⟩ := id C
  have hl : lv_has ls 2 [(0, .ref (ad 0)), (1, .int x1)] := hl
  obtain ⟨H, eH⟩ : ∃ z, z = s.heap := ⟨_, rfl⟩
  obtain ⟨locs, eL⟩ : ∃ z : List Loc, z = [] := ⟨_, rfl⟩
  rw [← eH] at hP
  have hS : va_S A s.heap H locs := by rw [eH, eL]; exact hS
  have goal : W p l e rmX9_flip s m args below meth c H locs 0 0 Q (F0 m 0 ls []) := by
    refine lv_aload_n hx hb dX9_flip_0 rfl (lv_at hl 0 rfl) ?_
    refine lv_iload_n hx hb dX9_flip_1 rfl (lv_at hl 1 rfl) ?_
    refine wx_ci C hD hS (va_runV (As := [.int x1]) (rest := []) C.1 (mtX9_isPlace (l := l) (D := D) (sz := H.size) h) (cwV 1 hts gX9_flip_X9_isPlace rfl rfl rfl nyX9_isPlace ⟨Nat.le_of_ble_eq_true rfl, Nat.le_of_ble_eq_true rfl⟩) (wx_pv C hP hD hS (q := 0) (ci := 9) (Nat.le_of_ble_eq_true rfl) (eM_0 cI ad _) rfl) rfl rfl hl.1 rfl (lv_room (Nat.le_of_ble_eq_true rfl)) dX9_flip_2 ⟨Nat.zero_le _, Nat.zero_le _⟩) (fun r2 σ2 H locs h hP hD hS => ?_)
    refine lv_if_ne (tgt := 15) hx hb dX9_flip_5 (by decide) (fun c5 => ?_) (fun c5 => ?_)
    · have h := h.1 c5
      refine lv_aload_n hx hb dX9_flip_15 rfl (lv_at hl 0 rfl) ?_
      refine wx_cv C hD hS (va_runV (As := []) (rest := []) C.1 (mtX9_keep (l := l) (D := D) (sz := H.size) h) (cwV 0 hts gX9_flip_X9_keep rfl rfl rfl nyX9_keep ⟨Nat.le_of_ble_eq_true rfl, Nat.le_of_ble_eq_true rfl⟩) (wx_pv C hP hD hS (q := 0) (ci := 9) (Nat.le_of_ble_eq_true rfl) (eM_0 cI ad _) rfl) rfl rfl hl.1 rfl (lv_room (Nat.le_of_ble_eq_true rfl)) dX9_flip_16 ⟨Nat.zero_le _, Nat.zero_le _⟩) (fun σ16 H locs h hP hD hS => ?_)
      refine lv_aload_n hx hb dX9_flip_19 rfl (lv_at hl 0 rfl) ?_
      refine lv_iload_n hx hb dX9_flip_20 rfl (lv_at hl 1 rfl) ?_
      refine wx_ci C hD hS (va_runV (As := [.int x1]) (rest := []) C.1 (mtX9_flips (l := l) (D := D) (sz := H.size) h) (cwV 1 hts gX9_flip_X9_flips rfl rfl rfl nyX9_flips ⟨Nat.le_of_ble_eq_true rfl, Nat.le_of_ble_eq_true rfl⟩) (wx_pv C hP hD hS (q := 0) (ci := 9) (Nat.le_of_ble_eq_true rfl) (eM_0 cI ad _) rfl) rfl rfl hl.1 rfl (lv_room (Nat.le_of_ble_eq_true rfl)) dX9_flip_21 ⟨Nat.zero_le _, Nat.zero_le _⟩) (fun r21 σ21 H locs h hP hD hS => ?_)
      exact Rt _ _ _ _ _ _ h hP hD hS dX9_flip_24
    · have h := h.2 c5
      refine lv_aload_n hx hb dX9_flip_8 rfl (lv_at hl 0 rfl) ?_
      refine lv_bipush (v := (-2)) hx hb dX9_flip_9 (by decide) ?_
      refine wx_ci C hD hS (va_runV (As := [.int (-2)]) (rest := []) C.1 (mtX9_bad (l := l) (D := D) (sz := H.size) h) (cwV 1 hts gX9_flip_X9_bad rfl rfl rfl nyX9_bad ⟨Nat.le_of_ble_eq_true rfl, Nat.le_of_ble_eq_true rfl⟩) (wx_pv C hP hD hS (q := 0) (ci := 9) (Nat.le_of_ble_eq_true rfl) (eM_0 cI ad _) rfl) rfl rfl hl.1 rfl (lv_room (Nat.le_of_ble_eq_true rfl)) dX9_flip_11 ⟨Nat.zero_le _, Nat.zero_le _⟩) (fun r11 σ11 H locs h hP hD hS => ?_)
      exact Rt _ _ _ _ _ _ h hP hD hS dX9_flip_14
  rw [eH, eL] at goal
  exact goal
abbrev rmX9_hurt : Room := { frames := 3, cells := 0, slots := 0, locals := 80 }
set_option maxRecDepth 20000 in
theorem inX9_hurt_X9 : ∀ w ∈ u_ws RX9 TX9 27, w ∈ wsX9_hurt := by decide +kernel
set_option maxRecDepth 100000 in
set_option maxHeartbeats 4000000 in
theorem bX9_hurt_80 {p : Program} {l : Launch} {e : Env} {s : State} {m : MethodId} {args : Array Value} {below : List Frame} {meth : Method} {c : Code} {A : Nat → Prop} {Q : State → Prop} {D : va_G} {cI : ClassId} {ad : Nat → Nat} {K : Int32 → wx_Z → Prop} {C46 : wx_Z → Int32 → Int64 → Int32 → Int32 → Prop} (C : wx_C p s m args c cX9_hurt 8 RX9 wsX9_hurt D [(cI, .int)] wx_T0 A) (Rt : wx_Ri p l e rmX9_hurt s m args below meth c cX9_hurt D 14 (wM_E cI ad) ad A K Q) (hC46 : ∀ (σ : wx_Z) (x2 : Int32) (y3 : Int64) (x5 : Int32) (x6 : Int32), C46 σ x2 y3 x5 x6 → ∀ (H : Heap) (locs : List Loc) (ls : Array Slot), va_P D vwCl (wx_w 14 (wM_E cI ad) ad σ) H → va_D A (wx_w 14 (wM_E cI ad) ad σ) → va_S A s.heap H locs → lv_has ls 8 [(0, .ref (ad 0)), (2, .int x2), (3, .long y3), (5, .int x5), (6, .int x6)] → W p l e rmX9_hurt s m args below meth c H locs 0 0 Q (F0 m 46 ls [])) : ∀ (n : Nat) (σ : wx_Z) (x2 : Int32) (y3 : Int64) (x5 : Int32) (x6 : Int32) (x7 : Int32), wpX9_hurt_80 K C46 n σ x2 y3 x5 x6 x7 → ∀ (H : Heap) (locs : List Loc) (ls : Array Slot), va_P D vwCl (wx_w 14 (wM_E cI ad) ad σ) H → va_D A (wx_w 14 (wM_E cI ad) ad σ) → va_S A s.heap H locs → lv_has ls 8 [(0, .ref (ad 0)), (2, .int x2), (3, .long y3), (5, .int x5), (6, .int x6), (7, .int x7)] → W p l e rmX9_hurt s m args below meth c H locs 0 0 Q (F0 m 80 ls []) := by
  obtain ⟨⟨hx, hb, hml, hown, hts⟩, hA, hK, hRO, hro⟩ := id C
  intro n
  induction n with
  | zero => intro σ x2 y3 x5 x6 x7 h; exact h.elim
  | succ n ih =>
    intro σ x2 y3 x5 x6 x7 h H locs ls hP hD hS hl
    unfold wpX9_hurt_80 at h
    refine lv_iload hx hb dX9_hurt_80 (lv_at hl 3 rfl) ?_
    refine lv_iload hx hb dX9_hurt_82 (lv_at hl 5 rfl) ?_
    refine wx_ci C hD hS (va_runS (As := [.int x5, .int x7]) (rest := []) C.1 (mtX9_has (l := l) (D := D) (sz := H.size) h) (va_cwS 2 hts gX9_hurt_X9_has rfl rfl rfl nyX9_has.2 ⟨Nat.le_of_ble_eq_true rfl, Nat.le_of_ble_eq_true rfl⟩) (wx_ps C hP hD hS) rfl rfl hl.1 rfl (lv_room (Nat.le_of_ble_eq_true rfl)) dX9_hurt_84 ⟨Nat.zero_le _, Nat.zero_le _⟩) (fun r84 σ84 H locs h hP hD hS => ?_)
    refine lv_if_eq (tgt := 104) hx hb dX9_hurt_87 (by decide) (fun c87 => ?_) (fun c87 => ?_)
    · have h := h.1 c87
      refine lv_iload hx hb dX9_hurt_104 (lv_at hl 3 rfl) ?_
      refine lv_iconst (v := 1) hx hb dX9_hurt_106 (by decide) ?_
      refine lv_iload hx hb dX9_hurt_107 (lv_at hl 5 rfl) ?_
      refine lv_ishl hx hb dX9_hurt_109 ?_
      refine lv_ior hx hb dX9_hurt_110 ?_
      refine lv_topi (fun t111 e_t111 => ?_)
      have h := h t111 e_t111
      refine lv_istore (lv' := [(5, .int t111), (0, .ref (ad 0)), (2, .int x2), (3, .long y3), (6, .int x6), (7, .int x7)]) hx hb dX9_hurt_111 hl (by decide) rfl (fun ls hl => ?_)
      obtain ⟨t113, e_t113⟩ : ∃ y : Int32, y = x6 + 1 := ⟨_, rfl⟩
      have h := h t113 e_t113
      refine lv_iinc (v := t113) (lv' := [(6, .int t113), (5, .int t111), (0, .ref (ad 0)), (2, .int x2), (3, .long y3), (7, .int x7)]) hx hb dX9_hurt_113 hl (k := 4) rfl (by rw [e_t113]; rfl) (by decide) rfl (fun ls hl => ?_)
      refine lv_goto (tgt := 46) hx hb dX9_hurt_116 (by decide) ?_
      exact hC46 σ84 x2 y3 t111 t113  h _ _ _ hP hD hS (lv_sub hl [2, 3, 4, 1, 0] rfl)
    · have h := h.2 c87
      refine lv_iload hx hb dX9_hurt_90 (lv_at hl 5 rfl) ?_
      refine lv_iconst (v := 1) hx hb dX9_hurt_92 (by decide) ?_
      refine lv_iadd hx hb dX9_hurt_93 ?_
      refine lv_aload_n hx hb dX9_hurt_94 rfl (lv_at hl 0 rfl) ?_
      refine wx_ci C hD hS (va_runV (As := []) (rest := [.int (x7 + 1)]) C.1 (mtX9_places (l := l) (D := D) (sz := H.size) h) (cwV 0 hts gX9_hurt_X9_places rfl rfl rfl nyX9_places ⟨Nat.le_of_ble_eq_true rfl, Nat.le_of_ble_eq_true rfl⟩) (wx_pv C hP hD hS (q := 0) (ci := 9) (Nat.le_of_ble_eq_true rfl) (eM_0 cI ad _) rfl) rfl rfl hl.1 rfl (lv_room (Nat.le_of_ble_eq_true rfl)) dX9_hurt_95 ⟨Nat.zero_le _, Nat.zero_le _⟩) (fun r95 σ95 H locs h hP hD hS => ?_)
      refine lv_irem hx hb dX9_hurt_98 h.1 ?_
      have h := h.2
      refine lv_topi (fun t99 e_t99 => ?_)
      have h := h t99 e_t99
      refine lv_istore (lv' := [(7, .int t99), (0, .ref (ad 0)), (2, .int x2), (3, .long y3), (5, .int x5), (6, .int x6)]) hx hb dX9_hurt_99 hl (by decide) rfl (fun ls hl => ?_)
      refine lv_goto (tgt := 80) hx hb dX9_hurt_101 (by decide) ?_
      exact ih σ95 x2 y3 x5 x6 t99  h _ _ _ hP hD hS (lv_sub hl [1, 2, 3, 4, 5, 0] rfl)
set_option maxRecDepth 100000 in
set_option maxHeartbeats 4000000 in
theorem bX9_hurt_46 {p : Program} {l : Launch} {e : Env} {s : State} {m : MethodId} {args : Array Value} {below : List Frame} {meth : Method} {c : Code} {A : Nat → Prop} {Q : State → Prop} {D : va_G} {cI : ClassId} {ad : Nat → Nat} {K : Int32 → wx_Z → Prop} (C : wx_C p s m args c cX9_hurt 8 RX9 wsX9_hurt D [(cI, .int)] wx_T0 A) (Rt : wx_Ri p l e rmX9_hurt s m args below meth c cX9_hurt D 14 (wM_E cI ad) ad A K Q) : ∀ (n : Nat) (σ : wx_Z) (x2 : Int32) (y3 : Int64) (x5 : Int32) (x6 : Int32), wpX9_hurt_46 K n σ x2 y3 x5 x6 → ∀ (H : Heap) (locs : List Loc) (ls : Array Slot), va_P D vwCl (wx_w 14 (wM_E cI ad) ad σ) H → va_D A (wx_w 14 (wM_E cI ad) ad σ) → va_S A s.heap H locs → lv_has ls 8 [(0, .ref (ad 0)), (2, .int x2), (3, .long y3), (5, .int x5), (6, .int x6)] → W p l e rmX9_hurt s m args below meth c H locs 0 0 Q (F0 m 46 ls []) := by
  obtain ⟨⟨hx, hb, hml, hown, hts⟩, hA, hK, hRO, hro⟩ := id C
  intro n
  induction n with
  | zero => intro σ x2 y3 x5 x6 h; exact h.elim
  | succ n ih =>
    intro σ x2 y3 x5 x6 h H locs ls hP hD hS hl
    unfold wpX9_hurt_46 at h
    refine lv_iload hx hb dX9_hurt_46 (lv_at hl 4 rfl) ?_
    refine lv_iload_n hx hb dX9_hurt_48 rfl (lv_at hl 1 rfl) ?_
    refine lv_icmp_ge (tgt := 119) hx hb dX9_hurt_49 (by decide) (fun c49 => ?_) (fun c49 => ?_)
    · have h := h.1 c49
      refine lv_aload_n hx hb dX9_hurt_119 rfl (lv_at hl 0 rfl) ?_
      refine wx_get C hP (q := 0) (ci := 9) (Nat.le_of_ble_eq_true rfl) (eM_0 cI ad _) (Cn := RX9) (T := TX9) (Nf := 27) rfl inX9_hurt_X9 0 (by decide) (List.mem_of_getElem? (i := 6) rfl) (v := .ref (ad 1)) rfl dX9_hurt_120 ?_
      refine lv_iconst (v := 2) hx hb dX9_hurt_123 (by decide) ?_
      refine lv_dup2_11 hx hb dX9_hurt_124 rfl rfl ?_
      refine wx_ild C hP (q := 1) (Nat.le_of_ble_eq_true rfl) (fun _ => rfl) 0 rfl h.1 dX9_hurt_125 ?_
      have h := h.2
      refine lv_iload hx hb dX9_hurt_126 (lv_at hl 3 rfl) ?_
      refine lv_ixor hx hb dX9_hurt_128 ?_
      refine wx_ist C hP hD hS (q := 1) (Nat.le_of_ble_eq_true rfl) (fun _ => rfl) 0 rfl h.1 dX9_hurt_129 (fun H locs hP hD hS => ?_)
      generalize e_σ129 : wx_up σ 1 (Int32.toNatClampNeg 2) ((σ 1 (Int32.toNatClampNeg 2)) ^^^ x5) = σ129 at hP hD
      have h := h.2 σ129 e_σ129.symm
      refine lv_aload_n hx hb dX9_hurt_130 rfl (lv_at hl 0 rfl) ?_
      refine wx_ci C hD hS (va_runV (As := []) (rest := []) C.1 (mtX9_theWord (l := l) (D := D) (sz := H.size) h) (cwV 0 hts gX9_hurt_X9_theWord rfl rfl rfl nyX9_theWord ⟨Nat.le_of_ble_eq_true rfl, Nat.le_of_ble_eq_true rfl⟩) (wx_pv C hP hD hS (q := 0) (ci := 9) (Nat.le_of_ble_eq_true rfl) (eM_0 cI ad _) rfl) rfl rfl hl.1 rfl (lv_room (Nat.le_of_ble_eq_true rfl)) dX9_hurt_131 ⟨Nat.zero_le _, Nat.zero_le _⟩) (fun r131 σ131 H locs h hP hD hS => ?_)
      refine wx_ci C hD hS (va_runS (As := [.int r131]) (rest := []) C.1 (mtX9_bits (l := l) (D := D) (sz := H.size) h) (va_cwS 1 hts gX9_hurt_X9_bits rfl rfl rfl nyX9_bits.2 ⟨Nat.le_of_ble_eq_true rfl, Nat.le_of_ble_eq_true rfl⟩) (wx_ps C hP hD hS) rfl rfl hl.1 rfl (lv_room (Nat.le_of_ble_eq_true rfl)) dX9_hurt_134 ⟨Nat.zero_le _, Nat.zero_le _⟩) (fun r134 σ134 H locs h hP hD hS => ?_)
      exact Rt _ _ _ _ _ _ h hP hD hS dX9_hurt_137
    · have h := h.2 c49
      refine lv_lload_n hx hb dX9_hurt_52 rfl (lv_at hl 2 rfl) ?_
      refine lv_ldc2 hx hb hown (hts _ (List.mem_of_getElem? (i := 2) rfl)) dX9_hurt_53 ?_
      refine lv_lmul hx hb dX9_hurt_56 ?_
      refine lv_ldc2 hx hb hown (hts _ (List.mem_of_getElem? (i := 3) rfl)) dX9_hurt_57 ?_
      refine lv_ladd hx hb dX9_hurt_60 ?_
      refine lv_ldc2 hx hb hown (hts _ (List.mem_of_getElem? (i := 4) rfl)) dX9_hurt_61 ?_
      refine lv_lrem hx hb dX9_hurt_64 h.1 ?_
      have h := h.2
      refine lv_topl (fun t65 e_t65 => ?_)
      have h := h t65 e_t65
      refine lv_lstore_n (lv' := [(3, .long t65), (0, .ref (ad 0)), (2, .int x2), (5, .int x5), (6, .int x6)]) hx hb dX9_hurt_65 rfl hl (by decide) rfl (fun ls hl => ?_)
      refine lv_lload_n hx hb dX9_hurt_66 rfl (lv_at hl 0 rfl) ?_
      refine lv_ldc2 hx hb hown (hts _ (List.mem_of_getElem? (i := 5) rfl)) dX9_hurt_67 ?_
      refine lv_ldiv hx hb dX9_hurt_70 h.1 ?_
      have h := h.2
      refine lv_aload_n hx hb dX9_hurt_71 rfl (lv_at hl 1 rfl) ?_
      refine wx_ci C hD hS (va_runV (As := []) (rest := [.long (t65 / 65536)]) C.1 (mtX9_places (l := l) (D := D) (sz := H.size) h) (cwV 0 hts gX9_hurt_X9_places rfl rfl rfl nyX9_places ⟨Nat.le_of_ble_eq_true rfl, Nat.le_of_ble_eq_true rfl⟩) (wx_pv C hP hD hS (q := 0) (ci := 9) (Nat.le_of_ble_eq_true rfl) (eM_0 cI ad _) rfl) rfl rfl hl.1 rfl (lv_room (Nat.le_of_ble_eq_true rfl)) dX9_hurt_72 ⟨Nat.zero_le _, Nat.zero_le _⟩) (fun r72 σ72 H locs h hP hD hS => ?_)
      refine lv_i2l (v := Int32.toInt64 r72) hx hb dX9_hurt_75 rfl ?_
      refine lv_lrem hx hb dX9_hurt_76 h.1 ?_
      have h := h.2
      refine lv_l2i (v := Int64.toInt32 ((t65 / 65536) - (t65 / 65536) / (Int32.toInt64 r72) * (Int32.toInt64 r72))) hx hb dX9_hurt_77 rfl ?_
      refine lv_topi (fun t78 e_t78 => ?_)
      have h := h t78 e_t78
      refine lv_istore (lv' := [(7, .int t78), (3, .long t65), (0, .ref (ad 0)), (2, .int x2), (5, .int x5), (6, .int x6)]) hx hb dX9_hurt_78 hl (by decide) rfl (fun ls hl => ?_)
      obtain ⟨n80, h⟩ := h
      exact bX9_hurt_80 C Rt ih n80 σ72 x2 t65 x5 x6 t78  h _ _ _ hP hD hS (lv_sub hl [2, 3, 1, 4, 5, 0] rfl)
set_option maxRecDepth 100000 in
set_option maxHeartbeats 4000000 in
theorem mtX9_hurt {l : Launch} {D : va_G} {cI : ClassId} {ad : Nat → Nat} {sz : Nat} {σ : wx_Z} {x1 : Int32} {x2 : Int32} {K : Int32 → wx_Z → Prop} (h : wpX9_hurt σ x1 x2 K) : Met l yX9_hurt wsX9_hurt rmX9_hurt (wx_Pre D [(cI, .int)] wx_T0 14 (wM_E cI ad) ad σ sz [.ref (ad 0), .int x1, .int x2]) (va_Qi K (wx_B D [(cI, .int)] 14 (wM_E cI ad) ad (va_A (wx_w 14 (wM_E cI ad) ad σ) sz)) (va_A (wx_w 14 (wM_E cI ad) ad σ) sz)) 0 0 (va_A (wx_w 14 (wM_E cI ad) ad σ) sz) := by
  unfold wpX9_hurt at h
  refine wx_meti (cc := cX9_hurt) (maxL := 8) (own := RX9) rfl (by decide) rfl (Nat.le_of_ble_eq_true rfl) wx_T0_ok ?_
  intro p e s m args below meth c A Q ls C Rt hP hD hS hl
  obtain ⟨⟨hx, hb, hml, hown, hts⟩, hA, hK, hRO, hro⟩ := id C
  have hl : lv_has ls 8 [(0, .ref (ad 0)), (1, .int x1), (2, .int x2)] := hl
  obtain ⟨H, eH⟩ : ∃ z, z = s.heap := ⟨_, rfl⟩
  obtain ⟨locs, eL⟩ : ∃ z : List Loc, z = [] := ⟨_, rfl⟩
  rw [← eH] at hP
  have hS : va_S A s.heap H locs := by rw [eH, eL]; exact hS
  have goal : W p l e rmX9_hurt s m args below meth c H locs 0 0 Q (F0 m 0 ls []) := by
    refine lv_iload_n hx hb dX9_hurt_0 rfl (lv_at hl 1 rfl) ?_
    refine lv_i2l (v := Int32.toInt64 x1) hx hb dX9_hurt_1 rfl ?_
    refine lv_lconst (v := 0) hx hb dX9_hurt_2 (by decide) ?_
    refine lv_ldc2 hx hb hown (hts _ (List.mem_of_getElem? (i := 1) rfl)) dX9_hurt_3 ?_
    refine wx_ci C hD hS (va_runS (As := [.long (Int32.toInt64 x1), .long 0, .long 999999]) (rest := []) C.1 (mtX9_in (l := l) (D := D) (sz := H.size) h) (va_cwS 3 hts gX9_hurt_X9_in rfl rfl rfl nyX9_in.2 ⟨Nat.le_of_ble_eq_true rfl, Nat.le_of_ble_eq_true rfl⟩) (wx_ps C hP hD hS) rfl rfl hl.1 rfl (lv_room (Nat.le_of_ble_eq_true rfl)) dX9_hurt_6 ⟨Nat.zero_le _, Nat.zero_le _⟩) (fun r6 σ6 H locs h hP hD hS => ?_)
    refine lv_if_eq (tgt := 26) hx hb dX9_hurt_9 (by decide) (fun c9 => ?_) (fun c9 => ?_)
    · have h := h.1 c9
      refine lv_aload_n hx hb dX9_hurt_26 rfl (lv_at hl 0 rfl) ?_
      refine lv_bipush (v := (-2)) hx hb dX9_hurt_27 (by decide) ?_
      refine wx_ci C hD hS (va_runV (As := [.int (-2)]) (rest := []) C.1 (mtX9_bad (l := l) (D := D) (sz := H.size) h) (cwV 1 hts gX9_hurt_X9_bad rfl rfl rfl nyX9_bad ⟨Nat.le_of_ble_eq_true rfl, Nat.le_of_ble_eq_true rfl⟩) (wx_pv C hP hD hS (q := 0) (ci := 9) (Nat.le_of_ble_eq_true rfl) (eM_0 cI ad _) rfl) rfl rfl hl.1 rfl (lv_room (Nat.le_of_ble_eq_true rfl)) dX9_hurt_29 ⟨Nat.zero_le _, Nat.zero_le _⟩) (fun r29 σ29 H locs h hP hD hS => ?_)
      exact Rt _ _ _ _ _ _ h hP hD hS dX9_hurt_32
    · have h := h.2 c9
      refine lv_iload_n hx hb dX9_hurt_12 rfl (lv_at hl 2 rfl) ?_
      refine lv_i2l (v := Int32.toInt64 x2) hx hb dX9_hurt_13 rfl ?_
      refine lv_lconst (v := 0) hx hb dX9_hurt_14 (by decide) ?_
      refine lv_aload_n hx hb dX9_hurt_15 rfl (lv_at hl 0 rfl) ?_
      refine wx_ci C hD hS (va_runV (As := []) (rest := [.long 0, .long (Int32.toInt64 x2)]) C.1 (mtX9_places (l := l) (D := D) (sz := H.size) h) (cwV 0 hts gX9_hurt_X9_places rfl rfl rfl nyX9_places ⟨Nat.le_of_ble_eq_true rfl, Nat.le_of_ble_eq_true rfl⟩) (wx_pv C hP hD hS (q := 0) (ci := 9) (Nat.le_of_ble_eq_true rfl) (eM_0 cI ad _) rfl) rfl rfl hl.1 rfl (lv_room (Nat.le_of_ble_eq_true rfl)) dX9_hurt_16 ⟨Nat.zero_le _, Nat.zero_le _⟩) (fun r16 σ16 H locs h hP hD hS => ?_)
      refine lv_i2l (v := Int32.toInt64 r16) hx hb dX9_hurt_19 rfl ?_
      refine wx_ci C hD hS (va_runS (As := [.long (Int32.toInt64 x2), .long 0, .long (Int32.toInt64 r16)]) (rest := []) C.1 (mtX9_in (l := l) (D := D) (sz := H.size) h) (va_cwS 3 hts gX9_hurt_X9_in rfl rfl rfl nyX9_in.2 ⟨Nat.le_of_ble_eq_true rfl, Nat.le_of_ble_eq_true rfl⟩) (wx_ps C hP hD hS) rfl rfl hl.1 rfl (lv_room (Nat.le_of_ble_eq_true rfl)) dX9_hurt_20 ⟨Nat.zero_le _, Nat.zero_le _⟩) (fun r20 σ20 H locs h hP hD hS => ?_)
      refine lv_if_ne (tgt := 33) hx hb dX9_hurt_23 (by decide) (fun c23 => ?_) (fun c23 => ?_)
      · have h := h.1 c23
        refine lv_iload_n hx hb dX9_hurt_33 rfl (lv_at hl 1 rfl) ?_
        refine lv_i2l (v := Int32.toInt64 x1) hx hb dX9_hurt_34 rfl ?_
        refine lv_topl (fun t35 e_t35 => ?_)
        have h := h t35 e_t35
        refine lv_lstore_n (lv' := [(3, .long t35), (0, .ref (ad 0)), (1, .int x1), (2, .int x2)]) hx hb dX9_hurt_35 rfl hl (by decide) rfl (fun ls hl => ?_)
        refine lv_iconst (v := 0) hx hb dX9_hurt_36 (by decide) ?_
        refine lv_istore (lv' := [(5, .int 0), (3, .long t35), (0, .ref (ad 0)), (1, .int x1), (2, .int x2)]) hx hb dX9_hurt_37 hl (by decide) rfl (fun ls hl => ?_)
        refine lv_aload_n hx hb dX9_hurt_39 rfl (lv_at hl 2 rfl) ?_
        refine wx_cv C hD hS (va_runV (As := []) (rest := []) C.1 (mtX9_keep (l := l) (D := D) (sz := H.size) h) (cwV 0 hts gX9_hurt_X9_keep rfl rfl rfl nyX9_keep ⟨Nat.le_of_ble_eq_true rfl, Nat.le_of_ble_eq_true rfl⟩) (wx_pv C hP hD hS (q := 0) (ci := 9) (Nat.le_of_ble_eq_true rfl) (eM_0 cI ad _) rfl) rfl rfl hl.1 rfl (lv_room (Nat.le_of_ble_eq_true rfl)) dX9_hurt_40 ⟨Nat.zero_le _, Nat.zero_le _⟩) (fun σ40 H locs h hP hD hS => ?_)
        refine lv_iconst (v := 0) hx hb dX9_hurt_43 (by decide) ?_
        refine lv_istore (lv' := [(6, .int 0), (5, .int 0), (3, .long t35), (0, .ref (ad 0)), (1, .int x1), (2, .int x2)]) hx hb dX9_hurt_44 hl (by decide) rfl (fun ls hl => ?_)
        obtain ⟨n46, h⟩ := h
        exact bX9_hurt_46 C Rt n46 σ40 x2 t35 0 0  h _ _ _ hP hD hS (lv_sub hl [3, 5, 2, 1, 0] rfl)
      · have h := h.2 c23
        refine lv_aload_n hx hb dX9_hurt_26 rfl (lv_at hl 0 rfl) ?_
        refine lv_bipush (v := (-2)) hx hb dX9_hurt_27 (by decide) ?_
        refine wx_ci C hD hS (va_runV (As := [.int (-2)]) (rest := []) C.1 (mtX9_bad (l := l) (D := D) (sz := H.size) h) (cwV 1 hts gX9_hurt_X9_bad rfl rfl rfl nyX9_bad ⟨Nat.le_of_ble_eq_true rfl, Nat.le_of_ble_eq_true rfl⟩) (wx_pv C hP hD hS (q := 0) (ci := 9) (Nat.le_of_ble_eq_true rfl) (eM_0 cI ad _) rfl) rfl rfl hl.1 rfl (lv_room (Nat.le_of_ble_eq_true rfl)) dX9_hurt_29 ⟨Nat.zero_le _, Nat.zero_le _⟩) (fun r29_1 σ29_1 H locs h hP hD hS => ?_)
        exact Rt _ _ _ _ _ _ h hP hD hS dX9_hurt_32
  rw [eH, eL] at goal
  exact goal
abbrev rmX9_now : Room := { frames := 2, cells := 0, slots := 0, locals := 60 }
set_option maxRecDepth 100000 in
set_option maxHeartbeats 4000000 in
theorem mtX9_now {l : Launch} {D : va_G} {cI : ClassId} {ad : Nat → Nat} {sz : Nat} {σ : wx_Z} {K : Int32 → wx_Z → Prop} (h : wpX9_now σ K) : Met l yX9_now wsX9_now rmX9_now (wx_Pre D [(cI, .int)] wx_T0 14 (wM_E cI ad) ad σ sz [.ref (ad 0)]) (va_Qi K (wx_B D [(cI, .int)] 14 (wM_E cI ad) ad (va_A (wx_w 14 (wM_E cI ad) ad σ) sz)) (va_A (wx_w 14 (wM_E cI ad) ad σ) sz)) 0 0 (va_A (wx_w 14 (wM_E cI ad) ad σ) sz) := by
  unfold wpX9_now at h
  refine wx_meti (cc := cX9_now) (maxL := 1) (own := RX9) rfl (by decide) rfl (Nat.le_of_ble_eq_true rfl) wx_T0_ok ?_
  intro p e s m args below meth c A Q ls C Rt hP hD hS hl
  obtain ⟨⟨hx, hb, hml, hown, hts⟩, hA, hK, hRO, hro⟩ := id C
  have hl : lv_has ls 1 [(0, .ref (ad 0))] := hl
  obtain ⟨H, eH⟩ : ∃ z, z = s.heap := ⟨_, rfl⟩
  obtain ⟨locs, eL⟩ : ∃ z : List Loc, z = [] := ⟨_, rfl⟩
  rw [← eH] at hP
  have hS : va_S A s.heap H locs := by rw [eH, eL]; exact hS
  have goal : W p l e rmX9_now s m args below meth c H locs 0 0 Q (F0 m 0 ls []) := by
    refine lv_aload_n hx hb dX9_now_0 rfl (lv_at hl 0 rfl) ?_
    refine wx_ci C hD hS (va_runV (As := []) (rest := []) C.1 (mtX9_theWord (l := l) (D := D) (sz := H.size) h) (cwV 0 hts gX9_now_X9_theWord rfl rfl rfl nyX9_theWord ⟨Nat.le_of_ble_eq_true rfl, Nat.le_of_ble_eq_true rfl⟩) (wx_pv C hP hD hS (q := 0) (ci := 9) (Nat.le_of_ble_eq_true rfl) (eM_0 cI ad _) rfl) rfl rfl hl.1 rfl (lv_room (Nat.le_of_ble_eq_true rfl)) dX9_now_1 ⟨Nat.zero_le _, Nat.zero_le _⟩) (fun r1 σ1 H locs h hP hD hS => ?_)
    exact Rt _ _ _ _ _ _ h hP hD hS dX9_now_4
  rw [eH, eL] at goal
  exact goal
abbrev rmX9_at : Room := { frames := 4, cells := 0, slots := 0, locals := 101 }
set_option maxRecDepth 100000 in
set_option maxHeartbeats 4000000 in
theorem mtX9_at {l : Launch} {D : va_G} {cI : ClassId} {ad : Nat → Nat} {sz : Nat} {σ : wx_Z} {x1 : Int32} {K : Int32 → wx_Z → Prop} (h : wpX9_at σ x1 K) : Met l yX9_at wsX9_at rmX9_at (wx_Pre D [(cI, .int)] wx_T0 14 (wM_E cI ad) ad σ sz [.ref (ad 0), .int x1]) (va_Qi K (wx_B D [(cI, .int)] 14 (wM_E cI ad) ad (va_A (wx_w 14 (wM_E cI ad) ad σ) sz)) (va_A (wx_w 14 (wM_E cI ad) ad σ) sz)) 0 0 (va_A (wx_w 14 (wM_E cI ad) ad σ) sz) := by
  unfold wpX9_at at h
  refine wx_meti (cc := cX9_at) (maxL := 2) (own := RX9) rfl (by decide) rfl (Nat.le_of_ble_eq_true rfl) wx_T0_ok ?_
  intro p e s m args below meth c A Q ls C Rt hP hD hS hl
  obtain ⟨⟨hx, hb, hml, hown, hts⟩, hA, hK, hRO, hro⟩ := id C
  have hl : lv_has ls 2 [(0, .ref (ad 0)), (1, .int x1)] := hl
  obtain ⟨H, eH⟩ : ∃ z, z = s.heap := ⟨_, rfl⟩
  obtain ⟨locs, eL⟩ : ∃ z : List Loc, z = [] := ⟨_, rfl⟩
  rw [← eH] at hP
  have hS : va_S A s.heap H locs := by rw [eH, eL]; exact hS
  have goal : W p l e rmX9_at s m args below meth c H locs 0 0 Q (F0 m 0 ls []) := by
    refine lv_aload_n hx hb dX9_at_0 rfl (lv_at hl 0 rfl) ?_
    refine lv_iload_n hx hb dX9_at_1 rfl (lv_at hl 1 rfl) ?_
    refine wx_ci C hD hS (va_runV (As := [.int x1]) (rest := []) C.1 (mtX9_isPlace (l := l) (D := D) (sz := H.size) h) (cwV 1 hts gX9_at_X9_isPlace rfl rfl rfl nyX9_isPlace ⟨Nat.le_of_ble_eq_true rfl, Nat.le_of_ble_eq_true rfl⟩) (wx_pv C hP hD hS (q := 0) (ci := 9) (Nat.le_of_ble_eq_true rfl) (eM_0 cI ad _) rfl) rfl rfl hl.1 rfl (lv_room (Nat.le_of_ble_eq_true rfl)) dX9_at_2 ⟨Nat.zero_le _, Nat.zero_le _⟩) (fun r2 σ2 H locs h hP hD hS => ?_)
    refine lv_if_eq (tgt := 19) hx hb dX9_at_5 (by decide) (fun c5 => ?_) (fun c5 => ?_)
    · have h := h.1 c5
      refine lv_aload_n hx hb dX9_at_19 rfl (lv_at hl 0 rfl) ?_
      refine lv_bipush (v := (-2)) hx hb dX9_at_20 (by decide) ?_
      refine wx_ci C hD hS (va_runV (As := [.int (-2)]) (rest := []) C.1 (mtX9_bad (l := l) (D := D) (sz := H.size) h) (cwV 1 hts gX9_at_X9_bad rfl rfl rfl nyX9_bad ⟨Nat.le_of_ble_eq_true rfl, Nat.le_of_ble_eq_true rfl⟩) (wx_pv C hP hD hS (q := 0) (ci := 9) (Nat.le_of_ble_eq_true rfl) (eM_0 cI ad _) rfl) rfl rfl hl.1 rfl (lv_room (Nat.le_of_ble_eq_true rfl)) dX9_at_22 ⟨Nat.zero_le _, Nat.zero_le _⟩) (fun r22 σ22 H locs h hP hD hS => ?_)
      exact Rt _ _ _ _ _ _ h hP hD hS dX9_at_25
    · have h := h.2 c5
      refine lv_aload_n hx hb dX9_at_8 rfl (lv_at hl 0 rfl) ?_
      refine wx_ci C hD hS (va_runV (As := []) (rest := []) C.1 (mtX9_theWord (l := l) (D := D) (sz := H.size) h) (cwV 0 hts gX9_at_X9_theWord rfl rfl rfl nyX9_theWord ⟨Nat.le_of_ble_eq_true rfl, Nat.le_of_ble_eq_true rfl⟩) (wx_pv C hP hD hS (q := 0) (ci := 9) (Nat.le_of_ble_eq_true rfl) (eM_0 cI ad _) rfl) rfl rfl hl.1 rfl (lv_room (Nat.le_of_ble_eq_true rfl)) dX9_at_9 ⟨Nat.zero_le _, Nat.zero_le _⟩) (fun r9 σ9 H locs h hP hD hS => ?_)
      refine lv_iload_n hx hb dX9_at_12 rfl (lv_at hl 1 rfl) ?_
      refine lv_ishr hx hb dX9_at_13 ?_
      refine lv_iconst (v := 1) hx hb dX9_at_14 (by decide) ?_
      refine lv_iand hx hb dX9_at_15 ?_
      refine lv_goto (tgt := 25) hx hb dX9_at_16 (by decide) ?_
      exact Rt _ _ _ _ _ _ h hP hD hS dX9_at_25
  rw [eH, eL] at goal
  exact goal
abbrev rmX9_weight : Room := { frames := 2, cells := 0, slots := 0, locals := 62 }
set_option maxRecDepth 100000 in
set_option maxHeartbeats 4000000 in
theorem mtX9_weight {l : Launch} {D : va_G} {cI : ClassId} {ad : Nat → Nat} {sz : Nat} {σ : wx_Z} {K : Int32 → wx_Z → Prop} (h : wpX9_weight σ K) : Met l yX9_weight wsX9_weight rmX9_weight (wx_Pre D [(cI, .int)] wx_T0 14 (wM_E cI ad) ad σ sz [.ref (ad 0)]) (va_Qi K (wx_B D [(cI, .int)] 14 (wM_E cI ad) ad (va_A (wx_w 14 (wM_E cI ad) ad σ) sz)) (va_A (wx_w 14 (wM_E cI ad) ad σ) sz)) 0 0 (va_A (wx_w 14 (wM_E cI ad) ad σ) sz) := by
  unfold wpX9_weight at h
  refine wx_meti (cc := cX9_weight) (maxL := 1) (own := RX9) rfl (by decide) rfl (Nat.le_of_ble_eq_true rfl) wx_T0_ok ?_
  intro p e s m args below meth c A Q ls C Rt hP hD hS hl
  obtain ⟨⟨hx, hb, hml, hown, hts⟩, hA, hK, hRO, hro⟩ := id C
  have hl : lv_has ls 1 [(0, .ref (ad 0))] := hl
  obtain ⟨H, eH⟩ : ∃ z, z = s.heap := ⟨_, rfl⟩
  obtain ⟨locs, eL⟩ : ∃ z : List Loc, z = [] := ⟨_, rfl⟩
  rw [← eH] at hP
  have hS : va_S A s.heap H locs := by rw [eH, eL]; exact hS
  have goal : W p l e rmX9_weight s m args below meth c H locs 0 0 Q (F0 m 0 ls []) := by
    refine lv_aload_n hx hb dX9_weight_0 rfl (lv_at hl 0 rfl) ?_
    refine wx_ci C hD hS (va_runV (As := []) (rest := []) C.1 (mtX9_theWord (l := l) (D := D) (sz := H.size) h) (cwV 0 hts gX9_weight_X9_theWord rfl rfl rfl nyX9_theWord ⟨Nat.le_of_ble_eq_true rfl, Nat.le_of_ble_eq_true rfl⟩) (wx_pv C hP hD hS (q := 0) (ci := 9) (Nat.le_of_ble_eq_true rfl) (eM_0 cI ad _) rfl) rfl rfl hl.1 rfl (lv_room (Nat.le_of_ble_eq_true rfl)) dX9_weight_1 ⟨Nat.zero_le _, Nat.zero_le _⟩) (fun r1 σ1 H locs h hP hD hS => ?_)
    refine wx_ci C hD hS (va_runS (As := [.int r1]) (rest := []) C.1 (mtX9_bits (l := l) (D := D) (sz := H.size) h) (va_cwS 1 hts gX9_weight_X9_bits rfl rfl rfl nyX9_bits.2 ⟨Nat.le_of_ble_eq_true rfl, Nat.le_of_ble_eq_true rfl⟩) (wx_ps C hP hD hS) rfl rfl hl.1 rfl (lv_room (Nat.le_of_ble_eq_true rfl)) dX9_weight_4 ⟨Nat.zero_le _, Nat.zero_le _⟩) (fun r4 σ4 H locs h hP hD hS => ?_)
    exact Rt _ _ _ _ _ _ h hP hD hS dX9_weight_7
  rw [eH, eL] at goal
  exact goal
abbrev rmX9_coefficientOf : Room := { frames := 3, cells := 0, slots := 0, locals := 80 }
set_option maxRecDepth 100000 in
set_option maxHeartbeats 4000000 in
theorem bX9_coefficientOf_5 {p : Program} {l : Launch} {e : Env} {s : State} {m : MethodId} {args : Array Value} {below : List Frame} {meth : Method} {c : Code} {A : Nat → Prop} {Q : State → Prop} {D : va_G} {cI : ClassId} {ad : Nat → Nat} {K : Int32 → wx_Z → Prop} (C : wx_C p s m args c cX9_coefficientOf 5 RX9 wsX9_coefficientOf D [(cI, .int)] wx_T0 A) (Rt : wx_Ri p l e rmX9_coefficientOf s m args below meth c cX9_coefficientOf D 14 (wM_E cI ad) ad A K Q) : ∀ (n : Nat) (σ : wx_Z) (x1 : Int32) (x2 : Int32) (x3 : Int32) (x4 : Int32), wpX9_coefficientOf_5 K n σ x1 x2 x3 x4 → ∀ (H : Heap) (locs : List Loc) (ls : Array Slot), va_P D vwCl (wx_w 14 (wM_E cI ad) ad σ) H → va_D A (wx_w 14 (wM_E cI ad) ad σ) → va_S A s.heap H locs → lv_has ls 5 [(0, .ref (ad 0)), (1, .int x1), (2, .int x2), (3, .int x3), (4, .int x4)] → W p l e rmX9_coefficientOf s m args below meth c H locs 0 0 Q (F0 m 5 ls []) := by
  obtain ⟨⟨hx, hb, hml, hown, hts⟩, hA, hK, hRO, hro⟩ := id C
  intro n
  induction n with
  | zero => intro σ x1 x2 x3 x4 h; exact h.elim
  | succ n ih =>
    intro σ x1 x2 x3 x4 h H locs ls hP hD hS hl
    unfold wpX9_coefficientOf_5 at h
    refine lv_iload hx hb dX9_coefficientOf_5 (lv_at hl 4 rfl) ?_
    refine lv_aload_n hx hb dX9_coefficientOf_7 rfl (lv_at hl 0 rfl) ?_
    refine wx_ci C hD hS (va_runV (As := []) (rest := [.int x4]) C.1 (mtX9_places (l := l) (D := D) (sz := H.size) h) (cwV 0 hts gX9_coefficientOf_X9_places rfl rfl rfl nyX9_places ⟨Nat.le_of_ble_eq_true rfl, Nat.le_of_ble_eq_true rfl⟩) (wx_pv C hP hD hS (q := 0) (ci := 9) (Nat.le_of_ble_eq_true rfl) (eM_0 cI ad _) rfl) rfl rfl hl.1 rfl (lv_room (Nat.le_of_ble_eq_true rfl)) dX9_coefficientOf_8 ⟨Nat.zero_le _, Nat.zero_le _⟩) (fun r8 σ8 H locs h hP hD hS => ?_)
    refine lv_icmp_ge (tgt := 42) hx hb dX9_coefficientOf_11 (by decide) (fun c11 => ?_) (fun c11 => ?_)
    · have h := h.1 c11
      refine lv_iload_n hx hb dX9_coefficientOf_42 rfl (lv_at hl 3 rfl) ?_
      exact Rt _ _ _ _ _ _ h hP hD hS dX9_coefficientOf_43
    · have h := h.2 c11
      refine lv_iload_n hx hb dX9_coefficientOf_14 rfl (lv_at hl 3 rfl) ?_
      refine lv_iload hx hb dX9_coefficientOf_15 (lv_at hl 4 rfl) ?_
      refine lv_iload_n hx hb dX9_coefficientOf_17 rfl (lv_at hl 2 rfl) ?_
      refine lv_iand hx hb dX9_coefficientOf_18 ?_
      refine lv_iload hx hb dX9_coefficientOf_19 (lv_at hl 4 rfl) ?_
      refine lv_icmp_ne (tgt := 33) hx hb dX9_coefficientOf_21 (by decide) (fun c21 => ?_) (fun c21 => ?_)
      · have h := h.1 c21
        refine lv_iconst (v := 0) hx hb dX9_coefficientOf_33 (by decide) ?_
        refine lv_ixor hx hb dX9_coefficientOf_34 ?_
        refine lv_topi (fun t35 e_t35 => ?_)
        have h := h t35 e_t35
        refine lv_istore_n (lv' := [(3, .int t35), (0, .ref (ad 0)), (1, .int x1), (2, .int x2), (4, .int x4)]) hx hb dX9_coefficientOf_35 rfl hl (by decide) rfl (fun ls hl => ?_)
        obtain ⟨t36, e_t36⟩ : ∃ y : Int32, y = x4 + 1 := ⟨_, rfl⟩
        have h := h t36 e_t36
        refine lv_iinc (v := t36) (lv' := [(4, .int t36), (3, .int t35), (0, .ref (ad 0)), (1, .int x1), (2, .int x2)]) hx hb dX9_coefficientOf_36 hl (k := 4) rfl (by rw [e_t36]; rfl) (by decide) rfl (fun ls hl => ?_)
        refine lv_goto (tgt := 5) hx hb dX9_coefficientOf_39 (by decide) ?_
        exact ih σ8 x1 x2 t35 t36  h _ _ _ hP hD hS (lv_sub hl [2, 3, 4, 1, 0] rfl)
      · have h := h.2 c21
        refine lv_iload_n hx hb dX9_coefficientOf_24 rfl (lv_at hl 1 rfl) ?_
        refine lv_iload hx hb dX9_coefficientOf_25 (lv_at hl 4 rfl) ?_
        refine lv_ishr hx hb dX9_coefficientOf_27 ?_
        refine lv_iconst (v := 1) hx hb dX9_coefficientOf_28 (by decide) ?_
        refine lv_iand hx hb dX9_coefficientOf_29 ?_
        refine lv_goto (tgt := 34) hx hb dX9_coefficientOf_30 (by decide) ?_
        refine lv_ixor hx hb dX9_coefficientOf_34 ?_
        refine lv_topi (fun t35_1 e_t35_1 => ?_)
        have h := h t35_1 e_t35_1
        refine lv_istore_n (lv' := [(3, .int t35_1), (0, .ref (ad 0)), (1, .int x1), (2, .int x2), (4, .int x4)]) hx hb dX9_coefficientOf_35 rfl hl (by decide) rfl (fun ls hl => ?_)
        obtain ⟨t36_1, e_t36_1⟩ : ∃ y : Int32, y = x4 + 1 := ⟨_, rfl⟩
        have h := h t36_1 e_t36_1
        refine lv_iinc (v := t36_1) (lv' := [(4, .int t36_1), (3, .int t35_1), (0, .ref (ad 0)), (1, .int x1), (2, .int x2)]) hx hb dX9_coefficientOf_36 hl (k := 4) rfl (by rw [e_t36_1]; rfl) (by decide) rfl (fun ls hl => ?_)
        refine lv_goto (tgt := 5) hx hb dX9_coefficientOf_39 (by decide) ?_
        exact ih σ8 x1 x2 t35_1 t36_1  h _ _ _ hP hD hS (lv_sub hl [2, 3, 4, 1, 0] rfl)
set_option maxRecDepth 100000 in
set_option maxHeartbeats 4000000 in
theorem mtX9_coefficientOf {l : Launch} {D : va_G} {cI : ClassId} {ad : Nat → Nat} {sz : Nat} {σ : wx_Z} {x1 : Int32} {x2 : Int32} {K : Int32 → wx_Z → Prop} (h : wpX9_coefficientOf σ x1 x2 K) : Met l yX9_coefficientOf wsX9_coefficientOf rmX9_coefficientOf (wx_Pre D [(cI, .int)] wx_T0 14 (wM_E cI ad) ad σ sz [.ref (ad 0), .int x1, .int x2]) (va_Qi K (wx_B D [(cI, .int)] 14 (wM_E cI ad) ad (va_A (wx_w 14 (wM_E cI ad) ad σ) sz)) (va_A (wx_w 14 (wM_E cI ad) ad σ) sz)) 0 0 (va_A (wx_w 14 (wM_E cI ad) ad σ) sz) := by
  unfold wpX9_coefficientOf at h
  refine wx_meti (cc := cX9_coefficientOf) (maxL := 5) (own := RX9) rfl (by decide) rfl (Nat.le_of_ble_eq_true rfl) wx_T0_ok ?_
  intro p e s m args below meth c A Q ls C Rt hP hD hS hl
  obtain ⟨⟨hx, hb, hml, hown, hts⟩, hA, hK, hRO, hro⟩ := id C
  have hl : lv_has ls 5 [(0, .ref (ad 0)), (1, .int x1), (2, .int x2)] := hl
  obtain ⟨H, eH⟩ : ∃ z, z = s.heap := ⟨_, rfl⟩
  obtain ⟨locs, eL⟩ : ∃ z : List Loc, z = [] := ⟨_, rfl⟩
  rw [← eH] at hP
  have hS : va_S A s.heap H locs := by rw [eH, eL]; exact hS
  have goal : W p l e rmX9_coefficientOf s m args below meth c H locs 0 0 Q (F0 m 0 ls []) := by
    refine lv_iconst (v := 0) hx hb dX9_coefficientOf_0 (by decide) ?_
    refine lv_istore_n (lv' := [(3, .int 0), (0, .ref (ad 0)), (1, .int x1), (2, .int x2)]) hx hb dX9_coefficientOf_1 rfl hl (by decide) rfl (fun ls hl => ?_)
    refine lv_iconst (v := 0) hx hb dX9_coefficientOf_2 (by decide) ?_
    refine lv_istore (lv' := [(4, .int 0), (3, .int 0), (0, .ref (ad 0)), (1, .int x1), (2, .int x2)]) hx hb dX9_coefficientOf_3 hl (by decide) rfl (fun ls hl => ?_)
    obtain ⟨n5, h⟩ := h
    exact bX9_coefficientOf_5 C Rt n5 σ x1 x2 0 0  h _ _ _ hP hD hS (lv_sub hl [2, 3, 4, 1, 0] rfl)
  rw [eH, eL] at goal
  exact goal
abbrev rmX9_isWord : Room := { frames := 4, cells := 0, slots := 0, locals := 104 }
theorem nyX9_coefficientOf : yX9_coefficientOf.cls = RX9 ∧ yX9_coefficientOf.cls ≠ "java/lang/invoke/MethodHandle" ∧ yX9_coefficientOf.cls ≠ "java/lang/invoke/VarHandle" ∧ (parseMethodDescriptor yX9_coefficientOf.desc).map (fun d => d.parameters.length) = some 2 := by decide +kernel
set_option maxRecDepth 100000 in
set_option maxHeartbeats 4000000 in
theorem bX9_isWord_4 {p : Program} {l : Launch} {e : Env} {s : State} {m : MethodId} {args : Array Value} {below : List Frame} {meth : Method} {c : Code} {A : Nat → Prop} {Q : State → Prop} {D : va_G} {cI : ClassId} {ad : Nat → Nat} {K : Int32 → wx_Z → Prop} (C : wx_C p s m args c cX9_isWord 3 RX9 wsX9_isWord D [(cI, .int)] wx_T0 A) (Rt : wx_Ri p l e rmX9_isWord s m args below meth c cX9_isWord D 14 (wM_E cI ad) ad A K Q) : ∀ (n : Nat) (σ : wx_Z) (x1 : Int32) (x2 : Int32), wpX9_isWord_4 K n σ x1 x2 → ∀ (H : Heap) (locs : List Loc) (ls : Array Slot), va_P D vwCl (wx_w 14 (wM_E cI ad) ad σ) H → va_D A (wx_w 14 (wM_E cI ad) ad σ) → va_S A s.heap H locs → lv_has ls 3 [(0, .ref (ad 0)), (1, .int x1), (2, .int x2)] → W p l e rmX9_isWord s m args below meth c H locs 0 0 Q (F0 m 4 ls []) := by
  obtain ⟨⟨hx, hb, hml, hown, hts⟩, hA, hK, hRO, hro⟩ := id C
  intro n
  induction n with
  | zero => intro σ x1 x2 h; exact h.elim
  | succ n ih =>
    intro σ x1 x2 h H locs ls hP hD hS hl
    unfold wpX9_isWord_4 at h
    refine lv_iload_n hx hb dX9_isWord_4 rfl (lv_at hl 2 rfl) ?_
    refine lv_aload_n hx hb dX9_isWord_5 rfl (lv_at hl 0 rfl) ?_
    refine wx_ci C hD hS (va_runV (As := []) (rest := [.int x2]) C.1 (mtX9_places (l := l) (D := D) (sz := H.size) h) (cwV 0 hts gX9_isWord_X9_places rfl rfl rfl nyX9_places ⟨Nat.le_of_ble_eq_true rfl, Nat.le_of_ble_eq_true rfl⟩) (wx_pv C hP hD hS (q := 0) (ci := 9) (Nat.le_of_ble_eq_true rfl) (eM_0 cI ad _) rfl) rfl rfl hl.1 rfl (lv_room (Nat.le_of_ble_eq_true rfl)) dX9_isWord_6 ⟨Nat.zero_le _, Nat.zero_le _⟩) (fun r6 σ6 H locs h hP hD hS => ?_)
    refine lv_icmp_ge (tgt := 48) hx hb dX9_isWord_9 (by decide) (fun c9 => ?_) (fun c9 => ?_)
    · have h := h.1 c9
      refine lv_iload_n hx hb dX9_isWord_48 rfl (lv_at hl 1 rfl) ?_
      exact Rt _ _ _ _ _ _ h hP hD hS dX9_isWord_49
    · have h := h.2 c9
      refine lv_iload_n hx hb dX9_isWord_12 rfl (lv_at hl 2 rfl) ?_
      refine wx_ci C hD hS (va_runS (As := [.int x2]) (rest := []) C.1 (mtX9_bits (l := l) (D := D) (sz := H.size) h) (va_cwS 1 hts gX9_isWord_X9_bits rfl rfl rfl nyX9_bits.2 ⟨Nat.le_of_ble_eq_true rfl, Nat.le_of_ble_eq_true rfl⟩) (wx_ps C hP hD hS) rfl rfl hl.1 rfl (lv_room (Nat.le_of_ble_eq_true rfl)) dX9_isWord_13 ⟨Nat.zero_le _, Nat.zero_le _⟩) (fun r13 σ13 H locs h hP hD hS => ?_)
      refine lv_aload_n hx hb dX9_isWord_16 rfl (lv_at hl 0 rfl) ?_
      refine wx_ci C hD hS (va_runV (As := []) (rest := [.int r13]) C.1 (mtX9_order (l := l) (D := D) (sz := H.size) h) (cwV 0 hts gX9_isWord_X9_order rfl rfl rfl nyX9_order ⟨Nat.le_of_ble_eq_true rfl, Nat.le_of_ble_eq_true rfl⟩) (wx_pv C hP hD hS (q := 0) (ci := 9) (Nat.le_of_ble_eq_true rfl) (eM_0 cI ad _) rfl) rfl rfl hl.1 rfl (lv_room (Nat.le_of_ble_eq_true rfl)) dX9_isWord_17 ⟨Nat.zero_le _, Nat.zero_le _⟩) (fun r17 σ17 H locs h hP hD hS => ?_)
      refine lv_icmp_le (tgt := 40) hx hb dX9_isWord_20 (by decide) (fun c20 => ?_) (fun c20 => ?_)
      · have h := h.1 c20
        refine lv_iload_n hx hb dX9_isWord_40 rfl (lv_at hl 1 rfl) ?_
        refine lv_istore_n (lv' := [(1, .int x1), (0, .ref (ad 0)), (2, .int x2)]) hx hb dX9_isWord_41 rfl hl (by decide) rfl (fun ls hl => ?_)
        obtain ⟨t42, e_t42⟩ : ∃ y : Int32, y = x2 + 1 := ⟨_, rfl⟩
        have h := h t42 e_t42
        refine lv_iinc (v := t42) (lv' := [(2, .int t42), (1, .int x1), (0, .ref (ad 0))]) hx hb dX9_isWord_42 hl (k := 2) rfl (by rw [e_t42]; rfl) (by decide) rfl (fun ls hl => ?_)
        refine lv_goto (tgt := 4) hx hb dX9_isWord_45 (by decide) ?_
        exact ih σ17 x1 t42  h _ _ _ hP hD hS (lv_sub hl [2, 1, 0] rfl)
      · have h := h.2 c20
        refine lv_aload_n hx hb dX9_isWord_23 rfl (lv_at hl 0 rfl) ?_
        refine lv_aload_n hx hb dX9_isWord_24 rfl (lv_at hl 0 rfl) ?_
        refine wx_ci C hD hS (va_runV (As := []) (rest := [.ref (ad 0)]) C.1 (mtX9_theWord (l := l) (D := D) (sz := H.size) h) (cwV 0 hts gX9_isWord_X9_theWord rfl rfl rfl nyX9_theWord ⟨Nat.le_of_ble_eq_true rfl, Nat.le_of_ble_eq_true rfl⟩) (wx_pv C hP hD hS (q := 0) (ci := 9) (Nat.le_of_ble_eq_true rfl) (eM_0 cI ad _) rfl) rfl rfl hl.1 rfl (lv_room (Nat.le_of_ble_eq_true rfl)) dX9_isWord_25 ⟨Nat.zero_le _, Nat.zero_le _⟩) (fun r25 σ25 H locs h hP hD hS => ?_)
        refine lv_iload_n hx hb dX9_isWord_28 rfl (lv_at hl 2 rfl) ?_
        refine wx_ci C hD hS (va_runV (As := [.int r25, .int x2]) (rest := []) C.1 (mtX9_coefficientOf (l := l) (D := D) (sz := H.size) h) (cwV 2 hts gX9_isWord_X9_coefficientOf rfl rfl rfl nyX9_coefficientOf ⟨Nat.le_of_ble_eq_true rfl, Nat.le_of_ble_eq_true rfl⟩) (wx_pv C hP hD hS (q := 0) (ci := 9) (Nat.le_of_ble_eq_true rfl) (eM_0 cI ad _) rfl) rfl rfl hl.1 rfl (lv_room (Nat.le_of_ble_eq_true rfl)) dX9_isWord_29 ⟨Nat.zero_le _, Nat.zero_le _⟩) (fun r29 σ29 H locs h hP hD hS => ?_)
        refine lv_iconst (v := 1) hx hb dX9_isWord_32 (by decide) ?_
        refine lv_icmp_ne (tgt := 40) hx hb dX9_isWord_33 (by decide) (fun c33 => ?_) (fun c33 => ?_)
        · have h := h.1 c33
          refine lv_iload_n hx hb dX9_isWord_40 rfl (lv_at hl 1 rfl) ?_
          refine lv_istore_n (lv' := [(1, .int x1), (0, .ref (ad 0)), (2, .int x2)]) hx hb dX9_isWord_41 rfl hl (by decide) rfl (fun ls hl => ?_)
          obtain ⟨t42_1, e_t42_1⟩ : ∃ y : Int32, y = x2 + 1 := ⟨_, rfl⟩
          have h := h t42_1 e_t42_1
          refine lv_iinc (v := t42_1) (lv' := [(2, .int t42_1), (1, .int x1), (0, .ref (ad 0))]) hx hb dX9_isWord_42 hl (k := 2) rfl (by rw [e_t42_1]; rfl) (by decide) rfl (fun ls hl => ?_)
          refine lv_goto (tgt := 4) hx hb dX9_isWord_45 (by decide) ?_
          exact ih σ29 x1 t42_1  h _ _ _ hP hD hS (lv_sub hl [2, 1, 0] rfl)
        · have h := h.2 c33
          refine lv_iconst (v := 0) hx hb dX9_isWord_36 (by decide) ?_
          refine lv_goto (tgt := 41) hx hb dX9_isWord_37 (by decide) ?_
          refine lv_istore_n (lv' := [(1, .int 0), (0, .ref (ad 0)), (2, .int x2)]) hx hb dX9_isWord_41 rfl hl (by decide) rfl (fun ls hl => ?_)
          obtain ⟨t42_2, e_t42_2⟩ : ∃ y : Int32, y = x2 + 1 := ⟨_, rfl⟩
          have h := h t42_2 e_t42_2
          refine lv_iinc (v := t42_2) (lv' := [(2, .int t42_2), (1, .int 0), (0, .ref (ad 0))]) hx hb dX9_isWord_42 hl (k := 2) rfl (by rw [e_t42_2]; rfl) (by decide) rfl (fun ls hl => ?_)
          refine lv_goto (tgt := 4) hx hb dX9_isWord_45 (by decide) ?_
          exact ih σ29 0 t42_2  h _ _ _ hP hD hS (lv_sub hl [2, 1, 0] rfl)
set_option maxRecDepth 100000 in
set_option maxHeartbeats 4000000 in
theorem mtX9_isWord {l : Launch} {D : va_G} {cI : ClassId} {ad : Nat → Nat} {sz : Nat} {σ : wx_Z} {K : Int32 → wx_Z → Prop} (h : wpX9_isWord σ K) : Met l yX9_isWord wsX9_isWord rmX9_isWord (wx_Pre D [(cI, .int)] wx_T0 14 (wM_E cI ad) ad σ sz [.ref (ad 0)]) (va_Qi K (wx_B D [(cI, .int)] 14 (wM_E cI ad) ad (va_A (wx_w 14 (wM_E cI ad) ad σ) sz)) (va_A (wx_w 14 (wM_E cI ad) ad σ) sz)) 0 0 (va_A (wx_w 14 (wM_E cI ad) ad σ) sz) := by
  unfold wpX9_isWord at h
  refine wx_meti (cc := cX9_isWord) (maxL := 3) (own := RX9) rfl (by decide) rfl (Nat.le_of_ble_eq_true rfl) wx_T0_ok ?_
  intro p e s m args below meth c A Q ls C Rt hP hD hS hl
  obtain ⟨⟨hx, hb, hml, hown, hts⟩, hA, hK, hRO, hro⟩ := id C
  have hl : lv_has ls 3 [(0, .ref (ad 0))] := hl
  obtain ⟨H, eH⟩ : ∃ z, z = s.heap := ⟨_, rfl⟩
  obtain ⟨locs, eL⟩ : ∃ z : List Loc, z = [] := ⟨_, rfl⟩
  rw [← eH] at hP
  have hS : va_S A s.heap H locs := by rw [eH, eL]; exact hS
  have goal : W p l e rmX9_isWord s m args below meth c H locs 0 0 Q (F0 m 0 ls []) := by
    refine lv_iconst (v := 1) hx hb dX9_isWord_0 (by decide) ?_
    refine lv_istore_n (lv' := [(1, .int 1), (0, .ref (ad 0))]) hx hb dX9_isWord_1 rfl hl (by decide) rfl (fun ls hl => ?_)
    refine lv_iconst (v := 0) hx hb dX9_isWord_2 (by decide) ?_
    refine lv_istore_n (lv' := [(2, .int 0), (1, .int 1), (0, .ref (ad 0))]) hx hb dX9_isWord_3 rfl hl (by decide) rfl (fun ls hl => ?_)
    obtain ⟨n4, h⟩ := h
    exact bX9_isWord_4 C Rt n4 σ 1 0  h _ _ _ hP hD hS (lv_sub hl [2, 1, 0] rfl)
  rw [eH, eL] at goal
  exact goal
abbrev rmX9_coefficient : Room := { frames := 4, cells := 0, slots := 0, locals := 104 }
set_option maxRecDepth 20000 in
theorem inX9_coefficient_X9 : ∀ w ∈ u_ws RX9 TX9 27, w ∈ wsX9_coefficient := by decide +kernel
set_option maxRecDepth 100000 in
set_option maxHeartbeats 4000000 in
theorem mtX9_coefficient {l : Launch} {D : va_G} {cI : ClassId} {ad : Nat → Nat} {sz : Nat} {σ : wx_Z} {x1 : Int32} {K : Int32 → wx_Z → Prop} (h : wpX9_coefficient σ x1 K) : Met l yX9_coefficient wsX9_coefficient rmX9_coefficient (wx_Pre D [(cI, .int)] wx_T0 14 (wM_E cI ad) ad σ sz [.ref (ad 0), .int x1]) (va_Qi K (wx_B D [(cI, .int)] 14 (wM_E cI ad) ad (va_A (wx_w 14 (wM_E cI ad) ad σ) sz)) (va_A (wx_w 14 (wM_E cI ad) ad σ) sz)) 0 0 (va_A (wx_w 14 (wM_E cI ad) ad σ) sz) := by
  unfold wpX9_coefficient at h
  refine wx_meti (cc := cX9_coefficient) (maxL := 2) (own := RX9) rfl (by decide) rfl (Nat.le_of_ble_eq_true rfl) wx_T0_ok ?_
  intro p e s m args below meth c A Q ls C Rt hP hD hS hl
  obtain ⟨⟨hx, hb, hml, hown, hts⟩, hA, hK, hRO, hro⟩ := id C
  have hl : lv_has ls 2 [(0, .ref (ad 0)), (1, .int x1)] := hl
  obtain ⟨H, eH⟩ : ∃ z, z = s.heap := ⟨_, rfl⟩
  obtain ⟨locs, eL⟩ : ∃ z : List Loc, z = [] := ⟨_, rfl⟩
  rw [← eH] at hP
  have hS : va_S A s.heap H locs := by rw [eH, eL]; exact hS
  have goal : W p l e rmX9_coefficient s m args below meth c H locs 0 0 Q (F0 m 0 ls []) := by
    refine lv_aload_n hx hb dX9_coefficient_0 rfl (lv_at hl 0 rfl) ?_
    refine lv_iload_n hx hb dX9_coefficient_1 rfl (lv_at hl 1 rfl) ?_
    refine wx_ci C hD hS (va_runV (As := [.int x1]) (rest := []) C.1 (mtX9_isPlace (l := l) (D := D) (sz := H.size) h) (cwV 1 hts gX9_coefficient_X9_isPlace rfl rfl rfl nyX9_isPlace ⟨Nat.le_of_ble_eq_true rfl, Nat.le_of_ble_eq_true rfl⟩) (wx_pv C hP hD hS (q := 0) (ci := 9) (Nat.le_of_ble_eq_true rfl) (eM_0 cI ad _) rfl) rfl rfl hl.1 rfl (lv_room (Nat.le_of_ble_eq_true rfl)) dX9_coefficient_2 ⟨Nat.zero_le _, Nat.zero_le _⟩) (fun r2 σ2 H locs h hP hD hS => ?_)
    refine lv_if_ne (tgt := 15) hx hb dX9_coefficient_5 (by decide) (fun c5 => ?_) (fun c5 => ?_)
    · have h := h.1 c5
      refine lv_aload_n hx hb dX9_coefficient_15 rfl (lv_at hl 0 rfl) ?_
      refine lv_aload_n hx hb dX9_coefficient_16 rfl (lv_at hl 0 rfl) ?_
      refine wx_ci C hD hS (va_runV (As := []) (rest := [.ref (ad 0)]) C.1 (mtX9_length (l := l) (D := D) (sz := H.size) h) (cwV 0 hts gX9_coefficient_X9_length rfl rfl rfl nyX9_length ⟨Nat.le_of_ble_eq_true rfl, Nat.le_of_ble_eq_true rfl⟩) (wx_pv C hP hD hS (q := 0) (ci := 9) (Nat.le_of_ble_eq_true rfl) (eM_0 cI ad _) rfl) rfl rfl hl.1 rfl (lv_room (Nat.le_of_ble_eq_true rfl)) dX9_coefficient_17 ⟨Nat.zero_le _, Nat.zero_le _⟩) (fun r17 σ17 H locs h hP hD hS => ?_)
      refine wx_cv C hD hS (va_runV (As := [.int r17]) (rest := []) C.1 (mtX9_lays (l := l) (D := D) (sz := H.size) h) (cwV 1 hts gX9_coefficient_X9_lays rfl rfl rfl nyX9_lays ⟨Nat.le_of_ble_eq_true rfl, Nat.le_of_ble_eq_true rfl⟩) (wx_pv C hP hD hS (q := 0) (ci := 9) (Nat.le_of_ble_eq_true rfl) (eM_0 cI ad _) rfl) rfl rfl hl.1 rfl (lv_room (Nat.le_of_ble_eq_true rfl)) dX9_coefficient_20 ⟨Nat.zero_le _, Nat.zero_le _⟩) (fun σ20 H locs h hP hD hS => ?_)
      refine lv_aload_n hx hb dX9_coefficient_23 rfl (lv_at hl 0 rfl) ?_
      refine lv_aload_n hx hb dX9_coefficient_24 rfl (lv_at hl 0 rfl) ?_
      refine wx_ci C hD hS (va_runV (As := []) (rest := [.ref (ad 0)]) C.1 (mtX9_theWord (l := l) (D := D) (sz := H.size) h) (cwV 0 hts gX9_coefficient_X9_theWord rfl rfl rfl nyX9_theWord ⟨Nat.le_of_ble_eq_true rfl, Nat.le_of_ble_eq_true rfl⟩) (wx_pv C hP hD hS (q := 0) (ci := 9) (Nat.le_of_ble_eq_true rfl) (eM_0 cI ad _) rfl) rfl rfl hl.1 rfl (lv_room (Nat.le_of_ble_eq_true rfl)) dX9_coefficient_25 ⟨Nat.zero_le _, Nat.zero_le _⟩) (fun r25 σ25 H locs h hP hD hS => ?_)
      refine lv_aload_n hx hb dX9_coefficient_28 rfl (lv_at hl 0 rfl) ?_
      refine wx_get C hP (q := 0) (ci := 9) (Nat.le_of_ble_eq_true rfl) (eM_0 cI ad _) (Cn := RX9) (T := TX9) (Nf := 27) rfl inX9_coefficient_X9 4 (by decide) (List.mem_of_getElem? (i := 1) rfl) (v := .ref (ad 4)) rfl dX9_coefficient_29 ?_
      refine lv_iload_n hx hb dX9_coefficient_32 rfl (lv_at hl 1 rfl) ?_
      refine wx_ild C hP (q := 4) (Nat.le_of_ble_eq_true rfl) (fun _ => rfl) 0 rfl h.1 dX9_coefficient_33 ?_
      have h := h.2
      refine wx_ci C hD hS (va_runV (As := [.int r25, .int (σ25 4 (Int32.toNatClampNeg x1))]) (rest := []) C.1 (mtX9_coefficientOf (l := l) (D := D) (sz := H.size) h) (cwV 2 hts gX9_coefficient_X9_coefficientOf rfl rfl rfl nyX9_coefficientOf ⟨Nat.le_of_ble_eq_true rfl, Nat.le_of_ble_eq_true rfl⟩) (wx_pv C hP hD hS (q := 0) (ci := 9) (Nat.le_of_ble_eq_true rfl) (eM_0 cI ad _) rfl) rfl rfl hl.1 rfl (lv_room (Nat.le_of_ble_eq_true rfl)) dX9_coefficient_34 ⟨Nat.zero_le _, Nat.zero_le _⟩) (fun r34 σ34 H locs h hP hD hS => ?_)
      exact Rt _ _ _ _ _ _ h hP hD hS dX9_coefficient_37
    · have h := h.2 c5
      refine lv_aload_n hx hb dX9_coefficient_8 rfl (lv_at hl 0 rfl) ?_
      refine lv_bipush (v := (-2)) hx hb dX9_coefficient_9 (by decide) ?_
      refine wx_ci C hD hS (va_runV (As := [.int (-2)]) (rest := []) C.1 (mtX9_bad (l := l) (D := D) (sz := H.size) h) (cwV 1 hts gX9_coefficient_X9_bad rfl rfl rfl nyX9_bad ⟨Nat.le_of_ble_eq_true rfl, Nat.le_of_ble_eq_true rfl⟩) (wx_pv C hP hD hS (q := 0) (ci := 9) (Nat.le_of_ble_eq_true rfl) (eM_0 cI ad _) rfl) rfl rfl hl.1 rfl (lv_room (Nat.le_of_ble_eq_true rfl)) dX9_coefficient_11 ⟨Nat.zero_le _, Nat.zero_le _⟩) (fun r11 σ11 H locs h hP hD hS => ?_)
      exact Rt _ _ _ _ _ _ h hP hD hS dX9_coefficient_14
  rw [eH, eL] at goal
  exact goal
abbrev rmX9_voted : Room := { frames := 3, cells := 0, slots := 0, locals := 80 }
set_option maxRecDepth 100000 in
set_option maxHeartbeats 4000000 in
theorem bX9_voted_27 {p : Program} {l : Launch} {e : Env} {s : State} {m : MethodId} {args : Array Value} {below : List Frame} {meth : Method} {c : Code} {A : Nat → Prop} {Q : State → Prop} {D : va_G} {cI : ClassId} {ad : Nat → Nat} {K : Int32 → wx_Z → Prop} {C5 : wx_Z → Int32 → Int32 → Int32 → Int32 → Prop} (C : wx_C p s m args c cX9_voted 7 RX9 wsX9_voted D [(cI, .int)] wx_T0 A) (Rt : wx_Ri p l e rmX9_voted s m args below meth c cX9_voted D 14 (wM_E cI ad) ad A K Q) (hC5 : ∀ (σ : wx_Z) (x1 : Int32) (x2 : Int32) (x3 : Int32) (x4 : Int32), C5 σ x1 x2 x3 x4 → ∀ (H : Heap) (locs : List Loc) (ls : Array Slot), va_P D vwCl (wx_w 14 (wM_E cI ad) ad σ) H → va_D A (wx_w 14 (wM_E cI ad) ad σ) → va_S A s.heap H locs → lv_has ls 7 [(0, .ref (ad 0)), (1, .int x1), (2, .int x2), (3, .int x3), (4, .int x4)] → W p l e rmX9_voted s m args below meth c H locs 0 0 Q (F0 m 5 ls [])) : ∀ (n : Nat) (σ : wx_Z) (x1 : Int32) (x2 : Int32) (x3 : Int32) (x4 : Int32) (x5 : Int32) (x6 : Int32), wpX9_voted_27 K C5 n σ x1 x2 x3 x4 x5 x6 → ∀ (H : Heap) (locs : List Loc) (ls : Array Slot), va_P D vwCl (wx_w 14 (wM_E cI ad) ad σ) H → va_D A (wx_w 14 (wM_E cI ad) ad σ) → va_S A s.heap H locs → lv_has ls 7 [(0, .ref (ad 0)), (1, .int x1), (2, .int x2), (3, .int x3), (4, .int x4), (5, .int x5), (6, .int x6)] → W p l e rmX9_voted s m args below meth c H locs 0 0 Q (F0 m 27 ls []) := by
  obtain ⟨⟨hx, hb, hml, hown, hts⟩, hA, hK, hRO, hro⟩ := id C
  intro n
  induction n with
  | zero => intro σ x1 x2 x3 x4 x5 x6 h; exact h.elim
  | succ n ih =>
    intro σ x1 x2 x3 x4 x5 x6 h H locs ls hP hD hS hl
    unfold wpX9_voted_27 at h
    refine lv_iload hx hb dX9_voted_27 (lv_at hl 6 rfl) ?_
    refine lv_aload_n hx hb dX9_voted_29 rfl (lv_at hl 0 rfl) ?_
    refine wx_ci C hD hS (va_runV (As := []) (rest := [.int x6]) C.1 (mtX9_places (l := l) (D := D) (sz := H.size) h) (cwV 0 hts gX9_voted_X9_places rfl rfl rfl nyX9_places ⟨Nat.le_of_ble_eq_true rfl, Nat.le_of_ble_eq_true rfl⟩) (wx_pv C hP hD hS (q := 0) (ci := 9) (Nat.le_of_ble_eq_true rfl) (eM_0 cI ad _) rfl) rfl rfl hl.1 rfl (lv_room (Nat.le_of_ble_eq_true rfl)) dX9_voted_30 ⟨Nat.zero_le _, Nat.zero_le _⟩) (fun r30 σ30 H locs h hP hD hS => ?_)
    refine lv_icmp_ge (tgt := 68) hx hb dX9_voted_33 (by decide) (fun c33 => ?_) (fun c33 => ?_)
    · have h := h.1 c33
      refine lv_iload_n hx hb dX9_voted_68 rfl (lv_at hl 3 rfl) ?_
      refine lv_iload hx hb dX9_voted_69 (lv_at hl 5 rfl) ?_
      refine lv_iconst (v := 1) hx hb dX9_voted_71 (by decide) ?_
      refine lv_icmp_ne (tgt := 79) hx hb dX9_voted_72 (by decide) (fun c72 => ?_) (fun c72 => ?_)
      · have h := h.1 c72
        refine lv_iconst (v := (-1)) hx hb dX9_voted_79 (by decide) ?_
        refine lv_iadd hx hb dX9_voted_80 ?_
        refine lv_topi (fun t81 e_t81 => ?_)
        have h := h t81 e_t81
        refine lv_istore_n (lv' := [(3, .int t81), (0, .ref (ad 0)), (1, .int x1), (2, .int x2), (4, .int x4), (5, .int x5), (6, .int x6)]) hx hb dX9_voted_81 rfl hl (by decide) rfl (fun ls hl => ?_)
        obtain ⟨t82, e_t82⟩ : ∃ y : Int32, y = x4 + 1 := ⟨_, rfl⟩
        have h := h t82 e_t82
        refine lv_iinc (v := t82) (lv' := [(4, .int t82), (3, .int t81), (0, .ref (ad 0)), (1, .int x1), (2, .int x2), (5, .int x5), (6, .int x6)]) hx hb dX9_voted_82 hl (k := 4) rfl (by rw [e_t82]; rfl) (by decide) rfl (fun ls hl => ?_)
        refine lv_goto (tgt := 5) hx hb dX9_voted_85 (by decide) ?_
        exact hC5 σ30 x1 x2 t81 t82  h _ _ _ hP hD hS (lv_sub hl [2, 3, 4, 1, 0] rfl)
      · have h := h.2 c72
        refine lv_iconst (v := 1) hx hb dX9_voted_75 (by decide) ?_
        refine lv_goto (tgt := 80) hx hb dX9_voted_76 (by decide) ?_
        refine lv_iadd hx hb dX9_voted_80 ?_
        refine lv_topi (fun t81_1 e_t81_1 => ?_)
        have h := h t81_1 e_t81_1
        refine lv_istore_n (lv' := [(3, .int t81_1), (0, .ref (ad 0)), (1, .int x1), (2, .int x2), (4, .int x4), (5, .int x5), (6, .int x6)]) hx hb dX9_voted_81 rfl hl (by decide) rfl (fun ls hl => ?_)
        obtain ⟨t82_1, e_t82_1⟩ : ∃ y : Int32, y = x4 + 1 := ⟨_, rfl⟩
        have h := h t82_1 e_t82_1
        refine lv_iinc (v := t82_1) (lv' := [(4, .int t82_1), (3, .int t81_1), (0, .ref (ad 0)), (1, .int x1), (2, .int x2), (5, .int x5), (6, .int x6)]) hx hb dX9_voted_82 hl (k := 4) rfl (by rw [e_t82_1]; rfl) (by decide) rfl (fun ls hl => ?_)
        refine lv_goto (tgt := 5) hx hb dX9_voted_85 (by decide) ?_
        exact hC5 σ30 x1 x2 t81_1 t82_1  h _ _ _ hP hD hS (lv_sub hl [2, 3, 4, 1, 0] rfl)
    · have h := h.2 c33
      refine lv_iload hx hb dX9_voted_36 (lv_at hl 5 rfl) ?_
      refine lv_iload hx hb dX9_voted_38 (lv_at hl 6 rfl) ?_
      refine lv_iload_n hx hb dX9_voted_40 rfl (lv_at hl 2 rfl) ?_
      refine lv_iconst (v := (-1)) hx hb dX9_voted_41 (by decide) ?_
      refine lv_ixor hx hb dX9_voted_42 ?_
      refine lv_iand hx hb dX9_voted_43 ?_
      refine lv_iload hx hb dX9_voted_44 (lv_at hl 4 rfl) ?_
      refine lv_icmp_ne (tgt := 58) hx hb dX9_voted_46 (by decide) (fun c46 => ?_) (fun c46 => ?_)
      · have h := h.1 c46
        refine lv_iconst (v := 0) hx hb dX9_voted_58 (by decide) ?_
        refine lv_ixor hx hb dX9_voted_59 ?_
        refine lv_topi (fun t60 e_t60 => ?_)
        have h := h t60 e_t60
        refine lv_istore (lv' := [(5, .int t60), (0, .ref (ad 0)), (1, .int x1), (2, .int x2), (3, .int x3), (4, .int x4), (6, .int x6)]) hx hb dX9_voted_60 hl (by decide) rfl (fun ls hl => ?_)
        obtain ⟨t62, e_t62⟩ : ∃ y : Int32, y = x6 + 1 := ⟨_, rfl⟩
        have h := h t62 e_t62
        refine lv_iinc (v := t62) (lv' := [(6, .int t62), (5, .int t60), (0, .ref (ad 0)), (1, .int x1), (2, .int x2), (3, .int x3), (4, .int x4)]) hx hb dX9_voted_62 hl (k := 6) rfl (by rw [e_t62]; rfl) (by decide) rfl (fun ls hl => ?_)
        refine lv_goto (tgt := 27) hx hb dX9_voted_65 (by decide) ?_
        exact ih σ30 x1 x2 x3 x4 t60 t62  h _ _ _ hP hD hS (lv_sub hl [2, 3, 4, 5, 6, 1, 0] rfl)
      · have h := h.2 c46
        refine lv_iload_n hx hb dX9_voted_49 rfl (lv_at hl 1 rfl) ?_
        refine lv_iload hx hb dX9_voted_50 (lv_at hl 6 rfl) ?_
        refine lv_ishr hx hb dX9_voted_52 ?_
        refine lv_iconst (v := 1) hx hb dX9_voted_53 (by decide) ?_
        refine lv_iand hx hb dX9_voted_54 ?_
        refine lv_goto (tgt := 59) hx hb dX9_voted_55 (by decide) ?_
        refine lv_ixor hx hb dX9_voted_59 ?_
        refine lv_topi (fun t60_1 e_t60_1 => ?_)
        have h := h t60_1 e_t60_1
        refine lv_istore (lv' := [(5, .int t60_1), (0, .ref (ad 0)), (1, .int x1), (2, .int x2), (3, .int x3), (4, .int x4), (6, .int x6)]) hx hb dX9_voted_60 hl (by decide) rfl (fun ls hl => ?_)
        obtain ⟨t62_1, e_t62_1⟩ : ∃ y : Int32, y = x6 + 1 := ⟨_, rfl⟩
        have h := h t62_1 e_t62_1
        refine lv_iinc (v := t62_1) (lv' := [(6, .int t62_1), (5, .int t60_1), (0, .ref (ad 0)), (1, .int x1), (2, .int x2), (3, .int x3), (4, .int x4)]) hx hb dX9_voted_62 hl (k := 6) rfl (by rw [e_t62_1]; rfl) (by decide) rfl (fun ls hl => ?_)
        refine lv_goto (tgt := 27) hx hb dX9_voted_65 (by decide) ?_
        exact ih σ30 x1 x2 x3 x4 t60_1 t62_1  h _ _ _ hP hD hS (lv_sub hl [2, 3, 4, 5, 6, 1, 0] rfl)
set_option maxRecDepth 100000 in
set_option maxHeartbeats 4000000 in
theorem bX9_voted_5 {p : Program} {l : Launch} {e : Env} {s : State} {m : MethodId} {args : Array Value} {below : List Frame} {meth : Method} {c : Code} {A : Nat → Prop} {Q : State → Prop} {D : va_G} {cI : ClassId} {ad : Nat → Nat} {K : Int32 → wx_Z → Prop} (C : wx_C p s m args c cX9_voted 7 RX9 wsX9_voted D [(cI, .int)] wx_T0 A) (Rt : wx_Ri p l e rmX9_voted s m args below meth c cX9_voted D 14 (wM_E cI ad) ad A K Q) : ∀ (n : Nat) (σ : wx_Z) (x1 : Int32) (x2 : Int32) (x3 : Int32) (x4 : Int32), wpX9_voted_5 K n σ x1 x2 x3 x4 → ∀ (H : Heap) (locs : List Loc) (ls : Array Slot), va_P D vwCl (wx_w 14 (wM_E cI ad) ad σ) H → va_D A (wx_w 14 (wM_E cI ad) ad σ) → va_S A s.heap H locs → lv_has ls 7 [(0, .ref (ad 0)), (1, .int x1), (2, .int x2), (3, .int x3), (4, .int x4)] → W p l e rmX9_voted s m args below meth c H locs 0 0 Q (F0 m 5 ls []) := by
  obtain ⟨⟨hx, hb, hml, hown, hts⟩, hA, hK, hRO, hro⟩ := id C
  intro n
  induction n with
  | zero => intro σ x1 x2 x3 x4 h; exact h.elim
  | succ n ih =>
    intro σ x1 x2 x3 x4 h H locs ls hP hD hS hl
    unfold wpX9_voted_5 at h
    refine lv_iload hx hb dX9_voted_5 (lv_at hl 4 rfl) ?_
    refine lv_aload_n hx hb dX9_voted_7 rfl (lv_at hl 0 rfl) ?_
    refine wx_ci C hD hS (va_runV (As := []) (rest := [.int x4]) C.1 (mtX9_places (l := l) (D := D) (sz := H.size) h) (cwV 0 hts gX9_voted_X9_places rfl rfl rfl nyX9_places ⟨Nat.le_of_ble_eq_true rfl, Nat.le_of_ble_eq_true rfl⟩) (wx_pv C hP hD hS (q := 0) (ci := 9) (Nat.le_of_ble_eq_true rfl) (eM_0 cI ad _) rfl) rfl rfl hl.1 rfl (lv_room (Nat.le_of_ble_eq_true rfl)) dX9_voted_8 ⟨Nat.zero_le _, Nat.zero_le _⟩) (fun r8 σ8 H locs h hP hD hS => ?_)
    refine lv_icmp_ge (tgt := 88) hx hb dX9_voted_11 (by decide) (fun c11 => ?_) (fun c11 => ?_)
    · have h := h.1 c11
      refine lv_iload_n hx hb dX9_voted_88 rfl (lv_at hl 3 rfl) ?_
      exact Rt _ _ _ _ _ _ h hP hD hS dX9_voted_89
    · have h := h.2 c11
      refine lv_iload hx hb dX9_voted_14 (lv_at hl 4 rfl) ?_
      refine lv_iload_n hx hb dX9_voted_16 rfl (lv_at hl 2 rfl) ?_
      refine lv_iand hx hb dX9_voted_17 ?_
      refine lv_if_ne (tgt := 82) hx hb dX9_voted_18 (by decide) (fun c18 => ?_) (fun c18 => ?_)
      · have h := h.1 c18
        obtain ⟨t82, e_t82⟩ : ∃ y : Int32, y = x4 + 1 := ⟨_, rfl⟩
        have h := h t82 e_t82
        refine lv_iinc (v := t82) (lv' := [(4, .int t82), (0, .ref (ad 0)), (1, .int x1), (2, .int x2), (3, .int x3)]) hx hb dX9_voted_82 hl (k := 4) rfl (by rw [e_t82]; rfl) (by decide) rfl (fun ls hl => ?_)
        refine lv_goto (tgt := 5) hx hb dX9_voted_85 (by decide) ?_
        exact ih σ8 x1 x2 x3 t82  h _ _ _ hP hD hS (lv_sub hl [1, 2, 3, 4, 0] rfl)
      · have h := h.2 c18
        refine lv_iconst (v := 0) hx hb dX9_voted_21 (by decide) ?_
        refine lv_istore (lv' := [(5, .int 0), (0, .ref (ad 0)), (1, .int x1), (2, .int x2), (3, .int x3), (4, .int x4)]) hx hb dX9_voted_22 hl (by decide) rfl (fun ls hl => ?_)
        refine lv_iconst (v := 0) hx hb dX9_voted_24 (by decide) ?_
        refine lv_istore (lv' := [(6, .int 0), (5, .int 0), (0, .ref (ad 0)), (1, .int x1), (2, .int x2), (3, .int x3), (4, .int x4)]) hx hb dX9_voted_25 hl (by decide) rfl (fun ls hl => ?_)
        obtain ⟨n27, h⟩ := h
        exact bX9_voted_27 C Rt ih n27 σ8 x1 x2 x3 x4 0 0  h _ _ _ hP hD hS (lv_sub hl [2, 3, 4, 5, 6, 1, 0] rfl)
set_option maxRecDepth 100000 in
set_option maxHeartbeats 4000000 in
theorem mtX9_voted {l : Launch} {D : va_G} {cI : ClassId} {ad : Nat → Nat} {sz : Nat} {σ : wx_Z} {x1 : Int32} {x2 : Int32} {K : Int32 → wx_Z → Prop} (h : wpX9_voted σ x1 x2 K) : Met l yX9_voted wsX9_voted rmX9_voted (wx_Pre D [(cI, .int)] wx_T0 14 (wM_E cI ad) ad σ sz [.ref (ad 0), .int x1, .int x2]) (va_Qi K (wx_B D [(cI, .int)] 14 (wM_E cI ad) ad (va_A (wx_w 14 (wM_E cI ad) ad σ) sz)) (va_A (wx_w 14 (wM_E cI ad) ad σ) sz)) 0 0 (va_A (wx_w 14 (wM_E cI ad) ad σ) sz) := by
  unfold wpX9_voted at h
  refine wx_meti (cc := cX9_voted) (maxL := 7) (own := RX9) rfl (by decide) rfl (Nat.le_of_ble_eq_true rfl) wx_T0_ok ?_
  intro p e s m args below meth c A Q ls C Rt hP hD hS hl
  obtain ⟨⟨hx, hb, hml, hown, hts⟩, hA, hK, hRO, hro⟩ := id C
  have hl : lv_has ls 7 [(0, .ref (ad 0)), (1, .int x1), (2, .int x2)] := hl
  obtain ⟨H, eH⟩ : ∃ z, z = s.heap := ⟨_, rfl⟩
  obtain ⟨locs, eL⟩ : ∃ z : List Loc, z = [] := ⟨_, rfl⟩
  rw [← eH] at hP
  have hS : va_S A s.heap H locs := by rw [eH, eL]; exact hS
  have goal : W p l e rmX9_voted s m args below meth c H locs 0 0 Q (F0 m 0 ls []) := by
    refine lv_iconst (v := 0) hx hb dX9_voted_0 (by decide) ?_
    refine lv_istore_n (lv' := [(3, .int 0), (0, .ref (ad 0)), (1, .int x1), (2, .int x2)]) hx hb dX9_voted_1 rfl hl (by decide) rfl (fun ls hl => ?_)
    refine lv_iconst (v := 0) hx hb dX9_voted_2 (by decide) ?_
    refine lv_istore (lv' := [(4, .int 0), (3, .int 0), (0, .ref (ad 0)), (1, .int x1), (2, .int x2)]) hx hb dX9_voted_3 hl (by decide) rfl (fun ls hl => ?_)
    obtain ⟨n5, h⟩ := h
    exact bX9_voted_5 C Rt n5 σ x1 x2 0 0  h _ _ _ hP hD hS (lv_sub hl [2, 3, 4, 1, 0] rfl)
  rw [eH, eL] at goal
  exact goal
abbrev rmX9_votesNow : Room := { frames := 5, cells := 0, slots := 0, locals := 127 }
set_option maxRecDepth 20000 in
theorem inX9_votesNow_X9 : ∀ w ∈ u_ws RX9 TX9 27, w ∈ wsX9_votesNow := by decide +kernel
theorem nyX9_voted : yX9_voted.cls = RX9 ∧ yX9_voted.cls ≠ "java/lang/invoke/MethodHandle" ∧ yX9_voted.cls ≠ "java/lang/invoke/VarHandle" ∧ (parseMethodDescriptor yX9_voted.desc).map (fun d => d.parameters.length) = some 2 := by decide +kernel
set_option maxRecDepth 100000 in
set_option maxHeartbeats 4000000 in
theorem bX9_votesNow_177 {p : Program} {l : Launch} {e : Env} {s : State} {m : MethodId} {args : Array Value} {below : List Frame} {meth : Method} {c : Code} {A : Nat → Prop} {Q : State → Prop} {D : va_G} {cI : ClassId} {ad : Nat → Nat} {K : wx_Z → Prop} {C35 : wx_Z → Int32 → Int32 → Int32 → Prop} {C45 : wx_Z → Int32 → Int32 → Int32 → Int32 → Int32 → Prop} (C : wx_C p s m args c cX9_votesNow 8 RX9 wsX9_votesNow D [(cI, .int)] wx_T0 A) (Rt : wx_Rv p l e rmX9_votesNow s m args below meth c cX9_votesNow D 14 (wM_E cI ad) ad A K Q) (hC35 : ∀ (σ : wx_Z) (x1 : Int32) (x2 : Int32) (x3 : Int32), C35 σ x1 x2 x3 → ∀ (H : Heap) (locs : List Loc) (ls : Array Slot), va_P D vwCl (wx_w 14 (wM_E cI ad) ad σ) H → va_D A (wx_w 14 (wM_E cI ad) ad σ) → va_S A s.heap H locs → lv_has ls 8 [(0, .ref (ad 0)), (1, .int x1), (2, .int x2), (3, .int x3)] → W p l e rmX9_votesNow s m args below meth c H locs 0 0 Q (F0 m 35 ls [])) (hC45 : ∀ (σ : wx_Z) (x1 : Int32) (x2 : Int32) (x3 : Int32) (x4 : Int32) (x5 : Int32), C45 σ x1 x2 x3 x4 x5 → ∀ (H : Heap) (locs : List Loc) (ls : Array Slot), va_P D vwCl (wx_w 14 (wM_E cI ad) ad σ) H → va_D A (wx_w 14 (wM_E cI ad) ad σ) → va_S A s.heap H locs → lv_has ls 8 [(0, .ref (ad 0)), (1, .int x1), (2, .int x2), (3, .int x3), (4, .int x4), (5, .int x5)] → W p l e rmX9_votesNow s m args below meth c H locs 0 0 Q (F0 m 45 ls [])) : ∀ (σ : wx_Z) (x1 : Int32) (x2 : Int32) (x3 : Int32) (x4 : Int32) (x5 : Int32) (x7 : Int32), wpX9_votesNow_177 K C35 C45 σ x1 x2 x3 x4 x5 x7 → ∀ (H : Heap) (locs : List Loc) (ls : Array Slot), va_P D vwCl (wx_w 14 (wM_E cI ad) ad σ) H → va_D A (wx_w 14 (wM_E cI ad) ad σ) → va_S A s.heap H locs → lv_has ls 8 [(0, .ref (ad 0)), (1, .int x1), (2, .int x2), (3, .int x3), (4, .int x4), (5, .int x5), (7, .int x7)] → W p l e rmX9_votesNow s m args below meth c H locs 0 0 Q (F0 m 177 ls []) := by
  obtain ⟨⟨hx, hb, hml, hown, hts⟩, hA, hK, hRO, hro⟩ := id C
  intro σ x1 x2 x3 x4 x5 x7 h H locs ls hP hD hS hl
  unfold wpX9_votesNow_177 at h
  refine lv_aload_n hx hb dX9_votesNow_177 rfl (lv_at hl 0 rfl) ?_
  refine lv_aload_n hx hb dX9_votesNow_178 rfl (lv_at hl 0 rfl) ?_
  refine wx_get C hP (q := 0) (ci := 9) (Nat.le_of_ble_eq_true rfl) (eM_0 cI ad _) (Cn := RX9) (T := TX9) (Nf := 27) rfl inX9_votesNow_X9 4 (by decide) (List.mem_of_getElem? (i := 5) rfl) (v := .ref (ad 4)) rfl dX9_votesNow_179 ?_
  refine lv_iload hx hb dX9_votesNow_182 (lv_at hl 5 rfl) ?_
  refine wx_ild C hP (q := 4) (Nat.le_of_ble_eq_true rfl) (fun _ => rfl) 0 rfl h.1 dX9_votesNow_184 ?_
  have h := h.2
  refine wx_put C hP hD hS (q := 0) (ci := 9) (Nat.le_of_ble_eq_true rfl) (eM_0 cI ad _) (Cn := RX9) (T := TX9) (Nf := 27) rfl inX9_votesNow_X9 tyX9 tyX9_ok nmX9 9 (by decide) (List.mem_of_getElem? (i := 3) rfl) rfl rfl (Nat.le_of_ble_eq_true rfl) rfl dX9_votesNow_185 (fun H locs hP hD hS => ?_)
  generalize e_σ185 : wx_up σ 0 9 (σ 4 (Int32.toNatClampNeg x5)) = σ185 at hP hD
  have h := h σ185 e_σ185.symm
  refine lv_aload_n hx hb dX9_votesNow_188 rfl (lv_at hl 0 rfl) ?_
  refine lv_iload hx hb dX9_votesNow_189 (lv_at hl 6 rfl) ?_
  refine wx_put C hP hD hS (q := 0) (ci := 9) (Nat.le_of_ble_eq_true rfl) (eM_0 cI ad _) (Cn := RX9) (T := TX9) (Nf := 27) rfl inX9_votesNow_X9 tyX9 tyX9_ok nmX9 10 (by decide) (List.mem_of_getElem? (i := 4) rfl) rfl rfl (Nat.le_of_ble_eq_true rfl) rfl dX9_votesNow_191 (fun H locs hP hD hS => ?_)
  generalize e_σ191 : wx_up σ185 0 10 x7 = σ191 at hP hD
  have h := h σ191 e_σ191.symm
  obtain ⟨t194, e_t194⟩ : ∃ y : Int32, y = x5 + 1 := ⟨_, rfl⟩
  have h := h t194 e_t194
  refine lv_iinc (v := t194) (lv' := [(5, .int t194), (0, .ref (ad 0)), (1, .int x1), (2, .int x2), (3, .int x3), (4, .int x4), (7, .int x7)]) hx hb dX9_votesNow_194 hl (k := 5) rfl (by rw [e_t194]; rfl) (by decide) rfl (fun ls hl => ?_)
  refine lv_goto (tgt := 45) hx hb dX9_votesNow_197 (by decide) ?_
  exact hC45 σ191 x1 x2 x3 x4 t194  h _ _ _ hP hD hS (lv_sub hl [1, 2, 3, 4, 5, 0] rfl)
set_option maxRecDepth 100000 in
set_option maxHeartbeats 4000000 in
theorem bX9_votesNow_156 {p : Program} {l : Launch} {e : Env} {s : State} {m : MethodId} {args : Array Value} {below : List Frame} {meth : Method} {c : Code} {A : Nat → Prop} {Q : State → Prop} {D : va_G} {cI : ClassId} {ad : Nat → Nat} {K : wx_Z → Prop} {C35 : wx_Z → Int32 → Int32 → Int32 → Prop} {C45 : wx_Z → Int32 → Int32 → Int32 → Int32 → Int32 → Prop} (C : wx_C p s m args c cX9_votesNow 8 RX9 wsX9_votesNow D [(cI, .int)] wx_T0 A) (Rt : wx_Rv p l e rmX9_votesNow s m args below meth c cX9_votesNow D 14 (wM_E cI ad) ad A K Q) (hC35 : ∀ (σ : wx_Z) (x1 : Int32) (x2 : Int32) (x3 : Int32), C35 σ x1 x2 x3 → ∀ (H : Heap) (locs : List Loc) (ls : Array Slot), va_P D vwCl (wx_w 14 (wM_E cI ad) ad σ) H → va_D A (wx_w 14 (wM_E cI ad) ad σ) → va_S A s.heap H locs → lv_has ls 8 [(0, .ref (ad 0)), (1, .int x1), (2, .int x2), (3, .int x3)] → W p l e rmX9_votesNow s m args below meth c H locs 0 0 Q (F0 m 35 ls [])) (hC45 : ∀ (σ : wx_Z) (x1 : Int32) (x2 : Int32) (x3 : Int32) (x4 : Int32) (x5 : Int32), C45 σ x1 x2 x3 x4 x5 → ∀ (H : Heap) (locs : List Loc) (ls : Array Slot), va_P D vwCl (wx_w 14 (wM_E cI ad) ad σ) H → va_D A (wx_w 14 (wM_E cI ad) ad σ) → va_S A s.heap H locs → lv_has ls 8 [(0, .ref (ad 0)), (1, .int x1), (2, .int x2), (3, .int x3), (4, .int x4), (5, .int x5)] → W p l e rmX9_votesNow s m args below meth c H locs 0 0 Q (F0 m 45 ls [])) : ∀ (σ : wx_Z) (x1 : Int32) (x2 : Int32) (x3 : Int32) (x4 : Int32) (x5 : Int32) (x7 : Int32) (s1 : Int32) (s2 : Int32), wpX9_votesNow_156 K C35 C45 σ x1 x2 x3 x4 x5 x7 s1 s2 → ∀ (H : Heap) (locs : List Loc) (ls : Array Slot), va_P D vwCl (wx_w 14 (wM_E cI ad) ad σ) H → va_D A (wx_w 14 (wM_E cI ad) ad σ) → va_S A s.heap H locs → lv_has ls 8 [(0, .ref (ad 0)), (1, .int x1), (2, .int x2), (3, .int x3), (4, .int x4), (5, .int x5), (7, .int x7)] → W p l e rmX9_votesNow s m args below meth c H locs 0 0 Q (F0 m 156 ls [.int s2, .int s1, .ref (ad 0)]) := by
  obtain ⟨⟨hx, hb, hml, hown, hts⟩, hA, hK, hRO, hro⟩ := id C
  intro σ x1 x2 x3 x4 x5 x7 s1 s2 h H locs ls hP hD hS hl
  unfold wpX9_votesNow_156 at h
  refine lv_iadd hx hb dX9_votesNow_156 ?_
  refine wx_put C hP hD hS (q := 0) (ci := 9) (Nat.le_of_ble_eq_true rfl) (eM_0 cI ad _) (Cn := RX9) (T := TX9) (Nf := 27) rfl inX9_votesNow_X9 tyX9 tyX9_ok nmX9 8 (by decide) (List.mem_of_getElem? (i := 2) rfl) rfl rfl (Nat.le_of_ble_eq_true rfl) rfl dX9_votesNow_157 (fun H locs hP hD hS => ?_)
  generalize e_σ157 : wx_up σ 0 8 (s1 + s2) = σ157 at hP hD
  have h := h σ157 e_σ157.symm
  refine lv_aload_n hx hb dX9_votesNow_160 rfl (lv_at hl 0 rfl) ?_
  refine wx_get C hP (q := 0) (ci := 9) (Nat.le_of_ble_eq_true rfl) (eM_0 cI ad _) (Cn := RX9) (T := TX9) (Nf := 27) rfl inX9_votesNow_X9 9 (by decide) (List.mem_of_getElem? (i := 3) rfl) (v := .int (σ157 0 9)) rfl dX9_votesNow_161 ?_
  refine lv_iconst (v := (-1)) hx hb dX9_votesNow_164 (by decide) ?_
  refine lv_icmp_eq (tgt := 177) hx hb dX9_votesNow_165 (by decide) (fun c165 => ?_) (fun c165 => ?_)
  · have h := h.1 c165
    exact bX9_votesNow_177 C Rt hC35 hC45 σ157 x1 x2 x3 x4 x5 x7  h _ _ _ hP hD hS (lv_sub hl [0, 1, 2, 3, 4, 5, 6] rfl)
  · have h := h.2 c165
    refine lv_iload hx hb dX9_votesNow_168 (lv_at hl 6 rfl) ?_
    refine lv_aload_n hx hb dX9_votesNow_170 rfl (lv_at hl 0 rfl) ?_
    refine wx_get C hP (q := 0) (ci := 9) (Nat.le_of_ble_eq_true rfl) (eM_0 cI ad _) (Cn := RX9) (T := TX9) (Nf := 27) rfl inX9_votesNow_X9 10 (by decide) (List.mem_of_getElem? (i := 4) rfl) (v := .int (σ157 0 10)) rfl dX9_votesNow_171 ?_
    refine lv_icmp_ge (tgt := 194) hx hb dX9_votesNow_174 (by decide) (fun c174 => ?_) (fun c174 => ?_)
    · have h := h.1 c174
      obtain ⟨t194, e_t194⟩ : ∃ y : Int32, y = x5 + 1 := ⟨_, rfl⟩
      have h := h t194 e_t194
      refine lv_iinc (v := t194) (lv' := [(5, .int t194), (0, .ref (ad 0)), (1, .int x1), (2, .int x2), (3, .int x3), (4, .int x4), (7, .int x7)]) hx hb dX9_votesNow_194 hl (k := 5) rfl (by rw [e_t194]; rfl) (by decide) rfl (fun ls hl => ?_)
      refine lv_goto (tgt := 45) hx hb dX9_votesNow_197 (by decide) ?_
      exact hC45 σ157 x1 x2 x3 x4 t194  h _ _ _ hP hD hS (lv_sub hl [1, 2, 3, 4, 5, 0] rfl)
    · have h := h.2 c174
      exact bX9_votesNow_177 C Rt hC35 hC45 σ157 x1 x2 x3 x4 x5 x7  h _ _ _ hP hD hS (lv_sub hl [0, 1, 2, 3, 4, 5, 6] rfl)
set_option maxRecDepth 100000 in
set_option maxHeartbeats 4000000 in
theorem bX9_votesNow_138 {p : Program} {l : Launch} {e : Env} {s : State} {m : MethodId} {args : Array Value} {below : List Frame} {meth : Method} {c : Code} {A : Nat → Prop} {Q : State → Prop} {D : va_G} {cI : ClassId} {ad : Nat → Nat} {K : wx_Z → Prop} {C35 : wx_Z → Int32 → Int32 → Int32 → Prop} {C45 : wx_Z → Int32 → Int32 → Int32 → Int32 → Int32 → Prop} (C : wx_C p s m args c cX9_votesNow 8 RX9 wsX9_votesNow D [(cI, .int)] wx_T0 A) (Rt : wx_Rv p l e rmX9_votesNow s m args below meth c cX9_votesNow D 14 (wM_E cI ad) ad A K Q) (hC35 : ∀ (σ : wx_Z) (x1 : Int32) (x2 : Int32) (x3 : Int32), C35 σ x1 x2 x3 → ∀ (H : Heap) (locs : List Loc) (ls : Array Slot), va_P D vwCl (wx_w 14 (wM_E cI ad) ad σ) H → va_D A (wx_w 14 (wM_E cI ad) ad σ) → va_S A s.heap H locs → lv_has ls 8 [(0, .ref (ad 0)), (1, .int x1), (2, .int x2), (3, .int x3)] → W p l e rmX9_votesNow s m args below meth c H locs 0 0 Q (F0 m 35 ls [])) (hC45 : ∀ (σ : wx_Z) (x1 : Int32) (x2 : Int32) (x3 : Int32) (x4 : Int32) (x5 : Int32), C45 σ x1 x2 x3 x4 x5 → ∀ (H : Heap) (locs : List Loc) (ls : Array Slot), va_P D vwCl (wx_w 14 (wM_E cI ad) ad σ) H → va_D A (wx_w 14 (wM_E cI ad) ad σ) → va_S A s.heap H locs → lv_has ls 8 [(0, .ref (ad 0)), (1, .int x1), (2, .int x2), (3, .int x3), (4, .int x4), (5, .int x5)] → W p l e rmX9_votesNow s m args below meth c H locs 0 0 Q (F0 m 45 ls [])) : ∀ (σ : wx_Z) (x1 : Int32) (x2 : Int32) (x3 : Int32) (x5 : Int32) (x6 : Int32) (x7 : Int32) (s0 : Int32) (s1 : Int32), wpX9_votesNow_138 K C35 C45 σ x1 x2 x3 x5 x6 x7 s0 s1 → ∀ (H : Heap) (locs : List Loc) (ls : Array Slot), va_P D vwCl (wx_w 14 (wM_E cI ad) ad σ) H → va_D A (wx_w 14 (wM_E cI ad) ad σ) → va_S A s.heap H locs → lv_has ls 8 [(0, .ref (ad 0)), (1, .int x1), (2, .int x2), (3, .int x3), (5, .int x5), (6, .int x6), (7, .int x7)] → W p l e rmX9_votesNow s m args below meth c H locs 0 0 Q (F0 m 138 ls [.int s1, .int s0]) := by
  obtain ⟨⟨hx, hb, hml, hown, hts⟩, hA, hK, hRO, hro⟩ := id C
  intro σ x1 x2 x3 x5 x6 x7 s0 s1 h H locs ls hP hD hS hl
  unfold wpX9_votesNow_138 at h
  refine lv_ixor hx hb dX9_votesNow_138 ?_
  refine lv_topi (fun t139 e_t139 => ?_)
  have h := h t139 e_t139
  refine lv_istore (lv' := [(4, .int t139), (0, .ref (ad 0)), (1, .int x1), (2, .int x2), (3, .int x3), (5, .int x5), (6, .int x6), (7, .int x7)]) hx hb dX9_votesNow_139 hl (by decide) rfl (fun ls hl => ?_)
  refine lv_aload_n hx hb dX9_votesNow_141 rfl (lv_at hl 1 rfl) ?_
  refine lv_dup hx hb dX9_votesNow_142 rfl ?_
  refine wx_get C hP (q := 0) (ci := 9) (Nat.le_of_ble_eq_true rfl) (eM_0 cI ad _) (Cn := RX9) (T := TX9) (Nf := 27) rfl inX9_votesNow_X9 8 (by decide) (List.mem_of_getElem? (i := 2) rfl) (v := .int (σ 0 8)) rfl dX9_votesNow_143 ?_
  refine lv_iload hx hb dX9_votesNow_146 (lv_at hl 6 rfl) ?_
  refine lv_if_ne (tgt := 155) hx hb dX9_votesNow_148 (by decide) (fun c148 => ?_) (fun c148 => ?_)
  · have h := h.1 c148
    refine lv_iconst (v := 0) hx hb dX9_votesNow_155 (by decide) ?_
    exact bX9_votesNow_156 C Rt hC35 hC45 σ x1 x2 x3 t139 x5 x7 (σ 0 8) 0  h _ _ _ hP hD hS (lv_sub hl [1, 2, 3, 4, 0, 5, 7] rfl)
  · have h := h.2 c148
    refine lv_iconst (v := 1) hx hb dX9_votesNow_151 (by decide) ?_
    refine lv_goto (tgt := 156) hx hb dX9_votesNow_152 (by decide) ?_
    exact bX9_votesNow_156 C Rt hC35 hC45 σ x1 x2 x3 t139 x5 x7 (σ 0 8) 1  h _ _ _ hP hD hS (lv_sub hl [1, 2, 3, 4, 0, 5, 7] rfl)
set_option maxRecDepth 100000 in
set_option maxHeartbeats 4000000 in
theorem bX9_votesNow_112 {p : Program} {l : Launch} {e : Env} {s : State} {m : MethodId} {args : Array Value} {below : List Frame} {meth : Method} {c : Code} {A : Nat → Prop} {Q : State → Prop} {D : va_G} {cI : ClassId} {ad : Nat → Nat} {K : wx_Z → Prop} {C35 : wx_Z → Int32 → Int32 → Int32 → Prop} {C45 : wx_Z → Int32 → Int32 → Int32 → Int32 → Int32 → Prop} (C : wx_C p s m args c cX9_votesNow 8 RX9 wsX9_votesNow D [(cI, .int)] wx_T0 A) (Rt : wx_Rv p l e rmX9_votesNow s m args below meth c cX9_votesNow D 14 (wM_E cI ad) ad A K Q) (hC35 : ∀ (σ : wx_Z) (x1 : Int32) (x2 : Int32) (x3 : Int32), C35 σ x1 x2 x3 → ∀ (H : Heap) (locs : List Loc) (ls : Array Slot), va_P D vwCl (wx_w 14 (wM_E cI ad) ad σ) H → va_D A (wx_w 14 (wM_E cI ad) ad σ) → va_S A s.heap H locs → lv_has ls 8 [(0, .ref (ad 0)), (1, .int x1), (2, .int x2), (3, .int x3)] → W p l e rmX9_votesNow s m args below meth c H locs 0 0 Q (F0 m 35 ls [])) (hC45 : ∀ (σ : wx_Z) (x1 : Int32) (x2 : Int32) (x3 : Int32) (x4 : Int32) (x5 : Int32), C45 σ x1 x2 x3 x4 x5 → ∀ (H : Heap) (locs : List Loc) (ls : Array Slot), va_P D vwCl (wx_w 14 (wM_E cI ad) ad σ) H → va_D A (wx_w 14 (wM_E cI ad) ad σ) → va_S A s.heap H locs → lv_has ls 8 [(0, .ref (ad 0)), (1, .int x1), (2, .int x2), (3, .int x3), (4, .int x4), (5, .int x5)] → W p l e rmX9_votesNow s m args below meth c H locs 0 0 Q (F0 m 45 ls [])) : ∀ (σ : wx_Z) (x1 : Int32) (x2 : Int32) (x3 : Int32) (x4 : Int32) (x5 : Int32) (x6 : Int32) (x7 : Int32) (s1 : Int32) (s2 : Int32), wpX9_votesNow_112 K C35 C45 σ x1 x2 x3 x4 x5 x6 x7 s1 s2 → ∀ (H : Heap) (locs : List Loc) (ls : Array Slot), va_P D vwCl (wx_w 14 (wM_E cI ad) ad σ) H → va_D A (wx_w 14 (wM_E cI ad) ad σ) → va_S A s.heap H locs → lv_has ls 8 [(0, .ref (ad 0)), (1, .int x1), (2, .int x2), (3, .int x3), (4, .int x4), (5, .int x5), (6, .int x6), (7, .int x7)] → W p l e rmX9_votesNow s m args below meth c H locs 0 0 Q (F0 m 112 ls [.int s2, .int s1, .ref (ad 0)]) := by
  obtain ⟨⟨hx, hb, hml, hown, hts⟩, hA, hK, hRO, hro⟩ := id C
  intro σ x1 x2 x3 x4 x5 x6 x7 s1 s2 h H locs ls hP hD hS hl
  unfold wpX9_votesNow_112 at h
  refine lv_ior hx hb dX9_votesNow_112 ?_
  refine wx_put C hP hD hS (q := 0) (ci := 9) (Nat.le_of_ble_eq_true rfl) (eM_0 cI ad _) (Cn := RX9) (T := TX9) (Nf := 27) rfl inX9_votesNow_X9 tyX9 tyX9_ok nmX9 6 (by decide) (List.mem_of_getElem? (i := 1) rfl) rfl rfl (Nat.le_of_ble_eq_true rfl) rfl dX9_votesNow_113 (fun H locs hP hD hS => ?_)
  generalize e_σ113 : wx_up σ 0 6 (s1 ||| s2) = σ113 at hP hD
  have h := h σ113 e_σ113.symm
  refine lv_iload hx hb dX9_votesNow_116 (lv_at hl 4 rfl) ?_
  refine lv_iload hx hb dX9_votesNow_118 (lv_at hl 6 rfl) ?_
  refine lv_if_le (tgt := 137) hx hb dX9_votesNow_120 (by decide) (fun c120 => ?_) (fun c120 => ?_)
  · have h := h.1 c120
    refine lv_iconst (v := 0) hx hb dX9_votesNow_137 (by decide) ?_
    exact bX9_votesNow_138 C Rt hC35 hC45 σ113 x1 x2 x3 x5 x6 x7 x4 0  h _ _ _ hP hD hS (lv_sub hl [0, 1, 2, 3, 5, 6, 7] rfl)
  · have h := h.2 c120
    refine lv_aload_n hx hb dX9_votesNow_123 rfl (lv_at hl 0 rfl) ?_
    refine lv_aload_n hx hb dX9_votesNow_124 rfl (lv_at hl 0 rfl) ?_
    refine wx_get C hP (q := 0) (ci := 9) (Nat.le_of_ble_eq_true rfl) (eM_0 cI ad _) (Cn := RX9) (T := TX9) (Nf := 27) rfl inX9_votesNow_X9 4 (by decide) (List.mem_of_getElem? (i := 5) rfl) (v := .ref (ad 4)) rfl dX9_votesNow_125 ?_
    refine lv_iload hx hb dX9_votesNow_128 (lv_at hl 5 rfl) ?_
    refine wx_ild C hP (q := 4) (Nat.le_of_ble_eq_true rfl) (fun _ => rfl) 0 rfl h.1 dX9_votesNow_130 ?_
    have h := h.2
    refine wx_ci C hD hS (va_runV (As := [.int (σ113 4 (Int32.toNatClampNeg x5))]) (rest := [.int x4]) C.1 (mtX9_wordOf (l := l) (D := D) (sz := H.size) h) (cwV 1 hts gX9_votesNow_X9_wordOf rfl rfl rfl nyX9_wordOf ⟨Nat.le_of_ble_eq_true rfl, Nat.le_of_ble_eq_true rfl⟩) (wx_pv C hP hD hS (q := 0) (ci := 9) (Nat.le_of_ble_eq_true rfl) (eM_0 cI ad _) rfl) rfl rfl hl.1 rfl (lv_room (Nat.le_of_ble_eq_true rfl)) dX9_votesNow_131 ⟨Nat.zero_le _, Nat.zero_le _⟩) (fun r131 σ131 H locs h hP hD hS => ?_)
    refine lv_goto (tgt := 138) hx hb dX9_votesNow_134 (by decide) ?_
    exact bX9_votesNow_138 C Rt hC35 hC45 σ131 x1 x2 x3 x5 x6 x7 x4 r131  h _ _ _ hP hD hS (lv_sub hl [0, 1, 2, 3, 5, 6, 7] rfl)
set_option maxRecDepth 100000 in
set_option maxHeartbeats 4000000 in
theorem bX9_votesNow_92 {p : Program} {l : Launch} {e : Env} {s : State} {m : MethodId} {args : Array Value} {below : List Frame} {meth : Method} {c : Code} {A : Nat → Prop} {Q : State → Prop} {D : va_G} {cI : ClassId} {ad : Nat → Nat} {K : wx_Z → Prop} {C35 : wx_Z → Int32 → Int32 → Int32 → Prop} {C45 : wx_Z → Int32 → Int32 → Int32 → Int32 → Int32 → Prop} (C : wx_C p s m args c cX9_votesNow 8 RX9 wsX9_votesNow D [(cI, .int)] wx_T0 A) (Rt : wx_Rv p l e rmX9_votesNow s m args below meth c cX9_votesNow D 14 (wM_E cI ad) ad A K Q) (hC35 : ∀ (σ : wx_Z) (x1 : Int32) (x2 : Int32) (x3 : Int32), C35 σ x1 x2 x3 → ∀ (H : Heap) (locs : List Loc) (ls : Array Slot), va_P D vwCl (wx_w 14 (wM_E cI ad) ad σ) H → va_D A (wx_w 14 (wM_E cI ad) ad σ) → va_S A s.heap H locs → lv_has ls 8 [(0, .ref (ad 0)), (1, .int x1), (2, .int x2), (3, .int x3)] → W p l e rmX9_votesNow s m args below meth c H locs 0 0 Q (F0 m 35 ls [])) (hC45 : ∀ (σ : wx_Z) (x1 : Int32) (x2 : Int32) (x3 : Int32) (x4 : Int32) (x5 : Int32), C45 σ x1 x2 x3 x4 x5 → ∀ (H : Heap) (locs : List Loc) (ls : Array Slot), va_P D vwCl (wx_w 14 (wM_E cI ad) ad σ) H → va_D A (wx_w 14 (wM_E cI ad) ad σ) → va_S A s.heap H locs → lv_has ls 8 [(0, .ref (ad 0)), (1, .int x1), (2, .int x2), (3, .int x3), (4, .int x4), (5, .int x5)] → W p l e rmX9_votesNow s m args below meth c H locs 0 0 Q (F0 m 45 ls [])) : ∀ (σ : wx_Z) (x1 : Int32) (x2 : Int32) (x3 : Int32) (x4 : Int32) (x5 : Int32) (x6 : Int32) (s0 : Int32), wpX9_votesNow_92 K C35 C45 σ x1 x2 x3 x4 x5 x6 s0 → ∀ (H : Heap) (locs : List Loc) (ls : Array Slot), va_P D vwCl (wx_w 14 (wM_E cI ad) ad σ) H → va_D A (wx_w 14 (wM_E cI ad) ad σ) → va_S A s.heap H locs → lv_has ls 8 [(0, .ref (ad 0)), (1, .int x1), (2, .int x2), (3, .int x3), (4, .int x4), (5, .int x5), (6, .int x6)] → W p l e rmX9_votesNow s m args below meth c H locs 0 0 Q (F0 m 92 ls [.int s0]) := by
  obtain ⟨⟨hx, hb, hml, hown, hts⟩, hA, hK, hRO, hro⟩ := id C
  intro σ x1 x2 x3 x4 x5 x6 s0 h H locs ls hP hD hS hl
  unfold wpX9_votesNow_92 at h
  refine lv_istore (lv' := [(7, .int s0), (0, .ref (ad 0)), (1, .int x1), (2, .int x2), (3, .int x3), (4, .int x4), (5, .int x5), (6, .int x6)]) hx hb dX9_votesNow_92 hl (by decide) rfl (fun ls hl => ?_)
  refine lv_aload_n hx hb dX9_votesNow_94 rfl (lv_at hl 1 rfl) ?_
  refine lv_dup hx hb dX9_votesNow_95 rfl ?_
  refine wx_get C hP (q := 0) (ci := 9) (Nat.le_of_ble_eq_true rfl) (eM_0 cI ad _) (Cn := RX9) (T := TX9) (Nf := 27) rfl inX9_votesNow_X9 6 (by decide) (List.mem_of_getElem? (i := 1) rfl) (v := .int (σ 0 6)) rfl dX9_votesNow_96 ?_
  refine lv_iload hx hb dX9_votesNow_99 (lv_at hl 7 rfl) ?_
  refine lv_if_le (tgt := 111) hx hb dX9_votesNow_101 (by decide) (fun c101 => ?_) (fun c101 => ?_)
  · have h := h.1 c101
    refine lv_iconst (v := 0) hx hb dX9_votesNow_111 (by decide) ?_
    exact bX9_votesNow_112 C Rt hC35 hC45 σ x1 x2 x3 x4 x5 x6 s0 (σ 0 6) 0  h _ _ _ hP hD hS (lv_sub hl [1, 2, 3, 4, 5, 6, 7, 0] rfl)
  · have h := h.2 c101
    refine lv_iconst (v := 1) hx hb dX9_votesNow_104 (by decide) ?_
    refine lv_iload hx hb dX9_votesNow_105 (lv_at hl 6 rfl) ?_
    refine lv_ishl hx hb dX9_votesNow_107 ?_
    refine lv_goto (tgt := 112) hx hb dX9_votesNow_108 (by decide) ?_
    exact bX9_votesNow_112 C Rt hC35 hC45 σ x1 x2 x3 x4 x5 x6 s0 (σ 0 6) (1 <<< (x5 &&& 31))  h _ _ _ hP hD hS (lv_sub hl [1, 2, 3, 4, 5, 6, 7, 0] rfl)
set_option maxRecDepth 100000 in
set_option maxHeartbeats 4000000 in
theorem bX9_votesNow_45 {p : Program} {l : Launch} {e : Env} {s : State} {m : MethodId} {args : Array Value} {below : List Frame} {meth : Method} {c : Code} {A : Nat → Prop} {Q : State → Prop} {D : va_G} {cI : ClassId} {ad : Nat → Nat} {K : wx_Z → Prop} {C35 : wx_Z → Int32 → Int32 → Int32 → Prop} (C : wx_C p s m args c cX9_votesNow 8 RX9 wsX9_votesNow D [(cI, .int)] wx_T0 A) (Rt : wx_Rv p l e rmX9_votesNow s m args below meth c cX9_votesNow D 14 (wM_E cI ad) ad A K Q) (hC35 : ∀ (σ : wx_Z) (x1 : Int32) (x2 : Int32) (x3 : Int32), C35 σ x1 x2 x3 → ∀ (H : Heap) (locs : List Loc) (ls : Array Slot), va_P D vwCl (wx_w 14 (wM_E cI ad) ad σ) H → va_D A (wx_w 14 (wM_E cI ad) ad σ) → va_S A s.heap H locs → lv_has ls 8 [(0, .ref (ad 0)), (1, .int x1), (2, .int x2), (3, .int x3)] → W p l e rmX9_votesNow s m args below meth c H locs 0 0 Q (F0 m 35 ls [])) : ∀ (n : Nat) (σ : wx_Z) (x1 : Int32) (x2 : Int32) (x3 : Int32) (x4 : Int32) (x5 : Int32), wpX9_votesNow_45 K C35 n σ x1 x2 x3 x4 x5 → ∀ (H : Heap) (locs : List Loc) (ls : Array Slot), va_P D vwCl (wx_w 14 (wM_E cI ad) ad σ) H → va_D A (wx_w 14 (wM_E cI ad) ad σ) → va_S A s.heap H locs → lv_has ls 8 [(0, .ref (ad 0)), (1, .int x1), (2, .int x2), (3, .int x3), (4, .int x4), (5, .int x5)] → W p l e rmX9_votesNow s m args below meth c H locs 0 0 Q (F0 m 45 ls []) := by
  obtain ⟨⟨hx, hb, hml, hown, hts⟩, hA, hK, hRO, hro⟩ := id C
  intro n
  induction n with
  | zero => intro σ x1 x2 x3 x4 x5 h; exact h.elim
  | succ n ih =>
    intro σ x1 x2 x3 x4 x5 h H locs ls hP hD hS hl
    unfold wpX9_votesNow_45 at h
    refine lv_iload hx hb dX9_votesNow_45 (lv_at hl 5 rfl) ?_
    refine lv_iload_n hx hb dX9_votesNow_47 rfl (lv_at hl 2 rfl) ?_
    refine lv_icmp_ge (tgt := 200) hx hb dX9_votesNow_48 (by decide) (fun c48 => ?_) (fun c48 => ?_)
    · have h := h.1 c48
      refine lv_iload_n hx hb dX9_votesNow_200 rfl (lv_at hl 1 rfl) ?_
      refine lv_iload hx hb dX9_votesNow_201 (lv_at hl 4 rfl) ?_
      refine lv_ixor hx hb dX9_votesNow_203 ?_
      refine lv_topi (fun t204 e_t204 => ?_)
      have h := h t204 e_t204
      refine lv_istore_n (lv' := [(1, .int t204), (0, .ref (ad 0)), (2, .int x2), (3, .int x3), (4, .int x4), (5, .int x5)]) hx hb dX9_votesNow_204 rfl hl (by decide) rfl (fun ls hl => ?_)
      obtain ⟨t205, e_t205⟩ : ∃ y : Int32, y = x3 + (-1) := ⟨_, rfl⟩
      have h := h t205 e_t205
      refine lv_iinc (v := t205) (lv' := [(3, .int t205), (1, .int t204), (0, .ref (ad 0)), (2, .int x2), (4, .int x4), (5, .int x5)]) hx hb dX9_votesNow_205 hl (k := 3) rfl (by rw [e_t205]; rfl) (by decide) rfl (fun ls hl => ?_)
      refine lv_goto (tgt := 35) hx hb dX9_votesNow_208 (by decide) ?_
      exact hC35 σ t204 x2 t205  h _ _ _ hP hD hS (lv_sub hl [2, 1, 3, 0] rfl)
    · have h := h.2 c48
      refine lv_aload_n hx hb dX9_votesNow_51 rfl (lv_at hl 0 rfl) ?_
      refine wx_get C hP (q := 0) (ci := 9) (Nat.le_of_ble_eq_true rfl) (eM_0 cI ad _) (Cn := RX9) (T := TX9) (Nf := 27) rfl inX9_votesNow_X9 4 (by decide) (List.mem_of_getElem? (i := 5) rfl) (v := .ref (ad 4)) rfl dX9_votesNow_52 ?_
      refine lv_iload hx hb dX9_votesNow_55 (lv_at hl 5 rfl) ?_
      refine wx_ild C hP (q := 4) (Nat.le_of_ble_eq_true rfl) (fun _ => rfl) 0 rfl h.1 dX9_votesNow_57 ?_
      have h := h.2
      refine wx_ci C hD hS (va_runS (As := [.int (σ 4 (Int32.toNatClampNeg x5))]) (rest := []) C.1 (mtX9_bits (l := l) (D := D) (sz := H.size) h) (va_cwS 1 hts gX9_votesNow_X9_bits rfl rfl rfl nyX9_bits.2 ⟨Nat.le_of_ble_eq_true rfl, Nat.le_of_ble_eq_true rfl⟩) (wx_ps C hP hD hS) rfl rfl hl.1 rfl (lv_room (Nat.le_of_ble_eq_true rfl)) dX9_votesNow_58 ⟨Nat.zero_le _, Nat.zero_le _⟩) (fun r58 σ58 H locs h hP hD hS => ?_)
      refine lv_iload_n hx hb dX9_votesNow_61 rfl (lv_at hl 3 rfl) ?_
      refine lv_icmp_ne (tgt := 194) hx hb dX9_votesNow_62 (by decide) (fun c62 => ?_) (fun c62 => ?_)
      · have h := h.1 c62
        obtain ⟨t194, e_t194⟩ : ∃ y : Int32, y = x5 + 1 := ⟨_, rfl⟩
        have h := h t194 e_t194
        refine lv_iinc (v := t194) (lv' := [(5, .int t194), (0, .ref (ad 0)), (1, .int x1), (2, .int x2), (3, .int x3), (4, .int x4)]) hx hb dX9_votesNow_194 hl (k := 5) rfl (by rw [e_t194]; rfl) (by decide) rfl (fun ls hl => ?_)
        refine lv_goto (tgt := 45) hx hb dX9_votesNow_197 (by decide) ?_
        exact ih σ58 x1 x2 x3 x4 t194  h _ _ _ hP hD hS (lv_sub hl [1, 2, 3, 4, 5, 0] rfl)
      · have h := h.2 c62
        refine lv_aload_n hx hb dX9_votesNow_65 rfl (lv_at hl 0 rfl) ?_
        refine lv_iload_n hx hb dX9_votesNow_66 rfl (lv_at hl 1 rfl) ?_
        refine lv_aload_n hx hb dX9_votesNow_67 rfl (lv_at hl 0 rfl) ?_
        refine wx_get C hP (q := 0) (ci := 9) (Nat.le_of_ble_eq_true rfl) (eM_0 cI ad _) (Cn := RX9) (T := TX9) (Nf := 27) rfl inX9_votesNow_X9 4 (by decide) (List.mem_of_getElem? (i := 5) rfl) (v := .ref (ad 4)) rfl dX9_votesNow_68 ?_
        refine lv_iload hx hb dX9_votesNow_71 (lv_at hl 5 rfl) ?_
        refine wx_ild C hP (q := 4) (Nat.le_of_ble_eq_true rfl) (fun _ => rfl) 0 rfl h.1 dX9_votesNow_73 ?_
        have h := h.2
        refine wx_ci C hD hS (va_runV (As := [.int x1, .int (σ58 4 (Int32.toNatClampNeg x5))]) (rest := []) C.1 (mtX9_voted (l := l) (D := D) (sz := H.size) h) (cwV 2 hts gX9_votesNow_X9_voted rfl rfl rfl nyX9_voted ⟨Nat.le_of_ble_eq_true rfl, Nat.le_of_ble_eq_true rfl⟩) (wx_pv C hP hD hS (q := 0) (ci := 9) (Nat.le_of_ble_eq_true rfl) (eM_0 cI ad _) rfl) rfl rfl hl.1 rfl (lv_room (Nat.le_of_ble_eq_true rfl)) dX9_votesNow_74 ⟨Nat.zero_le _, Nat.zero_le _⟩) (fun r74 σ74 H locs h hP hD hS => ?_)
        refine lv_istore (lv' := [(6, .int r74), (0, .ref (ad 0)), (1, .int x1), (2, .int x2), (3, .int x3), (4, .int x4), (5, .int x5)]) hx hb dX9_votesNow_77 hl (by decide) rfl (fun ls hl => ?_)
        refine lv_iload hx hb dX9_votesNow_79 (lv_at hl 0 rfl) ?_
        refine lv_if_ge (tgt := 90) hx hb dX9_votesNow_81 (by decide) (fun c81 => ?_) (fun c81 => ?_)
        · have h := h.1 c81
          refine lv_iload hx hb dX9_votesNow_90 (lv_at hl 0 rfl) ?_
          exact bX9_votesNow_92 C Rt hC35 ih σ74 x1 x2 x3 x4 x5 r74 r74  h _ _ _ hP hD hS (lv_sub hl [1, 2, 3, 4, 5, 6, 0] rfl)
        · have h := h.2 c81
          refine lv_iload hx hb dX9_votesNow_84 (lv_at hl 0 rfl) ?_
          refine lv_ineg hx hb dX9_votesNow_86 ?_
          refine lv_goto (tgt := 92) hx hb dX9_votesNow_87 (by decide) ?_
          exact bX9_votesNow_92 C Rt hC35 ih σ74 x1 x2 x3 x4 x5 r74 (-r74)  h _ _ _ hP hD hS (lv_sub hl [1, 2, 3, 4, 5, 6, 0] rfl)
set_option maxRecDepth 100000 in
set_option maxHeartbeats 4000000 in
theorem bX9_votesNow_35 {p : Program} {l : Launch} {e : Env} {s : State} {m : MethodId} {args : Array Value} {below : List Frame} {meth : Method} {c : Code} {A : Nat → Prop} {Q : State → Prop} {D : va_G} {cI : ClassId} {ad : Nat → Nat} {K : wx_Z → Prop} (C : wx_C p s m args c cX9_votesNow 8 RX9 wsX9_votesNow D [(cI, .int)] wx_T0 A) (Rt : wx_Rv p l e rmX9_votesNow s m args below meth c cX9_votesNow D 14 (wM_E cI ad) ad A K Q) : ∀ (n : Nat) (σ : wx_Z) (x1 : Int32) (x2 : Int32) (x3 : Int32), wpX9_votesNow_35 K n σ x1 x2 x3 → ∀ (H : Heap) (locs : List Loc) (ls : Array Slot), va_P D vwCl (wx_w 14 (wM_E cI ad) ad σ) H → va_D A (wx_w 14 (wM_E cI ad) ad σ) → va_S A s.heap H locs → lv_has ls 8 [(0, .ref (ad 0)), (1, .int x1), (2, .int x2), (3, .int x3)] → W p l e rmX9_votesNow s m args below meth c H locs 0 0 Q (F0 m 35 ls []) := by
  obtain ⟨⟨hx, hb, hml, hown, hts⟩, hA, hK, hRO, hro⟩ := id C
  intro n
  induction n with
  | zero => intro σ x1 x2 x3 h; exact h.elim
  | succ n ih =>
    intro σ x1 x2 x3 h H locs ls hP hD hS hl
    unfold wpX9_votesNow_35 at h
    refine lv_iload_n hx hb dX9_votesNow_35 rfl (lv_at hl 3 rfl) ?_
    refine lv_if_lt (tgt := 211) hx hb dX9_votesNow_36 (by decide) (fun c36 => ?_) (fun c36 => ?_)
    · have h := h.1 c36
      refine lv_aload_n hx hb dX9_votesNow_211 rfl (lv_at hl 0 rfl) ?_
      refine lv_aload_n hx hb dX9_votesNow_212 rfl (lv_at hl 0 rfl) ?_
      refine lv_aload_n hx hb dX9_votesNow_213 rfl (lv_at hl 0 rfl) ?_
      refine wx_get C hP (q := 0) (ci := 9) (Nat.le_of_ble_eq_true rfl) (eM_0 cI ad _) (Cn := RX9) (T := TX9) (Nf := 27) rfl inX9_votesNow_X9 6 (by decide) (List.mem_of_getElem? (i := 1) rfl) (v := .int (σ 0 6)) rfl dX9_votesNow_214 ?_
      refine lv_iload_n hx hb dX9_votesNow_217 rfl (lv_at hl 2 rfl) ?_
      refine wx_ci C hD hS (va_runV (As := [.int (σ 0 6), .int x2]) (rest := [.ref (ad 0)]) C.1 (mtX9_sumOf (l := l) (D := D) (sz := H.size) h) (cwV 2 hts gX9_votesNow_X9_sumOf rfl rfl rfl nyX9_sumOf ⟨Nat.le_of_ble_eq_true rfl, Nat.le_of_ble_eq_true rfl⟩) (wx_pv C hP hD hS (q := 0) (ci := 9) (Nat.le_of_ble_eq_true rfl) (eM_0 cI ad _) rfl) rfl rfl hl.1 rfl (lv_room (Nat.le_of_ble_eq_true rfl)) dX9_votesNow_218 ⟨Nat.zero_le _, Nat.zero_le _⟩) (fun r218 σ218 H locs h hP hD hS => ?_)
      refine wx_put C hP hD hS (q := 0) (ci := 9) (Nat.le_of_ble_eq_true rfl) (eM_0 cI ad _) (Cn := RX9) (T := TX9) (Nf := 27) rfl inX9_votesNow_X9 tyX9 tyX9_ok nmX9 7 (by decide) (List.mem_of_getElem? (i := 6) rfl) rfl rfl (Nat.le_of_ble_eq_true rfl) rfl dX9_votesNow_221 (fun H locs hP hD hS => ?_)
      generalize e_σ221 : wx_up σ218 0 7 r218 = σ221 at hP hD
      have h := h σ221 e_σ221.symm
      exact Rt _ _ _ _ _ h hP hD hS dX9_votesNow_224
    · have h := h.2 c36
      refine lv_iconst (v := 0) hx hb dX9_votesNow_39 (by decide) ?_
      refine lv_istore (lv' := [(4, .int 0), (0, .ref (ad 0)), (1, .int x1), (2, .int x2), (3, .int x3)]) hx hb dX9_votesNow_40 hl (by decide) rfl (fun ls hl => ?_)
      refine lv_iconst (v := 0) hx hb dX9_votesNow_42 (by decide) ?_
      refine lv_istore (lv' := [(5, .int 0), (4, .int 0), (0, .ref (ad 0)), (1, .int x1), (2, .int x2), (3, .int x3)]) hx hb dX9_votesNow_43 hl (by decide) rfl (fun ls hl => ?_)
      obtain ⟨n45, h⟩ := h
      exact bX9_votesNow_45 C Rt ih n45 σ x1 x2 x3 0 0  h _ _ _ hP hD hS (lv_sub hl [2, 3, 4, 5, 1, 0] rfl)
set_option maxRecDepth 100000 in
set_option maxHeartbeats 4000000 in
theorem mtX9_votesNow {l : Launch} {D : va_G} {cI : ClassId} {ad : Nat → Nat} {sz : Nat} {σ : wx_Z} {K : wx_Z → Prop} (h : wpX9_votesNow σ K) : Met l yX9_votesNow wsX9_votesNow rmX9_votesNow (wx_Pre D [(cI, .int)] wx_T0 14 (wM_E cI ad) ad σ sz [.ref (ad 0)]) (va_Qv K (wx_B D [(cI, .int)] 14 (wM_E cI ad) ad (va_A (wx_w 14 (wM_E cI ad) ad σ) sz)) (va_A (wx_w 14 (wM_E cI ad) ad σ) sz)) 0 0 (va_A (wx_w 14 (wM_E cI ad) ad σ) sz) := by
  unfold wpX9_votesNow at h
  refine wx_metv (cc := cX9_votesNow) (maxL := 8) (own := RX9) rfl (by decide) rfl (Nat.le_of_ble_eq_true rfl) wx_T0_ok ?_
  intro p e s m args below meth c A Q ls C Rt hP hD hS hl
  obtain ⟨⟨hx, hb, hml, hown, hts⟩, hA, hK, hRO, hro⟩ := id C
  have hl : lv_has ls 8 [(0, .ref (ad 0))] := hl
  obtain ⟨H, eH⟩ : ∃ z, z = s.heap := ⟨_, rfl⟩
  obtain ⟨locs, eL⟩ : ∃ z : List Loc, z = [] := ⟨_, rfl⟩
  rw [← eH] at hP
  have hS : va_S A s.heap H locs := by rw [eH, eL]; exact hS
  have goal : W p l e rmX9_votesNow s m args below meth c H locs 0 0 Q (F0 m 0 ls []) := by
    refine lv_aload_n hx hb dX9_votesNow_0 rfl (lv_at hl 0 rfl) ?_
    refine wx_ci C hD hS (va_runV (As := []) (rest := []) C.1 (mtX9_theWord (l := l) (D := D) (sz := H.size) h) (cwV 0 hts gX9_votesNow_X9_theWord rfl rfl rfl nyX9_theWord ⟨Nat.le_of_ble_eq_true rfl, Nat.le_of_ble_eq_true rfl⟩) (wx_pv C hP hD hS (q := 0) (ci := 9) (Nat.le_of_ble_eq_true rfl) (eM_0 cI ad _) rfl) rfl rfl hl.1 rfl (lv_room (Nat.le_of_ble_eq_true rfl)) dX9_votesNow_1 ⟨Nat.zero_le _, Nat.zero_le _⟩) (fun r1 σ1 H locs h hP hD hS => ?_)
    refine lv_istore_n (lv' := [(1, .int r1), (0, .ref (ad 0))]) hx hb dX9_votesNow_4 rfl hl (by decide) rfl (fun ls hl => ?_)
    refine lv_aload_n hx hb dX9_votesNow_5 rfl (lv_at hl 1 rfl) ?_
    refine wx_ci C hD hS (va_runV (As := []) (rest := []) C.1 (mtX9_many (l := l) (D := D) (sz := H.size) h) (cwV 0 hts gX9_votesNow_X9_many rfl rfl rfl nyX9_many ⟨Nat.le_of_ble_eq_true rfl, Nat.le_of_ble_eq_true rfl⟩) (wx_pv C hP hD hS (q := 0) (ci := 9) (Nat.le_of_ble_eq_true rfl) (eM_0 cI ad _) rfl) rfl rfl hl.1 rfl (lv_room (Nat.le_of_ble_eq_true rfl)) dX9_votesNow_6 ⟨Nat.zero_le _, Nat.zero_le _⟩) (fun r6 σ6 H locs h hP hD hS => ?_)
    refine lv_istore_n (lv' := [(2, .int r6), (1, .int r1), (0, .ref (ad 0))]) hx hb dX9_votesNow_9 rfl hl (by decide) rfl (fun ls hl => ?_)
    refine lv_aload_n hx hb dX9_votesNow_10 rfl (lv_at hl 2 rfl) ?_
    refine lv_iconst (v := 0) hx hb dX9_votesNow_11 (by decide) ?_
    refine wx_put C hP hD hS (q := 0) (ci := 9) (Nat.le_of_ble_eq_true rfl) (eM_0 cI ad _) (Cn := RX9) (T := TX9) (Nf := 27) rfl inX9_votesNow_X9 tyX9 tyX9_ok nmX9 6 (by decide) (List.mem_of_getElem? (i := 1) rfl) rfl rfl (Nat.le_of_ble_eq_true rfl) rfl dX9_votesNow_12 (fun H locs hP hD hS => ?_)
    generalize e_σ12 : wx_up σ6 0 6 0 = σ12 at hP hD
    have h := h σ12 e_σ12.symm
    refine lv_aload_n hx hb dX9_votesNow_15 rfl (lv_at hl 2 rfl) ?_
    refine lv_iconst (v := 0) hx hb dX9_votesNow_16 (by decide) ?_
    refine wx_put C hP hD hS (q := 0) (ci := 9) (Nat.le_of_ble_eq_true rfl) (eM_0 cI ad _) (Cn := RX9) (T := TX9) (Nf := 27) rfl inX9_votesNow_X9 tyX9 tyX9_ok nmX9 8 (by decide) (List.mem_of_getElem? (i := 2) rfl) rfl rfl (Nat.le_of_ble_eq_true rfl) rfl dX9_votesNow_17 (fun H locs hP hD hS => ?_)
    generalize e_σ17 : wx_up σ12 0 8 0 = σ17 at hP hD
    have h := h σ17 e_σ17.symm
    refine lv_aload_n hx hb dX9_votesNow_20 rfl (lv_at hl 2 rfl) ?_
    refine lv_iconst (v := (-1)) hx hb dX9_votesNow_21 (by decide) ?_
    refine wx_put C hP hD hS (q := 0) (ci := 9) (Nat.le_of_ble_eq_true rfl) (eM_0 cI ad _) (Cn := RX9) (T := TX9) (Nf := 27) rfl inX9_votesNow_X9 tyX9 tyX9_ok nmX9 9 (by decide) (List.mem_of_getElem? (i := 3) rfl) rfl rfl (Nat.le_of_ble_eq_true rfl) rfl dX9_votesNow_22 (fun H locs hP hD hS => ?_)
    generalize e_σ22 : wx_up σ17 0 9 (-1) = σ22 at hP hD
    have h := h σ22 e_σ22.symm
    refine lv_aload_n hx hb dX9_votesNow_25 rfl (lv_at hl 2 rfl) ?_
    refine lv_iconst (v := 0) hx hb dX9_votesNow_26 (by decide) ?_
    refine wx_put C hP hD hS (q := 0) (ci := 9) (Nat.le_of_ble_eq_true rfl) (eM_0 cI ad _) (Cn := RX9) (T := TX9) (Nf := 27) rfl inX9_votesNow_X9 tyX9 tyX9_ok nmX9 10 (by decide) (List.mem_of_getElem? (i := 4) rfl) rfl rfl (Nat.le_of_ble_eq_true rfl) rfl dX9_votesNow_27 (fun H locs hP hD hS => ?_)
    generalize e_σ27 : wx_up σ22 0 10 0 = σ27 at hP hD
    have h := h σ27 e_σ27.symm
    refine lv_aload_n hx hb dX9_votesNow_30 rfl (lv_at hl 2 rfl) ?_
    refine wx_ci C hD hS (va_runV (As := []) (rest := []) C.1 (mtX9_order (l := l) (D := D) (sz := H.size) h) (cwV 0 hts gX9_votesNow_X9_order rfl rfl rfl nyX9_order ⟨Nat.le_of_ble_eq_true rfl, Nat.le_of_ble_eq_true rfl⟩) (wx_pv C hP hD hS (q := 0) (ci := 9) (Nat.le_of_ble_eq_true rfl) (eM_0 cI ad _) rfl) rfl rfl hl.1 rfl (lv_room (Nat.le_of_ble_eq_true rfl)) dX9_votesNow_31 ⟨Nat.zero_le _, Nat.zero_le _⟩) (fun r31 σ31 H locs h hP hD hS => ?_)
    refine lv_istore_n (lv' := [(3, .int r31), (2, .int r6), (1, .int r1), (0, .ref (ad 0))]) hx hb dX9_votesNow_34 rfl hl (by decide) rfl (fun ls hl => ?_)
    obtain ⟨n35, h⟩ := h
    exact bX9_votesNow_35 C Rt n35 σ31 r1 r6 r31  h _ _ _ hP hD hS (lv_sub hl [3, 2, 1, 0] rfl)
  rw [eH, eL] at goal
  exact goal
abbrev rmX9_votes : Room := { frames := 6, cells := 0, slots := 0, locals := 154 }
set_option maxRecDepth 20000 in
theorem inX9_votes_X9 : ∀ w ∈ u_ws RX9 TX9 27, w ∈ wsX9_votes := by decide +kernel
theorem nyX9_votesNow : yX9_votesNow.cls = RX9 ∧ yX9_votesNow.cls ≠ "java/lang/invoke/MethodHandle" ∧ yX9_votesNow.cls ≠ "java/lang/invoke/VarHandle" ∧ (parseMethodDescriptor yX9_votesNow.desc).map (fun d => d.parameters.length) = some 0 := by decide +kernel
set_option maxRecDepth 100000 in
set_option maxHeartbeats 4000000 in
theorem mtX9_votes {l : Launch} {D : va_G} {cI : ClassId} {ad : Nat → Nat} {sz : Nat} {σ : wx_Z} {K : Int32 → wx_Z → Prop} (h : wpX9_votes σ K) : Met l yX9_votes wsX9_votes rmX9_votes (wx_Pre D [(cI, .int)] wx_T0 14 (wM_E cI ad) ad σ sz [.ref (ad 0)]) (va_Qi K (wx_B D [(cI, .int)] 14 (wM_E cI ad) ad (va_A (wx_w 14 (wM_E cI ad) ad σ) sz)) (va_A (wx_w 14 (wM_E cI ad) ad σ) sz)) 0 0 (va_A (wx_w 14 (wM_E cI ad) ad σ) sz) := by
  unfold wpX9_votes at h
  refine wx_meti (cc := cX9_votes) (maxL := 1) (own := RX9) rfl (by decide) rfl (Nat.le_of_ble_eq_true rfl) wx_T0_ok ?_
  intro p e s m args below meth c A Q ls C Rt hP hD hS hl
  obtain ⟨⟨hx, hb, hml, hown, hts⟩, hA, hK, hRO, hro⟩ := id C
  have hl : lv_has ls 1 [(0, .ref (ad 0))] := hl
  obtain ⟨H, eH⟩ : ∃ z, z = s.heap := ⟨_, rfl⟩
  obtain ⟨locs, eL⟩ : ∃ z : List Loc, z = [] := ⟨_, rfl⟩
  rw [← eH] at hP
  have hS : va_S A s.heap H locs := by rw [eH, eL]; exact hS
  have goal : W p l e rmX9_votes s m args below meth c H locs 0 0 Q (F0 m 0 ls []) := by
    refine lv_aload_n hx hb dX9_votes_0 rfl (lv_at hl 0 rfl) ?_
    refine wx_cv C hD hS (va_runV (As := []) (rest := []) C.1 (mtX9_votesNow (l := l) (D := D) (sz := H.size) h) (cwV 0 hts gX9_votes_X9_votesNow rfl rfl rfl nyX9_votesNow ⟨Nat.le_of_ble_eq_true rfl, Nat.le_of_ble_eq_true rfl⟩) (wx_pv C hP hD hS (q := 0) (ci := 9) (Nat.le_of_ble_eq_true rfl) (eM_0 cI ad _) rfl) rfl rfl hl.1 rfl (lv_room (Nat.le_of_ble_eq_true rfl)) dX9_votes_1 ⟨Nat.zero_le _, Nat.zero_le _⟩) (fun σ1 H locs h hP hD hS => ?_)
    refine lv_aload_n hx hb dX9_votes_4 rfl (lv_at hl 0 rfl) ?_
    refine wx_get C hP (q := 0) (ci := 9) (Nat.le_of_ble_eq_true rfl) (eM_0 cI ad _) (Cn := RX9) (T := TX9) (Nf := 27) rfl inX9_votes_X9 6 (by decide) (List.mem_of_getElem? (i := 1) rfl) (v := .int (σ1 0 6)) rfl dX9_votes_5 ?_
    exact Rt _ _ _ _ _ _ h hP hD hS dX9_votes_8
  rw [eH, eL] at goal
  exact goal
abbrev rmX9_vote : Room := { frames := 6, cells := 0, slots := 0, locals := 154 }
set_option maxRecDepth 20000 in
theorem inX9_vote_X9 : ∀ w ∈ u_ws RX9 TX9 27, w ∈ wsX9_vote := by decide +kernel
set_option maxRecDepth 100000 in
set_option maxHeartbeats 4000000 in
theorem mtX9_vote {l : Launch} {D : va_G} {cI : ClassId} {ad : Nat → Nat} {sz : Nat} {σ : wx_Z} {x1 : Int32} {K : Int32 → wx_Z → Prop} (h : wpX9_vote σ x1 K) : Met l yX9_vote wsX9_vote rmX9_vote (wx_Pre D [(cI, .int)] wx_T0 14 (wM_E cI ad) ad σ sz [.ref (ad 0), .int x1]) (va_Qi K (wx_B D [(cI, .int)] 14 (wM_E cI ad) ad (va_A (wx_w 14 (wM_E cI ad) ad σ) sz)) (va_A (wx_w 14 (wM_E cI ad) ad σ) sz)) 0 0 (va_A (wx_w 14 (wM_E cI ad) ad σ) sz) := by
  unfold wpX9_vote at h
  refine wx_meti (cc := cX9_vote) (maxL := 2) (own := RX9) rfl (by decide) rfl (Nat.le_of_ble_eq_true rfl) wx_T0_ok ?_
  intro p e s m args below meth c A Q ls C Rt hP hD hS hl
  obtain ⟨⟨hx, hb, hml, hown, hts⟩, hA, hK, hRO, hro⟩ := id C
  have hl : lv_has ls 2 [(0, .ref (ad 0)), (1, .int x1)] := hl
  obtain ⟨H, eH⟩ : ∃ z, z = s.heap := ⟨_, rfl⟩
  obtain ⟨locs, eL⟩ : ∃ z : List Loc, z = [] := ⟨_, rfl⟩
  rw [← eH] at hP
  have hS : va_S A s.heap H locs := by rw [eH, eL]; exact hS
  have goal : W p l e rmX9_vote s m args below meth c H locs 0 0 Q (F0 m 0 ls []) := by
    refine lv_iload_n hx hb dX9_vote_0 rfl (lv_at hl 1 rfl) ?_
    refine lv_i2l (v := Int32.toInt64 x1) hx hb dX9_vote_1 rfl ?_
    refine lv_lconst (v := 0) hx hb dX9_vote_2 (by decide) ?_
    refine lv_ldc2 hx hb hown (hts _ (List.mem_of_getElem? (i := 1) rfl)) dX9_vote_3 ?_
    refine wx_ci C hD hS (va_runS (As := [.long (Int32.toInt64 x1), .long 0, .long 3]) (rest := []) C.1 (mtX9_in (l := l) (D := D) (sz := H.size) h) (va_cwS 3 hts gX9_vote_X9_in rfl rfl rfl nyX9_in.2 ⟨Nat.le_of_ble_eq_true rfl, Nat.le_of_ble_eq_true rfl⟩) (wx_ps C hP hD hS) rfl rfl hl.1 rfl (lv_room (Nat.le_of_ble_eq_true rfl)) dX9_vote_6 ⟨Nat.zero_le _, Nat.zero_le _⟩) (fun r6 σ6 H locs h hP hD hS => ?_)
    refine lv_if_ne (tgt := 19) hx hb dX9_vote_9 (by decide) (fun c9 => ?_) (fun c9 => ?_)
    · have h := h.1 c9
      refine lv_aload_n hx hb dX9_vote_19 rfl (lv_at hl 0 rfl) ?_
      refine wx_cv C hD hS (va_runV (As := []) (rest := []) C.1 (mtX9_votesNow (l := l) (D := D) (sz := H.size) h) (cwV 0 hts gX9_vote_X9_votesNow rfl rfl rfl nyX9_votesNow ⟨Nat.le_of_ble_eq_true rfl, Nat.le_of_ble_eq_true rfl⟩) (wx_pv C hP hD hS (q := 0) (ci := 9) (Nat.le_of_ble_eq_true rfl) (eM_0 cI ad _) rfl) rfl rfl hl.1 rfl (lv_room (Nat.le_of_ble_eq_true rfl)) dX9_vote_20 ⟨Nat.zero_le _, Nat.zero_le _⟩) (fun σ20 H locs h hP hD hS => ?_)
      refine lv_iload_n hx hb dX9_vote_23 rfl (lv_at hl 1 rfl) ?_
      refine lv_if_ne (tgt := 42) hx hb dX9_vote_24 (by decide) (fun c24 => ?_) (fun c24 => ?_)
      · have h := h.1 c24
        refine lv_iload_n hx hb dX9_vote_42 rfl (lv_at hl 1 rfl) ?_
        refine lv_iconst (v := 1) hx hb dX9_vote_43 (by decide) ?_
        refine lv_icmp_ne (tgt := 54) hx hb dX9_vote_44 (by decide) (fun c44 => ?_) (fun c44 => ?_)
        · have h := h.1 c44
          refine lv_iload_n hx hb dX9_vote_54 rfl (lv_at hl 1 rfl) ?_
          refine lv_iconst (v := 2) hx hb dX9_vote_55 (by decide) ?_
          refine lv_icmp_ne (tgt := 66) hx hb dX9_vote_56 (by decide) (fun c56 => ?_) (fun c56 => ?_)
          · have h := h.1 c56
            refine lv_aload_n hx hb dX9_vote_66 rfl (lv_at hl 0 rfl) ?_
            refine wx_get C hP (q := 0) (ci := 9) (Nat.le_of_ble_eq_true rfl) (eM_0 cI ad _) (Cn := RX9) (T := TX9) (Nf := 27) rfl inX9_vote_X9 10 (by decide) (List.mem_of_getElem? (i := 5) rfl) (v := .int (σ20 0 10)) rfl dX9_vote_67 ?_
            exact Rt _ _ _ _ _ _ h hP hD hS dX9_vote_70
          · have h := h.2 c56
            refine lv_aload_n hx hb dX9_vote_59 rfl (lv_at hl 0 rfl) ?_
            refine wx_get C hP (q := 0) (ci := 9) (Nat.le_of_ble_eq_true rfl) (eM_0 cI ad _) (Cn := RX9) (T := TX9) (Nf := 27) rfl inX9_vote_X9 9 (by decide) (List.mem_of_getElem? (i := 4) rfl) (v := .int (σ20 0 9)) rfl dX9_vote_60 ?_
            refine lv_goto (tgt := 70) hx hb dX9_vote_63 (by decide) ?_
            exact Rt _ _ _ _ _ _ h hP hD hS dX9_vote_70
        · have h := h.2 c44
          refine lv_aload_n hx hb dX9_vote_47 rfl (lv_at hl 0 rfl) ?_
          refine wx_get C hP (q := 0) (ci := 9) (Nat.le_of_ble_eq_true rfl) (eM_0 cI ad _) (Cn := RX9) (T := TX9) (Nf := 27) rfl inX9_vote_X9 8 (by decide) (List.mem_of_getElem? (i := 3) rfl) (v := .int (σ20 0 8)) rfl dX9_vote_48 ?_
          refine lv_goto (tgt := 70) hx hb dX9_vote_51 (by decide) ?_
          exact Rt _ _ _ _ _ _ h hP hD hS dX9_vote_70
      · have h := h.2 c24
        refine lv_aload_n hx hb dX9_vote_27 rfl (lv_at hl 0 rfl) ?_
        refine wx_ci C hD hS (va_runV (As := []) (rest := []) C.1 (mtX9_theWord (l := l) (D := D) (sz := H.size) h) (cwV 0 hts gX9_vote_X9_theWord rfl rfl rfl nyX9_theWord ⟨Nat.le_of_ble_eq_true rfl, Nat.le_of_ble_eq_true rfl⟩) (wx_pv C hP hD hS (q := 0) (ci := 9) (Nat.le_of_ble_eq_true rfl) (eM_0 cI ad _) rfl) rfl rfl hl.1 rfl (lv_room (Nat.le_of_ble_eq_true rfl)) dX9_vote_28 ⟨Nat.zero_le _, Nat.zero_le _⟩) (fun r28 σ28 H locs h hP hD hS => ?_)
        refine lv_aload_n hx hb dX9_vote_31 rfl (lv_at hl 0 rfl) ?_
        refine wx_get C hP (q := 0) (ci := 9) (Nat.le_of_ble_eq_true rfl) (eM_0 cI ad _) (Cn := RX9) (T := TX9) (Nf := 27) rfl inX9_vote_X9 7 (by decide) (List.mem_of_getElem? (i := 2) rfl) (v := .int (σ28 0 7)) rfl dX9_vote_32 ?_
        refine lv_ixor hx hb dX9_vote_35 ?_
        refine wx_ci C hD hS (va_runS (As := [.int (r28 ^^^ (σ28 0 7))]) (rest := []) C.1 (mtX9_bits (l := l) (D := D) (sz := H.size) h) (va_cwS 1 hts gX9_vote_X9_bits rfl rfl rfl nyX9_bits.2 ⟨Nat.le_of_ble_eq_true rfl, Nat.le_of_ble_eq_true rfl⟩) (wx_ps C hP hD hS) rfl rfl hl.1 rfl (lv_room (Nat.le_of_ble_eq_true rfl)) dX9_vote_36 ⟨Nat.zero_le _, Nat.zero_le _⟩) (fun r36 σ36 H locs h hP hD hS => ?_)
        refine lv_goto (tgt := 70) hx hb dX9_vote_39 (by decide) ?_
        exact Rt _ _ _ _ _ _ h hP hD hS dX9_vote_70
    · have h := h.2 c9
      refine lv_aload_n hx hb dX9_vote_12 rfl (lv_at hl 0 rfl) ?_
      refine lv_bipush (v := (-2)) hx hb dX9_vote_13 (by decide) ?_
      refine wx_ci C hD hS (va_runV (As := [.int (-2)]) (rest := []) C.1 (mtX9_bad (l := l) (D := D) (sz := H.size) h) (cwV 1 hts gX9_vote_X9_bad rfl rfl rfl nyX9_bad ⟨Nat.le_of_ble_eq_true rfl, Nat.le_of_ble_eq_true rfl⟩) (wx_pv C hP hD hS (q := 0) (ci := 9) (Nat.le_of_ble_eq_true rfl) (eM_0 cI ad _) rfl) rfl rfl hl.1 rfl (lv_room (Nat.le_of_ble_eq_true rfl)) dX9_vote_15 ⟨Nat.zero_le _, Nat.zero_le _⟩) (fun r15 σ15 H locs h hP hD hS => ?_)
      exact Rt _ _ _ _ _ _ h hP hD hS dX9_vote_18
  rw [eH, eL] at goal
  exact goal
abbrev rmX9_mendsNow : Room := { frames := 6, cells := 0, slots := 0, locals := 154 }
set_option maxRecDepth 20000 in
theorem inX9_mendsNow_X9 : ∀ w ∈ u_ws RX9 TX9 27, w ∈ wsX9_mendsNow := by decide +kernel
set_option maxRecDepth 100000 in
set_option maxHeartbeats 4000000 in
theorem mtX9_mendsNow {l : Launch} {D : va_G} {cI : ClassId} {ad : Nat → Nat} {sz : Nat} {σ : wx_Z} {K : Int32 → wx_Z → Prop} (h : wpX9_mendsNow σ K) : Met l yX9_mendsNow wsX9_mendsNow rmX9_mendsNow (wx_Pre D [(cI, .int)] wx_T0 14 (wM_E cI ad) ad σ sz [.ref (ad 0)]) (va_Qi K (wx_B D [(cI, .int)] 14 (wM_E cI ad) ad (va_A (wx_w 14 (wM_E cI ad) ad σ) sz)) (va_A (wx_w 14 (wM_E cI ad) ad σ) sz)) 0 0 (va_A (wx_w 14 (wM_E cI ad) ad σ) sz) := by
  unfold wpX9_mendsNow at h
  refine wx_meti (cc := cX9_mendsNow) (maxL := 2) (own := RX9) rfl (by decide) rfl (Nat.le_of_ble_eq_true rfl) wx_T0_ok ?_
  intro p e s m args below meth c A Q ls C Rt hP hD hS hl
  obtain ⟨⟨hx, hb, hml, hown, hts⟩, hA, hK, hRO, hro⟩ := id C
  have hl : lv_has ls 2 [(0, .ref (ad 0))] := hl
  obtain ⟨H, eH⟩ : ∃ z, z = s.heap := ⟨_, rfl⟩
  obtain ⟨locs, eL⟩ : ∃ z : List Loc, z = [] := ⟨_, rfl⟩
  rw [← eH] at hP
  have hS : va_S A s.heap H locs := by rw [eH, eL]; exact hS
  have goal : W p l e rmX9_mendsNow s m args below meth c H locs 0 0 Q (F0 m 0 ls []) := by
    refine lv_aload_n hx hb dX9_mendsNow_0 rfl (lv_at hl 0 rfl) ?_
    refine wx_cv C hD hS (va_runV (As := []) (rest := []) C.1 (mtX9_votesNow (l := l) (D := D) (sz := H.size) h) (cwV 0 hts gX9_mendsNow_X9_votesNow rfl rfl rfl nyX9_votesNow ⟨Nat.le_of_ble_eq_true rfl, Nat.le_of_ble_eq_true rfl⟩) (wx_pv C hP hD hS (q := 0) (ci := 9) (Nat.le_of_ble_eq_true rfl) (eM_0 cI ad _) rfl) rfl rfl hl.1 rfl (lv_room (Nat.le_of_ble_eq_true rfl)) dX9_mendsNow_1 ⟨Nat.zero_le _, Nat.zero_le _⟩) (fun σ1 H locs h hP hD hS => ?_)
    refine lv_aload_n hx hb dX9_mendsNow_4 rfl (lv_at hl 0 rfl) ?_
    refine wx_ci C hD hS (va_runV (As := []) (rest := []) C.1 (mtX9_theWord (l := l) (D := D) (sz := H.size) h) (cwV 0 hts gX9_mendsNow_X9_theWord rfl rfl rfl nyX9_theWord ⟨Nat.le_of_ble_eq_true rfl, Nat.le_of_ble_eq_true rfl⟩) (wx_pv C hP hD hS (q := 0) (ci := 9) (Nat.le_of_ble_eq_true rfl) (eM_0 cI ad _) rfl) rfl rfl hl.1 rfl (lv_room (Nat.le_of_ble_eq_true rfl)) dX9_mendsNow_5 ⟨Nat.zero_le _, Nat.zero_le _⟩) (fun r5 σ5 H locs h hP hD hS => ?_)
    refine lv_aload_n hx hb dX9_mendsNow_8 rfl (lv_at hl 0 rfl) ?_
    refine wx_get C hP (q := 0) (ci := 9) (Nat.le_of_ble_eq_true rfl) (eM_0 cI ad _) (Cn := RX9) (T := TX9) (Nf := 27) rfl inX9_mendsNow_X9 7 (by decide) (List.mem_of_getElem? (i := 1) rfl) (v := .int (σ5 0 7)) rfl dX9_mendsNow_9 ?_
    refine lv_ixor hx hb dX9_mendsNow_12 ?_
    refine wx_ci C hD hS (va_runS (As := [.int (r5 ^^^ (σ5 0 7))]) (rest := []) C.1 (mtX9_bits (l := l) (D := D) (sz := H.size) h) (va_cwS 1 hts gX9_mendsNow_X9_bits rfl rfl rfl nyX9_bits.2 ⟨Nat.le_of_ble_eq_true rfl, Nat.le_of_ble_eq_true rfl⟩) (wx_ps C hP hD hS) rfl rfl hl.1 rfl (lv_room (Nat.le_of_ble_eq_true rfl)) dX9_mendsNow_13 ⟨Nat.zero_le _, Nat.zero_le _⟩) (fun r13 σ13 H locs h hP hD hS => ?_)
    refine lv_istore_n (lv' := [(1, .int r13), (0, .ref (ad 0))]) hx hb dX9_mendsNow_16 rfl hl (by decide) rfl (fun ls hl => ?_)
    refine lv_aload_n hx hb dX9_mendsNow_17 rfl (lv_at hl 1 rfl) ?_
    refine wx_get C hP (q := 0) (ci := 9) (Nat.le_of_ble_eq_true rfl) (eM_0 cI ad _) (Cn := RX9) (T := TX9) (Nf := 27) rfl inX9_mendsNow_X9 0 (by decide) (List.mem_of_getElem? (i := 2) rfl) (v := .ref (ad 1)) rfl dX9_mendsNow_18 ?_
    refine lv_iconst (v := 2) hx hb dX9_mendsNow_21 (by decide) ?_
    refine lv_aload_n hx hb dX9_mendsNow_22 rfl (lv_at hl 1 rfl) ?_
    refine wx_get C hP (q := 0) (ci := 9) (Nat.le_of_ble_eq_true rfl) (eM_0 cI ad _) (Cn := RX9) (T := TX9) (Nf := 27) rfl inX9_mendsNow_X9 7 (by decide) (List.mem_of_getElem? (i := 1) rfl) (v := .int (σ13 0 7)) rfl dX9_mendsNow_23 ?_
    refine wx_ist C hP hD hS (q := 1) (Nat.le_of_ble_eq_true rfl) (fun _ => rfl) 0 rfl h.1 dX9_mendsNow_26 (fun H locs hP hD hS => ?_)
    generalize e_σ26 : wx_up σ13 1 (Int32.toNatClampNeg 2) (σ13 0 7) = σ26 at hP hD
    have h := h.2 σ26 e_σ26.symm
    refine lv_iload_n hx hb dX9_mendsNow_27 rfl (lv_at hl 0 rfl) ?_
    exact Rt _ _ _ _ _ _ h hP hD hS dX9_mendsNow_28
  rw [eH, eL] at goal
  exact goal
abbrev rmX9_mends : Room := { frames := 7, cells := 0, slots := 0, locals := 175 }
theorem nyX9_mendsNow : yX9_mendsNow.cls = RX9 ∧ yX9_mendsNow.cls ≠ "java/lang/invoke/MethodHandle" ∧ yX9_mendsNow.cls ≠ "java/lang/invoke/VarHandle" ∧ (parseMethodDescriptor yX9_mendsNow.desc).map (fun d => d.parameters.length) = some 0 := by decide +kernel
set_option maxRecDepth 100000 in
set_option maxHeartbeats 4000000 in
theorem mtX9_mends {l : Launch} {D : va_G} {cI : ClassId} {ad : Nat → Nat} {sz : Nat} {σ : wx_Z} {K : Int32 → wx_Z → Prop} (h : wpX9_mends σ K) : Met l yX9_mends wsX9_mends rmX9_mends (wx_Pre D [(cI, .int)] wx_T0 14 (wM_E cI ad) ad σ sz [.ref (ad 0)]) (va_Qi K (wx_B D [(cI, .int)] 14 (wM_E cI ad) ad (va_A (wx_w 14 (wM_E cI ad) ad σ) sz)) (va_A (wx_w 14 (wM_E cI ad) ad σ) sz)) 0 0 (va_A (wx_w 14 (wM_E cI ad) ad σ) sz) := by
  unfold wpX9_mends at h
  refine wx_meti (cc := cX9_mends) (maxL := 1) (own := RX9) rfl (by decide) rfl (Nat.le_of_ble_eq_true rfl) wx_T0_ok ?_
  intro p e s m args below meth c A Q ls C Rt hP hD hS hl
  obtain ⟨⟨hx, hb, hml, hown, hts⟩, hA, hK, hRO, hro⟩ := id C
  have hl : lv_has ls 1 [(0, .ref (ad 0))] := hl
  obtain ⟨H, eH⟩ : ∃ z, z = s.heap := ⟨_, rfl⟩
  obtain ⟨locs, eL⟩ : ∃ z : List Loc, z = [] := ⟨_, rfl⟩
  rw [← eH] at hP
  have hS : va_S A s.heap H locs := by rw [eH, eL]; exact hS
  have goal : W p l e rmX9_mends s m args below meth c H locs 0 0 Q (F0 m 0 ls []) := by
    refine lv_aload_n hx hb dX9_mends_0 rfl (lv_at hl 0 rfl) ?_
    refine wx_cv C hD hS (va_runV (As := []) (rest := []) C.1 (mtX9_keep (l := l) (D := D) (sz := H.size) h) (cwV 0 hts gX9_mends_X9_keep rfl rfl rfl nyX9_keep ⟨Nat.le_of_ble_eq_true rfl, Nat.le_of_ble_eq_true rfl⟩) (wx_pv C hP hD hS (q := 0) (ci := 9) (Nat.le_of_ble_eq_true rfl) (eM_0 cI ad _) rfl) rfl rfl hl.1 rfl (lv_room (Nat.le_of_ble_eq_true rfl)) dX9_mends_1 ⟨Nat.zero_le _, Nat.zero_le _⟩) (fun σ1 H locs h hP hD hS => ?_)
    refine lv_aload_n hx hb dX9_mends_4 rfl (lv_at hl 0 rfl) ?_
    refine wx_ci C hD hS (va_runV (As := []) (rest := []) C.1 (mtX9_mendsNow (l := l) (D := D) (sz := H.size) h) (cwV 0 hts gX9_mends_X9_mendsNow rfl rfl rfl nyX9_mendsNow ⟨Nat.le_of_ble_eq_true rfl, Nat.le_of_ble_eq_true rfl⟩) (wx_pv C hP hD hS (q := 0) (ci := 9) (Nat.le_of_ble_eq_true rfl) (eM_0 cI ad _) rfl) rfl rfl hl.1 rfl (lv_room (Nat.le_of_ble_eq_true rfl)) dX9_mends_5 ⟨Nat.zero_le _, Nat.zero_le _⟩) (fun r5 σ5 H locs h hP hD hS => ?_)
    exact Rt _ _ _ _ _ _ h hP hD hS dX9_mends_8
  rw [eH, eL] at goal
  exact goal

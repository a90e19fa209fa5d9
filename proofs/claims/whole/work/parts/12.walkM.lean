abbrev rmX9_signOf : Room := { frames := 3, cells := 0, slots := 0, locals := 80 }
set_option maxRecDepth 100000 in
set_option maxHeartbeats 4000000 in
theorem bX9_signOf_4 {p : Program} {l : Launch} {e : Env} {s : State} {m : MethodId} {args : Array Value} {below : List Frame} {meth : Method} {c : Code} {A : Nat → Prop} {Q : State → Prop} {D : va_G} {cI : ClassId} {ad : Nat → Nat} {K : Int32 → wx_Z → Prop} (C : wx_C p s m args c cX9_signOf 4 RX9 wsX9_signOf D [(cI, .int)] wx_T0 A) (Rt : wx_Ri p l e rmX9_signOf s m args below meth c cX9_signOf D 14 (wM_E cI ad) ad A K Q) : ∀ (n : Nat) (σ : wx_Z) (x1 : Int32) (x2 : Int32) (x3 : Int32), wpX9_signOf_4 K n σ x1 x2 x3 → ∀ (H : Heap) (locs : List Loc) (ls : Array Slot), va_P D vwCl (wx_w 14 (wM_E cI ad) ad σ) H → va_D A (wx_w 14 (wM_E cI ad) ad σ) → va_S A s.heap H locs → lv_has ls 4 [(0, .ref (ad 0)), (1, .int x1), (2, .int x2), (3, .int x3)] → W p l e rmX9_signOf s m args below meth c H locs 0 0 Q (F0 m 4 ls []) := by
  obtain ⟨⟨hx, hb, hml, hown, hts⟩, hA, hK, hRO, hro⟩ := id C
  intro n
  induction n with
  | zero => intro σ x1 x2 x3 h; exact h.elim
  | succ n ih =>
    intro σ x1 x2 x3 h H locs ls hP hD hS hl
    unfold wpX9_signOf_4 at h
    refine lv_iload_n hx hb dX9_signOf_4 rfl (lv_at hl 3 rfl) ?_
    refine lv_aload_n hx hb dX9_signOf_5 rfl (lv_at hl 0 rfl) ?_
    refine wx_ci C hD hS (va_runV (As := []) (rest := [.int x3]) C.1 (mtX9_places (l := l) (D := D) (sz := H.size) h) (cwV 0 hts gX9_signOf_X9_places rfl rfl rfl nyX9_places ⟨Nat.le_of_ble_eq_true rfl, Nat.le_of_ble_eq_true rfl⟩) (wx_pv C hP hD hS (q := 0) (ci := 9) (Nat.le_of_ble_eq_true rfl) (eM_0 cI ad _) rfl) rfl rfl hl.1 rfl (lv_room (Nat.le_of_ble_eq_true rfl)) dX9_signOf_6 ⟨Nat.zero_le _, Nat.zero_le _⟩) (fun r6 σ6 H locs h hP hD hS => ?_)
    refine lv_icmp_ge (tgt := 45) hx hb dX9_signOf_9 (by decide) (fun c9 => ?_) (fun c9 => ?_)
    · have h := h.1 c9
      refine lv_iload_n hx hb dX9_signOf_45 rfl (lv_at hl 2 rfl) ?_
      exact Rt _ _ _ _ _ _ h hP hD hS dX9_signOf_46
    · have h := h.2 c9
      refine lv_iload_n hx hb dX9_signOf_12 rfl (lv_at hl 2 rfl) ?_
      refine lv_aload_n hx hb dX9_signOf_13 rfl (lv_at hl 0 rfl) ?_
      refine wx_ci C hD hS (va_runV (As := []) (rest := [.int x2]) C.1 (mtX9_theWord (l := l) (D := D) (sz := H.size) h) (cwV 0 hts gX9_signOf_X9_theWord rfl rfl rfl nyX9_theWord ⟨Nat.le_of_ble_eq_true rfl, Nat.le_of_ble_eq_true rfl⟩) (wx_pv C hP hD hS (q := 0) (ci := 9) (Nat.le_of_ble_eq_true rfl) (eM_0 cI ad _) rfl) rfl rfl hl.1 rfl (lv_room (Nat.le_of_ble_eq_true rfl)) dX9_signOf_14 ⟨Nat.zero_le _, Nat.zero_le _⟩) (fun r14 σ14 H locs h hP hD hS => ?_)
      refine lv_iload_n hx hb dX9_signOf_17 rfl (lv_at hl 3 rfl) ?_
      refine lv_ishr hx hb dX9_signOf_18 ?_
      refine lv_iconst (v := 1) hx hb dX9_signOf_19 (by decide) ?_
      refine lv_iand hx hb dX9_signOf_20 ?_
      refine lv_iload_n hx hb dX9_signOf_21 rfl (lv_at hl 1 rfl) ?_
      refine lv_iload_n hx hb dX9_signOf_22 rfl (lv_at hl 3 rfl) ?_
      refine lv_iand hx hb dX9_signOf_23 ?_
      refine wx_ci C hD hS (va_runS (As := [.int (x1 &&& x3)]) (rest := [.int ((r14 >>> (x3 &&& 31)) &&& 1), .int x2]) C.1 (mtX9_bits (l := l) (D := D) (sz := H.size) h) (va_cwS 1 hts gX9_signOf_X9_bits rfl rfl rfl nyX9_bits.2 ⟨Nat.le_of_ble_eq_true rfl, Nat.le_of_ble_eq_true rfl⟩) (wx_ps C hP hD hS) rfl rfl hl.1 rfl (lv_room (Nat.le_of_ble_eq_true rfl)) dX9_signOf_24 ⟨Nat.zero_le _, Nat.zero_le _⟩) (fun r24 σ24 H locs h hP hD hS => ?_)
      refine lv_iconst (v := 1) hx hb dX9_signOf_27 (by decide) ?_
      refine lv_iand hx hb dX9_signOf_28 ?_
      refine lv_icmp_ne (tgt := 36) hx hb dX9_signOf_29 (by decide) (fun c29 => ?_) (fun c29 => ?_)
      · have h := h.1 c29
        refine lv_iconst (v := (-1)) hx hb dX9_signOf_36 (by decide) ?_
        refine lv_iadd hx hb dX9_signOf_37 ?_
        refine lv_topi (fun t38 e_t38 => ?_)
        have h := h t38 e_t38
        refine lv_istore_n (lv' := [(2, .int t38), (0, .ref (ad 0)), (1, .int x1), (3, .int x3)]) hx hb dX9_signOf_38 rfl hl (by decide) rfl (fun ls hl => ?_)
        obtain ⟨t39, e_t39⟩ : ∃ y : Int32, y = x3 + 1 := ⟨_, rfl⟩
        have h := h t39 e_t39
        refine lv_iinc (v := t39) (lv' := [(3, .int t39), (2, .int t38), (0, .ref (ad 0)), (1, .int x1)]) hx hb dX9_signOf_39 hl (k := 3) rfl (by rw [e_t39]; rfl) (by decide) rfl (fun ls hl => ?_)
        refine lv_goto (tgt := 4) hx hb dX9_signOf_42 (by decide) ?_
        exact ih σ24 x1 t38 t39  h _ _ _ hP hD hS (lv_sub hl [2, 3, 1, 0] rfl)
      · have h := h.2 c29
        refine lv_iconst (v := 1) hx hb dX9_signOf_32 (by decide) ?_
        refine lv_goto (tgt := 37) hx hb dX9_signOf_33 (by decide) ?_
        refine lv_iadd hx hb dX9_signOf_37 ?_
        refine lv_topi (fun t38_1 e_t38_1 => ?_)
        have h := h t38_1 e_t38_1
        refine lv_istore_n (lv' := [(2, .int t38_1), (0, .ref (ad 0)), (1, .int x1), (3, .int x3)]) hx hb dX9_signOf_38 rfl hl (by decide) rfl (fun ls hl => ?_)
        obtain ⟨t39_1, e_t39_1⟩ : ∃ y : Int32, y = x3 + 1 := ⟨_, rfl⟩
        have h := h t39_1 e_t39_1
        refine lv_iinc (v := t39_1) (lv' := [(3, .int t39_1), (2, .int t38_1), (0, .ref (ad 0)), (1, .int x1)]) hx hb dX9_signOf_39 hl (k := 3) rfl (by rw [e_t39_1]; rfl) (by decide) rfl (fun ls hl => ?_)
        refine lv_goto (tgt := 4) hx hb dX9_signOf_42 (by decide) ?_
        exact ih σ24 x1 t38_1 t39_1  h _ _ _ hP hD hS (lv_sub hl [2, 3, 1, 0] rfl)
set_option maxRecDepth 100000 in
set_option maxHeartbeats 4000000 in
theorem mtX9_signOf {l : Launch} {D : va_G} {cI : ClassId} {ad : Nat → Nat} {sz : Nat} {σ : wx_Z} {x1 : Int32} {K : Int32 → wx_Z → Prop} (h : wpX9_signOf σ x1 K) : Met l yX9_signOf wsX9_signOf rmX9_signOf (wx_Pre D [(cI, .int)] wx_T0 14 (wM_E cI ad) ad σ sz [.ref (ad 0), .int x1]) (va_Qi K (wx_B D [(cI, .int)] 14 (wM_E cI ad) ad (va_A (wx_w 14 (wM_E cI ad) ad σ) sz)) (va_A (wx_w 14 (wM_E cI ad) ad σ) sz)) 0 0 (va_A (wx_w 14 (wM_E cI ad) ad σ) sz) := by
  unfold wpX9_signOf at h
  refine wx_meti (cc := cX9_signOf) (maxL := 4) (own := RX9) rfl (by decide) rfl (Nat.le_of_ble_eq_true rfl) wx_T0_ok ?_
  intro p e s m args below meth c A Q ls C Rt hP hD hS hl
  obtain ⟨⟨hx, hb, hml, hown, hts⟩, hA, hK, hRO, hro⟩ := id C
  have hl : lv_has ls 4 [(0, .ref (ad 0)), (1, .int x1)] := hl
  obtain ⟨H, eH⟩ : ∃ z, z = s.heap := ⟨_, rfl⟩
  obtain ⟨locs, eL⟩ : ∃ z : List Loc, z = [] := ⟨_, rfl⟩
  rw [← eH] at hP
  have hS : va_S A s.heap H locs := by rw [eH, eL]; exact hS
  have goal : W p l e rmX9_signOf s m args below meth c H locs 0 0 Q (F0 m 0 ls []) := by
    refine lv_iconst (v := 0) hx hb dX9_signOf_0 (by decide) ?_
    refine lv_istore_n (lv' := [(2, .int 0), (0, .ref (ad 0)), (1, .int x1)]) hx hb dX9_signOf_1 rfl hl (by decide) rfl (fun ls hl => ?_)
    refine lv_iconst (v := 0) hx hb dX9_signOf_2 (by decide) ?_
    refine lv_istore_n (lv' := [(3, .int 0), (2, .int 0), (0, .ref (ad 0)), (1, .int x1)]) hx hb dX9_signOf_3 rfl hl (by decide) rfl (fun ls hl => ?_)
    obtain ⟨n4, h⟩ := h
    exact bX9_signOf_4 C Rt n4 σ x1 0 0  h _ _ _ hP hD hS (lv_sub hl [2, 3, 1, 0] rfl)
  rw [eH, eL] at goal
  exact goal
abbrev rmX9_sign : Room := { frames := 4, cells := 0, slots := 0, locals := 103 }
theorem nyX9_signOf : yX9_signOf.cls = RX9 ∧ yX9_signOf.cls ≠ "java/lang/invoke/MethodHandle" ∧ yX9_signOf.cls ≠ "java/lang/invoke/VarHandle" ∧ (parseMethodDescriptor yX9_signOf.desc).map (fun d => d.parameters.length) = some 1 := by decide +kernel
set_option maxRecDepth 100000 in
set_option maxHeartbeats 4000000 in
theorem mtX9_sign {l : Launch} {D : va_G} {cI : ClassId} {ad : Nat → Nat} {sz : Nat} {σ : wx_Z} {x1 : Int32} {K : Int32 → wx_Z → Prop} (h : wpX9_sign σ x1 K) : Met l yX9_sign wsX9_sign rmX9_sign (wx_Pre D [(cI, .int)] wx_T0 14 (wM_E cI ad) ad σ sz [.ref (ad 0), .int x1]) (va_Qi K (wx_B D [(cI, .int)] 14 (wM_E cI ad) ad (va_A (wx_w 14 (wM_E cI ad) ad σ) sz)) (va_A (wx_w 14 (wM_E cI ad) ad σ) sz)) 0 0 (va_A (wx_w 14 (wM_E cI ad) ad σ) sz) := by
  unfold wpX9_sign at h
  refine wx_meti (cc := cX9_sign) (maxL := 2) (own := RX9) rfl (by decide) rfl (Nat.le_of_ble_eq_true rfl) wx_T0_ok ?_
  intro p e s m args below meth c A Q ls C Rt hP hD hS hl
  obtain ⟨⟨hx, hb, hml, hown, hts⟩, hA, hK, hRO, hro⟩ := id C
  have hl : lv_has ls 2 [(0, .ref (ad 0)), (1, .int x1)] := hl
  obtain ⟨H, eH⟩ : ∃ z, z = s.heap := ⟨_, rfl⟩
  obtain ⟨locs, eL⟩ : ∃ z : List Loc, z = [] := ⟨_, rfl⟩
  rw [← eH] at hP
  have hS : va_S A s.heap H locs := by rw [eH, eL]; exact hS
  have goal : W p l e rmX9_sign s m args below meth c H locs 0 0 Q (F0 m 0 ls []) := by
    refine lv_aload_n hx hb dX9_sign_0 rfl (lv_at hl 0 rfl) ?_
    refine lv_iload_n hx hb dX9_sign_1 rfl (lv_at hl 1 rfl) ?_
    refine wx_ci C hD hS (va_runV (As := [.int x1]) (rest := []) C.1 (mtX9_isPlace (l := l) (D := D) (sz := H.size) h) (cwV 1 hts gX9_sign_X9_isPlace rfl rfl rfl nyX9_isPlace ⟨Nat.le_of_ble_eq_true rfl, Nat.le_of_ble_eq_true rfl⟩) (wx_pv C hP hD hS (q := 0) (ci := 9) (Nat.le_of_ble_eq_true rfl) (eM_0 cI ad _) rfl) rfl rfl hl.1 rfl (lv_room (Nat.le_of_ble_eq_true rfl)) dX9_sign_2 ⟨Nat.zero_le _, Nat.zero_le _⟩) (fun r2 σ2 H locs h hP hD hS => ?_)
    refine lv_if_eq (tgt := 16) hx hb dX9_sign_5 (by decide) (fun c5 => ?_) (fun c5 => ?_)
    · have h := h.1 c5
      refine lv_aload_n hx hb dX9_sign_16 rfl (lv_at hl 0 rfl) ?_
      refine lv_sipush (v := 1000) hx hb dX9_sign_17 (by decide) ?_
      refine wx_ci C hD hS (va_runV (As := [.int 1000]) (rest := []) C.1 (mtX9_bad (l := l) (D := D) (sz := H.size) h) (cwV 1 hts gX9_sign_X9_bad rfl rfl rfl nyX9_bad ⟨Nat.le_of_ble_eq_true rfl, Nat.le_of_ble_eq_true rfl⟩) (wx_pv C hP hD hS (q := 0) (ci := 9) (Nat.le_of_ble_eq_true rfl) (eM_0 cI ad _) rfl) rfl rfl hl.1 rfl (lv_room (Nat.le_of_ble_eq_true rfl)) dX9_sign_20 ⟨Nat.zero_le _, Nat.zero_le _⟩) (fun r20 σ20 H locs h hP hD hS => ?_)
      exact Rt _ _ _ _ _ _ h hP hD hS dX9_sign_23
    · have h := h.2 c5
      refine lv_aload_n hx hb dX9_sign_8 rfl (lv_at hl 0 rfl) ?_
      refine lv_iload_n hx hb dX9_sign_9 rfl (lv_at hl 1 rfl) ?_
      refine wx_ci C hD hS (va_runV (As := [.int x1]) (rest := []) C.1 (mtX9_signOf (l := l) (D := D) (sz := H.size) h) (cwV 1 hts gX9_sign_X9_signOf rfl rfl rfl nyX9_signOf ⟨Nat.le_of_ble_eq_true rfl, Nat.le_of_ble_eq_true rfl⟩) (wx_pv C hP hD hS (q := 0) (ci := 9) (Nat.le_of_ble_eq_true rfl) (eM_0 cI ad _) rfl) rfl rfl hl.1 rfl (lv_room (Nat.le_of_ble_eq_true rfl)) dX9_sign_10 ⟨Nat.zero_le _, Nat.zero_le _⟩) (fun r10 σ10 H locs h hP hD hS => ?_)
      refine lv_goto (tgt := 23) hx hb dX9_sign_13 (by decide) ?_
      exact Rt _ _ _ _ _ _ h hP hD hS dX9_sign_23
  rw [eH, eL] at goal
  exact goal
abbrev rmX9_far : Room := { frames := 1, cells := 0, slots := 0, locals := 40 }
set_option maxRecDepth 100000 in
set_option maxHeartbeats 4000000 in
theorem mtX9_far {l : Launch} {D : va_G} {cI : ClassId} {ad : Nat → Nat} {sz : Nat} {σ : wx_Z} {x0 : Int32} {K : Int32 → wx_Z → Prop} (h : wpX9_far σ x0 K) : Met l yX9_far wsX9_far rmX9_far (wx_Pre D [(cI, .int)] wx_T0 14 (wM_E cI ad) ad σ sz [.int x0]) (va_Qi K (wx_B D [(cI, .int)] 14 (wM_E cI ad) ad (va_A (wx_w 14 (wM_E cI ad) ad σ) sz)) (va_A (wx_w 14 (wM_E cI ad) ad σ) sz)) 0 0 (va_A (wx_w 14 (wM_E cI ad) ad σ) sz) := by
  unfold wpX9_far at h
  refine wx_meti (cc := cX9_far) (maxL := 1) (own := RX9) rfl (by decide) rfl (Nat.le_of_ble_eq_true rfl) wx_T0_ok ?_
  intro p e s m args below meth c A Q ls C Rt hP hD hS hl
  obtain ⟨⟨hx, hb, hml, hown, hts⟩, hA, hK, hRO, hro⟩ := id C
  have hl : lv_has ls 1 [(0, .int x0)] := hl
  obtain ⟨H, eH⟩ : ∃ z, z = s.heap := ⟨_, rfl⟩
  obtain ⟨locs, eL⟩ : ∃ z : List Loc, z = [] := ⟨_, rfl⟩
  rw [← eH] at hP
  have hS : va_S A s.heap H locs := by rw [eH, eL]; exact hS
  have goal : W p l e rmX9_far s m args below meth c H locs 0 0 Q (F0 m 0 ls []) := by
    refine lv_iload_n hx hb dX9_far_0 rfl (lv_at hl 0 rfl) ?_
    refine lv_if_ge (tgt := 9) hx hb dX9_far_1 (by decide) (fun c1 => ?_) (fun c1 => ?_)
    · have h := h.1 c1
      refine lv_iload_n hx hb dX9_far_9 rfl (lv_at hl 0 rfl) ?_
      exact Rt _ _ _ _ _ _ h hP hD hS dX9_far_10
    · have h := h.2 c1
      refine lv_iload_n hx hb dX9_far_4 rfl (lv_at hl 0 rfl) ?_
      refine lv_ineg hx hb dX9_far_5 ?_
      refine lv_goto (tgt := 10) hx hb dX9_far_6 (by decide) ?_
      exact Rt _ _ _ _ _ _ h hP hD hS dX9_far_10
  rw [eH, eL] at goal
  exact goal
abbrev rmX9_best : Room := { frames := 4, cells := 0, slots := 0, locals := 103 }
theorem nyX9_far : yX9_far.cls = RX9 ∧ yX9_far.cls ≠ "java/lang/invoke/MethodHandle" ∧ yX9_far.cls ≠ "java/lang/invoke/VarHandle" ∧ (parseMethodDescriptor yX9_far.desc).map (fun d => d.parameters.length) = some 1 := by decide +kernel
set_option maxRecDepth 100000 in
set_option maxHeartbeats 4000000 in
theorem bX9_best_81 {p : Program} {l : Launch} {e : Env} {s : State} {m : MethodId} {args : Array Value} {below : List Frame} {meth : Method} {c : Code} {A : Nat → Prop} {Q : State → Prop} {D : va_G} {cI : ClassId} {ad : Nat → Nat} {K : Int32 → wx_Z → Prop} {C26 : wx_Z → Int32 → Int32 → Int32 → Int32 → Prop} (C : wx_C p s m args c cX9_best 6 RX9 wsX9_best D [(cI, .int)] wx_T0 A) (Rt : wx_Ri p l e rmX9_best s m args below meth c cX9_best D 14 (wM_E cI ad) ad A K Q) (hC26 : ∀ (σ : wx_Z) (x1 : Int32) (x2 : Int32) (x3 : Int32) (x4 : Int32), C26 σ x1 x2 x3 x4 → ∀ (H : Heap) (locs : List Loc) (ls : Array Slot), va_P D vwCl (wx_w 14 (wM_E cI ad) ad σ) H → va_D A (wx_w 14 (wM_E cI ad) ad σ) → va_S A s.heap H locs → lv_has ls 6 [(0, .ref (ad 0)), (1, .int x1), (2, .int x2), (3, .int x3), (4, .int x4)] → W p l e rmX9_best s m args below meth c H locs 0 0 Q (F0 m 26 ls [])) : ∀ (σ : wx_Z) (x1 : Int32) (x2 : Int32) (x4 : Int32) (x5 : Int32) (s0 : Int32), wpX9_best_81 K C26 σ x1 x2 x4 x5 s0 → ∀ (H : Heap) (locs : List Loc) (ls : Array Slot), va_P D vwCl (wx_w 14 (wM_E cI ad) ad σ) H → va_D A (wx_w 14 (wM_E cI ad) ad σ) → va_S A s.heap H locs → lv_has ls 6 [(0, .ref (ad 0)), (1, .int x1), (2, .int x2), (4, .int x4), (5, .int x5)] → W p l e rmX9_best s m args below meth c H locs 0 0 Q (F0 m 81 ls [.int s0]) := by
  obtain ⟨⟨hx, hb, hml, hown, hts⟩, hA, hK, hRO, hro⟩ := id C
  intro σ x1 x2 x4 x5 s0 h H locs ls hP hD hS hl
  unfold wpX9_best_81 at h
  refine lv_istore_n (lv' := [(3, .int s0), (0, .ref (ad 0)), (1, .int x1), (2, .int x2), (4, .int x4), (5, .int x5)]) hx hb dX9_best_81 rfl hl (by decide) rfl (fun ls hl => ?_)
  refine lv_iload hx hb dX9_best_82 (lv_at hl 5 rfl) ?_
  refine lv_if_le (tgt := 92) hx hb dX9_best_84 (by decide) (fun c84 => ?_) (fun c84 => ?_)
  · have h := h.1 c84
    refine lv_iload_n hx hb dX9_best_92 rfl (lv_at hl 3 rfl) ?_
    refine lv_istore_n (lv' := [(2, .int x2), (3, .int s0), (0, .ref (ad 0)), (1, .int x1), (4, .int x4), (5, .int x5)]) hx hb dX9_best_93 rfl hl (by decide) rfl (fun ls hl => ?_)
    obtain ⟨t94, e_t94⟩ : ∃ y : Int32, y = x4 + 1 := ⟨_, rfl⟩
    have h := h t94 e_t94
    refine lv_iinc (v := t94) (lv' := [(4, .int t94), (2, .int x2), (3, .int s0), (0, .ref (ad 0)), (1, .int x1), (5, .int x5)]) hx hb dX9_best_94 hl (k := 4) rfl (by rw [e_t94]; rfl) (by decide) rfl (fun ls hl => ?_)
    refine lv_goto (tgt := 26) hx hb dX9_best_97 (by decide) ?_
    exact hC26 σ x1 x2 s0 t94  h _ _ _ hP hD hS (lv_sub hl [3, 4, 1, 2, 0] rfl)
  · have h := h.2 c84
    refine lv_iload hx hb dX9_best_87 (lv_at hl 4 rfl) ?_
    refine lv_goto (tgt := 93) hx hb dX9_best_89 (by decide) ?_
    refine lv_istore_n (lv' := [(2, .int x4), (3, .int s0), (0, .ref (ad 0)), (1, .int x1), (4, .int x4), (5, .int x5)]) hx hb dX9_best_93 rfl hl (by decide) rfl (fun ls hl => ?_)
    obtain ⟨t94_1, e_t94_1⟩ : ∃ y : Int32, y = x4 + 1 := ⟨_, rfl⟩
    have h := h t94_1 e_t94_1
    refine lv_iinc (v := t94_1) (lv' := [(4, .int t94_1), (2, .int x4), (3, .int s0), (0, .ref (ad 0)), (1, .int x1), (5, .int x5)]) hx hb dX9_best_94 hl (k := 4) rfl (by rw [e_t94_1]; rfl) (by decide) rfl (fun ls hl => ?_)
    refine lv_goto (tgt := 26) hx hb dX9_best_97 (by decide) ?_
    exact hC26 σ x1 x4 s0 t94_1  h _ _ _ hP hD hS (lv_sub hl [3, 4, 1, 2, 0] rfl)
set_option maxRecDepth 100000 in
set_option maxHeartbeats 4000000 in
theorem bX9_best_26 {p : Program} {l : Launch} {e : Env} {s : State} {m : MethodId} {args : Array Value} {below : List Frame} {meth : Method} {c : Code} {A : Nat → Prop} {Q : State → Prop} {D : va_G} {cI : ClassId} {ad : Nat → Nat} {K : Int32 → wx_Z → Prop} (C : wx_C p s m args c cX9_best 6 RX9 wsX9_best D [(cI, .int)] wx_T0 A) (Rt : wx_Ri p l e rmX9_best s m args below meth c cX9_best D 14 (wM_E cI ad) ad A K Q) : ∀ (n : Nat) (σ : wx_Z) (x1 : Int32) (x2 : Int32) (x3 : Int32) (x4 : Int32), wpX9_best_26 K n σ x1 x2 x3 x4 → ∀ (H : Heap) (locs : List Loc) (ls : Array Slot), va_P D vwCl (wx_w 14 (wM_E cI ad) ad σ) H → va_D A (wx_w 14 (wM_E cI ad) ad σ) → va_S A s.heap H locs → lv_has ls 6 [(0, .ref (ad 0)), (1, .int x1), (2, .int x2), (3, .int x3), (4, .int x4)] → W p l e rmX9_best s m args below meth c H locs 0 0 Q (F0 m 26 ls []) := by
  obtain ⟨⟨hx, hb, hml, hown, hts⟩, hA, hK, hRO, hro⟩ := id C
  intro n
  induction n with
  | zero => intro σ x1 x2 x3 x4 h; exact h.elim
  | succ n ih =>
    intro σ x1 x2 x3 x4 h H locs ls hP hD hS hl
    unfold wpX9_best_26 at h
    refine lv_iload hx hb dX9_best_26 (lv_at hl 4 rfl) ?_
    refine lv_aload_n hx hb dX9_best_28 rfl (lv_at hl 0 rfl) ?_
    refine wx_ci C hD hS (va_runV (As := []) (rest := [.int x4]) C.1 (mtX9_places (l := l) (D := D) (sz := H.size) h) (cwV 0 hts gX9_best_X9_places rfl rfl rfl nyX9_places ⟨Nat.le_of_ble_eq_true rfl, Nat.le_of_ble_eq_true rfl⟩) (wx_pv C hP hD hS (q := 0) (ci := 9) (Nat.le_of_ble_eq_true rfl) (eM_0 cI ad _) rfl) rfl rfl hl.1 rfl (lv_room (Nat.le_of_ble_eq_true rfl)) dX9_best_29 ⟨Nat.zero_le _, Nat.zero_le _⟩) (fun r29 σ29 H locs h hP hD hS => ?_)
    refine lv_icmp_ge (tgt := 100) hx hb dX9_best_32 (by decide) (fun c32 => ?_) (fun c32 => ?_)
    · have h := h.1 c32
      refine lv_iload_n hx hb dX9_best_100 rfl (lv_at hl 1 rfl) ?_
      refine lv_if_ne (tgt := 108) hx hb dX9_best_101 (by decide) (fun c101 => ?_) (fun c101 => ?_)
      · have h := h.1 c101
        refine lv_iload_n hx hb dX9_best_108 rfl (lv_at hl 1 rfl) ?_
        refine lv_iconst (v := 1) hx hb dX9_best_109 (by decide) ?_
        refine lv_icmp_ne (tgt := 121) hx hb dX9_best_110 (by decide) (fun c110 => ?_) (fun c110 => ?_)
        · have h := h.1 c110
          refine lv_iload_n hx hb dX9_best_121 rfl (lv_at hl 3 rfl) ?_
          exact Rt _ _ _ _ _ _ h hP hD hS dX9_best_122
        · have h := h.2 c110
          refine lv_aload_n hx hb dX9_best_113 rfl (lv_at hl 0 rfl) ?_
          refine lv_iload_n hx hb dX9_best_114 rfl (lv_at hl 2 rfl) ?_
          refine wx_ci C hD hS (va_runV (As := [.int x2]) (rest := []) C.1 (mtX9_signOf (l := l) (D := D) (sz := H.size) h) (cwV 1 hts gX9_best_X9_signOf rfl rfl rfl nyX9_signOf ⟨Nat.le_of_ble_eq_true rfl, Nat.le_of_ble_eq_true rfl⟩) (wx_pv C hP hD hS (q := 0) (ci := 9) (Nat.le_of_ble_eq_true rfl) (eM_0 cI ad _) rfl) rfl rfl hl.1 rfl (lv_room (Nat.le_of_ble_eq_true rfl)) dX9_best_115 ⟨Nat.zero_le _, Nat.zero_le _⟩) (fun r115 σ115 H locs h hP hD hS => ?_)
          refine lv_goto (tgt := 122) hx hb dX9_best_118 (by decide) ?_
          exact Rt _ _ _ _ _ _ h hP hD hS dX9_best_122
      · have h := h.2 c101
        refine lv_iload_n hx hb dX9_best_104 rfl (lv_at hl 2 rfl) ?_
        refine lv_goto (tgt := 122) hx hb dX9_best_105 (by decide) ?_
        exact Rt _ _ _ _ _ _ h hP hD hS dX9_best_122
    · have h := h.2 c32
      refine lv_aload_n hx hb dX9_best_35 rfl (lv_at hl 0 rfl) ?_
      refine lv_iload hx hb dX9_best_36 (lv_at hl 4 rfl) ?_
      refine wx_ci C hD hS (va_runV (As := [.int x4]) (rest := []) C.1 (mtX9_signOf (l := l) (D := D) (sz := H.size) h) (cwV 1 hts gX9_best_X9_signOf rfl rfl rfl nyX9_signOf ⟨Nat.le_of_ble_eq_true rfl, Nat.le_of_ble_eq_true rfl⟩) (wx_pv C hP hD hS (q := 0) (ci := 9) (Nat.le_of_ble_eq_true rfl) (eM_0 cI ad _) rfl) rfl rfl hl.1 rfl (lv_room (Nat.le_of_ble_eq_true rfl)) dX9_best_38 ⟨Nat.zero_le _, Nat.zero_le _⟩) (fun r38 σ38 H locs h hP hD hS => ?_)
      refine wx_ci C hD hS (va_runS (As := [.int r38]) (rest := []) C.1 (mtX9_far (l := l) (D := D) (sz := H.size) h) (va_cwS 1 hts gX9_best_X9_far rfl rfl rfl nyX9_far.2 ⟨Nat.le_of_ble_eq_true rfl, Nat.le_of_ble_eq_true rfl⟩) (wx_ps C hP hD hS) rfl rfl hl.1 rfl (lv_room (Nat.le_of_ble_eq_true rfl)) dX9_best_41 ⟨Nat.zero_le _, Nat.zero_le _⟩) (fun r41 σ41 H locs h hP hD hS => ?_)
      refine lv_aload_n hx hb dX9_best_44 rfl (lv_at hl 0 rfl) ?_
      refine lv_iload_n hx hb dX9_best_45 rfl (lv_at hl 2 rfl) ?_
      refine wx_ci C hD hS (va_runV (As := [.int x2]) (rest := [.int r41]) C.1 (mtX9_signOf (l := l) (D := D) (sz := H.size) h) (cwV 1 hts gX9_best_X9_signOf rfl rfl rfl nyX9_signOf ⟨Nat.le_of_ble_eq_true rfl, Nat.le_of_ble_eq_true rfl⟩) (wx_pv C hP hD hS (q := 0) (ci := 9) (Nat.le_of_ble_eq_true rfl) (eM_0 cI ad _) rfl) rfl rfl hl.1 rfl (lv_room (Nat.le_of_ble_eq_true rfl)) dX9_best_46 ⟨Nat.zero_le _, Nat.zero_le _⟩) (fun r46 σ46 H locs h hP hD hS => ?_)
      refine wx_ci C hD hS (va_runS (As := [.int r46]) (rest := [.int r41]) C.1 (mtX9_far (l := l) (D := D) (sz := H.size) h) (va_cwS 1 hts gX9_best_X9_far rfl rfl rfl nyX9_far.2 ⟨Nat.le_of_ble_eq_true rfl, Nat.le_of_ble_eq_true rfl⟩) (wx_ps C hP hD hS) rfl rfl hl.1 rfl (lv_room (Nat.le_of_ble_eq_true rfl)) dX9_best_49 ⟨Nat.zero_le _, Nat.zero_le _⟩) (fun r49 σ49 H locs h hP hD hS => ?_)
      refine lv_isub hx hb dX9_best_52 ?_
      refine lv_topi (fun t53 e_t53 => ?_)
      have h := h t53 e_t53
      refine lv_istore (lv' := [(5, .int t53), (0, .ref (ad 0)), (1, .int x1), (2, .int x2), (3, .int x3), (4, .int x4)]) hx hb dX9_best_53 hl (by decide) rfl (fun ls hl => ?_)
      refine lv_iload hx hb dX9_best_55 (lv_at hl 0 rfl) ?_
      refine lv_if_gt (tgt := 65) hx hb dX9_best_57 (by decide) (fun c57 => ?_) (fun c57 => ?_)
      · have h := h.1 c57
        refine lv_iconst (v := 1) hx hb dX9_best_65 (by decide) ?_
        refine lv_goto (tgt := 81) hx hb dX9_best_66 (by decide) ?_
        exact bX9_best_81 C Rt ih σ49 x1 x2 x4 t53 1  h _ _ _ hP hD hS (lv_sub hl [1, 2, 3, 5, 0] rfl)
      · have h := h.2 c57
        refine lv_iload hx hb dX9_best_60 (lv_at hl 5 rfl) ?_
        refine lv_if_ne (tgt := 69) hx hb dX9_best_62 (by decide) (fun c62 => ?_) (fun c62 => ?_)
        · have h := h.1 c62
          refine lv_iload hx hb dX9_best_69 (lv_at hl 0 rfl) ?_
          refine lv_if_ne (tgt := 80) hx hb dX9_best_71 (by decide) (fun c71 => ?_) (fun c71 => ?_)
          · have h := h.1 c71
            refine lv_iload_n hx hb dX9_best_80 rfl (lv_at hl 4 rfl) ?_
            exact bX9_best_81 C Rt ih σ49 x1 x2 x4 t53 x3  h _ _ _ hP hD hS (lv_sub hl [1, 2, 3, 5, 0] rfl)
          · have h := h.2 c71
            refine lv_iload_n hx hb dX9_best_74 rfl (lv_at hl 4 rfl) ?_
            refine lv_iconst (v := 1) hx hb dX9_best_75 (by decide) ?_
            refine lv_iadd hx hb dX9_best_76 ?_
            refine lv_goto (tgt := 81) hx hb dX9_best_77 (by decide) ?_
            exact bX9_best_81 C Rt ih σ49 x1 x2 x4 t53 (x3 + 1)  h _ _ _ hP hD hS (lv_sub hl [1, 2, 3, 5, 0] rfl)
        · have h := h.2 c62
          refine lv_iconst (v := 1) hx hb dX9_best_65 (by decide) ?_
          refine lv_goto (tgt := 81) hx hb dX9_best_66 (by decide) ?_
          exact bX9_best_81 C Rt ih σ49 x1 x2 x4 t53 1  h _ _ _ hP hD hS (lv_sub hl [1, 2, 3, 5, 0] rfl)
set_option maxRecDepth 100000 in
set_option maxHeartbeats 4000000 in
theorem mtX9_best {l : Launch} {D : va_G} {cI : ClassId} {ad : Nat → Nat} {sz : Nat} {σ : wx_Z} {x1 : Int32} {K : Int32 → wx_Z → Prop} (h : wpX9_best σ x1 K) : Met l yX9_best wsX9_best rmX9_best (wx_Pre D [(cI, .int)] wx_T0 14 (wM_E cI ad) ad σ sz [.ref (ad 0), .int x1]) (va_Qi K (wx_B D [(cI, .int)] 14 (wM_E cI ad) ad (va_A (wx_w 14 (wM_E cI ad) ad σ) sz)) (va_A (wx_w 14 (wM_E cI ad) ad σ) sz)) 0 0 (va_A (wx_w 14 (wM_E cI ad) ad σ) sz) := by
  unfold wpX9_best at h
  refine wx_meti (cc := cX9_best) (maxL := 6) (own := RX9) rfl (by decide) rfl (Nat.le_of_ble_eq_true rfl) wx_T0_ok ?_
  intro p e s m args below meth c A Q ls C Rt hP hD hS hl
  obtain ⟨⟨hx, hb, hml, hown, hts⟩, hA, hK, hRO, hro⟩ := id C
  have hl : lv_has ls 6 [(0, .ref (ad 0)), (1, .int x1)] := hl
  obtain ⟨H, eH⟩ : ∃ z, z = s.heap := ⟨_, rfl⟩
  obtain ⟨locs, eL⟩ : ∃ z : List Loc, z = [] := ⟨_, rfl⟩
  rw [← eH] at hP
  have hS : va_S A s.heap H locs := by rw [eH, eL]; exact hS
  have goal : W p l e rmX9_best s m args below meth c H locs 0 0 Q (F0 m 0 ls []) := by
    refine lv_iload_n hx hb dX9_best_0 rfl (lv_at hl 1 rfl) ?_
    refine lv_i2l (v := Int32.toInt64 x1) hx hb dX9_best_1 rfl ?_
    refine lv_lconst (v := 0) hx hb dX9_best_2 (by decide) ?_
    refine lv_ldc2 hx hb hown (hts _ (List.mem_of_getElem? (i := 1) rfl)) dX9_best_3 ?_
    refine wx_ci C hD hS (va_runS (As := [.long (Int32.toInt64 x1), .long 0, .long 2]) (rest := []) C.1 (mtX9_in (l := l) (D := D) (sz := H.size) h) (va_cwS 3 hts gX9_best_X9_in rfl rfl rfl nyX9_in.2 ⟨Nat.le_of_ble_eq_true rfl, Nat.le_of_ble_eq_true rfl⟩) (wx_ps C hP hD hS) rfl rfl hl.1 rfl (lv_room (Nat.le_of_ble_eq_true rfl)) dX9_best_6 ⟨Nat.zero_le _, Nat.zero_le _⟩) (fun r6 σ6 H locs h hP hD hS => ?_)
    refine lv_if_ne (tgt := 19) hx hb dX9_best_9 (by decide) (fun c9 => ?_) (fun c9 => ?_)
    · have h := h.1 c9
      refine lv_iconst (v := 0) hx hb dX9_best_19 (by decide) ?_
      refine lv_istore_n (lv' := [(2, .int 0), (0, .ref (ad 0)), (1, .int x1)]) hx hb dX9_best_20 rfl hl (by decide) rfl (fun ls hl => ?_)
      refine lv_iconst (v := 0) hx hb dX9_best_21 (by decide) ?_
      refine lv_istore_n (lv' := [(3, .int 0), (2, .int 0), (0, .ref (ad 0)), (1, .int x1)]) hx hb dX9_best_22 rfl hl (by decide) rfl (fun ls hl => ?_)
      refine lv_iconst (v := 0) hx hb dX9_best_23 (by decide) ?_
      refine lv_istore (lv' := [(4, .int 0), (3, .int 0), (2, .int 0), (0, .ref (ad 0)), (1, .int x1)]) hx hb dX9_best_24 hl (by decide) rfl (fun ls hl => ?_)
      obtain ⟨n26, h⟩ := h
      exact bX9_best_26 C Rt n26 σ6 x1 0 0 0  h _ _ _ hP hD hS (lv_sub hl [3, 4, 2, 1, 0] rfl)
    · have h := h.2 c9
      refine lv_aload_n hx hb dX9_best_12 rfl (lv_at hl 0 rfl) ?_
      refine lv_bipush (v := (-2)) hx hb dX9_best_13 (by decide) ?_
      refine wx_ci C hD hS (va_runV (As := [.int (-2)]) (rest := []) C.1 (mtX9_bad (l := l) (D := D) (sz := H.size) h) (cwV 1 hts gX9_best_X9_bad rfl rfl rfl nyX9_bad ⟨Nat.le_of_ble_eq_true rfl, Nat.le_of_ble_eq_true rfl⟩) (wx_pv C hP hD hS (q := 0) (ci := 9) (Nat.le_of_ble_eq_true rfl) (eM_0 cI ad _) rfl) rfl rfl hl.1 rfl (lv_room (Nat.le_of_ble_eq_true rfl)) dX9_best_15 ⟨Nat.zero_le _, Nat.zero_le _⟩) (fun r15 σ15 H locs h hP hD hS => ?_)
      exact Rt _ _ _ _ _ _ h hP hD hS dX9_best_18
  rw [eH, eL] at goal
  exact goal
abbrev rmX9_isFew : Room := { frames := 5, cells := 0, slots := 0, locals := 123 }
set_option maxRecDepth 100000 in
set_option maxHeartbeats 4000000 in
theorem mtX9_isFew {l : Launch} {D : va_G} {cI : ClassId} {ad : Nat → Nat} {sz : Nat} {σ : wx_Z} {K : Int32 → wx_Z → Prop} (h : wpX9_isFew σ K) : Met l yX9_isFew wsX9_isFew rmX9_isFew (wx_Pre D [(cI, .int)] wx_T0 14 (wM_E cI ad) ad σ sz [.ref (ad 0)]) (va_Qi K (wx_B D [(cI, .int)] 14 (wM_E cI ad) ad (va_A (wx_w 14 (wM_E cI ad) ad σ) sz)) (va_A (wx_w 14 (wM_E cI ad) ad σ) sz)) 0 0 (va_A (wx_w 14 (wM_E cI ad) ad σ) sz) := by
  unfold wpX9_isFew at h
  refine wx_metz (cc := cX9_isFew) (maxL := 1) (own := RX9) rfl (by decide) rfl (Nat.le_of_ble_eq_true rfl) wx_T0_ok ?_
  intro p e s m args below meth c A Q ls C Rt hP hD hS hl
  obtain ⟨⟨hx, hb, hml, hown, hts⟩, hA, hK, hRO, hro⟩ := id C
  have hl : lv_has ls 1 [(0, .ref (ad 0))] := hl
  obtain ⟨H, eH⟩ : ∃ z, z = s.heap := ⟨_, rfl⟩
  obtain ⟨locs, eL⟩ : ∃ z : List Loc, z = [] := ⟨_, rfl⟩
  rw [← eH] at hP
  have hS : va_S A s.heap H locs := by rw [eH, eL]; exact hS
  have goal : W p l e rmX9_isFew s m args below meth c H locs 0 0 Q (F0 m 0 ls []) := by
    refine lv_aload_n hx hb dX9_isFew_0 rfl (lv_at hl 0 rfl) ?_
    refine wx_ci C hD hS (va_runV (As := []) (rest := []) C.1 (mtX9_many (l := l) (D := D) (sz := H.size) h) (cwV 0 hts gX9_isFew_X9_many rfl rfl rfl nyX9_many ⟨Nat.le_of_ble_eq_true rfl, Nat.le_of_ble_eq_true rfl⟩) (wx_pv C hP hD hS (q := 0) (ci := 9) (Nat.le_of_ble_eq_true rfl) (eM_0 cI ad _) rfl) rfl rfl hl.1 rfl (lv_room (Nat.le_of_ble_eq_true rfl)) dX9_isFew_1 ⟨Nat.zero_le _, Nat.zero_le _⟩) (fun r1 σ1 H locs h hP hD hS => ?_)
    refine lv_bipush (v := 16) hx hb dX9_isFew_4 (by decide) ?_
    refine lv_icmp_gt (tgt := 13) hx hb dX9_isFew_6 (by decide) (fun c6 => ?_) (fun c6 => ?_)
    · have h := h.1 c6
      refine lv_iconst (v := 0) hx hb dX9_isFew_13 (by decide) ?_
      exact Rt _ _ _ _ _ _ rfl h hP hD hS dX9_isFew_14
    · have h := h.2 c6
      refine lv_iconst (v := 1) hx hb dX9_isFew_9 (by decide) ?_
      refine lv_goto (tgt := 14) hx hb dX9_isFew_10 (by decide) ?_
      exact Rt _ _ _ _ _ _ rfl h hP hD hS dX9_isFew_14
  rw [eH, eL] at goal
  exact goal
abbrev rmX9_laysBasis : Room := { frames := 5, cells := 0, slots := 0, locals := 123 }
set_option maxRecDepth 20000 in
theorem inX9_laysBasis_X9 : ∀ w ∈ u_ws RX9 TX9 27, w ∈ wsX9_laysBasis := by decide +kernel
set_option maxRecDepth 100000 in
set_option maxHeartbeats 4000000 in
theorem bX9_laysBasis_7 {p : Program} {l : Launch} {e : Env} {s : State} {m : MethodId} {args : Array Value} {below : List Frame} {meth : Method} {c : Code} {A : Nat → Prop} {Q : State → Prop} {D : va_G} {cI : ClassId} {ad : Nat → Nat} {K : wx_Z → Prop} (C : wx_C p s m args c cX9_laysBasis 3 RX9 wsX9_laysBasis D [(cI, .int)] wx_T0 A) (Rt : wx_Rv p l e rmX9_laysBasis s m args below meth c cX9_laysBasis D 14 (wM_E cI ad) ad A K Q) : ∀ (n : Nat) (σ : wx_Z) (x1 : Int32) (x2 : Int32), wpX9_laysBasis_7 K n σ x1 x2 → ∀ (H : Heap) (locs : List Loc) (ls : Array Slot), va_P D vwCl (wx_w 14 (wM_E cI ad) ad σ) H → va_D A (wx_w 14 (wM_E cI ad) ad σ) → va_S A s.heap H locs → lv_has ls 3 [(0, .ref (ad 0)), (1, .int x1), (2, .int x2)] → W p l e rmX9_laysBasis s m args below meth c H locs 0 0 Q (F0 m 7 ls []) := by
  obtain ⟨⟨hx, hb, hml, hown, hts⟩, hA, hK, hRO, hro⟩ := id C
  intro n
  induction n with
  | zero => intro σ x1 x2 h; exact h.elim
  | succ n ih =>
    intro σ x1 x2 h H locs ls hP hD hS hl
    unfold wpX9_laysBasis_7 at h
    refine lv_iload_n hx hb dX9_laysBasis_7 rfl (lv_at hl 2 rfl) ?_
    refine lv_iload_n hx hb dX9_laysBasis_8 rfl (lv_at hl 1 rfl) ?_
    refine lv_icmp_ge (tgt := 34) hx hb dX9_laysBasis_9 (by decide) (fun c9 => ?_) (fun c9 => ?_)
    · have h := h.1 c9
      exact Rt _ _ _ _ _ h hP hD hS dX9_laysBasis_34
    · have h := h.2 c9
      refine lv_aload_n hx hb dX9_laysBasis_12 rfl (lv_at hl 0 rfl) ?_
      refine wx_get C hP (q := 0) (ci := 9) (Nat.le_of_ble_eq_true rfl) (eM_0 cI ad _) (Cn := RX9) (T := TX9) (Nf := 27) rfl inX9_laysBasis_X9 11 (by decide) (List.mem_of_getElem? (i := 1) rfl) (v := .ref (ad 5)) rfl dX9_laysBasis_13 ?_
      refine lv_iload_n hx hb dX9_laysBasis_16 rfl (lv_at hl 2 rfl) ?_
      refine lv_aload_n hx hb dX9_laysBasis_17 rfl (lv_at hl 0 rfl) ?_
      refine lv_aload_n hx hb dX9_laysBasis_18 rfl (lv_at hl 0 rfl) ?_
      refine wx_get C hP (q := 0) (ci := 9) (Nat.le_of_ble_eq_true rfl) (eM_0 cI ad _) (Cn := RX9) (T := TX9) (Nf := 27) rfl inX9_laysBasis_X9 4 (by decide) (List.mem_of_getElem? (i := 2) rfl) (v := .ref (ad 4)) rfl dX9_laysBasis_19 ?_
      refine lv_iload_n hx hb dX9_laysBasis_22 rfl (lv_at hl 2 rfl) ?_
      refine wx_ild C hP (q := 4) (Nat.le_of_ble_eq_true rfl) (fun _ => rfl) 0 rfl h.1 dX9_laysBasis_23 ?_
      have h := h.2
      refine wx_ci C hD hS (va_runV (As := [.int (σ 4 (Int32.toNatClampNeg x2))]) (rest := [.int x2, .ref (ad 5)]) C.1 (mtX9_wordOf (l := l) (D := D) (sz := H.size) h) (cwV 1 hts gX9_laysBasis_X9_wordOf rfl rfl rfl nyX9_wordOf ⟨Nat.le_of_ble_eq_true rfl, Nat.le_of_ble_eq_true rfl⟩) (wx_pv C hP hD hS (q := 0) (ci := 9) (Nat.le_of_ble_eq_true rfl) (eM_0 cI ad _) rfl) rfl rfl hl.1 rfl (lv_room (Nat.le_of_ble_eq_true rfl)) dX9_laysBasis_24 ⟨Nat.zero_le _, Nat.zero_le _⟩) (fun r24 σ24 H locs h hP hD hS => ?_)
      refine wx_ist C hP hD hS (q := 5) (Nat.le_of_ble_eq_true rfl) (fun _ => rfl) 0 rfl h.1 dX9_laysBasis_27 (fun H locs hP hD hS => ?_)
      generalize e_σ27 : wx_up σ24 5 (Int32.toNatClampNeg x2) r24 = σ27 at hP hD
      have h := h.2 σ27 e_σ27.symm
      obtain ⟨t28, e_t28⟩ : ∃ y : Int32, y = x2 + 1 := ⟨_, rfl⟩
      have h := h t28 e_t28
      refine lv_iinc (v := t28) (lv' := [(2, .int t28), (0, .ref (ad 0)), (1, .int x1)]) hx hb dX9_laysBasis_28 hl (k := 2) rfl (by rw [e_t28]; rfl) (by decide) rfl (fun ls hl => ?_)
      refine lv_goto (tgt := 7) hx hb dX9_laysBasis_31 (by decide) ?_
      exact ih σ27 x1 t28  h _ _ _ hP hD hS (lv_sub hl [1, 2, 0] rfl)
set_option maxRecDepth 100000 in
set_option maxHeartbeats 4000000 in
theorem mtX9_laysBasis {l : Launch} {D : va_G} {cI : ClassId} {ad : Nat → Nat} {sz : Nat} {σ : wx_Z} {K : wx_Z → Prop} (h : wpX9_laysBasis σ K) : Met l yX9_laysBasis wsX9_laysBasis rmX9_laysBasis (wx_Pre D [(cI, .int)] wx_T0 14 (wM_E cI ad) ad σ sz [.ref (ad 0)]) (va_Qv K (wx_B D [(cI, .int)] 14 (wM_E cI ad) ad (va_A (wx_w 14 (wM_E cI ad) ad σ) sz)) (va_A (wx_w 14 (wM_E cI ad) ad σ) sz)) 0 0 (va_A (wx_w 14 (wM_E cI ad) ad σ) sz) := by
  unfold wpX9_laysBasis at h
  refine wx_metv (cc := cX9_laysBasis) (maxL := 3) (own := RX9) rfl (by decide) rfl (Nat.le_of_ble_eq_true rfl) wx_T0_ok ?_
  intro p e s m args below meth c A Q ls C Rt hP hD hS hl
  obtain ⟨⟨hx, hb, hml, hown, hts⟩, hA, hK, hRO, hro⟩ := id C
  have hl : lv_has ls 3 [(0, .ref (ad 0))] := hl
  obtain ⟨H, eH⟩ : ∃ z, z = s.heap := ⟨_, rfl⟩
  obtain ⟨locs, eL⟩ : ∃ z : List Loc, z = [] := ⟨_, rfl⟩
  rw [← eH] at hP
  have hS : va_S A s.heap H locs := by rw [eH, eL]; exact hS
  have goal : W p l e rmX9_laysBasis s m args below meth c H locs 0 0 Q (F0 m 0 ls []) := by
    refine lv_aload_n hx hb dX9_laysBasis_0 rfl (lv_at hl 0 rfl) ?_
    refine wx_ci C hD hS (va_runV (As := []) (rest := []) C.1 (mtX9_many (l := l) (D := D) (sz := H.size) h) (cwV 0 hts gX9_laysBasis_X9_many rfl rfl rfl nyX9_many ⟨Nat.le_of_ble_eq_true rfl, Nat.le_of_ble_eq_true rfl⟩) (wx_pv C hP hD hS (q := 0) (ci := 9) (Nat.le_of_ble_eq_true rfl) (eM_0 cI ad _) rfl) rfl rfl hl.1 rfl (lv_room (Nat.le_of_ble_eq_true rfl)) dX9_laysBasis_1 ⟨Nat.zero_le _, Nat.zero_le _⟩) (fun r1 σ1 H locs h hP hD hS => ?_)
    refine lv_istore_n (lv' := [(1, .int r1), (0, .ref (ad 0))]) hx hb dX9_laysBasis_4 rfl hl (by decide) rfl (fun ls hl => ?_)
    refine lv_iconst (v := 0) hx hb dX9_laysBasis_5 (by decide) ?_
    refine lv_istore_n (lv' := [(2, .int 0), (1, .int r1), (0, .ref (ad 0))]) hx hb dX9_laysBasis_6 rfl hl (by decide) rfl (fun ls hl => ?_)
    obtain ⟨n7, h⟩ := h
    exact bX9_laysBasis_7 C Rt n7 σ1 r1 0  h _ _ _ hP hD hS (lv_sub hl [2, 1, 0] rfl)
  rw [eH, eL] at goal
  exact goal
abbrev rmX9_finds : Room := { frames := 6, cells := 0, slots := 0, locals := 145 }
set_option maxRecDepth 20000 in
theorem inX9_finds_X9 : ∀ w ∈ u_ws RX9 TX9 27, w ∈ wsX9_finds := by decide +kernel
theorem nyX9_laysBasis : yX9_laysBasis.cls = RX9 ∧ yX9_laysBasis.cls ≠ "java/lang/invoke/MethodHandle" ∧ yX9_laysBasis.cls ≠ "java/lang/invoke/VarHandle" ∧ (parseMethodDescriptor yX9_laysBasis.desc).map (fun d => d.parameters.length) = some 0 := by decide +kernel
set_option maxRecDepth 100000 in
set_option maxHeartbeats 4000000 in
theorem bX9_finds_151 {p : Program} {l : Launch} {e : Env} {s : State} {m : MethodId} {args : Array Value} {below : List Frame} {meth : Method} {c : Code} {A : Nat → Prop} {Q : State → Prop} {D : va_G} {cI : ClassId} {ad : Nat → Nat} {K : wx_Z → Prop} {C34 : wx_Z → Int32 → Int32 → Int32 → Prop} (C : wx_C p s m args c cX9_finds 6 RX9 wsX9_finds D [(cI, .int)] wx_T0 A) (Rt : wx_Rv p l e rmX9_finds s m args below meth c cX9_finds D 14 (wM_E cI ad) ad A K Q) (hC34 : ∀ (σ : wx_Z) (x1 : Int32) (x2 : Int32) (x3 : Int32), C34 σ x1 x2 x3 → ∀ (H : Heap) (locs : List Loc) (ls : Array Slot), va_P D vwCl (wx_w 14 (wM_E cI ad) ad σ) H → va_D A (wx_w 14 (wM_E cI ad) ad σ) → va_S A s.heap H locs → lv_has ls 6 [(0, .ref (ad 0)), (1, .int x1), (2, .int x2), (3, .int x3)] → W p l e rmX9_finds s m args below meth c H locs 0 0 Q (F0 m 34 ls [])) : ∀ (σ : wx_Z) (x1 : Int32) (x2 : Int32) (x3 : Int32) (x5 : Int32) (s1 : Int32), wpX9_finds_151 K C34 σ x1 x2 x3 x5 s1 → ∀ (H : Heap) (locs : List Loc) (ls : Array Slot), va_P D vwCl (wx_w 14 (wM_E cI ad) ad σ) H → va_D A (wx_w 14 (wM_E cI ad) ad σ) → va_S A s.heap H locs → lv_has ls 6 [(0, .ref (ad 0)), (1, .int x1), (2, .int x2), (3, .int x3), (5, .int x5)] → W p l e rmX9_finds s m args below meth c H locs 0 0 Q (F0 m 151 ls [.int s1, .ref (ad 0)]) := by
  obtain ⟨⟨hx, hb, hml, hown, hts⟩, hA, hK, hRO, hro⟩ := id C
  intro σ x1 x2 x3 x5 s1 h H locs ls hP hD hS hl
  unfold wpX9_finds_151 at h
  refine wx_put C hP hD hS (q := 0) (ci := 9) (Nat.le_of_ble_eq_true rfl) (eM_0 cI ad _) (Cn := RX9) (T := TX9) (Nf := 27) rfl inX9_finds_X9 tyX9 tyX9_ok nmX9 12 (by decide) (List.mem_of_getElem? (i := 1) rfl) rfl rfl (Nat.le_of_ble_eq_true rfl) rfl dX9_finds_151 (fun H locs hP hD hS => ?_)
  generalize e_σ151 : wx_up σ 0 12 s1 = σ151 at hP hD
  have h := h σ151 e_σ151.symm
  refine lv_aload_n hx hb dX9_finds_154 rfl (lv_at hl 0 rfl) ?_
  refine lv_iload hx hb dX9_finds_155 (lv_at hl 4 rfl) ?_
  refine lv_aload_n hx hb dX9_finds_157 rfl (lv_at hl 0 rfl) ?_
  refine wx_get C hP (q := 0) (ci := 9) (Nat.le_of_ble_eq_true rfl) (eM_0 cI ad _) (Cn := RX9) (T := TX9) (Nf := 27) rfl inX9_finds_X9 13 (by decide) (List.mem_of_getElem? (i := 2) rfl) (v := .int (σ151 0 13)) rfl dX9_finds_158 ?_
  refine lv_icmp_ge (tgt := 169) hx hb dX9_finds_161 (by decide) (fun c161 => ?_) (fun c161 => ?_)
  · have h := h.1 c161
    refine lv_aload_n hx hb dX9_finds_169 rfl (lv_at hl 0 rfl) ?_
    refine wx_get C hP (q := 0) (ci := 9) (Nat.le_of_ble_eq_true rfl) (eM_0 cI ad _) (Cn := RX9) (T := TX9) (Nf := 27) rfl inX9_finds_X9 13 (by decide) (List.mem_of_getElem? (i := 2) rfl) (v := .int (σ151 0 13)) rfl dX9_finds_170 ?_
    refine wx_put C hP hD hS (q := 0) (ci := 9) (Nat.le_of_ble_eq_true rfl) (eM_0 cI ad _) (Cn := RX9) (T := TX9) (Nf := 27) rfl inX9_finds_X9 tyX9 tyX9_ok nmX9 13 (by decide) (List.mem_of_getElem? (i := 2) rfl) rfl rfl (Nat.le_of_ble_eq_true rfl) rfl dX9_finds_173 (fun H locs hP hD hS => ?_)
    generalize e_σ173 : wx_up σ151 0 13 (σ151 0 13) = σ173 at hP hD
    have h := h σ173 e_σ173.symm
    obtain ⟨t176, e_t176⟩ : ∃ y : Int32, y = x3 + 1 := ⟨_, rfl⟩
    have h := h t176 e_t176
    refine lv_iinc (v := t176) (lv' := [(3, .int t176), (0, .ref (ad 0)), (1, .int x1), (2, .int x2), (5, .int x5)]) hx hb dX9_finds_176 hl (k := 3) rfl (by rw [e_t176]; rfl) (by decide) rfl (fun ls hl => ?_)
    refine lv_goto (tgt := 34) hx hb dX9_finds_179 (by decide) ?_
    exact hC34 σ173 x1 x2 t176  h _ _ _ hP hD hS (lv_sub hl [1, 2, 3, 0] rfl)
  · have h := h.2 c161
    refine lv_iload hx hb dX9_finds_164 (lv_at hl 4 rfl) ?_
    refine lv_goto (tgt := 173) hx hb dX9_finds_166 (by decide) ?_
    refine wx_put C hP hD hS (q := 0) (ci := 9) (Nat.le_of_ble_eq_true rfl) (eM_0 cI ad _) (Cn := RX9) (T := TX9) (Nf := 27) rfl inX9_finds_X9 tyX9 tyX9_ok nmX9 13 (by decide) (List.mem_of_getElem? (i := 2) rfl) rfl rfl (Nat.le_of_ble_eq_true rfl) rfl dX9_finds_173 (fun H locs hP hD hS => ?_)
    generalize e_σ173_1 : wx_up σ151 0 13 x5 = σ173_1 at hP hD
    have h := h σ173_1 e_σ173_1.symm
    obtain ⟨t176_1, e_t176_1⟩ : ∃ y : Int32, y = x3 + 1 := ⟨_, rfl⟩
    have h := h t176_1 e_t176_1
    refine lv_iinc (v := t176_1) (lv' := [(3, .int t176_1), (0, .ref (ad 0)), (1, .int x1), (2, .int x2), (5, .int x5)]) hx hb dX9_finds_176 hl (k := 3) rfl (by rw [e_t176_1]; rfl) (by decide) rfl (fun ls hl => ?_)
    refine lv_goto (tgt := 34) hx hb dX9_finds_179 (by decide) ?_
    exact hC34 σ173_1 x1 x2 t176_1  h _ _ _ hP hD hS (lv_sub hl [1, 2, 3, 0] rfl)
set_option maxRecDepth 100000 in
set_option maxHeartbeats 4000000 in
theorem bX9_finds_130 {p : Program} {l : Launch} {e : Env} {s : State} {m : MethodId} {args : Array Value} {below : List Frame} {meth : Method} {c : Code} {A : Nat → Prop} {Q : State → Prop} {D : va_G} {cI : ClassId} {ad : Nat → Nat} {K : wx_Z → Prop} {C34 : wx_Z → Int32 → Int32 → Int32 → Prop} (C : wx_C p s m args c cX9_finds 6 RX9 wsX9_finds D [(cI, .int)] wx_T0 A) (Rt : wx_Rv p l e rmX9_finds s m args below meth c cX9_finds D 14 (wM_E cI ad) ad A K Q) (hC34 : ∀ (σ : wx_Z) (x1 : Int32) (x2 : Int32) (x3 : Int32), C34 σ x1 x2 x3 → ∀ (H : Heap) (locs : List Loc) (ls : Array Slot), va_P D vwCl (wx_w 14 (wM_E cI ad) ad σ) H → va_D A (wx_w 14 (wM_E cI ad) ad σ) → va_S A s.heap H locs → lv_has ls 6 [(0, .ref (ad 0)), (1, .int x1), (2, .int x2), (3, .int x3)] → W p l e rmX9_finds s m args below meth c H locs 0 0 Q (F0 m 34 ls [])) : ∀ (σ : wx_Z) (x1 : Int32) (x2 : Int32) (x3 : Int32) (x5 : Int32) (s1 : Int32), wpX9_finds_130 K C34 σ x1 x2 x3 x5 s1 → ∀ (H : Heap) (locs : List Loc) (ls : Array Slot), va_P D vwCl (wx_w 14 (wM_E cI ad) ad σ) H → va_D A (wx_w 14 (wM_E cI ad) ad σ) → va_S A s.heap H locs → lv_has ls 6 [(0, .ref (ad 0)), (1, .int x1), (2, .int x2), (3, .int x3), (5, .int x5)] → W p l e rmX9_finds s m args below meth c H locs 0 0 Q (F0 m 130 ls [.int s1, .ref (ad 0)]) := by
  obtain ⟨⟨hx, hb, hml, hown, hts⟩, hA, hK, hRO, hro⟩ := id C
  intro σ x1 x2 x3 x5 s1 h H locs ls hP hD hS hl
  unfold wpX9_finds_130 at h
  refine wx_put C hP hD hS (q := 0) (ci := 9) (Nat.le_of_ble_eq_true rfl) (eM_0 cI ad _) (Cn := RX9) (T := TX9) (Nf := 27) rfl inX9_finds_X9 tyX9 tyX9_ok nmX9 14 (by decide) (List.mem_of_getElem? (i := 3) rfl) rfl rfl (Nat.le_of_ble_eq_true rfl) rfl dX9_finds_130 (fun H locs hP hD hS => ?_)
  generalize e_σ130 : wx_up σ 0 14 s1 = σ130 at hP hD
  have h := h σ130 e_σ130.symm
  refine lv_aload_n hx hb dX9_finds_133 rfl (lv_at hl 0 rfl) ?_
  refine lv_iload hx hb dX9_finds_134 (lv_at hl 4 rfl) ?_
  refine lv_aload_n hx hb dX9_finds_136 rfl (lv_at hl 0 rfl) ?_
  refine wx_get C hP (q := 0) (ci := 9) (Nat.le_of_ble_eq_true rfl) (eM_0 cI ad _) (Cn := RX9) (T := TX9) (Nf := 27) rfl inX9_finds_X9 13 (by decide) (List.mem_of_getElem? (i := 2) rfl) (v := .int (σ130 0 13)) rfl dX9_finds_137 ?_
  refine lv_icmp_ge (tgt := 147) hx hb dX9_finds_140 (by decide) (fun c140 => ?_) (fun c140 => ?_)
  · have h := h.1 c140
    refine lv_aload_n hx hb dX9_finds_147 rfl (lv_at hl 0 rfl) ?_
    refine wx_get C hP (q := 0) (ci := 9) (Nat.le_of_ble_eq_true rfl) (eM_0 cI ad _) (Cn := RX9) (T := TX9) (Nf := 27) rfl inX9_finds_X9 12 (by decide) (List.mem_of_getElem? (i := 1) rfl) (v := .int (σ130 0 12)) rfl dX9_finds_148 ?_
    exact bX9_finds_151 C Rt hC34 σ130 x1 x2 x3 x5 (σ130 0 12)  h _ _ _ hP hD hS (lv_sub hl [0, 1, 2, 3, 4] rfl)
  · have h := h.2 c140
    refine lv_iload_n hx hb dX9_finds_143 rfl (lv_at hl 1 rfl) ?_
    refine lv_goto (tgt := 151) hx hb dX9_finds_144 (by decide) ?_
    exact bX9_finds_151 C Rt hC34 σ130 x1 x2 x3 x5 x1  h _ _ _ hP hD hS (lv_sub hl [0, 1, 2, 3, 4] rfl)
set_option maxRecDepth 100000 in
set_option maxHeartbeats 4000000 in
theorem bX9_finds_83 {p : Program} {l : Launch} {e : Env} {s : State} {m : MethodId} {args : Array Value} {below : List Frame} {meth : Method} {c : Code} {A : Nat → Prop} {Q : State → Prop} {D : va_G} {cI : ClassId} {ad : Nat → Nat} {K : wx_Z → Prop} {C34 : wx_Z → Int32 → Int32 → Int32 → Prop} (C : wx_C p s m args c cX9_finds 6 RX9 wsX9_finds D [(cI, .int)] wx_T0 A) (Rt : wx_Rv p l e rmX9_finds s m args below meth c cX9_finds D 14 (wM_E cI ad) ad A K Q) (hC34 : ∀ (σ : wx_Z) (x1 : Int32) (x2 : Int32) (x3 : Int32), C34 σ x1 x2 x3 → ∀ (H : Heap) (locs : List Loc) (ls : Array Slot), va_P D vwCl (wx_w 14 (wM_E cI ad) ad σ) H → va_D A (wx_w 14 (wM_E cI ad) ad σ) → va_S A s.heap H locs → lv_has ls 6 [(0, .ref (ad 0)), (1, .int x1), (2, .int x2), (3, .int x3)] → W p l e rmX9_finds s m args below meth c H locs 0 0 Q (F0 m 34 ls [])) : ∀ (σ : wx_Z) (x1 : Int32) (x2 : Int32) (x3 : Int32), wpX9_finds_83 K C34 σ x1 x2 x3 → ∀ (H : Heap) (locs : List Loc) (ls : Array Slot), va_P D vwCl (wx_w 14 (wM_E cI ad) ad σ) H → va_D A (wx_w 14 (wM_E cI ad) ad σ) → va_S A s.heap H locs → lv_has ls 6 [(0, .ref (ad 0)), (1, .int x1), (2, .int x2), (3, .int x3)] → W p l e rmX9_finds s m args below meth c H locs 0 0 Q (F0 m 83 ls []) := by
  obtain ⟨⟨hx, hb, hml, hown, hts⟩, hA, hK, hRO, hro⟩ := id C
  intro σ x1 x2 x3 h H locs ls hP hD hS hl
  unfold wpX9_finds_83 at h
  refine lv_iload_n hx hb dX9_finds_83 rfl (lv_at hl 1 rfl) ?_
  refine lv_aload_n hx hb dX9_finds_84 rfl (lv_at hl 0 rfl) ?_
  refine wx_ci C hD hS (va_runV (As := []) (rest := [.int x1]) C.1 (mtX9_theWord (l := l) (D := D) (sz := H.size) h) (cwV 0 hts gX9_finds_X9_theWord rfl rfl rfl nyX9_theWord ⟨Nat.le_of_ble_eq_true rfl, Nat.le_of_ble_eq_true rfl⟩) (wx_pv C hP hD hS (q := 0) (ci := 9) (Nat.le_of_ble_eq_true rfl) (eM_0 cI ad _) rfl) rfl rfl hl.1 rfl (lv_room (Nat.le_of_ble_eq_true rfl)) dX9_finds_85 ⟨Nat.zero_le _, Nat.zero_le _⟩) (fun r85 σ85 H locs h hP hD hS => ?_)
  refine lv_ixor hx hb dX9_finds_88 ?_
  refine wx_ci C hD hS (va_runS (As := [.int (x1 ^^^ r85)]) (rest := []) C.1 (mtX9_bits (l := l) (D := D) (sz := H.size) h) (va_cwS 1 hts gX9_finds_X9_bits rfl rfl rfl nyX9_bits.2 ⟨Nat.le_of_ble_eq_true rfl, Nat.le_of_ble_eq_true rfl⟩) (wx_ps C hP hD hS) rfl rfl hl.1 rfl (lv_room (Nat.le_of_ble_eq_true rfl)) dX9_finds_89 ⟨Nat.zero_le _, Nat.zero_le _⟩) (fun r89 σ89 H locs h hP hD hS => ?_)
  refine lv_istore (lv' := [(5, .int r89), (0, .ref (ad 0)), (1, .int x1), (2, .int x2), (3, .int x3)]) hx hb dX9_finds_92 hl (by decide) rfl (fun ls hl => ?_)
  refine lv_aload_n hx hb dX9_finds_94 rfl (lv_at hl 1 rfl) ?_
  refine lv_iload hx hb dX9_finds_95 (lv_at hl 0 rfl) ?_
  refine lv_aload_n hx hb dX9_finds_97 rfl (lv_at hl 1 rfl) ?_
  refine wx_get C hP (q := 0) (ci := 9) (Nat.le_of_ble_eq_true rfl) (eM_0 cI ad _) (Cn := RX9) (T := TX9) (Nf := 27) rfl inX9_finds_X9 13 (by decide) (List.mem_of_getElem? (i := 2) rfl) (v := .int (σ89 0 13)) rfl dX9_finds_98 ?_
  refine lv_icmp_ge (tgt := 108) hx hb dX9_finds_101 (by decide) (fun c101 => ?_) (fun c101 => ?_)
  · have h := h.1 c101
    refine lv_iload hx hb dX9_finds_108 (lv_at hl 0 rfl) ?_
    refine lv_aload_n hx hb dX9_finds_110 rfl (lv_at hl 1 rfl) ?_
    refine wx_get C hP (q := 0) (ci := 9) (Nat.le_of_ble_eq_true rfl) (eM_0 cI ad _) (Cn := RX9) (T := TX9) (Nf := 27) rfl inX9_finds_X9 13 (by decide) (List.mem_of_getElem? (i := 2) rfl) (v := .int (σ89 0 13)) rfl dX9_finds_111 ?_
    refine lv_icmp_ne (tgt := 126) hx hb dX9_finds_114 (by decide) (fun c114 => ?_) (fun c114 => ?_)
    · have h := h.1 c114
      refine lv_aload_n hx hb dX9_finds_126 rfl (lv_at hl 1 rfl) ?_
      refine wx_get C hP (q := 0) (ci := 9) (Nat.le_of_ble_eq_true rfl) (eM_0 cI ad _) (Cn := RX9) (T := TX9) (Nf := 27) rfl inX9_finds_X9 14 (by decide) (List.mem_of_getElem? (i := 3) rfl) (v := .int (σ89 0 14)) rfl dX9_finds_127 ?_
      exact bX9_finds_130 C Rt hC34 σ89 x1 x2 x3 r89 (σ89 0 14)  h _ _ _ hP hD hS (lv_sub hl [1, 2, 3, 4, 0] rfl)
    · have h := h.2 c114
      refine lv_aload_n hx hb dX9_finds_117 rfl (lv_at hl 1 rfl) ?_
      refine wx_get C hP (q := 0) (ci := 9) (Nat.le_of_ble_eq_true rfl) (eM_0 cI ad _) (Cn := RX9) (T := TX9) (Nf := 27) rfl inX9_finds_X9 14 (by decide) (List.mem_of_getElem? (i := 3) rfl) (v := .int (σ89 0 14)) rfl dX9_finds_118 ?_
      refine lv_iconst (v := 1) hx hb dX9_finds_121 (by decide) ?_
      refine lv_iadd hx hb dX9_finds_122 ?_
      refine lv_goto (tgt := 130) hx hb dX9_finds_123 (by decide) ?_
      exact bX9_finds_130 C Rt hC34 σ89 x1 x2 x3 r89 ((σ89 0 14) + 1)  h _ _ _ hP hD hS (lv_sub hl [1, 2, 3, 4, 0] rfl)
  · have h := h.2 c101
    refine lv_iconst (v := 1) hx hb dX9_finds_104 (by decide) ?_
    refine lv_goto (tgt := 130) hx hb dX9_finds_105 (by decide) ?_
    exact bX9_finds_130 C Rt hC34 σ89 x1 x2 x3 r89 1  h _ _ _ hP hD hS (lv_sub hl [1, 2, 3, 4, 0] rfl)
set_option maxRecDepth 100000 in
set_option maxHeartbeats 4000000 in
theorem bX9_finds_51 {p : Program} {l : Launch} {e : Env} {s : State} {m : MethodId} {args : Array Value} {below : List Frame} {meth : Method} {c : Code} {A : Nat → Prop} {Q : State → Prop} {D : va_G} {cI : ClassId} {ad : Nat → Nat} {K : wx_Z → Prop} {C34 : wx_Z → Int32 → Int32 → Int32 → Prop} (C : wx_C p s m args c cX9_finds 6 RX9 wsX9_finds D [(cI, .int)] wx_T0 A) (Rt : wx_Rv p l e rmX9_finds s m args below meth c cX9_finds D 14 (wM_E cI ad) ad A K Q) (hC34 : ∀ (σ : wx_Z) (x1 : Int32) (x2 : Int32) (x3 : Int32), C34 σ x1 x2 x3 → ∀ (H : Heap) (locs : List Loc) (ls : Array Slot), va_P D vwCl (wx_w 14 (wM_E cI ad) ad σ) H → va_D A (wx_w 14 (wM_E cI ad) ad σ) → va_S A s.heap H locs → lv_has ls 6 [(0, .ref (ad 0)), (1, .int x1), (2, .int x2), (3, .int x3)] → W p l e rmX9_finds s m args below meth c H locs 0 0 Q (F0 m 34 ls [])) : ∀ (n : Nat) (σ : wx_Z) (x1 : Int32) (x2 : Int32) (x3 : Int32) (x4 : Int32) (x5 : Int32), wpX9_finds_51 K C34 n σ x1 x2 x3 x4 x5 → ∀ (H : Heap) (locs : List Loc) (ls : Array Slot), va_P D vwCl (wx_w 14 (wM_E cI ad) ad σ) H → va_D A (wx_w 14 (wM_E cI ad) ad σ) → va_S A s.heap H locs → lv_has ls 6 [(0, .ref (ad 0)), (1, .int x1), (2, .int x2), (3, .int x3), (4, .int x4), (5, .int x5)] → W p l e rmX9_finds s m args below meth c H locs 0 0 Q (F0 m 51 ls []) := by
  obtain ⟨⟨hx, hb, hml, hown, hts⟩, hA, hK, hRO, hro⟩ := id C
  intro n
  induction n with
  | zero => intro σ x1 x2 x3 x4 x5 h; exact h.elim
  | succ n ih =>
    intro σ x1 x2 x3 x4 x5 h H locs ls hP hD hS hl
    unfold wpX9_finds_51 at h
    refine lv_iload hx hb dX9_finds_51 (lv_at hl 5 rfl) ?_
    refine lv_iload_n hx hb dX9_finds_53 rfl (lv_at hl 2 rfl) ?_
    refine lv_icmp_ge (tgt := 83) hx hb dX9_finds_54 (by decide) (fun c54 => ?_) (fun c54 => ?_)
    · have h := h.1 c54
      exact bX9_finds_83 C Rt hC34 σ x1 x2 x3  h _ _ _ hP hD hS (lv_sub hl [0, 1, 2, 3] rfl)
    · have h := h.2 c54
      refine lv_iload hx hb dX9_finds_57 (lv_at hl 4 rfl) ?_
      refine lv_iload hx hb dX9_finds_59 (lv_at hl 5 rfl) ?_
      refine wx_ci C hD hS (va_runS (As := [.int x4, .int x5]) (rest := []) C.1 (mtX9_has (l := l) (D := D) (sz := H.size) h) (va_cwS 2 hts gX9_finds_X9_has rfl rfl rfl nyX9_has.2 ⟨Nat.le_of_ble_eq_true rfl, Nat.le_of_ble_eq_true rfl⟩) (wx_ps C hP hD hS) rfl rfl hl.1 rfl (lv_room (Nat.le_of_ble_eq_true rfl)) dX9_finds_61 ⟨Nat.zero_le _, Nat.zero_le _⟩) (fun r61 σ61 H locs h hP hD hS => ?_)
      refine lv_if_eq (tgt := 83) hx hb dX9_finds_64 (by decide) (fun c64 => ?_) (fun c64 => ?_)
      · have h := h.1 c64
        exact bX9_finds_83 C Rt hC34 σ61 x1 x2 x3  h _ _ _ hP hD hS (lv_sub hl [0, 1, 2, 3] rfl)
      · have h := h.2 c64
        refine lv_iload_n hx hb dX9_finds_67 rfl (lv_at hl 1 rfl) ?_
        refine lv_aload_n hx hb dX9_finds_68 rfl (lv_at hl 0 rfl) ?_
        refine wx_get C hP (q := 0) (ci := 9) (Nat.le_of_ble_eq_true rfl) (eM_0 cI ad _) (Cn := RX9) (T := TX9) (Nf := 27) rfl inX9_finds_X9 11 (by decide) (List.mem_of_getElem? (i := 4) rfl) (v := .ref (ad 5)) rfl dX9_finds_69 ?_
        refine lv_iload hx hb dX9_finds_72 (lv_at hl 5 rfl) ?_
        refine wx_ild C hP (q := 5) (Nat.le_of_ble_eq_true rfl) (fun _ => rfl) 0 rfl h.1 dX9_finds_74 ?_
        have h := h.2
        refine lv_ixor hx hb dX9_finds_75 ?_
        refine lv_topi (fun t76 e_t76 => ?_)
        have h := h t76 e_t76
        refine lv_istore_n (lv' := [(1, .int t76), (0, .ref (ad 0)), (2, .int x2), (3, .int x3), (4, .int x4), (5, .int x5)]) hx hb dX9_finds_76 rfl hl (by decide) rfl (fun ls hl => ?_)
        obtain ⟨t77, e_t77⟩ : ∃ y : Int32, y = x5 + 1 := ⟨_, rfl⟩
        have h := h t77 e_t77
        refine lv_iinc (v := t77) (lv' := [(5, .int t77), (1, .int t76), (0, .ref (ad 0)), (2, .int x2), (3, .int x3), (4, .int x4)]) hx hb dX9_finds_77 hl (k := 5) rfl (by rw [e_t77]; rfl) (by decide) rfl (fun ls hl => ?_)
        refine lv_goto (tgt := 51) hx hb dX9_finds_80 (by decide) ?_
        exact ih σ61 t76 x2 x3 x4 t77  h _ _ _ hP hD hS (lv_sub hl [2, 1, 3, 4, 5, 0] rfl)
set_option maxRecDepth 100000 in
set_option maxHeartbeats 4000000 in
theorem bX9_finds_34 {p : Program} {l : Launch} {e : Env} {s : State} {m : MethodId} {args : Array Value} {below : List Frame} {meth : Method} {c : Code} {A : Nat → Prop} {Q : State → Prop} {D : va_G} {cI : ClassId} {ad : Nat → Nat} {K : wx_Z → Prop} (C : wx_C p s m args c cX9_finds 6 RX9 wsX9_finds D [(cI, .int)] wx_T0 A) (Rt : wx_Rv p l e rmX9_finds s m args below meth c cX9_finds D 14 (wM_E cI ad) ad A K Q) : ∀ (n : Nat) (σ : wx_Z) (x1 : Int32) (x2 : Int32) (x3 : Int32), wpX9_finds_34 K n σ x1 x2 x3 → ∀ (H : Heap) (locs : List Loc) (ls : Array Slot), va_P D vwCl (wx_w 14 (wM_E cI ad) ad σ) H → va_D A (wx_w 14 (wM_E cI ad) ad σ) → va_S A s.heap H locs → lv_has ls 6 [(0, .ref (ad 0)), (1, .int x1), (2, .int x2), (3, .int x3)] → W p l e rmX9_finds s m args below meth c H locs 0 0 Q (F0 m 34 ls []) := by
  obtain ⟨⟨hx, hb, hml, hown, hts⟩, hA, hK, hRO, hro⟩ := id C
  intro n
  induction n with
  | zero => intro σ x1 x2 x3 h; exact h.elim
  | succ n ih =>
    intro σ x1 x2 x3 h H locs ls hP hD hS hl
    unfold wpX9_finds_34 at h
    refine lv_iload_n hx hb dX9_finds_34 rfl (lv_at hl 3 rfl) ?_
    refine lv_iconst (v := 1) hx hb dX9_finds_35 (by decide) ?_
    refine lv_iload_n hx hb dX9_finds_36 rfl (lv_at hl 2 rfl) ?_
    refine lv_ishl hx hb dX9_finds_37 ?_
    refine lv_icmp_ge (tgt := 182) hx hb dX9_finds_38 (by decide) (fun c38 => ?_) (fun c38 => ?_)
    · have h := h.1 c38
      exact Rt _ _ _ _ _ h hP hD hS dX9_finds_182
    · have h := h.2 c38
      refine lv_iload_n hx hb dX9_finds_41 rfl (lv_at hl 3 rfl) ?_
      refine lv_iload_n hx hb dX9_finds_42 rfl (lv_at hl 3 rfl) ?_
      refine lv_iconst (v := 1) hx hb dX9_finds_43 (by decide) ?_
      refine lv_isub hx hb dX9_finds_44 ?_
      refine lv_ixor hx hb dX9_finds_45 ?_
      refine lv_topi (fun t46 e_t46 => ?_)
      have h := h t46 e_t46
      refine lv_istore (lv' := [(4, .int t46), (0, .ref (ad 0)), (1, .int x1), (2, .int x2), (3, .int x3)]) hx hb dX9_finds_46 hl (by decide) rfl (fun ls hl => ?_)
      refine lv_iconst (v := 0) hx hb dX9_finds_48 (by decide) ?_
      refine lv_istore (lv' := [(5, .int 0), (4, .int t46), (0, .ref (ad 0)), (1, .int x1), (2, .int x2), (3, .int x3)]) hx hb dX9_finds_49 hl (by decide) rfl (fun ls hl => ?_)
      obtain ⟨n51, h⟩ := h
      exact bX9_finds_51 C Rt ih n51 σ x1 x2 x3 t46 0  h _ _ _ hP hD hS (lv_sub hl [2, 3, 4, 5, 1, 0] rfl)
set_option maxRecDepth 100000 in
set_option maxHeartbeats 4000000 in
theorem mtX9_finds {l : Launch} {D : va_G} {cI : ClassId} {ad : Nat → Nat} {sz : Nat} {σ : wx_Z} {K : wx_Z → Prop} (h : wpX9_finds σ K) : Met l yX9_finds wsX9_finds rmX9_finds (wx_Pre D [(cI, .int)] wx_T0 14 (wM_E cI ad) ad σ sz [.ref (ad 0)]) (va_Qv K (wx_B D [(cI, .int)] 14 (wM_E cI ad) ad (va_A (wx_w 14 (wM_E cI ad) ad σ) sz)) (va_A (wx_w 14 (wM_E cI ad) ad σ) sz)) 0 0 (va_A (wx_w 14 (wM_E cI ad) ad σ) sz) := by
  unfold wpX9_finds at h
  refine wx_metv (cc := cX9_finds) (maxL := 6) (own := RX9) rfl (by decide) rfl (Nat.le_of_ble_eq_true rfl) wx_T0_ok ?_
  intro p e s m args below meth c A Q ls C Rt hP hD hS hl
  obtain ⟨⟨hx, hb, hml, hown, hts⟩, hA, hK, hRO, hro⟩ := id C
  have hl : lv_has ls 6 [(0, .ref (ad 0))] := hl
  obtain ⟨H, eH⟩ : ∃ z, z = s.heap := ⟨_, rfl⟩
  obtain ⟨locs, eL⟩ : ∃ z : List Loc, z = [] := ⟨_, rfl⟩
  rw [← eH] at hP
  have hS : va_S A s.heap H locs := by rw [eH, eL]; exact hS
  have goal : W p l e rmX9_finds s m args below meth c H locs 0 0 Q (F0 m 0 ls []) := by
    refine lv_iconst (v := 0) hx hb dX9_finds_0 (by decide) ?_
    refine lv_istore_n (lv' := [(1, .int 0), (0, .ref (ad 0))]) hx hb dX9_finds_1 rfl hl (by decide) rfl (fun ls hl => ?_)
    refine lv_aload_n hx hb dX9_finds_2 rfl (lv_at hl 1 rfl) ?_
    refine wx_ci C hD hS (va_runV (As := []) (rest := []) C.1 (mtX9_many (l := l) (D := D) (sz := H.size) h) (cwV 0 hts gX9_finds_X9_many rfl rfl rfl nyX9_many ⟨Nat.le_of_ble_eq_true rfl, Nat.le_of_ble_eq_true rfl⟩) (wx_pv C hP hD hS (q := 0) (ci := 9) (Nat.le_of_ble_eq_true rfl) (eM_0 cI ad _) rfl) rfl rfl hl.1 rfl (lv_room (Nat.le_of_ble_eq_true rfl)) dX9_finds_3 ⟨Nat.zero_le _, Nat.zero_le _⟩) (fun r3 σ3 H locs h hP hD hS => ?_)
    refine lv_istore_n (lv' := [(2, .int r3), (1, .int 0), (0, .ref (ad 0))]) hx hb dX9_finds_6 rfl hl (by decide) rfl (fun ls hl => ?_)
    refine lv_aload_n hx hb dX9_finds_7 rfl (lv_at hl 2 rfl) ?_
    refine wx_cv C hD hS (va_runV (As := []) (rest := []) C.1 (mtX9_laysBasis (l := l) (D := D) (sz := H.size) h) (cwV 0 hts gX9_finds_X9_laysBasis rfl rfl rfl nyX9_laysBasis ⟨Nat.le_of_ble_eq_true rfl, Nat.le_of_ble_eq_true rfl⟩) (wx_pv C hP hD hS (q := 0) (ci := 9) (Nat.le_of_ble_eq_true rfl) (eM_0 cI ad _) rfl) rfl rfl hl.1 rfl (lv_room (Nat.le_of_ble_eq_true rfl)) dX9_finds_8 ⟨Nat.zero_le _, Nat.zero_le _⟩) (fun σ8 H locs h hP hD hS => ?_)
    refine lv_aload_n hx hb dX9_finds_11 rfl (lv_at hl 2 rfl) ?_
    refine lv_iconst (v := 0) hx hb dX9_finds_12 (by decide) ?_
    refine wx_put C hP hD hS (q := 0) (ci := 9) (Nat.le_of_ble_eq_true rfl) (eM_0 cI ad _) (Cn := RX9) (T := TX9) (Nf := 27) rfl inX9_finds_X9 tyX9 tyX9_ok nmX9 12 (by decide) (List.mem_of_getElem? (i := 1) rfl) rfl rfl (Nat.le_of_ble_eq_true rfl) rfl dX9_finds_13 (fun H locs hP hD hS => ?_)
    generalize e_σ13 : wx_up σ8 0 12 0 = σ13 at hP hD
    have h := h σ13 e_σ13.symm
    refine lv_aload_n hx hb dX9_finds_16 rfl (lv_at hl 2 rfl) ?_
    refine lv_aload_n hx hb dX9_finds_17 rfl (lv_at hl 2 rfl) ?_
    refine wx_ci C hD hS (va_runV (As := []) (rest := [.ref (ad 0)]) C.1 (mtX9_theWord (l := l) (D := D) (sz := H.size) h) (cwV 0 hts gX9_finds_X9_theWord rfl rfl rfl nyX9_theWord ⟨Nat.le_of_ble_eq_true rfl, Nat.le_of_ble_eq_true rfl⟩) (wx_pv C hP hD hS (q := 0) (ci := 9) (Nat.le_of_ble_eq_true rfl) (eM_0 cI ad _) rfl) rfl rfl hl.1 rfl (lv_room (Nat.le_of_ble_eq_true rfl)) dX9_finds_18 ⟨Nat.zero_le _, Nat.zero_le _⟩) (fun r18 σ18 H locs h hP hD hS => ?_)
    refine wx_ci C hD hS (va_runS (As := [.int r18]) (rest := [.ref (ad 0)]) C.1 (mtX9_bits (l := l) (D := D) (sz := H.size) h) (va_cwS 1 hts gX9_finds_X9_bits rfl rfl rfl nyX9_bits.2 ⟨Nat.le_of_ble_eq_true rfl, Nat.le_of_ble_eq_true rfl⟩) (wx_ps C hP hD hS) rfl rfl hl.1 rfl (lv_room (Nat.le_of_ble_eq_true rfl)) dX9_finds_21 ⟨Nat.zero_le _, Nat.zero_le _⟩) (fun r21 σ21 H locs h hP hD hS => ?_)
    refine wx_put C hP hD hS (q := 0) (ci := 9) (Nat.le_of_ble_eq_true rfl) (eM_0 cI ad _) (Cn := RX9) (T := TX9) (Nf := 27) rfl inX9_finds_X9 tyX9 tyX9_ok nmX9 13 (by decide) (List.mem_of_getElem? (i := 2) rfl) rfl rfl (Nat.le_of_ble_eq_true rfl) rfl dX9_finds_24 (fun H locs hP hD hS => ?_)
    generalize e_σ24 : wx_up σ21 0 13 r21 = σ24 at hP hD
    have h := h σ24 e_σ24.symm
    refine lv_aload_n hx hb dX9_finds_27 rfl (lv_at hl 2 rfl) ?_
    refine lv_iconst (v := 1) hx hb dX9_finds_28 (by decide) ?_
    refine wx_put C hP hD hS (q := 0) (ci := 9) (Nat.le_of_ble_eq_true rfl) (eM_0 cI ad _) (Cn := RX9) (T := TX9) (Nf := 27) rfl inX9_finds_X9 tyX9 tyX9_ok nmX9 14 (by decide) (List.mem_of_getElem? (i := 3) rfl) rfl rfl (Nat.le_of_ble_eq_true rfl) rfl dX9_finds_29 (fun H locs hP hD hS => ?_)
    generalize e_σ29 : wx_up σ24 0 14 1 = σ29 at hP hD
    have h := h σ29 e_σ29.symm
    refine lv_iconst (v := 1) hx hb dX9_finds_32 (by decide) ?_
    refine lv_istore_n (lv' := [(3, .int 1), (2, .int r3), (1, .int 0), (0, .ref (ad 0))]) hx hb dX9_finds_33 rfl hl (by decide) rfl (fun ls hl => ?_)
    obtain ⟨n34, h⟩ := h
    exact bX9_finds_34 C Rt n34 σ29 0 r3 1  h _ _ _ hP hD hS (lv_sub hl [3, 2, 1, 0] rfl)
  rw [eH, eL] at goal
  exact goal
abbrev rmX9_nearest : Room := { frames := 7, cells := 0, slots := 0, locals := 170 }
set_option maxRecDepth 20000 in
theorem inX9_nearest_X9 : ∀ w ∈ u_ws RX9 TX9 27, w ∈ wsX9_nearest := by decide +kernel
theorem nyX9_finds : yX9_finds.cls = RX9 ∧ yX9_finds.cls ≠ "java/lang/invoke/MethodHandle" ∧ yX9_finds.cls ≠ "java/lang/invoke/VarHandle" ∧ (parseMethodDescriptor yX9_finds.desc).map (fun d => d.parameters.length) = some 0 := by decide +kernel
theorem nyX9_isFew : yX9_isFew.cls = RX9 ∧ yX9_isFew.cls ≠ "java/lang/invoke/MethodHandle" ∧ yX9_isFew.cls ≠ "java/lang/invoke/VarHandle" ∧ (parseMethodDescriptor yX9_isFew.desc).map (fun d => d.parameters.length) = some 0 := by decide +kernel
theorem nyX9_no : yX9_no.cls = RX9 ∧ yX9_no.cls ≠ "java/lang/invoke/MethodHandle" ∧ yX9_no.cls ≠ "java/lang/invoke/VarHandle" ∧ (parseMethodDescriptor yX9_no.desc).map (fun d => d.parameters.length) = some 1 := by decide +kernel
set_option maxRecDepth 100000 in
set_option maxHeartbeats 4000000 in
theorem mtX9_nearest {l : Launch} {D : va_G} {cI : ClassId} {ad : Nat → Nat} {sz : Nat} {σ : wx_Z} {x1 : Int32} {K : Int32 → wx_Z → Prop} (h : wpX9_nearest σ x1 K) : Met l yX9_nearest wsX9_nearest rmX9_nearest (wx_Pre D [(cI, .int)] wx_T0 14 (wM_E cI ad) ad σ sz [.ref (ad 0), .int x1]) (va_Qi K (wx_B D [(cI, .int)] 14 (wM_E cI ad) ad (va_A (wx_w 14 (wM_E cI ad) ad σ) sz)) (va_A (wx_w 14 (wM_E cI ad) ad σ) sz)) 0 0 (va_A (wx_w 14 (wM_E cI ad) ad σ) sz) := by
  unfold wpX9_nearest at h
  refine wx_meti (cc := cX9_nearest) (maxL := 2) (own := RX9) rfl (by decide) rfl (Nat.le_of_ble_eq_true rfl) wx_T0_ok ?_
  intro p e s m args below meth c A Q ls C Rt hP hD hS hl
  obtain ⟨⟨hx, hb, hml, hown, hts⟩, hA, hK, hRO, hro⟩ := id C
  have hl : lv_has ls 2 [(0, .ref (ad 0)), (1, .int x1)] := hl
  obtain ⟨H, eH⟩ : ∃ z, z = s.heap := ⟨_, rfl⟩
  obtain ⟨locs, eL⟩ : ∃ z : List Loc, z = [] := ⟨_, rfl⟩
  rw [← eH] at hP
  have hS : va_S A s.heap H locs := by rw [eH, eL]; exact hS
  have goal : W p l e rmX9_nearest s m args below meth c H locs 0 0 Q (F0 m 0 ls []) := by
    refine lv_iload_n hx hb dX9_nearest_0 rfl (lv_at hl 1 rfl) ?_
    refine lv_i2l (v := Int32.toInt64 x1) hx hb dX9_nearest_1 rfl ?_
    refine lv_lconst (v := 0) hx hb dX9_nearest_2 (by decide) ?_
    refine lv_lconst (v := 1) hx hb dX9_nearest_3 (by decide) ?_
    refine wx_ci C hD hS (va_runS (As := [.long (Int32.toInt64 x1), .long 0, .long 1]) (rest := []) C.1 (mtX9_in (l := l) (D := D) (sz := H.size) h) (va_cwS 3 hts gX9_nearest_X9_in rfl rfl rfl nyX9_in.2 ⟨Nat.le_of_ble_eq_true rfl, Nat.le_of_ble_eq_true rfl⟩) (wx_ps C hP hD hS) rfl rfl hl.1 rfl (lv_room (Nat.le_of_ble_eq_true rfl)) dX9_nearest_4 ⟨Nat.zero_le _, Nat.zero_le _⟩) (fun r4 σ4 H locs h hP hD hS => ?_)
    refine lv_if_ne (tgt := 17) hx hb dX9_nearest_7 (by decide) (fun c7 => ?_) (fun c7 => ?_)
    · have h := h.1 c7
      refine lv_aload_n hx hb dX9_nearest_17 rfl (lv_at hl 0 rfl) ?_
      refine wx_ci C hD hS (va_runV (As := []) (rest := []) C.1 (mtX9_isFew (l := l) (D := D) (sz := H.size) h) (cwV 0 hts gX9_nearest_X9_isFew rfl rfl rfl nyX9_isFew ⟨Nat.le_of_ble_eq_true rfl, Nat.le_of_ble_eq_true rfl⟩) (wx_pv C hP hD hS (q := 0) (ci := 9) (Nat.le_of_ble_eq_true rfl) (eM_0 cI ad _) rfl) rfl rfl hl.1 rfl (lv_room (Nat.le_of_ble_eq_true rfl)) dX9_nearest_18 ⟨Nat.zero_le _, Nat.zero_le _⟩) (fun r18 σ18 H locs h hP hD hS => ?_)
      refine lv_if_ne (tgt := 31) hx hb dX9_nearest_21 (by decide) (fun c21 => ?_) (fun c21 => ?_)
      · have h := h.1 c21
        refine lv_aload_n hx hb dX9_nearest_31 rfl (lv_at hl 0 rfl) ?_
        refine wx_cv C hD hS (va_runV (As := []) (rest := []) C.1 (mtX9_finds (l := l) (D := D) (sz := H.size) h) (cwV 0 hts gX9_nearest_X9_finds rfl rfl rfl nyX9_finds ⟨Nat.le_of_ble_eq_true rfl, Nat.le_of_ble_eq_true rfl⟩) (wx_pv C hP hD hS (q := 0) (ci := 9) (Nat.le_of_ble_eq_true rfl) (eM_0 cI ad _) rfl) rfl rfl hl.1 rfl (lv_room (Nat.le_of_ble_eq_true rfl)) dX9_nearest_32 ⟨Nat.zero_le _, Nat.zero_le _⟩) (fun σ32 H locs h hP hD hS => ?_)
        refine lv_iload_n hx hb dX9_nearest_35 rfl (lv_at hl 1 rfl) ?_
        refine lv_if_ne (tgt := 46) hx hb dX9_nearest_36 (by decide) (fun c36 => ?_) (fun c36 => ?_)
        · have h := h.1 c36
          refine lv_aload_n hx hb dX9_nearest_46 rfl (lv_at hl 0 rfl) ?_
          refine wx_get C hP (q := 0) (ci := 9) (Nat.le_of_ble_eq_true rfl) (eM_0 cI ad _) (Cn := RX9) (T := TX9) (Nf := 27) rfl inX9_nearest_X9 14 (by decide) (List.mem_of_getElem? (i := 2) rfl) (v := .int (σ32 0 14)) rfl dX9_nearest_47 ?_
          exact Rt _ _ _ _ _ _ h hP hD hS dX9_nearest_50
        · have h := h.2 c36
          refine lv_aload_n hx hb dX9_nearest_39 rfl (lv_at hl 0 rfl) ?_
          refine wx_get C hP (q := 0) (ci := 9) (Nat.le_of_ble_eq_true rfl) (eM_0 cI ad _) (Cn := RX9) (T := TX9) (Nf := 27) rfl inX9_nearest_X9 13 (by decide) (List.mem_of_getElem? (i := 1) rfl) (v := .int (σ32 0 13)) rfl dX9_nearest_40 ?_
          refine lv_goto (tgt := 50) hx hb dX9_nearest_43 (by decide) ?_
          exact Rt _ _ _ _ _ _ h hP hD hS dX9_nearest_50
      · have h := h.2 c21
        refine lv_aload_n hx hb dX9_nearest_24 rfl (lv_at hl 0 rfl) ?_
        refine lv_bipush (v := (-3)) hx hb dX9_nearest_25 (by decide) ?_
        refine wx_ci C hD hS (va_runV (As := [.int (-3)]) (rest := []) C.1 (mtX9_no (l := l) (D := D) (sz := H.size) h) (cwV 1 hts gX9_nearest_X9_no rfl rfl rfl nyX9_no ⟨Nat.le_of_ble_eq_true rfl, Nat.le_of_ble_eq_true rfl⟩) (wx_pv C hP hD hS (q := 0) (ci := 9) (Nat.le_of_ble_eq_true rfl) (eM_0 cI ad _) rfl) rfl rfl hl.1 rfl (lv_room (Nat.le_of_ble_eq_true rfl)) dX9_nearest_27 ⟨Nat.zero_le _, Nat.zero_le _⟩) (fun r27 σ27 H locs h hP hD hS => ?_)
        exact Rt _ _ _ _ _ _ h hP hD hS dX9_nearest_30
    · have h := h.2 c7
      refine lv_aload_n hx hb dX9_nearest_10 rfl (lv_at hl 0 rfl) ?_
      refine lv_bipush (v := (-2)) hx hb dX9_nearest_11 (by decide) ?_
      refine wx_ci C hD hS (va_runV (As := [.int (-2)]) (rest := []) C.1 (mtX9_bad (l := l) (D := D) (sz := H.size) h) (cwV 1 hts gX9_nearest_X9_bad rfl rfl rfl nyX9_bad ⟨Nat.le_of_ble_eq_true rfl, Nat.le_of_ble_eq_true rfl⟩) (wx_pv C hP hD hS (q := 0) (ci := 9) (Nat.le_of_ble_eq_true rfl) (eM_0 cI ad _) rfl) rfl rfl hl.1 rfl (lv_room (Nat.le_of_ble_eq_true rfl)) dX9_nearest_13 ⟨Nat.zero_le _, Nat.zero_le _⟩) (fun r13 σ13 H locs h hP hD hS => ?_)
      exact Rt _ _ _ _ _ _ h hP hD hS dX9_nearest_16
  rw [eH, eL] at goal
  exact goal
abbrev rmX9_near : Room := { frames := 7, cells := 0, slots := 0, locals := 170 }
set_option maxRecDepth 20000 in
theorem inX9_near_X9 : ∀ w ∈ u_ws RX9 TX9 27, w ∈ wsX9_near := by decide +kernel
set_option maxRecDepth 100000 in
set_option maxHeartbeats 4000000 in
theorem mtX9_near {l : Launch} {D : va_G} {cI : ClassId} {ad : Nat → Nat} {sz : Nat} {σ : wx_Z} {K : Int32 → wx_Z → Prop} (h : wpX9_near σ K) : Met l yX9_near wsX9_near rmX9_near (wx_Pre D [(cI, .int)] wx_T0 14 (wM_E cI ad) ad σ sz [.ref (ad 0)]) (va_Qi K (wx_B D [(cI, .int)] 14 (wM_E cI ad) ad (va_A (wx_w 14 (wM_E cI ad) ad σ) sz)) (va_A (wx_w 14 (wM_E cI ad) ad σ) sz)) 0 0 (va_A (wx_w 14 (wM_E cI ad) ad σ) sz) := by
  unfold wpX9_near at h
  refine wx_meti (cc := cX9_near) (maxL := 1) (own := RX9) rfl (by decide) rfl (Nat.le_of_ble_eq_true rfl) wx_T0_ok ?_
  intro p e s m args below meth c A Q ls C Rt hP hD hS hl
  obtain ⟨⟨hx, hb, hml, hown, hts⟩, hA, hK, hRO, hro⟩ := id C
  have hl : lv_has ls 1 [(0, .ref (ad 0))] := hl
  obtain ⟨H, eH⟩ : ∃ z, z = s.heap := ⟨_, rfl⟩
  obtain ⟨locs, eL⟩ : ∃ z : List Loc, z = [] := ⟨_, rfl⟩
  rw [← eH] at hP
  have hS : va_S A s.heap H locs := by rw [eH, eL]; exact hS
  have goal : W p l e rmX9_near s m args below meth c H locs 0 0 Q (F0 m 0 ls []) := by
    refine lv_aload_n hx hb dX9_near_0 rfl (lv_at hl 0 rfl) ?_
    refine wx_ci C hD hS (va_runV (As := []) (rest := []) C.1 (mtX9_isFew (l := l) (D := D) (sz := H.size) h) (cwV 0 hts gX9_near_X9_isFew rfl rfl rfl nyX9_isFew ⟨Nat.le_of_ble_eq_true rfl, Nat.le_of_ble_eq_true rfl⟩) (wx_pv C hP hD hS (q := 0) (ci := 9) (Nat.le_of_ble_eq_true rfl) (eM_0 cI ad _) rfl) rfl rfl hl.1 rfl (lv_room (Nat.le_of_ble_eq_true rfl)) dX9_near_1 ⟨Nat.zero_le _, Nat.zero_le _⟩) (fun r1 σ1 H locs h hP hD hS => ?_)
    refine lv_if_ne (tgt := 13) hx hb dX9_near_4 (by decide) (fun c4 => ?_) (fun c4 => ?_)
    · have h := h.1 c4
      refine lv_aload_n hx hb dX9_near_13 rfl (lv_at hl 0 rfl) ?_
      refine wx_cv C hD hS (va_runV (As := []) (rest := []) C.1 (mtX9_finds (l := l) (D := D) (sz := H.size) h) (cwV 0 hts gX9_near_X9_finds rfl rfl rfl nyX9_finds ⟨Nat.le_of_ble_eq_true rfl, Nat.le_of_ble_eq_true rfl⟩) (wx_pv C hP hD hS (q := 0) (ci := 9) (Nat.le_of_ble_eq_true rfl) (eM_0 cI ad _) rfl) rfl rfl hl.1 rfl (lv_room (Nat.le_of_ble_eq_true rfl)) dX9_near_14 ⟨Nat.zero_le _, Nat.zero_le _⟩) (fun σ14 H locs h hP hD hS => ?_)
      refine lv_aload_n hx hb dX9_near_17 rfl (lv_at hl 0 rfl) ?_
      refine wx_get C hP (q := 0) (ci := 9) (Nat.le_of_ble_eq_true rfl) (eM_0 cI ad _) (Cn := RX9) (T := TX9) (Nf := 27) rfl inX9_near_X9 12 (by decide) (List.mem_of_getElem? (i := 1) rfl) (v := .int (σ14 0 12)) rfl dX9_near_18 ?_
      exact Rt _ _ _ _ _ _ h hP hD hS dX9_near_21
    · have h := h.2 c4
      refine lv_aload_n hx hb dX9_near_7 rfl (lv_at hl 0 rfl) ?_
      refine lv_iconst (v := 0) hx hb dX9_near_8 (by decide) ?_
      refine wx_ci C hD hS (va_runV (As := [.int 0]) (rest := []) C.1 (mtX9_no (l := l) (D := D) (sz := H.size) h) (cwV 1 hts gX9_near_X9_no rfl rfl rfl nyX9_no ⟨Nat.le_of_ble_eq_true rfl, Nat.le_of_ble_eq_true rfl⟩) (wx_pv C hP hD hS (q := 0) (ci := 9) (Nat.le_of_ble_eq_true rfl) (eM_0 cI ad _) rfl) rfl rfl hl.1 rfl (lv_room (Nat.le_of_ble_eq_true rfl)) dX9_near_9 ⟨Nat.zero_le _, Nat.zero_le _⟩) (fun r9 σ9 H locs h hP hD hS => ?_)
      exact Rt _ _ _ _ _ _ h hP hD hS dX9_near_12
  rw [eH, eL] at goal
  exact goal
abbrev rmX9_softOf : Room := { frames := 1, cells := 0, slots := 0, locals := 40 }
set_option maxRecDepth 20000 in
theorem inX9_softOf_X9 : ∀ w ∈ u_ws RX9 TX9 27, w ∈ wsX9_softOf := by decide +kernel
set_option maxRecDepth 100000 in
set_option maxHeartbeats 4000000 in
theorem mtX9_softOf {l : Launch} {D : va_G} {cI : ClassId} {ad : Nat → Nat} {sz : Nat} {σ : wx_Z} {x1 : Int32} {K : Int32 → wx_Z → Prop} (h : wpX9_softOf σ x1 K) : Met l yX9_softOf wsX9_softOf rmX9_softOf (wx_Pre D [(cI, .int)] wx_T0 14 (wM_E cI ad) ad σ sz [.ref (ad 0), .int x1]) (va_Qi K (wx_B D [(cI, .int)] 14 (wM_E cI ad) ad (va_A (wx_w 14 (wM_E cI ad) ad σ) sz)) (va_A (wx_w 14 (wM_E cI ad) ad σ) sz)) 0 0 (va_A (wx_w 14 (wM_E cI ad) ad σ) sz) := by
  unfold wpX9_softOf at h
  refine wx_meti (cc := cX9_softOf) (maxL := 2) (own := RX9) rfl (by decide) rfl (Nat.le_of_ble_eq_true rfl) wx_T0_ok ?_
  intro p e s m args below meth c A Q ls C Rt hP hD hS hl
  obtain ⟨⟨hx, hb, hml, hown, hts⟩, hA, hK, hRO, hro⟩ := id C
  have hl : lv_has ls 2 [(0, .ref (ad 0)), (1, .int x1)] := hl
  obtain ⟨H, eH⟩ : ∃ z, z = s.heap := ⟨_, rfl⟩
  obtain ⟨locs, eL⟩ : ∃ z : List Loc, z = [] := ⟨_, rfl⟩
  rw [← eH] at hP
  have hS : va_S A s.heap H locs := by rw [eH, eL]; exact hS
  have goal : W p l e rmX9_softOf s m args below meth c H locs 0 0 Q (F0 m 0 ls []) := by
    refine lv_aload_n hx hb dX9_softOf_0 rfl (lv_at hl 0 rfl) ?_
    refine wx_get C hP (q := 0) (ci := 9) (Nat.le_of_ble_eq_true rfl) (eM_0 cI ad _) (Cn := RX9) (T := TX9) (Nf := 27) rfl inX9_softOf_X9 0 (by decide) (List.mem_of_getElem? (i := 1) rfl) (v := .ref (ad 1)) rfl dX9_softOf_1 ?_
    refine lv_iconst (v := 3) hx hb dX9_softOf_4 (by decide) ?_
    refine lv_iload_n hx hb dX9_softOf_5 rfl (lv_at hl 1 rfl) ?_
    refine lv_iadd hx hb dX9_softOf_6 ?_
    refine wx_ild C hP (q := 1) (Nat.le_of_ble_eq_true rfl) (fun _ => rfl) 0 rfl h.1 dX9_softOf_7 ?_
    have h := h.2
    exact Rt _ _ _ _ _ _ h hP hD hS dX9_softOf_8
  rw [eH, eL] at goal
  exact goal
abbrev rmX9_softens : Room := { frames := 2, cells := 0, slots := 0, locals := 61 }
set_option maxRecDepth 20000 in
theorem inX9_softens_X9 : ∀ w ∈ u_ws RX9 TX9 27, w ∈ wsX9_softens := by decide +kernel
theorem nyX9_softOf : yX9_softOf.cls = RX9 ∧ yX9_softOf.cls ≠ "java/lang/invoke/MethodHandle" ∧ yX9_softOf.cls ≠ "java/lang/invoke/VarHandle" ∧ (parseMethodDescriptor yX9_softOf.desc).map (fun d => d.parameters.length) = some 1 := by decide +kernel
set_option maxRecDepth 100000 in
set_option maxHeartbeats 4000000 in
theorem mtX9_softens {l : Launch} {D : va_G} {cI : ClassId} {ad : Nat → Nat} {sz : Nat} {σ : wx_Z} {x1 : Int32} {x2 : Int32} {K : Int32 → wx_Z → Prop} (h : wpX9_softens σ x1 x2 K) : Met l yX9_softens wsX9_softens rmX9_softens (wx_Pre D [(cI, .int)] wx_T0 14 (wM_E cI ad) ad σ sz [.ref (ad 0), .int x1, .int x2]) (va_Qi K (wx_B D [(cI, .int)] 14 (wM_E cI ad) ad (va_A (wx_w 14 (wM_E cI ad) ad σ) sz)) (va_A (wx_w 14 (wM_E cI ad) ad σ) sz)) 0 0 (va_A (wx_w 14 (wM_E cI ad) ad σ) sz) := by
  unfold wpX9_softens at h
  refine wx_meti (cc := cX9_softens) (maxL := 4) (own := RX9) rfl (by decide) rfl (Nat.le_of_ble_eq_true rfl) wx_T0_ok ?_
  intro p e s m args below meth c A Q ls C Rt hP hD hS hl
  obtain ⟨⟨hx, hb, hml, hown, hts⟩, hA, hK, hRO, hro⟩ := id C
  have hl : lv_has ls 4 [(0, .ref (ad 0)), (1, .int x1), (2, .int x2)] := hl
  obtain ⟨H, eH⟩ : ∃ z, z = s.heap := ⟨_, rfl⟩
  obtain ⟨locs, eL⟩ : ∃ z : List Loc, z = [] := ⟨_, rfl⟩
  rw [← eH] at hP
  have hS : va_S A s.heap H locs := by rw [eH, eL]; exact hS
  have goal : W p l e rmX9_softens s m args below meth c H locs 0 0 Q (F0 m 0 ls []) := by
    refine lv_aload_n hx hb dX9_softens_0 rfl (lv_at hl 0 rfl) ?_
    refine lv_iload_n hx hb dX9_softens_1 rfl (lv_at hl 1 rfl) ?_
    refine wx_ci C hD hS (va_runV (As := [.int x1]) (rest := []) C.1 (mtX9_softOf (l := l) (D := D) (sz := H.size) h) (cwV 1 hts gX9_softens_X9_softOf rfl rfl rfl nyX9_softOf ⟨Nat.le_of_ble_eq_true rfl, Nat.le_of_ble_eq_true rfl⟩) (wx_pv C hP hD hS (q := 0) (ci := 9) (Nat.le_of_ble_eq_true rfl) (eM_0 cI ad _) rfl) rfl rfl hl.1 rfl (lv_room (Nat.le_of_ble_eq_true rfl)) dX9_softens_2 ⟨Nat.zero_le _, Nat.zero_le _⟩) (fun r2 σ2 H locs h hP hD hS => ?_)
    refine lv_istore_n (lv' := [(3, .int r2), (0, .ref (ad 0)), (1, .int x1), (2, .int x2)]) hx hb dX9_softens_5 rfl hl (by decide) rfl (fun ls hl => ?_)
    refine lv_aload_n hx hb dX9_softens_6 rfl (lv_at hl 1 rfl) ?_
    refine wx_get C hP (q := 0) (ci := 9) (Nat.le_of_ble_eq_true rfl) (eM_0 cI ad _) (Cn := RX9) (T := TX9) (Nf := 27) rfl inX9_softens_X9 0 (by decide) (List.mem_of_getElem? (i := 1) rfl) (v := .ref (ad 1)) rfl dX9_softens_7 ?_
    refine lv_iconst (v := 3) hx hb dX9_softens_10 (by decide) ?_
    refine lv_iload_n hx hb dX9_softens_11 rfl (lv_at hl 2 rfl) ?_
    refine lv_iadd hx hb dX9_softens_12 ?_
    refine lv_iload_n hx hb dX9_softens_13 rfl (lv_at hl 3 rfl) ?_
    refine wx_ist C hP hD hS (q := 1) (Nat.le_of_ble_eq_true rfl) (fun _ => rfl) 0 rfl h.1 dX9_softens_14 (fun H locs hP hD hS => ?_)
    generalize e_σ14 : wx_up σ2 1 (Int32.toNatClampNeg (3 + x1)) x2 = σ14 at hP hD
    have h := h.2 σ14 e_σ14.symm
    refine lv_iload_n hx hb dX9_softens_15 rfl (lv_at hl 0 rfl) ?_
    exact Rt _ _ _ _ _ _ h hP hD hS dX9_softens_16
  rw [eH, eL] at goal
  exact goal
abbrev rmX9_soft : Room := { frames := 4, cells := 0, slots := 0, locals := 101 }
theorem nyX9_softens : yX9_softens.cls = RX9 ∧ yX9_softens.cls ≠ "java/lang/invoke/MethodHandle" ∧ yX9_softens.cls ≠ "java/lang/invoke/VarHandle" ∧ (parseMethodDescriptor yX9_softens.desc).map (fun d => d.parameters.length) = some 2 := by decide +kernel
set_option maxRecDepth 100000 in
set_option maxHeartbeats 4000000 in
theorem mtX9_soft {l : Launch} {D : va_G} {cI : ClassId} {ad : Nat → Nat} {sz : Nat} {σ : wx_Z} {x1 : Int32} {x2 : Int32} {K : Int32 → wx_Z → Prop} (h : wpX9_soft σ x1 x2 K) : Met l yX9_soft wsX9_soft rmX9_soft (wx_Pre D [(cI, .int)] wx_T0 14 (wM_E cI ad) ad σ sz [.ref (ad 0), .int x1, .int x2]) (va_Qi K (wx_B D [(cI, .int)] 14 (wM_E cI ad) ad (va_A (wx_w 14 (wM_E cI ad) ad σ) sz)) (va_A (wx_w 14 (wM_E cI ad) ad σ) sz)) 0 0 (va_A (wx_w 14 (wM_E cI ad) ad σ) sz) := by
  unfold wpX9_soft at h
  refine wx_meti (cc := cX9_soft) (maxL := 3) (own := RX9) rfl (by decide) rfl (Nat.le_of_ble_eq_true rfl) wx_T0_ok ?_
  intro p e s m args below meth c A Q ls C Rt hP hD hS hl
  obtain ⟨⟨hx, hb, hml, hown, hts⟩, hA, hK, hRO, hro⟩ := id C
  have hl : lv_has ls 3 [(0, .ref (ad 0)), (1, .int x1), (2, .int x2)] := hl
  obtain ⟨H, eH⟩ : ∃ z, z = s.heap := ⟨_, rfl⟩
  obtain ⟨locs, eL⟩ : ∃ z : List Loc, z = [] := ⟨_, rfl⟩
  rw [← eH] at hP
  have hS : va_S A s.heap H locs := by rw [eH, eL]; exact hS
  have goal : W p l e rmX9_soft s m args below meth c H locs 0 0 Q (F0 m 0 ls []) := by
    refine lv_aload_n hx hb dX9_soft_0 rfl (lv_at hl 0 rfl) ?_
    refine lv_iload_n hx hb dX9_soft_1 rfl (lv_at hl 1 rfl) ?_
    refine wx_ci C hD hS (va_runV (As := [.int x1]) (rest := []) C.1 (mtX9_isPlace (l := l) (D := D) (sz := H.size) h) (cwV 1 hts gX9_soft_X9_isPlace rfl rfl rfl nyX9_isPlace ⟨Nat.le_of_ble_eq_true rfl, Nat.le_of_ble_eq_true rfl⟩) (wx_pv C hP hD hS (q := 0) (ci := 9) (Nat.le_of_ble_eq_true rfl) (eM_0 cI ad _) rfl) rfl rfl hl.1 rfl (lv_room (Nat.le_of_ble_eq_true rfl)) dX9_soft_2 ⟨Nat.zero_le _, Nat.zero_le _⟩) (fun r2 σ2 H locs h hP hD hS => ?_)
    refine lv_if_eq (tgt := 22) hx hb dX9_soft_5 (by decide) (fun c5 => ?_) (fun c5 => ?_)
    · have h := h.1 c5
      refine lv_aload_n hx hb dX9_soft_22 rfl (lv_at hl 0 rfl) ?_
      refine lv_sipush (v := (-1000)) hx hb dX9_soft_23 (by decide) ?_
      refine wx_ci C hD hS (va_runV (As := [.int (-1000)]) (rest := []) C.1 (mtX9_bad (l := l) (D := D) (sz := H.size) h) (cwV 1 hts gX9_soft_X9_bad rfl rfl rfl nyX9_bad ⟨Nat.le_of_ble_eq_true rfl, Nat.le_of_ble_eq_true rfl⟩) (wx_pv C hP hD hS (q := 0) (ci := 9) (Nat.le_of_ble_eq_true rfl) (eM_0 cI ad _) rfl) rfl rfl hl.1 rfl (lv_room (Nat.le_of_ble_eq_true rfl)) dX9_soft_26 ⟨Nat.zero_le _, Nat.zero_le _⟩) (fun r26 σ26 H locs h hP hD hS => ?_)
      exact Rt _ _ _ _ _ _ h hP hD hS dX9_soft_29
    · have h := h.2 c5
      refine lv_iload_n hx hb dX9_soft_8 rfl (lv_at hl 2 rfl) ?_
      refine lv_i2l (v := Int32.toInt64 x2) hx hb dX9_soft_9 rfl ?_
      refine lv_ldc2 hx hb hown (hts _ (List.mem_of_getElem? (i := 1) rfl)) dX9_soft_10 ?_
      refine lv_ldc2 hx hb hown (hts _ (List.mem_of_getElem? (i := 2) rfl)) dX9_soft_13 ?_
      refine wx_ci C hD hS (va_runS (As := [.long (Int32.toInt64 x2), .long (-99), .long 99]) (rest := []) C.1 (mtX9_in (l := l) (D := D) (sz := H.size) h) (va_cwS 3 hts gX9_soft_X9_in rfl rfl rfl nyX9_in.2 ⟨Nat.le_of_ble_eq_true rfl, Nat.le_of_ble_eq_true rfl⟩) (wx_ps C hP hD hS) rfl rfl hl.1 rfl (lv_room (Nat.le_of_ble_eq_true rfl)) dX9_soft_16 ⟨Nat.zero_le _, Nat.zero_le _⟩) (fun r16 σ16 H locs h hP hD hS => ?_)
      refine lv_if_ne (tgt := 30) hx hb dX9_soft_19 (by decide) (fun c19 => ?_) (fun c19 => ?_)
      · have h := h.1 c19
        refine lv_aload_n hx hb dX9_soft_30 rfl (lv_at hl 0 rfl) ?_
        refine wx_cv C hD hS (va_runV (As := []) (rest := []) C.1 (mtX9_keep (l := l) (D := D) (sz := H.size) h) (cwV 0 hts gX9_soft_X9_keep rfl rfl rfl nyX9_keep ⟨Nat.le_of_ble_eq_true rfl, Nat.le_of_ble_eq_true rfl⟩) (wx_pv C hP hD hS (q := 0) (ci := 9) (Nat.le_of_ble_eq_true rfl) (eM_0 cI ad _) rfl) rfl rfl hl.1 rfl (lv_room (Nat.le_of_ble_eq_true rfl)) dX9_soft_31 ⟨Nat.zero_le _, Nat.zero_le _⟩) (fun σ31 H locs h hP hD hS => ?_)
        refine lv_aload_n hx hb dX9_soft_34 rfl (lv_at hl 0 rfl) ?_
        refine lv_iload_n hx hb dX9_soft_35 rfl (lv_at hl 1 rfl) ?_
        refine lv_iload_n hx hb dX9_soft_36 rfl (lv_at hl 2 rfl) ?_
        refine wx_ci C hD hS (va_runV (As := [.int x1, .int x2]) (rest := []) C.1 (mtX9_softens (l := l) (D := D) (sz := H.size) h) (cwV 2 hts gX9_soft_X9_softens rfl rfl rfl nyX9_softens ⟨Nat.le_of_ble_eq_true rfl, Nat.le_of_ble_eq_true rfl⟩) (wx_pv C hP hD hS (q := 0) (ci := 9) (Nat.le_of_ble_eq_true rfl) (eM_0 cI ad _) rfl) rfl rfl hl.1 rfl (lv_room (Nat.le_of_ble_eq_true rfl)) dX9_soft_37 ⟨Nat.zero_le _, Nat.zero_le _⟩) (fun r37 σ37 H locs h hP hD hS => ?_)
        exact Rt _ _ _ _ _ _ h hP hD hS dX9_soft_40
      · have h := h.2 c19
        refine lv_aload_n hx hb dX9_soft_22 rfl (lv_at hl 0 rfl) ?_
        refine lv_sipush (v := (-1000)) hx hb dX9_soft_23 (by decide) ?_
        refine wx_ci C hD hS (va_runV (As := [.int (-1000)]) (rest := []) C.1 (mtX9_bad (l := l) (D := D) (sz := H.size) h) (cwV 1 hts gX9_soft_X9_bad rfl rfl rfl nyX9_bad ⟨Nat.le_of_ble_eq_true rfl, Nat.le_of_ble_eq_true rfl⟩) (wx_pv C hP hD hS (q := 0) (ci := 9) (Nat.le_of_ble_eq_true rfl) (eM_0 cI ad _) rfl) rfl rfl hl.1 rfl (lv_room (Nat.le_of_ble_eq_true rfl)) dX9_soft_26 ⟨Nat.zero_le _, Nat.zero_le _⟩) (fun r26_1 σ26_1 H locs h hP hD hS => ?_)
        exact Rt _ _ _ _ _ _ h hP hD hS dX9_soft_29
  rw [eH, eL] at goal
  exact goal
abbrev rmX9_harden : Room := { frames := 3, cells := 0, slots := 0, locals := 80 }
set_option maxRecDepth 20000 in
theorem inX9_harden_X9 : ∀ w ∈ u_ws RX9 TX9 27, w ∈ wsX9_harden := by decide +kernel
set_option maxRecDepth 100000 in
set_option maxHeartbeats 4000000 in
theorem bX9_harden_25 {p : Program} {l : Launch} {e : Env} {s : State} {m : MethodId} {args : Array Value} {below : List Frame} {meth : Method} {c : Code} {A : Nat → Prop} {Q : State → Prop} {D : va_G} {cI : ClassId} {ad : Nat → Nat} {K : Int32 → wx_Z → Prop} (C : wx_C p s m args c cX9_harden 3 RX9 wsX9_harden D [(cI, .int)] wx_T0 A) (Rt : wx_Ri p l e rmX9_harden s m args below meth c cX9_harden D 14 (wM_E cI ad) ad A K Q) : ∀ (n : Nat) (σ : wx_Z) (x1 : Int32) (x2 : Int32), wpX9_harden_25 K n σ x1 x2 → ∀ (H : Heap) (locs : List Loc) (ls : Array Slot), va_P D vwCl (wx_w 14 (wM_E cI ad) ad σ) H → va_D A (wx_w 14 (wM_E cI ad) ad σ) → va_S A s.heap H locs → lv_has ls 3 [(0, .ref (ad 0)), (1, .int x1), (2, .int x2)] → W p l e rmX9_harden s m args below meth c H locs 0 0 Q (F0 m 25 ls []) := by
  obtain ⟨⟨hx, hb, hml, hown, hts⟩, hA, hK, hRO, hro⟩ := id C
  intro n
  induction n with
  | zero => intro σ x1 x2 h; exact h.elim
  | succ n ih =>
    intro σ x1 x2 h H locs ls hP hD hS hl
    unfold wpX9_harden_25 at h
    refine lv_iload_n hx hb dX9_harden_25 rfl (lv_at hl 2 rfl) ?_
    refine lv_aload_n hx hb dX9_harden_26 rfl (lv_at hl 0 rfl) ?_
    refine wx_ci C hD hS (va_runV (As := []) (rest := [.int x2]) C.1 (mtX9_places (l := l) (D := D) (sz := H.size) h) (cwV 0 hts gX9_harden_X9_places rfl rfl rfl nyX9_places ⟨Nat.le_of_ble_eq_true rfl, Nat.le_of_ble_eq_true rfl⟩) (wx_pv C hP hD hS (q := 0) (ci := 9) (Nat.le_of_ble_eq_true rfl) (eM_0 cI ad _) rfl) rfl rfl hl.1 rfl (lv_room (Nat.le_of_ble_eq_true rfl)) dX9_harden_27 ⟨Nat.zero_le _, Nat.zero_le _⟩) (fun r27 σ27 H locs h hP hD hS => ?_)
    refine lv_icmp_ge (tgt := 64) hx hb dX9_harden_30 (by decide) (fun c30 => ?_) (fun c30 => ?_)
    · have h := h.1 c30
      refine lv_iload_n hx hb dX9_harden_64 rfl (lv_at hl 1 rfl) ?_
      exact Rt _ _ _ _ _ _ h hP hD hS dX9_harden_65
    · have h := h.2 c30
      refine lv_aload_n hx hb dX9_harden_33 rfl (lv_at hl 0 rfl) ?_
      refine wx_get C hP (q := 0) (ci := 9) (Nat.le_of_ble_eq_true rfl) (eM_0 cI ad _) (Cn := RX9) (T := TX9) (Nf := 27) rfl inX9_harden_X9 0 (by decide) (List.mem_of_getElem? (i := 2) rfl) (v := .ref (ad 1)) rfl dX9_harden_34 ?_
      refine lv_iconst (v := 3) hx hb dX9_harden_37 (by decide) ?_
      refine lv_iload_n hx hb dX9_harden_38 rfl (lv_at hl 2 rfl) ?_
      refine lv_iadd hx hb dX9_harden_39 ?_
      refine lv_aload_n hx hb dX9_harden_40 rfl (lv_at hl 0 rfl) ?_
      refine wx_ci C hD hS (va_runV (As := []) (rest := [.int (3 + x2), .ref (ad 1)]) C.1 (mtX9_theWord (l := l) (D := D) (sz := H.size) h) (cwV 0 hts gX9_harden_X9_theWord rfl rfl rfl nyX9_theWord ⟨Nat.le_of_ble_eq_true rfl, Nat.le_of_ble_eq_true rfl⟩) (wx_pv C hP hD hS (q := 0) (ci := 9) (Nat.le_of_ble_eq_true rfl) (eM_0 cI ad _) rfl) rfl rfl hl.1 rfl (lv_room (Nat.le_of_ble_eq_true rfl)) dX9_harden_41 ⟨Nat.zero_le _, Nat.zero_le _⟩) (fun r41 σ41 H locs h hP hD hS => ?_)
      refine lv_iload_n hx hb dX9_harden_44 rfl (lv_at hl 2 rfl) ?_
      refine wx_ci C hD hS (va_runS (As := [.int r41, .int x2]) (rest := [.int (3 + x2), .ref (ad 1)]) C.1 (mtX9_has (l := l) (D := D) (sz := H.size) h) (va_cwS 2 hts gX9_harden_X9_has rfl rfl rfl nyX9_has.2 ⟨Nat.le_of_ble_eq_true rfl, Nat.le_of_ble_eq_true rfl⟩) (wx_ps C hP hD hS) rfl rfl hl.1 rfl (lv_room (Nat.le_of_ble_eq_true rfl)) dX9_harden_45 ⟨Nat.zero_le _, Nat.zero_le _⟩) (fun r45 σ45 H locs h hP hD hS => ?_)
      refine lv_if_eq (tgt := 56) hx hb dX9_harden_48 (by decide) (fun c48 => ?_) (fun c48 => ?_)
      · have h := h.1 c48
        refine lv_iload_n hx hb dX9_harden_56 rfl (lv_at hl 1 rfl) ?_
        refine wx_ist C hP hD hS (q := 1) (Nat.le_of_ble_eq_true rfl) (fun _ => rfl) 0 rfl h.1 dX9_harden_57 (fun H locs hP hD hS => ?_)
        generalize e_σ57 : wx_up σ45 1 (Int32.toNatClampNeg (3 + x2)) x1 = σ57 at hP hD
        have h := h.2 σ57 e_σ57.symm
        obtain ⟨t58, e_t58⟩ : ∃ y : Int32, y = x2 + 1 := ⟨_, rfl⟩
        have h := h t58 e_t58
        refine lv_iinc (v := t58) (lv' := [(2, .int t58), (0, .ref (ad 0)), (1, .int x1)]) hx hb dX9_harden_58 hl (k := 2) rfl (by rw [e_t58]; rfl) (by decide) rfl (fun ls hl => ?_)
        refine lv_goto (tgt := 25) hx hb dX9_harden_61 (by decide) ?_
        exact ih σ57 x1 t58  h _ _ _ hP hD hS (lv_sub hl [1, 2, 0] rfl)
      · have h := h.2 c48
        refine lv_iload_n hx hb dX9_harden_51 rfl (lv_at hl 1 rfl) ?_
        refine lv_ineg hx hb dX9_harden_52 ?_
        refine lv_goto (tgt := 57) hx hb dX9_harden_53 (by decide) ?_
        refine wx_ist C hP hD hS (q := 1) (Nat.le_of_ble_eq_true rfl) (fun _ => rfl) 0 rfl h.1 dX9_harden_57 (fun H locs hP hD hS => ?_)
        generalize e_σ57_1 : wx_up σ45 1 (Int32.toNatClampNeg (3 + x2)) (-x1) = σ57_1 at hP hD
        have h := h.2 σ57_1 e_σ57_1.symm
        obtain ⟨t58_1, e_t58_1⟩ : ∃ y : Int32, y = x2 + 1 := ⟨_, rfl⟩
        have h := h t58_1 e_t58_1
        refine lv_iinc (v := t58_1) (lv' := [(2, .int t58_1), (0, .ref (ad 0)), (1, .int x1)]) hx hb dX9_harden_58 hl (k := 2) rfl (by rw [e_t58_1]; rfl) (by decide) rfl (fun ls hl => ?_)
        refine lv_goto (tgt := 25) hx hb dX9_harden_61 (by decide) ?_
        exact ih σ57_1 x1 t58_1  h _ _ _ hP hD hS (lv_sub hl [1, 2, 0] rfl)
set_option maxRecDepth 100000 in
set_option maxHeartbeats 4000000 in
theorem mtX9_harden {l : Launch} {D : va_G} {cI : ClassId} {ad : Nat → Nat} {sz : Nat} {σ : wx_Z} {x1 : Int32} {K : Int32 → wx_Z → Prop} (h : wpX9_harden σ x1 K) : Met l yX9_harden wsX9_harden rmX9_harden (wx_Pre D [(cI, .int)] wx_T0 14 (wM_E cI ad) ad σ sz [.ref (ad 0), .int x1]) (va_Qi K (wx_B D [(cI, .int)] 14 (wM_E cI ad) ad (va_A (wx_w 14 (wM_E cI ad) ad σ) sz)) (va_A (wx_w 14 (wM_E cI ad) ad σ) sz)) 0 0 (va_A (wx_w 14 (wM_E cI ad) ad σ) sz) := by
  unfold wpX9_harden at h
  refine wx_meti (cc := cX9_harden) (maxL := 3) (own := RX9) rfl (by decide) rfl (Nat.le_of_ble_eq_true rfl) wx_T0_ok ?_
  intro p e s m args below meth c A Q ls C Rt hP hD hS hl
  obtain ⟨⟨hx, hb, hml, hown, hts⟩, hA, hK, hRO, hro⟩ := id C
  have hl : lv_has ls 3 [(0, .ref (ad 0)), (1, .int x1)] := hl
  obtain ⟨H, eH⟩ : ∃ z, z = s.heap := ⟨_, rfl⟩
  obtain ⟨locs, eL⟩ : ∃ z : List Loc, z = [] := ⟨_, rfl⟩
  rw [← eH] at hP
  have hS : va_S A s.heap H locs := by rw [eH, eL]; exact hS
  have goal : W p l e rmX9_harden s m args below meth c H locs 0 0 Q (F0 m 0 ls []) := by
    refine lv_iload_n hx hb dX9_harden_0 rfl (lv_at hl 1 rfl) ?_
    refine lv_i2l (v := Int32.toInt64 x1) hx hb dX9_harden_1 rfl ?_
    refine lv_lconst (v := 1) hx hb dX9_harden_2 (by decide) ?_
    refine lv_ldc2 hx hb hown (hts _ (List.mem_of_getElem? (i := 1) rfl)) dX9_harden_3 ?_
    refine wx_ci C hD hS (va_runS (As := [.long (Int32.toInt64 x1), .long 1, .long 99]) (rest := []) C.1 (mtX9_in (l := l) (D := D) (sz := H.size) h) (va_cwS 3 hts gX9_harden_X9_in rfl rfl rfl nyX9_in.2 ⟨Nat.le_of_ble_eq_true rfl, Nat.le_of_ble_eq_true rfl⟩) (wx_ps C hP hD hS) rfl rfl hl.1 rfl (lv_room (Nat.le_of_ble_eq_true rfl)) dX9_harden_6 ⟨Nat.zero_le _, Nat.zero_le _⟩) (fun r6 σ6 H locs h hP hD hS => ?_)
    refine lv_if_ne (tgt := 19) hx hb dX9_harden_9 (by decide) (fun c9 => ?_) (fun c9 => ?_)
    · have h := h.1 c9
      refine lv_aload_n hx hb dX9_harden_19 rfl (lv_at hl 0 rfl) ?_
      refine wx_cv C hD hS (va_runV (As := []) (rest := []) C.1 (mtX9_keep (l := l) (D := D) (sz := H.size) h) (cwV 0 hts gX9_harden_X9_keep rfl rfl rfl nyX9_keep ⟨Nat.le_of_ble_eq_true rfl, Nat.le_of_ble_eq_true rfl⟩) (wx_pv C hP hD hS (q := 0) (ci := 9) (Nat.le_of_ble_eq_true rfl) (eM_0 cI ad _) rfl) rfl rfl hl.1 rfl (lv_room (Nat.le_of_ble_eq_true rfl)) dX9_harden_20 ⟨Nat.zero_le _, Nat.zero_le _⟩) (fun σ20 H locs h hP hD hS => ?_)
      refine lv_iconst (v := 0) hx hb dX9_harden_23 (by decide) ?_
      refine lv_istore_n (lv' := [(2, .int 0), (0, .ref (ad 0)), (1, .int x1)]) hx hb dX9_harden_24 rfl hl (by decide) rfl (fun ls hl => ?_)
      obtain ⟨n25, h⟩ := h
      exact bX9_harden_25 C Rt n25 σ20 x1 0  h _ _ _ hP hD hS (lv_sub hl [1, 2, 0] rfl)
    · have h := h.2 c9
      refine lv_aload_n hx hb dX9_harden_12 rfl (lv_at hl 0 rfl) ?_
      refine lv_bipush (v := (-2)) hx hb dX9_harden_13 (by decide) ?_
      refine wx_ci C hD hS (va_runV (As := [.int (-2)]) (rest := []) C.1 (mtX9_bad (l := l) (D := D) (sz := H.size) h) (cwV 1 hts gX9_harden_X9_bad rfl rfl rfl nyX9_bad ⟨Nat.le_of_ble_eq_true rfl, Nat.le_of_ble_eq_true rfl⟩) (wx_pv C hP hD hS (q := 0) (ci := 9) (Nat.le_of_ble_eq_true rfl) (eM_0 cI ad _) rfl) rfl rfl hl.1 rfl (lv_room (Nat.le_of_ble_eq_true rfl)) dX9_harden_15 ⟨Nat.zero_le _, Nat.zero_le _⟩) (fun r15 σ15 H locs h hP hD hS => ?_)
      exact Rt _ _ _ _ _ _ h hP hD hS dX9_harden_18
  rw [eH, eL] at goal
  exact goal
abbrev rmX9_plain : Room := { frames := 2, cells := 0, slots := 0, locals := 60 }
set_option maxRecDepth 20000 in
theorem inX9_plain_X9 : ∀ w ∈ u_ws RX9 TX9 27, w ∈ wsX9_plain := by decide +kernel
set_option maxRecDepth 100000 in
set_option maxHeartbeats 4000000 in
theorem bX9_plain_7 {p : Program} {l : Launch} {e : Env} {s : State} {m : MethodId} {args : Array Value} {below : List Frame} {meth : Method} {c : Code} {A : Nat → Prop} {Q : State → Prop} {D : va_G} {cI : ClassId} {ad : Nat → Nat} {K : Int32 → wx_Z → Prop} (C : wx_C p s m args c cX9_plain 5 RX9 wsX9_plain D [(cI, .int)] wx_T0 A) (Rt : wx_Ri p l e rmX9_plain s m args below meth c cX9_plain D 14 (wM_E cI ad) ad A K Q) : ∀ (n : Nat) (σ : wx_Z) (x1 : Int32) (x2 : Int32) (x3 : Int32) (x4 : Int32), wpX9_plain_7 K n σ x1 x2 x3 x4 → ∀ (H : Heap) (locs : List Loc) (ls : Array Slot), va_P D vwCl (wx_w 14 (wM_E cI ad) ad σ) H → va_D A (wx_w 14 (wM_E cI ad) ad σ) → va_S A s.heap H locs → lv_has ls 5 [(0, .ref (ad 0)), (1, .int x1), (2, .int x2), (3, .int x3), (4, .int x4)] → W p l e rmX9_plain s m args below meth c H locs 0 0 Q (F0 m 7 ls []) := by
  obtain ⟨⟨hx, hb, hml, hown, hts⟩, hA, hK, hRO, hro⟩ := id C
  intro n
  induction n with
  | zero => intro σ x1 x2 x3 x4 h; exact h.elim
  | succ n ih =>
    intro σ x1 x2 x3 x4 h H locs ls hP hD hS hl
    unfold wpX9_plain_7 at h
    refine lv_iload hx hb dX9_plain_7 (lv_at hl 4 rfl) ?_
    refine lv_iconst (v := 1) hx hb dX9_plain_9 (by decide) ?_
    refine lv_aload_n hx hb dX9_plain_10 rfl (lv_at hl 0 rfl) ?_
    refine wx_get C hP (q := 0) (ci := 9) (Nat.le_of_ble_eq_true rfl) (eM_0 cI ad _) (Cn := RX9) (T := TX9) (Nf := 27) rfl inX9_plain_X9 17 (by decide) (List.mem_of_getElem? (i := 1) rfl) (v := .ref (ad 8)) rfl dX9_plain_11 ?_
    refine lv_iload_n hx hb dX9_plain_14 rfl (lv_at hl 1 rfl) ?_
    refine wx_ild C hP (q := 8) (Nat.le_of_ble_eq_true rfl) (fun _ => rfl) 0 rfl h.1 dX9_plain_15 ?_
    have h := h.2
    refine lv_ishl hx hb dX9_plain_16 ?_
    refine lv_icmp_ge (tgt := 67) hx hb dX9_plain_17 (by decide) (fun c17 => ?_) (fun c17 => ?_)
    · have h := h.1 c17
      refine lv_aload_n hx hb dX9_plain_67 rfl (lv_at hl 0 rfl) ?_
      refine wx_get C hP (q := 0) (ci := 9) (Nat.le_of_ble_eq_true rfl) (eM_0 cI ad _) (Cn := RX9) (T := TX9) (Nf := 27) rfl inX9_plain_X9 16 (by decide) (List.mem_of_getElem? (i := 3) rfl) (v := .ref (ad 7)) rfl dX9_plain_68 ?_
      refine lv_iload_n hx hb dX9_plain_71 rfl (lv_at hl 1 rfl) ?_
      refine wx_ild C hP (q := 7) (Nat.le_of_ble_eq_true rfl) (fun _ => rfl) 0 rfl h.1 dX9_plain_72 ?_
      have h := h.2
      refine lv_if_le (tgt := 80) hx hb dX9_plain_73 (by decide) (fun c73 => ?_) (fun c73 => ?_)
      · have h := h.1 c73
        refine lv_iload_n hx hb dX9_plain_80 rfl (lv_at hl 3 rfl) ?_
        refine lv_if_ge (tgt := 98) hx hb dX9_plain_81 (by decide) (fun c81 => ?_) (fun c81 => ?_)
        · have h := h.1 c81
          refine lv_iconst (v := 0) hx hb dX9_plain_98 (by decide) ?_
          exact Rt _ _ _ _ _ _ h hP hD hS dX9_plain_99
        · have h := h.2 c81
          refine lv_iconst (v := 1) hx hb dX9_plain_84 (by decide) ?_
          refine lv_aload_n hx hb dX9_plain_85 rfl (lv_at hl 0 rfl) ?_
          refine wx_get C hP (q := 0) (ci := 9) (Nat.le_of_ble_eq_true rfl) (eM_0 cI ad _) (Cn := RX9) (T := TX9) (Nf := 27) rfl inX9_plain_X9 17 (by decide) (List.mem_of_getElem? (i := 1) rfl) (v := .ref (ad 8)) rfl dX9_plain_86 ?_
          refine lv_iload_n hx hb dX9_plain_89 rfl (lv_at hl 1 rfl) ?_
          refine wx_ild C hP (q := 8) (Nat.le_of_ble_eq_true rfl) (fun _ => rfl) 0 rfl h.1 dX9_plain_90 ?_
          have h := h.2
          refine lv_ishl hx hb dX9_plain_91 ?_
          refine wx_ci C hD hS (va_runS (As := [.int (1 <<< ((σ 8 (Int32.toNatClampNeg x1)) &&& 31))]) (rest := []) C.1 (mtX9_allOf (l := l) (D := D) (sz := H.size) h) (va_cwS 1 hts gX9_plain_X9_allOf rfl rfl rfl nyX9_allOf.2 ⟨Nat.le_of_ble_eq_true rfl, Nat.le_of_ble_eq_true rfl⟩) (wx_ps C hP hD hS) rfl rfl hl.1 rfl (lv_room (Nat.le_of_ble_eq_true rfl)) dX9_plain_92 ⟨Nat.zero_le _, Nat.zero_le _⟩) (fun r92 σ92 H locs h hP hD hS => ?_)
          refine lv_goto (tgt := 99) hx hb dX9_plain_95 (by decide) ?_
          exact Rt _ _ _ _ _ _ h hP hD hS dX9_plain_99
      · have h := h.2 c73
        refine lv_iload_n hx hb dX9_plain_76 rfl (lv_at hl 2 rfl) ?_
        refine lv_goto (tgt := 99) hx hb dX9_plain_77 (by decide) ?_
        exact Rt _ _ _ _ _ _ h hP hD hS dX9_plain_99
    · have h := h.2 c17
      refine lv_iload_n hx hb dX9_plain_20 rfl (lv_at hl 3 rfl) ?_
      refine lv_aload_n hx hb dX9_plain_21 rfl (lv_at hl 0 rfl) ?_
      refine wx_get C hP (q := 0) (ci := 9) (Nat.le_of_ble_eq_true rfl) (eM_0 cI ad _) (Cn := RX9) (T := TX9) (Nf := 27) rfl inX9_plain_X9 15 (by decide) (List.mem_of_getElem? (i := 2) rfl) (v := .ref (ad 6)) rfl dX9_plain_22 ?_
      refine lv_bipush (v := 32) hx hb dX9_plain_25 (by decide) ?_
      refine lv_iload_n hx hb dX9_plain_27 rfl (lv_at hl 1 rfl) ?_
      refine lv_imul hx hb dX9_plain_28 ?_
      refine lv_iload hx hb dX9_plain_29 (lv_at hl 4 rfl) ?_
      refine lv_iadd hx hb dX9_plain_31 ?_
      refine wx_ild C hP (q := 6) (Nat.le_of_ble_eq_true rfl) (fun _ => rfl) 0 rfl h.1 dX9_plain_32 ?_
      have h := h.2
      refine lv_iadd hx hb dX9_plain_33 ?_
      refine lv_topi (fun t34 e_t34 => ?_)
      have h := h t34 e_t34
      refine lv_istore_n (lv' := [(3, .int t34), (0, .ref (ad 0)), (1, .int x1), (2, .int x2), (4, .int x4)]) hx hb dX9_plain_34 rfl hl (by decide) rfl (fun ls hl => ?_)
      refine lv_iload_n hx hb dX9_plain_35 rfl (lv_at hl 3 rfl) ?_
      refine lv_aload_n hx hb dX9_plain_36 rfl (lv_at hl 1 rfl) ?_
      refine wx_get C hP (q := 0) (ci := 9) (Nat.le_of_ble_eq_true rfl) (eM_0 cI ad _) (Cn := RX9) (T := TX9) (Nf := 27) rfl inX9_plain_X9 15 (by decide) (List.mem_of_getElem? (i := 2) rfl) (v := .ref (ad 6)) rfl dX9_plain_37 ?_
      refine lv_bipush (v := 32) hx hb dX9_plain_40 (by decide) ?_
      refine lv_iload_n hx hb dX9_plain_42 rfl (lv_at hl 2 rfl) ?_
      refine lv_imul hx hb dX9_plain_43 ?_
      refine lv_iload hx hb dX9_plain_44 (lv_at hl 4 rfl) ?_
      refine lv_iadd hx hb dX9_plain_46 ?_
      refine wx_ild C hP (q := 6) (Nat.le_of_ble_eq_true rfl) (fun _ => rfl) 0 rfl h.1 dX9_plain_47 ?_
      have h := h.2
      refine lv_if_ge (tgt := 58) hx hb dX9_plain_48 (by decide) (fun c48 => ?_) (fun c48 => ?_)
      · have h := h.1 c48
        refine lv_iconst (v := 0) hx hb dX9_plain_58 (by decide) ?_
        refine lv_ior hx hb dX9_plain_59 ?_
        refine lv_topi (fun t60 e_t60 => ?_)
        have h := h t60 e_t60
        refine lv_istore_n (lv' := [(2, .int t60), (3, .int t34), (0, .ref (ad 0)), (1, .int x1), (4, .int x4)]) hx hb dX9_plain_60 rfl hl (by decide) rfl (fun ls hl => ?_)
        obtain ⟨t61, e_t61⟩ : ∃ y : Int32, y = x4 + 1 := ⟨_, rfl⟩
        have h := h t61 e_t61
        refine lv_iinc (v := t61) (lv' := [(4, .int t61), (2, .int t60), (3, .int t34), (0, .ref (ad 0)), (1, .int x1)]) hx hb dX9_plain_61 hl (k := 4) rfl (by rw [e_t61]; rfl) (by decide) rfl (fun ls hl => ?_)
        refine lv_goto (tgt := 7) hx hb dX9_plain_64 (by decide) ?_
        exact ih σ x1 t60 t34 t61  h _ _ _ hP hD hS (lv_sub hl [3, 4, 1, 2, 0] rfl)
      · have h := h.2 c48
        refine lv_iconst (v := 1) hx hb dX9_plain_51 (by decide) ?_
        refine lv_iload hx hb dX9_plain_52 (lv_at hl 4 rfl) ?_
        refine lv_ishl hx hb dX9_plain_54 ?_
        refine lv_goto (tgt := 59) hx hb dX9_plain_55 (by decide) ?_
        refine lv_ior hx hb dX9_plain_59 ?_
        refine lv_topi (fun t60_1 e_t60_1 => ?_)
        have h := h t60_1 e_t60_1
        refine lv_istore_n (lv' := [(2, .int t60_1), (3, .int t34), (0, .ref (ad 0)), (1, .int x1), (4, .int x4)]) hx hb dX9_plain_60 rfl hl (by decide) rfl (fun ls hl => ?_)
        obtain ⟨t61_1, e_t61_1⟩ : ∃ y : Int32, y = x4 + 1 := ⟨_, rfl⟩
        have h := h t61_1 e_t61_1
        refine lv_iinc (v := t61_1) (lv' := [(4, .int t61_1), (2, .int t60_1), (3, .int t34), (0, .ref (ad 0)), (1, .int x1)]) hx hb dX9_plain_61 hl (k := 4) rfl (by rw [e_t61_1]; rfl) (by decide) rfl (fun ls hl => ?_)
        refine lv_goto (tgt := 7) hx hb dX9_plain_64 (by decide) ?_
        exact ih σ x1 t60_1 t34 t61_1  h _ _ _ hP hD hS (lv_sub hl [3, 4, 1, 2, 0] rfl)
set_option maxRecDepth 100000 in
set_option maxHeartbeats 4000000 in
theorem mtX9_plain {l : Launch} {D : va_G} {cI : ClassId} {ad : Nat → Nat} {sz : Nat} {σ : wx_Z} {x1 : Int32} {K : Int32 → wx_Z → Prop} (h : wpX9_plain σ x1 K) : Met l yX9_plain wsX9_plain rmX9_plain (wx_Pre D [(cI, .int)] wx_T0 14 (wM_E cI ad) ad σ sz [.ref (ad 0), .int x1]) (va_Qi K (wx_B D [(cI, .int)] 14 (wM_E cI ad) ad (va_A (wx_w 14 (wM_E cI ad) ad σ) sz)) (va_A (wx_w 14 (wM_E cI ad) ad σ) sz)) 0 0 (va_A (wx_w 14 (wM_E cI ad) ad σ) sz) := by
  unfold wpX9_plain at h
  refine wx_meti (cc := cX9_plain) (maxL := 5) (own := RX9) rfl (by decide) rfl (Nat.le_of_ble_eq_true rfl) wx_T0_ok ?_
  intro p e s m args below meth c A Q ls C Rt hP hD hS hl
  obtain ⟨⟨hx, hb, hml, hown, hts⟩, hA, hK, hRO, hro⟩ := id C
  have hl : lv_has ls 5 [(0, .ref (ad 0)), (1, .int x1)] := hl
  obtain ⟨H, eH⟩ : ∃ z, z = s.heap := ⟨_, rfl⟩
  obtain ⟨locs, eL⟩ : ∃ z : List Loc, z = [] := ⟨_, rfl⟩
  rw [← eH] at hP
  have hS : va_S A s.heap H locs := by rw [eH, eL]; exact hS
  have goal : W p l e rmX9_plain s m args below meth c H locs 0 0 Q (F0 m 0 ls []) := by
    refine lv_iconst (v := 0) hx hb dX9_plain_0 (by decide) ?_
    refine lv_istore_n (lv' := [(2, .int 0), (0, .ref (ad 0)), (1, .int x1)]) hx hb dX9_plain_1 rfl hl (by decide) rfl (fun ls hl => ?_)
    refine lv_iconst (v := 0) hx hb dX9_plain_2 (by decide) ?_
    refine lv_istore_n (lv' := [(3, .int 0), (2, .int 0), (0, .ref (ad 0)), (1, .int x1)]) hx hb dX9_plain_3 rfl hl (by decide) rfl (fun ls hl => ?_)
    refine lv_iconst (v := 0) hx hb dX9_plain_4 (by decide) ?_
    refine lv_istore (lv' := [(4, .int 0), (3, .int 0), (2, .int 0), (0, .ref (ad 0)), (1, .int x1)]) hx hb dX9_plain_5 hl (by decide) rfl (fun ls hl => ?_)
    obtain ⟨n7, h⟩ := h
    exact bX9_plain_7 C Rt n7 σ x1 0 0 0  h _ _ _ hP hD hS (lv_sub hl [3, 4, 2, 1, 0] rfl)
  rw [eH, eL] at goal
  exact goal
abbrev rmX9_lesser : Room := { frames := 2, cells := 0, slots := 0, locals := 60 }
set_option maxRecDepth 100000 in
set_option maxHeartbeats 4000000 in
theorem bX9_lesser_41 {p : Program} {l : Launch} {e : Env} {s : State} {m : MethodId} {args : Array Value} {below : List Frame} {meth : Method} {c : Code} {A : Nat → Prop} {Q : State → Prop} {D : va_G} {cI : ClassId} {ad : Nat → Nat} {K : Int32 → wx_Z → Prop} (C : wx_C p s m args c cX9_lesser 3 RX9 wsX9_lesser D [(cI, .int)] wx_T0 A) (Rt : wx_Ri p l e rmX9_lesser s m args below meth c cX9_lesser D 14 (wM_E cI ad) ad A K Q) : ∀ (σ : wx_Z) (x2 : Int32) (s0 : Int32) (s1 : Int32), wpX9_lesser_41 K σ x2 s0 s1 → ∀ (H : Heap) (locs : List Loc) (ls : Array Slot), va_P D vwCl (wx_w 14 (wM_E cI ad) ad σ) H → va_D A (wx_w 14 (wM_E cI ad) ad σ) → va_S A s.heap H locs → lv_has ls 3 [(2, .int x2)] → W p l e rmX9_lesser s m args below meth c H locs 0 0 Q (F0 m 41 ls [.int s1, .int s0]) := by
  obtain ⟨⟨hx, hb, hml, hown, hts⟩, hA, hK, hRO, hro⟩ := id C
  intro σ x2 s0 s1 h H locs ls hP hD hS hl
  unfold wpX9_lesser_41 at h
  refine lv_icmp_ne (tgt := 48) hx hb dX9_lesser_41 (by decide) (fun c41 => ?_) (fun c41 => ?_)
  · have h := h.1 c41
    refine lv_iload_n hx hb dX9_lesser_48 rfl (lv_at hl 0 rfl) ?_
    refine lv_ineg hx hb dX9_lesser_49 ?_
    exact Rt _ _ _ _ _ _ h hP hD hS dX9_lesser_50
  · have h := h.2 c41
    refine lv_iload_n hx hb dX9_lesser_44 rfl (lv_at hl 0 rfl) ?_
    refine lv_goto (tgt := 50) hx hb dX9_lesser_45 (by decide) ?_
    exact Rt _ _ _ _ _ _ h hP hD hS dX9_lesser_50
set_option maxRecDepth 100000 in
set_option maxHeartbeats 4000000 in
theorem bX9_lesser_32 {p : Program} {l : Launch} {e : Env} {s : State} {m : MethodId} {args : Array Value} {below : List Frame} {meth : Method} {c : Code} {A : Nat → Prop} {Q : State → Prop} {D : va_G} {cI : ClassId} {ad : Nat → Nat} {K : Int32 → wx_Z → Prop} (C : wx_C p s m args c cX9_lesser 3 RX9 wsX9_lesser D [(cI, .int)] wx_T0 A) (Rt : wx_Ri p l e rmX9_lesser s m args below meth c cX9_lesser D 14 (wM_E cI ad) ad A K Q) : ∀ (σ : wx_Z) (x1 : Int32) (x2 : Int32) (s0 : Int32), wpX9_lesser_32 K σ x1 x2 s0 → ∀ (H : Heap) (locs : List Loc) (ls : Array Slot), va_P D vwCl (wx_w 14 (wM_E cI ad) ad σ) H → va_D A (wx_w 14 (wM_E cI ad) ad σ) → va_S A s.heap H locs → lv_has ls 3 [(1, .int x1), (2, .int x2)] → W p l e rmX9_lesser s m args below meth c H locs 0 0 Q (F0 m 32 ls [.int s0]) := by
  obtain ⟨⟨hx, hb, hml, hown, hts⟩, hA, hK, hRO, hro⟩ := id C
  intro σ x1 x2 s0 h H locs ls hP hD hS hl
  unfold wpX9_lesser_32 at h
  refine lv_iload_n hx hb dX9_lesser_32 rfl (lv_at hl 0 rfl) ?_
  refine lv_if_ge (tgt := 40) hx hb dX9_lesser_33 (by decide) (fun c33 => ?_) (fun c33 => ?_)
  · have h := h.1 c33
    refine lv_iconst (v := 0) hx hb dX9_lesser_40 (by decide) ?_
    exact bX9_lesser_41 C Rt σ x2 s0 0  h _ _ _ hP hD hS (lv_sub hl [1] rfl)
  · have h := h.2 c33
    refine lv_iconst (v := 1) hx hb dX9_lesser_36 (by decide) ?_
    refine lv_goto (tgt := 41) hx hb dX9_lesser_37 (by decide) ?_
    exact bX9_lesser_41 C Rt σ x2 s0 1  h _ _ _ hP hD hS (lv_sub hl [1] rfl)
set_option maxRecDepth 100000 in
set_option maxHeartbeats 4000000 in
theorem bX9_lesser_22 {p : Program} {l : Launch} {e : Env} {s : State} {m : MethodId} {args : Array Value} {below : List Frame} {meth : Method} {c : Code} {A : Nat → Prop} {Q : State → Prop} {D : va_G} {cI : ClassId} {ad : Nat → Nat} {K : Int32 → wx_Z → Prop} (C : wx_C p s m args c cX9_lesser 3 RX9 wsX9_lesser D [(cI, .int)] wx_T0 A) (Rt : wx_Ri p l e rmX9_lesser s m args below meth c cX9_lesser D 14 (wM_E cI ad) ad A K Q) : ∀ (σ : wx_Z) (x0 : Int32) (x1 : Int32) (s0 : Int32), wpX9_lesser_22 K σ x0 x1 s0 → ∀ (H : Heap) (locs : List Loc) (ls : Array Slot), va_P D vwCl (wx_w 14 (wM_E cI ad) ad σ) H → va_D A (wx_w 14 (wM_E cI ad) ad σ) → va_S A s.heap H locs → lv_has ls 3 [(0, .int x0), (1, .int x1)] → W p l e rmX9_lesser s m args below meth c H locs 0 0 Q (F0 m 22 ls [.int s0]) := by
  obtain ⟨⟨hx, hb, hml, hown, hts⟩, hA, hK, hRO, hro⟩ := id C
  intro σ x0 x1 s0 h H locs ls hP hD hS hl
  unfold wpX9_lesser_22 at h
  refine lv_istore_n (lv' := [(2, .int s0), (0, .int x0), (1, .int x1)]) hx hb dX9_lesser_22 rfl hl (by decide) rfl (fun ls hl => ?_)
  refine lv_iload_n hx hb dX9_lesser_23 rfl (lv_at hl 1 rfl) ?_
  refine lv_if_ge (tgt := 31) hx hb dX9_lesser_24 (by decide) (fun c24 => ?_) (fun c24 => ?_)
  · have h := h.1 c24
    refine lv_iconst (v := 0) hx hb dX9_lesser_31 (by decide) ?_
    exact bX9_lesser_32 C Rt σ x1 s0 0  h _ _ _ hP hD hS (lv_sub hl [2, 0] rfl)
  · have h := h.2 c24
    refine lv_iconst (v := 1) hx hb dX9_lesser_27 (by decide) ?_
    refine lv_goto (tgt := 32) hx hb dX9_lesser_28 (by decide) ?_
    exact bX9_lesser_32 C Rt σ x1 s0 1  h _ _ _ hP hD hS (lv_sub hl [2, 0] rfl)
set_option maxRecDepth 100000 in
set_option maxHeartbeats 4000000 in
theorem mtX9_lesser {l : Launch} {D : va_G} {cI : ClassId} {ad : Nat → Nat} {sz : Nat} {σ : wx_Z} {x0 : Int32} {x1 : Int32} {K : Int32 → wx_Z → Prop} (h : wpX9_lesser σ x0 x1 K) : Met l yX9_lesser wsX9_lesser rmX9_lesser (wx_Pre D [(cI, .int)] wx_T0 14 (wM_E cI ad) ad σ sz [.int x0, .int x1]) (va_Qi K (wx_B D [(cI, .int)] 14 (wM_E cI ad) ad (va_A (wx_w 14 (wM_E cI ad) ad σ) sz)) (va_A (wx_w 14 (wM_E cI ad) ad σ) sz)) 0 0 (va_A (wx_w 14 (wM_E cI ad) ad σ) sz) := by
  unfold wpX9_lesser at h
  refine wx_meti (cc := cX9_lesser) (maxL := 3) (own := RX9) rfl (by decide) rfl (Nat.le_of_ble_eq_true rfl) wx_T0_ok ?_
  intro p e s m args below meth c A Q ls C Rt hP hD hS hl
  obtain ⟨⟨hx, hb, hml, hown, hts⟩, hA, hK, hRO, hro⟩ := id C
  have hl : lv_has ls 3 [(0, .int x0), (1, .int x1)] := hl
  obtain ⟨H, eH⟩ : ∃ z, z = s.heap := ⟨_, rfl⟩
  obtain ⟨locs, eL⟩ : ∃ z : List Loc, z = [] := ⟨_, rfl⟩
  rw [← eH] at hP
  have hS : va_S A s.heap H locs := by rw [eH, eL]; exact hS
  have goal : W p l e rmX9_lesser s m args below meth c H locs 0 0 Q (F0 m 0 ls []) := by
    refine lv_iload_n hx hb dX9_lesser_0 rfl (lv_at hl 0 rfl) ?_
    refine wx_ci C hD hS (va_runS (As := [.int x0]) (rest := []) C.1 (mtX9_far (l := l) (D := D) (sz := H.size) h) (va_cwS 1 hts gX9_lesser_X9_far rfl rfl rfl nyX9_far.2 ⟨Nat.le_of_ble_eq_true rfl, Nat.le_of_ble_eq_true rfl⟩) (wx_ps C hP hD hS) rfl rfl hl.1 rfl (lv_room (Nat.le_of_ble_eq_true rfl)) dX9_lesser_1 ⟨Nat.zero_le _, Nat.zero_le _⟩) (fun r1 σ1 H locs h hP hD hS => ?_)
    refine lv_iload_n hx hb dX9_lesser_4 rfl (lv_at hl 1 rfl) ?_
    refine wx_ci C hD hS (va_runS (As := [.int x1]) (rest := [.int r1]) C.1 (mtX9_far (l := l) (D := D) (sz := H.size) h) (va_cwS 1 hts gX9_lesser_X9_far rfl rfl rfl nyX9_far.2 ⟨Nat.le_of_ble_eq_true rfl, Nat.le_of_ble_eq_true rfl⟩) (wx_ps C hP hD hS) rfl rfl hl.1 rfl (lv_room (Nat.le_of_ble_eq_true rfl)) dX9_lesser_5 ⟨Nat.zero_le _, Nat.zero_le _⟩) (fun r5 σ5 H locs h hP hD hS => ?_)
    refine lv_icmp_ge (tgt := 18) hx hb dX9_lesser_8 (by decide) (fun c8 => ?_) (fun c8 => ?_)
    · have h := h.1 c8
      refine lv_iload_n hx hb dX9_lesser_18 rfl (lv_at hl 1 rfl) ?_
      refine wx_ci C hD hS (va_runS (As := [.int x1]) (rest := []) C.1 (mtX9_far (l := l) (D := D) (sz := H.size) h) (va_cwS 1 hts gX9_lesser_X9_far rfl rfl rfl nyX9_far.2 ⟨Nat.le_of_ble_eq_true rfl, Nat.le_of_ble_eq_true rfl⟩) (wx_ps C hP hD hS) rfl rfl hl.1 rfl (lv_room (Nat.le_of_ble_eq_true rfl)) dX9_lesser_19 ⟨Nat.zero_le _, Nat.zero_le _⟩) (fun r19 σ19 H locs h hP hD hS => ?_)
      exact bX9_lesser_22 C Rt σ19 x0 x1 r19  h _ _ _ hP hD hS (lv_sub hl [0, 1] rfl)
    · have h := h.2 c8
      refine lv_iload_n hx hb dX9_lesser_11 rfl (lv_at hl 0 rfl) ?_
      refine wx_ci C hD hS (va_runS (As := [.int x0]) (rest := []) C.1 (mtX9_far (l := l) (D := D) (sz := H.size) h) (va_cwS 1 hts gX9_lesser_X9_far rfl rfl rfl nyX9_far.2 ⟨Nat.le_of_ble_eq_true rfl, Nat.le_of_ble_eq_true rfl⟩) (wx_ps C hP hD hS) rfl rfl hl.1 rfl (lv_room (Nat.le_of_ble_eq_true rfl)) dX9_lesser_12 ⟨Nat.zero_le _, Nat.zero_le _⟩) (fun r12 σ12 H locs h hP hD hS => ?_)
      refine lv_goto (tgt := 22) hx hb dX9_lesser_15 (by decide) ?_
      exact bX9_lesser_22 C Rt σ12 x0 x1 r12  h _ _ _ hP hD hS (lv_sub hl [0, 1] rfl)
  rw [eH, eL] at goal
  exact goal
abbrev rmX9_begins : Room := { frames := 1, cells := 0, slots := 0, locals := 40 }
set_option maxRecDepth 20000 in
theorem inX9_begins_X9 : ∀ w ∈ u_ws RX9 TX9 27, w ∈ wsX9_begins := by decide +kernel
set_option maxRecDepth 100000 in
set_option maxHeartbeats 4000000 in
theorem mtX9_begins {l : Launch} {D : va_G} {cI : ClassId} {ad : Nat → Nat} {sz : Nat} {σ : wx_Z} {x1 : Int32} {x2 : Int32} {x3 : Int32} {K : wx_Z → Prop} (h : wpX9_begins σ x1 x2 x3 K) : Met l yX9_begins wsX9_begins rmX9_begins (wx_Pre D [(cI, .int)] wx_T0 14 (wM_E cI ad) ad σ sz [.ref (ad 0), .int x1, .int x2, .int x3]) (va_Qv K (wx_B D [(cI, .int)] 14 (wM_E cI ad) ad (va_A (wx_w 14 (wM_E cI ad) ad σ) sz)) (va_A (wx_w 14 (wM_E cI ad) ad σ) sz)) 0 0 (va_A (wx_w 14 (wM_E cI ad) ad σ) sz) := by
  unfold wpX9_begins at h
  refine wx_metv (cc := cX9_begins) (maxL := 4) (own := RX9) rfl (by decide) rfl (Nat.le_of_ble_eq_true rfl) wx_T0_ok ?_
  intro p e s m args below meth c A Q ls C Rt hP hD hS hl
  obtain ⟨⟨hx, hb, hml, hown, hts⟩, hA, hK, hRO, hro⟩ := id C
  have hl : lv_has ls 4 [(0, .ref (ad 0)), (1, .int x1), (2, .int x2), (3, .int x3)] := hl
  obtain ⟨H, eH⟩ : ∃ z, z = s.heap := ⟨_, rfl⟩
  obtain ⟨locs, eL⟩ : ∃ z : List Loc, z = [] := ⟨_, rfl⟩
  rw [← eH] at hP
  have hS : va_S A s.heap H locs := by rw [eH, eL]; exact hS
  have goal : W p l e rmX9_begins s m args below meth c H locs 0 0 Q (F0 m 0 ls []) := by
    refine lv_aload_n hx hb dX9_begins_0 rfl (lv_at hl 0 rfl) ?_
    refine wx_get C hP (q := 0) (ci := 9) (Nat.le_of_ble_eq_true rfl) (eM_0 cI ad _) (Cn := RX9) (T := TX9) (Nf := 27) rfl inX9_begins_X9 16 (by decide) (List.mem_of_getElem? (i := 1) rfl) (v := .ref (ad 7)) rfl dX9_begins_1 ?_
    refine lv_iload_n hx hb dX9_begins_4 rfl (lv_at hl 1 rfl) ?_
    refine lv_iload_n hx hb dX9_begins_5 rfl (lv_at hl 2 rfl) ?_
    refine wx_ist C hP hD hS (q := 7) (Nat.le_of_ble_eq_true rfl) (fun _ => rfl) 0 rfl h.1 dX9_begins_6 (fun H locs hP hD hS => ?_)
    generalize e_σ6 : wx_up σ 7 (Int32.toNatClampNeg x1) x2 = σ6 at hP hD
    have h := h.2 σ6 e_σ6.symm
    refine lv_aload_n hx hb dX9_begins_7 rfl (lv_at hl 0 rfl) ?_
    refine wx_get C hP (q := 0) (ci := 9) (Nat.le_of_ble_eq_true rfl) (eM_0 cI ad _) (Cn := RX9) (T := TX9) (Nf := 27) rfl inX9_begins_X9 17 (by decide) (List.mem_of_getElem? (i := 2) rfl) (v := .ref (ad 8)) rfl dX9_begins_8 ?_
    refine lv_iload_n hx hb dX9_begins_11 rfl (lv_at hl 1 rfl) ?_
    refine lv_iload_n hx hb dX9_begins_12 rfl (lv_at hl 3 rfl) ?_
    refine wx_ist C hP hD hS (q := 8) (Nat.le_of_ble_eq_true rfl) (fun _ => rfl) 0 rfl h.1 dX9_begins_13 (fun H locs hP hD hS => ?_)
    generalize e_σ13 : wx_up σ6 8 (Int32.toNatClampNeg x1) x3 = σ13 at hP hD
    have h := h.2 σ13 e_σ13.symm
    refine lv_aload_n hx hb dX9_begins_14 rfl (lv_at hl 0 rfl) ?_
    refine wx_get C hP (q := 0) (ci := 9) (Nat.le_of_ble_eq_true rfl) (eM_0 cI ad _) (Cn := RX9) (T := TX9) (Nf := 27) rfl inX9_begins_X9 18 (by decide) (List.mem_of_getElem? (i := 3) rfl) (v := .ref (ad 9)) rfl dX9_begins_15 ?_
    refine lv_iload_n hx hb dX9_begins_18 rfl (lv_at hl 1 rfl) ?_
    refine lv_iconst (v := 0) hx hb dX9_begins_19 (by decide) ?_
    refine wx_ist C hP hD hS (q := 9) (Nat.le_of_ble_eq_true rfl) (fun _ => rfl) 0 rfl h.1 dX9_begins_20 (fun H locs hP hD hS => ?_)
    generalize e_σ20 : wx_up σ13 9 (Int32.toNatClampNeg x1) 0 = σ20 at hP hD
    have h := h.2 σ20 e_σ20.symm
    exact Rt _ _ _ _ _ h hP hD hS dX9_begins_21
  rw [eH, eL] at goal
  exact goal
abbrev rmX9_halvesOf : Room := { frames := 3, cells := 0, slots := 0, locals := 84 }
set_option maxRecDepth 20000 in
theorem inX9_halvesOf_X9 : ∀ w ∈ u_ws RX9 TX9 27, w ∈ wsX9_halvesOf := by decide +kernel
theorem nyX9_begins : yX9_begins.cls = RX9 ∧ yX9_begins.cls ≠ "java/lang/invoke/MethodHandle" ∧ yX9_begins.cls ≠ "java/lang/invoke/VarHandle" ∧ (parseMethodDescriptor yX9_begins.desc).map (fun d => d.parameters.length) = some 3 := by decide +kernel
theorem nyX9_lesser : yX9_lesser.cls = RX9 ∧ yX9_lesser.cls ≠ "java/lang/invoke/MethodHandle" ∧ yX9_lesser.cls ≠ "java/lang/invoke/VarHandle" ∧ (parseMethodDescriptor yX9_lesser.desc).map (fun d => d.parameters.length) = some 2 := by decide +kernel
theorem nyX9_plain : yX9_plain.cls = RX9 ∧ yX9_plain.cls ≠ "java/lang/invoke/MethodHandle" ∧ yX9_plain.cls ≠ "java/lang/invoke/VarHandle" ∧ (parseMethodDescriptor yX9_plain.desc).map (fun d => d.parameters.length) = some 1 := by decide +kernel
set_option maxRecDepth 100000 in
set_option maxHeartbeats 4000000 in
theorem bX9_halvesOf_89 {p : Program} {l : Launch} {e : Env} {s : State} {m : MethodId} {args : Array Value} {below : List Frame} {meth : Method} {c : Code} {A : Nat → Prop} {Q : State → Prop} {D : va_G} {cI : ClassId} {ad : Nat → Nat} {K : Int32 → wx_Z → Prop} {C44 : wx_Z → Int32 → Int32 → Prop} (C : wx_C p s m args c cX9_halvesOf 7 RX9 wsX9_halvesOf D [(cI, .int)] wx_T0 A) (Rt : wx_Ri p l e rmX9_halvesOf s m args below meth c cX9_halvesOf D 14 (wM_E cI ad) ad A K Q) (hC44 : ∀ (σ : wx_Z) (x1 : Int32) (x2 : Int32), C44 σ x1 x2 → ∀ (H : Heap) (locs : List Loc) (ls : Array Slot), va_P D vwCl (wx_w 14 (wM_E cI ad) ad σ) H → va_D A (wx_w 14 (wM_E cI ad) ad σ) → va_S A s.heap H locs → lv_has ls 7 [(0, .ref (ad 0)), (1, .int x1), (2, .int x2)] → W p l e rmX9_halvesOf s m args below meth c H locs 0 0 Q (F0 m 44 ls [])) : ∀ (σ : wx_Z) (x2 : Int32), wpX9_halvesOf_89 K C44 σ x2 → ∀ (H : Heap) (locs : List Loc) (ls : Array Slot), va_P D vwCl (wx_w 14 (wM_E cI ad) ad σ) H → va_D A (wx_w 14 (wM_E cI ad) ad σ) → va_S A s.heap H locs → lv_has ls 7 [(0, .ref (ad 0)), (2, .int x2)] → W p l e rmX9_halvesOf s m args below meth c H locs 0 0 Q (F0 m 89 ls []) := by
  obtain ⟨⟨hx, hb, hml, hown, hts⟩, hA, hK, hRO, hro⟩ := id C
  intro σ x2 h H locs ls hP hD hS hl
  unfold wpX9_halvesOf_89 at h
  refine lv_aload_n hx hb dX9_halvesOf_89 rfl (lv_at hl 0 rfl) ?_
  refine lv_iload_n hx hb dX9_halvesOf_90 rfl (lv_at hl 1 rfl) ?_
  refine wx_ci C hD hS (va_runV (As := [.int x2]) (rest := []) C.1 (mtX9_plain (l := l) (D := D) (sz := H.size) h) (cwV 1 hts gX9_halvesOf_X9_plain rfl rfl rfl nyX9_plain ⟨Nat.le_of_ble_eq_true rfl, Nat.le_of_ble_eq_true rfl⟩) (wx_pv C hP hD hS (q := 0) (ci := 9) (Nat.le_of_ble_eq_true rfl) (eM_0 cI ad _) rfl) rfl rfl hl.1 rfl (lv_room (Nat.le_of_ble_eq_true rfl)) dX9_halvesOf_91 ⟨Nat.zero_le _, Nat.zero_le _⟩) (fun r91 σ91 H locs h hP hD hS => ?_)
  refine lv_istore_n (lv' := [(1, .int r91), (0, .ref (ad 0)), (2, .int x2)]) hx hb dX9_halvesOf_94 rfl hl (by decide) rfl (fun ls hl => ?_)
  obtain ⟨t95, e_t95⟩ : ∃ y : Int32, y = x2 + (-1) := ⟨_, rfl⟩
  have h := h t95 e_t95
  refine lv_iinc (v := t95) (lv' := [(2, .int t95), (1, .int r91), (0, .ref (ad 0))]) hx hb dX9_halvesOf_95 hl (k := 2) rfl (by rw [e_t95]; rfl) (by decide) rfl (fun ls hl => ?_)
  refine lv_goto (tgt := 336) hx hb dX9_halvesOf_98 (by decide) ?_
  refine lv_goto (tgt := 44) hx hb dX9_halvesOf_336 (by decide) ?_
  exact hC44 σ91 r91 t95  h _ _ _ hP hD hS (lv_sub hl [2, 1, 0] rfl)
set_option maxRecDepth 100000 in
set_option maxHeartbeats 4000000 in
theorem bX9_halvesOf_299 {p : Program} {l : Launch} {e : Env} {s : State} {m : MethodId} {args : Array Value} {below : List Frame} {meth : Method} {c : Code} {A : Nat → Prop} {Q : State → Prop} {D : va_G} {cI : ClassId} {ad : Nat → Nat} {K : Int32 → wx_Z → Prop} {C44 : wx_Z → Int32 → Int32 → Prop} {C240 : wx_Z → Int32 → Int32 → Int32 → Int32 → Int32 → Prop} (C : wx_C p s m args c cX9_halvesOf 7 RX9 wsX9_halvesOf D [(cI, .int)] wx_T0 A) (Rt : wx_Ri p l e rmX9_halvesOf s m args below meth c cX9_halvesOf D 14 (wM_E cI ad) ad A K Q) (hC44 : ∀ (σ : wx_Z) (x1 : Int32) (x2 : Int32), C44 σ x1 x2 → ∀ (H : Heap) (locs : List Loc) (ls : Array Slot), va_P D vwCl (wx_w 14 (wM_E cI ad) ad σ) H → va_D A (wx_w 14 (wM_E cI ad) ad σ) → va_S A s.heap H locs → lv_has ls 7 [(0, .ref (ad 0)), (1, .int x1), (2, .int x2)] → W p l e rmX9_halvesOf s m args below meth c H locs 0 0 Q (F0 m 44 ls [])) (hC240 : ∀ (σ : wx_Z) (x1 : Int32) (x2 : Int32) (x3 : Int32) (x4 : Int32) (x5 : Int32), C240 σ x1 x2 x3 x4 x5 → ∀ (H : Heap) (locs : List Loc) (ls : Array Slot), va_P D vwCl (wx_w 14 (wM_E cI ad) ad σ) H → va_D A (wx_w 14 (wM_E cI ad) ad σ) → va_S A s.heap H locs → lv_has ls 7 [(0, .ref (ad 0)), (1, .int x1), (2, .int x2), (3, .int x3), (4, .int x4), (5, .int x5)] → W p l e rmX9_halvesOf s m args below meth c H locs 0 0 Q (F0 m 240 ls [])) : ∀ (σ : wx_Z) (x1 : Int32) (x2 : Int32) (x3 : Int32) (x4 : Int32) (x5 : Int32) (s1 : Int32) (s2 : Int32) (s3 : Int32), wpX9_halvesOf_299 K C44 C240 σ x1 x2 x3 x4 x5 s1 s2 s3 → ∀ (H : Heap) (locs : List Loc) (ls : Array Slot), va_P D vwCl (wx_w 14 (wM_E cI ad) ad σ) H → va_D A (wx_w 14 (wM_E cI ad) ad σ) → va_S A s.heap H locs → lv_has ls 7 [(0, .ref (ad 0)), (1, .int x1), (2, .int x2), (3, .int x3), (4, .int x4), (5, .int x5)] → W p l e rmX9_halvesOf s m args below meth c H locs 0 0 Q (F0 m 299 ls [.int s3, .int s2, .int s1, .ref (ad 6)]) := by
  obtain ⟨⟨hx, hb, hml, hown, hts⟩, hA, hK, hRO, hro⟩ := id C
  intro σ x1 x2 x3 x4 x5 s1 s2 s3 h H locs ls hP hD hS hl
  unfold wpX9_halvesOf_299 at h
  refine lv_iadd hx hb dX9_halvesOf_299 ?_
  refine wx_ist C hP hD hS (q := 6) (Nat.le_of_ble_eq_true rfl) (fun _ => rfl) 0 rfl h.1 dX9_halvesOf_300 (fun H locs hP hD hS => ?_)
  generalize e_σ300 : wx_up σ 6 (Int32.toNatClampNeg s1) (s2 + s3) = σ300 at hP hD
  have h := h.2 σ300 e_σ300.symm
  obtain ⟨t301, e_t301⟩ : ∃ y : Int32, y = x5 + 1 := ⟨_, rfl⟩
  have h := h t301 e_t301
  refine lv_iinc (v := t301) (lv' := [(5, .int t301), (0, .ref (ad 0)), (1, .int x1), (2, .int x2), (3, .int x3), (4, .int x4)]) hx hb dX9_halvesOf_301 hl (k := 5) rfl (by rw [e_t301]; rfl) (by decide) rfl (fun ls hl => ?_)
  refine lv_goto (tgt := 240) hx hb dX9_halvesOf_304 (by decide) ?_
  exact hC240 σ300 x1 x2 x3 x4 t301  h _ _ _ hP hD hS (lv_sub hl [1, 2, 3, 4, 5, 0] rfl)
set_option maxRecDepth 100000 in
set_option maxHeartbeats 4000000 in
theorem bX9_halvesOf_240 {p : Program} {l : Launch} {e : Env} {s : State} {m : MethodId} {args : Array Value} {below : List Frame} {meth : Method} {c : Code} {A : Nat → Prop} {Q : State → Prop} {D : va_G} {cI : ClassId} {ad : Nat → Nat} {K : Int32 → wx_Z → Prop} {C44 : wx_Z → Int32 → Int32 → Prop} (C : wx_C p s m args c cX9_halvesOf 7 RX9 wsX9_halvesOf D [(cI, .int)] wx_T0 A) (Rt : wx_Ri p l e rmX9_halvesOf s m args below meth c cX9_halvesOf D 14 (wM_E cI ad) ad A K Q) (hC44 : ∀ (σ : wx_Z) (x1 : Int32) (x2 : Int32), C44 σ x1 x2 → ∀ (H : Heap) (locs : List Loc) (ls : Array Slot), va_P D vwCl (wx_w 14 (wM_E cI ad) ad σ) H → va_D A (wx_w 14 (wM_E cI ad) ad σ) → va_S A s.heap H locs → lv_has ls 7 [(0, .ref (ad 0)), (1, .int x1), (2, .int x2)] → W p l e rmX9_halvesOf s m args below meth c H locs 0 0 Q (F0 m 44 ls [])) : ∀ (n : Nat) (σ : wx_Z) (x1 : Int32) (x2 : Int32) (x3 : Int32) (x4 : Int32) (x5 : Int32), wpX9_halvesOf_240 K C44 n σ x1 x2 x3 x4 x5 → ∀ (H : Heap) (locs : List Loc) (ls : Array Slot), va_P D vwCl (wx_w 14 (wM_E cI ad) ad σ) H → va_D A (wx_w 14 (wM_E cI ad) ad σ) → va_S A s.heap H locs → lv_has ls 7 [(0, .ref (ad 0)), (1, .int x1), (2, .int x2), (3, .int x3), (4, .int x4), (5, .int x5)] → W p l e rmX9_halvesOf s m args below meth c H locs 0 0 Q (F0 m 240 ls []) := by
  obtain ⟨⟨hx, hb, hml, hown, hts⟩, hA, hK, hRO, hro⟩ := id C
  intro n
  induction n with
  | zero => intro σ x1 x2 x3 x4 x5 h; exact h.elim
  | succ n ih =>
    intro σ x1 x2 x3 x4 x5 h H locs ls hP hD hS hl
    unfold wpX9_halvesOf_240 at h
    refine lv_iload hx hb dX9_halvesOf_240 (lv_at hl 5 rfl) ?_
    refine lv_iload_n hx hb dX9_halvesOf_242 rfl (lv_at hl 3 rfl) ?_
    refine lv_icmp_ge (tgt := 307) hx hb dX9_halvesOf_243 (by decide) (fun c243 => ?_) (fun c243 => ?_)
    · have h := h.1 c243
      refine lv_aload_n hx hb dX9_halvesOf_307 rfl (lv_at hl 0 rfl) ?_
      refine wx_get C hP (q := 0) (ci := 9) (Nat.le_of_ble_eq_true rfl) (eM_0 cI ad _) (Cn := RX9) (T := TX9) (Nf := 27) rfl inX9_halvesOf_X9 18 (by decide) (List.mem_of_getElem? (i := 4) rfl) (v := .ref (ad 9)) rfl dX9_halvesOf_308 ?_
      refine lv_iload_n hx hb dX9_halvesOf_311 rfl (lv_at hl 2 rfl) ?_
      refine lv_iconst (v := 2) hx hb dX9_halvesOf_312 (by decide) ?_
      refine wx_ist C hP hD hS (q := 9) (Nat.le_of_ble_eq_true rfl) (fun _ => rfl) 0 rfl h.1 dX9_halvesOf_313 (fun H locs hP hD hS => ?_)
      generalize e_σ313 : wx_up σ 9 (Int32.toNatClampNeg x2) 2 = σ313 at hP hD
      have h := h.2 σ313 e_σ313.symm
      obtain ⟨t314, e_t314⟩ : ∃ y : Int32, y = x2 + 1 := ⟨_, rfl⟩
      have h := h t314 e_t314
      refine lv_iinc (v := t314) (lv' := [(2, .int t314), (0, .ref (ad 0)), (1, .int x1), (3, .int x3), (4, .int x4), (5, .int x5)]) hx hb dX9_halvesOf_314 hl (k := 2) rfl (by rw [e_t314]; rfl) (by decide) rfl (fun ls hl => ?_)
      refine lv_goto (tgt := 336) hx hb dX9_halvesOf_317 (by decide) ?_
      refine lv_goto (tgt := 44) hx hb dX9_halvesOf_336 (by decide) ?_
      exact hC44 σ313 x1 t314  h _ _ _ hP hD hS (lv_sub hl [1, 2, 0] rfl)
    · have h := h.2 c243
      refine lv_aload_n hx hb dX9_halvesOf_246 rfl (lv_at hl 0 rfl) ?_
      refine wx_get C hP (q := 0) (ci := 9) (Nat.le_of_ble_eq_true rfl) (eM_0 cI ad _) (Cn := RX9) (T := TX9) (Nf := 27) rfl inX9_halvesOf_X9 15 (by decide) (List.mem_of_getElem? (i := 1) rfl) (v := .ref (ad 6)) rfl dX9_halvesOf_247 ?_
      refine lv_iload hx hb dX9_halvesOf_250 (lv_at hl 4 rfl) ?_
      refine lv_iload_n hx hb dX9_halvesOf_252 rfl (lv_at hl 3 rfl) ?_
      refine lv_iadd hx hb dX9_halvesOf_253 ?_
      refine lv_iload hx hb dX9_halvesOf_254 (lv_at hl 5 rfl) ?_
      refine lv_iadd hx hb dX9_halvesOf_256 ?_
      refine wx_ild C hP (q := 6) (Nat.le_of_ble_eq_true rfl) (fun _ => rfl) 0 rfl h.1 dX9_halvesOf_257 ?_
      have h := h.2
      refine lv_topi (fun t258 e_t258 => ?_)
      have h := h t258 e_t258
      refine lv_istore (lv' := [(6, .int t258), (0, .ref (ad 0)), (1, .int x1), (2, .int x2), (3, .int x3), (4, .int x4), (5, .int x5)]) hx hb dX9_halvesOf_258 hl (by decide) rfl (fun ls hl => ?_)
      refine lv_aload_n hx hb dX9_halvesOf_260 rfl (lv_at hl 1 rfl) ?_
      refine wx_get C hP (q := 0) (ci := 9) (Nat.le_of_ble_eq_true rfl) (eM_0 cI ad _) (Cn := RX9) (T := TX9) (Nf := 27) rfl inX9_halvesOf_X9 15 (by decide) (List.mem_of_getElem? (i := 1) rfl) (v := .ref (ad 6)) rfl dX9_halvesOf_261 ?_
      refine lv_iload hx hb dX9_halvesOf_264 (lv_at hl 5 rfl) ?_
      refine lv_bipush (v := 32) hx hb dX9_halvesOf_266 (by decide) ?_
      refine lv_iadd hx hb dX9_halvesOf_268 ?_
      refine lv_iload hx hb dX9_halvesOf_269 (lv_at hl 6 rfl) ?_
      refine lv_iadd hx hb dX9_halvesOf_271 ?_
      refine lv_aload_n hx hb dX9_halvesOf_272 rfl (lv_at hl 1 rfl) ?_
      refine wx_get C hP (q := 0) (ci := 9) (Nat.le_of_ble_eq_true rfl) (eM_0 cI ad _) (Cn := RX9) (T := TX9) (Nf := 27) rfl inX9_halvesOf_X9 15 (by decide) (List.mem_of_getElem? (i := 1) rfl) (v := .ref (ad 6)) rfl dX9_halvesOf_273 ?_
      refine lv_iload hx hb dX9_halvesOf_276 (lv_at hl 5 rfl) ?_
      refine lv_iload hx hb dX9_halvesOf_278 (lv_at hl 6 rfl) ?_
      refine lv_iadd hx hb dX9_halvesOf_280 ?_
      refine wx_ild C hP (q := 6) (Nat.le_of_ble_eq_true rfl) (fun _ => rfl) 0 rfl h.1 dX9_halvesOf_281 ?_
      have h := h.2
      refine lv_iload_n hx hb dX9_halvesOf_282 rfl (lv_at hl 2 rfl) ?_
      refine lv_iload hx hb dX9_halvesOf_283 (lv_at hl 6 rfl) ?_
      refine wx_ci C hD hS (va_runS (As := [.int x1, .int x5]) (rest := [.int (σ 6 (Int32.toNatClampNeg (x4 + x5))), .int ((x4 + 32) + x5), .ref (ad 6)]) C.1 (mtX9_has (l := l) (D := D) (sz := H.size) h) (va_cwS 2 hts gX9_halvesOf_X9_has rfl rfl rfl nyX9_has.2 ⟨Nat.le_of_ble_eq_true rfl, Nat.le_of_ble_eq_true rfl⟩) (wx_ps C hP hD hS) rfl rfl hl.1 rfl (lv_room (Nat.le_of_ble_eq_true rfl)) dX9_halvesOf_285 ⟨Nat.zero_le _, Nat.zero_le _⟩) (fun r285 σ285 H locs h hP hD hS => ?_)
      refine lv_if_eq (tgt := 297) hx hb dX9_halvesOf_288 (by decide) (fun c288 => ?_) (fun c288 => ?_)
      · have h := h.1 c288
        refine lv_iload hx hb dX9_halvesOf_297 (lv_at hl 0 rfl) ?_
        exact bX9_halvesOf_299 C Rt hC44 ih σ285 x1 x2 x3 x4 x5 ((x4 + 32) + x5) (σ 6 (Int32.toNatClampNeg (x4 + x5))) t258  h _ _ _ hP hD hS (lv_sub hl [1, 2, 3, 4, 5, 6] rfl)
      · have h := h.2 c288
        refine lv_iload hx hb dX9_halvesOf_291 (lv_at hl 0 rfl) ?_
        refine lv_ineg hx hb dX9_halvesOf_293 ?_
        refine lv_goto (tgt := 299) hx hb dX9_halvesOf_294 (by decide) ?_
        exact bX9_halvesOf_299 C Rt hC44 ih σ285 x1 x2 x3 x4 x5 ((x4 + 32) + x5) (σ 6 (Int32.toNatClampNeg (x4 + x5))) (-t258)  h _ _ _ hP hD hS (lv_sub hl [1, 2, 3, 4, 5, 6] rfl)
set_option maxRecDepth 100000 in
set_option maxHeartbeats 4000000 in
theorem bX9_halvesOf_136 {p : Program} {l : Launch} {e : Env} {s : State} {m : MethodId} {args : Array Value} {below : List Frame} {meth : Method} {c : Code} {A : Nat → Prop} {Q : State → Prop} {D : va_G} {cI : ClassId} {ad : Nat → Nat} {K : Int32 → wx_Z → Prop} {C44 : wx_Z → Int32 → Int32 → Prop} (C : wx_C p s m args c cX9_halvesOf 7 RX9 wsX9_halvesOf D [(cI, .int)] wx_T0 A) (Rt : wx_Ri p l e rmX9_halvesOf s m args below meth c cX9_halvesOf D 14 (wM_E cI ad) ad A K Q) (hC44 : ∀ (σ : wx_Z) (x1 : Int32) (x2 : Int32), C44 σ x1 x2 → ∀ (H : Heap) (locs : List Loc) (ls : Array Slot), va_P D vwCl (wx_w 14 (wM_E cI ad) ad σ) H → va_D A (wx_w 14 (wM_E cI ad) ad σ) → va_S A s.heap H locs → lv_has ls 7 [(0, .ref (ad 0)), (1, .int x1), (2, .int x2)] → W p l e rmX9_halvesOf s m args below meth c H locs 0 0 Q (F0 m 44 ls [])) : ∀ (n : Nat) (σ : wx_Z) (x1 : Int32) (x2 : Int32) (x3 : Int32) (x4 : Int32) (x5 : Int32), wpX9_halvesOf_136 K C44 n σ x1 x2 x3 x4 x5 → ∀ (H : Heap) (locs : List Loc) (ls : Array Slot), va_P D vwCl (wx_w 14 (wM_E cI ad) ad σ) H → va_D A (wx_w 14 (wM_E cI ad) ad σ) → va_S A s.heap H locs → lv_has ls 7 [(0, .ref (ad 0)), (1, .int x1), (2, .int x2), (3, .int x3), (4, .int x4), (5, .int x5)] → W p l e rmX9_halvesOf s m args below meth c H locs 0 0 Q (F0 m 136 ls []) := by
  obtain ⟨⟨hx, hb, hml, hown, hts⟩, hA, hK, hRO, hro⟩ := id C
  intro n
  induction n with
  | zero => intro σ x1 x2 x3 x4 x5 h; exact h.elim
  | succ n ih =>
    intro σ x1 x2 x3 x4 x5 h H locs ls hP hD hS hl
    unfold wpX9_halvesOf_136 at h
    refine lv_iload hx hb dX9_halvesOf_136 (lv_at hl 5 rfl) ?_
    refine lv_iload_n hx hb dX9_halvesOf_138 rfl (lv_at hl 3 rfl) ?_
    refine lv_icmp_ge (tgt := 186) hx hb dX9_halvesOf_139 (by decide) (fun c139 => ?_) (fun c139 => ?_)
    · have h := h.1 c139
      refine lv_aload_n hx hb dX9_halvesOf_186 rfl (lv_at hl 0 rfl) ?_
      refine wx_get C hP (q := 0) (ci := 9) (Nat.le_of_ble_eq_true rfl) (eM_0 cI ad _) (Cn := RX9) (T := TX9) (Nf := 27) rfl inX9_halvesOf_X9 18 (by decide) (List.mem_of_getElem? (i := 4) rfl) (v := .ref (ad 9)) rfl dX9_halvesOf_187 ?_
      refine lv_iload_n hx hb dX9_halvesOf_190 rfl (lv_at hl 2 rfl) ?_
      refine lv_iconst (v := 1) hx hb dX9_halvesOf_191 (by decide) ?_
      refine wx_ist C hP hD hS (q := 9) (Nat.le_of_ble_eq_true rfl) (fun _ => rfl) 0 rfl h.1 dX9_halvesOf_192 (fun H locs hP hD hS => ?_)
      generalize e_σ192 : wx_up σ 9 (Int32.toNatClampNeg x2) 1 = σ192 at hP hD
      have h := h.2 σ192 e_σ192.symm
      obtain ⟨t193, e_t193⟩ : ∃ y : Int32, y = x2 + 1 := ⟨_, rfl⟩
      have h := h t193 e_t193
      refine lv_iinc (v := t193) (lv' := [(2, .int t193), (0, .ref (ad 0)), (1, .int x1), (3, .int x3), (4, .int x4), (5, .int x5)]) hx hb dX9_halvesOf_193 hl (k := 2) rfl (by rw [e_t193]; rfl) (by decide) rfl (fun ls hl => ?_)
      refine lv_goto (tgt := 336) hx hb dX9_halvesOf_196 (by decide) ?_
      refine lv_goto (tgt := 44) hx hb dX9_halvesOf_336 (by decide) ?_
      exact hC44 σ192 x1 t193  h _ _ _ hP hD hS (lv_sub hl [1, 2, 0] rfl)
    · have h := h.2 c139
      refine lv_aload_n hx hb dX9_halvesOf_142 rfl (lv_at hl 0 rfl) ?_
      refine wx_get C hP (q := 0) (ci := 9) (Nat.le_of_ble_eq_true rfl) (eM_0 cI ad _) (Cn := RX9) (T := TX9) (Nf := 27) rfl inX9_halvesOf_X9 15 (by decide) (List.mem_of_getElem? (i := 1) rfl) (v := .ref (ad 6)) rfl dX9_halvesOf_143 ?_
      refine lv_iload hx hb dX9_halvesOf_146 (lv_at hl 4 rfl) ?_
      refine lv_bipush (v := 32) hx hb dX9_halvesOf_148 (by decide) ?_
      refine lv_iadd hx hb dX9_halvesOf_150 ?_
      refine lv_iload hx hb dX9_halvesOf_151 (lv_at hl 5 rfl) ?_
      refine lv_iadd hx hb dX9_halvesOf_153 ?_
      refine lv_aload_n hx hb dX9_halvesOf_154 rfl (lv_at hl 0 rfl) ?_
      refine wx_get C hP (q := 0) (ci := 9) (Nat.le_of_ble_eq_true rfl) (eM_0 cI ad _) (Cn := RX9) (T := TX9) (Nf := 27) rfl inX9_halvesOf_X9 15 (by decide) (List.mem_of_getElem? (i := 1) rfl) (v := .ref (ad 6)) rfl dX9_halvesOf_155 ?_
      refine lv_iload hx hb dX9_halvesOf_158 (lv_at hl 4 rfl) ?_
      refine lv_iload hx hb dX9_halvesOf_160 (lv_at hl 5 rfl) ?_
      refine lv_iadd hx hb dX9_halvesOf_162 ?_
      refine wx_ild C hP (q := 6) (Nat.le_of_ble_eq_true rfl) (fun _ => rfl) 0 rfl h.1 dX9_halvesOf_163 ?_
      have h := h.2
      refine lv_aload_n hx hb dX9_halvesOf_164 rfl (lv_at hl 0 rfl) ?_
      refine wx_get C hP (q := 0) (ci := 9) (Nat.le_of_ble_eq_true rfl) (eM_0 cI ad _) (Cn := RX9) (T := TX9) (Nf := 27) rfl inX9_halvesOf_X9 15 (by decide) (List.mem_of_getElem? (i := 1) rfl) (v := .ref (ad 6)) rfl dX9_halvesOf_165 ?_
      refine lv_iload hx hb dX9_halvesOf_168 (lv_at hl 4 rfl) ?_
      refine lv_iload_n hx hb dX9_halvesOf_170 rfl (lv_at hl 3 rfl) ?_
      refine lv_iadd hx hb dX9_halvesOf_171 ?_
      refine lv_iload hx hb dX9_halvesOf_172 (lv_at hl 5 rfl) ?_
      refine lv_iadd hx hb dX9_halvesOf_174 ?_
      refine wx_ild C hP (q := 6) (Nat.le_of_ble_eq_true rfl) (fun _ => rfl) 0 rfl h.1 dX9_halvesOf_175 ?_
      have h := h.2
      refine wx_ci C hD hS (va_runS (As := [.int (σ 6 (Int32.toNatClampNeg (x4 + x5))), .int (σ 6 (Int32.toNatClampNeg ((x4 + x3) + x5)))]) (rest := [.int ((x4 + 32) + x5), .ref (ad 6)]) C.1 (mtX9_lesser (l := l) (D := D) (sz := H.size) h) (va_cwS 2 hts gX9_halvesOf_X9_lesser rfl rfl rfl nyX9_lesser.2 ⟨Nat.le_of_ble_eq_true rfl, Nat.le_of_ble_eq_true rfl⟩) (wx_ps C hP hD hS) rfl rfl hl.1 rfl (lv_room (Nat.le_of_ble_eq_true rfl)) dX9_halvesOf_176 ⟨Nat.zero_le _, Nat.zero_le _⟩) (fun r176 σ176 H locs h hP hD hS => ?_)
      refine wx_ist C hP hD hS (q := 6) (Nat.le_of_ble_eq_true rfl) (fun _ => rfl) 0 rfl h.1 dX9_halvesOf_179 (fun H locs hP hD hS => ?_)
      generalize e_σ179 : wx_up σ176 6 (Int32.toNatClampNeg ((x4 + 32) + x5)) r176 = σ179 at hP hD
      have h := h.2 σ179 e_σ179.symm
      obtain ⟨t180, e_t180⟩ : ∃ y : Int32, y = x5 + 1 := ⟨_, rfl⟩
      have h := h t180 e_t180
      refine lv_iinc (v := t180) (lv' := [(5, .int t180), (0, .ref (ad 0)), (1, .int x1), (2, .int x2), (3, .int x3), (4, .int x4)]) hx hb dX9_halvesOf_180 hl (k := 5) rfl (by rw [e_t180]; rfl) (by decide) rfl (fun ls hl => ?_)
      refine lv_goto (tgt := 136) hx hb dX9_halvesOf_183 (by decide) ?_
      exact ih σ179 x1 x2 x3 x4 t180  h _ _ _ hP hD hS (lv_sub hl [1, 2, 3, 4, 5, 0] rfl)
set_option maxRecDepth 100000 in
set_option maxHeartbeats 4000000 in
theorem bX9_halvesOf_44 {p : Program} {l : Launch} {e : Env} {s : State} {m : MethodId} {args : Array Value} {below : List Frame} {meth : Method} {c : Code} {A : Nat → Prop} {Q : State → Prop} {D : va_G} {cI : ClassId} {ad : Nat → Nat} {K : Int32 → wx_Z → Prop} (C : wx_C p s m args c cX9_halvesOf 7 RX9 wsX9_halvesOf D [(cI, .int)] wx_T0 A) (Rt : wx_Ri p l e rmX9_halvesOf s m args below meth c cX9_halvesOf D 14 (wM_E cI ad) ad A K Q) : ∀ (n : Nat) (σ : wx_Z) (x1 : Int32) (x2 : Int32), wpX9_halvesOf_44 K n σ x1 x2 → ∀ (H : Heap) (locs : List Loc) (ls : Array Slot), va_P D vwCl (wx_w 14 (wM_E cI ad) ad σ) H → va_D A (wx_w 14 (wM_E cI ad) ad σ) → va_S A s.heap H locs → lv_has ls 7 [(0, .ref (ad 0)), (1, .int x1), (2, .int x2)] → W p l e rmX9_halvesOf s m args below meth c H locs 0 0 Q (F0 m 44 ls []) := by
  obtain ⟨⟨hx, hb, hml, hown, hts⟩, hA, hK, hRO, hro⟩ := id C
  intro n
  induction n with
  | zero => intro σ x1 x2 h; exact h.elim
  | succ n ih =>
    intro σ x1 x2 h H locs ls hP hD hS hl
    unfold wpX9_halvesOf_44 at h
    refine lv_iload_n hx hb dX9_halvesOf_44 rfl (lv_at hl 2 rfl) ?_
    refine lv_if_lt (tgt := 339) hx hb dX9_halvesOf_45 (by decide) (fun c45 => ?_) (fun c45 => ?_)
    · have h := h.1 c45
      refine lv_iload_n hx hb dX9_halvesOf_339 rfl (lv_at hl 1 rfl) ?_
      exact Rt _ _ _ _ _ _ h hP hD hS dX9_halvesOf_340
    · have h := h.2 c45
      refine lv_iconst (v := 1) hx hb dX9_halvesOf_48 (by decide) ?_
      refine lv_aload_n hx hb dX9_halvesOf_49 rfl (lv_at hl 0 rfl) ?_
      refine wx_get C hP (q := 0) (ci := 9) (Nat.le_of_ble_eq_true rfl) (eM_0 cI ad _) (Cn := RX9) (T := TX9) (Nf := 27) rfl inX9_halvesOf_X9 17 (by decide) (List.mem_of_getElem? (i := 2) rfl) (v := .ref (ad 8)) rfl dX9_halvesOf_50 ?_
      refine lv_iload_n hx hb dX9_halvesOf_53 rfl (lv_at hl 2 rfl) ?_
      refine wx_ild C hP (q := 8) (Nat.le_of_ble_eq_true rfl) (fun _ => rfl) 0 rfl h.1 dX9_halvesOf_54 ?_
      have h := h.2
      refine lv_ishl hx hb dX9_halvesOf_55 ?_
      refine lv_iconst (v := 1) hx hb dX9_halvesOf_56 (by decide) ?_
      refine lv_ishr hx hb dX9_halvesOf_57 ?_
      refine lv_topi (fun t58 e_t58 => ?_)
      have h := h t58 e_t58
      refine lv_istore_n (lv' := [(3, .int t58), (0, .ref (ad 0)), (1, .int x1), (2, .int x2)]) hx hb dX9_halvesOf_58 rfl hl (by decide) rfl (fun ls hl => ?_)
      refine lv_bipush (v := 32) hx hb dX9_halvesOf_59 (by decide) ?_
      refine lv_iload_n hx hb dX9_halvesOf_61 rfl (lv_at hl 3 rfl) ?_
      refine lv_imul hx hb dX9_halvesOf_62 ?_
      refine lv_topi (fun t63 e_t63 => ?_)
      have h := h t63 e_t63
      refine lv_istore (lv' := [(4, .int t63), (3, .int t58), (0, .ref (ad 0)), (1, .int x1), (2, .int x2)]) hx hb dX9_halvesOf_63 hl (by decide) rfl (fun ls hl => ?_)
      refine lv_aload_n hx hb dX9_halvesOf_65 rfl (lv_at hl 2 rfl) ?_
      refine wx_get C hP (q := 0) (ci := 9) (Nat.le_of_ble_eq_true rfl) (eM_0 cI ad _) (Cn := RX9) (T := TX9) (Nf := 27) rfl inX9_halvesOf_X9 16 (by decide) (List.mem_of_getElem? (i := 3) rfl) (v := .ref (ad 7)) rfl dX9_halvesOf_66 ?_
      refine lv_iload_n hx hb dX9_halvesOf_69 rfl (lv_at hl 4 rfl) ?_
      refine wx_ild C hP (q := 7) (Nat.le_of_ble_eq_true rfl) (fun _ => rfl) 0 rfl h.1 dX9_halvesOf_70 ?_
      have h := h.2
      refine lv_if_eq (tgt := 89) hx hb dX9_halvesOf_71 (by decide) (fun c71 => ?_) (fun c71 => ?_)
      · have h := h.1 c71
        exact bX9_halvesOf_89 C Rt ih σ x2  h _ _ _ hP hD hS (lv_sub hl [2, 4] rfl)
      · have h := h.2 c71
        refine lv_aload_n hx hb dX9_halvesOf_74 rfl (lv_at hl 2 rfl) ?_
        refine wx_get C hP (q := 0) (ci := 9) (Nat.le_of_ble_eq_true rfl) (eM_0 cI ad _) (Cn := RX9) (T := TX9) (Nf := 27) rfl inX9_halvesOf_X9 16 (by decide) (List.mem_of_getElem? (i := 3) rfl) (v := .ref (ad 7)) rfl dX9_halvesOf_75 ?_
        refine lv_iload_n hx hb dX9_halvesOf_78 rfl (lv_at hl 4 rfl) ?_
        refine wx_ild C hP (q := 7) (Nat.le_of_ble_eq_true rfl) (fun _ => rfl) 0 rfl h.1 dX9_halvesOf_79 ?_
        have h := h.2
        refine lv_aload_n hx hb dX9_halvesOf_80 rfl (lv_at hl 2 rfl) ?_
        refine wx_get C hP (q := 0) (ci := 9) (Nat.le_of_ble_eq_true rfl) (eM_0 cI ad _) (Cn := RX9) (T := TX9) (Nf := 27) rfl inX9_halvesOf_X9 17 (by decide) (List.mem_of_getElem? (i := 2) rfl) (v := .ref (ad 8)) rfl dX9_halvesOf_81 ?_
        refine lv_iload_n hx hb dX9_halvesOf_84 rfl (lv_at hl 4 rfl) ?_
        refine wx_ild C hP (q := 8) (Nat.le_of_ble_eq_true rfl) (fun _ => rfl) 0 rfl h.1 dX9_halvesOf_85 ?_
        have h := h.2
        refine lv_icmp_ne (tgt := 101) hx hb dX9_halvesOf_86 (by decide) (fun c86 => ?_) (fun c86 => ?_)
        · have h := h.1 c86
          refine lv_aload_n hx hb dX9_halvesOf_101 rfl (lv_at hl 2 rfl) ?_
          refine wx_get C hP (q := 0) (ci := 9) (Nat.le_of_ble_eq_true rfl) (eM_0 cI ad _) (Cn := RX9) (T := TX9) (Nf := 27) rfl inX9_halvesOf_X9 18 (by decide) (List.mem_of_getElem? (i := 4) rfl) (v := .ref (ad 9)) rfl dX9_halvesOf_102 ?_
          refine lv_iload_n hx hb dX9_halvesOf_105 rfl (lv_at hl 4 rfl) ?_
          refine wx_ild C hP (q := 9) (Nat.le_of_ble_eq_true rfl) (fun _ => rfl) 0 rfl h.1 dX9_halvesOf_106 ?_
          have h := h.2
          refine lv_if_ne (tgt := 199) hx hb dX9_halvesOf_107 (by decide) (fun c107 => ?_) (fun c107 => ?_)
          · have h := h.1 c107
            refine lv_aload_n hx hb dX9_halvesOf_199 rfl (lv_at hl 2 rfl) ?_
            refine wx_get C hP (q := 0) (ci := 9) (Nat.le_of_ble_eq_true rfl) (eM_0 cI ad _) (Cn := RX9) (T := TX9) (Nf := 27) rfl inX9_halvesOf_X9 18 (by decide) (List.mem_of_getElem? (i := 4) rfl) (v := .ref (ad 9)) rfl dX9_halvesOf_200 ?_
            refine lv_iload_n hx hb dX9_halvesOf_203 rfl (lv_at hl 4 rfl) ?_
            refine wx_ild C hP (q := 9) (Nat.le_of_ble_eq_true rfl) (fun _ => rfl) 0 rfl h.1 dX9_halvesOf_204 ?_
            have h := h.2
            refine lv_iconst (v := 1) hx hb dX9_halvesOf_205 (by decide) ?_
            refine lv_icmp_ne (tgt := 320) hx hb dX9_halvesOf_206 (by decide) (fun c206 => ?_) (fun c206 => ?_)
            · have h := h.1 c206
              refine lv_iload_n hx hb dX9_halvesOf_320 rfl (lv_at hl 3 rfl) ?_
              refine lv_iload_n hx hb dX9_halvesOf_321 rfl (lv_at hl 3 rfl) ?_
              refine lv_aload_n hx hb dX9_halvesOf_322 rfl (lv_at hl 2 rfl) ?_
              refine wx_get C hP (q := 0) (ci := 9) (Nat.le_of_ble_eq_true rfl) (eM_0 cI ad _) (Cn := RX9) (T := TX9) (Nf := 27) rfl inX9_halvesOf_X9 19 (by decide) (List.mem_of_getElem? (i := 5) rfl) (v := .ref (ad 10)) rfl dX9_halvesOf_323 ?_
              refine lv_iload_n hx hb dX9_halvesOf_326 rfl (lv_at hl 4 rfl) ?_
              refine wx_ild C hP (q := 10) (Nat.le_of_ble_eq_true rfl) (fun _ => rfl) 0 rfl h.1 dX9_halvesOf_327 ?_
              have h := h.2
              refine lv_ixor hx hb dX9_halvesOf_328 ?_
              refine lv_iload_n hx hb dX9_halvesOf_329 rfl (lv_at hl 1 rfl) ?_
              refine lv_ishl hx hb dX9_halvesOf_330 ?_
              refine lv_ior hx hb dX9_halvesOf_331 ?_
              refine lv_topi (fun t332 e_t332 => ?_)
              have h := h t332 e_t332
              refine lv_istore_n (lv' := [(1, .int t332), (4, .int t63), (3, .int t58), (0, .ref (ad 0)), (2, .int x2)]) hx hb dX9_halvesOf_332 rfl hl (by decide) rfl (fun ls hl => ?_)
              obtain ⟨t333, e_t333⟩ : ∃ y : Int32, y = x2 + (-1) := ⟨_, rfl⟩
              have h := h t333 e_t333
              refine lv_iinc (v := t333) (lv' := [(2, .int t333), (1, .int t332), (4, .int t63), (3, .int t58), (0, .ref (ad 0))]) hx hb dX9_halvesOf_333 hl (k := 4) rfl (by rw [e_t333]; rfl) (by decide) rfl (fun ls hl => ?_)
              refine lv_goto (tgt := 44) hx hb dX9_halvesOf_336 (by decide) ?_
              exact ih σ t332 t333  h _ _ _ hP hD hS (lv_sub hl [4, 1, 0] rfl)
            · have h := h.2 c206
              refine lv_aload_n hx hb dX9_halvesOf_209 rfl (lv_at hl 2 rfl) ?_
              refine wx_get C hP (q := 0) (ci := 9) (Nat.le_of_ble_eq_true rfl) (eM_0 cI ad _) (Cn := RX9) (T := TX9) (Nf := 27) rfl inX9_halvesOf_X9 19 (by decide) (List.mem_of_getElem? (i := 5) rfl) (v := .ref (ad 10)) rfl dX9_halvesOf_210 ?_
              refine lv_iload_n hx hb dX9_halvesOf_213 rfl (lv_at hl 4 rfl) ?_
              refine lv_iload_n hx hb dX9_halvesOf_214 rfl (lv_at hl 3 rfl) ?_
              refine wx_ist C hP hD hS (q := 10) (Nat.le_of_ble_eq_true rfl) (fun _ => rfl) 0 rfl h.1 dX9_halvesOf_215 (fun H locs hP hD hS => ?_)
              generalize e_σ215 : wx_up σ 10 (Int32.toNatClampNeg x2) x1 = σ215 at hP hD
              have h := h.2 σ215 e_σ215.symm
              refine lv_aload_n hx hb dX9_halvesOf_216 rfl (lv_at hl 2 rfl) ?_
              refine lv_iload_n hx hb dX9_halvesOf_217 rfl (lv_at hl 4 rfl) ?_
              refine lv_iconst (v := 1) hx hb dX9_halvesOf_218 (by decide) ?_
              refine lv_iadd hx hb dX9_halvesOf_219 ?_
              refine lv_aload_n hx hb dX9_halvesOf_220 rfl (lv_at hl 2 rfl) ?_
              refine wx_get C hP (q := 0) (ci := 9) (Nat.le_of_ble_eq_true rfl) (eM_0 cI ad _) (Cn := RX9) (T := TX9) (Nf := 27) rfl inX9_halvesOf_X9 16 (by decide) (List.mem_of_getElem? (i := 3) rfl) (v := .ref (ad 7)) rfl dX9_halvesOf_221 ?_
              refine lv_iload_n hx hb dX9_halvesOf_224 rfl (lv_at hl 4 rfl) ?_
              refine wx_ild C hP (q := 7) (Nat.le_of_ble_eq_true rfl) (fun _ => rfl) 0 rfl h.1 dX9_halvesOf_225 ?_
              have h := h.2
              refine lv_aload_n hx hb dX9_halvesOf_226 rfl (lv_at hl 2 rfl) ?_
              refine wx_get C hP (q := 0) (ci := 9) (Nat.le_of_ble_eq_true rfl) (eM_0 cI ad _) (Cn := RX9) (T := TX9) (Nf := 27) rfl inX9_halvesOf_X9 17 (by decide) (List.mem_of_getElem? (i := 2) rfl) (v := .ref (ad 8)) rfl dX9_halvesOf_227 ?_
              refine lv_iload_n hx hb dX9_halvesOf_230 rfl (lv_at hl 4 rfl) ?_
              refine wx_ild C hP (q := 8) (Nat.le_of_ble_eq_true rfl) (fun _ => rfl) 0 rfl h.1 dX9_halvesOf_231 ?_
              have h := h.2
              refine lv_iconst (v := 1) hx hb dX9_halvesOf_232 (by decide) ?_
              refine lv_isub hx hb dX9_halvesOf_233 ?_
              refine wx_cv C hD hS (va_runV (As := [.int (x2 + 1), .int (σ215 7 (Int32.toNatClampNeg x2)), .int ((σ215 8 (Int32.toNatClampNeg x2)) - 1)]) (rest := []) C.1 (mtX9_begins (l := l) (D := D) (sz := H.size) h) (cwV 3 hts gX9_halvesOf_X9_begins rfl rfl rfl nyX9_begins ⟨Nat.le_of_ble_eq_true rfl, Nat.le_of_ble_eq_true rfl⟩) (wx_pv C hP hD hS (q := 0) (ci := 9) (Nat.le_of_ble_eq_true rfl) (eM_0 cI ad _) rfl) rfl rfl hl.1 rfl (lv_room (Nat.le_of_ble_eq_true rfl)) dX9_halvesOf_234 ⟨Nat.zero_le _, Nat.zero_le _⟩) (fun σ234 H locs h hP hD hS => ?_)
              refine lv_iconst (v := 0) hx hb dX9_halvesOf_237 (by decide) ?_
              refine lv_istore (lv' := [(5, .int 0), (4, .int t63), (3, .int t58), (0, .ref (ad 0)), (1, .int x1), (2, .int x2)]) hx hb dX9_halvesOf_238 hl (by decide) rfl (fun ls hl => ?_)
              obtain ⟨n240, h⟩ := h
              exact bX9_halvesOf_240 C Rt ih n240 σ234 x1 x2 t58 t63 0  h _ _ _ hP hD hS (lv_sub hl [3, 4, 5, 2, 1, 0] rfl)
          · have h := h.2 c107
            refine lv_aload_n hx hb dX9_halvesOf_110 rfl (lv_at hl 2 rfl) ?_
            refine lv_iload_n hx hb dX9_halvesOf_111 rfl (lv_at hl 4 rfl) ?_
            refine lv_iconst (v := 1) hx hb dX9_halvesOf_112 (by decide) ?_
            refine lv_iadd hx hb dX9_halvesOf_113 ?_
            refine lv_aload_n hx hb dX9_halvesOf_114 rfl (lv_at hl 2 rfl) ?_
            refine wx_get C hP (q := 0) (ci := 9) (Nat.le_of_ble_eq_true rfl) (eM_0 cI ad _) (Cn := RX9) (T := TX9) (Nf := 27) rfl inX9_halvesOf_X9 16 (by decide) (List.mem_of_getElem? (i := 3) rfl) (v := .ref (ad 7)) rfl dX9_halvesOf_115 ?_
            refine lv_iload_n hx hb dX9_halvesOf_118 rfl (lv_at hl 4 rfl) ?_
            refine wx_ild C hP (q := 7) (Nat.le_of_ble_eq_true rfl) (fun _ => rfl) 0 rfl h.1 dX9_halvesOf_119 ?_
            have h := h.2
            refine lv_iconst (v := 1) hx hb dX9_halvesOf_120 (by decide) ?_
            refine lv_isub hx hb dX9_halvesOf_121 ?_
            refine lv_aload_n hx hb dX9_halvesOf_122 rfl (lv_at hl 2 rfl) ?_
            refine wx_get C hP (q := 0) (ci := 9) (Nat.le_of_ble_eq_true rfl) (eM_0 cI ad _) (Cn := RX9) (T := TX9) (Nf := 27) rfl inX9_halvesOf_X9 17 (by decide) (List.mem_of_getElem? (i := 2) rfl) (v := .ref (ad 8)) rfl dX9_halvesOf_123 ?_
            refine lv_iload_n hx hb dX9_halvesOf_126 rfl (lv_at hl 4 rfl) ?_
            refine wx_ild C hP (q := 8) (Nat.le_of_ble_eq_true rfl) (fun _ => rfl) 0 rfl h.1 dX9_halvesOf_127 ?_
            have h := h.2
            refine lv_iconst (v := 1) hx hb dX9_halvesOf_128 (by decide) ?_
            refine lv_isub hx hb dX9_halvesOf_129 ?_
            refine wx_cv C hD hS (va_runV (As := [.int (x2 + 1), .int ((σ 7 (Int32.toNatClampNeg x2)) - 1), .int ((σ 8 (Int32.toNatClampNeg x2)) - 1)]) (rest := []) C.1 (mtX9_begins (l := l) (D := D) (sz := H.size) h) (cwV 3 hts gX9_halvesOf_X9_begins rfl rfl rfl nyX9_begins ⟨Nat.le_of_ble_eq_true rfl, Nat.le_of_ble_eq_true rfl⟩) (wx_pv C hP hD hS (q := 0) (ci := 9) (Nat.le_of_ble_eq_true rfl) (eM_0 cI ad _) rfl) rfl rfl hl.1 rfl (lv_room (Nat.le_of_ble_eq_true rfl)) dX9_halvesOf_130 ⟨Nat.zero_le _, Nat.zero_le _⟩) (fun σ130 H locs h hP hD hS => ?_)
            refine lv_iconst (v := 0) hx hb dX9_halvesOf_133 (by decide) ?_
            refine lv_istore (lv' := [(5, .int 0), (4, .int t63), (3, .int t58), (0, .ref (ad 0)), (1, .int x1), (2, .int x2)]) hx hb dX9_halvesOf_134 hl (by decide) rfl (fun ls hl => ?_)
            obtain ⟨n136, h⟩ := h
            exact bX9_halvesOf_136 C Rt ih n136 σ130 x1 x2 t58 t63 0  h _ _ _ hP hD hS (lv_sub hl [3, 4, 5, 2, 1, 0] rfl)
        · have h := h.2 c86
          exact bX9_halvesOf_89 C Rt ih σ x2  h _ _ _ hP hD hS (lv_sub hl [2, 4] rfl)
set_option maxRecDepth 100000 in
set_option maxHeartbeats 4000000 in
theorem bX9_halvesOf_19 {p : Program} {l : Launch} {e : Env} {s : State} {m : MethodId} {args : Array Value} {below : List Frame} {meth : Method} {c : Code} {A : Nat → Prop} {Q : State → Prop} {D : va_G} {cI : ClassId} {ad : Nat → Nat} {K : Int32 → wx_Z → Prop} (C : wx_C p s m args c cX9_halvesOf 7 RX9 wsX9_halvesOf D [(cI, .int)] wx_T0 A) (Rt : wx_Ri p l e rmX9_halvesOf s m args below meth c cX9_halvesOf D 14 (wM_E cI ad) ad A K Q) : ∀ (n : Nat) (σ : wx_Z) (x1 : Int32) (x2 : Int32) (x3 : Int32), wpX9_halvesOf_19 K n σ x1 x2 x3 → ∀ (H : Heap) (locs : List Loc) (ls : Array Slot), va_P D vwCl (wx_w 14 (wM_E cI ad) ad σ) H → va_D A (wx_w 14 (wM_E cI ad) ad σ) → va_S A s.heap H locs → lv_has ls 7 [(0, .ref (ad 0)), (1, .int x1), (2, .int x2), (3, .int x3)] → W p l e rmX9_halvesOf s m args below meth c H locs 0 0 Q (F0 m 19 ls []) := by
  obtain ⟨⟨hx, hb, hml, hown, hts⟩, hA, hK, hRO, hro⟩ := id C
  intro n
  induction n with
  | zero => intro σ x1 x2 x3 h; exact h.elim
  | succ n ih =>
    intro σ x1 x2 x3 h H locs ls hP hD hS hl
    unfold wpX9_halvesOf_19 at h
    refine lv_iload_n hx hb dX9_halvesOf_19 rfl (lv_at hl 3 rfl) ?_
    refine lv_aload_n hx hb dX9_halvesOf_20 rfl (lv_at hl 0 rfl) ?_
    refine wx_ci C hD hS (va_runV (As := []) (rest := [.int x3]) C.1 (mtX9_places (l := l) (D := D) (sz := H.size) h) (cwV 0 hts gX9_halvesOf_X9_places rfl rfl rfl nyX9_places ⟨Nat.le_of_ble_eq_true rfl, Nat.le_of_ble_eq_true rfl⟩) (wx_pv C hP hD hS (q := 0) (ci := 9) (Nat.le_of_ble_eq_true rfl) (eM_0 cI ad _) rfl) rfl rfl hl.1 rfl (lv_room (Nat.le_of_ble_eq_true rfl)) dX9_halvesOf_21 ⟨Nat.zero_le _, Nat.zero_le _⟩) (fun r21 σ21 H locs h hP hD hS => ?_)
    refine lv_icmp_ge (tgt := 44) hx hb dX9_halvesOf_24 (by decide) (fun c24 => ?_) (fun c24 => ?_)
    · have h := h.1 c24
      obtain ⟨n44, h⟩ := h
      exact bX9_halvesOf_44 C Rt n44 σ21 x1 x2  h _ _ _ hP hD hS (lv_sub hl [0, 1, 2] rfl)
    · have h := h.2 c24
      refine lv_aload_n hx hb dX9_halvesOf_27 rfl (lv_at hl 0 rfl) ?_
      refine wx_get C hP (q := 0) (ci := 9) (Nat.le_of_ble_eq_true rfl) (eM_0 cI ad _) (Cn := RX9) (T := TX9) (Nf := 27) rfl inX9_halvesOf_X9 15 (by decide) (List.mem_of_getElem? (i := 1) rfl) (v := .ref (ad 6)) rfl dX9_halvesOf_28 ?_
      refine lv_iload_n hx hb dX9_halvesOf_31 rfl (lv_at hl 3 rfl) ?_
      refine lv_aload_n hx hb dX9_halvesOf_32 rfl (lv_at hl 0 rfl) ?_
      refine lv_iload_n hx hb dX9_halvesOf_33 rfl (lv_at hl 3 rfl) ?_
      refine wx_ci C hD hS (va_runV (As := [.int x3]) (rest := [.int x3, .ref (ad 6)]) C.1 (mtX9_softOf (l := l) (D := D) (sz := H.size) h) (cwV 1 hts gX9_halvesOf_X9_softOf rfl rfl rfl nyX9_softOf ⟨Nat.le_of_ble_eq_true rfl, Nat.le_of_ble_eq_true rfl⟩) (wx_pv C hP hD hS (q := 0) (ci := 9) (Nat.le_of_ble_eq_true rfl) (eM_0 cI ad _) rfl) rfl rfl hl.1 rfl (lv_room (Nat.le_of_ble_eq_true rfl)) dX9_halvesOf_34 ⟨Nat.zero_le _, Nat.zero_le _⟩) (fun r34 σ34 H locs h hP hD hS => ?_)
      refine wx_ist C hP hD hS (q := 6) (Nat.le_of_ble_eq_true rfl) (fun _ => rfl) 0 rfl h.1 dX9_halvesOf_37 (fun H locs hP hD hS => ?_)
      generalize e_σ37 : wx_up σ34 6 (Int32.toNatClampNeg x3) r34 = σ37 at hP hD
      have h := h.2 σ37 e_σ37.symm
      obtain ⟨t38, e_t38⟩ : ∃ y : Int32, y = x3 + 1 := ⟨_, rfl⟩
      have h := h t38 e_t38
      refine lv_iinc (v := t38) (lv' := [(3, .int t38), (0, .ref (ad 0)), (1, .int x1), (2, .int x2)]) hx hb dX9_halvesOf_38 hl (k := 3) rfl (by rw [e_t38]; rfl) (by decide) rfl (fun ls hl => ?_)
      refine lv_goto (tgt := 19) hx hb dX9_halvesOf_41 (by decide) ?_
      exact ih σ37 x1 x2 t38  h _ _ _ hP hD hS (lv_sub hl [1, 2, 3, 0] rfl)
set_option maxRecDepth 100000 in
set_option maxHeartbeats 4000000 in
theorem mtX9_halvesOf {l : Launch} {D : va_G} {cI : ClassId} {ad : Nat → Nat} {sz : Nat} {σ : wx_Z} {K : Int32 → wx_Z → Prop} (h : wpX9_halvesOf σ K) : Met l yX9_halvesOf wsX9_halvesOf rmX9_halvesOf (wx_Pre D [(cI, .int)] wx_T0 14 (wM_E cI ad) ad σ sz [.ref (ad 0)]) (va_Qi K (wx_B D [(cI, .int)] 14 (wM_E cI ad) ad (va_A (wx_w 14 (wM_E cI ad) ad σ) sz)) (va_A (wx_w 14 (wM_E cI ad) ad σ) sz)) 0 0 (va_A (wx_w 14 (wM_E cI ad) ad σ) sz) := by
  unfold wpX9_halvesOf at h
  refine wx_meti (cc := cX9_halvesOf) (maxL := 7) (own := RX9) rfl (by decide) rfl (Nat.le_of_ble_eq_true rfl) wx_T0_ok ?_
  intro p e s m args below meth c A Q ls C Rt hP hD hS hl
  obtain ⟨⟨hx, hb, hml, hown, hts⟩, hA, hK, hRO, hro⟩ := id C
  have hl : lv_has ls 7 [(0, .ref (ad 0))] := hl
  obtain ⟨H, eH⟩ : ∃ z, z = s.heap := ⟨_, rfl⟩
  obtain ⟨locs, eL⟩ : ∃ z : List Loc, z = [] := ⟨_, rfl⟩
  rw [← eH] at hP
  have hS : va_S A s.heap H locs := by rw [eH, eL]; exact hS
  have goal : W p l e rmX9_halvesOf s m args below meth c H locs 0 0 Q (F0 m 0 ls []) := by
    refine lv_iconst (v := 0) hx hb dX9_halvesOf_0 (by decide) ?_
    refine lv_istore_n (lv' := [(1, .int 0), (0, .ref (ad 0))]) hx hb dX9_halvesOf_1 rfl hl (by decide) rfl (fun ls hl => ?_)
    refine lv_iconst (v := 0) hx hb dX9_halvesOf_2 (by decide) ?_
    refine lv_istore_n (lv' := [(2, .int 0), (1, .int 0), (0, .ref (ad 0))]) hx hb dX9_halvesOf_3 rfl hl (by decide) rfl (fun ls hl => ?_)
    refine lv_aload_n hx hb dX9_halvesOf_4 rfl (lv_at hl 2 rfl) ?_
    refine lv_iconst (v := 0) hx hb dX9_halvesOf_5 (by decide) ?_
    refine lv_aload_n hx hb dX9_halvesOf_6 rfl (lv_at hl 2 rfl) ?_
    refine wx_ci C hD hS (va_runV (As := []) (rest := [.int 0, .ref (ad 0)]) C.1 (mtX9_order (l := l) (D := D) (sz := H.size) h) (cwV 0 hts gX9_halvesOf_X9_order rfl rfl rfl nyX9_order ⟨Nat.le_of_ble_eq_true rfl, Nat.le_of_ble_eq_true rfl⟩) (wx_pv C hP hD hS (q := 0) (ci := 9) (Nat.le_of_ble_eq_true rfl) (eM_0 cI ad _) rfl) rfl rfl hl.1 rfl (lv_room (Nat.le_of_ble_eq_true rfl)) dX9_halvesOf_7 ⟨Nat.zero_le _, Nat.zero_le _⟩) (fun r7 σ7 H locs h hP hD hS => ?_)
    refine lv_aload_n hx hb dX9_halvesOf_10 rfl (lv_at hl 2 rfl) ?_
    refine wx_ci C hD hS (va_runV (As := []) (rest := [.int r7, .int 0, .ref (ad 0)]) C.1 (mtX9_length (l := l) (D := D) (sz := H.size) h) (cwV 0 hts gX9_halvesOf_X9_length rfl rfl rfl nyX9_length ⟨Nat.le_of_ble_eq_true rfl, Nat.le_of_ble_eq_true rfl⟩) (wx_pv C hP hD hS (q := 0) (ci := 9) (Nat.le_of_ble_eq_true rfl) (eM_0 cI ad _) rfl) rfl rfl hl.1 rfl (lv_room (Nat.le_of_ble_eq_true rfl)) dX9_halvesOf_11 ⟨Nat.zero_le _, Nat.zero_le _⟩) (fun r11 σ11 H locs h hP hD hS => ?_)
    refine wx_cv C hD hS (va_runV (As := [.int 0, .int r7, .int r11]) (rest := []) C.1 (mtX9_begins (l := l) (D := D) (sz := H.size) h) (cwV 3 hts gX9_halvesOf_X9_begins rfl rfl rfl nyX9_begins ⟨Nat.le_of_ble_eq_true rfl, Nat.le_of_ble_eq_true rfl⟩) (wx_pv C hP hD hS (q := 0) (ci := 9) (Nat.le_of_ble_eq_true rfl) (eM_0 cI ad _) rfl) rfl rfl hl.1 rfl (lv_room (Nat.le_of_ble_eq_true rfl)) dX9_halvesOf_14 ⟨Nat.zero_le _, Nat.zero_le _⟩) (fun σ14 H locs h hP hD hS => ?_)
    refine lv_iconst (v := 0) hx hb dX9_halvesOf_17 (by decide) ?_
    refine lv_istore_n (lv' := [(3, .int 0), (2, .int 0), (1, .int 0), (0, .ref (ad 0))]) hx hb dX9_halvesOf_18 rfl hl (by decide) rfl (fun ls hl => ?_)
    obtain ⟨n19, h⟩ := h
    exact bX9_halvesOf_19 C Rt n19 σ14 0 0 0  h _ _ _ hP hD hS (lv_sub hl [3, 2, 1, 0] rfl)
  rw [eH, eL] at goal
  exact goal
abbrev rmX9_halves : Room := { frames := 4, cells := 0, slots := 0, locals := 110 }
theorem nyX9_halvesOf : yX9_halvesOf.cls = RX9 ∧ yX9_halvesOf.cls ≠ "java/lang/invoke/MethodHandle" ∧ yX9_halvesOf.cls ≠ "java/lang/invoke/VarHandle" ∧ (parseMethodDescriptor yX9_halvesOf.desc).map (fun d => d.parameters.length) = some 0 := by decide +kernel
set_option maxRecDepth 100000 in
set_option maxHeartbeats 4000000 in
theorem mtX9_halves {l : Launch} {D : va_G} {cI : ClassId} {ad : Nat → Nat} {sz : Nat} {σ : wx_Z} {K : Int32 → wx_Z → Prop} (h : wpX9_halves σ K) : Met l yX9_halves wsX9_halves rmX9_halves (wx_Pre D [(cI, .int)] wx_T0 14 (wM_E cI ad) ad σ sz [.ref (ad 0)]) (va_Qi K (wx_B D [(cI, .int)] 14 (wM_E cI ad) ad (va_A (wx_w 14 (wM_E cI ad) ad σ) sz)) (va_A (wx_w 14 (wM_E cI ad) ad σ) sz)) 0 0 (va_A (wx_w 14 (wM_E cI ad) ad σ) sz) := by
  unfold wpX9_halves at h
  refine wx_meti (cc := cX9_halves) (maxL := 1) (own := RX9) rfl (by decide) rfl (Nat.le_of_ble_eq_true rfl) wx_T0_ok ?_
  intro p e s m args below meth c A Q ls C Rt hP hD hS hl
  obtain ⟨⟨hx, hb, hml, hown, hts⟩, hA, hK, hRO, hro⟩ := id C
  have hl : lv_has ls 1 [(0, .ref (ad 0))] := hl
  obtain ⟨H, eH⟩ : ∃ z, z = s.heap := ⟨_, rfl⟩
  obtain ⟨locs, eL⟩ : ∃ z : List Loc, z = [] := ⟨_, rfl⟩
  rw [← eH] at hP
  have hS : va_S A s.heap H locs := by rw [eH, eL]; exact hS
  have goal : W p l e rmX9_halves s m args below meth c H locs 0 0 Q (F0 m 0 ls []) := by
    refine lv_aload_n hx hb dX9_halves_0 rfl (lv_at hl 0 rfl) ?_
    refine wx_ci C hD hS (va_runV (As := []) (rest := []) C.1 (mtX9_halvesOf (l := l) (D := D) (sz := H.size) h) (cwV 0 hts gX9_halves_X9_halvesOf rfl rfl rfl nyX9_halvesOf ⟨Nat.le_of_ble_eq_true rfl, Nat.le_of_ble_eq_true rfl⟩) (wx_pv C hP hD hS (q := 0) (ci := 9) (Nat.le_of_ble_eq_true rfl) (eM_0 cI ad _) rfl) rfl rfl hl.1 rfl (lv_room (Nat.le_of_ble_eq_true rfl)) dX9_halves_1 ⟨Nat.zero_le _, Nat.zero_le _⟩) (fun r1 σ1 H locs h hP hD hS => ?_)
    exact Rt _ _ _ _ _ _ h hP hD hS dX9_halves_4
  rw [eH, eL] at goal
  exact goal
abbrev rmX9_meritOf : Room := { frames := 3, cells := 0, slots := 0, locals := 80 }
set_option maxRecDepth 100000 in
set_option maxHeartbeats 4000000 in
theorem bX9_meritOf_4 {p : Program} {l : Launch} {e : Env} {s : State} {m : MethodId} {args : Array Value} {below : List Frame} {meth : Method} {c : Code} {A : Nat → Prop} {Q : State → Prop} {D : va_G} {cI : ClassId} {ad : Nat → Nat} {K : Int32 → wx_Z → Prop} (C : wx_C p s m args c cX9_meritOf 4 RX9 wsX9_meritOf D [(cI, .int)] wx_T0 A) (Rt : wx_Ri p l e rmX9_meritOf s m args below meth c cX9_meritOf D 14 (wM_E cI ad) ad A K Q) : ∀ (n : Nat) (σ : wx_Z) (x1 : Int32) (x2 : Int32) (x3 : Int32), wpX9_meritOf_4 K n σ x1 x2 x3 → ∀ (H : Heap) (locs : List Loc) (ls : Array Slot), va_P D vwCl (wx_w 14 (wM_E cI ad) ad σ) H → va_D A (wx_w 14 (wM_E cI ad) ad σ) → va_S A s.heap H locs → lv_has ls 4 [(0, .ref (ad 0)), (1, .int x1), (2, .int x2), (3, .int x3)] → W p l e rmX9_meritOf s m args below meth c H locs 0 0 Q (F0 m 4 ls []) := by
  obtain ⟨⟨hx, hb, hml, hown, hts⟩, hA, hK, hRO, hro⟩ := id C
  intro n
  induction n with
  | zero => intro σ x1 x2 x3 h; exact h.elim
  | succ n ih =>
    intro σ x1 x2 x3 h H locs ls hP hD hS hl
    unfold wpX9_meritOf_4 at h
    refine lv_iload_n hx hb dX9_meritOf_4 rfl (lv_at hl 3 rfl) ?_
    refine lv_aload_n hx hb dX9_meritOf_5 rfl (lv_at hl 0 rfl) ?_
    refine wx_ci C hD hS (va_runV (As := []) (rest := [.int x3]) C.1 (mtX9_places (l := l) (D := D) (sz := H.size) h) (cwV 0 hts gX9_meritOf_X9_places rfl rfl rfl nyX9_places ⟨Nat.le_of_ble_eq_true rfl, Nat.le_of_ble_eq_true rfl⟩) (wx_pv C hP hD hS (q := 0) (ci := 9) (Nat.le_of_ble_eq_true rfl) (eM_0 cI ad _) rfl) rfl rfl hl.1 rfl (lv_room (Nat.le_of_ble_eq_true rfl)) dX9_meritOf_6 ⟨Nat.zero_le _, Nat.zero_le _⟩) (fun r6 σ6 H locs h hP hD hS => ?_)
    refine lv_icmp_ge (tgt := 43) hx hb dX9_meritOf_9 (by decide) (fun c9 => ?_) (fun c9 => ?_)
    · have h := h.1 c9
      refine lv_iload_n hx hb dX9_meritOf_43 rfl (lv_at hl 2 rfl) ?_
      exact Rt _ _ _ _ _ _ h hP hD hS dX9_meritOf_44
    · have h := h.2 c9
      refine lv_iload_n hx hb dX9_meritOf_12 rfl (lv_at hl 2 rfl) ?_
      refine lv_iload_n hx hb dX9_meritOf_13 rfl (lv_at hl 1 rfl) ?_
      refine lv_iload_n hx hb dX9_meritOf_14 rfl (lv_at hl 3 rfl) ?_
      refine wx_ci C hD hS (va_runS (As := [.int x1, .int x3]) (rest := [.int x2]) C.1 (mtX9_has (l := l) (D := D) (sz := H.size) h) (va_cwS 2 hts gX9_meritOf_X9_has rfl rfl rfl nyX9_has.2 ⟨Nat.le_of_ble_eq_true rfl, Nat.le_of_ble_eq_true rfl⟩) (wx_ps C hP hD hS) rfl rfl hl.1 rfl (lv_room (Nat.le_of_ble_eq_true rfl)) dX9_meritOf_15 ⟨Nat.zero_le _, Nat.zero_le _⟩) (fun r15 σ15 H locs h hP hD hS => ?_)
      refine lv_if_eq (tgt := 30) hx hb dX9_meritOf_18 (by decide) (fun c18 => ?_) (fun c18 => ?_)
      · have h := h.1 c18
        refine lv_aload_n hx hb dX9_meritOf_30 rfl (lv_at hl 0 rfl) ?_
        refine lv_iload_n hx hb dX9_meritOf_31 rfl (lv_at hl 3 rfl) ?_
        refine wx_ci C hD hS (va_runV (As := [.int x3]) (rest := [.int x2]) C.1 (mtX9_softOf (l := l) (D := D) (sz := H.size) h) (cwV 1 hts gX9_meritOf_X9_softOf rfl rfl rfl nyX9_softOf ⟨Nat.le_of_ble_eq_true rfl, Nat.le_of_ble_eq_true rfl⟩) (wx_pv C hP hD hS (q := 0) (ci := 9) (Nat.le_of_ble_eq_true rfl) (eM_0 cI ad _) rfl) rfl rfl hl.1 rfl (lv_room (Nat.le_of_ble_eq_true rfl)) dX9_meritOf_32 ⟨Nat.zero_le _, Nat.zero_le _⟩) (fun r32 σ32 H locs h hP hD hS => ?_)
        refine lv_iadd hx hb dX9_meritOf_35 ?_
        refine lv_topi (fun t36 e_t36 => ?_)
        have h := h t36 e_t36
        refine lv_istore_n (lv' := [(2, .int t36), (0, .ref (ad 0)), (1, .int x1), (3, .int x3)]) hx hb dX9_meritOf_36 rfl hl (by decide) rfl (fun ls hl => ?_)
        obtain ⟨t37, e_t37⟩ : ∃ y : Int32, y = x3 + 1 := ⟨_, rfl⟩
        have h := h t37 e_t37
        refine lv_iinc (v := t37) (lv' := [(3, .int t37), (2, .int t36), (0, .ref (ad 0)), (1, .int x1)]) hx hb dX9_meritOf_37 hl (k := 3) rfl (by rw [e_t37]; rfl) (by decide) rfl (fun ls hl => ?_)
        refine lv_goto (tgt := 4) hx hb dX9_meritOf_40 (by decide) ?_
        exact ih σ32 x1 t36 t37  h _ _ _ hP hD hS (lv_sub hl [2, 3, 1, 0] rfl)
      · have h := h.2 c18
        refine lv_aload_n hx hb dX9_meritOf_21 rfl (lv_at hl 0 rfl) ?_
        refine lv_iload_n hx hb dX9_meritOf_22 rfl (lv_at hl 3 rfl) ?_
        refine wx_ci C hD hS (va_runV (As := [.int x3]) (rest := [.int x2]) C.1 (mtX9_softOf (l := l) (D := D) (sz := H.size) h) (cwV 1 hts gX9_meritOf_X9_softOf rfl rfl rfl nyX9_softOf ⟨Nat.le_of_ble_eq_true rfl, Nat.le_of_ble_eq_true rfl⟩) (wx_pv C hP hD hS (q := 0) (ci := 9) (Nat.le_of_ble_eq_true rfl) (eM_0 cI ad _) rfl) rfl rfl hl.1 rfl (lv_room (Nat.le_of_ble_eq_true rfl)) dX9_meritOf_23 ⟨Nat.zero_le _, Nat.zero_le _⟩) (fun r23 σ23 H locs h hP hD hS => ?_)
        refine lv_ineg hx hb dX9_meritOf_26 ?_
        refine lv_goto (tgt := 35) hx hb dX9_meritOf_27 (by decide) ?_
        refine lv_iadd hx hb dX9_meritOf_35 ?_
        refine lv_topi (fun t36_1 e_t36_1 => ?_)
        have h := h t36_1 e_t36_1
        refine lv_istore_n (lv' := [(2, .int t36_1), (0, .ref (ad 0)), (1, .int x1), (3, .int x3)]) hx hb dX9_meritOf_36 rfl hl (by decide) rfl (fun ls hl => ?_)
        obtain ⟨t37_1, e_t37_1⟩ : ∃ y : Int32, y = x3 + 1 := ⟨_, rfl⟩
        have h := h t37_1 e_t37_1
        refine lv_iinc (v := t37_1) (lv' := [(3, .int t37_1), (2, .int t36_1), (0, .ref (ad 0)), (1, .int x1)]) hx hb dX9_meritOf_37 hl (k := 3) rfl (by rw [e_t37_1]; rfl) (by decide) rfl (fun ls hl => ?_)
        refine lv_goto (tgt := 4) hx hb dX9_meritOf_40 (by decide) ?_
        exact ih σ23 x1 t36_1 t37_1  h _ _ _ hP hD hS (lv_sub hl [2, 3, 1, 0] rfl)
set_option maxRecDepth 100000 in
set_option maxHeartbeats 4000000 in
theorem mtX9_meritOf {l : Launch} {D : va_G} {cI : ClassId} {ad : Nat → Nat} {sz : Nat} {σ : wx_Z} {x1 : Int32} {K : Int32 → wx_Z → Prop} (h : wpX9_meritOf σ x1 K) : Met l yX9_meritOf wsX9_meritOf rmX9_meritOf (wx_Pre D [(cI, .int)] wx_T0 14 (wM_E cI ad) ad σ sz [.ref (ad 0), .int x1]) (va_Qi K (wx_B D [(cI, .int)] 14 (wM_E cI ad) ad (va_A (wx_w 14 (wM_E cI ad) ad σ) sz)) (va_A (wx_w 14 (wM_E cI ad) ad σ) sz)) 0 0 (va_A (wx_w 14 (wM_E cI ad) ad σ) sz) := by
  unfold wpX9_meritOf at h
  refine wx_meti (cc := cX9_meritOf) (maxL := 4) (own := RX9) rfl (by decide) rfl (Nat.le_of_ble_eq_true rfl) wx_T0_ok ?_
  intro p e s m args below meth c A Q ls C Rt hP hD hS hl
  obtain ⟨⟨hx, hb, hml, hown, hts⟩, hA, hK, hRO, hro⟩ := id C
  have hl : lv_has ls 4 [(0, .ref (ad 0)), (1, .int x1)] := hl
  obtain ⟨H, eH⟩ : ∃ z, z = s.heap := ⟨_, rfl⟩
  obtain ⟨locs, eL⟩ : ∃ z : List Loc, z = [] := ⟨_, rfl⟩
  rw [← eH] at hP
  have hS : va_S A s.heap H locs := by rw [eH, eL]; exact hS
  have goal : W p l e rmX9_meritOf s m args below meth c H locs 0 0 Q (F0 m 0 ls []) := by
    refine lv_iconst (v := 0) hx hb dX9_meritOf_0 (by decide) ?_
    refine lv_istore_n (lv' := [(2, .int 0), (0, .ref (ad 0)), (1, .int x1)]) hx hb dX9_meritOf_1 rfl hl (by decide) rfl (fun ls hl => ?_)
    refine lv_iconst (v := 0) hx hb dX9_meritOf_2 (by decide) ?_
    refine lv_istore_n (lv' := [(3, .int 0), (2, .int 0), (0, .ref (ad 0)), (1, .int x1)]) hx hb dX9_meritOf_3 rfl hl (by decide) rfl (fun ls hl => ?_)
    obtain ⟨n4, h⟩ := h
    exact bX9_meritOf_4 C Rt n4 σ x1 0 0  h _ _ _ hP hD hS (lv_sub hl [2, 3, 1, 0] rfl)
  rw [eH, eL] at goal
  exact goal
abbrev rmX9_greatest : Room := { frames := 6, cells := 0, slots := 0, locals := 145 }
set_option maxRecDepth 20000 in
theorem inX9_greatest_X9 : ∀ w ∈ u_ws RX9 TX9 27, w ∈ wsX9_greatest := by decide +kernel
theorem nyX9_meritOf : yX9_meritOf.cls = RX9 ∧ yX9_meritOf.cls ≠ "java/lang/invoke/MethodHandle" ∧ yX9_meritOf.cls ≠ "java/lang/invoke/VarHandle" ∧ (parseMethodDescriptor yX9_meritOf.desc).map (fun d => d.parameters.length) = some 1 := by decide +kernel
set_option maxRecDepth 100000 in
set_option maxHeartbeats 4000000 in
theorem bX9_greatest_72 {p : Program} {l : Launch} {e : Env} {s : State} {m : MethodId} {args : Array Value} {below : List Frame} {meth : Method} {c : Code} {A : Nat → Prop} {Q : State → Prop} {D : va_G} {cI : ClassId} {ad : Nat → Nat} {K : Int32 → wx_Z → Prop} {C20 : wx_Z → Int32 → Int32 → Int32 → Int32 → Prop} (C : wx_C p s m args c cX9_greatest 7 RX9 wsX9_greatest D [(cI, .int)] wx_T0 A) (Rt : wx_Ri p l e rmX9_greatest s m args below meth c cX9_greatest D 14 (wM_E cI ad) ad A K Q) (hC20 : ∀ (σ : wx_Z) (x1 : Int32) (x2 : Int32) (x3 : Int32) (x4 : Int32), C20 σ x1 x2 x3 x4 → ∀ (H : Heap) (locs : List Loc) (ls : Array Slot), va_P D vwCl (wx_w 14 (wM_E cI ad) ad σ) H → va_D A (wx_w 14 (wM_E cI ad) ad σ) → va_S A s.heap H locs → lv_has ls 7 [(0, .ref (ad 0)), (1, .int x1), (2, .int x2), (3, .int x3), (4, .int x4)] → W p l e rmX9_greatest s m args below meth c H locs 0 0 Q (F0 m 20 ls [])) : ∀ (σ : wx_Z) (x1 : Int32) (x2 : Int32) (x3 : Int32) (x4 : Int32), wpX9_greatest_72 K C20 σ x1 x2 x3 x4 → ∀ (H : Heap) (locs : List Loc) (ls : Array Slot), va_P D vwCl (wx_w 14 (wM_E cI ad) ad σ) H → va_D A (wx_w 14 (wM_E cI ad) ad σ) → va_S A s.heap H locs → lv_has ls 7 [(0, .ref (ad 0)), (1, .int x1), (2, .int x2), (3, .int x3), (4, .int x4)] → W p l e rmX9_greatest s m args below meth c H locs 0 0 Q (F0 m 72 ls []) := by
  obtain ⟨⟨hx, hb, hml, hown, hts⟩, hA, hK, hRO, hro⟩ := id C
  intro σ x1 x2 x3 x4 h H locs ls hP hD hS hl
  unfold wpX9_greatest_72 at h
  refine lv_aload_n hx hb dX9_greatest_72 rfl (lv_at hl 0 rfl) ?_
  refine lv_iload_n hx hb dX9_greatest_73 rfl (lv_at hl 1 rfl) ?_
  refine wx_ci C hD hS (va_runV (As := [.int x1]) (rest := []) C.1 (mtX9_meritOf (l := l) (D := D) (sz := H.size) h) (cwV 1 hts gX9_greatest_X9_meritOf rfl rfl rfl nyX9_meritOf ⟨Nat.le_of_ble_eq_true rfl, Nat.le_of_ble_eq_true rfl⟩) (wx_pv C hP hD hS (q := 0) (ci := 9) (Nat.le_of_ble_eq_true rfl) (eM_0 cI ad _) rfl) rfl rfl hl.1 rfl (lv_room (Nat.le_of_ble_eq_true rfl)) dX9_greatest_74 ⟨Nat.zero_le _, Nat.zero_le _⟩) (fun r74 σ74 H locs h hP hD hS => ?_)
  refine lv_iload_n hx hb dX9_greatest_77 rfl (lv_at hl 3 rfl) ?_
  refine lv_icmp_le (tgt := 89) hx hb dX9_greatest_78 (by decide) (fun c78 => ?_) (fun c78 => ?_)
  · have h := h.1 c78
    refine lv_iload_n hx hb dX9_greatest_89 rfl (lv_at hl 3 rfl) ?_
    refine lv_istore_n (lv' := [(3, .int x3), (0, .ref (ad 0)), (1, .int x1), (2, .int x2), (4, .int x4)]) hx hb dX9_greatest_90 rfl hl (by decide) rfl (fun ls hl => ?_)
    obtain ⟨t91, e_t91⟩ : ∃ y : Int32, y = x4 + 1 := ⟨_, rfl⟩
    have h := h t91 e_t91
    refine lv_iinc (v := t91) (lv' := [(4, .int t91), (3, .int x3), (0, .ref (ad 0)), (1, .int x1), (2, .int x2)]) hx hb dX9_greatest_91 hl (k := 4) rfl (by rw [e_t91]; rfl) (by decide) rfl (fun ls hl => ?_)
    refine lv_goto (tgt := 20) hx hb dX9_greatest_94 (by decide) ?_
    exact hC20 σ74 x1 x2 x3 t91  h _ _ _ hP hD hS (lv_sub hl [2, 3, 4, 1, 0] rfl)
  · have h := h.2 c78
    refine lv_aload_n hx hb dX9_greatest_81 rfl (lv_at hl 0 rfl) ?_
    refine lv_iload_n hx hb dX9_greatest_82 rfl (lv_at hl 1 rfl) ?_
    refine wx_ci C hD hS (va_runV (As := [.int x1]) (rest := []) C.1 (mtX9_meritOf (l := l) (D := D) (sz := H.size) h) (cwV 1 hts gX9_greatest_X9_meritOf rfl rfl rfl nyX9_meritOf ⟨Nat.le_of_ble_eq_true rfl, Nat.le_of_ble_eq_true rfl⟩) (wx_pv C hP hD hS (q := 0) (ci := 9) (Nat.le_of_ble_eq_true rfl) (eM_0 cI ad _) rfl) rfl rfl hl.1 rfl (lv_room (Nat.le_of_ble_eq_true rfl)) dX9_greatest_83 ⟨Nat.zero_le _, Nat.zero_le _⟩) (fun r83 σ83 H locs h hP hD hS => ?_)
    refine lv_goto (tgt := 90) hx hb dX9_greatest_86 (by decide) ?_
    refine lv_istore_n (lv' := [(3, .int r83), (0, .ref (ad 0)), (1, .int x1), (2, .int x2), (4, .int x4)]) hx hb dX9_greatest_90 rfl hl (by decide) rfl (fun ls hl => ?_)
    obtain ⟨t91_1, e_t91_1⟩ : ∃ y : Int32, y = x4 + 1 := ⟨_, rfl⟩
    have h := h t91_1 e_t91_1
    refine lv_iinc (v := t91_1) (lv' := [(4, .int t91_1), (3, .int r83), (0, .ref (ad 0)), (1, .int x1), (2, .int x2)]) hx hb dX9_greatest_91 hl (k := 4) rfl (by rw [e_t91_1]; rfl) (by decide) rfl (fun ls hl => ?_)
    refine lv_goto (tgt := 20) hx hb dX9_greatest_94 (by decide) ?_
    exact hC20 σ83 x1 x2 r83 t91_1  h _ _ _ hP hD hS (lv_sub hl [2, 3, 4, 1, 0] rfl)
set_option maxRecDepth 100000 in
set_option maxHeartbeats 4000000 in
theorem bX9_greatest_40 {p : Program} {l : Launch} {e : Env} {s : State} {m : MethodId} {args : Array Value} {below : List Frame} {meth : Method} {c : Code} {A : Nat → Prop} {Q : State → Prop} {D : va_G} {cI : ClassId} {ad : Nat → Nat} {K : Int32 → wx_Z → Prop} {C20 : wx_Z → Int32 → Int32 → Int32 → Int32 → Prop} (C : wx_C p s m args c cX9_greatest 7 RX9 wsX9_greatest D [(cI, .int)] wx_T0 A) (Rt : wx_Ri p l e rmX9_greatest s m args below meth c cX9_greatest D 14 (wM_E cI ad) ad A K Q) (hC20 : ∀ (σ : wx_Z) (x1 : Int32) (x2 : Int32) (x3 : Int32) (x4 : Int32), C20 σ x1 x2 x3 x4 → ∀ (H : Heap) (locs : List Loc) (ls : Array Slot), va_P D vwCl (wx_w 14 (wM_E cI ad) ad σ) H → va_D A (wx_w 14 (wM_E cI ad) ad σ) → va_S A s.heap H locs → lv_has ls 7 [(0, .ref (ad 0)), (1, .int x1), (2, .int x2), (3, .int x3), (4, .int x4)] → W p l e rmX9_greatest s m args below meth c H locs 0 0 Q (F0 m 20 ls [])) : ∀ (n : Nat) (σ : wx_Z) (x1 : Int32) (x2 : Int32) (x3 : Int32) (x4 : Int32) (x5 : Int32) (x6 : Int32), wpX9_greatest_40 K C20 n σ x1 x2 x3 x4 x5 x6 → ∀ (H : Heap) (locs : List Loc) (ls : Array Slot), va_P D vwCl (wx_w 14 (wM_E cI ad) ad σ) H → va_D A (wx_w 14 (wM_E cI ad) ad σ) → va_S A s.heap H locs → lv_has ls 7 [(0, .ref (ad 0)), (1, .int x1), (2, .int x2), (3, .int x3), (4, .int x4), (5, .int x5), (6, .int x6)] → W p l e rmX9_greatest s m args below meth c H locs 0 0 Q (F0 m 40 ls []) := by
  obtain ⟨⟨hx, hb, hml, hown, hts⟩, hA, hK, hRO, hro⟩ := id C
  intro n
  induction n with
  | zero => intro σ x1 x2 x3 x4 x5 x6 h; exact h.elim
  | succ n ih =>
    intro σ x1 x2 x3 x4 x5 x6 h H locs ls hP hD hS hl
    unfold wpX9_greatest_40 at h
    refine lv_iload hx hb dX9_greatest_40 (lv_at hl 6 rfl) ?_
    refine lv_iload_n hx hb dX9_greatest_42 rfl (lv_at hl 2 rfl) ?_
    refine lv_icmp_ge (tgt := 72) hx hb dX9_greatest_43 (by decide) (fun c43 => ?_) (fun c43 => ?_)
    · have h := h.1 c43
      exact bX9_greatest_72 C Rt hC20 σ x1 x2 x3 x4  h _ _ _ hP hD hS (lv_sub hl [0, 1, 2, 3, 4] rfl)
    · have h := h.2 c43
      refine lv_iload hx hb dX9_greatest_46 (lv_at hl 5 rfl) ?_
      refine lv_iload hx hb dX9_greatest_48 (lv_at hl 6 rfl) ?_
      refine wx_ci C hD hS (va_runS (As := [.int x5, .int x6]) (rest := []) C.1 (mtX9_has (l := l) (D := D) (sz := H.size) h) (va_cwS 2 hts gX9_greatest_X9_has rfl rfl rfl nyX9_has.2 ⟨Nat.le_of_ble_eq_true rfl, Nat.le_of_ble_eq_true rfl⟩) (wx_ps C hP hD hS) rfl rfl hl.1 rfl (lv_room (Nat.le_of_ble_eq_true rfl)) dX9_greatest_50 ⟨Nat.zero_le _, Nat.zero_le _⟩) (fun r50 σ50 H locs h hP hD hS => ?_)
      refine lv_if_eq (tgt := 72) hx hb dX9_greatest_53 (by decide) (fun c53 => ?_) (fun c53 => ?_)
      · have h := h.1 c53
        exact bX9_greatest_72 C Rt hC20 σ50 x1 x2 x3 x4  h _ _ _ hP hD hS (lv_sub hl [0, 1, 2, 3, 4] rfl)
      · have h := h.2 c53
        refine lv_iload_n hx hb dX9_greatest_56 rfl (lv_at hl 1 rfl) ?_
        refine lv_aload_n hx hb dX9_greatest_57 rfl (lv_at hl 0 rfl) ?_
        refine wx_get C hP (q := 0) (ci := 9) (Nat.le_of_ble_eq_true rfl) (eM_0 cI ad _) (Cn := RX9) (T := TX9) (Nf := 27) rfl inX9_greatest_X9 11 (by decide) (List.mem_of_getElem? (i := 1) rfl) (v := .ref (ad 5)) rfl dX9_greatest_58 ?_
        refine lv_iload hx hb dX9_greatest_61 (lv_at hl 6 rfl) ?_
        refine wx_ild C hP (q := 5) (Nat.le_of_ble_eq_true rfl) (fun _ => rfl) 0 rfl h.1 dX9_greatest_63 ?_
        have h := h.2
        refine lv_ixor hx hb dX9_greatest_64 ?_
        refine lv_topi (fun t65 e_t65 => ?_)
        have h := h t65 e_t65
        refine lv_istore_n (lv' := [(1, .int t65), (0, .ref (ad 0)), (2, .int x2), (3, .int x3), (4, .int x4), (5, .int x5), (6, .int x6)]) hx hb dX9_greatest_65 rfl hl (by decide) rfl (fun ls hl => ?_)
        obtain ⟨t66, e_t66⟩ : ∃ y : Int32, y = x6 + 1 := ⟨_, rfl⟩
        have h := h t66 e_t66
        refine lv_iinc (v := t66) (lv' := [(6, .int t66), (1, .int t65), (0, .ref (ad 0)), (2, .int x2), (3, .int x3), (4, .int x4), (5, .int x5)]) hx hb dX9_greatest_66 hl (k := 6) rfl (by rw [e_t66]; rfl) (by decide) rfl (fun ls hl => ?_)
        refine lv_goto (tgt := 40) hx hb dX9_greatest_69 (by decide) ?_
        exact ih σ50 t65 x2 x3 x4 x5 t66  h _ _ _ hP hD hS (lv_sub hl [2, 1, 3, 4, 5, 6, 0] rfl)
set_option maxRecDepth 100000 in
set_option maxHeartbeats 4000000 in
theorem bX9_greatest_20 {p : Program} {l : Launch} {e : Env} {s : State} {m : MethodId} {args : Array Value} {below : List Frame} {meth : Method} {c : Code} {A : Nat → Prop} {Q : State → Prop} {D : va_G} {cI : ClassId} {ad : Nat → Nat} {K : Int32 → wx_Z → Prop} (C : wx_C p s m args c cX9_greatest 7 RX9 wsX9_greatest D [(cI, .int)] wx_T0 A) (Rt : wx_Ri p l e rmX9_greatest s m args below meth c cX9_greatest D 14 (wM_E cI ad) ad A K Q) : ∀ (n : Nat) (σ : wx_Z) (x1 : Int32) (x2 : Int32) (x3 : Int32) (x4 : Int32), wpX9_greatest_20 K n σ x1 x2 x3 x4 → ∀ (H : Heap) (locs : List Loc) (ls : Array Slot), va_P D vwCl (wx_w 14 (wM_E cI ad) ad σ) H → va_D A (wx_w 14 (wM_E cI ad) ad σ) → va_S A s.heap H locs → lv_has ls 7 [(0, .ref (ad 0)), (1, .int x1), (2, .int x2), (3, .int x3), (4, .int x4)] → W p l e rmX9_greatest s m args below meth c H locs 0 0 Q (F0 m 20 ls []) := by
  obtain ⟨⟨hx, hb, hml, hown, hts⟩, hA, hK, hRO, hro⟩ := id C
  intro n
  induction n with
  | zero => intro σ x1 x2 x3 x4 h; exact h.elim
  | succ n ih =>
    intro σ x1 x2 x3 x4 h H locs ls hP hD hS hl
    unfold wpX9_greatest_20 at h
    refine lv_iload hx hb dX9_greatest_20 (lv_at hl 4 rfl) ?_
    refine lv_iconst (v := 1) hx hb dX9_greatest_22 (by decide) ?_
    refine lv_iload_n hx hb dX9_greatest_23 rfl (lv_at hl 2 rfl) ?_
    refine lv_ishl hx hb dX9_greatest_24 ?_
    refine lv_icmp_ge (tgt := 97) hx hb dX9_greatest_25 (by decide) (fun c25 => ?_) (fun c25 => ?_)
    · have h := h.1 c25
      refine lv_iload_n hx hb dX9_greatest_97 rfl (lv_at hl 3 rfl) ?_
      exact Rt _ _ _ _ _ _ h hP hD hS dX9_greatest_98
    · have h := h.2 c25
      refine lv_iload hx hb dX9_greatest_28 (lv_at hl 4 rfl) ?_
      refine lv_iload hx hb dX9_greatest_30 (lv_at hl 4 rfl) ?_
      refine lv_iconst (v := 1) hx hb dX9_greatest_32 (by decide) ?_
      refine lv_isub hx hb dX9_greatest_33 ?_
      refine lv_ixor hx hb dX9_greatest_34 ?_
      refine lv_topi (fun t35 e_t35 => ?_)
      have h := h t35 e_t35
      refine lv_istore (lv' := [(5, .int t35), (0, .ref (ad 0)), (1, .int x1), (2, .int x2), (3, .int x3), (4, .int x4)]) hx hb dX9_greatest_35 hl (by decide) rfl (fun ls hl => ?_)
      refine lv_iconst (v := 0) hx hb dX9_greatest_37 (by decide) ?_
      refine lv_istore (lv' := [(6, .int 0), (5, .int t35), (0, .ref (ad 0)), (1, .int x1), (2, .int x2), (3, .int x3), (4, .int x4)]) hx hb dX9_greatest_38 hl (by decide) rfl (fun ls hl => ?_)
      obtain ⟨n40, h⟩ := h
      exact bX9_greatest_40 C Rt ih n40 σ x1 x2 x3 x4 t35 0  h _ _ _ hP hD hS (lv_sub hl [2, 3, 4, 5, 6, 1, 0] rfl)
set_option maxRecDepth 100000 in
set_option maxHeartbeats 4000000 in
theorem mtX9_greatest {l : Launch} {D : va_G} {cI : ClassId} {ad : Nat → Nat} {sz : Nat} {σ : wx_Z} {K : Int32 → wx_Z → Prop} (h : wpX9_greatest σ K) : Met l yX9_greatest wsX9_greatest rmX9_greatest (wx_Pre D [(cI, .int)] wx_T0 14 (wM_E cI ad) ad σ sz [.ref (ad 0)]) (va_Qi K (wx_B D [(cI, .int)] 14 (wM_E cI ad) ad (va_A (wx_w 14 (wM_E cI ad) ad σ) sz)) (va_A (wx_w 14 (wM_E cI ad) ad σ) sz)) 0 0 (va_A (wx_w 14 (wM_E cI ad) ad σ) sz) := by
  unfold wpX9_greatest at h
  refine wx_meti (cc := cX9_greatest) (maxL := 7) (own := RX9) rfl (by decide) rfl (Nat.le_of_ble_eq_true rfl) wx_T0_ok ?_
  intro p e s m args below meth c A Q ls C Rt hP hD hS hl
  obtain ⟨⟨hx, hb, hml, hown, hts⟩, hA, hK, hRO, hro⟩ := id C
  have hl : lv_has ls 7 [(0, .ref (ad 0))] := hl
  obtain ⟨H, eH⟩ : ∃ z, z = s.heap := ⟨_, rfl⟩
  obtain ⟨locs, eL⟩ : ∃ z : List Loc, z = [] := ⟨_, rfl⟩
  rw [← eH] at hP
  have hS : va_S A s.heap H locs := by rw [eH, eL]; exact hS
  have goal : W p l e rmX9_greatest s m args below meth c H locs 0 0 Q (F0 m 0 ls []) := by
    refine lv_iconst (v := 0) hx hb dX9_greatest_0 (by decide) ?_
    refine lv_istore_n (lv' := [(1, .int 0), (0, .ref (ad 0))]) hx hb dX9_greatest_1 rfl hl (by decide) rfl (fun ls hl => ?_)
    refine lv_aload_n hx hb dX9_greatest_2 rfl (lv_at hl 1 rfl) ?_
    refine wx_ci C hD hS (va_runV (As := []) (rest := []) C.1 (mtX9_many (l := l) (D := D) (sz := H.size) h) (cwV 0 hts gX9_greatest_X9_many rfl rfl rfl nyX9_many ⟨Nat.le_of_ble_eq_true rfl, Nat.le_of_ble_eq_true rfl⟩) (wx_pv C hP hD hS (q := 0) (ci := 9) (Nat.le_of_ble_eq_true rfl) (eM_0 cI ad _) rfl) rfl rfl hl.1 rfl (lv_room (Nat.le_of_ble_eq_true rfl)) dX9_greatest_3 ⟨Nat.zero_le _, Nat.zero_le _⟩) (fun r3 σ3 H locs h hP hD hS => ?_)
    refine lv_istore_n (lv' := [(2, .int r3), (1, .int 0), (0, .ref (ad 0))]) hx hb dX9_greatest_6 rfl hl (by decide) rfl (fun ls hl => ?_)
    refine lv_aload_n hx hb dX9_greatest_7 rfl (lv_at hl 2 rfl) ?_
    refine wx_cv C hD hS (va_runV (As := []) (rest := []) C.1 (mtX9_laysBasis (l := l) (D := D) (sz := H.size) h) (cwV 0 hts gX9_greatest_X9_laysBasis rfl rfl rfl nyX9_laysBasis ⟨Nat.le_of_ble_eq_true rfl, Nat.le_of_ble_eq_true rfl⟩) (wx_pv C hP hD hS (q := 0) (ci := 9) (Nat.le_of_ble_eq_true rfl) (eM_0 cI ad _) rfl) rfl rfl hl.1 rfl (lv_room (Nat.le_of_ble_eq_true rfl)) dX9_greatest_8 ⟨Nat.zero_le _, Nat.zero_le _⟩) (fun σ8 H locs h hP hD hS => ?_)
    refine lv_aload_n hx hb dX9_greatest_11 rfl (lv_at hl 2 rfl) ?_
    refine lv_iconst (v := 0) hx hb dX9_greatest_12 (by decide) ?_
    refine wx_ci C hD hS (va_runV (As := [.int 0]) (rest := []) C.1 (mtX9_meritOf (l := l) (D := D) (sz := H.size) h) (cwV 1 hts gX9_greatest_X9_meritOf rfl rfl rfl nyX9_meritOf ⟨Nat.le_of_ble_eq_true rfl, Nat.le_of_ble_eq_true rfl⟩) (wx_pv C hP hD hS (q := 0) (ci := 9) (Nat.le_of_ble_eq_true rfl) (eM_0 cI ad _) rfl) rfl rfl hl.1 rfl (lv_room (Nat.le_of_ble_eq_true rfl)) dX9_greatest_13 ⟨Nat.zero_le _, Nat.zero_le _⟩) (fun r13 σ13 H locs h hP hD hS => ?_)
    refine lv_istore_n (lv' := [(3, .int r13), (2, .int r3), (1, .int 0), (0, .ref (ad 0))]) hx hb dX9_greatest_16 rfl hl (by decide) rfl (fun ls hl => ?_)
    refine lv_iconst (v := 1) hx hb dX9_greatest_17 (by decide) ?_
    refine lv_istore (lv' := [(4, .int 1), (3, .int r13), (2, .int r3), (1, .int 0), (0, .ref (ad 0))]) hx hb dX9_greatest_18 hl (by decide) rfl (fun ls hl => ?_)
    obtain ⟨n20, h⟩ := h
    exact bX9_greatest_20 C Rt n20 σ13 0 r3 r13 1  h _ _ _ hP hD hS (lv_sub hl [4, 3, 2, 1, 0] rfl)
  rw [eH, eL] at goal
  exact goal
abbrev rmX9_merit : Room := { frames := 7, cells := 0, slots := 0, locals := 171 }
theorem nyX9_greatest : yX9_greatest.cls = RX9 ∧ yX9_greatest.cls ≠ "java/lang/invoke/MethodHandle" ∧ yX9_greatest.cls ≠ "java/lang/invoke/VarHandle" ∧ (parseMethodDescriptor yX9_greatest.desc).map (fun d => d.parameters.length) = some 0 := by decide +kernel
set_option maxRecDepth 100000 in
set_option maxHeartbeats 4000000 in
theorem bX9_merit_38 {p : Program} {l : Launch} {e : Env} {s : State} {m : MethodId} {args : Array Value} {below : List Frame} {meth : Method} {c : Code} {A : Nat → Prop} {Q : State → Prop} {D : va_G} {cI : ClassId} {ad : Nat → Nat} {K : Int32 → wx_Z → Prop} (C : wx_C p s m args c cX9_merit 2 RX9 wsX9_merit D [(cI, .int)] wx_T0 A) (Rt : wx_Ri p l e rmX9_merit s m args below meth c cX9_merit D 14 (wM_E cI ad) ad A K Q) : ∀ (σ : wx_Z) (x1 : Int32), wpX9_merit_38 K σ x1 → ∀ (H : Heap) (locs : List Loc) (ls : Array Slot), va_P D vwCl (wx_w 14 (wM_E cI ad) ad σ) H → va_D A (wx_w 14 (wM_E cI ad) ad σ) → va_S A s.heap H locs → lv_has ls 2 [(0, .ref (ad 0)), (1, .int x1)] → W p l e rmX9_merit s m args below meth c H locs 0 0 Q (F0 m 38 ls []) := by
  obtain ⟨⟨hx, hb, hml, hown, hts⟩, hA, hK, hRO, hro⟩ := id C
  intro σ x1 h H locs ls hP hD hS hl
  unfold wpX9_merit_38 at h
  refine lv_iload_n hx hb dX9_merit_38 rfl (lv_at hl 1 rfl) ?_
  refine lv_if_ne (tgt := 53) hx hb dX9_merit_39 (by decide) (fun c39 => ?_) (fun c39 => ?_)
  · have h := h.1 c39
    refine lv_iload_n hx hb dX9_merit_53 rfl (lv_at hl 1 rfl) ?_
    refine lv_iconst (v := 1) hx hb dX9_merit_54 (by decide) ?_
    refine lv_icmp_ne (tgt := 69) hx hb dX9_merit_55 (by decide) (fun c55 => ?_) (fun c55 => ?_)
    · have h := h.1 c55
      refine lv_aload_n hx hb dX9_merit_69 rfl (lv_at hl 0 rfl) ?_
      refine wx_ci C hD hS (va_runV (As := []) (rest := []) C.1 (mtX9_greatest (l := l) (D := D) (sz := H.size) h) (cwV 0 hts gX9_merit_X9_greatest rfl rfl rfl nyX9_greatest ⟨Nat.le_of_ble_eq_true rfl, Nat.le_of_ble_eq_true rfl⟩) (wx_pv C hP hD hS (q := 0) (ci := 9) (Nat.le_of_ble_eq_true rfl) (eM_0 cI ad _) rfl) rfl rfl hl.1 rfl (lv_room (Nat.le_of_ble_eq_true rfl)) dX9_merit_70 ⟨Nat.zero_le _, Nat.zero_le _⟩) (fun r70 σ70 H locs h hP hD hS => ?_)
      exact Rt _ _ _ _ _ _ h hP hD hS dX9_merit_73
    · have h := h.2 c55
      refine lv_aload_n hx hb dX9_merit_58 rfl (lv_at hl 0 rfl) ?_
      refine lv_aload_n hx hb dX9_merit_59 rfl (lv_at hl 0 rfl) ?_
      refine wx_ci C hD hS (va_runV (As := []) (rest := [.ref (ad 0)]) C.1 (mtX9_halvesOf (l := l) (D := D) (sz := H.size) h) (cwV 0 hts gX9_merit_X9_halvesOf rfl rfl rfl nyX9_halvesOf ⟨Nat.le_of_ble_eq_true rfl, Nat.le_of_ble_eq_true rfl⟩) (wx_pv C hP hD hS (q := 0) (ci := 9) (Nat.le_of_ble_eq_true rfl) (eM_0 cI ad _) rfl) rfl rfl hl.1 rfl (lv_room (Nat.le_of_ble_eq_true rfl)) dX9_merit_60 ⟨Nat.zero_le _, Nat.zero_le _⟩) (fun r60 σ60 H locs h hP hD hS => ?_)
      refine wx_ci C hD hS (va_runV (As := [.int r60]) (rest := []) C.1 (mtX9_meritOf (l := l) (D := D) (sz := H.size) h) (cwV 1 hts gX9_merit_X9_meritOf rfl rfl rfl nyX9_meritOf ⟨Nat.le_of_ble_eq_true rfl, Nat.le_of_ble_eq_true rfl⟩) (wx_pv C hP hD hS (q := 0) (ci := 9) (Nat.le_of_ble_eq_true rfl) (eM_0 cI ad _) rfl) rfl rfl hl.1 rfl (lv_room (Nat.le_of_ble_eq_true rfl)) dX9_merit_63 ⟨Nat.zero_le _, Nat.zero_le _⟩) (fun r63 σ63 H locs h hP hD hS => ?_)
      refine lv_goto (tgt := 73) hx hb dX9_merit_66 (by decide) ?_
      exact Rt _ _ _ _ _ _ h hP hD hS dX9_merit_73
  · have h := h.2 c39
    refine lv_aload_n hx hb dX9_merit_42 rfl (lv_at hl 0 rfl) ?_
    refine lv_aload_n hx hb dX9_merit_43 rfl (lv_at hl 0 rfl) ?_
    refine wx_ci C hD hS (va_runV (As := []) (rest := [.ref (ad 0)]) C.1 (mtX9_theWord (l := l) (D := D) (sz := H.size) h) (cwV 0 hts gX9_merit_X9_theWord rfl rfl rfl nyX9_theWord ⟨Nat.le_of_ble_eq_true rfl, Nat.le_of_ble_eq_true rfl⟩) (wx_pv C hP hD hS (q := 0) (ci := 9) (Nat.le_of_ble_eq_true rfl) (eM_0 cI ad _) rfl) rfl rfl hl.1 rfl (lv_room (Nat.le_of_ble_eq_true rfl)) dX9_merit_44 ⟨Nat.zero_le _, Nat.zero_le _⟩) (fun r44 σ44 H locs h hP hD hS => ?_)
    refine wx_ci C hD hS (va_runV (As := [.int r44]) (rest := []) C.1 (mtX9_meritOf (l := l) (D := D) (sz := H.size) h) (cwV 1 hts gX9_merit_X9_meritOf rfl rfl rfl nyX9_meritOf ⟨Nat.le_of_ble_eq_true rfl, Nat.le_of_ble_eq_true rfl⟩) (wx_pv C hP hD hS (q := 0) (ci := 9) (Nat.le_of_ble_eq_true rfl) (eM_0 cI ad _) rfl) rfl rfl hl.1 rfl (lv_room (Nat.le_of_ble_eq_true rfl)) dX9_merit_47 ⟨Nat.zero_le _, Nat.zero_le _⟩) (fun r47 σ47 H locs h hP hD hS => ?_)
    refine lv_goto (tgt := 73) hx hb dX9_merit_50 (by decide) ?_
    exact Rt _ _ _ _ _ _ h hP hD hS dX9_merit_73
set_option maxRecDepth 100000 in
set_option maxHeartbeats 4000000 in
theorem mtX9_merit {l : Launch} {D : va_G} {cI : ClassId} {ad : Nat → Nat} {sz : Nat} {σ : wx_Z} {x1 : Int32} {K : Int32 → wx_Z → Prop} (h : wpX9_merit σ x1 K) : Met l yX9_merit wsX9_merit rmX9_merit (wx_Pre D [(cI, .int)] wx_T0 14 (wM_E cI ad) ad σ sz [.ref (ad 0), .int x1]) (va_Qi K (wx_B D [(cI, .int)] 14 (wM_E cI ad) ad (va_A (wx_w 14 (wM_E cI ad) ad σ) sz)) (va_A (wx_w 14 (wM_E cI ad) ad σ) sz)) 0 0 (va_A (wx_w 14 (wM_E cI ad) ad σ) sz) := by
  unfold wpX9_merit at h
  refine wx_meti (cc := cX9_merit) (maxL := 2) (own := RX9) rfl (by decide) rfl (Nat.le_of_ble_eq_true rfl) wx_T0_ok ?_
  intro p e s m args below meth c A Q ls C Rt hP hD hS hl
  obtain ⟨⟨hx, hb, hml, hown, hts⟩, hA, hK, hRO, hro⟩ := id C
  have hl : lv_has ls 2 [(0, .ref (ad 0)), (1, .int x1)] := hl
  obtain ⟨H, eH⟩ : ∃ z, z = s.heap := ⟨_, rfl⟩
  obtain ⟨locs, eL⟩ : ∃ z : List Loc, z = [] := ⟨_, rfl⟩
  rw [← eH] at hP
  have hS : va_S A s.heap H locs := by rw [eH, eL]; exact hS
  have goal : W p l e rmX9_merit s m args below meth c H locs 0 0 Q (F0 m 0 ls []) := by
    refine lv_iload_n hx hb dX9_merit_0 rfl (lv_at hl 1 rfl) ?_
    refine lv_i2l (v := Int32.toInt64 x1) hx hb dX9_merit_1 rfl ?_
    refine lv_lconst (v := 0) hx hb dX9_merit_2 (by decide) ?_
    refine lv_ldc2 hx hb hown (hts _ (List.mem_of_getElem? (i := 1) rfl)) dX9_merit_3 ?_
    refine wx_ci C hD hS (va_runS (As := [.long (Int32.toInt64 x1), .long 0, .long 2]) (rest := []) C.1 (mtX9_in (l := l) (D := D) (sz := H.size) h) (va_cwS 3 hts gX9_merit_X9_in rfl rfl rfl nyX9_in.2 ⟨Nat.le_of_ble_eq_true rfl, Nat.le_of_ble_eq_true rfl⟩) (wx_ps C hP hD hS) rfl rfl hl.1 rfl (lv_room (Nat.le_of_ble_eq_true rfl)) dX9_merit_6 ⟨Nat.zero_le _, Nat.zero_le _⟩) (fun r6 σ6 H locs h hP hD hS => ?_)
    refine lv_if_ne (tgt := 19) hx hb dX9_merit_9 (by decide) (fun c9 => ?_) (fun c9 => ?_)
    · have h := h.1 c9
      refine lv_iload_n hx hb dX9_merit_19 rfl (lv_at hl 1 rfl) ?_
      refine lv_iconst (v := 2) hx hb dX9_merit_20 (by decide) ?_
      refine lv_icmp_ne (tgt := 38) hx hb dX9_merit_21 (by decide) (fun c21 => ?_) (fun c21 => ?_)
      · have h := h.1 c21
        exact bX9_merit_38 C Rt σ6 x1  h _ _ _ hP hD hS (lv_sub hl [0, 1] rfl)
      · have h := h.2 c21
        refine lv_aload_n hx hb dX9_merit_24 rfl (lv_at hl 0 rfl) ?_
        refine wx_ci C hD hS (va_runV (As := []) (rest := []) C.1 (mtX9_isFew (l := l) (D := D) (sz := H.size) h) (cwV 0 hts gX9_merit_X9_isFew rfl rfl rfl nyX9_isFew ⟨Nat.le_of_ble_eq_true rfl, Nat.le_of_ble_eq_true rfl⟩) (wx_pv C hP hD hS (q := 0) (ci := 9) (Nat.le_of_ble_eq_true rfl) (eM_0 cI ad _) rfl) rfl rfl hl.1 rfl (lv_room (Nat.le_of_ble_eq_true rfl)) dX9_merit_25 ⟨Nat.zero_le _, Nat.zero_le _⟩) (fun r25 σ25 H locs h hP hD hS => ?_)
        refine lv_if_ne (tgt := 38) hx hb dX9_merit_28 (by decide) (fun c28 => ?_) (fun c28 => ?_)
        · have h := h.1 c28
          exact bX9_merit_38 C Rt σ25 x1  h _ _ _ hP hD hS (lv_sub hl [0, 1] rfl)
        · have h := h.2 c28
          refine lv_aload_n hx hb dX9_merit_31 rfl (lv_at hl 0 rfl) ?_
          refine lv_bipush (v := (-3)) hx hb dX9_merit_32 (by decide) ?_
          refine wx_ci C hD hS (va_runV (As := [.int (-3)]) (rest := []) C.1 (mtX9_no (l := l) (D := D) (sz := H.size) h) (cwV 1 hts gX9_merit_X9_no rfl rfl rfl nyX9_no ⟨Nat.le_of_ble_eq_true rfl, Nat.le_of_ble_eq_true rfl⟩) (wx_pv C hP hD hS (q := 0) (ci := 9) (Nat.le_of_ble_eq_true rfl) (eM_0 cI ad _) rfl) rfl rfl hl.1 rfl (lv_room (Nat.le_of_ble_eq_true rfl)) dX9_merit_34 ⟨Nat.zero_le _, Nat.zero_le _⟩) (fun r34 σ34 H locs h hP hD hS => ?_)
          exact Rt _ _ _ _ _ _ h hP hD hS dX9_merit_37
    · have h := h.2 c9
      refine lv_aload_n hx hb dX9_merit_12 rfl (lv_at hl 0 rfl) ?_
      refine lv_bipush (v := (-2)) hx hb dX9_merit_13 (by decide) ?_
      refine wx_ci C hD hS (va_runV (As := [.int (-2)]) (rest := []) C.1 (mtX9_bad (l := l) (D := D) (sz := H.size) h) (cwV 1 hts gX9_merit_X9_bad rfl rfl rfl nyX9_bad ⟨Nat.le_of_ble_eq_true rfl, Nat.le_of_ble_eq_true rfl⟩) (wx_pv C hP hD hS (q := 0) (ci := 9) (Nat.le_of_ble_eq_true rfl) (eM_0 cI ad _) rfl) rfl rfl hl.1 rfl (lv_room (Nat.le_of_ble_eq_true rfl)) dX9_merit_15 ⟨Nat.zero_le _, Nat.zero_le _⟩) (fun r15 σ15 H locs h hP hD hS => ?_)
      exact Rt _ _ _ _ _ _ h hP hD hS dX9_merit_18
  rw [eH, eL] at goal
  exact goal

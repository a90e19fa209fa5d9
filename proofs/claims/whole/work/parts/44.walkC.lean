abbrev rmX8_signsFor : Room := { frames := 3, cells := 0, slots := 0, locals := 80 }
set_option maxRecDepth 20000 in
theorem inX8_signsFor_X1 : ∀ w ∈ u_ws RX1 TX1 5, w ∈ wsX8_signsFor := by decide +kernel
set_option maxRecDepth 20000 in
theorem inX8_signsFor_X5 : ∀ w ∈ u_ws RX5 TX5 3, w ∈ wsX8_signsFor := by decide +kernel
set_option maxRecDepth 20000 in
theorem inX8_signsFor_X8 : ∀ w ∈ u_ws RX8 TX8 11, w ∈ wsX8_signsFor := by decide +kernel
set_option maxRecDepth 100000 in
set_option maxHeartbeats 4000000 in
theorem bX8_signsFor_32 {p : Program} {l : Launch} {e : Env} {s : State} {m : MethodId} {args : Array Value} {below : List Frame} {meth : Method} {c : Code} {A : Nat → Prop} {Q : State → Prop} {D : va_G} {cI cB cS cR : ClassId} {ad : Nat → Nat} {tS tP : Nat} {kS vS : Nat → Nat} {K : Int32 → wx_Z → Prop} {C4 : wx_Z → Int32 → Int32 → Int32 → Prop} (C : wx_C p s m args c cX8_signsFor 5 RX8 wsX8_signsFor D [(cI, .int), (cB, .byte), (cS, .object RX5), (cR, .array .int)] (wC_RO tS tP kS vS) A) (Rt : wx_Ri p l e rmX8_signsFor s m args below meth c cX8_signsFor D 58 (wC_E cI cB cS cR ad) ad A K Q) (hC4 : ∀ (σ : wx_Z) (x1 : Int32) (x2 : Int32) (x3 : Int32), C4 σ x1 x2 x3 → ∀ (H : Heap) (locs : List Loc) (ls : Array Slot), va_P D vwCl (wx_w 58 (wC_E cI cB cS cR ad) ad σ) H → va_D A (wx_w 58 (wC_E cI cB cS cR ad) ad σ) → va_S A s.heap H locs → lv_has ls 5 [(0, .ref (ad 0)), (1, .int x1), (2, .int x2), (3, .int x3)] → W p l e rmX8_signsFor s m args below meth c H locs 0 0 Q (F0 m 4 ls [])) : ∀ (σ : wx_Z) (x1 : Int32) (x2 : Int32) (x3 : Int32) (s0 : Int32), wpX8_signsFor_32 K C4 σ x1 x2 x3 s0 → ∀ (H : Heap) (locs : List Loc) (ls : Array Slot), va_P D vwCl (wx_w 58 (wC_E cI cB cS cR ad) ad σ) H → va_D A (wx_w 58 (wC_E cI cB cS cR ad) ad σ) → va_S A s.heap H locs → lv_has ls 5 [(0, .ref (ad 0)), (1, .int x1), (2, .int x2), (3, .int x3)] → W p l e rmX8_signsFor s m args below meth c H locs 0 0 Q (F0 m 32 ls [.int s0]) := by
  obtain ⟨⟨hx, hb, hml, hown, hts⟩, hA, hK, hRO, hro⟩ := id C
  intro σ x1 x2 x3 s0 h H locs ls hP hD hS hl
  unfold wpX8_signsFor_32 at h
  refine lv_istore (lv' := [(4, .int s0), (0, .ref (ad 0)), (1, .int x1), (2, .int x2), (3, .int x3)]) hx hb dX8_signsFor_32 hl (by decide) rfl (fun ls hl => ?_)
  refine lv_iload_n hx hb dX8_signsFor_34 rfl (lv_at hl 3 rfl) ?_
  refine lv_aload_n hx hb dX8_signsFor_35 rfl (lv_at hl 1 rfl) ?_
  refine wx_get C hP (q := 0) (ci := 8) (Nat.le_of_ble_eq_true rfl) (eC_0 _) (Cn := RX8) (T := TX8) (Nf := 11) rfl inX8_signsFor_X8 0 (by decide) (List.mem_of_getElem? (i := 1) rfl) (v := .ref (ad (cSt 0))) rfl dX8_signsFor_36 ?_
  refine lv_iload_n hx hb dX8_signsFor_39 rfl (lv_at hl 4 rfl) ?_
  refine wx_ci C hD hS (va_runV (As := [.int x3]) (rest := [.int x2]) C.1 (mtX5_bit (l := l) (D := D) (sz := H.size) (Nat.le_of_ble_eq_true rfl) h) (cwV 1 hts gX8_signsFor_X5_bit rfl rfl rfl nyX5_bit ⟨Nat.le_of_ble_eq_true rfl, Nat.le_of_ble_eq_true rfl⟩) (wx_pv C hP hD hS (q := (cSt 0)) (ci := 5) (lt_st (Nat.le_of_ble_eq_true rfl)) (eC_st (Nat.le_of_ble_eq_true rfl) _) rfl) rfl rfl hl.1 rfl (lv_room (Nat.le_of_ble_eq_true rfl)) dX8_signsFor_40 ⟨Nat.zero_le _, Nat.zero_le _⟩) (fun r40 σ40 H locs h hP hD hS => ?_)
  refine lv_iload hx hb dX8_signsFor_43 (lv_at hl 0 rfl) ?_
  refine lv_icmp_ne (tgt := 52) hx hb dX8_signsFor_45 (by decide) (fun c45 => ?_) (fun c45 => ?_)
  · have h := h.1 c45
    refine lv_iconst (v := (-1)) hx hb dX8_signsFor_52 (by decide) ?_
    refine lv_iadd hx hb dX8_signsFor_53 ?_
    refine lv_topi (fun t54 e_t54 => ?_)
    have h := h t54 e_t54
    refine lv_istore_n (lv' := [(2, .int t54), (4, .int s0), (0, .ref (ad 0)), (1, .int x1), (3, .int x3)]) hx hb dX8_signsFor_54 rfl hl (by decide) rfl (fun ls hl => ?_)
    obtain ⟨t55, e_t55⟩ : ∃ y : Int32, y = x3 + 1 := ⟨_, rfl⟩
    have h := h t55 e_t55
    refine lv_iinc (v := t55) (lv' := [(3, .int t55), (2, .int t54), (4, .int s0), (0, .ref (ad 0)), (1, .int x1)]) hx hb dX8_signsFor_55 hl (k := 4) rfl (by rw [e_t55]; rfl) (by decide) rfl (fun ls hl => ?_)
    refine lv_goto (tgt := 4) hx hb dX8_signsFor_58 (by decide) ?_
    exact hC4 σ40 x1 t54 t55  h _ _ _ hP hD hS (lv_sub hl [3, 4, 1, 0] rfl)
  · have h := h.2 c45
    refine lv_iconst (v := 1) hx hb dX8_signsFor_48 (by decide) ?_
    refine lv_goto (tgt := 53) hx hb dX8_signsFor_49 (by decide) ?_
    refine lv_iadd hx hb dX8_signsFor_53 ?_
    refine lv_topi (fun t54_1 e_t54_1 => ?_)
    have h := h t54_1 e_t54_1
    refine lv_istore_n (lv' := [(2, .int t54_1), (4, .int s0), (0, .ref (ad 0)), (1, .int x1), (3, .int x3)]) hx hb dX8_signsFor_54 rfl hl (by decide) rfl (fun ls hl => ?_)
    obtain ⟨t55_1, e_t55_1⟩ : ∃ y : Int32, y = x3 + 1 := ⟨_, rfl⟩
    have h := h t55_1 e_t55_1
    refine lv_iinc (v := t55_1) (lv' := [(3, .int t55_1), (2, .int t54_1), (4, .int s0), (0, .ref (ad 0)), (1, .int x1)]) hx hb dX8_signsFor_55 hl (k := 4) rfl (by rw [e_t55_1]; rfl) (by decide) rfl (fun ls hl => ?_)
    refine lv_goto (tgt := 4) hx hb dX8_signsFor_58 (by decide) ?_
    exact hC4 σ40 x1 t54_1 t55_1  h _ _ _ hP hD hS (lv_sub hl [3, 4, 1, 0] rfl)
set_option maxRecDepth 100000 in
set_option maxHeartbeats 4000000 in
theorem bX8_signsFor_4 {p : Program} {l : Launch} {e : Env} {s : State} {m : MethodId} {args : Array Value} {below : List Frame} {meth : Method} {c : Code} {A : Nat → Prop} {Q : State → Prop} {D : va_G} {cI cB cS cR : ClassId} {ad : Nat → Nat} {tS tP : Nat} {kS vS : Nat → Nat} {K : Int32 → wx_Z → Prop} (C : wx_C p s m args c cX8_signsFor 5 RX8 wsX8_signsFor D [(cI, .int), (cB, .byte), (cS, .object RX5), (cR, .array .int)] (wC_RO tS tP kS vS) A) (Rt : wx_Ri p l e rmX8_signsFor s m args below meth c cX8_signsFor D 58 (wC_E cI cB cS cR ad) ad A K Q) : ∀ (n : Nat) (σ : wx_Z) (x1 : Int32) (x2 : Int32) (x3 : Int32), wpX8_signsFor_4 K n σ x1 x2 x3 → ∀ (H : Heap) (locs : List Loc) (ls : Array Slot), va_P D vwCl (wx_w 58 (wC_E cI cB cS cR ad) ad σ) H → va_D A (wx_w 58 (wC_E cI cB cS cR ad) ad σ) → va_S A s.heap H locs → lv_has ls 5 [(0, .ref (ad 0)), (1, .int x1), (2, .int x2), (3, .int x3)] → W p l e rmX8_signsFor s m args below meth c H locs 0 0 Q (F0 m 4 ls []) := by
  obtain ⟨⟨hx, hb, hml, hown, hts⟩, hA, hK, hRO, hro⟩ := id C
  intro n
  induction n with
  | zero => intro σ x1 x2 x3 h; exact h.elim
  | succ n ih =>
    intro σ x1 x2 x3 h H locs ls hP hD hS hl
    unfold wpX8_signsFor_4 at h
    refine lv_iload_n hx hb dX8_signsFor_4 rfl (lv_at hl 3 rfl) ?_
    refine lv_aload_n hx hb dX8_signsFor_5 rfl (lv_at hl 0 rfl) ?_
    refine wx_get C hP (q := 0) (ci := 8) (Nat.le_of_ble_eq_true rfl) (eC_0 _) (Cn := RX8) (T := TX8) (Nf := 11) rfl inX8_signsFor_X8 0 (by decide) (List.mem_of_getElem? (i := 1) rfl) (v := .ref (ad (cSt 0))) rfl dX8_signsFor_6 ?_
    refine wx_get C hP (q := (cSt 0)) (ci := 5) (lt_st (Nat.le_of_ble_eq_true rfl)) (eC_st (Nat.le_of_ble_eq_true rfl) _) (Cn := RX5) (T := TX5) (Nf := 3) rfl inX8_signsFor_X5 0 (by decide) (List.mem_of_getElem? (i := 2) rfl) (v := .ref (ad (cCo 0))) rfl dX8_signsFor_9 ?_
    refine wx_get C hP (q := (cCo 0)) (ci := 1) (lt_co (Nat.le_of_ble_eq_true rfl)) (eC_co (Nat.le_of_ble_eq_true rfl) _) (Cn := RX1) (T := TX1) (Nf := 5) rfl inX8_signsFor_X1 2 (by decide) (List.mem_of_getElem? (i := 3) rfl) (v := .int (σ (cCo 0) 2)) rfl dX8_signsFor_12 ?_
    refine lv_icmp_ge (tgt := 61) hx hb dX8_signsFor_15 (by decide) (fun c15 => ?_) (fun c15 => ?_)
    · have h := h.1 c15
      refine lv_iload_n hx hb dX8_signsFor_61 rfl (lv_at hl 2 rfl) ?_
      exact Rt _ _ _ _ _ _ h hP hD hS dX8_signsFor_62
    · have h := h.2 c15
      refine lv_iload_n hx hb dX8_signsFor_18 rfl (lv_at hl 1 rfl) ?_
      refine lv_iload_n hx hb dX8_signsFor_19 rfl (lv_at hl 3 rfl) ?_
      refine lv_iand hx hb dX8_signsFor_20 ?_
      refine wx_ci C hD hS (va_runS (As := [.int (x1 &&& x3)]) (rest := []) C.1 (mtX8_isOdd (l := l) (D := D) (sz := H.size) h) (va_cwS 1 hts gX8_signsFor_X8_isOdd rfl rfl rfl nyX8_isOdd.2 ⟨Nat.le_of_ble_eq_true rfl, Nat.le_of_ble_eq_true rfl⟩) (wx_ps C hP hD hS) rfl rfl hl.1 rfl (lv_room (Nat.le_of_ble_eq_true rfl)) dX8_signsFor_21 ⟨Nat.zero_le _, Nat.zero_le _⟩) (fun r21 σ21 H locs h hP hD hS => ?_)
      refine lv_if_eq (tgt := 31) hx hb dX8_signsFor_24 (by decide) (fun c24 => ?_) (fun c24 => ?_)
      · have h := h.1 c24
        refine lv_iconst (v := 0) hx hb dX8_signsFor_31 (by decide) ?_
        exact bX8_signsFor_32 C Rt ih σ21 x1 x2 x3 0  h _ _ _ hP hD hS (lv_sub hl [0, 1, 2, 3] rfl)
      · have h := h.2 c24
        refine lv_iconst (v := 1) hx hb dX8_signsFor_27 (by decide) ?_
        refine lv_goto (tgt := 32) hx hb dX8_signsFor_28 (by decide) ?_
        exact bX8_signsFor_32 C Rt ih σ21 x1 x2 x3 1  h _ _ _ hP hD hS (lv_sub hl [0, 1, 2, 3] rfl)
set_option maxRecDepth 100000 in
set_option maxHeartbeats 4000000 in
theorem mtX8_signsFor {l : Launch} {D : va_G} {cI cB cS cR : ClassId} {ad : Nat → Nat} {tS tP : Nat} {kS vS : Nat → Nat} {sz : Nat} {σ : wx_Z} {x1 : Int32} {K : Int32 → wx_Z → Prop} (h : wpX8_signsFor σ x1 K) : Met l yX8_signsFor wsX8_signsFor rmX8_signsFor (wx_Pre D [(cI, .int), (cB, .byte), (cS, .object RX5), (cR, .array .int)] (wC_RO tS tP kS vS) 58 (wC_E cI cB cS cR ad) ad σ sz [.ref (ad 0), .int x1]) (va_Qi K (wx_B D [(cI, .int), (cB, .byte), (cS, .object RX5), (cR, .array .int)] 58 (wC_E cI cB cS cR ad) ad (va_A (wx_w 58 (wC_E cI cB cS cR ad) ad σ) sz)) (va_A (wx_w 58 (wC_E cI cB cS cR ad) ad σ) sz)) 0 0 (va_A (wx_w 58 (wC_E cI cB cS cR ad) ad σ) sz) := by
  unfold wpX8_signsFor at h
  refine wx_meti (cc := cX8_signsFor) (maxL := 5) (own := RX8) rfl (by decide) rfl (Nat.le_of_ble_eq_true rfl) (wC_ROok tS tP kS vS) ?_
  intro p e s m args below meth c A Q ls C Rt hP hD hS hl
  obtain ⟨⟨hx, hb, hml, hown, hts⟩, hA, hK, hRO, hro⟩ := id C
  have hl : lv_has ls 5 [(0, .ref (ad 0)), (1, .int x1)] := hl
  obtain ⟨H, eH⟩ : ∃ z, z = s.heap := ⟨_, rfl⟩
  obtain ⟨locs, eL⟩ : ∃ z : List Loc, z = [] := ⟨_, rfl⟩
  rw [← eH] at hP
  have hS : va_S A s.heap H locs := by rw [eH, eL]; exact hS
  have goal : W p l e rmX8_signsFor s m args below meth c H locs 0 0 Q (F0 m 0 ls []) := by
    refine lv_iconst (v := 0) hx hb dX8_signsFor_0 (by decide) ?_
    refine lv_istore_n (lv' := [(2, .int 0), (0, .ref (ad 0)), (1, .int x1)]) hx hb dX8_signsFor_1 rfl hl (by decide) rfl (fun ls hl => ?_)
    refine lv_iconst (v := 0) hx hb dX8_signsFor_2 (by decide) ?_
    refine lv_istore_n (lv' := [(3, .int 0), (2, .int 0), (0, .ref (ad 0)), (1, .int x1)]) hx hb dX8_signsFor_3 rfl hl (by decide) rfl (fun ls hl => ?_)
    obtain ⟨n4, h⟩ := h
    exact bX8_signsFor_4 C Rt n4 σ x1 0 0  h _ _ _ hP hD hS (lv_sub hl [2, 3, 1, 0] rfl)
  rw [eH, eL] at goal
  exact goal
abbrev rmX8_sign : Room := { frames := 4, cells := 0, slots := 0, locals := 104 }
set_option maxRecDepth 20000 in
theorem inX8_sign_X5 : ∀ w ∈ u_ws RX5 TX5 3, w ∈ wsX8_sign := by decide +kernel
set_option maxRecDepth 20000 in
theorem inX8_sign_X8 : ∀ w ∈ u_ws RX8 TX8 11, w ∈ wsX8_sign := by decide +kernel
theorem nyX8_signsFor : yX8_signsFor.cls = RX8 ∧ yX8_signsFor.cls ≠ "java/lang/invoke/MethodHandle" ∧ yX8_signsFor.cls ≠ "java/lang/invoke/VarHandle" ∧ (parseMethodDescriptor yX8_signsFor.desc).map (fun d => d.parameters.length) = some 1 := by decide +kernel
set_option maxRecDepth 100000 in
set_option maxHeartbeats 4000000 in
theorem mtX8_sign {l : Launch} {D : va_G} {cI cB cS cR : ClassId} {ad : Nat → Nat} {tS tP : Nat} {kS vS : Nat → Nat} {sz : Nat} {σ : wx_Z} {x1 : Int32} {K : Int32 → wx_Z → Prop} (h : wpX8_sign σ x1 K) : Met l yX8_sign wsX8_sign rmX8_sign (wx_Pre D [(cI, .int), (cB, .byte), (cS, .object RX5), (cR, .array .int)] (wC_RO tS tP kS vS) 58 (wC_E cI cB cS cR ad) ad σ sz [.ref (ad 0), .int x1]) (va_Qi K (wx_B D [(cI, .int), (cB, .byte), (cS, .object RX5), (cR, .array .int)] 58 (wC_E cI cB cS cR ad) ad (va_A (wx_w 58 (wC_E cI cB cS cR ad) ad σ) sz)) (va_A (wx_w 58 (wC_E cI cB cS cR ad) ad σ) sz)) 0 0 (va_A (wx_w 58 (wC_E cI cB cS cR ad) ad σ) sz) := by
  unfold wpX8_sign at h
  refine wx_meti (cc := cX8_sign) (maxL := 2) (own := RX8) rfl (by decide) rfl (Nat.le_of_ble_eq_true rfl) (wC_ROok tS tP kS vS) ?_
  intro p e s m args below meth c A Q ls C Rt hP hD hS hl
  obtain ⟨⟨hx, hb, hml, hown, hts⟩, hA, hK, hRO, hro⟩ := id C
  have hl : lv_has ls 2 [(0, .ref (ad 0)), (1, .int x1)] := hl
  obtain ⟨H, eH⟩ : ∃ z, z = s.heap := ⟨_, rfl⟩
  obtain ⟨locs, eL⟩ : ∃ z : List Loc, z = [] := ⟨_, rfl⟩
  rw [← eH] at hP
  have hS : va_S A s.heap H locs := by rw [eH, eL]; exact hS
  have goal : W p l e rmX8_sign s m args below meth c H locs 0 0 Q (F0 m 0 ls []) := by
    refine lv_aload_n hx hb dX8_sign_0 rfl (lv_at hl 0 rfl) ?_
    refine wx_get C hP (q := 0) (ci := 8) (Nat.le_of_ble_eq_true rfl) (eC_0 _) (Cn := RX8) (T := TX8) (Nf := 11) rfl inX8_sign_X8 0 (by decide) (List.mem_of_getElem? (i := 1) rfl) (v := .ref (ad (cSt 0))) rfl dX8_sign_1 ?_
    refine wx_get C hP (q := (cSt 0)) (ci := 5) (lt_st (Nat.le_of_ble_eq_true rfl)) (eC_st (Nat.le_of_ble_eq_true rfl) _) (Cn := RX5) (T := TX5) (Nf := 3) rfl inX8_sign_X5 0 (by decide) (List.mem_of_getElem? (i := 2) rfl) (v := .ref (ad (cCo 0))) rfl dX8_sign_4 ?_
    refine lv_iload_n hx hb dX8_sign_7 rfl (lv_at hl 1 rfl) ?_
    refine wx_ci C hD hS (va_runV (As := [.int x1]) (rest := []) C.1 (mtX1_hasPlace (l := l) (D := D) (sz := H.size) (Nat.le_of_ble_eq_true rfl) h) (cwV 1 hts gX8_sign_X1_hasPlace rfl rfl rfl nyX1_hasPlace ⟨Nat.le_of_ble_eq_true rfl, Nat.le_of_ble_eq_true rfl⟩) (wx_pv C hP hD hS (q := (cCo 0)) (ci := 1) (lt_co (Nat.le_of_ble_eq_true rfl)) (eC_co (Nat.le_of_ble_eq_true rfl) _) rfl) rfl rfl hl.1 rfl (lv_room (Nat.le_of_ble_eq_true rfl)) dX8_sign_8 ⟨Nat.zero_le _, Nat.zero_le _⟩) (fun r8 σ8 H locs h hP hD hS => ?_)
    refine lv_if_eq (tgt := 22) hx hb dX8_sign_11 (by decide) (fun c11 => ?_) (fun c11 => ?_)
    · have h := h.1 c11
      refine lv_aload_n hx hb dX8_sign_22 rfl (lv_at hl 0 rfl) ?_
      refine lv_sipush (v := 1000) hx hb dX8_sign_23 (by decide) ?_
      refine wx_ci C hD hS (va_runV (As := [.int 1000]) (rest := []) C.1 (mtX8_refuseBad (l := l) (D := D) (sz := H.size) h) (cwV 1 hts gX8_sign_X8_refuseBad rfl rfl rfl nyX8_refuseBad ⟨Nat.le_of_ble_eq_true rfl, Nat.le_of_ble_eq_true rfl⟩) (wx_pv C hP hD hS (q := 0) (ci := 8) (Nat.le_of_ble_eq_true rfl) (eC_0 _) rfl) rfl rfl hl.1 rfl (lv_room (Nat.le_of_ble_eq_true rfl)) dX8_sign_26 ⟨Nat.zero_le _, Nat.zero_le _⟩) (fun r26 σ26 H locs h hP hD hS => ?_)
      exact Rt _ _ _ _ _ _ h hP hD hS dX8_sign_29
    · have h := h.2 c11
      refine lv_aload_n hx hb dX8_sign_14 rfl (lv_at hl 0 rfl) ?_
      refine lv_iload_n hx hb dX8_sign_15 rfl (lv_at hl 1 rfl) ?_
      refine wx_ci C hD hS (va_runV (As := [.int x1]) (rest := []) C.1 (mtX8_signsFor (l := l) (D := D) (sz := H.size) h) (cwV 1 hts gX8_sign_X8_signsFor rfl rfl rfl nyX8_signsFor ⟨Nat.le_of_ble_eq_true rfl, Nat.le_of_ble_eq_true rfl⟩) (wx_pv C hP hD hS (q := 0) (ci := 8) (Nat.le_of_ble_eq_true rfl) (eC_0 _) rfl) rfl rfl hl.1 rfl (lv_room (Nat.le_of_ble_eq_true rfl)) dX8_sign_16 ⟨Nat.zero_le _, Nat.zero_le _⟩) (fun r16 σ16 H locs h hP hD hS => ?_)
      refine lv_goto (tgt := 29) hx hb dX8_sign_19 (by decide) ?_
      exact Rt _ _ _ _ _ _ h hP hD hS dX8_sign_29
  rw [eH, eL] at goal
  exact goal
abbrev rmX8_best : Room := { frames := 4, cells := 0, slots := 0, locals := 104 }
set_option maxRecDepth 20000 in
theorem inX8_best_X1 : ∀ w ∈ u_ws RX1 TX1 5, w ∈ wsX8_best := by decide +kernel
set_option maxRecDepth 20000 in
theorem inX8_best_X5 : ∀ w ∈ u_ws RX5 TX5 3, w ∈ wsX8_best := by decide +kernel
set_option maxRecDepth 20000 in
theorem inX8_best_X8 : ∀ w ∈ u_ws RX8 TX8 11, w ∈ wsX8_best := by decide +kernel
set_option maxRecDepth 100000 in
set_option maxHeartbeats 4000000 in
theorem bX8_best_30 {p : Program} {l : Launch} {e : Env} {s : State} {m : MethodId} {args : Array Value} {below : List Frame} {meth : Method} {c : Code} {A : Nat → Prop} {Q : State → Prop} {D : va_G} {cI cB cS cR : ClassId} {ad : Nat → Nat} {tS tP : Nat} {kS vS : Nat → Nat} {K : Int32 → wx_Z → Prop} (C : wx_C p s m args c cX8_best 7 RX8 wsX8_best D [(cI, .int), (cB, .byte), (cS, .object RX5), (cR, .array .int)] (wC_RO tS tP kS vS) A) (Rt : wx_Ri p l e rmX8_best s m args below meth c cX8_best D 58 (wC_E cI cB cS cR ad) ad A K Q) : ∀ (n : Nat) (σ : wx_Z) (x1 : Int32) (x2 : Int32) (x3 : Int32) (x4 : Int32) (x5 : Int32), wpX8_best_30 K n σ x1 x2 x3 x4 x5 → ∀ (H : Heap) (locs : List Loc) (ls : Array Slot), va_P D vwCl (wx_w 58 (wC_E cI cB cS cR ad) ad σ) H → va_D A (wx_w 58 (wC_E cI cB cS cR ad) ad σ) → va_S A s.heap H locs → lv_has ls 7 [(0, .ref (ad 0)), (1, .int x1), (2, .int x2), (3, .int x3), (4, .int x4), (5, .int x5)] → W p l e rmX8_best s m args below meth c H locs 0 0 Q (F0 m 30 ls []) := by
  obtain ⟨⟨hx, hb, hml, hown, hts⟩, hA, hK, hRO, hro⟩ := id C
  intro n
  induction n with
  | zero => intro σ x1 x2 x3 x4 x5 h; exact h.elim
  | succ n ih =>
    intro σ x1 x2 x3 x4 x5 h H locs ls hP hD hS hl
    unfold wpX8_best_30 at h
    refine lv_iload hx hb dX8_best_30 (lv_at hl 5 rfl) ?_
    refine lv_aload_n hx hb dX8_best_32 rfl (lv_at hl 0 rfl) ?_
    refine wx_get C hP (q := 0) (ci := 8) (Nat.le_of_ble_eq_true rfl) (eC_0 _) (Cn := RX8) (T := TX8) (Nf := 11) rfl inX8_best_X8 0 (by decide) (List.mem_of_getElem? (i := 1) rfl) (v := .ref (ad (cSt 0))) rfl dX8_best_33 ?_
    refine wx_get C hP (q := (cSt 0)) (ci := 5) (lt_st (Nat.le_of_ble_eq_true rfl)) (eC_st (Nat.le_of_ble_eq_true rfl) _) (Cn := RX5) (T := TX5) (Nf := 3) rfl inX8_best_X5 0 (by decide) (List.mem_of_getElem? (i := 2) rfl) (v := .ref (ad (cCo 0))) rfl dX8_best_36 ?_
    refine wx_get C hP (q := (cCo 0)) (ci := 1) (lt_co (Nat.le_of_ble_eq_true rfl)) (eC_co (Nat.le_of_ble_eq_true rfl) _) (Cn := RX1) (T := TX1) (Nf := 5) rfl inX8_best_X1 2 (by decide) (List.mem_of_getElem? (i := 3) rfl) (v := .int (σ (cCo 0) 2)) rfl dX8_best_39 ?_
    refine lv_icmp_ge (tgt := 98) hx hb dX8_best_42 (by decide) (fun c42 => ?_) (fun c42 => ?_)
    · have h := h.1 c42
      refine lv_iload_n hx hb dX8_best_98 rfl (lv_at hl 1 rfl) ?_
      refine lv_if_ne (tgt := 104) hx hb dX8_best_99 (by decide) (fun c99 => ?_) (fun c99 => ?_)
      · have h := h.1 c99
        refine lv_iload_n hx hb dX8_best_104 rfl (lv_at hl 1 rfl) ?_
        refine lv_iconst (v := 1) hx hb dX8_best_105 (by decide) ?_
        refine lv_icmp_ne (tgt := 113) hx hb dX8_best_106 (by decide) (fun c106 => ?_) (fun c106 => ?_)
        · have h := h.1 c106
          refine lv_iload hx hb dX8_best_113 (lv_at hl 4 rfl) ?_
          exact Rt _ _ _ _ _ _ h hP hD hS dX8_best_115
        · have h := h.2 c106
          refine lv_iload_n hx hb dX8_best_109 rfl (lv_at hl 3 rfl) ?_
          refine lv_goto (tgt := 115) hx hb dX8_best_110 (by decide) ?_
          exact Rt _ _ _ _ _ _ h hP hD hS dX8_best_115
      · have h := h.2 c99
        refine lv_iload_n hx hb dX8_best_102 rfl (lv_at hl 2 rfl) ?_
        exact Rt _ _ _ _ _ _ h hP hD hS dX8_best_103
    · have h := h.2 c42
      refine lv_aload_n hx hb dX8_best_45 rfl (lv_at hl 0 rfl) ?_
      refine lv_iload hx hb dX8_best_46 (lv_at hl 5 rfl) ?_
      refine wx_ci C hD hS (va_runV (As := [.int x5]) (rest := []) C.1 (mtX8_signsFor (l := l) (D := D) (sz := H.size) h) (cwV 1 hts gX8_best_X8_signsFor rfl rfl rfl nyX8_signsFor ⟨Nat.le_of_ble_eq_true rfl, Nat.le_of_ble_eq_true rfl⟩) (wx_pv C hP hD hS (q := 0) (ci := 8) (Nat.le_of_ble_eq_true rfl) (eC_0 _) rfl) rfl rfl hl.1 rfl (lv_room (Nat.le_of_ble_eq_true rfl)) dX8_best_48 ⟨Nat.zero_le _, Nat.zero_le _⟩) (fun r48 σ48 H locs h hP hD hS => ?_)
      refine lv_istore (lv' := [(6, .int r48), (0, .ref (ad 0)), (1, .int x1), (2, .int x2), (3, .int x3), (4, .int x4), (5, .int x5)]) hx hb dX8_best_51 hl (by decide) rfl (fun ls hl => ?_)
      refine lv_iload hx hb dX8_best_53 (lv_at hl 0 rfl) ?_
      refine va_mabs hx hb (hml.trans hl.1.symm) hown (hts (.methodLink RX8 163 Lib.Math.abs.name) (List.mem_of_getElem? (i := 4) rfl)) (hts (.static Lib.Math.abs.name) (List.mem_of_getElem? (i := 5) rfl)) (hts (.initialized "java/lang/Math") (List.mem_of_getElem? (i := 6) rfl)) (hts (.code Lib.Math.abs.name Lib.Math.abs.code 1 (some .int)) (List.mem_of_getElem? (i := 7) rfl)) (Nat.le_of_ble_eq_true rfl) (Nat.le_of_ble_eq_true rfl) (Nat.zero_le _) (Nat.zero_le _) dX8_best_55 ?_
      refine lv_topi (fun t55 e_t55 => ?_)
      have h := h t55 e_t55
      refine lv_iload_n hx hb dX8_best_58 rfl (lv_at hl 4 rfl) ?_
      refine va_mabs hx hb (hml.trans hl.1.symm) hown (hts (.methodLink RX8 163 Lib.Math.abs.name) (List.mem_of_getElem? (i := 4) rfl)) (hts (.static Lib.Math.abs.name) (List.mem_of_getElem? (i := 5) rfl)) (hts (.initialized "java/lang/Math") (List.mem_of_getElem? (i := 6) rfl)) (hts (.code Lib.Math.abs.name Lib.Math.abs.code 1 (some .int)) (List.mem_of_getElem? (i := 7) rfl)) (Nat.le_of_ble_eq_true rfl) (Nat.le_of_ble_eq_true rfl) (Nat.zero_le _) (Nat.zero_le _) dX8_best_59 ?_
      refine lv_topi (fun t59 e_t59 => ?_)
      have h := h t59 e_t59
      refine lv_icmp_le (tgt := 77) hx hb dX8_best_62 (by decide) (fun c62 => ?_) (fun c62 => ?_)
      · have h := h.1 c62
        refine lv_iload hx hb dX8_best_77 (lv_at hl 0 rfl) ?_
        refine va_mabs hx hb (hml.trans hl.1.symm) hown (hts (.methodLink RX8 163 Lib.Math.abs.name) (List.mem_of_getElem? (i := 4) rfl)) (hts (.static Lib.Math.abs.name) (List.mem_of_getElem? (i := 5) rfl)) (hts (.initialized "java/lang/Math") (List.mem_of_getElem? (i := 6) rfl)) (hts (.code Lib.Math.abs.name Lib.Math.abs.code 1 (some .int)) (List.mem_of_getElem? (i := 7) rfl)) (Nat.le_of_ble_eq_true rfl) (Nat.le_of_ble_eq_true rfl) (Nat.zero_le _) (Nat.zero_le _) dX8_best_79 ?_
        refine lv_topi (fun t79 e_t79 => ?_)
        have h := h t79 e_t79
        refine lv_iload_n hx hb dX8_best_82 rfl (lv_at hl 4 rfl) ?_
        refine va_mabs hx hb (hml.trans hl.1.symm) hown (hts (.methodLink RX8 163 Lib.Math.abs.name) (List.mem_of_getElem? (i := 4) rfl)) (hts (.static Lib.Math.abs.name) (List.mem_of_getElem? (i := 5) rfl)) (hts (.initialized "java/lang/Math") (List.mem_of_getElem? (i := 6) rfl)) (hts (.code Lib.Math.abs.name Lib.Math.abs.code 1 (some .int)) (List.mem_of_getElem? (i := 7) rfl)) (Nat.le_of_ble_eq_true rfl) (Nat.le_of_ble_eq_true rfl) (Nat.zero_le _) (Nat.zero_le _) dX8_best_83 ?_
        refine lv_topi (fun t83 e_t83 => ?_)
        have h := h t83 e_t83
        refine lv_icmp_ne (tgt := 92) hx hb dX8_best_86 (by decide) (fun c86 => ?_) (fun c86 => ?_)
        · have h := h.1 c86
          obtain ⟨t92, e_t92⟩ : ∃ y : Int32, y = x5 + 1 := ⟨_, rfl⟩
          have h := h t92 e_t92
          refine lv_iinc (v := t92) (lv' := [(5, .int t92), (6, .int r48), (0, .ref (ad 0)), (1, .int x1), (2, .int x2), (3, .int x3), (4, .int x4)]) hx hb dX8_best_92 hl (k := 6) rfl (by rw [e_t92]; rfl) (by decide) rfl (fun ls hl => ?_)
          refine lv_goto (tgt := 30) hx hb dX8_best_95 (by decide) ?_
          exact ih σ48 x1 x2 x3 x4 t92  h _ _ _ hP hD hS (lv_sub hl [2, 3, 4, 5, 6, 0] rfl)
        · have h := h.2 c86
          obtain ⟨t89, e_t89⟩ : ∃ y : Int32, y = x4 + 1 := ⟨_, rfl⟩
          have h := h t89 e_t89
          refine lv_iinc (v := t89) (lv' := [(4, .int t89), (6, .int r48), (0, .ref (ad 0)), (1, .int x1), (2, .int x2), (3, .int x3), (5, .int x5)]) hx hb dX8_best_89 hl (k := 5) rfl (by rw [e_t89]; rfl) (by decide) rfl (fun ls hl => ?_)
          obtain ⟨t92_1, e_t92_1⟩ : ∃ y : Int32, y = x5 + 1 := ⟨_, rfl⟩
          have h := h t92_1 e_t92_1
          refine lv_iinc (v := t92_1) (lv' := [(5, .int t92_1), (4, .int t89), (6, .int r48), (0, .ref (ad 0)), (1, .int x1), (2, .int x2), (3, .int x3)]) hx hb dX8_best_92 hl (k := 6) rfl (by rw [e_t92_1]; rfl) (by decide) rfl (fun ls hl => ?_)
          refine lv_goto (tgt := 30) hx hb dX8_best_95 (by decide) ?_
          exact ih σ48 x1 x2 x3 t89 t92_1  h _ _ _ hP hD hS (lv_sub hl [3, 4, 5, 6, 1, 0] rfl)
      · have h := h.2 c62
        refine lv_iload hx hb dX8_best_65 (lv_at hl 6 rfl) ?_
        refine lv_istore_n (lv' := [(2, .int x5), (6, .int r48), (0, .ref (ad 0)), (1, .int x1), (3, .int x3), (4, .int x4), (5, .int x5)]) hx hb dX8_best_67 rfl hl (by decide) rfl (fun ls hl => ?_)
        refine lv_iload hx hb dX8_best_68 (lv_at hl 1 rfl) ?_
        refine lv_istore_n (lv' := [(3, .int r48), (2, .int x5), (6, .int r48), (0, .ref (ad 0)), (1, .int x1), (4, .int x4), (5, .int x5)]) hx hb dX8_best_70 rfl hl (by decide) rfl (fun ls hl => ?_)
        refine lv_iconst (v := 1) hx hb dX8_best_71 (by decide) ?_
        refine lv_istore (lv' := [(4, .int 1), (3, .int r48), (2, .int x5), (6, .int r48), (0, .ref (ad 0)), (1, .int x1), (5, .int x5)]) hx hb dX8_best_72 hl (by decide) rfl (fun ls hl => ?_)
        refine lv_goto (tgt := 92) hx hb dX8_best_74 (by decide) ?_
        obtain ⟨t92_2, e_t92_2⟩ : ∃ y : Int32, y = x5 + 1 := ⟨_, rfl⟩
        have h := h t92_2 e_t92_2
        refine lv_iinc (v := t92_2) (lv' := [(5, .int t92_2), (4, .int 1), (3, .int r48), (2, .int x5), (6, .int r48), (0, .ref (ad 0)), (1, .int x1)]) hx hb dX8_best_92 hl (k := 6) rfl (by rw [e_t92_2]; rfl) (by decide) rfl (fun ls hl => ?_)
        refine lv_goto (tgt := 30) hx hb dX8_best_95 (by decide) ?_
        exact ih σ48 x1 x5 r48 1 t92_2  h _ _ _ hP hD hS (lv_sub hl [5, 6, 3, 2, 1, 0] rfl)
set_option maxRecDepth 100000 in
set_option maxHeartbeats 4000000 in
theorem mtX8_best {l : Launch} {D : va_G} {cI cB cS cR : ClassId} {ad : Nat → Nat} {tS tP : Nat} {kS vS : Nat → Nat} {sz : Nat} {σ : wx_Z} {x1 : Int32} {K : Int32 → wx_Z → Prop} (h : wpX8_best σ x1 K) : Met l yX8_best wsX8_best rmX8_best (wx_Pre D [(cI, .int), (cB, .byte), (cS, .object RX5), (cR, .array .int)] (wC_RO tS tP kS vS) 58 (wC_E cI cB cS cR ad) ad σ sz [.ref (ad 0), .int x1]) (va_Qi K (wx_B D [(cI, .int), (cB, .byte), (cS, .object RX5), (cR, .array .int)] 58 (wC_E cI cB cS cR ad) ad (va_A (wx_w 58 (wC_E cI cB cS cR ad) ad σ) sz)) (va_A (wx_w 58 (wC_E cI cB cS cR ad) ad σ) sz)) 0 0 (va_A (wx_w 58 (wC_E cI cB cS cR ad) ad σ) sz) := by
  unfold wpX8_best at h
  refine wx_meti (cc := cX8_best) (maxL := 7) (own := RX8) rfl (by decide) rfl (Nat.le_of_ble_eq_true rfl) (wC_ROok tS tP kS vS) ?_
  intro p e s m args below meth c A Q ls C Rt hP hD hS hl
  obtain ⟨⟨hx, hb, hml, hown, hts⟩, hA, hK, hRO, hro⟩ := id C
  have hl : lv_has ls 7 [(0, .ref (ad 0)), (1, .int x1)] := hl
  obtain ⟨H, eH⟩ : ∃ z, z = s.heap := ⟨_, rfl⟩
  obtain ⟨locs, eL⟩ : ∃ z : List Loc, z = [] := ⟨_, rfl⟩
  rw [← eH] at hP
  have hS : va_S A s.heap H locs := by rw [eH, eL]; exact hS
  have goal : W p l e rmX8_best s m args below meth c H locs 0 0 Q (F0 m 0 ls []) := by
    refine lv_iload_n hx hb dX8_best_0 rfl (lv_at hl 1 rfl) ?_
    refine lv_if_lt (tgt := 9) hx hb dX8_best_1 (by decide) (fun c1 => ?_) (fun c1 => ?_)
    · have h := h.1 c1
      refine lv_aload_n hx hb dX8_best_9 rfl (lv_at hl 0 rfl) ?_
      refine lv_bipush (v := (-2)) hx hb dX8_best_10 (by decide) ?_
      refine wx_ci C hD hS (va_runV (As := [.int (-2)]) (rest := []) C.1 (mtX8_refuseBad (l := l) (D := D) (sz := H.size) h) (cwV 1 hts gX8_best_X8_refuseBad rfl rfl rfl nyX8_refuseBad ⟨Nat.le_of_ble_eq_true rfl, Nat.le_of_ble_eq_true rfl⟩) (wx_pv C hP hD hS (q := 0) (ci := 8) (Nat.le_of_ble_eq_true rfl) (eC_0 _) rfl) rfl rfl hl.1 rfl (lv_room (Nat.le_of_ble_eq_true rfl)) dX8_best_12 ⟨Nat.zero_le _, Nat.zero_le _⟩) (fun r12 σ12 H locs h hP hD hS => ?_)
      exact Rt _ _ _ _ _ _ h hP hD hS dX8_best_15
    · have h := h.2 c1
      refine lv_iload_n hx hb dX8_best_4 rfl (lv_at hl 1 rfl) ?_
      refine lv_iconst (v := 2) hx hb dX8_best_5 (by decide) ?_
      refine lv_icmp_le (tgt := 16) hx hb dX8_best_6 (by decide) (fun c6 => ?_) (fun c6 => ?_)
      · have h := h.1 c6
        refine lv_iconst (v := 0) hx hb dX8_best_16 (by decide) ?_
        refine lv_istore_n (lv' := [(2, .int 0), (0, .ref (ad 0)), (1, .int x1)]) hx hb dX8_best_17 rfl hl (by decide) rfl (fun ls hl => ?_)
        refine lv_aload_n hx hb dX8_best_18 rfl (lv_at hl 1 rfl) ?_
        refine lv_iconst (v := 0) hx hb dX8_best_19 (by decide) ?_
        refine wx_ci C hD hS (va_runV (As := [.int 0]) (rest := []) C.1 (mtX8_signsFor (l := l) (D := D) (sz := H.size) h) (cwV 1 hts gX8_best_X8_signsFor rfl rfl rfl nyX8_signsFor ⟨Nat.le_of_ble_eq_true rfl, Nat.le_of_ble_eq_true rfl⟩) (wx_pv C hP hD hS (q := 0) (ci := 8) (Nat.le_of_ble_eq_true rfl) (eC_0 _) rfl) rfl rfl hl.1 rfl (lv_room (Nat.le_of_ble_eq_true rfl)) dX8_best_20 ⟨Nat.zero_le _, Nat.zero_le _⟩) (fun r20 σ20 H locs h hP hD hS => ?_)
        refine lv_istore_n (lv' := [(3, .int r20), (2, .int 0), (0, .ref (ad 0)), (1, .int x1)]) hx hb dX8_best_23 rfl hl (by decide) rfl (fun ls hl => ?_)
        refine lv_iconst (v := 1) hx hb dX8_best_24 (by decide) ?_
        refine lv_istore (lv' := [(4, .int 1), (3, .int r20), (2, .int 0), (0, .ref (ad 0)), (1, .int x1)]) hx hb dX8_best_25 hl (by decide) rfl (fun ls hl => ?_)
        refine lv_iconst (v := 1) hx hb dX8_best_27 (by decide) ?_
        refine lv_istore (lv' := [(5, .int 1), (4, .int 1), (3, .int r20), (2, .int 0), (0, .ref (ad 0)), (1, .int x1)]) hx hb dX8_best_28 hl (by decide) rfl (fun ls hl => ?_)
        obtain ⟨n30, h⟩ := h
        exact bX8_best_30 C Rt n30 σ20 x1 0 r20 1 1  h _ _ _ hP hD hS (lv_sub hl [4, 5, 3, 2, 1, 0] rfl)
      · have h := h.2 c6
        refine lv_aload_n hx hb dX8_best_9 rfl (lv_at hl 0 rfl) ?_
        refine lv_bipush (v := (-2)) hx hb dX8_best_10 (by decide) ?_
        refine wx_ci C hD hS (va_runV (As := [.int (-2)]) (rest := []) C.1 (mtX8_refuseBad (l := l) (D := D) (sz := H.size) h) (cwV 1 hts gX8_best_X8_refuseBad rfl rfl rfl nyX8_refuseBad ⟨Nat.le_of_ble_eq_true rfl, Nat.le_of_ble_eq_true rfl⟩) (wx_pv C hP hD hS (q := 0) (ci := 8) (Nat.le_of_ble_eq_true rfl) (eC_0 _) rfl) rfl rfl hl.1 rfl (lv_room (Nat.le_of_ble_eq_true rfl)) dX8_best_12 ⟨Nat.zero_le _, Nat.zero_le _⟩) (fun r12_1 σ12_1 H locs h hP hD hS => ?_)
        exact Rt _ _ _ _ _ _ h hP hD hS dX8_best_15
  rw [eH, eL] at goal
  exact goal
abbrev rmX8_refuseNo : Room := { frames := 1, cells := 0, slots := 0, locals := 40 }
set_option maxRecDepth 20000 in
theorem inX8_refuseNo_X8 : ∀ w ∈ u_ws RX8 TX8 11, w ∈ wsX8_refuseNo := by decide +kernel
set_option maxRecDepth 100000 in
set_option maxHeartbeats 4000000 in
theorem mtX8_refuseNo {l : Launch} {D : va_G} {cI cB cS cR : ClassId} {ad : Nat → Nat} {tS tP : Nat} {kS vS : Nat → Nat} {sz : Nat} {σ : wx_Z} {x1 : Int32} {K : Int32 → wx_Z → Prop} (h : wpX8_refuseNo σ x1 K) : Met l yX8_refuseNo wsX8_refuseNo rmX8_refuseNo (wx_Pre D [(cI, .int), (cB, .byte), (cS, .object RX5), (cR, .array .int)] (wC_RO tS tP kS vS) 58 (wC_E cI cB cS cR ad) ad σ sz [.ref (ad 0), .int x1]) (va_Qi K (wx_B D [(cI, .int), (cB, .byte), (cS, .object RX5), (cR, .array .int)] 58 (wC_E cI cB cS cR ad) ad (va_A (wx_w 58 (wC_E cI cB cS cR ad) ad σ) sz)) (va_A (wx_w 58 (wC_E cI cB cS cR ad) ad σ) sz)) 0 0 (va_A (wx_w 58 (wC_E cI cB cS cR ad) ad σ) sz) := by
  unfold wpX8_refuseNo at h
  refine wx_meti (cc := cX8_refuseNo) (maxL := 2) (own := RX8) rfl (by decide) rfl (Nat.le_of_ble_eq_true rfl) (wC_ROok tS tP kS vS) ?_
  intro p e s m args below meth c A Q ls C Rt hP hD hS hl
  obtain ⟨⟨hx, hb, hml, hown, hts⟩, hA, hK, hRO, hro⟩ := id C
  have hl : lv_has ls 2 [(0, .ref (ad 0)), (1, .int x1)] := hl
  obtain ⟨H, eH⟩ : ∃ z, z = s.heap := ⟨_, rfl⟩
  obtain ⟨locs, eL⟩ : ∃ z : List Loc, z = [] := ⟨_, rfl⟩
  rw [← eH] at hP
  have hS : va_S A s.heap H locs := by rw [eH, eL]; exact hS
  have goal : W p l e rmX8_refuseNo s m args below meth c H locs 0 0 Q (F0 m 0 ls []) := by
    refine lv_aload_n hx hb dX8_refuseNo_0 rfl (lv_at hl 0 rfl) ?_
    refine lv_dup hx hb dX8_refuseNo_1 rfl ?_
    refine wx_get C hP (q := 0) (ci := 8) (Nat.le_of_ble_eq_true rfl) (eC_0 _) (Cn := RX8) (T := TX8) (Nf := 11) rfl inX8_refuseNo_X8 9 (by decide) (List.mem_of_getElem? (i := 1) rfl) (v := .int (σ 0 9)) rfl dX8_refuseNo_2 ?_
    refine lv_iconst (v := 1) hx hb dX8_refuseNo_5 (by decide) ?_
    refine lv_iadd hx hb dX8_refuseNo_6 ?_
    refine wx_put C hP hD hS (q := 0) (ci := 8) (Nat.le_of_ble_eq_true rfl) (eC_0 _) (Cn := RX8) (T := TX8) (Nf := 11) rfl inX8_refuseNo_X8 tyX8 tyX8_ok nmX8 9 (by decide) (List.mem_of_getElem? (i := 1) rfl) rfl rfl (Nat.le_of_ble_eq_true rfl) rfl dX8_refuseNo_7 (fun H locs hP hD hS => ?_)
    generalize e_σ7 : wx_up σ 0 9 ((σ 0 9) + 1) = σ7 at hP hD
    have h := h σ7 e_σ7.symm
    refine lv_iload_n hx hb dX8_refuseNo_10 rfl (lv_at hl 1 rfl) ?_
    exact Rt _ _ _ _ _ _ h hP hD hS dX8_refuseNo_11
  rw [eH, eL] at goal
  exact goal
abbrev rmX8_nearest : Room := { frames := 5, cells := 0, slots := 0, locals := 132 }
set_option maxRecDepth 20000 in
theorem inX8_nearest_X5 : ∀ w ∈ u_ws RX5 TX5 3, w ∈ wsX8_nearest := by decide +kernel
set_option maxRecDepth 20000 in
theorem inX8_nearest_X7 : ∀ w ∈ u_ws RX7 TX7 6, w ∈ wsX8_nearest := by decide +kernel
set_option maxRecDepth 20000 in
theorem inX8_nearest_X8 : ∀ w ∈ u_ws RX8 TX8 11, w ∈ wsX8_nearest := by decide +kernel
theorem nyX1_canBeWalked : yX1_canBeWalked.cls = RX1 ∧ yX1_canBeWalked.cls ≠ "java/lang/invoke/MethodHandle" ∧ yX1_canBeWalked.cls ≠ "java/lang/invoke/VarHandle" ∧ (parseMethodDescriptor yX1_canBeWalked.desc).map (fun d => d.parameters.length) = some 0 := by decide +kernel
theorem nyX7_seek : yX7_seek.cls = RX7 ∧ yX7_seek.cls ≠ "java/lang/invoke/MethodHandle" ∧ yX7_seek.cls ≠ "java/lang/invoke/VarHandle" ∧ (parseMethodDescriptor yX7_seek.desc).map (fun d => d.parameters.length) = some 2 := by decide +kernel
theorem nyX8_refuseNo : yX8_refuseNo.cls = RX8 ∧ yX8_refuseNo.cls ≠ "java/lang/invoke/MethodHandle" ∧ yX8_refuseNo.cls ≠ "java/lang/invoke/VarHandle" ∧ (parseMethodDescriptor yX8_refuseNo.desc).map (fun d => d.parameters.length) = some 1 := by decide +kernel
set_option maxRecDepth 100000 in
set_option maxHeartbeats 4000000 in
theorem mtX8_nearest {l : Launch} {D : va_G} {cI cB cS cR : ClassId} {ad : Nat → Nat} {tS tP : Nat} {kS vS : Nat → Nat} {sz : Nat} {σ : wx_Z} {x1 : Int32} {K : Int32 → wx_Z → Prop} (h : wpX8_nearest σ x1 K) : Met l yX8_nearest wsX8_nearest rmX8_nearest (wx_Pre D [(cI, .int), (cB, .byte), (cS, .object RX5), (cR, .array .int)] (wC_RO tS tP kS vS) 58 (wC_E cI cB cS cR ad) ad σ sz [.ref (ad 0), .int x1]) (va_Qi K (wx_B D [(cI, .int), (cB, .byte), (cS, .object RX5), (cR, .array .int)] 58 (wC_E cI cB cS cR ad) ad (va_A (wx_w 58 (wC_E cI cB cS cR ad) ad σ) sz)) (va_A (wx_w 58 (wC_E cI cB cS cR ad) ad σ) sz)) 0 0 (va_A (wx_w 58 (wC_E cI cB cS cR ad) ad σ) sz) := by
  unfold wpX8_nearest at h
  refine wx_meti (cc := cX8_nearest) (maxL := 2) (own := RX8) rfl (by decide) rfl (Nat.le_of_ble_eq_true rfl) (wC_ROok tS tP kS vS) ?_
  intro p e s m args below meth c A Q ls C Rt hP hD hS hl
  obtain ⟨⟨hx, hb, hml, hown, hts⟩, hA, hK, hRO, hro⟩ := id C
  have hl : lv_has ls 2 [(0, .ref (ad 0)), (1, .int x1)] := hl
  obtain ⟨H, eH⟩ : ∃ z, z = s.heap := ⟨_, rfl⟩
  obtain ⟨locs, eL⟩ : ∃ z : List Loc, z = [] := ⟨_, rfl⟩
  rw [← eH] at hP
  have hS : va_S A s.heap H locs := by rw [eH, eL]; exact hS
  have goal : W p l e rmX8_nearest s m args below meth c H locs 0 0 Q (F0 m 0 ls []) := by
    refine lv_iload_n hx hb dX8_nearest_0 rfl (lv_at hl 1 rfl) ?_
    refine lv_if_lt (tgt := 9) hx hb dX8_nearest_1 (by decide) (fun c1 => ?_) (fun c1 => ?_)
    · have h := h.1 c1
      refine lv_aload_n hx hb dX8_nearest_9 rfl (lv_at hl 0 rfl) ?_
      refine lv_bipush (v := (-2)) hx hb dX8_nearest_10 (by decide) ?_
      refine wx_ci C hD hS (va_runV (As := [.int (-2)]) (rest := []) C.1 (mtX8_refuseBad (l := l) (D := D) (sz := H.size) h) (cwV 1 hts gX8_nearest_X8_refuseBad rfl rfl rfl nyX8_refuseBad ⟨Nat.le_of_ble_eq_true rfl, Nat.le_of_ble_eq_true rfl⟩) (wx_pv C hP hD hS (q := 0) (ci := 8) (Nat.le_of_ble_eq_true rfl) (eC_0 _) rfl) rfl rfl hl.1 rfl (lv_room (Nat.le_of_ble_eq_true rfl)) dX8_nearest_12 ⟨Nat.zero_le _, Nat.zero_le _⟩) (fun r12 σ12 H locs h hP hD hS => ?_)
      exact Rt _ _ _ _ _ _ h hP hD hS dX8_nearest_15
    · have h := h.2 c1
      refine lv_iload_n hx hb dX8_nearest_4 rfl (lv_at hl 1 rfl) ?_
      refine lv_iconst (v := 1) hx hb dX8_nearest_5 (by decide) ?_
      refine lv_icmp_le (tgt := 16) hx hb dX8_nearest_6 (by decide) (fun c6 => ?_) (fun c6 => ?_)
      · have h := h.1 c6
        refine lv_aload_n hx hb dX8_nearest_16 rfl (lv_at hl 0 rfl) ?_
        refine wx_get C hP (q := 0) (ci := 8) (Nat.le_of_ble_eq_true rfl) (eC_0 _) (Cn := RX8) (T := TX8) (Nf := 11) rfl inX8_nearest_X8 0 (by decide) (List.mem_of_getElem? (i := 1) rfl) (v := .ref (ad (cSt 0))) rfl dX8_nearest_17 ?_
        refine wx_get C hP (q := (cSt 0)) (ci := 5) (lt_st (Nat.le_of_ble_eq_true rfl)) (eC_st (Nat.le_of_ble_eq_true rfl) _) (Cn := RX5) (T := TX5) (Nf := 3) rfl inX8_nearest_X5 0 (by decide) (List.mem_of_getElem? (i := 2) rfl) (v := .ref (ad (cCo 0))) rfl dX8_nearest_20 ?_
        refine wx_ci C hD hS (va_runV (As := []) (rest := []) C.1 (mtX1_canBeWalked (l := l) (D := D) (sz := H.size) (Nat.le_of_ble_eq_true rfl) h) (cwV 0 hts gX8_nearest_X1_canBeWalked rfl rfl rfl nyX1_canBeWalked ⟨Nat.le_of_ble_eq_true rfl, Nat.le_of_ble_eq_true rfl⟩) (wx_pv C hP hD hS (q := (cCo 0)) (ci := 1) (lt_co (Nat.le_of_ble_eq_true rfl)) (eC_co (Nat.le_of_ble_eq_true rfl) _) rfl) rfl rfl hl.1 rfl (lv_room (Nat.le_of_ble_eq_true rfl)) dX8_nearest_23 ⟨Nat.zero_le _, Nat.zero_le _⟩) (fun r23 σ23 H locs h hP hD hS => ?_)
        refine lv_if_ne (tgt := 36) hx hb dX8_nearest_26 (by decide) (fun c26 => ?_) (fun c26 => ?_)
        · have h := h.1 c26
          refine lv_aload_n hx hb dX8_nearest_36 rfl (lv_at hl 0 rfl) ?_
          refine wx_get C hP (q := 0) (ci := 8) (Nat.le_of_ble_eq_true rfl) (eC_0 _) (Cn := RX8) (T := TX8) (Nf := 11) rfl inX8_nearest_X8 7 (by decide) (List.mem_of_getElem? (i := 3) rfl) (v := .ref (ad 56)) rfl dX8_nearest_37 ?_
          refine lv_aload_n hx hb dX8_nearest_40 rfl (lv_at hl 0 rfl) ?_
          refine wx_get C hP (q := 0) (ci := 8) (Nat.le_of_ble_eq_true rfl) (eC_0 _) (Cn := RX8) (T := TX8) (Nf := 11) rfl inX8_nearest_X8 0 (by decide) (List.mem_of_getElem? (i := 1) rfl) (v := .ref (ad (cSt 0))) rfl dX8_nearest_41 ?_
          refine wx_get C hP (q := (cSt 0)) (ci := 5) (lt_st (Nat.le_of_ble_eq_true rfl)) (eC_st (Nat.le_of_ble_eq_true rfl) _) (Cn := RX5) (T := TX5) (Nf := 3) rfl inX8_nearest_X5 0 (by decide) (List.mem_of_getElem? (i := 2) rfl) (v := .ref (ad (cCo 0))) rfl dX8_nearest_44 ?_
          refine lv_aload_n hx hb dX8_nearest_47 rfl (lv_at hl 0 rfl) ?_
          refine wx_get C hP (q := 0) (ci := 8) (Nat.le_of_ble_eq_true rfl) (eC_0 _) (Cn := RX8) (T := TX8) (Nf := 11) rfl inX8_nearest_X8 0 (by decide) (List.mem_of_getElem? (i := 1) rfl) (v := .ref (ad (cSt 0))) rfl dX8_nearest_48 ?_
          refine wx_get C hP (q := (cSt 0)) (ci := 5) (lt_st (Nat.le_of_ble_eq_true rfl)) (eC_st (Nat.le_of_ble_eq_true rfl) _) (Cn := RX5) (T := TX5) (Nf := 3) rfl inX8_nearest_X5 2 (by decide) (List.mem_of_getElem? (i := 4) rfl) (v := .int (σ23 (cSt 0) 2)) rfl dX8_nearest_51 ?_
          refine wx_cv C hD hS (va_runV (As := [.ref (ad (cCo 0)), .int (σ23 (cSt 0) 2)]) (rest := []) C.1 (mtX7_seek (l := l) (D := D) (sz := H.size) (Nat.le_of_ble_eq_true rfl) h) (cwV 2 hts gX8_nearest_X7_seek rfl rfl rfl nyX7_seek ⟨Nat.le_of_ble_eq_true rfl, Nat.le_of_ble_eq_true rfl⟩) (wx_pv C hP hD hS (q := 56) (ci := 7) (Nat.le_of_ble_eq_true rfl) (eC_56 _) rfl) rfl rfl hl.1 rfl (lv_room (Nat.le_of_ble_eq_true rfl)) dX8_nearest_54 ⟨Nat.zero_le _, Nat.zero_le _⟩) (fun σ54 H locs h hP hD hS => ?_)
          refine lv_iload_n hx hb dX8_nearest_57 rfl (lv_at hl 1 rfl) ?_
          refine lv_if_ne (tgt := 71) hx hb dX8_nearest_58 (by decide) (fun c58 => ?_) (fun c58 => ?_)
          · have h := h.1 c58
            refine lv_aload_n hx hb dX8_nearest_71 rfl (lv_at hl 0 rfl) ?_
            refine wx_get C hP (q := 0) (ci := 8) (Nat.le_of_ble_eq_true rfl) (eC_0 _) (Cn := RX8) (T := TX8) (Nf := 11) rfl inX8_nearest_X8 7 (by decide) (List.mem_of_getElem? (i := 3) rfl) (v := .ref (ad 56)) rfl dX8_nearest_72 ?_
            refine wx_get C hP (q := 56) (ci := 7) (Nat.le_of_ble_eq_true rfl) (eC_56 _) (Cn := RX7) (T := TX7) (Nf := 6) rfl inX8_nearest_X7 4 (by decide) (List.mem_of_getElem? (i := 6) rfl) (v := .int (σ54 56 4)) rfl dX8_nearest_75 ?_
            exact Rt _ _ _ _ _ _ h hP hD hS dX8_nearest_78
          · have h := h.2 c58
            refine lv_aload_n hx hb dX8_nearest_61 rfl (lv_at hl 0 rfl) ?_
            refine wx_get C hP (q := 0) (ci := 8) (Nat.le_of_ble_eq_true rfl) (eC_0 _) (Cn := RX8) (T := TX8) (Nf := 11) rfl inX8_nearest_X8 7 (by decide) (List.mem_of_getElem? (i := 3) rfl) (v := .ref (ad 56)) rfl dX8_nearest_62 ?_
            refine wx_get C hP (q := 56) (ci := 7) (Nat.le_of_ble_eq_true rfl) (eC_56 _) (Cn := RX7) (T := TX7) (Nf := 6) rfl inX8_nearest_X7 3 (by decide) (List.mem_of_getElem? (i := 5) rfl) (v := .int (σ54 56 3)) rfl dX8_nearest_65 ?_
            refine lv_goto (tgt := 78) hx hb dX8_nearest_68 (by decide) ?_
            exact Rt _ _ _ _ _ _ h hP hD hS dX8_nearest_78
        · have h := h.2 c26
          refine lv_aload_n hx hb dX8_nearest_29 rfl (lv_at hl 0 rfl) ?_
          refine lv_bipush (v := (-3)) hx hb dX8_nearest_30 (by decide) ?_
          refine wx_ci C hD hS (va_runV (As := [.int (-3)]) (rest := []) C.1 (mtX8_refuseNo (l := l) (D := D) (sz := H.size) h) (cwV 1 hts gX8_nearest_X8_refuseNo rfl rfl rfl nyX8_refuseNo ⟨Nat.le_of_ble_eq_true rfl, Nat.le_of_ble_eq_true rfl⟩) (wx_pv C hP hD hS (q := 0) (ci := 8) (Nat.le_of_ble_eq_true rfl) (eC_0 _) rfl) rfl rfl hl.1 rfl (lv_room (Nat.le_of_ble_eq_true rfl)) dX8_nearest_32 ⟨Nat.zero_le _, Nat.zero_le _⟩) (fun r32 σ32 H locs h hP hD hS => ?_)
          exact Rt _ _ _ _ _ _ h hP hD hS dX8_nearest_35
      · have h := h.2 c6
        refine lv_aload_n hx hb dX8_nearest_9 rfl (lv_at hl 0 rfl) ?_
        refine lv_bipush (v := (-2)) hx hb dX8_nearest_10 (by decide) ?_
        refine wx_ci C hD hS (va_runV (As := [.int (-2)]) (rest := []) C.1 (mtX8_refuseBad (l := l) (D := D) (sz := H.size) h) (cwV 1 hts gX8_nearest_X8_refuseBad rfl rfl rfl nyX8_refuseBad ⟨Nat.le_of_ble_eq_true rfl, Nat.le_of_ble_eq_true rfl⟩) (wx_pv C hP hD hS (q := 0) (ci := 8) (Nat.le_of_ble_eq_true rfl) (eC_0 _) rfl) rfl rfl hl.1 rfl (lv_room (Nat.le_of_ble_eq_true rfl)) dX8_nearest_12 ⟨Nat.zero_le _, Nat.zero_le _⟩) (fun r12_1 σ12_1 H locs h hP hD hS => ?_)
        exact Rt _ _ _ _ _ _ h hP hD hS dX8_nearest_15
  rw [eH, eL] at goal
  exact goal
abbrev rmX8_near : Room := { frames := 5, cells := 0, slots := 0, locals := 132 }
set_option maxRecDepth 20000 in
theorem inX8_near_X5 : ∀ w ∈ u_ws RX5 TX5 3, w ∈ wsX8_near := by decide +kernel
set_option maxRecDepth 20000 in
theorem inX8_near_X7 : ∀ w ∈ u_ws RX7 TX7 6, w ∈ wsX8_near := by decide +kernel
set_option maxRecDepth 20000 in
theorem inX8_near_X8 : ∀ w ∈ u_ws RX8 TX8 11, w ∈ wsX8_near := by decide +kernel
set_option maxRecDepth 100000 in
set_option maxHeartbeats 4000000 in
theorem mtX8_near {l : Launch} {D : va_G} {cI cB cS cR : ClassId} {ad : Nat → Nat} {tS tP : Nat} {kS vS : Nat → Nat} {sz : Nat} {σ : wx_Z} {K : Int32 → wx_Z → Prop} (h : wpX8_near σ K) : Met l yX8_near wsX8_near rmX8_near (wx_Pre D [(cI, .int), (cB, .byte), (cS, .object RX5), (cR, .array .int)] (wC_RO tS tP kS vS) 58 (wC_E cI cB cS cR ad) ad σ sz [.ref (ad 0)]) (va_Qi K (wx_B D [(cI, .int), (cB, .byte), (cS, .object RX5), (cR, .array .int)] 58 (wC_E cI cB cS cR ad) ad (va_A (wx_w 58 (wC_E cI cB cS cR ad) ad σ) sz)) (va_A (wx_w 58 (wC_E cI cB cS cR ad) ad σ) sz)) 0 0 (va_A (wx_w 58 (wC_E cI cB cS cR ad) ad σ) sz) := by
  unfold wpX8_near at h
  refine wx_meti (cc := cX8_near) (maxL := 1) (own := RX8) rfl (by decide) rfl (Nat.le_of_ble_eq_true rfl) (wC_ROok tS tP kS vS) ?_
  intro p e s m args below meth c A Q ls C Rt hP hD hS hl
  obtain ⟨⟨hx, hb, hml, hown, hts⟩, hA, hK, hRO, hro⟩ := id C
  have hl : lv_has ls 1 [(0, .ref (ad 0))] := hl
  obtain ⟨H, eH⟩ : ∃ z, z = s.heap := ⟨_, rfl⟩
  obtain ⟨locs, eL⟩ : ∃ z : List Loc, z = [] := ⟨_, rfl⟩
  rw [← eH] at hP
  have hS : va_S A s.heap H locs := by rw [eH, eL]; exact hS
  have goal : W p l e rmX8_near s m args below meth c H locs 0 0 Q (F0 m 0 ls []) := by
    refine lv_aload_n hx hb dX8_near_0 rfl (lv_at hl 0 rfl) ?_
    refine wx_get C hP (q := 0) (ci := 8) (Nat.le_of_ble_eq_true rfl) (eC_0 _) (Cn := RX8) (T := TX8) (Nf := 11) rfl inX8_near_X8 0 (by decide) (List.mem_of_getElem? (i := 1) rfl) (v := .ref (ad (cSt 0))) rfl dX8_near_1 ?_
    refine wx_get C hP (q := (cSt 0)) (ci := 5) (lt_st (Nat.le_of_ble_eq_true rfl)) (eC_st (Nat.le_of_ble_eq_true rfl) _) (Cn := RX5) (T := TX5) (Nf := 3) rfl inX8_near_X5 0 (by decide) (List.mem_of_getElem? (i := 2) rfl) (v := .ref (ad (cCo 0))) rfl dX8_near_4 ?_
    refine wx_ci C hD hS (va_runV (As := []) (rest := []) C.1 (mtX1_canBeWalked (l := l) (D := D) (sz := H.size) (Nat.le_of_ble_eq_true rfl) h) (cwV 0 hts gX8_near_X1_canBeWalked rfl rfl rfl nyX1_canBeWalked ⟨Nat.le_of_ble_eq_true rfl, Nat.le_of_ble_eq_true rfl⟩) (wx_pv C hP hD hS (q := (cCo 0)) (ci := 1) (lt_co (Nat.le_of_ble_eq_true rfl)) (eC_co (Nat.le_of_ble_eq_true rfl) _) rfl) rfl rfl hl.1 rfl (lv_room (Nat.le_of_ble_eq_true rfl)) dX8_near_7 ⟨Nat.zero_le _, Nat.zero_le _⟩) (fun r7 σ7 H locs h hP hD hS => ?_)
    refine lv_if_ne (tgt := 19) hx hb dX8_near_10 (by decide) (fun c10 => ?_) (fun c10 => ?_)
    · have h := h.1 c10
      refine lv_aload_n hx hb dX8_near_19 rfl (lv_at hl 0 rfl) ?_
      refine wx_get C hP (q := 0) (ci := 8) (Nat.le_of_ble_eq_true rfl) (eC_0 _) (Cn := RX8) (T := TX8) (Nf := 11) rfl inX8_near_X8 7 (by decide) (List.mem_of_getElem? (i := 3) rfl) (v := .ref (ad 56)) rfl dX8_near_20 ?_
      refine lv_aload_n hx hb dX8_near_23 rfl (lv_at hl 0 rfl) ?_
      refine wx_get C hP (q := 0) (ci := 8) (Nat.le_of_ble_eq_true rfl) (eC_0 _) (Cn := RX8) (T := TX8) (Nf := 11) rfl inX8_near_X8 0 (by decide) (List.mem_of_getElem? (i := 1) rfl) (v := .ref (ad (cSt 0))) rfl dX8_near_24 ?_
      refine wx_get C hP (q := (cSt 0)) (ci := 5) (lt_st (Nat.le_of_ble_eq_true rfl)) (eC_st (Nat.le_of_ble_eq_true rfl) _) (Cn := RX5) (T := TX5) (Nf := 3) rfl inX8_near_X5 0 (by decide) (List.mem_of_getElem? (i := 2) rfl) (v := .ref (ad (cCo 0))) rfl dX8_near_27 ?_
      refine lv_aload_n hx hb dX8_near_30 rfl (lv_at hl 0 rfl) ?_
      refine wx_get C hP (q := 0) (ci := 8) (Nat.le_of_ble_eq_true rfl) (eC_0 _) (Cn := RX8) (T := TX8) (Nf := 11) rfl inX8_near_X8 0 (by decide) (List.mem_of_getElem? (i := 1) rfl) (v := .ref (ad (cSt 0))) rfl dX8_near_31 ?_
      refine wx_get C hP (q := (cSt 0)) (ci := 5) (lt_st (Nat.le_of_ble_eq_true rfl)) (eC_st (Nat.le_of_ble_eq_true rfl) _) (Cn := RX5) (T := TX5) (Nf := 3) rfl inX8_near_X5 2 (by decide) (List.mem_of_getElem? (i := 4) rfl) (v := .int (σ7 (cSt 0) 2)) rfl dX8_near_34 ?_
      refine wx_cv C hD hS (va_runV (As := [.ref (ad (cCo 0)), .int (σ7 (cSt 0) 2)]) (rest := []) C.1 (mtX7_seek (l := l) (D := D) (sz := H.size) (Nat.le_of_ble_eq_true rfl) h) (cwV 2 hts gX8_near_X7_seek rfl rfl rfl nyX7_seek ⟨Nat.le_of_ble_eq_true rfl, Nat.le_of_ble_eq_true rfl⟩) (wx_pv C hP hD hS (q := 56) (ci := 7) (Nat.le_of_ble_eq_true rfl) (eC_56 _) rfl) rfl rfl hl.1 rfl (lv_room (Nat.le_of_ble_eq_true rfl)) dX8_near_37 ⟨Nat.zero_le _, Nat.zero_le _⟩) (fun σ37 H locs h hP hD hS => ?_)
      refine lv_aload_n hx hb dX8_near_40 rfl (lv_at hl 0 rfl) ?_
      refine wx_get C hP (q := 0) (ci := 8) (Nat.le_of_ble_eq_true rfl) (eC_0 _) (Cn := RX8) (T := TX8) (Nf := 11) rfl inX8_near_X8 7 (by decide) (List.mem_of_getElem? (i := 3) rfl) (v := .ref (ad 56)) rfl dX8_near_41 ?_
      refine wx_get C hP (q := 56) (ci := 7) (Nat.le_of_ble_eq_true rfl) (eC_56 _) (Cn := RX7) (T := TX7) (Nf := 6) rfl inX8_near_X7 5 (by decide) (List.mem_of_getElem? (i := 5) rfl) (v := .int (σ37 56 5)) rfl dX8_near_44 ?_
      exact Rt _ _ _ _ _ _ h hP hD hS dX8_near_47
    · have h := h.2 c10
      refine lv_aload_n hx hb dX8_near_13 rfl (lv_at hl 0 rfl) ?_
      refine lv_iconst (v := 0) hx hb dX8_near_14 (by decide) ?_
      refine wx_ci C hD hS (va_runV (As := [.int 0]) (rest := []) C.1 (mtX8_refuseNo (l := l) (D := D) (sz := H.size) h) (cwV 1 hts gX8_near_X8_refuseNo rfl rfl rfl nyX8_refuseNo ⟨Nat.le_of_ble_eq_true rfl, Nat.le_of_ble_eq_true rfl⟩) (wx_pv C hP hD hS (q := 0) (ci := 8) (Nat.le_of_ble_eq_true rfl) (eC_0 _) rfl) rfl rfl hl.1 rfl (lv_room (Nat.le_of_ble_eq_true rfl)) dX8_near_15 ⟨Nat.zero_le _, Nat.zero_le _⟩) (fun r15 σ15 H locs h hP hD hS => ?_)
      exact Rt _ _ _ _ _ _ h hP hD hS dX8_near_18
  rw [eH, eL] at goal
  exact goal
abbrev rmX8_soft : Room := { frames := 5, cells := 0, slots := 0, locals := 128 }
set_option maxRecDepth 20000 in
theorem inX8_soft_X5 : ∀ w ∈ u_ws RX5 TX5 3, w ∈ wsX8_soft := by decide +kernel
set_option maxRecDepth 20000 in
theorem inX8_soft_X8 : ∀ w ∈ u_ws RX8 TX8 11, w ∈ wsX8_soft := by decide +kernel
set_option maxRecDepth 100000 in
set_option maxHeartbeats 4000000 in
theorem mtX8_soft {l : Launch} {D : va_G} {cI cB cS cR : ClassId} {ad : Nat → Nat} {tS tP : Nat} {kS vS : Nat → Nat} {sz : Nat} {σ : wx_Z} {x1 : Int32} {x2 : Int32} {K : Int32 → wx_Z → Prop} (h : wpX8_soft σ x1 x2 K) : Met l yX8_soft wsX8_soft rmX8_soft (wx_Pre D [(cI, .int), (cB, .byte), (cS, .object RX5), (cR, .array .int)] (wC_RO tS tP kS vS) 58 (wC_E cI cB cS cR ad) ad σ sz [.ref (ad 0), .int x1, .int x2]) (va_Qi K (wx_B D [(cI, .int), (cB, .byte), (cS, .object RX5), (cR, .array .int)] 58 (wC_E cI cB cS cR ad) ad (va_A (wx_w 58 (wC_E cI cB cS cR ad) ad σ) sz)) (va_A (wx_w 58 (wC_E cI cB cS cR ad) ad σ) sz)) 0 0 (va_A (wx_w 58 (wC_E cI cB cS cR ad) ad σ) sz) := by
  unfold wpX8_soft at h
  refine wx_meti (cc := cX8_soft) (maxL := 4) (own := RX8) rfl (by decide) rfl (Nat.le_of_ble_eq_true rfl) (wC_ROok tS tP kS vS) ?_
  intro p e s m args below meth c A Q ls C Rt hP hD hS hl
  obtain ⟨⟨hx, hb, hml, hown, hts⟩, hA, hK, hRO, hro⟩ := id C
  have hl : lv_has ls 4 [(0, .ref (ad 0)), (1, .int x1), (2, .int x2)] := hl
  obtain ⟨H, eH⟩ : ∃ z, z = s.heap := ⟨_, rfl⟩
  obtain ⟨locs, eL⟩ : ∃ z : List Loc, z = [] := ⟨_, rfl⟩
  rw [← eH] at hP
  have hS : va_S A s.heap H locs := by rw [eH, eL]; exact hS
  have goal : W p l e rmX8_soft s m args below meth c H locs 0 0 Q (F0 m 0 ls []) := by
    refine lv_aload_n hx hb dX8_soft_0 rfl (lv_at hl 0 rfl) ?_
    refine wx_get C hP (q := 0) (ci := 8) (Nat.le_of_ble_eq_true rfl) (eC_0 _) (Cn := RX8) (T := TX8) (Nf := 11) rfl inX8_soft_X8 0 (by decide) (List.mem_of_getElem? (i := 1) rfl) (v := .ref (ad (cSt 0))) rfl dX8_soft_1 ?_
    refine wx_get C hP (q := (cSt 0)) (ci := 5) (lt_st (Nat.le_of_ble_eq_true rfl)) (eC_st (Nat.le_of_ble_eq_true rfl) _) (Cn := RX5) (T := TX5) (Nf := 3) rfl inX8_soft_X5 0 (by decide) (List.mem_of_getElem? (i := 2) rfl) (v := .ref (ad (cCo 0))) rfl dX8_soft_4 ?_
    refine lv_iload_n hx hb dX8_soft_7 rfl (lv_at hl 1 rfl) ?_
    refine wx_ci C hD hS (va_runV (As := [.int x1]) (rest := []) C.1 (mtX1_hasPlace (l := l) (D := D) (sz := H.size) (Nat.le_of_ble_eq_true rfl) h) (cwV 1 hts gX8_soft_X1_hasPlace rfl rfl rfl nyX1_hasPlace ⟨Nat.le_of_ble_eq_true rfl, Nat.le_of_ble_eq_true rfl⟩) (wx_pv C hP hD hS (q := (cCo 0)) (ci := 1) (lt_co (Nat.le_of_ble_eq_true rfl)) (eC_co (Nat.le_of_ble_eq_true rfl) _) rfl) rfl rfl hl.1 rfl (lv_room (Nat.le_of_ble_eq_true rfl)) dX8_soft_8 ⟨Nat.zero_le _, Nat.zero_le _⟩) (fun r8 σ8 H locs h hP hD hS => ?_)
    refine lv_if_eq (tgt := 26) hx hb dX8_soft_11 (by decide) (fun c11 => ?_) (fun c11 => ?_)
    · have h := h.1 c11
      refine lv_aload_n hx hb dX8_soft_26 rfl (lv_at hl 0 rfl) ?_
      refine lv_sipush (v := (-1000)) hx hb dX8_soft_27 (by decide) ?_
      refine wx_ci C hD hS (va_runV (As := [.int (-1000)]) (rest := []) C.1 (mtX8_refuseBad (l := l) (D := D) (sz := H.size) h) (cwV 1 hts gX8_soft_X8_refuseBad rfl rfl rfl nyX8_refuseBad ⟨Nat.le_of_ble_eq_true rfl, Nat.le_of_ble_eq_true rfl⟩) (wx_pv C hP hD hS (q := 0) (ci := 8) (Nat.le_of_ble_eq_true rfl) (eC_0 _) rfl) rfl rfl hl.1 rfl (lv_room (Nat.le_of_ble_eq_true rfl)) dX8_soft_30 ⟨Nat.zero_le _, Nat.zero_le _⟩) (fun r30 σ30 H locs h hP hD hS => ?_)
      exact Rt _ _ _ _ _ _ h hP hD hS dX8_soft_33
    · have h := h.2 c11
      refine lv_iload_n hx hb dX8_soft_14 rfl (lv_at hl 2 rfl) ?_
      refine lv_bipush (v := (-99)) hx hb dX8_soft_15 (by decide) ?_
      refine lv_icmp_lt (tgt := 26) hx hb dX8_soft_17 (by decide) (fun c17 => ?_) (fun c17 => ?_)
      · have h := h.1 c17
        refine lv_aload_n hx hb dX8_soft_26 rfl (lv_at hl 0 rfl) ?_
        refine lv_sipush (v := (-1000)) hx hb dX8_soft_27 (by decide) ?_
        refine wx_ci C hD hS (va_runV (As := [.int (-1000)]) (rest := []) C.1 (mtX8_refuseBad (l := l) (D := D) (sz := H.size) h) (cwV 1 hts gX8_soft_X8_refuseBad rfl rfl rfl nyX8_refuseBad ⟨Nat.le_of_ble_eq_true rfl, Nat.le_of_ble_eq_true rfl⟩) (wx_pv C hP hD hS (q := 0) (ci := 8) (Nat.le_of_ble_eq_true rfl) (eC_0 _) rfl) rfl rfl hl.1 rfl (lv_room (Nat.le_of_ble_eq_true rfl)) dX8_soft_30 ⟨Nat.zero_le _, Nat.zero_le _⟩) (fun r30_1 σ30_1 H locs h hP hD hS => ?_)
        exact Rt _ _ _ _ _ _ h hP hD hS dX8_soft_33
      · have h := h.2 c17
        refine lv_iload_n hx hb dX8_soft_20 rfl (lv_at hl 2 rfl) ?_
        refine lv_bipush (v := 99) hx hb dX8_soft_21 (by decide) ?_
        refine lv_icmp_le (tgt := 34) hx hb dX8_soft_23 (by decide) (fun c23 => ?_) (fun c23 => ?_)
        · have h := h.1 c23
          refine lv_aload_n hx hb dX8_soft_34 rfl (lv_at hl 0 rfl) ?_
          refine wx_get C hP (q := 0) (ci := 8) (Nat.le_of_ble_eq_true rfl) (eC_0 _) (Cn := RX8) (T := TX8) (Nf := 11) rfl inX8_soft_X8 2 (by decide) (List.mem_of_getElem? (i := 3) rfl) (v := .ref (ad 41)) rfl dX8_soft_35 ?_
          refine lv_aload_n hx hb dX8_soft_38 rfl (lv_at hl 0 rfl) ?_
          refine wx_get C hP (q := 0) (ci := 8) (Nat.le_of_ble_eq_true rfl) (eC_0 _) (Cn := RX8) (T := TX8) (Nf := 11) rfl inX8_soft_X8 0 (by decide) (List.mem_of_getElem? (i := 1) rfl) (v := .ref (ad (cSt 0))) rfl dX8_soft_39 ?_
          refine wx_cv C hD hS (va_runV (As := [.ref (ad (cSt 0))]) (rest := []) C.1 (mtX4_keep (l := l) (D := D) (sz := H.size) (Nat.le_of_ble_eq_true rfl) h) (cwV 1 hts gX8_soft_X4_keep rfl rfl rfl nyX4_keep ⟨Nat.le_of_ble_eq_true rfl, Nat.le_of_ble_eq_true rfl⟩) (wx_pv C hP hD hS (q := 41) (ci := 4) (Nat.le_of_ble_eq_true rfl) (eC_41 _) rfl) rfl rfl hl.1 rfl (lv_room (Nat.le_of_ble_eq_true rfl)) dX8_soft_42 ⟨Nat.zero_le _, Nat.zero_le _⟩) (fun σ42 H locs h hP hD hS => ?_)
          refine lv_aload_n hx hb dX8_soft_45 rfl (lv_at hl 0 rfl) ?_
          refine wx_get C hP (q := 0) (ci := 8) (Nat.le_of_ble_eq_true rfl) (eC_0 _) (Cn := RX8) (T := TX8) (Nf := 11) rfl inX8_soft_X8 0 (by decide) (List.mem_of_getElem? (i := 1) rfl) (v := .ref (ad (cSt 0))) rfl dX8_soft_46 ?_
          refine wx_get C hP (q := (cSt 0)) (ci := 5) (lt_st (Nat.le_of_ble_eq_true rfl)) (eC_st (Nat.le_of_ble_eq_true rfl) _) (Cn := RX5) (T := TX5) (Nf := 3) rfl inX8_soft_X5 1 (by decide) (List.mem_of_getElem? (i := 4) rfl) (v := .ref (ad (cSo 0))) rfl dX8_soft_49 ?_
          refine lv_iload_n hx hb dX8_soft_52 rfl (lv_at hl 1 rfl) ?_
          refine wx_ild C hP (q := (cSo 0)) (lt_so (Nat.le_of_ble_eq_true rfl)) (eC_so (Nat.le_of_ble_eq_true rfl)) 0 rfl h.1 dX8_soft_53 ?_
          have h := h.2
          refine lv_istore_n (lv' := [(3, .int (σ42 (cSo 0) (Int32.toNatClampNeg x1))), (0, .ref (ad 0)), (1, .int x1), (2, .int x2)]) hx hb dX8_soft_54 rfl hl (by decide) rfl (fun ls hl => ?_)
          refine lv_aload_n hx hb dX8_soft_55 rfl (lv_at hl 1 rfl) ?_
          refine wx_get C hP (q := 0) (ci := 8) (Nat.le_of_ble_eq_true rfl) (eC_0 _) (Cn := RX8) (T := TX8) (Nf := 11) rfl inX8_soft_X8 0 (by decide) (List.mem_of_getElem? (i := 1) rfl) (v := .ref (ad (cSt 0))) rfl dX8_soft_56 ?_
          refine wx_get C hP (q := (cSt 0)) (ci := 5) (lt_st (Nat.le_of_ble_eq_true rfl)) (eC_st (Nat.le_of_ble_eq_true rfl) _) (Cn := RX5) (T := TX5) (Nf := 3) rfl inX8_soft_X5 1 (by decide) (List.mem_of_getElem? (i := 4) rfl) (v := .ref (ad (cSo 0))) rfl dX8_soft_59 ?_
          refine lv_iload_n hx hb dX8_soft_62 rfl (lv_at hl 2 rfl) ?_
          refine lv_iload_n hx hb dX8_soft_63 rfl (lv_at hl 3 rfl) ?_
          refine wx_ist C hP hD hS (q := (cSo 0)) (lt_so (Nat.le_of_ble_eq_true rfl)) (eC_so (Nat.le_of_ble_eq_true rfl)) 0 rfl h.1 dX8_soft_64 (fun H locs hP hD hS => ?_)
          generalize e_σ64 : wx_up σ42 (cSo 0) (Int32.toNatClampNeg x1) x2 = σ64 at hP hD
          have h := h.2 σ64 e_σ64.symm
          refine lv_iload_n hx hb dX8_soft_65 rfl (lv_at hl 0 rfl) ?_
          exact Rt _ _ _ _ _ _ h hP hD hS dX8_soft_66
        · have h := h.2 c23
          refine lv_aload_n hx hb dX8_soft_26 rfl (lv_at hl 0 rfl) ?_
          refine lv_sipush (v := (-1000)) hx hb dX8_soft_27 (by decide) ?_
          refine wx_ci C hD hS (va_runV (As := [.int (-1000)]) (rest := []) C.1 (mtX8_refuseBad (l := l) (D := D) (sz := H.size) h) (cwV 1 hts gX8_soft_X8_refuseBad rfl rfl rfl nyX8_refuseBad ⟨Nat.le_of_ble_eq_true rfl, Nat.le_of_ble_eq_true rfl⟩) (wx_pv C hP hD hS (q := 0) (ci := 8) (Nat.le_of_ble_eq_true rfl) (eC_0 _) rfl) rfl rfl hl.1 rfl (lv_room (Nat.le_of_ble_eq_true rfl)) dX8_soft_30 ⟨Nat.zero_le _, Nat.zero_le _⟩) (fun r30_2 σ30_2 H locs h hP hD hS => ?_)
          exact Rt _ _ _ _ _ _ h hP hD hS dX8_soft_33
  rw [eH, eL] at goal
  exact goal
abbrev rmX8_harden : Room := { frames := 5, cells := 0, slots := 0, locals := 128 }
set_option maxRecDepth 20000 in
theorem inX8_harden_X1 : ∀ w ∈ u_ws RX1 TX1 5, w ∈ wsX8_harden := by decide +kernel
set_option maxRecDepth 20000 in
theorem inX8_harden_X5 : ∀ w ∈ u_ws RX5 TX5 3, w ∈ wsX8_harden := by decide +kernel
set_option maxRecDepth 20000 in
theorem inX8_harden_X8 : ∀ w ∈ u_ws RX8 TX8 11, w ∈ wsX8_harden := by decide +kernel
set_option maxRecDepth 100000 in
set_option maxHeartbeats 4000000 in
theorem bX8_harden_31 {p : Program} {l : Launch} {e : Env} {s : State} {m : MethodId} {args : Array Value} {below : List Frame} {meth : Method} {c : Code} {A : Nat → Prop} {Q : State → Prop} {D : va_G} {cI cB cS cR : ClassId} {ad : Nat → Nat} {tS tP : Nat} {kS vS : Nat → Nat} {K : Int32 → wx_Z → Prop} (C : wx_C p s m args c cX8_harden 3 RX8 wsX8_harden D [(cI, .int), (cB, .byte), (cS, .object RX5), (cR, .array .int)] (wC_RO tS tP kS vS) A) (Rt : wx_Ri p l e rmX8_harden s m args below meth c cX8_harden D 58 (wC_E cI cB cS cR ad) ad A K Q) : ∀ (n : Nat) (σ : wx_Z) (x1 : Int32) (x2 : Int32), wpX8_harden_31 K n σ x1 x2 → ∀ (H : Heap) (locs : List Loc) (ls : Array Slot), va_P D vwCl (wx_w 58 (wC_E cI cB cS cR ad) ad σ) H → va_D A (wx_w 58 (wC_E cI cB cS cR ad) ad σ) → va_S A s.heap H locs → lv_has ls 3 [(0, .ref (ad 0)), (1, .int x1), (2, .int x2)] → W p l e rmX8_harden s m args below meth c H locs 0 0 Q (F0 m 31 ls []) := by
  obtain ⟨⟨hx, hb, hml, hown, hts⟩, hA, hK, hRO, hro⟩ := id C
  intro n
  induction n with
  | zero => intro σ x1 x2 h; exact h.elim
  | succ n ih =>
    intro σ x1 x2 h H locs ls hP hD hS hl
    unfold wpX8_harden_31 at h
    refine lv_iload_n hx hb dX8_harden_31 rfl (lv_at hl 2 rfl) ?_
    refine lv_aload_n hx hb dX8_harden_32 rfl (lv_at hl 0 rfl) ?_
    refine wx_get C hP (q := 0) (ci := 8) (Nat.le_of_ble_eq_true rfl) (eC_0 _) (Cn := RX8) (T := TX8) (Nf := 11) rfl inX8_harden_X8 0 (by decide) (List.mem_of_getElem? (i := 2) rfl) (v := .ref (ad (cSt 0))) rfl dX8_harden_33 ?_
    refine wx_get C hP (q := (cSt 0)) (ci := 5) (lt_st (Nat.le_of_ble_eq_true rfl)) (eC_st (Nat.le_of_ble_eq_true rfl) _) (Cn := RX5) (T := TX5) (Nf := 3) rfl inX8_harden_X5 0 (by decide) (List.mem_of_getElem? (i := 3) rfl) (v := .ref (ad (cCo 0))) rfl dX8_harden_36 ?_
    refine wx_get C hP (q := (cCo 0)) (ci := 1) (lt_co (Nat.le_of_ble_eq_true rfl)) (eC_co (Nat.le_of_ble_eq_true rfl) _) (Cn := RX1) (T := TX1) (Nf := 5) rfl inX8_harden_X1 2 (by decide) (List.mem_of_getElem? (i := 4) rfl) (v := .int (σ (cCo 0) 2)) rfl dX8_harden_39 ?_
    refine lv_icmp_ge (tgt := 77) hx hb dX8_harden_42 (by decide) (fun c42 => ?_) (fun c42 => ?_)
    · have h := h.1 c42
      refine lv_iload_n hx hb dX8_harden_77 rfl (lv_at hl 1 rfl) ?_
      exact Rt _ _ _ _ _ _ h hP hD hS dX8_harden_78
    · have h := h.2 c42
      refine lv_aload_n hx hb dX8_harden_45 rfl (lv_at hl 0 rfl) ?_
      refine wx_get C hP (q := 0) (ci := 8) (Nat.le_of_ble_eq_true rfl) (eC_0 _) (Cn := RX8) (T := TX8) (Nf := 11) rfl inX8_harden_X8 0 (by decide) (List.mem_of_getElem? (i := 2) rfl) (v := .ref (ad (cSt 0))) rfl dX8_harden_46 ?_
      refine wx_get C hP (q := (cSt 0)) (ci := 5) (lt_st (Nat.le_of_ble_eq_true rfl)) (eC_st (Nat.le_of_ble_eq_true rfl) _) (Cn := RX5) (T := TX5) (Nf := 3) rfl inX8_harden_X5 1 (by decide) (List.mem_of_getElem? (i := 5) rfl) (v := .ref (ad (cSo 0))) rfl dX8_harden_49 ?_
      refine lv_iload_n hx hb dX8_harden_52 rfl (lv_at hl 2 rfl) ?_
      refine lv_aload_n hx hb dX8_harden_53 rfl (lv_at hl 0 rfl) ?_
      refine wx_get C hP (q := 0) (ci := 8) (Nat.le_of_ble_eq_true rfl) (eC_0 _) (Cn := RX8) (T := TX8) (Nf := 11) rfl inX8_harden_X8 0 (by decide) (List.mem_of_getElem? (i := 2) rfl) (v := .ref (ad (cSt 0))) rfl dX8_harden_54 ?_
      refine lv_iload_n hx hb dX8_harden_57 rfl (lv_at hl 2 rfl) ?_
      refine wx_ci C hD hS (va_runV (As := [.int x2]) (rest := [.int x2, .ref (ad (cSo 0))]) C.1 (mtX5_bit (l := l) (D := D) (sz := H.size) (Nat.le_of_ble_eq_true rfl) h) (cwV 1 hts gX8_harden_X5_bit rfl rfl rfl nyX5_bit ⟨Nat.le_of_ble_eq_true rfl, Nat.le_of_ble_eq_true rfl⟩) (wx_pv C hP hD hS (q := (cSt 0)) (ci := 5) (lt_st (Nat.le_of_ble_eq_true rfl)) (eC_st (Nat.le_of_ble_eq_true rfl) _) rfl) rfl rfl hl.1 rfl (lv_room (Nat.le_of_ble_eq_true rfl)) dX8_harden_58 ⟨Nat.zero_le _, Nat.zero_le _⟩) (fun r58 σ58 H locs h hP hD hS => ?_)
      refine lv_if_ne (tgt := 68) hx hb dX8_harden_61 (by decide) (fun c61 => ?_) (fun c61 => ?_)
      · have h := h.1 c61
        refine lv_iload_n hx hb dX8_harden_68 rfl (lv_at hl 1 rfl) ?_
        refine lv_ineg hx hb dX8_harden_69 ?_
        refine wx_ist C hP hD hS (q := (cSo 0)) (lt_so (Nat.le_of_ble_eq_true rfl)) (eC_so (Nat.le_of_ble_eq_true rfl)) 0 rfl h.1 dX8_harden_70 (fun H locs hP hD hS => ?_)
        generalize e_σ70 : wx_up σ58 (cSo 0) (Int32.toNatClampNeg x2) (-x1) = σ70 at hP hD
        have h := h.2 σ70 e_σ70.symm
        obtain ⟨t71, e_t71⟩ : ∃ y : Int32, y = x2 + 1 := ⟨_, rfl⟩
        have h := h t71 e_t71
        refine lv_iinc (v := t71) (lv' := [(2, .int t71), (0, .ref (ad 0)), (1, .int x1)]) hx hb dX8_harden_71 hl (k := 2) rfl (by rw [e_t71]; rfl) (by decide) rfl (fun ls hl => ?_)
        refine lv_goto (tgt := 31) hx hb dX8_harden_74 (by decide) ?_
        exact ih σ70 x1 t71  h _ _ _ hP hD hS (lv_sub hl [1, 2, 0] rfl)
      · have h := h.2 c61
        refine lv_iload_n hx hb dX8_harden_64 rfl (lv_at hl 1 rfl) ?_
        refine lv_goto (tgt := 70) hx hb dX8_harden_65 (by decide) ?_
        refine wx_ist C hP hD hS (q := (cSo 0)) (lt_so (Nat.le_of_ble_eq_true rfl)) (eC_so (Nat.le_of_ble_eq_true rfl)) 0 rfl h.1 dX8_harden_70 (fun H locs hP hD hS => ?_)
        generalize e_σ70_1 : wx_up σ58 (cSo 0) (Int32.toNatClampNeg x2) x1 = σ70_1 at hP hD
        have h := h.2 σ70_1 e_σ70_1.symm
        obtain ⟨t71_1, e_t71_1⟩ : ∃ y : Int32, y = x2 + 1 := ⟨_, rfl⟩
        have h := h t71_1 e_t71_1
        refine lv_iinc (v := t71_1) (lv' := [(2, .int t71_1), (0, .ref (ad 0)), (1, .int x1)]) hx hb dX8_harden_71 hl (k := 2) rfl (by rw [e_t71_1]; rfl) (by decide) rfl (fun ls hl => ?_)
        refine lv_goto (tgt := 31) hx hb dX8_harden_74 (by decide) ?_
        exact ih σ70_1 x1 t71_1  h _ _ _ hP hD hS (lv_sub hl [1, 2, 0] rfl)
set_option maxRecDepth 100000 in
set_option maxHeartbeats 4000000 in
theorem mtX8_harden {l : Launch} {D : va_G} {cI cB cS cR : ClassId} {ad : Nat → Nat} {tS tP : Nat} {kS vS : Nat → Nat} {sz : Nat} {σ : wx_Z} {x1 : Int32} {K : Int32 → wx_Z → Prop} (h : wpX8_harden σ x1 K) : Met l yX8_harden wsX8_harden rmX8_harden (wx_Pre D [(cI, .int), (cB, .byte), (cS, .object RX5), (cR, .array .int)] (wC_RO tS tP kS vS) 58 (wC_E cI cB cS cR ad) ad σ sz [.ref (ad 0), .int x1]) (va_Qi K (wx_B D [(cI, .int), (cB, .byte), (cS, .object RX5), (cR, .array .int)] 58 (wC_E cI cB cS cR ad) ad (va_A (wx_w 58 (wC_E cI cB cS cR ad) ad σ) sz)) (va_A (wx_w 58 (wC_E cI cB cS cR ad) ad σ) sz)) 0 0 (va_A (wx_w 58 (wC_E cI cB cS cR ad) ad σ) sz) := by
  unfold wpX8_harden at h
  refine wx_meti (cc := cX8_harden) (maxL := 3) (own := RX8) rfl (by decide) rfl (Nat.le_of_ble_eq_true rfl) (wC_ROok tS tP kS vS) ?_
  intro p e s m args below meth c A Q ls C Rt hP hD hS hl
  obtain ⟨⟨hx, hb, hml, hown, hts⟩, hA, hK, hRO, hro⟩ := id C
  have hl : lv_has ls 3 [(0, .ref (ad 0)), (1, .int x1)] := hl
  obtain ⟨H, eH⟩ : ∃ z, z = s.heap := ⟨_, rfl⟩
  obtain ⟨locs, eL⟩ : ∃ z : List Loc, z = [] := ⟨_, rfl⟩
  rw [← eH] at hP
  have hS : va_S A s.heap H locs := by rw [eH, eL]; exact hS
  have goal : W p l e rmX8_harden s m args below meth c H locs 0 0 Q (F0 m 0 ls []) := by
    refine lv_iload_n hx hb dX8_harden_0 rfl (lv_at hl 1 rfl) ?_
    refine lv_iconst (v := 1) hx hb dX8_harden_1 (by decide) ?_
    refine lv_icmp_lt (tgt := 11) hx hb dX8_harden_2 (by decide) (fun c2 => ?_) (fun c2 => ?_)
    · have h := h.1 c2
      refine lv_aload_n hx hb dX8_harden_11 rfl (lv_at hl 0 rfl) ?_
      refine lv_bipush (v := (-2)) hx hb dX8_harden_12 (by decide) ?_
      refine wx_ci C hD hS (va_runV (As := [.int (-2)]) (rest := []) C.1 (mtX8_refuseBad (l := l) (D := D) (sz := H.size) h) (cwV 1 hts gX8_harden_X8_refuseBad rfl rfl rfl nyX8_refuseBad ⟨Nat.le_of_ble_eq_true rfl, Nat.le_of_ble_eq_true rfl⟩) (wx_pv C hP hD hS (q := 0) (ci := 8) (Nat.le_of_ble_eq_true rfl) (eC_0 _) rfl) rfl rfl hl.1 rfl (lv_room (Nat.le_of_ble_eq_true rfl)) dX8_harden_14 ⟨Nat.zero_le _, Nat.zero_le _⟩) (fun r14 σ14 H locs h hP hD hS => ?_)
      exact Rt _ _ _ _ _ _ h hP hD hS dX8_harden_17
    · have h := h.2 c2
      refine lv_iload_n hx hb dX8_harden_5 rfl (lv_at hl 1 rfl) ?_
      refine lv_bipush (v := 99) hx hb dX8_harden_6 (by decide) ?_
      refine lv_icmp_le (tgt := 18) hx hb dX8_harden_8 (by decide) (fun c8 => ?_) (fun c8 => ?_)
      · have h := h.1 c8
        refine lv_aload_n hx hb dX8_harden_18 rfl (lv_at hl 0 rfl) ?_
        refine wx_get C hP (q := 0) (ci := 8) (Nat.le_of_ble_eq_true rfl) (eC_0 _) (Cn := RX8) (T := TX8) (Nf := 11) rfl inX8_harden_X8 2 (by decide) (List.mem_of_getElem? (i := 1) rfl) (v := .ref (ad 41)) rfl dX8_harden_19 ?_
        refine lv_aload_n hx hb dX8_harden_22 rfl (lv_at hl 0 rfl) ?_
        refine wx_get C hP (q := 0) (ci := 8) (Nat.le_of_ble_eq_true rfl) (eC_0 _) (Cn := RX8) (T := TX8) (Nf := 11) rfl inX8_harden_X8 0 (by decide) (List.mem_of_getElem? (i := 2) rfl) (v := .ref (ad (cSt 0))) rfl dX8_harden_23 ?_
        refine wx_cv C hD hS (va_runV (As := [.ref (ad (cSt 0))]) (rest := []) C.1 (mtX4_keep (l := l) (D := D) (sz := H.size) (Nat.le_of_ble_eq_true rfl) h) (cwV 1 hts gX8_harden_X4_keep rfl rfl rfl nyX4_keep ⟨Nat.le_of_ble_eq_true rfl, Nat.le_of_ble_eq_true rfl⟩) (wx_pv C hP hD hS (q := 41) (ci := 4) (Nat.le_of_ble_eq_true rfl) (eC_41 _) rfl) rfl rfl hl.1 rfl (lv_room (Nat.le_of_ble_eq_true rfl)) dX8_harden_26 ⟨Nat.zero_le _, Nat.zero_le _⟩) (fun σ26 H locs h hP hD hS => ?_)
        refine lv_iconst (v := 0) hx hb dX8_harden_29 (by decide) ?_
        refine lv_istore_n (lv' := [(2, .int 0), (0, .ref (ad 0)), (1, .int x1)]) hx hb dX8_harden_30 rfl hl (by decide) rfl (fun ls hl => ?_)
        obtain ⟨n31, h⟩ := h
        exact bX8_harden_31 C Rt n31 σ26 x1 0  h _ _ _ hP hD hS (lv_sub hl [1, 2, 0] rfl)
      · have h := h.2 c8
        refine lv_aload_n hx hb dX8_harden_11 rfl (lv_at hl 0 rfl) ?_
        refine lv_bipush (v := (-2)) hx hb dX8_harden_12 (by decide) ?_
        refine wx_ci C hD hS (va_runV (As := [.int (-2)]) (rest := []) C.1 (mtX8_refuseBad (l := l) (D := D) (sz := H.size) h) (cwV 1 hts gX8_harden_X8_refuseBad rfl rfl rfl nyX8_refuseBad ⟨Nat.le_of_ble_eq_true rfl, Nat.le_of_ble_eq_true rfl⟩) (wx_pv C hP hD hS (q := 0) (ci := 8) (Nat.le_of_ble_eq_true rfl) (eC_0 _) rfl) rfl rfl hl.1 rfl (lv_room (Nat.le_of_ble_eq_true rfl)) dX8_harden_14 ⟨Nat.zero_le _, Nat.zero_le _⟩) (fun r14_1 σ14_1 H locs h hP hD hS => ?_)
        exact Rt _ _ _ _ _ _ h hP hD hS dX8_harden_17
  rw [eH, eL] at goal
  exact goal
abbrev rmX8_halves : Room := { frames := 11, cells := 0, slots := 0, locals := 274 }
set_option maxRecDepth 20000 in
theorem inX8_halves_X5 : ∀ w ∈ u_ws RX5 TX5 3, w ∈ wsX8_halves := by decide +kernel
set_option maxRecDepth 20000 in
theorem inX8_halves_X8 : ∀ w ∈ u_ws RX8 TX8 11, w ∈ wsX8_halves := by decide +kernel
theorem nyX2_solve : yX2_solve.cls = RX2 ∧ yX2_solve.cls ≠ "java/lang/invoke/MethodHandle" ∧ yX2_solve.cls ≠ "java/lang/invoke/VarHandle" ∧ (parseMethodDescriptor yX2_solve.desc).map (fun d => d.parameters.length) = some 2 := by decide +kernel
set_option maxRecDepth 100000 in
set_option maxHeartbeats 4000000 in
theorem mtX8_halves {l : Launch} {D : va_G} {cI cB cS cR : ClassId} {ad : Nat → Nat} {tS tP : Nat} {kS vS : Nat → Nat} {sz : Nat} {σ : wx_Z} {K : Int32 → wx_Z → Prop} (h : wpX8_halves σ K) : Met l yX8_halves wsX8_halves rmX8_halves (wx_Pre D [(cI, .int), (cB, .byte), (cS, .object RX5), (cR, .array .int)] (wC_RO tS tP kS vS) 58 (wC_E cI cB cS cR ad) ad σ sz [.ref (ad 0)]) (va_Qi K (wx_B D [(cI, .int), (cB, .byte), (cS, .object RX5), (cR, .array .int)] 58 (wC_E cI cB cS cR ad) ad (va_A (wx_w 58 (wC_E cI cB cS cR ad) ad σ) sz)) (va_A (wx_w 58 (wC_E cI cB cS cR ad) ad σ) sz)) 0 0 (va_A (wx_w 58 (wC_E cI cB cS cR ad) ad σ) sz) := by
  unfold wpX8_halves at h
  refine wx_meti (cc := cX8_halves) (maxL := 1) (own := RX8) rfl (by decide) rfl (Nat.le_of_ble_eq_true rfl) (wC_ROok tS tP kS vS) ?_
  intro p e s m args below meth c A Q ls C Rt hP hD hS hl
  obtain ⟨⟨hx, hb, hml, hown, hts⟩, hA, hK, hRO, hro⟩ := id C
  have hl : lv_has ls 1 [(0, .ref (ad 0))] := hl
  obtain ⟨H, eH⟩ : ∃ z, z = s.heap := ⟨_, rfl⟩
  obtain ⟨locs, eL⟩ : ∃ z : List Loc, z = [] := ⟨_, rfl⟩
  rw [← eH] at hP
  have hS : va_S A s.heap H locs := by rw [eH, eL]; exact hS
  have goal : W p l e rmX8_halves s m args below meth c H locs 0 0 Q (F0 m 0 ls []) := by
    refine lv_aload_n hx hb dX8_halves_0 rfl (lv_at hl 0 rfl) ?_
    refine wx_get C hP (q := 0) (ci := 8) (Nat.le_of_ble_eq_true rfl) (eC_0 _) (Cn := RX8) (T := TX8) (Nf := 11) rfl inX8_halves_X8 5 (by decide) (List.mem_of_getElem? (i := 1) rfl) (v := .ref (ad 46)) rfl dX8_halves_1 ?_
    refine lv_aload_n hx hb dX8_halves_4 rfl (lv_at hl 0 rfl) ?_
    refine wx_get C hP (q := 0) (ci := 8) (Nat.le_of_ble_eq_true rfl) (eC_0 _) (Cn := RX8) (T := TX8) (Nf := 11) rfl inX8_halves_X8 0 (by decide) (List.mem_of_getElem? (i := 2) rfl) (v := .ref (ad (cSt 0))) rfl dX8_halves_5 ?_
    refine wx_get C hP (q := (cSt 0)) (ci := 5) (lt_st (Nat.le_of_ble_eq_true rfl)) (eC_st (Nat.le_of_ble_eq_true rfl) _) (Cn := RX5) (T := TX5) (Nf := 3) rfl inX8_halves_X5 0 (by decide) (List.mem_of_getElem? (i := 3) rfl) (v := .ref (ad (cCo 0))) rfl dX8_halves_8 ?_
    refine lv_aload_n hx hb dX8_halves_11 rfl (lv_at hl 0 rfl) ?_
    refine wx_get C hP (q := 0) (ci := 8) (Nat.le_of_ble_eq_true rfl) (eC_0 _) (Cn := RX8) (T := TX8) (Nf := 11) rfl inX8_halves_X8 0 (by decide) (List.mem_of_getElem? (i := 2) rfl) (v := .ref (ad (cSt 0))) rfl dX8_halves_12 ?_
    refine wx_get C hP (q := (cSt 0)) (ci := 5) (lt_st (Nat.le_of_ble_eq_true rfl)) (eC_st (Nat.le_of_ble_eq_true rfl) _) (Cn := RX5) (T := TX5) (Nf := 3) rfl inX8_halves_X5 1 (by decide) (List.mem_of_getElem? (i := 4) rfl) (v := .ref (ad (cSo 0))) rfl dX8_halves_15 ?_
    refine wx_ci C hD hS (va_runV (As := [.ref (ad (cCo 0)), .ref (ad (cSo 0))]) (rest := []) C.1 (mtX2_solve (l := l) (D := D) (sz := H.size) (Nat.le_of_ble_eq_true rfl) h) (cwV 2 hts gX8_halves_X2_solve rfl rfl rfl nyX2_solve ⟨Nat.le_of_ble_eq_true rfl, Nat.le_of_ble_eq_true rfl⟩) (wx_pv C hP hD hS (q := 46) (ci := 2) (Nat.le_of_ble_eq_true rfl) (eC_46 _) rfl) rfl rfl hl.1 rfl (lv_room (Nat.le_of_ble_eq_true rfl)) dX8_halves_18 ⟨Nat.zero_le _, Nat.zero_le _⟩) (fun r18 σ18 H locs h hP hD hS => ?_)
    exact Rt _ _ _ _ _ _ h hP hD hS dX8_halves_21
  rw [eH, eL] at goal
  exact goal
abbrev rmX8_merit : Room := { frames := 12, cells := 0, slots := 0, locals := 294 }
set_option maxRecDepth 20000 in
theorem inX8_merit_X5 : ∀ w ∈ u_ws RX5 TX5 3, w ∈ wsX8_merit := by decide +kernel
set_option maxRecDepth 20000 in
theorem inX8_merit_X8 : ∀ w ∈ u_ws RX8 TX8 11, w ∈ wsX8_merit := by decide +kernel
theorem nyX3_weigh : yX3_weigh.cls = RX3 ∧ yX3_weigh.cls ≠ "java/lang/invoke/MethodHandle" ∧ yX3_weigh.cls ≠ "java/lang/invoke/VarHandle" ∧ (parseMethodDescriptor yX3_weigh.desc).map (fun d => d.parameters.length) = some 1 := by decide +kernel
theorem nyX7_greatest : yX7_greatest.cls = RX7 ∧ yX7_greatest.cls ≠ "java/lang/invoke/MethodHandle" ∧ yX7_greatest.cls ≠ "java/lang/invoke/VarHandle" ∧ (parseMethodDescriptor yX7_greatest.desc).map (fun d => d.parameters.length) = some 2 := by decide +kernel
theorem nyX8_halves : yX8_halves.cls = RX8 ∧ yX8_halves.cls ≠ "java/lang/invoke/MethodHandle" ∧ yX8_halves.cls ≠ "java/lang/invoke/VarHandle" ∧ (parseMethodDescriptor yX8_halves.desc).map (fun d => d.parameters.length) = some 0 := by decide +kernel
set_option maxRecDepth 100000 in
set_option maxHeartbeats 4000000 in
theorem bX8_merit_41 {p : Program} {l : Launch} {e : Env} {s : State} {m : MethodId} {args : Array Value} {below : List Frame} {meth : Method} {c : Code} {A : Nat → Prop} {Q : State → Prop} {D : va_G} {cI cB cS cR : ClassId} {ad : Nat → Nat} {tS tP : Nat} {kS vS : Nat → Nat} {K : Int32 → wx_Z → Prop} (C : wx_C p s m args c cX8_merit 2 RX8 wsX8_merit D [(cI, .int), (cB, .byte), (cS, .object RX5), (cR, .array .int)] (wC_RO tS tP kS vS) A) (Rt : wx_Ri p l e rmX8_merit s m args below meth c cX8_merit D 58 (wC_E cI cB cS cR ad) ad A K Q) : ∀ (σ : wx_Z) (x1 : Int32), wpX8_merit_41 K σ x1 → ∀ (H : Heap) (locs : List Loc) (ls : Array Slot), va_P D vwCl (wx_w 58 (wC_E cI cB cS cR ad) ad σ) H → va_D A (wx_w 58 (wC_E cI cB cS cR ad) ad σ) → va_S A s.heap H locs → lv_has ls 2 [(0, .ref (ad 0)), (1, .int x1)] → W p l e rmX8_merit s m args below meth c H locs 0 0 Q (F0 m 41 ls []) := by
  obtain ⟨⟨hx, hb, hml, hown, hts⟩, hA, hK, hRO, hro⟩ := id C
  intro σ x1 h H locs ls hP hD hS hl
  unfold wpX8_merit_41 at h
  refine lv_aload_n hx hb dX8_merit_41 rfl (lv_at hl 0 rfl) ?_
  refine wx_get C hP (q := 0) (ci := 8) (Nat.le_of_ble_eq_true rfl) (eC_0 _) (Cn := RX8) (T := TX8) (Nf := 11) rfl inX8_merit_X8 6 (by decide) (List.mem_of_getElem? (i := 3) rfl) (v := .ref (ad 54)) rfl dX8_merit_42 ?_
  refine lv_aload_n hx hb dX8_merit_45 rfl (lv_at hl 0 rfl) ?_
  refine wx_get C hP (q := 0) (ci := 8) (Nat.le_of_ble_eq_true rfl) (eC_0 _) (Cn := RX8) (T := TX8) (Nf := 11) rfl inX8_merit_X8 0 (by decide) (List.mem_of_getElem? (i := 1) rfl) (v := .ref (ad (cSt 0))) rfl dX8_merit_46 ?_
  refine wx_get C hP (q := (cSt 0)) (ci := 5) (lt_st (Nat.le_of_ble_eq_true rfl)) (eC_st (Nat.le_of_ble_eq_true rfl) _) (Cn := RX5) (T := TX5) (Nf := 3) rfl inX8_merit_X5 1 (by decide) (List.mem_of_getElem? (i := 4) rfl) (v := .ref (ad (cSo 0))) rfl dX8_merit_49 ?_
  refine wx_cv C hD hS (va_runV (As := [.ref (ad (cSo 0))]) (rest := []) C.1 (mtX3_weigh (l := l) (D := D) (sz := H.size) (Nat.le_of_ble_eq_true rfl) h) (cwV 1 hts gX8_merit_X3_weigh rfl rfl rfl nyX3_weigh ⟨Nat.le_of_ble_eq_true rfl, Nat.le_of_ble_eq_true rfl⟩) (wx_pv C hP hD hS (q := 54) (ci := 3) (Nat.le_of_ble_eq_true rfl) (eC_54 _) rfl) rfl rfl hl.1 rfl (lv_room (Nat.le_of_ble_eq_true rfl)) dX8_merit_52 ⟨Nat.zero_le _, Nat.zero_le _⟩) (fun σ52 H locs h hP hD hS => ?_)
  refine lv_iload_n hx hb dX8_merit_55 rfl (lv_at hl 1 rfl) ?_
  refine lv_iconst (v := 2) hx hb dX8_merit_56 (by decide) ?_
  refine lv_icmp_ne (tgt := 79) hx hb dX8_merit_57 (by decide) (fun c57 => ?_) (fun c57 => ?_)
  · have h := h.1 c57
    refine lv_aload_n hx hb dX8_merit_79 rfl (lv_at hl 0 rfl) ?_
    refine wx_get C hP (q := 0) (ci := 8) (Nat.le_of_ble_eq_true rfl) (eC_0 _) (Cn := RX8) (T := TX8) (Nf := 11) rfl inX8_merit_X8 6 (by decide) (List.mem_of_getElem? (i := 3) rfl) (v := .ref (ad 54)) rfl dX8_merit_80 ?_
    refine lv_iload_n hx hb dX8_merit_83 rfl (lv_at hl 1 rfl) ?_
    refine lv_if_ne (tgt := 97) hx hb dX8_merit_84 (by decide) (fun c84 => ?_) (fun c84 => ?_)
    · have h := h.1 c84
      refine lv_aload_n hx hb dX8_merit_97 rfl (lv_at hl 0 rfl) ?_
      refine wx_ci C hD hS (va_runV (As := []) (rest := [.ref (ad 54)]) C.1 (mtX8_halves (l := l) (D := D) (sz := H.size) h) (cwV 0 hts gX8_merit_X8_halves rfl rfl rfl nyX8_halves ⟨Nat.le_of_ble_eq_true rfl, Nat.le_of_ble_eq_true rfl⟩) (wx_pv C hP hD hS (q := 0) (ci := 8) (Nat.le_of_ble_eq_true rfl) (eC_0 _) rfl) rfl rfl hl.1 rfl (lv_room (Nat.le_of_ble_eq_true rfl)) dX8_merit_98 ⟨Nat.zero_le _, Nat.zero_le _⟩) (fun r98 σ98 H locs h hP hD hS => ?_)
      refine wx_ci C hD hS (va_runV (As := [.int r98]) (rest := []) C.1 (mtX3_sumFor (l := l) (D := D) (sz := H.size) h) (cwV 1 hts gX8_merit_X3_sumFor rfl rfl rfl nyX3_sumFor ⟨Nat.le_of_ble_eq_true rfl, Nat.le_of_ble_eq_true rfl⟩) (wx_pv C hP hD hS (q := 54) (ci := 3) (Nat.le_of_ble_eq_true rfl) (eC_54 _) rfl) rfl rfl hl.1 rfl (lv_room (Nat.le_of_ble_eq_true rfl)) dX8_merit_101 ⟨Nat.zero_le _, Nat.zero_le _⟩) (fun r101 σ101 H locs h hP hD hS => ?_)
      exact Rt _ _ _ _ _ _ h hP hD hS dX8_merit_104
    · have h := h.2 c84
      refine lv_aload_n hx hb dX8_merit_87 rfl (lv_at hl 0 rfl) ?_
      refine wx_get C hP (q := 0) (ci := 8) (Nat.le_of_ble_eq_true rfl) (eC_0 _) (Cn := RX8) (T := TX8) (Nf := 11) rfl inX8_merit_X8 0 (by decide) (List.mem_of_getElem? (i := 1) rfl) (v := .ref (ad (cSt 0))) rfl dX8_merit_88 ?_
      refine wx_get C hP (q := (cSt 0)) (ci := 5) (lt_st (Nat.le_of_ble_eq_true rfl)) (eC_st (Nat.le_of_ble_eq_true rfl) _) (Cn := RX5) (T := TX5) (Nf := 3) rfl inX8_merit_X5 2 (by decide) (List.mem_of_getElem? (i := 6) rfl) (v := .int (σ52 (cSt 0) 2)) rfl dX8_merit_91 ?_
      refine lv_goto (tgt := 101) hx hb dX8_merit_94 (by decide) ?_
      refine wx_ci C hD hS (va_runV (As := [.int (σ52 (cSt 0) 2)]) (rest := []) C.1 (mtX3_sumFor (l := l) (D := D) (sz := H.size) h) (cwV 1 hts gX8_merit_X3_sumFor rfl rfl rfl nyX3_sumFor ⟨Nat.le_of_ble_eq_true rfl, Nat.le_of_ble_eq_true rfl⟩) (wx_pv C hP hD hS (q := 54) (ci := 3) (Nat.le_of_ble_eq_true rfl) (eC_54 _) rfl) rfl rfl hl.1 rfl (lv_room (Nat.le_of_ble_eq_true rfl)) dX8_merit_101 ⟨Nat.zero_le _, Nat.zero_le _⟩) (fun r101_1 σ101_1 H locs h hP hD hS => ?_)
      exact Rt _ _ _ _ _ _ h hP hD hS dX8_merit_104
  · have h := h.2 c57
    refine lv_aload_n hx hb dX8_merit_60 rfl (lv_at hl 0 rfl) ?_
    refine wx_get C hP (q := 0) (ci := 8) (Nat.le_of_ble_eq_true rfl) (eC_0 _) (Cn := RX8) (T := TX8) (Nf := 11) rfl inX8_merit_X8 7 (by decide) (List.mem_of_getElem? (i := 5) rfl) (v := .ref (ad 56)) rfl dX8_merit_61 ?_
    refine lv_aload_n hx hb dX8_merit_64 rfl (lv_at hl 0 rfl) ?_
    refine wx_get C hP (q := 0) (ci := 8) (Nat.le_of_ble_eq_true rfl) (eC_0 _) (Cn := RX8) (T := TX8) (Nf := 11) rfl inX8_merit_X8 0 (by decide) (List.mem_of_getElem? (i := 1) rfl) (v := .ref (ad (cSt 0))) rfl dX8_merit_65 ?_
    refine wx_get C hP (q := (cSt 0)) (ci := 5) (lt_st (Nat.le_of_ble_eq_true rfl)) (eC_st (Nat.le_of_ble_eq_true rfl) _) (Cn := RX5) (T := TX5) (Nf := 3) rfl inX8_merit_X5 0 (by decide) (List.mem_of_getElem? (i := 2) rfl) (v := .ref (ad (cCo 0))) rfl dX8_merit_68 ?_
    refine lv_aload_n hx hb dX8_merit_71 rfl (lv_at hl 0 rfl) ?_
    refine wx_get C hP (q := 0) (ci := 8) (Nat.le_of_ble_eq_true rfl) (eC_0 _) (Cn := RX8) (T := TX8) (Nf := 11) rfl inX8_merit_X8 6 (by decide) (List.mem_of_getElem? (i := 3) rfl) (v := .ref (ad 54)) rfl dX8_merit_72 ?_
    refine wx_ci C hD hS (va_runV (As := [.ref (ad (cCo 0)), .ref (ad 54)]) (rest := []) C.1 (mtX7_greatest (l := l) (D := D) (sz := H.size) (Nat.le_of_ble_eq_true rfl) h) (cwV 2 hts gX8_merit_X7_greatest rfl rfl rfl nyX7_greatest ⟨Nat.le_of_ble_eq_true rfl, Nat.le_of_ble_eq_true rfl⟩) (wx_pv C hP hD hS (q := 56) (ci := 7) (Nat.le_of_ble_eq_true rfl) (eC_56 _) rfl) rfl rfl hl.1 rfl (lv_room (Nat.le_of_ble_eq_true rfl)) dX8_merit_75 ⟨Nat.zero_le _, Nat.zero_le _⟩) (fun r75 σ75 H locs h hP hD hS => ?_)
    exact Rt _ _ _ _ _ _ h hP hD hS dX8_merit_78
set_option maxRecDepth 100000 in
set_option maxHeartbeats 4000000 in
theorem mtX8_merit {l : Launch} {D : va_G} {cI cB cS cR : ClassId} {ad : Nat → Nat} {tS tP : Nat} {kS vS : Nat → Nat} {sz : Nat} {σ : wx_Z} {x1 : Int32} {K : Int32 → wx_Z → Prop} (h : wpX8_merit σ x1 K) : Met l yX8_merit wsX8_merit rmX8_merit (wx_Pre D [(cI, .int), (cB, .byte), (cS, .object RX5), (cR, .array .int)] (wC_RO tS tP kS vS) 58 (wC_E cI cB cS cR ad) ad σ sz [.ref (ad 0), .int x1]) (va_Qi K (wx_B D [(cI, .int), (cB, .byte), (cS, .object RX5), (cR, .array .int)] 58 (wC_E cI cB cS cR ad) ad (va_A (wx_w 58 (wC_E cI cB cS cR ad) ad σ) sz)) (va_A (wx_w 58 (wC_E cI cB cS cR ad) ad σ) sz)) 0 0 (va_A (wx_w 58 (wC_E cI cB cS cR ad) ad σ) sz) := by
  unfold wpX8_merit at h
  refine wx_meti (cc := cX8_merit) (maxL := 2) (own := RX8) rfl (by decide) rfl (Nat.le_of_ble_eq_true rfl) (wC_ROok tS tP kS vS) ?_
  intro p e s m args below meth c A Q ls C Rt hP hD hS hl
  obtain ⟨⟨hx, hb, hml, hown, hts⟩, hA, hK, hRO, hro⟩ := id C
  have hl : lv_has ls 2 [(0, .ref (ad 0)), (1, .int x1)] := hl
  obtain ⟨H, eH⟩ : ∃ z, z = s.heap := ⟨_, rfl⟩
  obtain ⟨locs, eL⟩ : ∃ z : List Loc, z = [] := ⟨_, rfl⟩
  rw [← eH] at hP
  have hS : va_S A s.heap H locs := by rw [eH, eL]; exact hS
  have goal : W p l e rmX8_merit s m args below meth c H locs 0 0 Q (F0 m 0 ls []) := by
    refine lv_iload_n hx hb dX8_merit_0 rfl (lv_at hl 1 rfl) ?_
    refine lv_if_lt (tgt := 9) hx hb dX8_merit_1 (by decide) (fun c1 => ?_) (fun c1 => ?_)
    · have h := h.1 c1
      refine lv_aload_n hx hb dX8_merit_9 rfl (lv_at hl 0 rfl) ?_
      refine lv_bipush (v := (-2)) hx hb dX8_merit_10 (by decide) ?_
      refine wx_ci C hD hS (va_runV (As := [.int (-2)]) (rest := []) C.1 (mtX8_refuseBad (l := l) (D := D) (sz := H.size) h) (cwV 1 hts gX8_merit_X8_refuseBad rfl rfl rfl nyX8_refuseBad ⟨Nat.le_of_ble_eq_true rfl, Nat.le_of_ble_eq_true rfl⟩) (wx_pv C hP hD hS (q := 0) (ci := 8) (Nat.le_of_ble_eq_true rfl) (eC_0 _) rfl) rfl rfl hl.1 rfl (lv_room (Nat.le_of_ble_eq_true rfl)) dX8_merit_12 ⟨Nat.zero_le _, Nat.zero_le _⟩) (fun r12 σ12 H locs h hP hD hS => ?_)
      exact Rt _ _ _ _ _ _ h hP hD hS dX8_merit_15
    · have h := h.2 c1
      refine lv_iload_n hx hb dX8_merit_4 rfl (lv_at hl 1 rfl) ?_
      refine lv_iconst (v := 2) hx hb dX8_merit_5 (by decide) ?_
      refine lv_icmp_le (tgt := 16) hx hb dX8_merit_6 (by decide) (fun c6 => ?_) (fun c6 => ?_)
      · have h := h.1 c6
        refine lv_iload_n hx hb dX8_merit_16 rfl (lv_at hl 1 rfl) ?_
        refine lv_iconst (v := 2) hx hb dX8_merit_17 (by decide) ?_
        refine lv_icmp_ne (tgt := 41) hx hb dX8_merit_18 (by decide) (fun c18 => ?_) (fun c18 => ?_)
        · have h := h.1 c18
          exact bX8_merit_41 C Rt σ x1  h _ _ _ hP hD hS (lv_sub hl [0, 1] rfl)
        · have h := h.2 c18
          refine lv_aload_n hx hb dX8_merit_21 rfl (lv_at hl 0 rfl) ?_
          refine wx_get C hP (q := 0) (ci := 8) (Nat.le_of_ble_eq_true rfl) (eC_0 _) (Cn := RX8) (T := TX8) (Nf := 11) rfl inX8_merit_X8 0 (by decide) (List.mem_of_getElem? (i := 1) rfl) (v := .ref (ad (cSt 0))) rfl dX8_merit_22 ?_
          refine wx_get C hP (q := (cSt 0)) (ci := 5) (lt_st (Nat.le_of_ble_eq_true rfl)) (eC_st (Nat.le_of_ble_eq_true rfl) _) (Cn := RX5) (T := TX5) (Nf := 3) rfl inX8_merit_X5 0 (by decide) (List.mem_of_getElem? (i := 2) rfl) (v := .ref (ad (cCo 0))) rfl dX8_merit_25 ?_
          refine wx_ci C hD hS (va_runV (As := []) (rest := []) C.1 (mtX1_canBeWalked (l := l) (D := D) (sz := H.size) (Nat.le_of_ble_eq_true rfl) h) (cwV 0 hts gX8_merit_X1_canBeWalked rfl rfl rfl nyX1_canBeWalked ⟨Nat.le_of_ble_eq_true rfl, Nat.le_of_ble_eq_true rfl⟩) (wx_pv C hP hD hS (q := (cCo 0)) (ci := 1) (lt_co (Nat.le_of_ble_eq_true rfl)) (eC_co (Nat.le_of_ble_eq_true rfl) _) rfl) rfl rfl hl.1 rfl (lv_room (Nat.le_of_ble_eq_true rfl)) dX8_merit_28 ⟨Nat.zero_le _, Nat.zero_le _⟩) (fun r28 σ28 H locs h hP hD hS => ?_)
          refine lv_if_ne (tgt := 41) hx hb dX8_merit_31 (by decide) (fun c31 => ?_) (fun c31 => ?_)
          · have h := h.1 c31
            exact bX8_merit_41 C Rt σ28 x1  h _ _ _ hP hD hS (lv_sub hl [0, 1] rfl)
          · have h := h.2 c31
            refine lv_aload_n hx hb dX8_merit_34 rfl (lv_at hl 0 rfl) ?_
            refine lv_bipush (v := (-3)) hx hb dX8_merit_35 (by decide) ?_
            refine wx_ci C hD hS (va_runV (As := [.int (-3)]) (rest := []) C.1 (mtX8_refuseNo (l := l) (D := D) (sz := H.size) h) (cwV 1 hts gX8_merit_X8_refuseNo rfl rfl rfl nyX8_refuseNo ⟨Nat.le_of_ble_eq_true rfl, Nat.le_of_ble_eq_true rfl⟩) (wx_pv C hP hD hS (q := 0) (ci := 8) (Nat.le_of_ble_eq_true rfl) (eC_0 _) rfl) rfl rfl hl.1 rfl (lv_room (Nat.le_of_ble_eq_true rfl)) dX8_merit_37 ⟨Nat.zero_le _, Nat.zero_le _⟩) (fun r37 σ37 H locs h hP hD hS => ?_)
            exact Rt _ _ _ _ _ _ h hP hD hS dX8_merit_40
      · have h := h.2 c6
        refine lv_aload_n hx hb dX8_merit_9 rfl (lv_at hl 0 rfl) ?_
        refine lv_bipush (v := (-2)) hx hb dX8_merit_10 (by decide) ?_
        refine wx_ci C hD hS (va_runV (As := [.int (-2)]) (rest := []) C.1 (mtX8_refuseBad (l := l) (D := D) (sz := H.size) h) (cwV 1 hts gX8_merit_X8_refuseBad rfl rfl rfl nyX8_refuseBad ⟨Nat.le_of_ble_eq_true rfl, Nat.le_of_ble_eq_true rfl⟩) (wx_pv C hP hD hS (q := 0) (ci := 8) (Nat.le_of_ble_eq_true rfl) (eC_0 _) rfl) rfl rfl hl.1 rfl (lv_room (Nat.le_of_ble_eq_true rfl)) dX8_merit_12 ⟨Nat.zero_le _, Nat.zero_le _⟩) (fun r12_1 σ12_1 H locs h hP hD hS => ?_)
        exact Rt _ _ _ _ _ _ h hP hD hS dX8_merit_15
  rw [eH, eL] at goal
  exact goal
abbrev rmX8_weights : Room := { frames := 5, cells := 0, slots := 0, locals := 132 }
set_option maxRecDepth 20000 in
theorem inX8_weights_X5 : ∀ w ∈ u_ws RX5 TX5 3, w ∈ wsX8_weights := by decide +kernel
set_option maxRecDepth 20000 in
theorem inX8_weights_X8 : ∀ w ∈ u_ws RX8 TX8 11, w ∈ wsX8_weights := by decide +kernel
theorem nyX7_howManyWeigh : yX7_howManyWeigh.cls = RX7 ∧ yX7_howManyWeigh.cls ≠ "java/lang/invoke/MethodHandle" ∧ yX7_howManyWeigh.cls ≠ "java/lang/invoke/VarHandle" ∧ (parseMethodDescriptor yX7_howManyWeigh.desc).map (fun d => d.parameters.length) = some 2 := by decide +kernel
set_option maxRecDepth 100000 in
set_option maxHeartbeats 4000000 in
theorem mtX8_weights {l : Launch} {D : va_G} {cI cB cS cR : ClassId} {ad : Nat → Nat} {tS tP : Nat} {kS vS : Nat → Nat} {sz : Nat} {σ : wx_Z} {x1 : Int32} {K : Int32 → wx_Z → Prop} (h : wpX8_weights σ x1 K) : Met l yX8_weights wsX8_weights rmX8_weights (wx_Pre D [(cI, .int), (cB, .byte), (cS, .object RX5), (cR, .array .int)] (wC_RO tS tP kS vS) 58 (wC_E cI cB cS cR ad) ad σ sz [.ref (ad 0), .int x1]) (va_Qi K (wx_B D [(cI, .int), (cB, .byte), (cS, .object RX5), (cR, .array .int)] 58 (wC_E cI cB cS cR ad) ad (va_A (wx_w 58 (wC_E cI cB cS cR ad) ad σ) sz)) (va_A (wx_w 58 (wC_E cI cB cS cR ad) ad σ) sz)) 0 0 (va_A (wx_w 58 (wC_E cI cB cS cR ad) ad σ) sz) := by
  unfold wpX8_weights at h
  refine wx_meti (cc := cX8_weights) (maxL := 2) (own := RX8) rfl (by decide) rfl (Nat.le_of_ble_eq_true rfl) (wC_ROok tS tP kS vS) ?_
  intro p e s m args below meth c A Q ls C Rt hP hD hS hl
  obtain ⟨⟨hx, hb, hml, hown, hts⟩, hA, hK, hRO, hro⟩ := id C
  have hl : lv_has ls 2 [(0, .ref (ad 0)), (1, .int x1)] := hl
  obtain ⟨H, eH⟩ : ∃ z, z = s.heap := ⟨_, rfl⟩
  obtain ⟨locs, eL⟩ : ∃ z : List Loc, z = [] := ⟨_, rfl⟩
  rw [← eH] at hP
  have hS : va_S A s.heap H locs := by rw [eH, eL]; exact hS
  have goal : W p l e rmX8_weights s m args below meth c H locs 0 0 Q (F0 m 0 ls []) := by
    refine lv_iload_n hx hb dX8_weights_0 rfl (lv_at hl 1 rfl) ?_
    refine lv_if_lt (tgt := 10) hx hb dX8_weights_1 (by decide) (fun c1 => ?_) (fun c1 => ?_)
    · have h := h.1 c1
      refine lv_aload_n hx hb dX8_weights_10 rfl (lv_at hl 0 rfl) ?_
      refine lv_bipush (v := (-2)) hx hb dX8_weights_11 (by decide) ?_
      refine wx_ci C hD hS (va_runV (As := [.int (-2)]) (rest := []) C.1 (mtX8_refuseBad (l := l) (D := D) (sz := H.size) h) (cwV 1 hts gX8_weights_X8_refuseBad rfl rfl rfl nyX8_refuseBad ⟨Nat.le_of_ble_eq_true rfl, Nat.le_of_ble_eq_true rfl⟩) (wx_pv C hP hD hS (q := 0) (ci := 8) (Nat.le_of_ble_eq_true rfl) (eC_0 _) rfl) rfl rfl hl.1 rfl (lv_room (Nat.le_of_ble_eq_true rfl)) dX8_weights_13 ⟨Nat.zero_le _, Nat.zero_le _⟩) (fun r13 σ13 H locs h hP hD hS => ?_)
      exact Rt _ _ _ _ _ _ h hP hD hS dX8_weights_16
    · have h := h.2 c1
      refine lv_iload_n hx hb dX8_weights_4 rfl (lv_at hl 1 rfl) ?_
      refine lv_bipush (v := 32) hx hb dX8_weights_5 (by decide) ?_
      refine lv_icmp_le (tgt := 17) hx hb dX8_weights_7 (by decide) (fun c7 => ?_) (fun c7 => ?_)
      · have h := h.1 c7
        refine lv_aload_n hx hb dX8_weights_17 rfl (lv_at hl 0 rfl) ?_
        refine wx_get C hP (q := 0) (ci := 8) (Nat.le_of_ble_eq_true rfl) (eC_0 _) (Cn := RX8) (T := TX8) (Nf := 11) rfl inX8_weights_X8 0 (by decide) (List.mem_of_getElem? (i := 1) rfl) (v := .ref (ad (cSt 0))) rfl dX8_weights_18 ?_
        refine wx_get C hP (q := (cSt 0)) (ci := 5) (lt_st (Nat.le_of_ble_eq_true rfl)) (eC_st (Nat.le_of_ble_eq_true rfl) _) (Cn := RX5) (T := TX5) (Nf := 3) rfl inX8_weights_X5 0 (by decide) (List.mem_of_getElem? (i := 2) rfl) (v := .ref (ad (cCo 0))) rfl dX8_weights_21 ?_
        refine wx_ci C hD hS (va_runV (As := []) (rest := []) C.1 (mtX1_canBeWalked (l := l) (D := D) (sz := H.size) (Nat.le_of_ble_eq_true rfl) h) (cwV 0 hts gX8_weights_X1_canBeWalked rfl rfl rfl nyX1_canBeWalked ⟨Nat.le_of_ble_eq_true rfl, Nat.le_of_ble_eq_true rfl⟩) (wx_pv C hP hD hS (q := (cCo 0)) (ci := 1) (lt_co (Nat.le_of_ble_eq_true rfl)) (eC_co (Nat.le_of_ble_eq_true rfl) _) rfl) rfl rfl hl.1 rfl (lv_room (Nat.le_of_ble_eq_true rfl)) dX8_weights_24 ⟨Nat.zero_le _, Nat.zero_le _⟩) (fun r24 σ24 H locs h hP hD hS => ?_)
        refine lv_if_ne (tgt := 37) hx hb dX8_weights_27 (by decide) (fun c27 => ?_) (fun c27 => ?_)
        · have h := h.1 c27
          refine lv_aload_n hx hb dX8_weights_37 rfl (lv_at hl 0 rfl) ?_
          refine wx_get C hP (q := 0) (ci := 8) (Nat.le_of_ble_eq_true rfl) (eC_0 _) (Cn := RX8) (T := TX8) (Nf := 11) rfl inX8_weights_X8 7 (by decide) (List.mem_of_getElem? (i := 3) rfl) (v := .ref (ad 56)) rfl dX8_weights_38 ?_
          refine lv_aload_n hx hb dX8_weights_41 rfl (lv_at hl 0 rfl) ?_
          refine wx_get C hP (q := 0) (ci := 8) (Nat.le_of_ble_eq_true rfl) (eC_0 _) (Cn := RX8) (T := TX8) (Nf := 11) rfl inX8_weights_X8 0 (by decide) (List.mem_of_getElem? (i := 1) rfl) (v := .ref (ad (cSt 0))) rfl dX8_weights_42 ?_
          refine wx_get C hP (q := (cSt 0)) (ci := 5) (lt_st (Nat.le_of_ble_eq_true rfl)) (eC_st (Nat.le_of_ble_eq_true rfl) _) (Cn := RX5) (T := TX5) (Nf := 3) rfl inX8_weights_X5 0 (by decide) (List.mem_of_getElem? (i := 2) rfl) (v := .ref (ad (cCo 0))) rfl dX8_weights_45 ?_
          refine lv_iload_n hx hb dX8_weights_48 rfl (lv_at hl 1 rfl) ?_
          refine wx_ci C hD hS (va_runV (As := [.ref (ad (cCo 0)), .int x1]) (rest := []) C.1 (mtX7_howManyWeigh (l := l) (D := D) (sz := H.size) (Nat.le_of_ble_eq_true rfl) h) (cwV 2 hts gX8_weights_X7_howManyWeigh rfl rfl rfl nyX7_howManyWeigh ⟨Nat.le_of_ble_eq_true rfl, Nat.le_of_ble_eq_true rfl⟩) (wx_pv C hP hD hS (q := 56) (ci := 7) (Nat.le_of_ble_eq_true rfl) (eC_56 _) rfl) rfl rfl hl.1 rfl (lv_room (Nat.le_of_ble_eq_true rfl)) dX8_weights_49 ⟨Nat.zero_le _, Nat.zero_le _⟩) (fun r49 σ49 H locs h hP hD hS => ?_)
          exact Rt _ _ _ _ _ _ h hP hD hS dX8_weights_52
        · have h := h.2 c27
          refine lv_aload_n hx hb dX8_weights_30 rfl (lv_at hl 0 rfl) ?_
          refine lv_bipush (v := (-3)) hx hb dX8_weights_31 (by decide) ?_
          refine wx_ci C hD hS (va_runV (As := [.int (-3)]) (rest := []) C.1 (mtX8_refuseNo (l := l) (D := D) (sz := H.size) h) (cwV 1 hts gX8_weights_X8_refuseNo rfl rfl rfl nyX8_refuseNo ⟨Nat.le_of_ble_eq_true rfl, Nat.le_of_ble_eq_true rfl⟩) (wx_pv C hP hD hS (q := 0) (ci := 8) (Nat.le_of_ble_eq_true rfl) (eC_0 _) rfl) rfl rfl hl.1 rfl (lv_room (Nat.le_of_ble_eq_true rfl)) dX8_weights_33 ⟨Nat.zero_le _, Nat.zero_le _⟩) (fun r33 σ33 H locs h hP hD hS => ?_)
          exact Rt _ _ _ _ _ _ h hP hD hS dX8_weights_36
      · have h := h.2 c7
        refine lv_aload_n hx hb dX8_weights_10 rfl (lv_at hl 0 rfl) ?_
        refine lv_bipush (v := (-2)) hx hb dX8_weights_11 (by decide) ?_
        refine wx_ci C hD hS (va_runV (As := [.int (-2)]) (rest := []) C.1 (mtX8_refuseBad (l := l) (D := D) (sz := H.size) h) (cwV 1 hts gX8_weights_X8_refuseBad rfl rfl rfl nyX8_refuseBad ⟨Nat.le_of_ble_eq_true rfl, Nat.le_of_ble_eq_true rfl⟩) (wx_pv C hP hD hS (q := 0) (ci := 8) (Nat.le_of_ble_eq_true rfl) (eC_0 _) rfl) rfl rfl hl.1 rfl (lv_room (Nat.le_of_ble_eq_true rfl)) dX8_weights_13 ⟨Nat.zero_le _, Nat.zero_le _⟩) (fun r13_1 σ13_1 H locs h hP hD hS => ?_)
        exact Rt _ _ _ _ _ _ h hP hD hS dX8_weights_16
  rw [eH, eL] at goal
  exact goal
abbrev rmX8_perpendicular : Room := { frames := 3, cells := 0, slots := 0, locals := 84 }
set_option maxRecDepth 20000 in
theorem inX8_perpendicular_X1 : ∀ w ∈ u_ws RX1 TX1 5, w ∈ wsX8_perpendicular := by decide +kernel
set_option maxRecDepth 20000 in
theorem inX8_perpendicular_X5 : ∀ w ∈ u_ws RX5 TX5 3, w ∈ wsX8_perpendicular := by decide +kernel
set_option maxRecDepth 20000 in
theorem inX8_perpendicular_X8 : ∀ w ∈ u_ws RX8 TX8 11, w ∈ wsX8_perpendicular := by decide +kernel
set_option maxRecDepth 100000 in
set_option maxHeartbeats 4000000 in
theorem bX8_perpendicular_2 {p : Program} {l : Launch} {e : Env} {s : State} {m : MethodId} {args : Array Value} {below : List Frame} {meth : Method} {c : Code} {A : Nat → Prop} {Q : State → Prop} {D : va_G} {cI cB cS cR : ClassId} {ad : Nat → Nat} {tS tP : Nat} {kS vS : Nat → Nat} {K : Int32 → wx_Z → Prop} (C : wx_C p s m args c cX8_perpendicular 2 RX8 wsX8_perpendicular D [(cI, .int), (cB, .byte), (cS, .object RX5), (cR, .array .int)] (wC_RO tS tP kS vS) A) (Rt : wx_Ri p l e rmX8_perpendicular s m args below meth c cX8_perpendicular D 58 (wC_E cI cB cS cR ad) ad A K Q) : ∀ (n : Nat) (σ : wx_Z) (x1 : Int32), wpX8_perpendicular_2 K n σ x1 → ∀ (H : Heap) (locs : List Loc) (ls : Array Slot), va_P D vwCl (wx_w 58 (wC_E cI cB cS cR ad) ad σ) H → va_D A (wx_w 58 (wC_E cI cB cS cR ad) ad σ) → va_S A s.heap H locs → lv_has ls 2 [(0, .ref (ad 0)), (1, .int x1)] → W p l e rmX8_perpendicular s m args below meth c H locs 0 0 Q (F0 m 2 ls []) := by
  obtain ⟨⟨hx, hb, hml, hown, hts⟩, hA, hK, hRO, hro⟩ := id C
  intro n
  induction n with
  | zero => intro σ x1 h; exact h.elim
  | succ n ih =>
    intro σ x1 h H locs ls hP hD hS hl
    unfold wpX8_perpendicular_2 at h
    refine lv_iload_n hx hb dX8_perpendicular_2 rfl (lv_at hl 1 rfl) ?_
    refine lv_aload_n hx hb dX8_perpendicular_3 rfl (lv_at hl 0 rfl) ?_
    refine wx_get C hP (q := 0) (ci := 8) (Nat.le_of_ble_eq_true rfl) (eC_0 _) (Cn := RX8) (T := TX8) (Nf := 11) rfl inX8_perpendicular_X8 0 (by decide) (List.mem_of_getElem? (i := 1) rfl) (v := .ref (ad (cSt 0))) rfl dX8_perpendicular_4 ?_
    refine wx_get C hP (q := (cSt 0)) (ci := 5) (lt_st (Nat.le_of_ble_eq_true rfl)) (eC_st (Nat.le_of_ble_eq_true rfl) _) (Cn := RX5) (T := TX5) (Nf := 3) rfl inX8_perpendicular_X5 0 (by decide) (List.mem_of_getElem? (i := 2) rfl) (v := .ref (ad (cCo 0))) rfl dX8_perpendicular_7 ?_
    refine wx_get C hP (q := (cCo 0)) (ci := 1) (lt_co (Nat.le_of_ble_eq_true rfl)) (eC_co (Nat.le_of_ble_eq_true rfl) _) (Cn := RX1) (T := TX1) (Nf := 5) rfl inX8_perpendicular_X1 3 (by decide) (List.mem_of_getElem? (i := 3) rfl) (v := .int (σ (cCo 0) 3)) rfl dX8_perpendicular_10 ?_
    refine lv_icmp_ge (tgt := 49) hx hb dX8_perpendicular_13 (by decide) (fun c13 => ?_) (fun c13 => ?_)
    · have h := h.1 c13
      refine lv_iconst (v := 1) hx hb dX8_perpendicular_49 (by decide) ?_
      exact Rt _ _ _ _ _ _ h hP hD hS dX8_perpendicular_50
    · have h := h.2 c13
      refine lv_aload_n hx hb dX8_perpendicular_16 rfl (lv_at hl 0 rfl) ?_
      refine wx_get C hP (q := 0) (ci := 8) (Nat.le_of_ble_eq_true rfl) (eC_0 _) (Cn := RX8) (T := TX8) (Nf := 11) rfl inX8_perpendicular_X8 0 (by decide) (List.mem_of_getElem? (i := 1) rfl) (v := .ref (ad (cSt 0))) rfl dX8_perpendicular_17 ?_
      refine wx_get C hP (q := (cSt 0)) (ci := 5) (lt_st (Nat.le_of_ble_eq_true rfl)) (eC_st (Nat.le_of_ble_eq_true rfl) _) (Cn := RX5) (T := TX5) (Nf := 3) rfl inX8_perpendicular_X5 2 (by decide) (List.mem_of_getElem? (i := 4) rfl) (v := .int (σ (cSt 0) 2)) rfl dX8_perpendicular_20 ?_
      refine lv_aload_n hx hb dX8_perpendicular_23 rfl (lv_at hl 0 rfl) ?_
      refine wx_get C hP (q := 0) (ci := 8) (Nat.le_of_ble_eq_true rfl) (eC_0 _) (Cn := RX8) (T := TX8) (Nf := 11) rfl inX8_perpendicular_X8 0 (by decide) (List.mem_of_getElem? (i := 1) rfl) (v := .ref (ad (cSt 0))) rfl dX8_perpendicular_24 ?_
      refine wx_get C hP (q := (cSt 0)) (ci := 5) (lt_st (Nat.le_of_ble_eq_true rfl)) (eC_st (Nat.le_of_ble_eq_true rfl) _) (Cn := RX5) (T := TX5) (Nf := 3) rfl inX8_perpendicular_X5 0 (by decide) (List.mem_of_getElem? (i := 2) rfl) (v := .ref (ad (cCo 0))) rfl dX8_perpendicular_27 ?_
      refine lv_iload_n hx hb dX8_perpendicular_30 rfl (lv_at hl 1 rfl) ?_
      refine wx_ci C hD hS (va_runV (As := [.int x1]) (rest := [.int (σ (cSt 0) 2)]) C.1 (mtX1_wordOfTerm (l := l) (D := D) (sz := H.size) (Nat.le_of_ble_eq_true rfl) h) (cwV 1 hts gX8_perpendicular_X1_wordOfTerm rfl rfl rfl nyX1_wordOfTerm ⟨Nat.le_of_ble_eq_true rfl, Nat.le_of_ble_eq_true rfl⟩) (wx_pv C hP hD hS (q := (cCo 0)) (ci := 1) (lt_co (Nat.le_of_ble_eq_true rfl)) (eC_co (Nat.le_of_ble_eq_true rfl) _) rfl) rfl rfl hl.1 rfl (lv_room (Nat.le_of_ble_eq_true rfl)) dX8_perpendicular_31 ⟨Nat.zero_le _, Nat.zero_le _⟩) (fun r31 σ31 H locs h hP hD hS => ?_)
      refine lv_iand hx hb dX8_perpendicular_34 ?_
      refine wx_ci C hD hS (va_runS (As := [.int ((σ (cSt 0) 2) &&& r31)]) (rest := []) C.1 (mtX8_isOdd (l := l) (D := D) (sz := H.size) h) (va_cwS 1 hts gX8_perpendicular_X8_isOdd rfl rfl rfl nyX8_isOdd.2 ⟨Nat.le_of_ble_eq_true rfl, Nat.le_of_ble_eq_true rfl⟩) (wx_ps C hP hD hS) rfl rfl hl.1 rfl (lv_room (Nat.le_of_ble_eq_true rfl)) dX8_perpendicular_35 ⟨Nat.zero_le _, Nat.zero_le _⟩) (fun r35 σ35 H locs h hP hD hS => ?_)
      refine lv_if_eq (tgt := 43) hx hb dX8_perpendicular_38 (by decide) (fun c38 => ?_) (fun c38 => ?_)
      · have h := h.1 c38
        obtain ⟨t43, e_t43⟩ : ∃ y : Int32, y = x1 + 1 := ⟨_, rfl⟩
        have h := h t43 e_t43
        refine lv_iinc (v := t43) (lv' := [(1, .int t43), (0, .ref (ad 0))]) hx hb dX8_perpendicular_43 hl (k := 1) rfl (by rw [e_t43]; rfl) (by decide) rfl (fun ls hl => ?_)
        refine lv_goto (tgt := 2) hx hb dX8_perpendicular_46 (by decide) ?_
        exact ih σ35 t43  h _ _ _ hP hD hS (lv_sub hl [1, 0] rfl)
      · have h := h.2 c38
        refine lv_iconst (v := 0) hx hb dX8_perpendicular_41 (by decide) ?_
        exact Rt _ _ _ _ _ _ h hP hD hS dX8_perpendicular_42
set_option maxRecDepth 100000 in
set_option maxHeartbeats 4000000 in
theorem mtX8_perpendicular {l : Launch} {D : va_G} {cI cB cS cR : ClassId} {ad : Nat → Nat} {tS tP : Nat} {kS vS : Nat → Nat} {sz : Nat} {σ : wx_Z} {K : Int32 → wx_Z → Prop} (h : wpX8_perpendicular σ K) : Met l yX8_perpendicular wsX8_perpendicular rmX8_perpendicular (wx_Pre D [(cI, .int), (cB, .byte), (cS, .object RX5), (cR, .array .int)] (wC_RO tS tP kS vS) 58 (wC_E cI cB cS cR ad) ad σ sz [.ref (ad 0)]) (va_Qi K (wx_B D [(cI, .int), (cB, .byte), (cS, .object RX5), (cR, .array .int)] 58 (wC_E cI cB cS cR ad) ad (va_A (wx_w 58 (wC_E cI cB cS cR ad) ad σ) sz)) (va_A (wx_w 58 (wC_E cI cB cS cR ad) ad σ) sz)) 0 0 (va_A (wx_w 58 (wC_E cI cB cS cR ad) ad σ) sz) := by
  unfold wpX8_perpendicular at h
  refine wx_meti (cc := cX8_perpendicular) (maxL := 2) (own := RX8) rfl (by decide) rfl (Nat.le_of_ble_eq_true rfl) (wC_ROok tS tP kS vS) ?_
  intro p e s m args below meth c A Q ls C Rt hP hD hS hl
  obtain ⟨⟨hx, hb, hml, hown, hts⟩, hA, hK, hRO, hro⟩ := id C
  have hl : lv_has ls 2 [(0, .ref (ad 0))] := hl
  obtain ⟨H, eH⟩ : ∃ z, z = s.heap := ⟨_, rfl⟩
  obtain ⟨locs, eL⟩ : ∃ z : List Loc, z = [] := ⟨_, rfl⟩
  rw [← eH] at hP
  have hS : va_S A s.heap H locs := by rw [eH, eL]; exact hS
  have goal : W p l e rmX8_perpendicular s m args below meth c H locs 0 0 Q (F0 m 0 ls []) := by
    refine lv_iconst (v := 0) hx hb dX8_perpendicular_0 (by decide) ?_
    refine lv_istore_n (lv' := [(1, .int 0), (0, .ref (ad 0))]) hx hb dX8_perpendicular_1 rfl hl (by decide) rfl (fun ls hl => ?_)
    obtain ⟨n2, h⟩ := h
    exact bX8_perpendicular_2 C Rt n2 σ 0  h _ _ _ hP hD hS (lv_sub hl [1, 0] rfl)
  rw [eH, eL] at goal
  exact goal
abbrev rmX8_asked : Room := { frames := 3, cells := 0, slots := 0, locals := 80 }
set_option maxRecDepth 20000 in
theorem inX8_asked_X1 : ∀ w ∈ u_ws RX1 TX1 5, w ∈ wsX8_asked := by decide +kernel
set_option maxRecDepth 20000 in
theorem inX8_asked_X5 : ∀ w ∈ u_ws RX5 TX5 3, w ∈ wsX8_asked := by decide +kernel
set_option maxRecDepth 20000 in
theorem inX8_asked_X8 : ∀ w ∈ u_ws RX8 TX8 11, w ∈ wsX8_asked := by decide +kernel
set_option maxRecDepth 100000 in
set_option maxHeartbeats 4000000 in
theorem bX8_asked_55 {p : Program} {l : Launch} {e : Env} {s : State} {m : MethodId} {args : Array Value} {below : List Frame} {meth : Method} {c : Code} {A : Nat → Prop} {Q : State → Prop} {D : va_G} {cI cB cS cR : ClassId} {ad : Nat → Nat} {tS tP : Nat} {kS vS : Nat → Nat} {K : Int32 → wx_Z → Prop} (C : wx_C p s m args c cX8_asked 5 RX8 wsX8_asked D [(cI, .int), (cB, .byte), (cS, .object RX5), (cR, .array .int)] (wC_RO tS tP kS vS) A) (Rt : wx_Ri p l e rmX8_asked s m args below meth c cX8_asked D 58 (wC_E cI cB cS cR ad) ad A K Q) : ∀ (n : Nat) (σ : wx_Z) (x1 : Int32) (x2 : Int32) (x3 : Int32), wpX8_asked_55 K n σ x1 x2 x3 → ∀ (H : Heap) (locs : List Loc) (ls : Array Slot), va_P D vwCl (wx_w 58 (wC_E cI cB cS cR ad) ad σ) H → va_D A (wx_w 58 (wC_E cI cB cS cR ad) ad σ) → va_S A s.heap H locs → lv_has ls 5 [(0, .ref (ad 0)), (1, .int x1), (2, .int x2), (3, .int x3)] → W p l e rmX8_asked s m args below meth c H locs 0 0 Q (F0 m 55 ls []) := by
  obtain ⟨⟨hx, hb, hml, hown, hts⟩, hA, hK, hRO, hro⟩ := id C
  intro n
  induction n with
  | zero => intro σ x1 x2 x3 h; exact h.elim
  | succ n ih =>
    intro σ x1 x2 x3 h H locs ls hP hD hS hl
    unfold wpX8_asked_55 at h
    refine lv_iload_n hx hb dX8_asked_55 rfl (lv_at hl 3 rfl) ?_
    refine lv_aload_n hx hb dX8_asked_56 rfl (lv_at hl 0 rfl) ?_
    refine wx_get C hP (q := 0) (ci := 8) (Nat.le_of_ble_eq_true rfl) (eC_0 _) (Cn := RX8) (T := TX8) (Nf := 11) rfl inX8_asked_X8 0 (by decide) (List.mem_of_getElem? (i := 1) rfl) (v := .ref (ad (cSt 0))) rfl dX8_asked_57 ?_
    refine wx_get C hP (q := (cSt 0)) (ci := 5) (lt_st (Nat.le_of_ble_eq_true rfl)) (eC_st (Nat.le_of_ble_eq_true rfl) _) (Cn := RX5) (T := TX5) (Nf := 3) rfl inX8_asked_X5 0 (by decide) (List.mem_of_getElem? (i := 2) rfl) (v := .ref (ad (cCo 0))) rfl dX8_asked_60 ?_
    refine wx_get C hP (q := (cCo 0)) (ci := 1) (lt_co (Nat.le_of_ble_eq_true rfl)) (eC_co (Nat.le_of_ble_eq_true rfl) _) (Cn := RX1) (T := TX1) (Nf := 5) rfl inX8_asked_X1 2 (by decide) (List.mem_of_getElem? (i := 5) rfl) (v := .int (σ (cCo 0) 2)) rfl dX8_asked_63 ?_
    refine lv_icmp_ge (tgt := 136) hx hb dX8_asked_66 (by decide) (fun c66 => ?_) (fun c66 => ?_)
    · have h := h.1 c66
      refine lv_iload_n hx hb dX8_asked_136 rfl (lv_at hl 2 rfl) ?_
      refine lv_if_le (tgt := 144) hx hb dX8_asked_137 (by decide) (fun c137 => ?_) (fun c137 => ?_)
      · have h := h.1 c137
        refine lv_iconst (v := 0) hx hb dX8_asked_144 (by decide) ?_
        exact Rt _ _ _ _ _ _ h hP hD hS dX8_asked_145
      · have h := h.2 c137
        refine lv_iconst (v := 1) hx hb dX8_asked_140 (by decide) ?_
        refine lv_goto (tgt := 145) hx hb dX8_asked_141 (by decide) ?_
        exact Rt _ _ _ _ _ _ h hP hD hS dX8_asked_145
    · have h := h.2 c66
      refine lv_iload_n hx hb dX8_asked_69 rfl (lv_at hl 3 rfl) ?_
      refine wx_ci C hD hS (va_runS (As := [.int x3]) (rest := []) C.1 (mtJ6_bitCount_0f7a4 (l := l) (D := D) (sz := H.size) h) (va_cwS 1 hts gX8_asked_J6_bitCount_0f7a4 rfl rfl rfl nyJ6_bitCount_0f7a4.2 ⟨Nat.le_of_ble_eq_true rfl, Nat.le_of_ble_eq_true rfl⟩) (wx_ps C hP hD hS) rfl rfl hl.1 rfl (lv_room (Nat.le_of_ble_eq_true rfl)) dX8_asked_70 ⟨Nat.zero_le _, Nat.zero_le _⟩) (fun r70 σ70 H locs h hP hD hS => ?_)
      refine lv_aload_n hx hb dX8_asked_73 rfl (lv_at hl 0 rfl) ?_
      refine wx_get C hP (q := 0) (ci := 8) (Nat.le_of_ble_eq_true rfl) (eC_0 _) (Cn := RX8) (T := TX8) (Nf := 11) rfl inX8_asked_X8 0 (by decide) (List.mem_of_getElem? (i := 1) rfl) (v := .ref (ad (cSt 0))) rfl dX8_asked_74 ?_
      refine wx_get C hP (q := (cSt 0)) (ci := 5) (lt_st (Nat.le_of_ble_eq_true rfl)) (eC_st (Nat.le_of_ble_eq_true rfl) _) (Cn := RX5) (T := TX5) (Nf := 3) rfl inX8_asked_X5 0 (by decide) (List.mem_of_getElem? (i := 2) rfl) (v := .ref (ad (cCo 0))) rfl dX8_asked_77 ?_
      refine wx_get C hP (q := (cCo 0)) (ci := 1) (lt_co (Nat.le_of_ble_eq_true rfl)) (eC_co (Nat.le_of_ble_eq_true rfl) _) (Cn := RX1) (T := TX1) (Nf := 5) rfl inX8_asked_X1 0 (by decide) (List.mem_of_getElem? (i := 3) rfl) (v := .int (σ70 (cCo 0) 0)) rfl dX8_asked_80 ?_
      refine lv_iconst (v := 1) hx hb dX8_asked_83 (by decide) ?_
      refine lv_iadd hx hb dX8_asked_84 ?_
      refine lv_icmp_ne (tgt := 130) hx hb dX8_asked_85 (by decide) (fun c85 => ?_) (fun c85 => ?_)
      · have h := h.1 c85
        obtain ⟨t130, e_t130⟩ : ∃ y : Int32, y = x3 + 1 := ⟨_, rfl⟩
        have h := h t130 e_t130
        refine lv_iinc (v := t130) (lv' := [(3, .int t130), (0, .ref (ad 0)), (1, .int x1), (2, .int x2)]) hx hb dX8_asked_130 hl (k := 3) rfl (by rw [e_t130]; rfl) (by decide) rfl (fun ls hl => ?_)
        refine lv_goto (tgt := 55) hx hb dX8_asked_133 (by decide) ?_
        exact ih σ70 x1 x2 t130  h _ _ _ hP hD hS (lv_sub hl [1, 2, 3, 0] rfl)
      · have h := h.2 c85
        refine lv_iload_n hx hb dX8_asked_88 rfl (lv_at hl 3 rfl) ?_
        refine wx_ci C hD hS (va_runS (As := [.int x3]) (rest := []) C.1 (mtX8_partsOf (l := l) (D := D) (sz := H.size) h) (va_cwS 1 hts gX8_asked_X8_partsOf rfl rfl rfl nyX8_partsOf.2 ⟨Nat.le_of_ble_eq_true rfl, Nat.le_of_ble_eq_true rfl⟩) (wx_ps C hP hD hS) rfl rfl hl.1 rfl (lv_room (Nat.le_of_ble_eq_true rfl)) dX8_asked_89 ⟨Nat.zero_le _, Nat.zero_le _⟩) (fun r89 σ89 H locs h hP hD hS => ?_)
        refine lv_iload_n hx hb dX8_asked_92 rfl (lv_at hl 1 rfl) ?_
        refine lv_iload_n hx hb dX8_asked_93 rfl (lv_at hl 3 rfl) ?_
        refine lv_iconst (v := (-1)) hx hb dX8_asked_94 (by decide) ?_
        refine lv_ixor hx hb dX8_asked_95 ?_
        refine lv_iand hx hb dX8_asked_96 ?_
        refine lv_ishl hx hb dX8_asked_97 ?_
        refine lv_iconst (v := 1) hx hb dX8_asked_98 (by decide) ?_
        refine lv_iload_n hx hb dX8_asked_99 rfl (lv_at hl 1 rfl) ?_
        refine lv_ishl hx hb dX8_asked_100 ?_
        refine lv_iconst (v := (-1)) hx hb dX8_asked_101 (by decide) ?_
        refine lv_ixor hx hb dX8_asked_102 ?_
        refine lv_iand hx hb dX8_asked_103 ?_
        refine lv_topi (fun t104 e_t104 => ?_)
        have h := h t104 e_t104
        refine lv_istore (lv' := [(4, .int t104), (0, .ref (ad 0)), (1, .int x1), (2, .int x2), (3, .int x3)]) hx hb dX8_asked_104 hl (by decide) rfl (fun ls hl => ?_)
        refine lv_iload_n hx hb dX8_asked_106 rfl (lv_at hl 3 rfl) ?_
        refine lv_aload_n hx hb dX8_asked_107 rfl (lv_at hl 1 rfl) ?_
        refine wx_get C hP (q := 0) (ci := 8) (Nat.le_of_ble_eq_true rfl) (eC_0 _) (Cn := RX8) (T := TX8) (Nf := 11) rfl inX8_asked_X8 0 (by decide) (List.mem_of_getElem? (i := 1) rfl) (v := .ref (ad (cSt 0))) rfl dX8_asked_108 ?_
        refine wx_get C hP (q := (cSt 0)) (ci := 5) (lt_st (Nat.le_of_ble_eq_true rfl)) (eC_st (Nat.le_of_ble_eq_true rfl) _) (Cn := RX5) (T := TX5) (Nf := 3) rfl inX8_asked_X5 2 (by decide) (List.mem_of_getElem? (i := 6) rfl) (v := .int (σ89 (cSt 0) 2)) rfl dX8_asked_111 ?_
        refine lv_iload hx hb dX8_asked_114 (lv_at hl 0 rfl) ?_
        refine lv_iand hx hb dX8_asked_116 ?_
        refine wx_ci C hD hS (va_runS (As := [.int ((σ89 (cSt 0) 2) &&& t104)]) (rest := [.int x2]) C.1 (mtX8_isOdd (l := l) (D := D) (sz := H.size) h) (va_cwS 1 hts gX8_asked_X8_isOdd rfl rfl rfl nyX8_isOdd.2 ⟨Nat.le_of_ble_eq_true rfl, Nat.le_of_ble_eq_true rfl⟩) (wx_ps C hP hD hS) rfl rfl hl.1 rfl (lv_room (Nat.le_of_ble_eq_true rfl)) dX8_asked_117 ⟨Nat.zero_le _, Nat.zero_le _⟩) (fun r117 σ117 H locs h hP hD hS => ?_)
        refine lv_if_eq (tgt := 127) hx hb dX8_asked_120 (by decide) (fun c120 => ?_) (fun c120 => ?_)
        · have h := h.1 c120
          refine lv_iconst (v := (-1)) hx hb dX8_asked_127 (by decide) ?_
          refine lv_iadd hx hb dX8_asked_128 ?_
          refine lv_topi (fun t129 e_t129 => ?_)
          have h := h t129 e_t129
          refine lv_istore_n (lv' := [(2, .int t129), (4, .int t104), (0, .ref (ad 0)), (1, .int x1), (3, .int x3)]) hx hb dX8_asked_129 rfl hl (by decide) rfl (fun ls hl => ?_)
          obtain ⟨t130_1, e_t130_1⟩ : ∃ y : Int32, y = x3 + 1 := ⟨_, rfl⟩
          have h := h t130_1 e_t130_1
          refine lv_iinc (v := t130_1) (lv' := [(3, .int t130_1), (2, .int t129), (4, .int t104), (0, .ref (ad 0)), (1, .int x1)]) hx hb dX8_asked_130 hl (k := 4) rfl (by rw [e_t130_1]; rfl) (by decide) rfl (fun ls hl => ?_)
          refine lv_goto (tgt := 55) hx hb dX8_asked_133 (by decide) ?_
          exact ih σ117 x1 t129 t130_1  h _ _ _ hP hD hS (lv_sub hl [3, 4, 1, 0] rfl)
        · have h := h.2 c120
          refine lv_iconst (v := 1) hx hb dX8_asked_123 (by decide) ?_
          refine lv_goto (tgt := 128) hx hb dX8_asked_124 (by decide) ?_
          refine lv_iadd hx hb dX8_asked_128 ?_
          refine lv_topi (fun t129_1 e_t129_1 => ?_)
          have h := h t129_1 e_t129_1
          refine lv_istore_n (lv' := [(2, .int t129_1), (4, .int t104), (0, .ref (ad 0)), (1, .int x1), (3, .int x3)]) hx hb dX8_asked_129 rfl hl (by decide) rfl (fun ls hl => ?_)
          obtain ⟨t130_2, e_t130_2⟩ : ∃ y : Int32, y = x3 + 1 := ⟨_, rfl⟩
          have h := h t130_2 e_t130_2
          refine lv_iinc (v := t130_2) (lv' := [(3, .int t130_2), (2, .int t129_1), (4, .int t104), (0, .ref (ad 0)), (1, .int x1)]) hx hb dX8_asked_130 hl (k := 4) rfl (by rw [e_t130_2]; rfl) (by decide) rfl (fun ls hl => ?_)
          refine lv_goto (tgt := 55) hx hb dX8_asked_133 (by decide) ?_
          exact ih σ117 x1 t129_1 t130_2  h _ _ _ hP hD hS (lv_sub hl [3, 4, 1, 0] rfl)
set_option maxRecDepth 100000 in
set_option maxHeartbeats 4000000 in
theorem mtX8_asked {l : Launch} {D : va_G} {cI cB cS cR : ClassId} {ad : Nat → Nat} {tS tP : Nat} {kS vS : Nat → Nat} {sz : Nat} {σ : wx_Z} {x1 : Int32} {K : Int32 → wx_Z → Prop} (h : wpX8_asked σ x1 K) : Met l yX8_asked wsX8_asked rmX8_asked (wx_Pre D [(cI, .int), (cB, .byte), (cS, .object RX5), (cR, .array .int)] (wC_RO tS tP kS vS) 58 (wC_E cI cB cS cR ad) ad σ sz [.ref (ad 0), .int x1]) (va_Qi K (wx_B D [(cI, .int), (cB, .byte), (cS, .object RX5), (cR, .array .int)] 58 (wC_E cI cB cS cR ad) ad (va_A (wx_w 58 (wC_E cI cB cS cR ad) ad σ) sz)) (va_A (wx_w 58 (wC_E cI cB cS cR ad) ad σ) sz)) 0 0 (va_A (wx_w 58 (wC_E cI cB cS cR ad) ad σ) sz) := by
  unfold wpX8_asked at h
  refine wx_meti (cc := cX8_asked) (maxL := 5) (own := RX8) rfl (by decide) rfl (Nat.le_of_ble_eq_true rfl) (wC_ROok tS tP kS vS) ?_
  intro p e s m args below meth c A Q ls C Rt hP hD hS hl
  obtain ⟨⟨hx, hb, hml, hown, hts⟩, hA, hK, hRO, hro⟩ := id C
  have hl : lv_has ls 5 [(0, .ref (ad 0)), (1, .int x1)] := hl
  obtain ⟨H, eH⟩ : ∃ z, z = s.heap := ⟨_, rfl⟩
  obtain ⟨locs, eL⟩ : ∃ z : List Loc, z = [] := ⟨_, rfl⟩
  rw [← eH] at hP
  have hS : va_S A s.heap H locs := by rw [eH, eL]; exact hS
  have goal : W p l e rmX8_asked s m args below meth c H locs 0 0 Q (F0 m 0 ls []) := by
    refine lv_aload_n hx hb dX8_asked_0 rfl (lv_at hl 0 rfl) ?_
    refine wx_get C hP (q := 0) (ci := 8) (Nat.le_of_ble_eq_true rfl) (eC_0 _) (Cn := RX8) (T := TX8) (Nf := 11) rfl inX8_asked_X8 0 (by decide) (List.mem_of_getElem? (i := 1) rfl) (v := .ref (ad (cSt 0))) rfl dX8_asked_1 ?_
    refine wx_get C hP (q := (cSt 0)) (ci := 5) (lt_st (Nat.le_of_ble_eq_true rfl)) (eC_st (Nat.le_of_ble_eq_true rfl) _) (Cn := RX5) (T := TX5) (Nf := 3) rfl inX8_asked_X5 0 (by decide) (List.mem_of_getElem? (i := 2) rfl) (v := .ref (ad (cCo 0))) rfl dX8_asked_4 ?_
    refine lv_iload_n hx hb dX8_asked_7 rfl (lv_at hl 1 rfl) ?_
    refine wx_ci C hD hS (va_runV (As := [.int x1]) (rest := []) C.1 (mtX1_hasPlace (l := l) (D := D) (sz := H.size) (Nat.le_of_ble_eq_true rfl) h) (cwV 1 hts gX8_asked_X1_hasPlace rfl rfl rfl nyX1_hasPlace ⟨Nat.le_of_ble_eq_true rfl, Nat.le_of_ble_eq_true rfl⟩) (wx_pv C hP hD hS (q := (cCo 0)) (ci := 1) (lt_co (Nat.le_of_ble_eq_true rfl)) (eC_co (Nat.le_of_ble_eq_true rfl) _) rfl) rfl rfl hl.1 rfl (lv_room (Nat.le_of_ble_eq_true rfl)) dX8_asked_8 ⟨Nat.zero_le _, Nat.zero_le _⟩) (fun r8 σ8 H locs h hP hD hS => ?_)
    refine lv_if_ne (tgt := 21) hx hb dX8_asked_11 (by decide) (fun c11 => ?_) (fun c11 => ?_)
    · have h := h.1 c11
      refine lv_aload_n hx hb dX8_asked_21 rfl (lv_at hl 0 rfl) ?_
      refine wx_get C hP (q := 0) (ci := 8) (Nat.le_of_ble_eq_true rfl) (eC_0 _) (Cn := RX8) (T := TX8) (Nf := 11) rfl inX8_asked_X8 0 (by decide) (List.mem_of_getElem? (i := 1) rfl) (v := .ref (ad (cSt 0))) rfl dX8_asked_22 ?_
      refine wx_get C hP (q := (cSt 0)) (ci := 5) (lt_st (Nat.le_of_ble_eq_true rfl)) (eC_st (Nat.le_of_ble_eq_true rfl) _) (Cn := RX5) (T := TX5) (Nf := 3) rfl inX8_asked_X5 0 (by decide) (List.mem_of_getElem? (i := 2) rfl) (v := .ref (ad (cCo 0))) rfl dX8_asked_25 ?_
      refine wx_get C hP (q := (cCo 0)) (ci := 1) (lt_co (Nat.le_of_ble_eq_true rfl)) (eC_co (Nat.le_of_ble_eq_true rfl) _) (Cn := RX1) (T := TX1) (Nf := 5) rfl inX8_asked_X1 0 (by decide) (List.mem_of_getElem? (i := 3) rfl) (v := .int (σ8 (cCo 0) 0)) rfl dX8_asked_28 ?_
      refine lv_aload_n hx hb dX8_asked_31 rfl (lv_at hl 0 rfl) ?_
      refine wx_get C hP (q := 0) (ci := 8) (Nat.le_of_ble_eq_true rfl) (eC_0 _) (Cn := RX8) (T := TX8) (Nf := 11) rfl inX8_asked_X8 0 (by decide) (List.mem_of_getElem? (i := 1) rfl) (v := .ref (ad (cSt 0))) rfl dX8_asked_32 ?_
      refine wx_get C hP (q := (cSt 0)) (ci := 5) (lt_st (Nat.le_of_ble_eq_true rfl)) (eC_st (Nat.le_of_ble_eq_true rfl) _) (Cn := RX5) (T := TX5) (Nf := 3) rfl inX8_asked_X5 0 (by decide) (List.mem_of_getElem? (i := 2) rfl) (v := .ref (ad (cCo 0))) rfl dX8_asked_35 ?_
      refine wx_get C hP (q := (cCo 0)) (ci := 1) (lt_co (Nat.le_of_ble_eq_true rfl)) (eC_co (Nat.le_of_ble_eq_true rfl) _) (Cn := RX1) (T := TX1) (Nf := 5) rfl inX8_asked_X1 1 (by decide) (List.mem_of_getElem? (i := 4) rfl) (v := .int (σ8 (cCo 0) 1)) rfl dX8_asked_38 ?_
      refine lv_icmp_ne (tgt := 51) hx hb dX8_asked_41 (by decide) (fun c41 => ?_) (fun c41 => ?_)
      · have h := h.1 c41
        refine lv_iconst (v := 0) hx hb dX8_asked_51 (by decide) ?_
        refine lv_istore_n (lv' := [(2, .int 0), (0, .ref (ad 0)), (1, .int x1)]) hx hb dX8_asked_52 rfl hl (by decide) rfl (fun ls hl => ?_)
        refine lv_iconst (v := 0) hx hb dX8_asked_53 (by decide) ?_
        refine lv_istore_n (lv' := [(3, .int 0), (2, .int 0), (0, .ref (ad 0)), (1, .int x1)]) hx hb dX8_asked_54 rfl hl (by decide) rfl (fun ls hl => ?_)
        obtain ⟨n55, h⟩ := h
        exact bX8_asked_55 C Rt n55 σ8 x1 0 0  h _ _ _ hP hD hS (lv_sub hl [2, 3, 1, 0] rfl)
      · have h := h.2 c41
        refine lv_aload_n hx hb dX8_asked_44 rfl (lv_at hl 0 rfl) ?_
        refine lv_bipush (v := (-3)) hx hb dX8_asked_45 (by decide) ?_
        refine wx_ci C hD hS (va_runV (As := [.int (-3)]) (rest := []) C.1 (mtX8_refuseNo (l := l) (D := D) (sz := H.size) h) (cwV 1 hts gX8_asked_X8_refuseNo rfl rfl rfl nyX8_refuseNo ⟨Nat.le_of_ble_eq_true rfl, Nat.le_of_ble_eq_true rfl⟩) (wx_pv C hP hD hS (q := 0) (ci := 8) (Nat.le_of_ble_eq_true rfl) (eC_0 _) rfl) rfl rfl hl.1 rfl (lv_room (Nat.le_of_ble_eq_true rfl)) dX8_asked_47 ⟨Nat.zero_le _, Nat.zero_le _⟩) (fun r47 σ47 H locs h hP hD hS => ?_)
        exact Rt _ _ _ _ _ _ h hP hD hS dX8_asked_50
    · have h := h.2 c11
      refine lv_aload_n hx hb dX8_asked_14 rfl (lv_at hl 0 rfl) ?_
      refine lv_bipush (v := (-2)) hx hb dX8_asked_15 (by decide) ?_
      refine wx_ci C hD hS (va_runV (As := [.int (-2)]) (rest := []) C.1 (mtX8_refuseBad (l := l) (D := D) (sz := H.size) h) (cwV 1 hts gX8_asked_X8_refuseBad rfl rfl rfl nyX8_refuseBad ⟨Nat.le_of_ble_eq_true rfl, Nat.le_of_ble_eq_true rfl⟩) (wx_pv C hP hD hS (q := 0) (ci := 8) (Nat.le_of_ble_eq_true rfl) (eC_0 _) rfl) rfl rfl hl.1 rfl (lv_room (Nat.le_of_ble_eq_true rfl)) dX8_asked_17 ⟨Nat.zero_le _, Nat.zero_le _⟩) (fun r17 σ17 H locs h hP hD hS => ?_)
      exact Rt _ _ _ _ _ _ h hP hD hS dX8_asked_20
  rw [eH, eL] at goal
  exact goal
abbrev rmX8_type : Room := { frames := 2, cells := 0, slots := 0, locals := 61 }
set_option maxRecDepth 20000 in
theorem inX8_type_X6 : ∀ w ∈ u_ws RX6 TX6 4, w ∈ wsX8_type := by decide +kernel
set_option maxRecDepth 20000 in
theorem inX8_type_X8 : ∀ w ∈ u_ws RX8 TX8 11, w ∈ wsX8_type := by decide +kernel
theorem nyX6_append : yX6_append.cls = RX6 ∧ yX6_append.cls ≠ "java/lang/invoke/MethodHandle" ∧ yX6_append.cls ≠ "java/lang/invoke/VarHandle" ∧ (parseMethodDescriptor yX6_append.desc).map (fun d => d.parameters.length) = some 1 := by decide +kernel
set_option maxRecDepth 100000 in
set_option maxHeartbeats 4000000 in
theorem mtX8_type {l : Launch} {D : va_G} {cI cB cS cR : ClassId} {ad : Nat → Nat} {tS tP : Nat} {kS vS : Nat → Nat} {sz : Nat} {σ : wx_Z} {x1 : Int32} {K : Int32 → wx_Z → Prop} (h : wpX8_type σ x1 K) : Met l yX8_type wsX8_type rmX8_type (wx_Pre D [(cI, .int), (cB, .byte), (cS, .object RX5), (cR, .array .int)] (wC_RO tS tP kS vS) 58 (wC_E cI cB cS cR ad) ad σ sz [.ref (ad 0), .int x1]) (va_Qi K (wx_B D [(cI, .int), (cB, .byte), (cS, .object RX5), (cR, .array .int)] 58 (wC_E cI cB cS cR ad) ad (va_A (wx_w 58 (wC_E cI cB cS cR ad) ad σ) sz)) (va_A (wx_w 58 (wC_E cI cB cS cR ad) ad σ) sz)) 0 0 (va_A (wx_w 58 (wC_E cI cB cS cR ad) ad σ) sz) := by
  unfold wpX8_type at h
  refine wx_meti (cc := cX8_type) (maxL := 2) (own := RX8) rfl (by decide) rfl (Nat.le_of_ble_eq_true rfl) (wC_ROok tS tP kS vS) ?_
  intro p e s m args below meth c A Q ls C Rt hP hD hS hl
  obtain ⟨⟨hx, hb, hml, hown, hts⟩, hA, hK, hRO, hro⟩ := id C
  have hl : lv_has ls 2 [(0, .ref (ad 0)), (1, .int x1)] := hl
  obtain ⟨H, eH⟩ : ∃ z, z = s.heap := ⟨_, rfl⟩
  obtain ⟨locs, eL⟩ : ∃ z : List Loc, z = [] := ⟨_, rfl⟩
  rw [← eH] at hP
  have hS : va_S A s.heap H locs := by rw [eH, eL]; exact hS
  have goal : W p l e rmX8_type s m args below meth c H locs 0 0 Q (F0 m 0 ls []) := by
    refine lv_iload_n hx hb dX8_type_0 rfl (lv_at hl 1 rfl) ?_
    refine lv_if_lt (tgt := 10) hx hb dX8_type_1 (by decide) (fun c1 => ?_) (fun c1 => ?_)
    · have h := h.1 c1
      refine lv_aload_n hx hb dX8_type_10 rfl (lv_at hl 0 rfl) ?_
      refine lv_bipush (v := (-2)) hx hb dX8_type_11 (by decide) ?_
      refine wx_ci C hD hS (va_runV (As := [.int (-2)]) (rest := []) C.1 (mtX8_refuseBad (l := l) (D := D) (sz := H.size) h) (cwV 1 hts gX8_type_X8_refuseBad rfl rfl rfl nyX8_refuseBad ⟨Nat.le_of_ble_eq_true rfl, Nat.le_of_ble_eq_true rfl⟩) (wx_pv C hP hD hS (q := 0) (ci := 8) (Nat.le_of_ble_eq_true rfl) (eC_0 _) rfl) rfl rfl hl.1 rfl (lv_room (Nat.le_of_ble_eq_true rfl)) dX8_type_13 ⟨Nat.zero_le _, Nat.zero_le _⟩) (fun r13 σ13 H locs h hP hD hS => ?_)
      exact Rt _ _ _ _ _ _ h hP hD hS dX8_type_16
    · have h := h.2 c1
      refine lv_iload_n hx hb dX8_type_4 rfl (lv_at hl 1 rfl) ?_
      refine lv_bipush (v := 127) hx hb dX8_type_5 (by decide) ?_
      refine lv_icmp_le (tgt := 17) hx hb dX8_type_7 (by decide) (fun c7 => ?_) (fun c7 => ?_)
      · have h := h.1 c7
        refine lv_aload_n hx hb dX8_type_17 rfl (lv_at hl 0 rfl) ?_
        refine wx_get C hP (q := 0) (ci := 8) (Nat.le_of_ble_eq_true rfl) (eC_0 _) (Cn := RX8) (T := TX8) (Nf := 11) rfl inX8_type_X8 3 (by decide) (List.mem_of_getElem? (i := 1) rfl) (v := .ref (ad 43)) rfl dX8_type_18 ?_
        refine wx_get C hP (q := 43) (ci := 6) (Nat.le_of_ble_eq_true rfl) (eC_43 _) (Cn := RX6) (T := TX6) (Nf := 4) rfl inX8_type_X6 2 (by decide) (List.mem_of_getElem? (i := 2) rfl) (v := .int (σ 43 2)) rfl dX8_type_21 ?_
        refine lv_bipush (v := 120) hx hb dX8_type_24 (by decide) ?_
        refine lv_icmp_lt (tgt := 42) hx hb dX8_type_26 (by decide) (fun c26 => ?_) (fun c26 => ?_)
        · have h := h.1 c26
          refine lv_aload_n hx hb dX8_type_42 rfl (lv_at hl 0 rfl) ?_
          refine wx_get C hP (q := 0) (ci := 8) (Nat.le_of_ble_eq_true rfl) (eC_0 _) (Cn := RX8) (T := TX8) (Nf := 11) rfl inX8_type_X8 3 (by decide) (List.mem_of_getElem? (i := 1) rfl) (v := .ref (ad 43)) rfl dX8_type_43 ?_
          refine lv_iload_n hx hb dX8_type_46 rfl (lv_at hl 1 rfl) ?_
          refine wx_cv C hD hS (va_runV (As := [.int x1]) (rest := []) C.1 (mtX6_append (l := l) (D := D) (sz := H.size) h) (cwV 1 hts gX8_type_X6_append rfl rfl rfl nyX6_append ⟨Nat.le_of_ble_eq_true rfl, Nat.le_of_ble_eq_true rfl⟩) (wx_pv C hP hD hS (q := 43) (ci := 6) (Nat.le_of_ble_eq_true rfl) (eC_43 _) rfl) rfl rfl hl.1 rfl (lv_room (Nat.le_of_ble_eq_true rfl)) dX8_type_47 ⟨Nat.zero_le _, Nat.zero_le _⟩) (fun σ47 H locs h hP hD hS => ?_)
          refine lv_aload_n hx hb dX8_type_50 rfl (lv_at hl 0 rfl) ?_
          refine wx_get C hP (q := 0) (ci := 8) (Nat.le_of_ble_eq_true rfl) (eC_0 _) (Cn := RX8) (T := TX8) (Nf := 11) rfl inX8_type_X8 3 (by decide) (List.mem_of_getElem? (i := 1) rfl) (v := .ref (ad 43)) rfl dX8_type_51 ?_
          refine wx_get C hP (q := 43) (ci := 6) (Nat.le_of_ble_eq_true rfl) (eC_43 _) (Cn := RX6) (T := TX6) (Nf := 4) rfl inX8_type_X6 2 (by decide) (List.mem_of_getElem? (i := 2) rfl) (v := .int (σ47 43 2)) rfl dX8_type_54 ?_
          exact Rt _ _ _ _ _ _ h hP hD hS dX8_type_57
        · have h := h.2 c26
          refine lv_aload_n hx hb dX8_type_29 rfl (lv_at hl 0 rfl) ?_
          refine lv_dup hx hb dX8_type_30 rfl ?_
          refine wx_get C hP (q := 0) (ci := 8) (Nat.le_of_ble_eq_true rfl) (eC_0 _) (Cn := RX8) (T := TX8) (Nf := 11) rfl inX8_type_X8 10 (by decide) (List.mem_of_getElem? (i := 3) rfl) (v := .int (σ 0 10)) rfl dX8_type_31 ?_
          refine lv_iconst (v := 1) hx hb dX8_type_34 (by decide) ?_
          refine lv_iadd hx hb dX8_type_35 ?_
          refine wx_put C hP hD hS (q := 0) (ci := 8) (Nat.le_of_ble_eq_true rfl) (eC_0 _) (Cn := RX8) (T := TX8) (Nf := 11) rfl inX8_type_X8 tyX8 tyX8_ok nmX8 10 (by decide) (List.mem_of_getElem? (i := 3) rfl) rfl rfl (Nat.le_of_ble_eq_true rfl) rfl dX8_type_36 (fun H locs hP hD hS => ?_)
          generalize e_σ36 : wx_up σ 0 10 ((σ 0 10) + 1) = σ36 at hP hD
          have h := h σ36 e_σ36.symm
          refine lv_bipush (v := (-4)) hx hb dX8_type_39 (by decide) ?_
          exact Rt _ _ _ _ _ _ h hP hD hS dX8_type_41
      · have h := h.2 c7
        refine lv_aload_n hx hb dX8_type_10 rfl (lv_at hl 0 rfl) ?_
        refine lv_bipush (v := (-2)) hx hb dX8_type_11 (by decide) ?_
        refine wx_ci C hD hS (va_runV (As := [.int (-2)]) (rest := []) C.1 (mtX8_refuseBad (l := l) (D := D) (sz := H.size) h) (cwV 1 hts gX8_type_X8_refuseBad rfl rfl rfl nyX8_refuseBad ⟨Nat.le_of_ble_eq_true rfl, Nat.le_of_ble_eq_true rfl⟩) (wx_pv C hP hD hS (q := 0) (ci := 8) (Nat.le_of_ble_eq_true rfl) (eC_0 _) rfl) rfl rfl hl.1 rfl (lv_room (Nat.le_of_ble_eq_true rfl)) dX8_type_13 ⟨Nat.zero_le _, Nat.zero_le _⟩) (fun r13_1 σ13_1 H locs h hP hD hS => ?_)
        exact Rt _ _ _ _ _ _ h hP hD hS dX8_type_16
  rw [eH, eL] at goal
  exact goal
abbrev rmX8_clear : Room := { frames := 1, cells := 0, slots := 0, locals := 40 }
set_option maxRecDepth 20000 in
theorem inX8_clear_X6 : ∀ w ∈ u_ws RX6 TX6 4, w ∈ wsX8_clear := by decide +kernel
set_option maxRecDepth 20000 in
theorem inX8_clear_X8 : ∀ w ∈ u_ws RX8 TX8 11, w ∈ wsX8_clear := by decide +kernel
set_option maxRecDepth 100000 in
set_option maxHeartbeats 4000000 in
theorem mtX8_clear {l : Launch} {D : va_G} {cI cB cS cR : ClassId} {ad : Nat → Nat} {tS tP : Nat} {kS vS : Nat → Nat} {sz : Nat} {σ : wx_Z} {K : Int32 → wx_Z → Prop} (h : wpX8_clear σ K) : Met l yX8_clear wsX8_clear rmX8_clear (wx_Pre D [(cI, .int), (cB, .byte), (cS, .object RX5), (cR, .array .int)] (wC_RO tS tP kS vS) 58 (wC_E cI cB cS cR ad) ad σ sz [.ref (ad 0)]) (va_Qi K (wx_B D [(cI, .int), (cB, .byte), (cS, .object RX5), (cR, .array .int)] 58 (wC_E cI cB cS cR ad) ad (va_A (wx_w 58 (wC_E cI cB cS cR ad) ad σ) sz)) (va_A (wx_w 58 (wC_E cI cB cS cR ad) ad σ) sz)) 0 0 (va_A (wx_w 58 (wC_E cI cB cS cR ad) ad σ) sz) := by
  unfold wpX8_clear at h
  refine wx_meti (cc := cX8_clear) (maxL := 2) (own := RX8) rfl (by decide) rfl (Nat.le_of_ble_eq_true rfl) (wC_ROok tS tP kS vS) ?_
  intro p e s m args below meth c A Q ls C Rt hP hD hS hl
  obtain ⟨⟨hx, hb, hml, hown, hts⟩, hA, hK, hRO, hro⟩ := id C
  have hl : lv_has ls 2 [(0, .ref (ad 0))] := hl
  obtain ⟨H, eH⟩ : ∃ z, z = s.heap := ⟨_, rfl⟩
  obtain ⟨locs, eL⟩ : ∃ z : List Loc, z = [] := ⟨_, rfl⟩
  rw [← eH] at hP
  have hS : va_S A s.heap H locs := by rw [eH, eL]; exact hS
  have goal : W p l e rmX8_clear s m args below meth c H locs 0 0 Q (F0 m 0 ls []) := by
    refine lv_aload_n hx hb dX8_clear_0 rfl (lv_at hl 0 rfl) ?_
    refine wx_get C hP (q := 0) (ci := 8) (Nat.le_of_ble_eq_true rfl) (eC_0 _) (Cn := RX8) (T := TX8) (Nf := 11) rfl inX8_clear_X8 3 (by decide) (List.mem_of_getElem? (i := 1) rfl) (v := .ref (ad 43)) rfl dX8_clear_1 ?_
    refine wx_get C hP (q := 43) (ci := 6) (Nat.le_of_ble_eq_true rfl) (eC_43 _) (Cn := RX6) (T := TX6) (Nf := 4) rfl inX8_clear_X6 2 (by decide) (List.mem_of_getElem? (i := 2) rfl) (v := .int (σ 43 2)) rfl dX8_clear_4 ?_
    refine lv_istore_n (lv' := [(1, .int (σ 43 2)), (0, .ref (ad 0))]) hx hb dX8_clear_7 rfl hl (by decide) rfl (fun ls hl => ?_)
    refine lv_aload_n hx hb dX8_clear_8 rfl (lv_at hl 1 rfl) ?_
    refine wx_get C hP (q := 0) (ci := 8) (Nat.le_of_ble_eq_true rfl) (eC_0 _) (Cn := RX8) (T := TX8) (Nf := 11) rfl inX8_clear_X8 3 (by decide) (List.mem_of_getElem? (i := 1) rfl) (v := .ref (ad 43)) rfl dX8_clear_9 ?_
    refine lv_iconst (v := 0) hx hb dX8_clear_12 (by decide) ?_
    refine wx_put C hP hD hS (q := 43) (ci := 6) (Nat.le_of_ble_eq_true rfl) (eC_43 _) (Cn := RX6) (T := TX6) (Nf := 4) rfl inX8_clear_X6 tyX6 tyX6_ok nmX6 2 (by decide) (List.mem_of_getElem? (i := 2) rfl) rfl rfl (Nat.le_of_ble_eq_true rfl) rfl dX8_clear_13 (fun H locs hP hD hS => ?_)
    generalize e_σ13 : wx_up σ 43 2 0 = σ13 at hP hD
    have h := h σ13 e_σ13.symm
    refine lv_iload_n hx hb dX8_clear_16 rfl (lv_at hl 0 rfl) ?_
    exact Rt _ _ _ _ _ _ h hP hD hS dX8_clear_17
  rw [eH, eL] at goal
  exact goal
abbrev rmX8_orderCode : Room := { frames := 4, cells := 0, slots := 0, locals := 108 }
set_option maxRecDepth 20000 in
theorem inX8_orderCode_X8 : ∀ w ∈ u_ws RX8 TX8 11, w ∈ wsX8_orderCode := by decide +kernel
theorem nyX6_readNumber : yX6_readNumber.cls = RX6 ∧ yX6_readNumber.cls ≠ "java/lang/invoke/MethodHandle" ∧ yX6_readNumber.cls ≠ "java/lang/invoke/VarHandle" ∧ (parseMethodDescriptor yX6_readNumber.desc).map (fun d => d.parameters.length) = some 2 := by decide +kernel
set_option maxRecDepth 100000 in
set_option maxHeartbeats 4000000 in
theorem mtX8_orderCode {l : Launch} {D : va_G} {cI cB cS cR : ClassId} {ad : Nat → Nat} {tS tP : Nat} {kS vS : Nat → Nat} {sz : Nat} {σ : wx_Z} {K : wx_Z → Prop} (h : wpX8_orderCode σ K) : Met l yX8_orderCode wsX8_orderCode rmX8_orderCode (wx_Pre D [(cI, .int), (cB, .byte), (cS, .object RX5), (cR, .array .int)] (wC_RO tS tP kS vS) 58 (wC_E cI cB cS cR ad) ad σ sz [.ref (ad 0)]) (va_Qv K (wx_B D [(cI, .int), (cB, .byte), (cS, .object RX5), (cR, .array .int)] 58 (wC_E cI cB cS cR ad) ad (va_A (wx_w 58 (wC_E cI cB cS cR ad) ad σ) sz)) (va_A (wx_w 58 (wC_E cI cB cS cR ad) ad σ) sz)) 0 0 (va_A (wx_w 58 (wC_E cI cB cS cR ad) ad σ) sz) := by
  unfold wpX8_orderCode at h
  refine wx_metv (cc := cX8_orderCode) (maxL := 3) (own := RX8) rfl (by decide) rfl (Nat.le_of_ble_eq_true rfl) (wC_ROok tS tP kS vS) ?_
  intro p e s m args below meth c A Q ls C Rt hP hD hS hl
  obtain ⟨⟨hx, hb, hml, hown, hts⟩, hA, hK, hRO, hro⟩ := id C
  have hl : lv_has ls 3 [(0, .ref (ad 0))] := hl
  obtain ⟨H, eH⟩ : ∃ z, z = s.heap := ⟨_, rfl⟩
  obtain ⟨locs, eL⟩ : ∃ z : List Loc, z = [] := ⟨_, rfl⟩
  rw [← eH] at hP
  have hS : va_S A s.heap H locs := by rw [eH, eL]; exact hS
  have goal : W p l e rmX8_orderCode s m args below meth c H locs 0 0 Q (F0 m 0 ls []) := by
    refine lv_aload_n hx hb dX8_orderCode_0 rfl (lv_at hl 0 rfl) ?_
    refine wx_get C hP (q := 0) (ci := 8) (Nat.le_of_ble_eq_true rfl) (eC_0 _) (Cn := RX8) (T := TX8) (Nf := 11) rfl inX8_orderCode_X8 3 (by decide) (List.mem_of_getElem? (i := 1) rfl) (v := .ref (ad 43)) rfl dX8_orderCode_1 ?_
    refine lv_iconst (v := 0) hx hb dX8_orderCode_4 (by decide) ?_
    refine lv_iconst (v := 5) hx hb dX8_orderCode_5 (by decide) ?_
    refine wx_ci C hD hS (va_runV (As := [.int 0, .int 5]) (rest := []) C.1 (mtX6_readNumber (l := l) (D := D) (sz := H.size) h) (cwV 2 hts gX8_orderCode_X6_readNumber rfl rfl rfl nyX6_readNumber ⟨Nat.le_of_ble_eq_true rfl, Nat.le_of_ble_eq_true rfl⟩) (wx_pv C hP hD hS (q := 43) (ci := 6) (Nat.le_of_ble_eq_true rfl) (eC_43 _) rfl) rfl rfl hl.1 rfl (lv_room (Nat.le_of_ble_eq_true rfl)) dX8_orderCode_6 ⟨Nat.zero_le _, Nat.zero_le _⟩) (fun r6 σ6 H locs h hP hD hS => ?_)
    refine lv_istore_n (lv' := [(1, .int r6), (0, .ref (ad 0))]) hx hb dX8_orderCode_9 rfl hl (by decide) rfl (fun ls hl => ?_)
    refine lv_aload_n hx hb dX8_orderCode_10 rfl (lv_at hl 1 rfl) ?_
    refine wx_get C hP (q := 0) (ci := 8) (Nat.le_of_ble_eq_true rfl) (eC_0 _) (Cn := RX8) (T := TX8) (Nf := 11) rfl inX8_orderCode_X8 3 (by decide) (List.mem_of_getElem? (i := 1) rfl) (v := .ref (ad 43)) rfl dX8_orderCode_11 ?_
    refine lv_iload_n hx hb dX8_orderCode_14 rfl (lv_at hl 0 rfl) ?_
    refine lv_iconst (v := 5) hx hb dX8_orderCode_15 (by decide) ?_
    refine wx_ci C hD hS (va_runV (As := [.int r6, .int 5]) (rest := []) C.1 (mtX6_readNumber (l := l) (D := D) (sz := H.size) h) (cwV 2 hts gX8_orderCode_X6_readNumber rfl rfl rfl nyX6_readNumber ⟨Nat.le_of_ble_eq_true rfl, Nat.le_of_ble_eq_true rfl⟩) (wx_pv C hP hD hS (q := 43) (ci := 6) (Nat.le_of_ble_eq_true rfl) (eC_43 _) rfl) rfl rfl hl.1 rfl (lv_room (Nat.le_of_ble_eq_true rfl)) dX8_orderCode_16 ⟨Nat.zero_le _, Nat.zero_le _⟩) (fun r16 σ16 H locs h hP hD hS => ?_)
    refine lv_istore_n (lv' := [(2, .int r16), (1, .int r6), (0, .ref (ad 0))]) hx hb dX8_orderCode_19 rfl hl (by decide) rfl (fun ls hl => ?_)
    refine lv_aload_n hx hb dX8_orderCode_20 rfl (lv_at hl 2 rfl) ?_
    refine wx_get C hP (q := 0) (ci := 8) (Nat.le_of_ble_eq_true rfl) (eC_0 _) (Cn := RX8) (T := TX8) (Nf := 11) rfl inX8_orderCode_X8 0 (by decide) (List.mem_of_getElem? (i := 2) rfl) (v := .ref (ad (cSt 0))) rfl dX8_orderCode_21 ?_
    refine lv_iload_n hx hb dX8_orderCode_24 rfl (lv_at hl 1 rfl) ?_
    refine lv_iload_n hx hb dX8_orderCode_25 rfl (lv_at hl 0 rfl) ?_
    refine wx_cv C hD hS (va_runV (As := [.int r6, .int r16]) (rest := []) C.1 (mtX5_start (l := l) (D := D) (sz := H.size) (Nat.le_of_ble_eq_true rfl) h) (cwV 2 hts gX8_orderCode_X5_start rfl rfl rfl nyX5_start ⟨Nat.le_of_ble_eq_true rfl, Nat.le_of_ble_eq_true rfl⟩) (wx_pv C hP hD hS (q := (cSt 0)) (ci := 5) (lt_st (Nat.le_of_ble_eq_true rfl)) (eC_st (Nat.le_of_ble_eq_true rfl) _) rfl) rfl rfl hl.1 rfl (lv_room (Nat.le_of_ble_eq_true rfl)) dX8_orderCode_26 ⟨Nat.zero_le _, Nat.zero_le _⟩) (fun σ26 H locs h hP hD hS => ?_)
    exact Rt _ _ _ _ _ h hP hD hS dX8_orderCode_29
  rw [eH, eL] at goal
  exact goal
abbrev rmX8_orderSoft : Room := { frames := 3, cells := 0, slots := 0, locals := 89 }
set_option maxRecDepth 20000 in
theorem inX8_orderSoft_X1 : ∀ w ∈ u_ws RX1 TX1 5, w ∈ wsX8_orderSoft := by decide +kernel
set_option maxRecDepth 20000 in
theorem inX8_orderSoft_X5 : ∀ w ∈ u_ws RX5 TX5 3, w ∈ wsX8_orderSoft := by decide +kernel
set_option maxRecDepth 20000 in
theorem inX8_orderSoft_X8 : ∀ w ∈ u_ws RX8 TX8 11, w ∈ wsX8_orderSoft := by decide +kernel
set_option maxRecDepth 100000 in
set_option maxHeartbeats 4000000 in
theorem mtX8_orderSoft {l : Launch} {D : va_G} {cI cB cS cR : ClassId} {ad : Nat → Nat} {tS tP : Nat} {kS vS : Nat → Nat} {sz : Nat} {σ : wx_Z} {K : wx_Z → Prop} (h : wpX8_orderSoft σ K) : Met l yX8_orderSoft wsX8_orderSoft rmX8_orderSoft (wx_Pre D [(cI, .int), (cB, .byte), (cS, .object RX5), (cR, .array .int)] (wC_RO tS tP kS vS) 58 (wC_E cI cB cS cR ad) ad σ sz [.ref (ad 0)]) (va_Qv K (wx_B D [(cI, .int), (cB, .byte), (cS, .object RX5), (cR, .array .int)] 58 (wC_E cI cB cS cR ad) ad (va_A (wx_w 58 (wC_E cI cB cS cR ad) ad σ) sz)) (va_A (wx_w 58 (wC_E cI cB cS cR ad) ad σ) sz)) 0 0 (va_A (wx_w 58 (wC_E cI cB cS cR ad) ad σ) sz) := by
  unfold wpX8_orderSoft at h
  refine wx_metv (cc := cX8_orderSoft) (maxL := 2) (own := RX8) rfl (by decide) rfl (Nat.le_of_ble_eq_true rfl) (wC_ROok tS tP kS vS) ?_
  intro p e s m args below meth c A Q ls C Rt hP hD hS hl
  obtain ⟨⟨hx, hb, hml, hown, hts⟩, hA, hK, hRO, hro⟩ := id C
  have hl : lv_has ls 2 [(0, .ref (ad 0))] := hl
  obtain ⟨H, eH⟩ : ∃ z, z = s.heap := ⟨_, rfl⟩
  obtain ⟨locs, eL⟩ : ∃ z : List Loc, z = [] := ⟨_, rfl⟩
  rw [← eH] at hP
  have hS : va_S A s.heap H locs := by rw [eH, eL]; exact hS
  have goal : W p l e rmX8_orderSoft s m args below meth c H locs 0 0 Q (F0 m 0 ls []) := by
    refine lv_aload_n hx hb dX8_orderSoft_0 rfl (lv_at hl 0 rfl) ?_
    refine wx_get C hP (q := 0) (ci := 8) (Nat.le_of_ble_eq_true rfl) (eC_0 _) (Cn := RX8) (T := TX8) (Nf := 11) rfl inX8_orderSoft_X8 3 (by decide) (List.mem_of_getElem? (i := 1) rfl) (v := .ref (ad 43)) rfl dX8_orderSoft_1 ?_
    refine lv_iconst (v := 0) hx hb dX8_orderSoft_4 (by decide) ?_
    refine lv_aload_n hx hb dX8_orderSoft_5 rfl (lv_at hl 0 rfl) ?_
    refine wx_get C hP (q := 0) (ci := 8) (Nat.le_of_ble_eq_true rfl) (eC_0 _) (Cn := RX8) (T := TX8) (Nf := 11) rfl inX8_orderSoft_X8 0 (by decide) (List.mem_of_getElem? (i := 2) rfl) (v := .ref (ad (cSt 0))) rfl dX8_orderSoft_6 ?_
    refine wx_get C hP (q := (cSt 0)) (ci := 5) (lt_st (Nat.le_of_ble_eq_true rfl)) (eC_st (Nat.le_of_ble_eq_true rfl) _) (Cn := RX5) (T := TX5) (Nf := 3) rfl inX8_orderSoft_X5 0 (by decide) (List.mem_of_getElem? (i := 3) rfl) (v := .ref (ad (cCo 0))) rfl dX8_orderSoft_9 ?_
    refine wx_get C hP (q := (cCo 0)) (ci := 1) (lt_co (Nat.le_of_ble_eq_true rfl)) (eC_co (Nat.le_of_ble_eq_true rfl) _) (Cn := RX1) (T := TX1) (Nf := 5) rfl inX8_orderSoft_X1 2 (by decide) (List.mem_of_getElem? (i := 4) rfl) (v := .int (σ (cCo 0) 2)) rfl dX8_orderSoft_12 ?_
    refine lv_iconst (v := 1) hx hb dX8_orderSoft_15 (by decide) ?_
    refine lv_isub hx hb dX8_orderSoft_16 ?_
    refine wx_ci C hD hS (va_runV (As := [.int 0, .int ((σ (cCo 0) 2) - 1)]) (rest := []) C.1 (mtX6_readNumber (l := l) (D := D) (sz := H.size) h) (cwV 2 hts gX8_orderSoft_X6_readNumber rfl rfl rfl nyX6_readNumber ⟨Nat.le_of_ble_eq_true rfl, Nat.le_of_ble_eq_true rfl⟩) (wx_pv C hP hD hS (q := 43) (ci := 6) (Nat.le_of_ble_eq_true rfl) (eC_43 _) rfl) rfl rfl hl.1 rfl (lv_room (Nat.le_of_ble_eq_true rfl)) dX8_orderSoft_17 ⟨Nat.zero_le _, Nat.zero_le _⟩) (fun r17 σ17 H locs h hP hD hS => ?_)
    refine lv_istore_n (lv' := [(1, .int r17), (0, .ref (ad 0))]) hx hb dX8_orderSoft_20 rfl hl (by decide) rfl (fun ls hl => ?_)
    refine lv_aload_n hx hb dX8_orderSoft_21 rfl (lv_at hl 1 rfl) ?_
    refine wx_get C hP (q := 0) (ci := 8) (Nat.le_of_ble_eq_true rfl) (eC_0 _) (Cn := RX8) (T := TX8) (Nf := 11) rfl inX8_orderSoft_X8 0 (by decide) (List.mem_of_getElem? (i := 2) rfl) (v := .ref (ad (cSt 0))) rfl dX8_orderSoft_22 ?_
    refine wx_get C hP (q := (cSt 0)) (ci := 5) (lt_st (Nat.le_of_ble_eq_true rfl)) (eC_st (Nat.le_of_ble_eq_true rfl) _) (Cn := RX5) (T := TX5) (Nf := 3) rfl inX8_orderSoft_X5 1 (by decide) (List.mem_of_getElem? (i := 5) rfl) (v := .ref (ad (cSo 0))) rfl dX8_orderSoft_25 ?_
    refine lv_iload_n hx hb dX8_orderSoft_28 rfl (lv_at hl 0 rfl) ?_
    refine lv_aload_n hx hb dX8_orderSoft_29 rfl (lv_at hl 1 rfl) ?_
    refine wx_get C hP (q := 0) (ci := 8) (Nat.le_of_ble_eq_true rfl) (eC_0 _) (Cn := RX8) (T := TX8) (Nf := 11) rfl inX8_orderSoft_X8 3 (by decide) (List.mem_of_getElem? (i := 1) rfl) (v := .ref (ad 43)) rfl dX8_orderSoft_30 ?_
    refine lv_bipush (v := (-99)) hx hb dX8_orderSoft_33 (by decide) ?_
    refine lv_bipush (v := 99) hx hb dX8_orderSoft_35 (by decide) ?_
    refine wx_ci C hD hS (va_runV (As := [.int (-99), .int 99]) (rest := [.int r17, .ref (ad (cSo 0))]) C.1 (mtX6_readNumber (l := l) (D := D) (sz := H.size) h) (cwV 2 hts gX8_orderSoft_X6_readNumber rfl rfl rfl nyX6_readNumber ⟨Nat.le_of_ble_eq_true rfl, Nat.le_of_ble_eq_true rfl⟩) (wx_pv C hP hD hS (q := 43) (ci := 6) (Nat.le_of_ble_eq_true rfl) (eC_43 _) rfl) rfl rfl hl.1 rfl (lv_room (Nat.le_of_ble_eq_true rfl)) dX8_orderSoft_37 ⟨Nat.zero_le _, Nat.zero_le _⟩) (fun r37 σ37 H locs h hP hD hS => ?_)
    refine wx_ist C hP hD hS (q := (cSo 0)) (lt_so (Nat.le_of_ble_eq_true rfl)) (eC_so (Nat.le_of_ble_eq_true rfl)) 0 rfl h.1 dX8_orderSoft_40 (fun H locs hP hD hS => ?_)
    generalize e_σ40 : wx_up σ37 (cSo 0) (Int32.toNatClampNeg r17) r37 = σ40 at hP hD
    have h := h.2 σ40 e_σ40.symm
    exact Rt _ _ _ _ _ h hP hD hS dX8_orderSoft_41
  rw [eH, eL] at goal
  exact goal
abbrev rmX8_carryOutNext : Room := { frames := 11, cells := 0, slots := 0, locals := 274 }
set_option maxRecDepth 20000 in
theorem inX8_carryOutNext_X0 : ∀ w ∈ u_ws RX0 TX0 5, w ∈ wsX8_carryOutNext := by decide +kernel
set_option maxRecDepth 20000 in
theorem inX8_carryOutNext_X1 : ∀ w ∈ u_ws RX1 TX1 5, w ∈ wsX8_carryOutNext := by decide +kernel
set_option maxRecDepth 20000 in
theorem inX8_carryOutNext_X5 : ∀ w ∈ u_ws RX5 TX5 3, w ∈ wsX8_carryOutNext := by decide +kernel
set_option maxRecDepth 20000 in
theorem inX8_carryOutNext_X8 : ∀ w ∈ u_ws RX8 TX8 11, w ∈ wsX8_carryOutNext := by decide +kernel
theorem nyX6_readHex : yX6_readHex.cls = RX6 ∧ yX6_readHex.cls ≠ "java/lang/invoke/MethodHandle" ∧ yX6_readHex.cls ≠ "java/lang/invoke/VarHandle" ∧ (parseMethodDescriptor yX6_readHex.desc).map (fun d => d.parameters.length) = some 1 := by decide +kernel
theorem nyX6_readOneOf : yX6_readOneOf.cls = RX6 ∧ yX6_readOneOf.cls ≠ "java/lang/invoke/MethodHandle" ∧ yX6_readOneOf.cls ≠ "java/lang/invoke/VarHandle" ∧ (parseMethodDescriptor yX6_readOneOf.desc).map (fun d => d.parameters.length) = some 1 := by decide +kernel
theorem nyX8_orderCode : yX8_orderCode.cls = RX8 ∧ yX8_orderCode.cls ≠ "java/lang/invoke/MethodHandle" ∧ yX8_orderCode.cls ≠ "java/lang/invoke/VarHandle" ∧ (parseMethodDescriptor yX8_orderCode.desc).map (fun d => d.parameters.length) = some 0 := by decide +kernel
theorem nyX8_orderSoft : yX8_orderSoft.cls = RX8 ∧ yX8_orderSoft.cls ≠ "java/lang/invoke/MethodHandle" ∧ yX8_orderSoft.cls ≠ "java/lang/invoke/VarHandle" ∧ (parseMethodDescriptor yX8_orderSoft.desc).map (fun d => d.parameters.length) = some 0 := by decide +kernel
set_option maxRecDepth 100000 in
set_option maxHeartbeats 4000000 in
theorem bX8_carryOutNext_293 {p : Program} {l : Launch} {e : Env} {s : State} {m : MethodId} {args : Array Value} {below : List Frame} {meth : Method} {c : Code} {A : Nat → Prop} {Q : State → Prop} {D : va_G} {cI cB cS cR : ClassId} {ad : Nat → Nat} {tS tP : Nat} {kS vS : Nat → Nat} {K : wx_Z → Prop} (C : wx_C p s m args c cX8_carryOutNext 1 RX8 wsX8_carryOutNext D [(cI, .int), (cB, .byte), (cS, .object RX5), (cR, .array .int)] (wC_RO tS tP kS vS) A) (Rt : wx_Rv p l e rmX8_carryOutNext s m args below meth c cX8_carryOutNext D 58 (wC_E cI cB cS cR ad) ad A K Q) : ∀ (σ : wx_Z), wpX8_carryOutNext_293 K σ → ∀ (H : Heap) (locs : List Loc) (ls : Array Slot), va_P D vwCl (wx_w 58 (wC_E cI cB cS cR ad) ad σ) H → va_D A (wx_w 58 (wC_E cI cB cS cR ad) ad σ) → va_S A s.heap H locs → lv_has ls 1 [(0, .ref (ad 0))] → W p l e rmX8_carryOutNext s m args below meth c H locs 0 0 Q (F0 m 293 ls []) := by
  obtain ⟨⟨hx, hb, hml, hown, hts⟩, hA, hK, hRO, hro⟩ := id C
  intro σ h H locs ls hP hD hS hl
  unfold wpX8_carryOutNext_293 at h
  refine lv_aload_n hx hb dX8_carryOutNext_293 rfl (lv_at hl 0 rfl) ?_
  refine wx_get C hP (q := 0) (ci := 8) (Nat.le_of_ble_eq_true rfl) (eC_0 _) (Cn := RX8) (T := TX8) (Nf := 11) rfl inX8_carryOutNext_X8 3 (by decide) (List.mem_of_getElem? (i := 1) rfl) (v := .ref (ad 43)) rfl dX8_carryOutNext_294 ?_
  refine wx_ldcS hx hb hown (ro_r1 hro) dX8_carryOutNext_297 ?_
  refine wx_ci C hD hS (va_runV (As := [.ref (kS 1)]) (rest := []) C.1 (mtX6_readOneOf (l := l) (D := D) (sz := H.size) (Nat.le_of_ble_eq_true rfl) h) (cwV 1 hts gX8_carryOutNext_X6_readOneOf rfl rfl rfl nyX6_readOneOf ⟨Nat.le_of_ble_eq_true rfl, Nat.le_of_ble_eq_true rfl⟩) (wx_pv C hP hD hS (q := 43) (ci := 6) (Nat.le_of_ble_eq_true rfl) (eC_43 _) rfl) rfl rfl hl.1 rfl (lv_room (Nat.le_of_ble_eq_true rfl)) dX8_carryOutNext_300 ⟨Nat.zero_le _, Nat.zero_le _⟩) (fun r300 σ300 H locs h hP hD hS => ?_)
  refine lv_pop hx hb dX8_carryOutNext_303 rfl ?_
  exact Rt _ _ _ _ _ h hP hD hS dX8_carryOutNext_304
set_option maxRecDepth 100000 in
set_option maxHeartbeats 4000000 in
theorem mtX8_carryOutNext {l : Launch} {D : va_G} {cI cB cS cR : ClassId} {ad : Nat → Nat} {tS tP : Nat} {kS vS : Nat → Nat} {sz : Nat} {σ : wx_Z} {K : wx_Z → Prop} (h : wpX8_carryOutNext σ K) : Met l yX8_carryOutNext wsX8_carryOutNext rmX8_carryOutNext (wx_Pre D [(cI, .int), (cB, .byte), (cS, .object RX5), (cR, .array .int)] (wC_RO tS tP kS vS) 58 (wC_E cI cB cS cR ad) ad σ sz [.ref (ad 0)]) (va_Qv K (wx_B D [(cI, .int), (cB, .byte), (cS, .object RX5), (cR, .array .int)] 58 (wC_E cI cB cS cR ad) ad (va_A (wx_w 58 (wC_E cI cB cS cR ad) ad σ) sz)) (va_A (wx_w 58 (wC_E cI cB cS cR ad) ad σ) sz)) 0 0 (va_A (wx_w 58 (wC_E cI cB cS cR ad) ad σ) sz) := by
  unfold wpX8_carryOutNext at h
  refine wx_metv (cc := cX8_carryOutNext) (maxL := 1) (own := RX8) rfl (by decide) rfl (Nat.le_of_ble_eq_true rfl) (wC_ROok tS tP kS vS) ?_
  intro p e s m args below meth c A Q ls C Rt hP hD hS hl
  obtain ⟨⟨hx, hb, hml, hown, hts⟩, hA, hK, hRO, hro⟩ := id C
  have hl : lv_has ls 1 [(0, .ref (ad 0))] := hl
  obtain ⟨H, eH⟩ : ∃ z, z = s.heap := ⟨_, rfl⟩
  obtain ⟨locs, eL⟩ : ∃ z : List Loc, z = [] := ⟨_, rfl⟩
  rw [← eH] at hP
  have hS : va_S A s.heap H locs := by rw [eH, eL]; exact hS
  have goal : W p l e rmX8_carryOutNext s m args below meth c H locs 0 0 Q (F0 m 0 ls []) := by
    refine lv_aload_n hx hb dX8_carryOutNext_0 rfl (lv_at hl 0 rfl) ?_
    refine wx_get C hP (q := 0) (ci := 8) (Nat.le_of_ble_eq_true rfl) (eC_0 _) (Cn := RX8) (T := TX8) (Nf := 11) rfl inX8_carryOutNext_X8 3 (by decide) (List.mem_of_getElem? (i := 1) rfl) (v := .ref (ad 43)) rfl dX8_carryOutNext_1 ?_
    refine wx_ldcS hx hb hown (ro_r0 hro) dX8_carryOutNext_4 ?_
    refine wx_ci C hD hS (va_runV (As := [.ref (kS 0)]) (rest := []) C.1 (mtX6_readOneOf (l := l) (D := D) (sz := H.size) (Nat.le_of_ble_eq_true rfl) h) (cwV 1 hts gX8_carryOutNext_X6_readOneOf rfl rfl rfl nyX6_readOneOf ⟨Nat.le_of_ble_eq_true rfl, Nat.le_of_ble_eq_true rfl⟩) (wx_pv C hP hD hS (q := 43) (ci := 6) (Nat.le_of_ble_eq_true rfl) (eC_43 _) rfl) rfl rfl hl.1 rfl (lv_room (Nat.le_of_ble_eq_true rfl)) dX8_carryOutNext_7 ⟨Nat.zero_le _, Nat.zero_le _⟩) (fun r7 σ7 H locs h hP hD hS => ?_)
    by_cases q1 : r7 = 99
    · have h := h.1 q1
      refine lv_tableIn (tgt := 108) hx hb dX8_carryOutNext_10 (by rw [q1]; decide) (by rw [q1]; decide) (by rw [q1]; try rfl) (by decide) ?_
      refine lv_aload_n hx hb dX8_carryOutNext_108 rfl (lv_at hl 0 rfl) ?_
      refine wx_cv C hD hS (va_runV (As := []) (rest := []) C.1 (mtX8_orderCode (l := l) (D := D) (sz := H.size) h) (cwV 0 hts gX8_carryOutNext_X8_orderCode rfl rfl rfl nyX8_orderCode ⟨Nat.le_of_ble_eq_true rfl, Nat.le_of_ble_eq_true rfl⟩) (wx_pv C hP hD hS (q := 0) (ci := 8) (Nat.le_of_ble_eq_true rfl) (eC_0 _) rfl) rfl rfl hl.1 rfl (lv_room (Nat.le_of_ble_eq_true rfl)) dX8_carryOutNext_109 ⟨Nat.zero_le _, Nat.zero_le _⟩) (fun σ109 H locs h hP hD hS => ?_)
      refine lv_goto (tgt := 293) hx hb dX8_carryOutNext_112 (by decide) ?_
      exact bX8_carryOutNext_293 C Rt σ109  h _ _ _ hP hD hS (lv_sub hl [0] rfl)
    by_cases q2 : r7 = 100
    · have h := h.2.2.2.2.2.2.2 (by rw [q2]; decide) (by rw [q2]; decide) (by rw [q2]; decide) (by rw [q2]; decide) (by rw [q2]; decide) (by rw [q2]; decide) (by rw [q2]; decide)
      refine lv_tableIn (tgt := 292) hx hb dX8_carryOutNext_10 (by rw [q2]; decide) (by rw [q2]; decide) (by rw [q2]; try rfl) (by decide) ?_
      exact Rt _ _ _ _ _ h hP hD hS dX8_carryOutNext_292
    by_cases q3 : r7 = 101
    · have h := h.2.2.2.2.2.2.2 (by rw [q3]; decide) (by rw [q3]; decide) (by rw [q3]; decide) (by rw [q3]; decide) (by rw [q3]; decide) (by rw [q3]; decide) (by rw [q3]; decide)
      refine lv_tableIn (tgt := 292) hx hb dX8_carryOutNext_10 (by rw [q3]; decide) (by rw [q3]; decide) (by rw [q3]; try rfl) (by decide) ?_
      exact Rt _ _ _ _ _ h hP hD hS dX8_carryOutNext_292
    by_cases q4 : r7 = 102
    · have h := h.2.1 q4
      refine lv_tableIn (tgt := 179) hx hb dX8_carryOutNext_10 (by rw [q4]; decide) (by rw [q4]; decide) (by rw [q4]; try rfl) (by decide) ?_
      refine lv_aload_n hx hb dX8_carryOutNext_179 rfl (lv_at hl 0 rfl) ?_
      refine wx_get C hP (q := 0) (ci := 8) (Nat.le_of_ble_eq_true rfl) (eC_0 _) (Cn := RX8) (T := TX8) (Nf := 11) rfl inX8_carryOutNext_X8 0 (by decide) (List.mem_of_getElem? (i := 2) rfl) (v := .ref (ad (cSt 0))) rfl dX8_carryOutNext_180 ?_
      refine lv_dup hx hb dX8_carryOutNext_183 rfl ?_
      refine wx_get C hP (q := (cSt 0)) (ci := 5) (lt_st (Nat.le_of_ble_eq_true rfl)) (eC_st (Nat.le_of_ble_eq_true rfl) _) (Cn := RX5) (T := TX5) (Nf := 3) rfl inX8_carryOutNext_X5 2 (by decide) (List.mem_of_getElem? (i := 4) rfl) (v := .int (σ7 (cSt 0) 2)) rfl dX8_carryOutNext_184 ?_
      refine lv_iconst (v := 1) hx hb dX8_carryOutNext_187 (by decide) ?_
      refine lv_aload_n hx hb dX8_carryOutNext_188 rfl (lv_at hl 0 rfl) ?_
      refine wx_get C hP (q := 0) (ci := 8) (Nat.le_of_ble_eq_true rfl) (eC_0 _) (Cn := RX8) (T := TX8) (Nf := 11) rfl inX8_carryOutNext_X8 3 (by decide) (List.mem_of_getElem? (i := 1) rfl) (v := .ref (ad 43)) rfl dX8_carryOutNext_189 ?_
      refine lv_iconst (v := 0) hx hb dX8_carryOutNext_192 (by decide) ?_
      refine lv_aload_n hx hb dX8_carryOutNext_193 rfl (lv_at hl 0 rfl) ?_
      refine wx_get C hP (q := 0) (ci := 8) (Nat.le_of_ble_eq_true rfl) (eC_0 _) (Cn := RX8) (T := TX8) (Nf := 11) rfl inX8_carryOutNext_X8 0 (by decide) (List.mem_of_getElem? (i := 2) rfl) (v := .ref (ad (cSt 0))) rfl dX8_carryOutNext_194 ?_
      refine wx_get C hP (q := (cSt 0)) (ci := 5) (lt_st (Nat.le_of_ble_eq_true rfl)) (eC_st (Nat.le_of_ble_eq_true rfl) _) (Cn := RX5) (T := TX5) (Nf := 3) rfl inX8_carryOutNext_X5 0 (by decide) (List.mem_of_getElem? (i := 3) rfl) (v := .ref (ad (cCo 0))) rfl dX8_carryOutNext_197 ?_
      refine wx_get C hP (q := (cCo 0)) (ci := 1) (lt_co (Nat.le_of_ble_eq_true rfl)) (eC_co (Nat.le_of_ble_eq_true rfl) _) (Cn := RX1) (T := TX1) (Nf := 5) rfl inX8_carryOutNext_X1 2 (by decide) (List.mem_of_getElem? (i := 5) rfl) (v := .int (σ7 (cCo 0) 2)) rfl dX8_carryOutNext_200 ?_
      refine lv_iconst (v := 1) hx hb dX8_carryOutNext_203 (by decide) ?_
      refine lv_isub hx hb dX8_carryOutNext_204 ?_
      refine wx_ci C hD hS (va_runV (As := [.int 0, .int ((σ7 (cCo 0) 2) - 1)]) (rest := [.int 1, .int (σ7 (cSt 0) 2), .ref (ad (cSt 0))]) C.1 (mtX6_readNumber (l := l) (D := D) (sz := H.size) h) (cwV 2 hts gX8_carryOutNext_X6_readNumber rfl rfl rfl nyX6_readNumber ⟨Nat.le_of_ble_eq_true rfl, Nat.le_of_ble_eq_true rfl⟩) (wx_pv C hP hD hS (q := 43) (ci := 6) (Nat.le_of_ble_eq_true rfl) (eC_43 _) rfl) rfl rfl hl.1 rfl (lv_room (Nat.le_of_ble_eq_true rfl)) dX8_carryOutNext_205 ⟨Nat.zero_le _, Nat.zero_le _⟩) (fun r205 σ205 H locs h hP hD hS => ?_)
      refine lv_ishl hx hb dX8_carryOutNext_208 ?_
      refine lv_ixor hx hb dX8_carryOutNext_209 ?_
      refine wx_put C hP hD hS (q := (cSt 0)) (ci := 5) (lt_st (Nat.le_of_ble_eq_true rfl)) (eC_st (Nat.le_of_ble_eq_true rfl) _) (Cn := RX5) (T := TX5) (Nf := 3) rfl inX8_carryOutNext_X5 tyX5 tyX5_ok nmX5 2 (by decide) (List.mem_of_getElem? (i := 4) rfl) rfl rfl (Nat.le_of_ble_eq_true rfl) (eC_st (Nat.le_of_ble_eq_true rfl) _) dX8_carryOutNext_210 (fun H locs hP hD hS => ?_)
      generalize e_σ210 : wx_up σ205 (cSt 0) 2 ((σ7 (cSt 0) 2) ^^^ (1 <<< (r205 &&& 31))) = σ210 at hP hD
      have h := h σ210 e_σ210.symm
      refine lv_goto (tgt := 293) hx hb dX8_carryOutNext_213 (by decide) ?_
      exact bX8_carryOutNext_293 C Rt σ210  h _ _ _ hP hD hS (lv_sub hl [0] rfl)
    by_cases q5 : r7 = 103
    · have h := h.2.2.2.2.2.2.2 (by rw [q5]; decide) (by rw [q5]; decide) (by rw [q5]; decide) (by rw [q5]; decide) (by rw [q5]; decide) (by rw [q5]; decide) (by rw [q5]; decide)
      refine lv_tableIn (tgt := 292) hx hb dX8_carryOutNext_10 (by rw [q5]; decide) (by rw [q5]; decide) (by rw [q5]; try rfl) (by decide) ?_
      exact Rt _ _ _ _ _ h hP hD hS dX8_carryOutNext_292
    by_cases q6 : r7 = 104
    · have h := h.2.2.1 q6
      refine lv_tableIn (tgt := 261) hx hb dX8_carryOutNext_10 (by rw [q6]; decide) (by rw [q6]; decide) (by rw [q6]; try rfl) (by decide) ?_
      refine lv_aload_n hx hb dX8_carryOutNext_261 rfl (lv_at hl 0 rfl) ?_
      refine wx_get C hP (q := 0) (ci := 8) (Nat.le_of_ble_eq_true rfl) (eC_0 _) (Cn := RX8) (T := TX8) (Nf := 11) rfl inX8_carryOutNext_X8 0 (by decide) (List.mem_of_getElem? (i := 2) rfl) (v := .ref (ad (cSt 0))) rfl dX8_carryOutNext_262 ?_
      refine lv_aload_n hx hb dX8_carryOutNext_265 rfl (lv_at hl 0 rfl) ?_
      refine wx_get C hP (q := 0) (ci := 8) (Nat.le_of_ble_eq_true rfl) (eC_0 _) (Cn := RX8) (T := TX8) (Nf := 11) rfl inX8_carryOutNext_X8 5 (by decide) (List.mem_of_getElem? (i := 8) rfl) (v := .ref (ad 46)) rfl dX8_carryOutNext_266 ?_
      refine lv_aload_n hx hb dX8_carryOutNext_269 rfl (lv_at hl 0 rfl) ?_
      refine wx_get C hP (q := 0) (ci := 8) (Nat.le_of_ble_eq_true rfl) (eC_0 _) (Cn := RX8) (T := TX8) (Nf := 11) rfl inX8_carryOutNext_X8 0 (by decide) (List.mem_of_getElem? (i := 2) rfl) (v := .ref (ad (cSt 0))) rfl dX8_carryOutNext_270 ?_
      refine wx_get C hP (q := (cSt 0)) (ci := 5) (lt_st (Nat.le_of_ble_eq_true rfl)) (eC_st (Nat.le_of_ble_eq_true rfl) _) (Cn := RX5) (T := TX5) (Nf := 3) rfl inX8_carryOutNext_X5 0 (by decide) (List.mem_of_getElem? (i := 3) rfl) (v := .ref (ad (cCo 0))) rfl dX8_carryOutNext_273 ?_
      refine lv_aload_n hx hb dX8_carryOutNext_276 rfl (lv_at hl 0 rfl) ?_
      refine wx_get C hP (q := 0) (ci := 8) (Nat.le_of_ble_eq_true rfl) (eC_0 _) (Cn := RX8) (T := TX8) (Nf := 11) rfl inX8_carryOutNext_X8 0 (by decide) (List.mem_of_getElem? (i := 2) rfl) (v := .ref (ad (cSt 0))) rfl dX8_carryOutNext_277 ?_
      refine wx_get C hP (q := (cSt 0)) (ci := 5) (lt_st (Nat.le_of_ble_eq_true rfl)) (eC_st (Nat.le_of_ble_eq_true rfl) _) (Cn := RX5) (T := TX5) (Nf := 3) rfl inX8_carryOutNext_X5 1 (by decide) (List.mem_of_getElem? (i := 9) rfl) (v := .ref (ad (cSo 0))) rfl dX8_carryOutNext_280 ?_
      refine wx_ci C hD hS (va_runV (As := [.ref (ad (cCo 0)), .ref (ad (cSo 0))]) (rest := [.ref (ad (cSt 0))]) C.1 (mtX2_solve (l := l) (D := D) (sz := H.size) (Nat.le_of_ble_eq_true rfl) h) (cwV 2 hts gX8_carryOutNext_X2_solve rfl rfl rfl nyX2_solve ⟨Nat.le_of_ble_eq_true rfl, Nat.le_of_ble_eq_true rfl⟩) (wx_pv C hP hD hS (q := 46) (ci := 2) (Nat.le_of_ble_eq_true rfl) (eC_46 _) rfl) rfl rfl hl.1 rfl (lv_room (Nat.le_of_ble_eq_true rfl)) dX8_carryOutNext_283 ⟨Nat.zero_le _, Nat.zero_le _⟩) (fun r283 σ283 H locs h hP hD hS => ?_)
      refine wx_put C hP hD hS (q := (cSt 0)) (ci := 5) (lt_st (Nat.le_of_ble_eq_true rfl)) (eC_st (Nat.le_of_ble_eq_true rfl) _) (Cn := RX5) (T := TX5) (Nf := 3) rfl inX8_carryOutNext_X5 tyX5 tyX5_ok nmX5 2 (by decide) (List.mem_of_getElem? (i := 4) rfl) rfl rfl (Nat.le_of_ble_eq_true rfl) (eC_st (Nat.le_of_ble_eq_true rfl) _) dX8_carryOutNext_286 (fun H locs hP hD hS => ?_)
      generalize e_σ286 : wx_up σ283 (cSt 0) 2 r283 = σ286 at hP hD
      have h := h σ286 e_σ286.symm
      refine lv_goto (tgt := 293) hx hb dX8_carryOutNext_289 (by decide) ?_
      exact bX8_carryOutNext_293 C Rt σ286  h _ _ _ hP hD hS (lv_sub hl [0] rfl)
    by_cases q7 : r7 = 105
    · have h := h.2.2.2.2.2.2.2 (by rw [q7]; decide) (by rw [q7]; decide) (by rw [q7]; decide) (by rw [q7]; decide) (by rw [q7]; decide) (by rw [q7]; decide) (by rw [q7]; decide)
      refine lv_tableIn (tgt := 292) hx hb dX8_carryOutNext_10 (by rw [q7]; decide) (by rw [q7]; decide) (by rw [q7]; try rfl) (by decide) ?_
      exact Rt _ _ _ _ _ h hP hD hS dX8_carryOutNext_292
    by_cases q8 : r7 = 106
    · have h := h.2.2.2.2.2.2.2 (by rw [q8]; decide) (by rw [q8]; decide) (by rw [q8]; decide) (by rw [q8]; decide) (by rw [q8]; decide) (by rw [q8]; decide) (by rw [q8]; decide)
      refine lv_tableIn (tgt := 292) hx hb dX8_carryOutNext_10 (by rw [q8]; decide) (by rw [q8]; decide) (by rw [q8]; try rfl) (by decide) ?_
      exact Rt _ _ _ _ _ h hP hD hS dX8_carryOutNext_292
    by_cases q9 : r7 = 107
    · have h := h.2.2.2.2.2.2.2 (by rw [q9]; decide) (by rw [q9]; decide) (by rw [q9]; decide) (by rw [q9]; decide) (by rw [q9]; decide) (by rw [q9]; decide) (by rw [q9]; decide)
      refine lv_tableIn (tgt := 292) hx hb dX8_carryOutNext_10 (by rw [q9]; decide) (by rw [q9]; decide) (by rw [q9]; try rfl) (by decide) ?_
      exact Rt _ _ _ _ _ h hP hD hS dX8_carryOutNext_292
    by_cases q10 : r7 = 108
    · have h := h.2.2.2.2.2.2.2 (by rw [q10]; decide) (by rw [q10]; decide) (by rw [q10]; decide) (by rw [q10]; decide) (by rw [q10]; decide) (by rw [q10]; decide) (by rw [q10]; decide)
      refine lv_tableIn (tgt := 292) hx hb dX8_carryOutNext_10 (by rw [q10]; decide) (by rw [q10]; decide) (by rw [q10]; try rfl) (by decide) ?_
      exact Rt _ _ _ _ _ h hP hD hS dX8_carryOutNext_292
    by_cases q11 : r7 = 109
    · have h := h.2.2.2.1 q11
      refine lv_tableIn (tgt := 115) hx hb dX8_carryOutNext_10 (by rw [q11]; decide) (by rw [q11]; decide) (by rw [q11]; try rfl) (by decide) ?_
      refine lv_aload_n hx hb dX8_carryOutNext_115 rfl (lv_at hl 0 rfl) ?_
      refine wx_get C hP (q := 0) (ci := 8) (Nat.le_of_ble_eq_true rfl) (eC_0 _) (Cn := RX8) (T := TX8) (Nf := 11) rfl inX8_carryOutNext_X8 0 (by decide) (List.mem_of_getElem? (i := 2) rfl) (v := .ref (ad (cSt 0))) rfl dX8_carryOutNext_116 ?_
      refine lv_aload_n hx hb dX8_carryOutNext_119 rfl (lv_at hl 0 rfl) ?_
      refine wx_get C hP (q := 0) (ci := 8) (Nat.le_of_ble_eq_true rfl) (eC_0 _) (Cn := RX8) (T := TX8) (Nf := 11) rfl inX8_carryOutNext_X8 0 (by decide) (List.mem_of_getElem? (i := 2) rfl) (v := .ref (ad (cSt 0))) rfl dX8_carryOutNext_120 ?_
      refine wx_get C hP (q := (cSt 0)) (ci := 5) (lt_st (Nat.le_of_ble_eq_true rfl)) (eC_st (Nat.le_of_ble_eq_true rfl) _) (Cn := RX5) (T := TX5) (Nf := 3) rfl inX8_carryOutNext_X5 0 (by decide) (List.mem_of_getElem? (i := 3) rfl) (v := .ref (ad (cCo 0))) rfl dX8_carryOutNext_123 ?_
      refine lv_aload_n hx hb dX8_carryOutNext_126 rfl (lv_at hl 0 rfl) ?_
      refine wx_get C hP (q := 0) (ci := 8) (Nat.le_of_ble_eq_true rfl) (eC_0 _) (Cn := RX8) (T := TX8) (Nf := 11) rfl inX8_carryOutNext_X8 3 (by decide) (List.mem_of_getElem? (i := 1) rfl) (v := .ref (ad 43)) rfl dX8_carryOutNext_127 ?_
      refine lv_aload_n hx hb dX8_carryOutNext_130 rfl (lv_at hl 0 rfl) ?_
      refine wx_get C hP (q := 0) (ci := 8) (Nat.le_of_ble_eq_true rfl) (eC_0 _) (Cn := RX8) (T := TX8) (Nf := 11) rfl inX8_carryOutNext_X8 0 (by decide) (List.mem_of_getElem? (i := 2) rfl) (v := .ref (ad (cSt 0))) rfl dX8_carryOutNext_131 ?_
      refine wx_get C hP (q := (cSt 0)) (ci := 5) (lt_st (Nat.le_of_ble_eq_true rfl)) (eC_st (Nat.le_of_ble_eq_true rfl) _) (Cn := RX5) (T := TX5) (Nf := 3) rfl inX8_carryOutNext_X5 0 (by decide) (List.mem_of_getElem? (i := 3) rfl) (v := .ref (ad (cCo 0))) rfl dX8_carryOutNext_134 ?_
      refine wx_ci C hD hS (va_runV (As := []) (rest := [.ref (ad 43), .ref (ad (cCo 0)), .ref (ad (cSt 0))]) C.1 (mtX1_allTerms (l := l) (D := D) (sz := H.size) (Nat.le_of_ble_eq_true rfl) h) (cwV 0 hts gX8_carryOutNext_X1_allTerms rfl rfl rfl nyX1_allTerms ⟨Nat.le_of_ble_eq_true rfl, Nat.le_of_ble_eq_true rfl⟩) (wx_pv C hP hD hS (q := (cCo 0)) (ci := 1) (lt_co (Nat.le_of_ble_eq_true rfl)) (eC_co (Nat.le_of_ble_eq_true rfl) _) rfl) rfl rfl hl.1 rfl (lv_room (Nat.le_of_ble_eq_true rfl)) dX8_carryOutNext_137 ⟨Nat.zero_le _, Nat.zero_le _⟩) (fun r137 σ137 H locs h hP hD hS => ?_)
      refine wx_ci C hD hS (va_runV (As := [.int r137]) (rest := [.ref (ad (cCo 0)), .ref (ad (cSt 0))]) C.1 (mtX6_readHex (l := l) (D := D) (sz := H.size) h) (cwV 1 hts gX8_carryOutNext_X6_readHex rfl rfl rfl nyX6_readHex ⟨Nat.le_of_ble_eq_true rfl, Nat.le_of_ble_eq_true rfl⟩) (wx_pv C hP hD hS (q := 43) (ci := 6) (Nat.le_of_ble_eq_true rfl) (eC_43 _) rfl) rfl rfl hl.1 rfl (lv_room (Nat.le_of_ble_eq_true rfl)) dX8_carryOutNext_140 ⟨Nat.zero_le _, Nat.zero_le _⟩) (fun r140 σ140 H locs h hP hD hS => ?_)
      refine wx_ci C hD hS (va_runV (As := [.int r140]) (rest := [.ref (ad (cSt 0))]) C.1 (mtX1_wordOf (l := l) (D := D) (sz := H.size) (Nat.le_of_ble_eq_true rfl) h) (cwV 1 hts gX8_carryOutNext_X1_wordOf rfl rfl rfl nyX1_wordOf ⟨Nat.le_of_ble_eq_true rfl, Nat.le_of_ble_eq_true rfl⟩) (wx_pv C hP hD hS (q := (cCo 0)) (ci := 1) (lt_co (Nat.le_of_ble_eq_true rfl)) (eC_co (Nat.le_of_ble_eq_true rfl) _) rfl) rfl rfl hl.1 rfl (lv_room (Nat.le_of_ble_eq_true rfl)) dX8_carryOutNext_143 ⟨Nat.zero_le _, Nat.zero_le _⟩) (fun r143 σ143 H locs h hP hD hS => ?_)
      refine wx_put C hP hD hS (q := (cSt 0)) (ci := 5) (lt_st (Nat.le_of_ble_eq_true rfl)) (eC_st (Nat.le_of_ble_eq_true rfl) _) (Cn := RX5) (T := TX5) (Nf := 3) rfl inX8_carryOutNext_X5 tyX5 tyX5_ok nmX5 2 (by decide) (List.mem_of_getElem? (i := 4) rfl) rfl rfl (Nat.le_of_ble_eq_true rfl) (eC_st (Nat.le_of_ble_eq_true rfl) _) dX8_carryOutNext_146 (fun H locs hP hD hS => ?_)
      generalize e_σ146 : wx_up σ143 (cSt 0) 2 r143 = σ146 at hP hD
      have h := h σ146 e_σ146.symm
      refine lv_goto (tgt := 293) hx hb dX8_carryOutNext_149 (by decide) ?_
      exact bX8_carryOutNext_293 C Rt σ146  h _ _ _ hP hD hS (lv_sub hl [0] rfl)
    by_cases q12 : r7 = 110
    · have h := h.2.2.2.2.2.2.2 (by rw [q12]; decide) (by rw [q12]; decide) (by rw [q12]; decide) (by rw [q12]; decide) (by rw [q12]; decide) (by rw [q12]; decide) (by rw [q12]; decide)
      refine lv_tableIn (tgt := 292) hx hb dX8_carryOutNext_10 (by rw [q12]; decide) (by rw [q12]; decide) (by rw [q12]; try rfl) (by decide) ?_
      exact Rt _ _ _ _ _ h hP hD hS dX8_carryOutNext_292
    by_cases q13 : r7 = 111
    · have h := h.2.2.2.2.2.2.2 (by rw [q13]; decide) (by rw [q13]; decide) (by rw [q13]; decide) (by rw [q13]; decide) (by rw [q13]; decide) (by rw [q13]; decide) (by rw [q13]; decide)
      refine lv_tableIn (tgt := 292) hx hb dX8_carryOutNext_10 (by rw [q13]; decide) (by rw [q13]; decide) (by rw [q13]; try rfl) (by decide) ?_
      exact Rt _ _ _ _ _ h hP hD hS dX8_carryOutNext_292
    by_cases q14 : r7 = 112
    · have h := h.2.2.2.2.2.2.2 (by rw [q14]; decide) (by rw [q14]; decide) (by rw [q14]; decide) (by rw [q14]; decide) (by rw [q14]; decide) (by rw [q14]; decide) (by rw [q14]; decide)
      refine lv_tableIn (tgt := 292) hx hb dX8_carryOutNext_10 (by rw [q14]; decide) (by rw [q14]; decide) (by rw [q14]; try rfl) (by decide) ?_
      exact Rt _ _ _ _ _ h hP hD hS dX8_carryOutNext_292
    by_cases q15 : r7 = 113
    · have h := h.2.2.2.2.2.2.2 (by rw [q15]; decide) (by rw [q15]; decide) (by rw [q15]; decide) (by rw [q15]; decide) (by rw [q15]; decide) (by rw [q15]; decide) (by rw [q15]; decide)
      refine lv_tableIn (tgt := 292) hx hb dX8_carryOutNext_10 (by rw [q15]; decide) (by rw [q15]; decide) (by rw [q15]; try rfl) (by decide) ?_
      exact Rt _ _ _ _ _ h hP hD hS dX8_carryOutNext_292
    by_cases q16 : r7 = 114
    · have h := h.2.2.2.2.2.2.2 (by rw [q16]; decide) (by rw [q16]; decide) (by rw [q16]; decide) (by rw [q16]; decide) (by rw [q16]; decide) (by rw [q16]; decide) (by rw [q16]; decide)
      refine lv_tableIn (tgt := 292) hx hb dX8_carryOutNext_10 (by rw [q16]; decide) (by rw [q16]; decide) (by rw [q16]; try rfl) (by decide) ?_
      exact Rt _ _ _ _ _ h hP hD hS dX8_carryOutNext_292
    by_cases q17 : r7 = 115
    · have h := h.2.2.2.2.1 q17
      refine lv_tableIn (tgt := 254) hx hb dX8_carryOutNext_10 (by rw [q17]; decide) (by rw [q17]; decide) (by rw [q17]; try rfl) (by decide) ?_
      refine lv_aload_n hx hb dX8_carryOutNext_254 rfl (lv_at hl 0 rfl) ?_
      refine wx_cv C hD hS (va_runV (As := []) (rest := []) C.1 (mtX8_orderSoft (l := l) (D := D) (sz := H.size) h) (cwV 0 hts gX8_carryOutNext_X8_orderSoft rfl rfl rfl nyX8_orderSoft ⟨Nat.le_of_ble_eq_true rfl, Nat.le_of_ble_eq_true rfl⟩) (wx_pv C hP hD hS (q := 0) (ci := 8) (Nat.le_of_ble_eq_true rfl) (eC_0 _) rfl) rfl rfl hl.1 rfl (lv_room (Nat.le_of_ble_eq_true rfl)) dX8_carryOutNext_255 ⟨Nat.zero_le _, Nat.zero_le _⟩) (fun σ255 H locs h hP hD hS => ?_)
      refine lv_goto (tgt := 293) hx hb dX8_carryOutNext_258 (by decide) ?_
      exact bX8_carryOutNext_293 C Rt σ255  h _ _ _ hP hD hS (lv_sub hl [0] rfl)
    by_cases q18 : r7 = 116
    · have h := h.2.2.2.2.2.2.2 (by rw [q18]; decide) (by rw [q18]; decide) (by rw [q18]; decide) (by rw [q18]; decide) (by rw [q18]; decide) (by rw [q18]; decide) (by rw [q18]; decide)
      refine lv_tableIn (tgt := 292) hx hb dX8_carryOutNext_10 (by rw [q18]; decide) (by rw [q18]; decide) (by rw [q18]; try rfl) (by decide) ?_
      exact Rt _ _ _ _ _ h hP hD hS dX8_carryOutNext_292
    by_cases q19 : r7 = 117
    · have h := h.2.2.2.2.2.2.2 (by rw [q19]; decide) (by rw [q19]; decide) (by rw [q19]; decide) (by rw [q19]; decide) (by rw [q19]; decide) (by rw [q19]; decide) (by rw [q19]; decide)
      refine lv_tableIn (tgt := 292) hx hb dX8_carryOutNext_10 (by rw [q19]; decide) (by rw [q19]; decide) (by rw [q19]; try rfl) (by decide) ?_
      exact Rt _ _ _ _ _ h hP hD hS dX8_carryOutNext_292
    by_cases q20 : r7 = 118
    · have h := h.2.2.2.2.2.1 q20
      refine lv_tableIn (tgt := 216) hx hb dX8_carryOutNext_10 (by rw [q20]; decide) (by rw [q20]; decide) (by rw [q20]; try rfl) (by decide) ?_
      refine lv_aload_n hx hb dX8_carryOutNext_216 rfl (lv_at hl 0 rfl) ?_
      refine wx_get C hP (q := 0) (ci := 8) (Nat.le_of_ble_eq_true rfl) (eC_0 _) (Cn := RX8) (T := TX8) (Nf := 11) rfl inX8_carryOutNext_X8 4 (by decide) (List.mem_of_getElem? (i := 6) rfl) (v := .ref (ad 45)) rfl dX8_carryOutNext_217 ?_
      refine lv_aload_n hx hb dX8_carryOutNext_220 rfl (lv_at hl 0 rfl) ?_
      refine wx_get C hP (q := 0) (ci := 8) (Nat.le_of_ble_eq_true rfl) (eC_0 _) (Cn := RX8) (T := TX8) (Nf := 11) rfl inX8_carryOutNext_X8 0 (by decide) (List.mem_of_getElem? (i := 2) rfl) (v := .ref (ad (cSt 0))) rfl dX8_carryOutNext_221 ?_
      refine wx_get C hP (q := (cSt 0)) (ci := 5) (lt_st (Nat.le_of_ble_eq_true rfl)) (eC_st (Nat.le_of_ble_eq_true rfl) _) (Cn := RX5) (T := TX5) (Nf := 3) rfl inX8_carryOutNext_X5 0 (by decide) (List.mem_of_getElem? (i := 3) rfl) (v := .ref (ad (cCo 0))) rfl dX8_carryOutNext_224 ?_
      refine lv_aload_n hx hb dX8_carryOutNext_227 rfl (lv_at hl 0 rfl) ?_
      refine wx_get C hP (q := 0) (ci := 8) (Nat.le_of_ble_eq_true rfl) (eC_0 _) (Cn := RX8) (T := TX8) (Nf := 11) rfl inX8_carryOutNext_X8 0 (by decide) (List.mem_of_getElem? (i := 2) rfl) (v := .ref (ad (cSt 0))) rfl dX8_carryOutNext_228 ?_
      refine wx_get C hP (q := (cSt 0)) (ci := 5) (lt_st (Nat.le_of_ble_eq_true rfl)) (eC_st (Nat.le_of_ble_eq_true rfl) _) (Cn := RX5) (T := TX5) (Nf := 3) rfl inX8_carryOutNext_X5 2 (by decide) (List.mem_of_getElem? (i := 4) rfl) (v := .int (σ7 (cSt 0) 2)) rfl dX8_carryOutNext_231 ?_
      refine wx_cv C hD hS (va_runV (As := [.ref (ad (cCo 0)), .int (σ7 (cSt 0) 2)]) (rest := []) C.1 (mtX0_hold (l := l) (D := D) (sz := H.size) (Nat.le_of_ble_eq_true rfl) h) (cwV 2 hts gX8_carryOutNext_X0_hold rfl rfl rfl nyX0_hold ⟨Nat.le_of_ble_eq_true rfl, Nat.le_of_ble_eq_true rfl⟩) (wx_pv C hP hD hS (q := 45) (ci := 0) (Nat.le_of_ble_eq_true rfl) (eC_45 _) rfl) rfl rfl hl.1 rfl (lv_room (Nat.le_of_ble_eq_true rfl)) dX8_carryOutNext_234 ⟨Nat.zero_le _, Nat.zero_le _⟩) (fun σ234 H locs h hP hD hS => ?_)
      refine lv_aload_n hx hb dX8_carryOutNext_237 rfl (lv_at hl 0 rfl) ?_
      refine wx_get C hP (q := 0) (ci := 8) (Nat.le_of_ble_eq_true rfl) (eC_0 _) (Cn := RX8) (T := TX8) (Nf := 11) rfl inX8_carryOutNext_X8 0 (by decide) (List.mem_of_getElem? (i := 2) rfl) (v := .ref (ad (cSt 0))) rfl dX8_carryOutNext_238 ?_
      refine lv_aload_n hx hb dX8_carryOutNext_241 rfl (lv_at hl 0 rfl) ?_
      refine wx_get C hP (q := 0) (ci := 8) (Nat.le_of_ble_eq_true rfl) (eC_0 _) (Cn := RX8) (T := TX8) (Nf := 11) rfl inX8_carryOutNext_X8 4 (by decide) (List.mem_of_getElem? (i := 6) rfl) (v := .ref (ad 45)) rfl dX8_carryOutNext_242 ?_
      refine wx_get C hP (q := 45) (ci := 0) (Nat.le_of_ble_eq_true rfl) (eC_45 _) (Cn := RX0) (T := TX0) (Nf := 5) rfl inX8_carryOutNext_X0 1 (by decide) (List.mem_of_getElem? (i := 7) rfl) (v := .int (σ234 45 1)) rfl dX8_carryOutNext_245 ?_
      refine wx_put C hP hD hS (q := (cSt 0)) (ci := 5) (lt_st (Nat.le_of_ble_eq_true rfl)) (eC_st (Nat.le_of_ble_eq_true rfl) _) (Cn := RX5) (T := TX5) (Nf := 3) rfl inX8_carryOutNext_X5 tyX5 tyX5_ok nmX5 2 (by decide) (List.mem_of_getElem? (i := 4) rfl) rfl rfl (Nat.le_of_ble_eq_true rfl) (eC_st (Nat.le_of_ble_eq_true rfl) _) dX8_carryOutNext_248 (fun H locs hP hD hS => ?_)
      generalize e_σ248 : wx_up σ234 (cSt 0) 2 (σ234 45 1) = σ248 at hP hD
      have h := h σ248 e_σ248.symm
      refine lv_goto (tgt := 293) hx hb dX8_carryOutNext_251 (by decide) ?_
      exact bX8_carryOutNext_293 C Rt σ248  h _ _ _ hP hD hS (lv_sub hl [0] rfl)
    by_cases q21 : r7 = 119
    · have h := h.2.2.2.2.2.2.1 q21
      refine lv_tableIn (tgt := 152) hx hb dX8_carryOutNext_10 (by rw [q21]; decide) (by rw [q21]; decide) (by rw [q21]; try rfl) (by decide) ?_
      refine lv_aload_n hx hb dX8_carryOutNext_152 rfl (lv_at hl 0 rfl) ?_
      refine wx_get C hP (q := 0) (ci := 8) (Nat.le_of_ble_eq_true rfl) (eC_0 _) (Cn := RX8) (T := TX8) (Nf := 11) rfl inX8_carryOutNext_X8 0 (by decide) (List.mem_of_getElem? (i := 2) rfl) (v := .ref (ad (cSt 0))) rfl dX8_carryOutNext_153 ?_
      refine lv_aload_n hx hb dX8_carryOutNext_156 rfl (lv_at hl 0 rfl) ?_
      refine wx_get C hP (q := 0) (ci := 8) (Nat.le_of_ble_eq_true rfl) (eC_0 _) (Cn := RX8) (T := TX8) (Nf := 11) rfl inX8_carryOutNext_X8 3 (by decide) (List.mem_of_getElem? (i := 1) rfl) (v := .ref (ad 43)) rfl dX8_carryOutNext_157 ?_
      refine lv_aload_n hx hb dX8_carryOutNext_160 rfl (lv_at hl 0 rfl) ?_
      refine wx_get C hP (q := 0) (ci := 8) (Nat.le_of_ble_eq_true rfl) (eC_0 _) (Cn := RX8) (T := TX8) (Nf := 11) rfl inX8_carryOutNext_X8 0 (by decide) (List.mem_of_getElem? (i := 2) rfl) (v := .ref (ad (cSt 0))) rfl dX8_carryOutNext_161 ?_
      refine wx_get C hP (q := (cSt 0)) (ci := 5) (lt_st (Nat.le_of_ble_eq_true rfl)) (eC_st (Nat.le_of_ble_eq_true rfl) _) (Cn := RX5) (T := TX5) (Nf := 3) rfl inX8_carryOutNext_X5 0 (by decide) (List.mem_of_getElem? (i := 3) rfl) (v := .ref (ad (cCo 0))) rfl dX8_carryOutNext_164 ?_
      refine wx_ci C hD hS (va_runV (As := []) (rest := [.ref (ad 43), .ref (ad (cSt 0))]) C.1 (mtX1_allPlaces (l := l) (D := D) (sz := H.size) (Nat.le_of_ble_eq_true rfl) h) (cwV 0 hts gX8_carryOutNext_X1_allPlaces rfl rfl rfl nyX1_allPlaces ⟨Nat.le_of_ble_eq_true rfl, Nat.le_of_ble_eq_true rfl⟩) (wx_pv C hP hD hS (q := (cCo 0)) (ci := 1) (lt_co (Nat.le_of_ble_eq_true rfl)) (eC_co (Nat.le_of_ble_eq_true rfl) _) rfl) rfl rfl hl.1 rfl (lv_room (Nat.le_of_ble_eq_true rfl)) dX8_carryOutNext_167 ⟨Nat.zero_le _, Nat.zero_le _⟩) (fun r167 σ167 H locs h hP hD hS => ?_)
      refine wx_ci C hD hS (va_runV (As := [.int r167]) (rest := [.ref (ad (cSt 0))]) C.1 (mtX6_readHex (l := l) (D := D) (sz := H.size) h) (cwV 1 hts gX8_carryOutNext_X6_readHex rfl rfl rfl nyX6_readHex ⟨Nat.le_of_ble_eq_true rfl, Nat.le_of_ble_eq_true rfl⟩) (wx_pv C hP hD hS (q := 43) (ci := 6) (Nat.le_of_ble_eq_true rfl) (eC_43 _) rfl) rfl rfl hl.1 rfl (lv_room (Nat.le_of_ble_eq_true rfl)) dX8_carryOutNext_170 ⟨Nat.zero_le _, Nat.zero_le _⟩) (fun r170 σ170 H locs h hP hD hS => ?_)
      refine wx_put C hP hD hS (q := (cSt 0)) (ci := 5) (lt_st (Nat.le_of_ble_eq_true rfl)) (eC_st (Nat.le_of_ble_eq_true rfl) _) (Cn := RX5) (T := TX5) (Nf := 3) rfl inX8_carryOutNext_X5 tyX5 tyX5_ok nmX5 2 (by decide) (List.mem_of_getElem? (i := 4) rfl) rfl rfl (Nat.le_of_ble_eq_true rfl) (eC_st (Nat.le_of_ble_eq_true rfl) _) dX8_carryOutNext_173 (fun H locs hP hD hS => ?_)
      generalize e_σ173 : wx_up σ170 (cSt 0) 2 r170 = σ173 at hP hD
      have h := h σ173 e_σ173.symm
      refine lv_goto (tgt := 293) hx hb dX8_carryOutNext_176 (by decide) ?_
      exact bX8_carryOutNext_293 C Rt σ173  h _ _ _ hP hD hS (lv_sub hl [0] rfl)
    have h := h.2.2.2.2.2.2.2 q1 q4 q6 q11 q17 q20 q21
    have z1 := lv_neT q1 (show (99 : Int32).toInt = 99 from by decide)
    have z2 := lv_neT q2 (show (100 : Int32).toInt = 100 from by decide)
    have z3 := lv_neT q3 (show (101 : Int32).toInt = 101 from by decide)
    have z4 := lv_neT q4 (show (102 : Int32).toInt = 102 from by decide)
    have z5 := lv_neT q5 (show (103 : Int32).toInt = 103 from by decide)
    have z6 := lv_neT q6 (show (104 : Int32).toInt = 104 from by decide)
    have z7 := lv_neT q7 (show (105 : Int32).toInt = 105 from by decide)
    have z8 := lv_neT q8 (show (106 : Int32).toInt = 106 from by decide)
    have z9 := lv_neT q9 (show (107 : Int32).toInt = 107 from by decide)
    have z10 := lv_neT q10 (show (108 : Int32).toInt = 108 from by decide)
    have z11 := lv_neT q11 (show (109 : Int32).toInt = 109 from by decide)
    have z12 := lv_neT q12 (show (110 : Int32).toInt = 110 from by decide)
    have z13 := lv_neT q13 (show (111 : Int32).toInt = 111 from by decide)
    have z14 := lv_neT q14 (show (112 : Int32).toInt = 112 from by decide)
    have z15 := lv_neT q15 (show (113 : Int32).toInt = 113 from by decide)
    have z16 := lv_neT q16 (show (114 : Int32).toInt = 114 from by decide)
    have z17 := lv_neT q17 (show (115 : Int32).toInt = 115 from by decide)
    have z18 := lv_neT q18 (show (116 : Int32).toInt = 116 from by decide)
    have z19 := lv_neT q19 (show (117 : Int32).toInt = 117 from by decide)
    have z20 := lv_neT q20 (show (118 : Int32).toInt = 118 from by decide)
    have z21 := lv_neT q21 (show (119 : Int32).toInt = 119 from by decide)
    refine lv_tableOut (tgt := 292) hx hb dX8_carryOutNext_10 (by omega) (by decide) ?_
    exact Rt _ _ _ _ _ h hP hD hS dX8_carryOutNext_292
  rw [eH, eL] at goal
  exact goal

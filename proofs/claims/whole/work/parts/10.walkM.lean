abbrev rmX9_in : Room := { frames := 1, cells := 0, slots := 0, locals := 40 }
set_option maxRecDepth 100000 in
set_option maxHeartbeats 4000000 in
theorem mtX9_in {l : Launch} {D : va_G} {cI : ClassId} {ad : Nat → Nat} {sz : Nat} {σ : wx_Z} {y0 : Int64} {y2 : Int64} {y4 : Int64} {K : Int32 → wx_Z → Prop} (h : wpX9_in σ y0 y2 y4 K) : Met l yX9_in wsX9_in rmX9_in (wx_Pre D [(cI, .int)] wx_T0 14 (wM_E cI ad) ad σ sz [.long y0, .long y2, .long y4]) (va_Qi K (wx_B D [(cI, .int)] 14 (wM_E cI ad) ad (va_A (wx_w 14 (wM_E cI ad) ad σ) sz)) (va_A (wx_w 14 (wM_E cI ad) ad σ) sz)) 0 0 (va_A (wx_w 14 (wM_E cI ad) ad σ) sz) := by
  unfold wpX9_in at h
  refine wx_metz (cc := cX9_in) (maxL := 6) (own := RX9) rfl (by decide) rfl (Nat.le_of_ble_eq_true rfl) wx_T0_ok ?_
  intro p e s m args below meth c A Q ls C Rt hP hD hS hl
  obtain ⟨⟨hx, hb, hml, hown, hts⟩, hA, hK, hRO, hro⟩ := id C
  have hl : lv_has ls 6 [(0, .long y0), (2, .long y2), (4, .long y4)] := hl
  obtain ⟨H, eH⟩ : ∃ z, z = s.heap := ⟨_, rfl⟩
  obtain ⟨locs, eL⟩ : ∃ z : List Loc, z = [] := ⟨_, rfl⟩
  rw [← eH] at hP
  have hS : va_S A s.heap H locs := by rw [eH, eL]; exact hS
  have goal : W p l e rmX9_in s m args below meth c H locs 0 0 Q (F0 m 0 ls []) := by
    refine lv_lload_n hx hb dX9_in_0 rfl (lv_at hl 0 rfl) ?_
    refine lv_lload_n hx hb dX9_in_1 rfl (lv_at hl 1 rfl) ?_
    refine W.lcmp hx hb dX9_in_2 ?_
    refine lv_if_lt (tgt := 17) hx hb dX9_in_3 (by decide) (fun c3 => ?_) (fun c3 => ?_)
    · have h := h.1 c3
      refine lv_iconst (v := 0) hx hb dX9_in_17 (by decide) ?_
      exact Rt _ _ _ _ _ _ rfl h hP hD hS dX9_in_18
    · have h := h.2 c3
      refine lv_lload_n hx hb dX9_in_6 rfl (lv_at hl 0 rfl) ?_
      refine lv_lload hx hb dX9_in_7 (lv_at hl 2 rfl) ?_
      refine W.lcmp hx hb dX9_in_9 ?_
      refine lv_if_gt (tgt := 17) hx hb dX9_in_10 (by decide) (fun c10 => ?_) (fun c10 => ?_)
      · have h := h.1 c10
        refine lv_iconst (v := 0) hx hb dX9_in_17 (by decide) ?_
        exact Rt _ _ _ _ _ _ rfl h hP hD hS dX9_in_18
      · have h := h.2 c10
        refine lv_iconst (v := 1) hx hb dX9_in_13 (by decide) ?_
        refine lv_goto (tgt := 18) hx hb dX9_in_14 (by decide) ?_
        exact Rt _ _ _ _ _ _ rfl h hP hD hS dX9_in_18
  rw [eH, eL] at goal
  exact goal
abbrev rmX9_bad : Room := { frames := 1, cells := 0, slots := 0, locals := 40 }
set_option maxRecDepth 20000 in
theorem inX9_bad_X9 : ∀ w ∈ u_ws RX9 TX9 27, w ∈ wsX9_bad := by decide +kernel
set_option maxRecDepth 100000 in
set_option maxHeartbeats 4000000 in
theorem mtX9_bad {l : Launch} {D : va_G} {cI : ClassId} {ad : Nat → Nat} {sz : Nat} {σ : wx_Z} {x1 : Int32} {K : Int32 → wx_Z → Prop} (h : wpX9_bad σ x1 K) : Met l yX9_bad wsX9_bad rmX9_bad (wx_Pre D [(cI, .int)] wx_T0 14 (wM_E cI ad) ad σ sz [.ref (ad 0), .int x1]) (va_Qi K (wx_B D [(cI, .int)] 14 (wM_E cI ad) ad (va_A (wx_w 14 (wM_E cI ad) ad σ) sz)) (va_A (wx_w 14 (wM_E cI ad) ad σ) sz)) 0 0 (va_A (wx_w 14 (wM_E cI ad) ad σ) sz) := by
  unfold wpX9_bad at h
  refine wx_meti (cc := cX9_bad) (maxL := 2) (own := RX9) rfl (by decide) rfl (Nat.le_of_ble_eq_true rfl) wx_T0_ok ?_
  intro p e s m args below meth c A Q ls C Rt hP hD hS hl
  obtain ⟨⟨hx, hb, hml, hown, hts⟩, hA, hK, hRO, hro⟩ := id C
  have hl : lv_has ls 2 [(0, .ref (ad 0)), (1, .int x1)] := hl
  obtain ⟨H, eH⟩ : ∃ z, z = s.heap := ⟨_, rfl⟩
  obtain ⟨locs, eL⟩ : ∃ z : List Loc, z = [] := ⟨_, rfl⟩
  rw [← eH] at hP
  have hS : va_S A s.heap H locs := by rw [eH, eL]; exact hS
  have goal : W p l e rmX9_bad s m args below meth c H locs 0 0 Q (F0 m 0 ls []) := by
    refine lv_aload_n hx hb dX9_bad_0 rfl (lv_at hl 0 rfl) ?_
    refine wx_get C hP (q := 0) (ci := 9) (Nat.le_of_ble_eq_true rfl) (eM_0 cI ad _) (Cn := RX9) (T := TX9) (Nf := 27) rfl inX9_bad_X9 3 (by decide) (List.mem_of_getElem? (i := 1) rfl) (v := .ref (ad 3)) rfl dX9_bad_1 ?_
    refine lv_iconst (v := 0) hx hb dX9_bad_4 (by decide) ?_
    refine lv_dup2_11 hx hb dX9_bad_5 rfl rfl ?_
    refine wx_ild C hP (q := 3) (Nat.le_of_ble_eq_true rfl) (fun _ => rfl) 0 rfl h.1 dX9_bad_6 ?_
    have h := h.2
    refine lv_iconst (v := 1) hx hb dX9_bad_7 (by decide) ?_
    refine lv_iadd hx hb dX9_bad_8 ?_
    refine wx_ist C hP hD hS (q := 3) (Nat.le_of_ble_eq_true rfl) (fun _ => rfl) 0 rfl h.1 dX9_bad_9 (fun H locs hP hD hS => ?_)
    generalize e_σ9 : wx_up σ 3 (Int32.toNatClampNeg 0) ((σ 3 (Int32.toNatClampNeg 0)) + 1) = σ9 at hP hD
    have h := h.2 σ9 e_σ9.symm
    refine lv_iload_n hx hb dX9_bad_10 rfl (lv_at hl 1 rfl) ?_
    exact Rt _ _ _ _ _ _ h hP hD hS dX9_bad_11
  rw [eH, eL] at goal
  exact goal
abbrev rmX9_no : Room := { frames := 1, cells := 0, slots := 0, locals := 40 }
set_option maxRecDepth 20000 in
theorem inX9_no_X9 : ∀ w ∈ u_ws RX9 TX9 27, w ∈ wsX9_no := by decide +kernel
set_option maxRecDepth 100000 in
set_option maxHeartbeats 4000000 in
theorem mtX9_no {l : Launch} {D : va_G} {cI : ClassId} {ad : Nat → Nat} {sz : Nat} {σ : wx_Z} {x1 : Int32} {K : Int32 → wx_Z → Prop} (h : wpX9_no σ x1 K) : Met l yX9_no wsX9_no rmX9_no (wx_Pre D [(cI, .int)] wx_T0 14 (wM_E cI ad) ad σ sz [.ref (ad 0), .int x1]) (va_Qi K (wx_B D [(cI, .int)] 14 (wM_E cI ad) ad (va_A (wx_w 14 (wM_E cI ad) ad σ) sz)) (va_A (wx_w 14 (wM_E cI ad) ad σ) sz)) 0 0 (va_A (wx_w 14 (wM_E cI ad) ad σ) sz) := by
  unfold wpX9_no at h
  refine wx_meti (cc := cX9_no) (maxL := 2) (own := RX9) rfl (by decide) rfl (Nat.le_of_ble_eq_true rfl) wx_T0_ok ?_
  intro p e s m args below meth c A Q ls C Rt hP hD hS hl
  obtain ⟨⟨hx, hb, hml, hown, hts⟩, hA, hK, hRO, hro⟩ := id C
  have hl : lv_has ls 2 [(0, .ref (ad 0)), (1, .int x1)] := hl
  obtain ⟨H, eH⟩ : ∃ z, z = s.heap := ⟨_, rfl⟩
  obtain ⟨locs, eL⟩ : ∃ z : List Loc, z = [] := ⟨_, rfl⟩
  rw [← eH] at hP
  have hS : va_S A s.heap H locs := by rw [eH, eL]; exact hS
  have goal : W p l e rmX9_no s m args below meth c H locs 0 0 Q (F0 m 0 ls []) := by
    refine lv_aload_n hx hb dX9_no_0 rfl (lv_at hl 0 rfl) ?_
    refine wx_get C hP (q := 0) (ci := 9) (Nat.le_of_ble_eq_true rfl) (eM_0 cI ad _) (Cn := RX9) (T := TX9) (Nf := 27) rfl inX9_no_X9 3 (by decide) (List.mem_of_getElem? (i := 1) rfl) (v := .ref (ad 3)) rfl dX9_no_1 ?_
    refine lv_iconst (v := 1) hx hb dX9_no_4 (by decide) ?_
    refine lv_dup2_11 hx hb dX9_no_5 rfl rfl ?_
    refine wx_ild C hP (q := 3) (Nat.le_of_ble_eq_true rfl) (fun _ => rfl) 0 rfl h.1 dX9_no_6 ?_
    have h := h.2
    refine lv_iconst (v := 1) hx hb dX9_no_7 (by decide) ?_
    refine lv_iadd hx hb dX9_no_8 ?_
    refine wx_ist C hP hD hS (q := 3) (Nat.le_of_ble_eq_true rfl) (fun _ => rfl) 0 rfl h.1 dX9_no_9 (fun H locs hP hD hS => ?_)
    generalize e_σ9 : wx_up σ 3 (Int32.toNatClampNeg 1) ((σ 3 (Int32.toNatClampNeg 1)) + 1) = σ9 at hP hD
    have h := h.2 σ9 e_σ9.symm
    refine lv_iload_n hx hb dX9_no_10 rfl (lv_at hl 1 rfl) ?_
    exact Rt _ _ _ _ _ _ h hP hD hS dX9_no_11
  rw [eH, eL] at goal
  exact goal
abbrev rmX9_full : Room := { frames := 1, cells := 0, slots := 0, locals := 40 }
set_option maxRecDepth 20000 in
theorem inX9_full_X9 : ∀ w ∈ u_ws RX9 TX9 27, w ∈ wsX9_full := by decide +kernel
set_option maxRecDepth 100000 in
set_option maxHeartbeats 4000000 in
theorem mtX9_full {l : Launch} {D : va_G} {cI : ClassId} {ad : Nat → Nat} {sz : Nat} {σ : wx_Z} {K : Int32 → wx_Z → Prop} (h : wpX9_full σ K) : Met l yX9_full wsX9_full rmX9_full (wx_Pre D [(cI, .int)] wx_T0 14 (wM_E cI ad) ad σ sz [.ref (ad 0)]) (va_Qi K (wx_B D [(cI, .int)] 14 (wM_E cI ad) ad (va_A (wx_w 14 (wM_E cI ad) ad σ) sz)) (va_A (wx_w 14 (wM_E cI ad) ad σ) sz)) 0 0 (va_A (wx_w 14 (wM_E cI ad) ad σ) sz) := by
  unfold wpX9_full at h
  refine wx_meti (cc := cX9_full) (maxL := 1) (own := RX9) rfl (by decide) rfl (Nat.le_of_ble_eq_true rfl) wx_T0_ok ?_
  intro p e s m args below meth c A Q ls C Rt hP hD hS hl
  obtain ⟨⟨hx, hb, hml, hown, hts⟩, hA, hK, hRO, hro⟩ := id C
  have hl : lv_has ls 1 [(0, .ref (ad 0))] := hl
  obtain ⟨H, eH⟩ : ∃ z, z = s.heap := ⟨_, rfl⟩
  obtain ⟨locs, eL⟩ : ∃ z : List Loc, z = [] := ⟨_, rfl⟩
  rw [← eH] at hP
  have hS : va_S A s.heap H locs := by rw [eH, eL]; exact hS
  have goal : W p l e rmX9_full s m args below meth c H locs 0 0 Q (F0 m 0 ls []) := by
    refine lv_aload_n hx hb dX9_full_0 rfl (lv_at hl 0 rfl) ?_
    refine wx_get C hP (q := 0) (ci := 9) (Nat.le_of_ble_eq_true rfl) (eM_0 cI ad _) (Cn := RX9) (T := TX9) (Nf := 27) rfl inX9_full_X9 3 (by decide) (List.mem_of_getElem? (i := 1) rfl) (v := .ref (ad 3)) rfl dX9_full_1 ?_
    refine lv_iconst (v := 2) hx hb dX9_full_4 (by decide) ?_
    refine lv_dup2_11 hx hb dX9_full_5 rfl rfl ?_
    refine wx_ild C hP (q := 3) (Nat.le_of_ble_eq_true rfl) (fun _ => rfl) 0 rfl h.1 dX9_full_6 ?_
    have h := h.2
    refine lv_iconst (v := 1) hx hb dX9_full_7 (by decide) ?_
    refine lv_iadd hx hb dX9_full_8 ?_
    refine wx_ist C hP hD hS (q := 3) (Nat.le_of_ble_eq_true rfl) (fun _ => rfl) 0 rfl h.1 dX9_full_9 (fun H locs hP hD hS => ?_)
    generalize e_σ9 : wx_up σ 3 (Int32.toNatClampNeg 2) ((σ 3 (Int32.toNatClampNeg 2)) + 1) = σ9 at hP hD
    have h := h.2 σ9 e_σ9.symm
    refine lv_bipush (v := (-4)) hx hb dX9_full_10 (by decide) ?_
    exact Rt _ _ _ _ _ _ h hP hD hS dX9_full_12
  rw [eH, eL] at goal
  exact goal
abbrev rmX9_has : Room := { frames := 1, cells := 0, slots := 0, locals := 40 }
set_option maxRecDepth 100000 in
set_option maxHeartbeats 4000000 in
theorem mtX9_has {l : Launch} {D : va_G} {cI : ClassId} {ad : Nat → Nat} {sz : Nat} {σ : wx_Z} {x0 : Int32} {x1 : Int32} {K : Int32 → wx_Z → Prop} (h : wpX9_has σ x0 x1 K) : Met l yX9_has wsX9_has rmX9_has (wx_Pre D [(cI, .int)] wx_T0 14 (wM_E cI ad) ad σ sz [.int x0, .int x1]) (va_Qi K (wx_B D [(cI, .int)] 14 (wM_E cI ad) ad (va_A (wx_w 14 (wM_E cI ad) ad σ) sz)) (va_A (wx_w 14 (wM_E cI ad) ad σ) sz)) 0 0 (va_A (wx_w 14 (wM_E cI ad) ad σ) sz) := by
  unfold wpX9_has at h
  refine wx_metz (cc := cX9_has) (maxL := 2) (own := RX9) rfl (by decide) rfl (Nat.le_of_ble_eq_true rfl) wx_T0_ok ?_
  intro p e s m args below meth c A Q ls C Rt hP hD hS hl
  obtain ⟨⟨hx, hb, hml, hown, hts⟩, hA, hK, hRO, hro⟩ := id C
  have hl : lv_has ls 2 [(0, .int x0), (1, .int x1)] := hl
  obtain ⟨H, eH⟩ : ∃ z, z = s.heap := ⟨_, rfl⟩
  obtain ⟨locs, eL⟩ : ∃ z : List Loc, z = [] := ⟨_, rfl⟩
  rw [← eH] at hP
  have hS : va_S A s.heap H locs := by rw [eH, eL]; exact hS
  have goal : W p l e rmX9_has s m args below meth c H locs 0 0 Q (F0 m 0 ls []) := by
    refine lv_iload_n hx hb dX9_has_0 rfl (lv_at hl 0 rfl) ?_
    refine lv_iload_n hx hb dX9_has_1 rfl (lv_at hl 1 rfl) ?_
    refine lv_ishr hx hb dX9_has_2 ?_
    refine lv_iconst (v := 1) hx hb dX9_has_3 (by decide) ?_
    refine lv_iand hx hb dX9_has_4 ?_
    refine lv_iconst (v := 1) hx hb dX9_has_5 (by decide) ?_
    refine lv_icmp_ne (tgt := 13) hx hb dX9_has_6 (by decide) (fun c6 => ?_) (fun c6 => ?_)
    · have h := h.1 c6
      refine lv_iconst (v := 0) hx hb dX9_has_13 (by decide) ?_
      exact Rt _ _ _ _ _ _ rfl h hP hD hS dX9_has_14
    · have h := h.2 c6
      refine lv_iconst (v := 1) hx hb dX9_has_9 (by decide) ?_
      refine lv_goto (tgt := 14) hx hb dX9_has_10 (by decide) ?_
      exact Rt _ _ _ _ _ _ rfl h hP hD hS dX9_has_14
  rw [eH, eL] at goal
  exact goal
abbrev rmX9_bits : Room := { frames := 1, cells := 0, slots := 0, locals := 40 }
set_option maxRecDepth 100000 in
set_option maxHeartbeats 4000000 in
theorem bX9_bits_4 {p : Program} {l : Launch} {e : Env} {s : State} {m : MethodId} {args : Array Value} {below : List Frame} {meth : Method} {c : Code} {A : Nat → Prop} {Q : State → Prop} {D : va_G} {cI : ClassId} {ad : Nat → Nat} {K : Int32 → wx_Z → Prop} (C : wx_C p s m args c cX9_bits 3 RX9 wsX9_bits D [(cI, .int)] wx_T0 A) (Rt : wx_Ri p l e rmX9_bits s m args below meth c cX9_bits D 14 (wM_E cI ad) ad A K Q) : ∀ (n : Nat) (σ : wx_Z) (x1 : Int32) (x2 : Int32), wpX9_bits_4 K n σ x1 x2 → ∀ (H : Heap) (locs : List Loc) (ls : Array Slot), va_P D vwCl (wx_w 14 (wM_E cI ad) ad σ) H → va_D A (wx_w 14 (wM_E cI ad) ad σ) → va_S A s.heap H locs → lv_has ls 3 [(1, .int x1), (2, .int x2)] → W p l e rmX9_bits s m args below meth c H locs 0 0 Q (F0 m 4 ls []) := by
  obtain ⟨⟨hx, hb, hml, hown, hts⟩, hA, hK, hRO, hro⟩ := id C
  intro n
  induction n with
  | zero => intro σ x1 x2 h; exact h.elim
  | succ n ih =>
    intro σ x1 x2 h H locs ls hP hD hS hl
    unfold wpX9_bits_4 at h
    refine lv_iload_n hx hb dX9_bits_4 rfl (lv_at hl 1 rfl) ?_
    refine lv_if_eq (tgt := 20) hx hb dX9_bits_5 (by decide) (fun c5 => ?_) (fun c5 => ?_)
    · have h := h.1 c5
      refine lv_iload_n hx hb dX9_bits_20 rfl (lv_at hl 0 rfl) ?_
      exact Rt _ _ _ _ _ _ h hP hD hS dX9_bits_21
    · have h := h.2 c5
      obtain ⟨t8, e_t8⟩ : ∃ y : Int32, y = x1 + 1 := ⟨_, rfl⟩
      have h := h t8 e_t8
      refine lv_iinc (v := t8) (lv' := [(1, .int t8), (2, .int x2)]) hx hb dX9_bits_8 hl (k := 0) rfl (by rw [e_t8]; rfl) (by decide) rfl (fun ls hl => ?_)
      refine lv_iload_n hx hb dX9_bits_11 rfl (lv_at hl 1 rfl) ?_
      refine lv_iload_n hx hb dX9_bits_12 rfl (lv_at hl 1 rfl) ?_
      refine lv_iconst (v := 1) hx hb dX9_bits_13 (by decide) ?_
      refine lv_isub hx hb dX9_bits_14 ?_
      refine lv_iand hx hb dX9_bits_15 ?_
      refine lv_topi (fun t16 e_t16 => ?_)
      have h := h t16 e_t16
      refine lv_istore_n (lv' := [(2, .int t16), (1, .int t8)]) hx hb dX9_bits_16 rfl hl (by decide) rfl (fun ls hl => ?_)
      refine lv_goto (tgt := 4) hx hb dX9_bits_17 (by decide) ?_
      exact ih σ t8 t16  h _ _ _ hP hD hS (lv_sub hl [1, 0] rfl)
set_option maxRecDepth 100000 in
set_option maxHeartbeats 4000000 in
theorem mtX9_bits {l : Launch} {D : va_G} {cI : ClassId} {ad : Nat → Nat} {sz : Nat} {σ : wx_Z} {x0 : Int32} {K : Int32 → wx_Z → Prop} (h : wpX9_bits σ x0 K) : Met l yX9_bits wsX9_bits rmX9_bits (wx_Pre D [(cI, .int)] wx_T0 14 (wM_E cI ad) ad σ sz [.int x0]) (va_Qi K (wx_B D [(cI, .int)] 14 (wM_E cI ad) ad (va_A (wx_w 14 (wM_E cI ad) ad σ) sz)) (va_A (wx_w 14 (wM_E cI ad) ad σ) sz)) 0 0 (va_A (wx_w 14 (wM_E cI ad) ad σ) sz) := by
  unfold wpX9_bits at h
  refine wx_meti (cc := cX9_bits) (maxL := 3) (own := RX9) rfl (by decide) rfl (Nat.le_of_ble_eq_true rfl) wx_T0_ok ?_
  intro p e s m args below meth c A Q ls C Rt hP hD hS hl
  obtain ⟨⟨hx, hb, hml, hown, hts⟩, hA, hK, hRO, hro⟩ := id C
  have hl : lv_has ls 3 [(0, .int x0)] := hl
  obtain ⟨H, eH⟩ : ∃ z, z = s.heap := ⟨_, rfl⟩
  obtain ⟨locs, eL⟩ : ∃ z : List Loc, z = [] := ⟨_, rfl⟩
  rw [← eH] at hP
  have hS : va_S A s.heap H locs := by rw [eH, eL]; exact hS
  have goal : W p l e rmX9_bits s m args below meth c H locs 0 0 Q (F0 m 0 ls []) := by
    refine lv_iconst (v := 0) hx hb dX9_bits_0 (by decide) ?_
    refine lv_istore_n (lv' := [(1, .int 0), (0, .int x0)]) hx hb dX9_bits_1 rfl hl (by decide) rfl (fun ls hl => ?_)
    refine lv_iload_n hx hb dX9_bits_2 rfl (lv_at hl 1 rfl) ?_
    refine lv_istore_n (lv' := [(2, .int x0), (1, .int 0), (0, .int x0)]) hx hb dX9_bits_3 rfl hl (by decide) rfl (fun ls hl => ?_)
    obtain ⟨n4, h⟩ := h
    exact bX9_bits_4 C Rt n4 σ 0 x0  h _ _ _ hP hD hS (lv_sub hl [1, 0] rfl)
  rw [eH, eL] at goal
  exact goal
abbrev rmX9_order : Room := { frames := 1, cells := 0, slots := 0, locals := 40 }
set_option maxRecDepth 20000 in
theorem inX9_order_X9 : ∀ w ∈ u_ws RX9 TX9 27, w ∈ wsX9_order := by decide +kernel
set_option maxRecDepth 100000 in
set_option maxHeartbeats 4000000 in
theorem mtX9_order {l : Launch} {D : va_G} {cI : ClassId} {ad : Nat → Nat} {sz : Nat} {σ : wx_Z} {K : Int32 → wx_Z → Prop} (h : wpX9_order σ K) : Met l yX9_order wsX9_order rmX9_order (wx_Pre D [(cI, .int)] wx_T0 14 (wM_E cI ad) ad σ sz [.ref (ad 0)]) (va_Qi K (wx_B D [(cI, .int)] 14 (wM_E cI ad) ad (va_A (wx_w 14 (wM_E cI ad) ad σ) sz)) (va_A (wx_w 14 (wM_E cI ad) ad σ) sz)) 0 0 (va_A (wx_w 14 (wM_E cI ad) ad σ) sz) := by
  unfold wpX9_order at h
  refine wx_meti (cc := cX9_order) (maxL := 1) (own := RX9) rfl (by decide) rfl (Nat.le_of_ble_eq_true rfl) wx_T0_ok ?_
  intro p e s m args below meth c A Q ls C Rt hP hD hS hl
  obtain ⟨⟨hx, hb, hml, hown, hts⟩, hA, hK, hRO, hro⟩ := id C
  have hl : lv_has ls 1 [(0, .ref (ad 0))] := hl
  obtain ⟨H, eH⟩ : ∃ z, z = s.heap := ⟨_, rfl⟩
  obtain ⟨locs, eL⟩ : ∃ z : List Loc, z = [] := ⟨_, rfl⟩
  rw [← eH] at hP
  have hS : va_S A s.heap H locs := by rw [eH, eL]; exact hS
  have goal : W p l e rmX9_order s m args below meth c H locs 0 0 Q (F0 m 0 ls []) := by
    refine lv_aload_n hx hb dX9_order_0 rfl (lv_at hl 0 rfl) ?_
    refine wx_get C hP (q := 0) (ci := 9) (Nat.le_of_ble_eq_true rfl) (eM_0 cI ad _) (Cn := RX9) (T := TX9) (Nf := 27) rfl inX9_order_X9 0 (by decide) (List.mem_of_getElem? (i := 1) rfl) (v := .ref (ad 1)) rfl dX9_order_1 ?_
    refine lv_iconst (v := 0) hx hb dX9_order_4 (by decide) ?_
    refine wx_ild C hP (q := 1) (Nat.le_of_ble_eq_true rfl) (fun _ => rfl) 0 rfl h.1 dX9_order_5 ?_
    have h := h.2
    exact Rt _ _ _ _ _ _ h hP hD hS dX9_order_6
  rw [eH, eL] at goal
  exact goal
abbrev rmX9_length : Room := { frames := 1, cells := 0, slots := 0, locals := 40 }
set_option maxRecDepth 20000 in
theorem inX9_length_X9 : ∀ w ∈ u_ws RX9 TX9 27, w ∈ wsX9_length := by decide +kernel
set_option maxRecDepth 100000 in
set_option maxHeartbeats 4000000 in
theorem mtX9_length {l : Launch} {D : va_G} {cI : ClassId} {ad : Nat → Nat} {sz : Nat} {σ : wx_Z} {K : Int32 → wx_Z → Prop} (h : wpX9_length σ K) : Met l yX9_length wsX9_length rmX9_length (wx_Pre D [(cI, .int)] wx_T0 14 (wM_E cI ad) ad σ sz [.ref (ad 0)]) (va_Qi K (wx_B D [(cI, .int)] 14 (wM_E cI ad) ad (va_A (wx_w 14 (wM_E cI ad) ad σ) sz)) (va_A (wx_w 14 (wM_E cI ad) ad σ) sz)) 0 0 (va_A (wx_w 14 (wM_E cI ad) ad σ) sz) := by
  unfold wpX9_length at h
  refine wx_meti (cc := cX9_length) (maxL := 1) (own := RX9) rfl (by decide) rfl (Nat.le_of_ble_eq_true rfl) wx_T0_ok ?_
  intro p e s m args below meth c A Q ls C Rt hP hD hS hl
  obtain ⟨⟨hx, hb, hml, hown, hts⟩, hA, hK, hRO, hro⟩ := id C
  have hl : lv_has ls 1 [(0, .ref (ad 0))] := hl
  obtain ⟨H, eH⟩ : ∃ z, z = s.heap := ⟨_, rfl⟩
  obtain ⟨locs, eL⟩ : ∃ z : List Loc, z = [] := ⟨_, rfl⟩
  rw [← eH] at hP
  have hS : va_S A s.heap H locs := by rw [eH, eL]; exact hS
  have goal : W p l e rmX9_length s m args below meth c H locs 0 0 Q (F0 m 0 ls []) := by
    refine lv_aload_n hx hb dX9_length_0 rfl (lv_at hl 0 rfl) ?_
    refine wx_get C hP (q := 0) (ci := 9) (Nat.le_of_ble_eq_true rfl) (eM_0 cI ad _) (Cn := RX9) (T := TX9) (Nf := 27) rfl inX9_length_X9 0 (by decide) (List.mem_of_getElem? (i := 1) rfl) (v := .ref (ad 1)) rfl dX9_length_1 ?_
    refine lv_iconst (v := 1) hx hb dX9_length_4 (by decide) ?_
    refine wx_ild C hP (q := 1) (Nat.le_of_ble_eq_true rfl) (fun _ => rfl) 0 rfl h.1 dX9_length_5 ?_
    have h := h.2
    exact Rt _ _ _ _ _ _ h hP hD hS dX9_length_6
  rw [eH, eL] at goal
  exact goal
abbrev rmX9_places : Room := { frames := 2, cells := 0, slots := 0, locals := 60 }
theorem nyX9_length : yX9_length.cls = RX9 ∧ yX9_length.cls ≠ "java/lang/invoke/MethodHandle" ∧ yX9_length.cls ≠ "java/lang/invoke/VarHandle" ∧ (parseMethodDescriptor yX9_length.desc).map (fun d => d.parameters.length) = some 0 := by decide +kernel
set_option maxRecDepth 100000 in
set_option maxHeartbeats 4000000 in
theorem mtX9_places {l : Launch} {D : va_G} {cI : ClassId} {ad : Nat → Nat} {sz : Nat} {σ : wx_Z} {K : Int32 → wx_Z → Prop} (h : wpX9_places σ K) : Met l yX9_places wsX9_places rmX9_places (wx_Pre D [(cI, .int)] wx_T0 14 (wM_E cI ad) ad σ sz [.ref (ad 0)]) (va_Qi K (wx_B D [(cI, .int)] 14 (wM_E cI ad) ad (va_A (wx_w 14 (wM_E cI ad) ad σ) sz)) (va_A (wx_w 14 (wM_E cI ad) ad σ) sz)) 0 0 (va_A (wx_w 14 (wM_E cI ad) ad σ) sz) := by
  unfold wpX9_places at h
  refine wx_meti (cc := cX9_places) (maxL := 1) (own := RX9) rfl (by decide) rfl (Nat.le_of_ble_eq_true rfl) wx_T0_ok ?_
  intro p e s m args below meth c A Q ls C Rt hP hD hS hl
  obtain ⟨⟨hx, hb, hml, hown, hts⟩, hA, hK, hRO, hro⟩ := id C
  have hl : lv_has ls 1 [(0, .ref (ad 0))] := hl
  obtain ⟨H, eH⟩ : ∃ z, z = s.heap := ⟨_, rfl⟩
  obtain ⟨locs, eL⟩ : ∃ z : List Loc, z = [] := ⟨_, rfl⟩
  rw [← eH] at hP
  have hS : va_S A s.heap H locs := by rw [eH, eL]; exact hS
  have goal : W p l e rmX9_places s m args below meth c H locs 0 0 Q (F0 m 0 ls []) := by
    refine lv_iconst (v := 1) hx hb dX9_places_0 (by decide) ?_
    refine lv_aload_n hx hb dX9_places_1 rfl (lv_at hl 0 rfl) ?_
    refine wx_ci C hD hS (va_runV (As := []) (rest := [.int 1]) C.1 (mtX9_length (l := l) (D := D) (sz := H.size) h) (cwV 0 hts gX9_places_X9_length rfl rfl rfl nyX9_length ⟨Nat.le_of_ble_eq_true rfl, Nat.le_of_ble_eq_true rfl⟩) (wx_pv C hP hD hS (q := 0) (ci := 9) (Nat.le_of_ble_eq_true rfl) (eM_0 cI ad _) rfl) rfl rfl hl.1 rfl (lv_room (Nat.le_of_ble_eq_true rfl)) dX9_places_2 ⟨Nat.zero_le _, Nat.zero_le _⟩) (fun r2 σ2 H locs h hP hD hS => ?_)
    refine lv_ishl hx hb dX9_places_5 ?_
    exact Rt _ _ _ _ _ _ h hP hD hS dX9_places_6
  rw [eH, eL] at goal
  exact goal
abbrev rmX9_theWord : Room := { frames := 1, cells := 0, slots := 0, locals := 40 }
set_option maxRecDepth 20000 in
theorem inX9_theWord_X9 : ∀ w ∈ u_ws RX9 TX9 27, w ∈ wsX9_theWord := by decide +kernel
set_option maxRecDepth 100000 in
set_option maxHeartbeats 4000000 in
theorem mtX9_theWord {l : Launch} {D : va_G} {cI : ClassId} {ad : Nat → Nat} {sz : Nat} {σ : wx_Z} {K : Int32 → wx_Z → Prop} (h : wpX9_theWord σ K) : Met l yX9_theWord wsX9_theWord rmX9_theWord (wx_Pre D [(cI, .int)] wx_T0 14 (wM_E cI ad) ad σ sz [.ref (ad 0)]) (va_Qi K (wx_B D [(cI, .int)] 14 (wM_E cI ad) ad (va_A (wx_w 14 (wM_E cI ad) ad σ) sz)) (va_A (wx_w 14 (wM_E cI ad) ad σ) sz)) 0 0 (va_A (wx_w 14 (wM_E cI ad) ad σ) sz) := by
  unfold wpX9_theWord at h
  refine wx_meti (cc := cX9_theWord) (maxL := 1) (own := RX9) rfl (by decide) rfl (Nat.le_of_ble_eq_true rfl) wx_T0_ok ?_
  intro p e s m args below meth c A Q ls C Rt hP hD hS hl
  obtain ⟨⟨hx, hb, hml, hown, hts⟩, hA, hK, hRO, hro⟩ := id C
  have hl : lv_has ls 1 [(0, .ref (ad 0))] := hl
  obtain ⟨H, eH⟩ : ∃ z, z = s.heap := ⟨_, rfl⟩
  obtain ⟨locs, eL⟩ : ∃ z : List Loc, z = [] := ⟨_, rfl⟩
  rw [← eH] at hP
  have hS : va_S A s.heap H locs := by rw [eH, eL]; exact hS
  have goal : W p l e rmX9_theWord s m args below meth c H locs 0 0 Q (F0 m 0 ls []) := by
    refine lv_aload_n hx hb dX9_theWord_0 rfl (lv_at hl 0 rfl) ?_
    refine wx_get C hP (q := 0) (ci := 9) (Nat.le_of_ble_eq_true rfl) (eM_0 cI ad _) (Cn := RX9) (T := TX9) (Nf := 27) rfl inX9_theWord_X9 0 (by decide) (List.mem_of_getElem? (i := 1) rfl) (v := .ref (ad 1)) rfl dX9_theWord_1 ?_
    refine lv_iconst (v := 2) hx hb dX9_theWord_4 (by decide) ?_
    refine wx_ild C hP (q := 1) (Nat.le_of_ble_eq_true rfl) (fun _ => rfl) 0 rfl h.1 dX9_theWord_5 ?_
    have h := h.2
    exact Rt _ _ _ _ _ _ h hP hD hS dX9_theWord_6
  rw [eH, eL] at goal
  exact goal
abbrev rmX9_allOf : Room := { frames := 1, cells := 0, slots := 0, locals := 40 }
set_option maxRecDepth 100000 in
set_option maxHeartbeats 4000000 in
theorem mtX9_allOf {l : Launch} {D : va_G} {cI : ClassId} {ad : Nat → Nat} {sz : Nat} {σ : wx_Z} {x0 : Int32} {K : Int32 → wx_Z → Prop} (h : wpX9_allOf σ x0 K) : Met l yX9_allOf wsX9_allOf rmX9_allOf (wx_Pre D [(cI, .int)] wx_T0 14 (wM_E cI ad) ad σ sz [.int x0]) (va_Qi K (wx_B D [(cI, .int)] 14 (wM_E cI ad) ad (va_A (wx_w 14 (wM_E cI ad) ad σ) sz)) (va_A (wx_w 14 (wM_E cI ad) ad σ) sz)) 0 0 (va_A (wx_w 14 (wM_E cI ad) ad σ) sz) := by
  unfold wpX9_allOf at h
  refine wx_meti (cc := cX9_allOf) (maxL := 1) (own := RX9) rfl (by decide) rfl (Nat.le_of_ble_eq_true rfl) wx_T0_ok ?_
  intro p e s m args below meth c A Q ls C Rt hP hD hS hl
  obtain ⟨⟨hx, hb, hml, hown, hts⟩, hA, hK, hRO, hro⟩ := id C
  have hl : lv_has ls 1 [(0, .int x0)] := hl
  obtain ⟨H, eH⟩ : ∃ z, z = s.heap := ⟨_, rfl⟩
  obtain ⟨locs, eL⟩ : ∃ z : List Loc, z = [] := ⟨_, rfl⟩
  rw [← eH] at hP
  have hS : va_S A s.heap H locs := by rw [eH, eL]; exact hS
  have goal : W p l e rmX9_allOf s m args below meth c H locs 0 0 Q (F0 m 0 ls []) := by
    refine lv_iload_n hx hb dX9_allOf_0 rfl (lv_at hl 0 rfl) ?_
    refine lv_bipush (v := 32) hx hb dX9_allOf_1 (by decide) ?_
    refine lv_icmp_lt (tgt := 10) hx hb dX9_allOf_3 (by decide) (fun c3 => ?_) (fun c3 => ?_)
    · have h := h.1 c3
      refine lv_iconst (v := 1) hx hb dX9_allOf_10 (by decide) ?_
      refine lv_iload_n hx hb dX9_allOf_11 rfl (lv_at hl 0 rfl) ?_
      refine lv_ishl hx hb dX9_allOf_12 ?_
      refine lv_iconst (v := 1) hx hb dX9_allOf_13 (by decide) ?_
      refine lv_isub hx hb dX9_allOf_14 ?_
      exact Rt _ _ _ _ _ _ h hP hD hS dX9_allOf_15
    · have h := h.2 c3
      refine lv_iconst (v := (-1)) hx hb dX9_allOf_6 (by decide) ?_
      refine lv_goto (tgt := 15) hx hb dX9_allOf_7 (by decide) ?_
      exact Rt _ _ _ _ _ _ h hP hD hS dX9_allOf_15
  rw [eH, eL] at goal
  exact goal
abbrev rmX9_keep : Room := { frames := 1, cells := 0, slots := 0, locals := 40 }
set_option maxRecDepth 20000 in
theorem inX9_keep_X9 : ∀ w ∈ u_ws RX9 TX9 27, w ∈ wsX9_keep := by decide +kernel
set_option maxRecDepth 100000 in
set_option maxHeartbeats 4000000 in
theorem bX9_keep_51 {p : Program} {l : Launch} {e : Env} {s : State} {m : MethodId} {args : Array Value} {below : List Frame} {meth : Method} {c : Code} {A : Nat → Prop} {Q : State → Prop} {D : va_G} {cI : ClassId} {ad : Nat → Nat} {K : wx_Z → Prop} (C : wx_C p s m args c cX9_keep 2 RX9 wsX9_keep D [(cI, .int)] wx_T0 A) (Rt : wx_Rv p l e rmX9_keep s m args below meth c cX9_keep D 14 (wM_E cI ad) ad A K Q) : ∀ (n : Nat) (σ : wx_Z) (x1 : Int32), wpX9_keep_51 K n σ x1 → ∀ (H : Heap) (locs : List Loc) (ls : Array Slot), va_P D vwCl (wx_w 14 (wM_E cI ad) ad σ) H → va_D A (wx_w 14 (wM_E cI ad) ad σ) → va_S A s.heap H locs → lv_has ls 2 [(0, .ref (ad 0)), (1, .int x1)] → W p l e rmX9_keep s m args below meth c H locs 0 0 Q (F0 m 51 ls []) := by
  obtain ⟨⟨hx, hb, hml, hown, hts⟩, hA, hK, hRO, hro⟩ := id C
  intro n
  induction n with
  | zero => intro σ x1 h; exact h.elim
  | succ n ih =>
    intro σ x1 h H locs ls hP hD hS hl
    unfold wpX9_keep_51 at h
    refine lv_iload_n hx hb dX9_keep_51 rfl (lv_at hl 1 rfl) ?_
    refine lv_bipush (v := 35) hx hb dX9_keep_52 (by decide) ?_
    refine lv_icmp_ge (tgt := 83) hx hb dX9_keep_54 (by decide) (fun c54 => ?_) (fun c54 => ?_)
    · have h := h.1 c54
      refine lv_aload_n hx hb dX9_keep_83 rfl (lv_at hl 0 rfl) ?_
      refine lv_dup hx hb dX9_keep_84 rfl ?_
      refine wx_get C hP (q := 0) (ci := 9) (Nat.le_of_ble_eq_true rfl) (eM_0 cI ad _) (Cn := RX9) (T := TX9) (Nf := 27) rfl inX9_keep_X9 2 (by decide) (List.mem_of_getElem? (i := 1) rfl) (v := .int (σ 0 2)) rfl dX9_keep_85 ?_
      refine lv_iconst (v := 1) hx hb dX9_keep_88 (by decide) ?_
      refine lv_iadd hx hb dX9_keep_89 ?_
      refine wx_put C hP hD hS (q := 0) (ci := 9) (Nat.le_of_ble_eq_true rfl) (eM_0 cI ad _) (Cn := RX9) (T := TX9) (Nf := 27) rfl inX9_keep_X9 tyX9 tyX9_ok nmX9 2 (by decide) (List.mem_of_getElem? (i := 1) rfl) rfl rfl (Nat.le_of_ble_eq_true rfl) rfl dX9_keep_90 (fun H locs hP hD hS => ?_)
      generalize e_σ90 : wx_up σ 0 2 ((σ 0 2) + 1) = σ90 at hP hD
      have h := h σ90 e_σ90.symm
      exact Rt _ _ _ _ _ h hP hD hS dX9_keep_93
    · have h := h.2 c54
      refine lv_aload_n hx hb dX9_keep_57 rfl (lv_at hl 0 rfl) ?_
      refine wx_get C hP (q := 0) (ci := 9) (Nat.le_of_ble_eq_true rfl) (eM_0 cI ad _) (Cn := RX9) (T := TX9) (Nf := 27) rfl inX9_keep_X9 1 (by decide) (List.mem_of_getElem? (i := 2) rfl) (v := .ref (ad 2)) rfl dX9_keep_58 ?_
      refine lv_bipush (v := 35) hx hb dX9_keep_61 (by decide) ?_
      refine lv_aload_n hx hb dX9_keep_63 rfl (lv_at hl 0 rfl) ?_
      refine wx_get C hP (q := 0) (ci := 9) (Nat.le_of_ble_eq_true rfl) (eM_0 cI ad _) (Cn := RX9) (T := TX9) (Nf := 27) rfl inX9_keep_X9 2 (by decide) (List.mem_of_getElem? (i := 1) rfl) (v := .int (σ 0 2)) rfl dX9_keep_64 ?_
      refine lv_imul hx hb dX9_keep_67 ?_
      refine lv_iload_n hx hb dX9_keep_68 rfl (lv_at hl 1 rfl) ?_
      refine lv_iadd hx hb dX9_keep_69 ?_
      refine lv_aload_n hx hb dX9_keep_70 rfl (lv_at hl 0 rfl) ?_
      refine wx_get C hP (q := 0) (ci := 9) (Nat.le_of_ble_eq_true rfl) (eM_0 cI ad _) (Cn := RX9) (T := TX9) (Nf := 27) rfl inX9_keep_X9 0 (by decide) (List.mem_of_getElem? (i := 3) rfl) (v := .ref (ad 1)) rfl dX9_keep_71 ?_
      refine lv_iload_n hx hb dX9_keep_74 rfl (lv_at hl 1 rfl) ?_
      refine wx_ild C hP (q := 1) (Nat.le_of_ble_eq_true rfl) (fun _ => rfl) 0 rfl h.1 dX9_keep_75 ?_
      have h := h.2
      refine wx_ist C hP hD hS (q := 2) (Nat.le_of_ble_eq_true rfl) (fun _ => rfl) 0 rfl h.1 dX9_keep_76 (fun H locs hP hD hS => ?_)
      generalize e_σ76 : wx_up σ 2 (Int32.toNatClampNeg ((35 * (σ 0 2)) + x1)) (σ 1 (Int32.toNatClampNeg x1)) = σ76 at hP hD
      have h := h.2 σ76 e_σ76.symm
      obtain ⟨t77, e_t77⟩ : ∃ y : Int32, y = x1 + 1 := ⟨_, rfl⟩
      have h := h t77 e_t77
      refine lv_iinc (v := t77) (lv' := [(1, .int t77), (0, .ref (ad 0))]) hx hb dX9_keep_77 hl (k := 1) rfl (by rw [e_t77]; rfl) (by decide) rfl (fun ls hl => ?_)
      refine lv_goto (tgt := 51) hx hb dX9_keep_80 (by decide) ?_
      exact ih σ76 t77  h _ _ _ hP hD hS (lv_sub hl [1, 0] rfl)
set_option maxRecDepth 100000 in
set_option maxHeartbeats 4000000 in
theorem bX9_keep_11 {p : Program} {l : Launch} {e : Env} {s : State} {m : MethodId} {args : Array Value} {below : List Frame} {meth : Method} {c : Code} {A : Nat → Prop} {Q : State → Prop} {D : va_G} {cI : ClassId} {ad : Nat → Nat} {K : wx_Z → Prop} (C : wx_C p s m args c cX9_keep 2 RX9 wsX9_keep D [(cI, .int)] wx_T0 A) (Rt : wx_Rv p l e rmX9_keep s m args below meth c cX9_keep D 14 (wM_E cI ad) ad A K Q) : ∀ (n : Nat) (σ : wx_Z) (x1 : Int32), wpX9_keep_11 K n σ x1 → ∀ (H : Heap) (locs : List Loc) (ls : Array Slot), va_P D vwCl (wx_w 14 (wM_E cI ad) ad σ) H → va_D A (wx_w 14 (wM_E cI ad) ad σ) → va_S A s.heap H locs → lv_has ls 2 [(0, .ref (ad 0)), (1, .int x1)] → W p l e rmX9_keep s m args below meth c H locs 0 0 Q (F0 m 11 ls []) := by
  obtain ⟨⟨hx, hb, hml, hown, hts⟩, hA, hK, hRO, hro⟩ := id C
  intro n
  induction n with
  | zero => intro σ x1 h; exact h.elim
  | succ n ih =>
    intro σ x1 h H locs ls hP hD hS hl
    unfold wpX9_keep_11 at h
    refine lv_iload_n hx hb dX9_keep_11 rfl (lv_at hl 1 rfl) ?_
    refine lv_sipush (v := 245) hx hb dX9_keep_12 (by decide) ?_
    refine lv_icmp_ge (tgt := 39) hx hb dX9_keep_15 (by decide) (fun c15 => ?_) (fun c15 => ?_)
    · have h := h.1 c15
      refine lv_aload_n hx hb dX9_keep_39 rfl (lv_at hl 0 rfl) ?_
      refine lv_dup hx hb dX9_keep_40 rfl ?_
      refine wx_get C hP (q := 0) (ci := 9) (Nat.le_of_ble_eq_true rfl) (eM_0 cI ad _) (Cn := RX9) (T := TX9) (Nf := 27) rfl inX9_keep_X9 2 (by decide) (List.mem_of_getElem? (i := 1) rfl) (v := .int (σ 0 2)) rfl dX9_keep_41 ?_
      refine lv_iconst (v := 1) hx hb dX9_keep_44 (by decide) ?_
      refine lv_isub hx hb dX9_keep_45 ?_
      refine wx_put C hP hD hS (q := 0) (ci := 9) (Nat.le_of_ble_eq_true rfl) (eM_0 cI ad _) (Cn := RX9) (T := TX9) (Nf := 27) rfl inX9_keep_X9 tyX9 tyX9_ok nmX9 2 (by decide) (List.mem_of_getElem? (i := 1) rfl) rfl rfl (Nat.le_of_ble_eq_true rfl) rfl dX9_keep_46 (fun H locs hP hD hS => ?_)
      generalize e_σ46 : wx_up σ 0 2 ((σ 0 2) - 1) = σ46 at hP hD
      have h := h σ46 e_σ46.symm
      refine lv_iconst (v := 0) hx hb dX9_keep_49 (by decide) ?_
      refine lv_istore_n (lv' := [(1, .int 0), (0, .ref (ad 0))]) hx hb dX9_keep_50 rfl hl (by decide) rfl (fun ls hl => ?_)
      obtain ⟨n51, h⟩ := h
      exact bX9_keep_51 C Rt n51 σ46 0  h _ _ _ hP hD hS (lv_sub hl [1, 0] rfl)
    · have h := h.2 c15
      refine lv_aload_n hx hb dX9_keep_18 rfl (lv_at hl 0 rfl) ?_
      refine wx_get C hP (q := 0) (ci := 9) (Nat.le_of_ble_eq_true rfl) (eM_0 cI ad _) (Cn := RX9) (T := TX9) (Nf := 27) rfl inX9_keep_X9 1 (by decide) (List.mem_of_getElem? (i := 2) rfl) (v := .ref (ad 2)) rfl dX9_keep_19 ?_
      refine lv_iload_n hx hb dX9_keep_22 rfl (lv_at hl 1 rfl) ?_
      refine lv_aload_n hx hb dX9_keep_23 rfl (lv_at hl 0 rfl) ?_
      refine wx_get C hP (q := 0) (ci := 9) (Nat.le_of_ble_eq_true rfl) (eM_0 cI ad _) (Cn := RX9) (T := TX9) (Nf := 27) rfl inX9_keep_X9 1 (by decide) (List.mem_of_getElem? (i := 2) rfl) (v := .ref (ad 2)) rfl dX9_keep_24 ?_
      refine lv_iload_n hx hb dX9_keep_27 rfl (lv_at hl 1 rfl) ?_
      refine lv_bipush (v := 35) hx hb dX9_keep_28 (by decide) ?_
      refine lv_iadd hx hb dX9_keep_30 ?_
      refine wx_ild C hP (q := 2) (Nat.le_of_ble_eq_true rfl) (fun _ => rfl) 0 rfl h.1 dX9_keep_31 ?_
      have h := h.2
      refine wx_ist C hP hD hS (q := 2) (Nat.le_of_ble_eq_true rfl) (fun _ => rfl) 0 rfl h.1 dX9_keep_32 (fun H locs hP hD hS => ?_)
      generalize e_σ32 : wx_up σ 2 (Int32.toNatClampNeg x1) (σ 2 (Int32.toNatClampNeg (x1 + 35))) = σ32 at hP hD
      have h := h.2 σ32 e_σ32.symm
      obtain ⟨t33, e_t33⟩ : ∃ y : Int32, y = x1 + 1 := ⟨_, rfl⟩
      have h := h t33 e_t33
      refine lv_iinc (v := t33) (lv' := [(1, .int t33), (0, .ref (ad 0))]) hx hb dX9_keep_33 hl (k := 1) rfl (by rw [e_t33]; rfl) (by decide) rfl (fun ls hl => ?_)
      refine lv_goto (tgt := 11) hx hb dX9_keep_36 (by decide) ?_
      exact ih σ32 t33  h _ _ _ hP hD hS (lv_sub hl [1, 0] rfl)
set_option maxRecDepth 100000 in
set_option maxHeartbeats 4000000 in
theorem mtX9_keep {l : Launch} {D : va_G} {cI : ClassId} {ad : Nat → Nat} {sz : Nat} {σ : wx_Z} {K : wx_Z → Prop} (h : wpX9_keep σ K) : Met l yX9_keep wsX9_keep rmX9_keep (wx_Pre D [(cI, .int)] wx_T0 14 (wM_E cI ad) ad σ sz [.ref (ad 0)]) (va_Qv K (wx_B D [(cI, .int)] 14 (wM_E cI ad) ad (va_A (wx_w 14 (wM_E cI ad) ad σ) sz)) (va_A (wx_w 14 (wM_E cI ad) ad σ) sz)) 0 0 (va_A (wx_w 14 (wM_E cI ad) ad σ) sz) := by
  unfold wpX9_keep at h
  refine wx_metv (cc := cX9_keep) (maxL := 2) (own := RX9) rfl (by decide) rfl (Nat.le_of_ble_eq_true rfl) wx_T0_ok ?_
  intro p e s m args below meth c A Q ls C Rt hP hD hS hl
  obtain ⟨⟨hx, hb, hml, hown, hts⟩, hA, hK, hRO, hro⟩ := id C
  have hl : lv_has ls 2 [(0, .ref (ad 0))] := hl
  obtain ⟨H, eH⟩ : ∃ z, z = s.heap := ⟨_, rfl⟩
  obtain ⟨locs, eL⟩ : ∃ z : List Loc, z = [] := ⟨_, rfl⟩
  rw [← eH] at hP
  have hS : va_S A s.heap H locs := by rw [eH, eL]; exact hS
  have goal : W p l e rmX9_keep s m args below meth c H locs 0 0 Q (F0 m 0 ls []) := by
    refine lv_aload_n hx hb dX9_keep_0 rfl (lv_at hl 0 rfl) ?_
    refine wx_get C hP (q := 0) (ci := 9) (Nat.le_of_ble_eq_true rfl) (eM_0 cI ad _) (Cn := RX9) (T := TX9) (Nf := 27) rfl inX9_keep_X9 2 (by decide) (List.mem_of_getElem? (i := 1) rfl) (v := .int (σ 0 2)) rfl dX9_keep_1 ?_
    refine lv_bipush (v := 8) hx hb dX9_keep_4 (by decide) ?_
    refine lv_icmp_ne (tgt := 49) hx hb dX9_keep_6 (by decide) (fun c6 => ?_) (fun c6 => ?_)
    · have h := h.1 c6
      refine lv_iconst (v := 0) hx hb dX9_keep_49 (by decide) ?_
      refine lv_istore_n (lv' := [(1, .int 0), (0, .ref (ad 0))]) hx hb dX9_keep_50 rfl hl (by decide) rfl (fun ls hl => ?_)
      obtain ⟨n51, h⟩ := h
      exact bX9_keep_51 C Rt n51 σ 0  h _ _ _ hP hD hS (lv_sub hl [1, 0] rfl)
    · have h := h.2 c6
      refine lv_iconst (v := 0) hx hb dX9_keep_9 (by decide) ?_
      refine lv_istore_n (lv' := [(1, .int 0), (0, .ref (ad 0))]) hx hb dX9_keep_10 rfl hl (by decide) rfl (fun ls hl => ?_)
      obtain ⟨n11, h⟩ := h
      exact bX9_keep_11 C Rt n11 σ 0  h _ _ _ hP hD hS (lv_sub hl [1, 0] rfl)
  rw [eH, eL] at goal
  exact goal
abbrev rmX9_lays : Room := { frames := 3, cells := 0, slots := 0, locals := 80 }
set_option maxRecDepth 20000 in
theorem inX9_lays_X9 : ∀ w ∈ u_ws RX9 TX9 27, w ∈ wsX9_lays := by decide +kernel
theorem nyX9_bits : yX9_bits.cls = RX9 ∧ yX9_bits.cls ≠ "java/lang/invoke/MethodHandle" ∧ yX9_bits.cls ≠ "java/lang/invoke/VarHandle" ∧ (parseMethodDescriptor yX9_bits.desc).map (fun d => d.parameters.length) = some 1 := by decide +kernel
theorem nyX9_places : yX9_places.cls = RX9 ∧ yX9_places.cls ≠ "java/lang/invoke/MethodHandle" ∧ yX9_places.cls ≠ "java/lang/invoke/VarHandle" ∧ (parseMethodDescriptor yX9_places.desc).map (fun d => d.parameters.length) = some 0 := by decide +kernel
set_option maxRecDepth 100000 in
set_option maxHeartbeats 4000000 in
theorem bX9_lays_14 {p : Program} {l : Launch} {e : Env} {s : State} {m : MethodId} {args : Array Value} {below : List Frame} {meth : Method} {c : Code} {A : Nat → Prop} {Q : State → Prop} {D : va_G} {cI : ClassId} {ad : Nat → Nat} {K : wx_Z → Prop} {C7 : wx_Z → Int32 → Int32 → Prop} (C : wx_C p s m args c cX9_lays 4 RX9 wsX9_lays D [(cI, .int)] wx_T0 A) (Rt : wx_Rv p l e rmX9_lays s m args below meth c cX9_lays D 14 (wM_E cI ad) ad A K Q) (hC7 : ∀ (σ : wx_Z) (x1 : Int32) (x2 : Int32), C7 σ x1 x2 → ∀ (H : Heap) (locs : List Loc) (ls : Array Slot), va_P D vwCl (wx_w 14 (wM_E cI ad) ad σ) H → va_D A (wx_w 14 (wM_E cI ad) ad σ) → va_S A s.heap H locs → lv_has ls 4 [(0, .ref (ad 0)), (1, .int x1), (2, .int x2)] → W p l e rmX9_lays s m args below meth c H locs 0 0 Q (F0 m 7 ls [])) : ∀ (n : Nat) (σ : wx_Z) (x1 : Int32) (x2 : Int32) (x3 : Int32), wpX9_lays_14 K C7 n σ x1 x2 x3 → ∀ (H : Heap) (locs : List Loc) (ls : Array Slot), va_P D vwCl (wx_w 14 (wM_E cI ad) ad σ) H → va_D A (wx_w 14 (wM_E cI ad) ad σ) → va_S A s.heap H locs → lv_has ls 4 [(0, .ref (ad 0)), (1, .int x1), (2, .int x2), (3, .int x3)] → W p l e rmX9_lays s m args below meth c H locs 0 0 Q (F0 m 14 ls []) := by
  obtain ⟨⟨hx, hb, hml, hown, hts⟩, hA, hK, hRO, hro⟩ := id C
  intro n
  induction n with
  | zero => intro σ x1 x2 x3 h; exact h.elim
  | succ n ih =>
    intro σ x1 x2 x3 h H locs ls hP hD hS hl
    unfold wpX9_lays_14 at h
    refine lv_iload_n hx hb dX9_lays_14 rfl (lv_at hl 3 rfl) ?_
    refine lv_aload_n hx hb dX9_lays_15 rfl (lv_at hl 0 rfl) ?_
    refine wx_ci C hD hS (va_runV (As := []) (rest := [.int x3]) C.1 (mtX9_places (l := l) (D := D) (sz := H.size) h) (cwV 0 hts gX9_lays_X9_places rfl rfl rfl nyX9_places ⟨Nat.le_of_ble_eq_true rfl, Nat.le_of_ble_eq_true rfl⟩) (wx_pv C hP hD hS (q := 0) (ci := 9) (Nat.le_of_ble_eq_true rfl) (eM_0 cI ad _) rfl) rfl rfl hl.1 rfl (lv_room (Nat.le_of_ble_eq_true rfl)) dX9_lays_16 ⟨Nat.zero_le _, Nat.zero_le _⟩) (fun r16 σ16 H locs h hP hD hS => ?_)
    refine lv_icmp_ge (tgt := 56) hx hb dX9_lays_19 (by decide) (fun c19 => ?_) (fun c19 => ?_)
    · have h := h.1 c19
      obtain ⟨t56, e_t56⟩ : ∃ y : Int32, y = x2 + 1 := ⟨_, rfl⟩
      have h := h t56 e_t56
      refine lv_iinc (v := t56) (lv' := [(2, .int t56), (0, .ref (ad 0)), (1, .int x1), (3, .int x3)]) hx hb dX9_lays_56 hl (k := 2) rfl (by rw [e_t56]; rfl) (by decide) rfl (fun ls hl => ?_)
      refine lv_goto (tgt := 7) hx hb dX9_lays_59 (by decide) ?_
      exact hC7 σ16 x1 t56  h _ _ _ hP hD hS (lv_sub hl [1, 2, 0] rfl)
    · have h := h.2 c19
      refine lv_iload_n hx hb dX9_lays_22 rfl (lv_at hl 3 rfl) ?_
      refine wx_ci C hD hS (va_runS (As := [.int x3]) (rest := []) C.1 (mtX9_bits (l := l) (D := D) (sz := H.size) h) (va_cwS 1 hts gX9_lays_X9_bits rfl rfl rfl nyX9_bits.2 ⟨Nat.le_of_ble_eq_true rfl, Nat.le_of_ble_eq_true rfl⟩) (wx_ps C hP hD hS) rfl rfl hl.1 rfl (lv_room (Nat.le_of_ble_eq_true rfl)) dX9_lays_23 ⟨Nat.zero_le _, Nat.zero_le _⟩) (fun r23 σ23 H locs h hP hD hS => ?_)
      refine lv_iload_n hx hb dX9_lays_26 rfl (lv_at hl 2 rfl) ?_
      refine lv_icmp_ne (tgt := 50) hx hb dX9_lays_27 (by decide) (fun c27 => ?_) (fun c27 => ?_)
      · have h := h.1 c27
        obtain ⟨t50, e_t50⟩ : ∃ y : Int32, y = x3 + 1 := ⟨_, rfl⟩
        have h := h t50 e_t50
        refine lv_iinc (v := t50) (lv' := [(3, .int t50), (0, .ref (ad 0)), (1, .int x1), (2, .int x2)]) hx hb dX9_lays_50 hl (k := 3) rfl (by rw [e_t50]; rfl) (by decide) rfl (fun ls hl => ?_)
        refine lv_goto (tgt := 14) hx hb dX9_lays_53 (by decide) ?_
        exact ih σ23 x1 x2 t50  h _ _ _ hP hD hS (lv_sub hl [1, 2, 3, 0] rfl)
      · have h := h.2 c27
        refine lv_aload_n hx hb dX9_lays_30 rfl (lv_at hl 0 rfl) ?_
        refine wx_get C hP (q := 0) (ci := 9) (Nat.le_of_ble_eq_true rfl) (eM_0 cI ad _) (Cn := RX9) (T := TX9) (Nf := 27) rfl inX9_lays_X9 4 (by decide) (List.mem_of_getElem? (i := 2) rfl) (v := .ref (ad 4)) rfl dX9_lays_31 ?_
        refine lv_aload_n hx hb dX9_lays_34 rfl (lv_at hl 0 rfl) ?_
        refine wx_get C hP (q := 0) (ci := 9) (Nat.le_of_ble_eq_true rfl) (eM_0 cI ad _) (Cn := RX9) (T := TX9) (Nf := 27) rfl inX9_lays_X9 5 (by decide) (List.mem_of_getElem? (i := 1) rfl) (v := .int (σ23 0 5)) rfl dX9_lays_35 ?_
        refine lv_iload_n hx hb dX9_lays_38 rfl (lv_at hl 3 rfl) ?_
        refine wx_ist C hP hD hS (q := 4) (Nat.le_of_ble_eq_true rfl) (fun _ => rfl) 0 rfl h.1 dX9_lays_39 (fun H locs hP hD hS => ?_)
        generalize e_σ39 : wx_up σ23 4 (Int32.toNatClampNeg (σ23 0 5)) x3 = σ39 at hP hD
        have h := h.2 σ39 e_σ39.symm
        refine lv_aload_n hx hb dX9_lays_40 rfl (lv_at hl 0 rfl) ?_
        refine lv_dup hx hb dX9_lays_41 rfl ?_
        refine wx_get C hP (q := 0) (ci := 9) (Nat.le_of_ble_eq_true rfl) (eM_0 cI ad _) (Cn := RX9) (T := TX9) (Nf := 27) rfl inX9_lays_X9 5 (by decide) (List.mem_of_getElem? (i := 1) rfl) (v := .int (σ39 0 5)) rfl dX9_lays_42 ?_
        refine lv_iconst (v := 1) hx hb dX9_lays_45 (by decide) ?_
        refine lv_iadd hx hb dX9_lays_46 ?_
        refine wx_put C hP hD hS (q := 0) (ci := 9) (Nat.le_of_ble_eq_true rfl) (eM_0 cI ad _) (Cn := RX9) (T := TX9) (Nf := 27) rfl inX9_lays_X9 tyX9 tyX9_ok nmX9 5 (by decide) (List.mem_of_getElem? (i := 1) rfl) rfl rfl (Nat.le_of_ble_eq_true rfl) rfl dX9_lays_47 (fun H locs hP hD hS => ?_)
        generalize e_σ47 : wx_up σ39 0 5 ((σ39 0 5) + 1) = σ47 at hP hD
        have h := h σ47 e_σ47.symm
        obtain ⟨t50_1, e_t50_1⟩ : ∃ y : Int32, y = x3 + 1 := ⟨_, rfl⟩
        have h := h t50_1 e_t50_1
        refine lv_iinc (v := t50_1) (lv' := [(3, .int t50_1), (0, .ref (ad 0)), (1, .int x1), (2, .int x2)]) hx hb dX9_lays_50 hl (k := 3) rfl (by rw [e_t50_1]; rfl) (by decide) rfl (fun ls hl => ?_)
        refine lv_goto (tgt := 14) hx hb dX9_lays_53 (by decide) ?_
        exact ih σ47 x1 x2 t50_1  h _ _ _ hP hD hS (lv_sub hl [1, 2, 3, 0] rfl)
set_option maxRecDepth 100000 in
set_option maxHeartbeats 4000000 in
theorem bX9_lays_7 {p : Program} {l : Launch} {e : Env} {s : State} {m : MethodId} {args : Array Value} {below : List Frame} {meth : Method} {c : Code} {A : Nat → Prop} {Q : State → Prop} {D : va_G} {cI : ClassId} {ad : Nat → Nat} {K : wx_Z → Prop} (C : wx_C p s m args c cX9_lays 4 RX9 wsX9_lays D [(cI, .int)] wx_T0 A) (Rt : wx_Rv p l e rmX9_lays s m args below meth c cX9_lays D 14 (wM_E cI ad) ad A K Q) : ∀ (n : Nat) (σ : wx_Z) (x1 : Int32) (x2 : Int32), wpX9_lays_7 K n σ x1 x2 → ∀ (H : Heap) (locs : List Loc) (ls : Array Slot), va_P D vwCl (wx_w 14 (wM_E cI ad) ad σ) H → va_D A (wx_w 14 (wM_E cI ad) ad σ) → va_S A s.heap H locs → lv_has ls 4 [(0, .ref (ad 0)), (1, .int x1), (2, .int x2)] → W p l e rmX9_lays s m args below meth c H locs 0 0 Q (F0 m 7 ls []) := by
  obtain ⟨⟨hx, hb, hml, hown, hts⟩, hA, hK, hRO, hro⟩ := id C
  intro n
  induction n with
  | zero => intro σ x1 x2 h; exact h.elim
  | succ n ih =>
    intro σ x1 x2 h H locs ls hP hD hS hl
    unfold wpX9_lays_7 at h
    refine lv_iload_n hx hb dX9_lays_7 rfl (lv_at hl 2 rfl) ?_
    refine lv_iload_n hx hb dX9_lays_8 rfl (lv_at hl 1 rfl) ?_
    refine lv_icmp_gt (tgt := 62) hx hb dX9_lays_9 (by decide) (fun c9 => ?_) (fun c9 => ?_)
    · have h := h.1 c9
      exact Rt _ _ _ _ _ h hP hD hS dX9_lays_62
    · have h := h.2 c9
      refine lv_iconst (v := 0) hx hb dX9_lays_12 (by decide) ?_
      refine lv_istore_n (lv' := [(3, .int 0), (0, .ref (ad 0)), (1, .int x1), (2, .int x2)]) hx hb dX9_lays_13 rfl hl (by decide) rfl (fun ls hl => ?_)
      obtain ⟨n14, h⟩ := h
      exact bX9_lays_14 C Rt ih n14 σ x1 x2 0  h _ _ _ hP hD hS (lv_sub hl [1, 2, 3, 0] rfl)
set_option maxRecDepth 100000 in
set_option maxHeartbeats 4000000 in
theorem mtX9_lays {l : Launch} {D : va_G} {cI : ClassId} {ad : Nat → Nat} {sz : Nat} {σ : wx_Z} {x1 : Int32} {K : wx_Z → Prop} (h : wpX9_lays σ x1 K) : Met l yX9_lays wsX9_lays rmX9_lays (wx_Pre D [(cI, .int)] wx_T0 14 (wM_E cI ad) ad σ sz [.ref (ad 0), .int x1]) (va_Qv K (wx_B D [(cI, .int)] 14 (wM_E cI ad) ad (va_A (wx_w 14 (wM_E cI ad) ad σ) sz)) (va_A (wx_w 14 (wM_E cI ad) ad σ) sz)) 0 0 (va_A (wx_w 14 (wM_E cI ad) ad σ) sz) := by
  unfold wpX9_lays at h
  refine wx_metv (cc := cX9_lays) (maxL := 4) (own := RX9) rfl (by decide) rfl (Nat.le_of_ble_eq_true rfl) wx_T0_ok ?_
  intro p e s m args below meth c A Q ls C Rt hP hD hS hl
  obtain ⟨⟨hx, hb, hml, hown, hts⟩, hA, hK, hRO, hro⟩ := id C
  have hl : lv_has ls 4 [(0, .ref (ad 0)), (1, .int x1)] := hl
  obtain ⟨H, eH⟩ : ∃ z, z = s.heap := ⟨_, rfl⟩
  obtain ⟨locs, eL⟩ : ∃ z : List Loc, z = [] := ⟨_, rfl⟩
  rw [← eH] at hP
  have hS : va_S A s.heap H locs := by rw [eH, eL]; exact hS
  have goal : W p l e rmX9_lays s m args below meth c H locs 0 0 Q (F0 m 0 ls []) := by
    refine lv_aload_n hx hb dX9_lays_0 rfl (lv_at hl 0 rfl) ?_
    refine lv_iconst (v := 0) hx hb dX9_lays_1 (by decide) ?_
    refine wx_put C hP hD hS (q := 0) (ci := 9) (Nat.le_of_ble_eq_true rfl) (eM_0 cI ad _) (Cn := RX9) (T := TX9) (Nf := 27) rfl inX9_lays_X9 tyX9 tyX9_ok nmX9 5 (by decide) (List.mem_of_getElem? (i := 1) rfl) rfl rfl (Nat.le_of_ble_eq_true rfl) rfl dX9_lays_2 (fun H locs hP hD hS => ?_)
    generalize e_σ2 : wx_up σ 0 5 0 = σ2 at hP hD
    have h := h σ2 e_σ2.symm
    refine lv_iconst (v := 0) hx hb dX9_lays_5 (by decide) ?_
    refine lv_istore_n (lv' := [(2, .int 0), (0, .ref (ad 0)), (1, .int x1)]) hx hb dX9_lays_6 rfl hl (by decide) rfl (fun ls hl => ?_)
    obtain ⟨n7, h⟩ := h
    exact bX9_lays_7 C Rt n7 σ2 x1 0  h _ _ _ hP hD hS (lv_sub hl [1, 2, 0] rfl)
  rw [eH, eL] at goal
  exact goal
abbrev rmX9_many : Room := { frames := 4, cells := 0, slots := 0, locals := 103 }
set_option maxRecDepth 20000 in
theorem inX9_many_X9 : ∀ w ∈ u_ws RX9 TX9 27, w ∈ wsX9_many := by decide +kernel
theorem nyX9_lays : yX9_lays.cls = RX9 ∧ yX9_lays.cls ≠ "java/lang/invoke/MethodHandle" ∧ yX9_lays.cls ≠ "java/lang/invoke/VarHandle" ∧ (parseMethodDescriptor yX9_lays.desc).map (fun d => d.parameters.length) = some 1 := by decide +kernel
theorem nyX9_order : yX9_order.cls = RX9 ∧ yX9_order.cls ≠ "java/lang/invoke/MethodHandle" ∧ yX9_order.cls ≠ "java/lang/invoke/VarHandle" ∧ (parseMethodDescriptor yX9_order.desc).map (fun d => d.parameters.length) = some 0 := by decide +kernel
set_option maxRecDepth 100000 in
set_option maxHeartbeats 4000000 in
theorem mtX9_many {l : Launch} {D : va_G} {cI : ClassId} {ad : Nat → Nat} {sz : Nat} {σ : wx_Z} {K : Int32 → wx_Z → Prop} (h : wpX9_many σ K) : Met l yX9_many wsX9_many rmX9_many (wx_Pre D [(cI, .int)] wx_T0 14 (wM_E cI ad) ad σ sz [.ref (ad 0)]) (va_Qi K (wx_B D [(cI, .int)] 14 (wM_E cI ad) ad (va_A (wx_w 14 (wM_E cI ad) ad σ) sz)) (va_A (wx_w 14 (wM_E cI ad) ad σ) sz)) 0 0 (va_A (wx_w 14 (wM_E cI ad) ad σ) sz) := by
  unfold wpX9_many at h
  refine wx_meti (cc := cX9_many) (maxL := 1) (own := RX9) rfl (by decide) rfl (Nat.le_of_ble_eq_true rfl) wx_T0_ok ?_
  intro p e s m args below meth c A Q ls C Rt hP hD hS hl
  obtain ⟨⟨hx, hb, hml, hown, hts⟩, hA, hK, hRO, hro⟩ := id C
  have hl : lv_has ls 1 [(0, .ref (ad 0))] := hl
  obtain ⟨H, eH⟩ : ∃ z, z = s.heap := ⟨_, rfl⟩
  obtain ⟨locs, eL⟩ : ∃ z : List Loc, z = [] := ⟨_, rfl⟩
  rw [← eH] at hP
  have hS : va_S A s.heap H locs := by rw [eH, eL]; exact hS
  have goal : W p l e rmX9_many s m args below meth c H locs 0 0 Q (F0 m 0 ls []) := by
    refine lv_aload_n hx hb dX9_many_0 rfl (lv_at hl 0 rfl) ?_
    refine lv_aload_n hx hb dX9_many_1 rfl (lv_at hl 0 rfl) ?_
    refine wx_ci C hD hS (va_runV (As := []) (rest := [.ref (ad 0)]) C.1 (mtX9_order (l := l) (D := D) (sz := H.size) h) (cwV 0 hts gX9_many_X9_order rfl rfl rfl nyX9_order ⟨Nat.le_of_ble_eq_true rfl, Nat.le_of_ble_eq_true rfl⟩) (wx_pv C hP hD hS (q := 0) (ci := 9) (Nat.le_of_ble_eq_true rfl) (eM_0 cI ad _) rfl) rfl rfl hl.1 rfl (lv_room (Nat.le_of_ble_eq_true rfl)) dX9_many_2 ⟨Nat.zero_le _, Nat.zero_le _⟩) (fun r2 σ2 H locs h hP hD hS => ?_)
    refine wx_cv C hD hS (va_runV (As := [.int r2]) (rest := []) C.1 (mtX9_lays (l := l) (D := D) (sz := H.size) h) (cwV 1 hts gX9_many_X9_lays rfl rfl rfl nyX9_lays ⟨Nat.le_of_ble_eq_true rfl, Nat.le_of_ble_eq_true rfl⟩) (wx_pv C hP hD hS (q := 0) (ci := 9) (Nat.le_of_ble_eq_true rfl) (eM_0 cI ad _) rfl) rfl rfl hl.1 rfl (lv_room (Nat.le_of_ble_eq_true rfl)) dX9_many_5 ⟨Nat.zero_le _, Nat.zero_le _⟩) (fun σ5 H locs h hP hD hS => ?_)
    refine lv_aload_n hx hb dX9_many_8 rfl (lv_at hl 0 rfl) ?_
    refine wx_get C hP (q := 0) (ci := 9) (Nat.le_of_ble_eq_true rfl) (eM_0 cI ad _) (Cn := RX9) (T := TX9) (Nf := 27) rfl inX9_many_X9 5 (by decide) (List.mem_of_getElem? (i := 1) rfl) (v := .int (σ5 0 5)) rfl dX9_many_9 ?_
    exact Rt _ _ _ _ _ _ h hP hD hS dX9_many_12
  rw [eH, eL] at goal
  exact goal
abbrev rmX9_wordOf : Room := { frames := 3, cells := 0, slots := 0, locals := 80 }
set_option maxRecDepth 100000 in
set_option maxHeartbeats 4000000 in
theorem bX9_wordOf_4 {p : Program} {l : Launch} {e : Env} {s : State} {m : MethodId} {args : Array Value} {below : List Frame} {meth : Method} {c : Code} {A : Nat → Prop} {Q : State → Prop} {D : va_G} {cI : ClassId} {ad : Nat → Nat} {K : Int32 → wx_Z → Prop} (C : wx_C p s m args c cX9_wordOf 4 RX9 wsX9_wordOf D [(cI, .int)] wx_T0 A) (Rt : wx_Ri p l e rmX9_wordOf s m args below meth c cX9_wordOf D 14 (wM_E cI ad) ad A K Q) : ∀ (n : Nat) (σ : wx_Z) (x1 : Int32) (x2 : Int32) (x3 : Int32), wpX9_wordOf_4 K n σ x1 x2 x3 → ∀ (H : Heap) (locs : List Loc) (ls : Array Slot), va_P D vwCl (wx_w 14 (wM_E cI ad) ad σ) H → va_D A (wx_w 14 (wM_E cI ad) ad σ) → va_S A s.heap H locs → lv_has ls 4 [(0, .ref (ad 0)), (1, .int x1), (2, .int x2), (3, .int x3)] → W p l e rmX9_wordOf s m args below meth c H locs 0 0 Q (F0 m 4 ls []) := by
  obtain ⟨⟨hx, hb, hml, hown, hts⟩, hA, hK, hRO, hro⟩ := id C
  intro n
  induction n with
  | zero => intro σ x1 x2 x3 h; exact h.elim
  | succ n ih =>
    intro σ x1 x2 x3 h H locs ls hP hD hS hl
    unfold wpX9_wordOf_4 at h
    refine lv_iload_n hx hb dX9_wordOf_4 rfl (lv_at hl 3 rfl) ?_
    refine lv_aload_n hx hb dX9_wordOf_5 rfl (lv_at hl 0 rfl) ?_
    refine wx_ci C hD hS (va_runV (As := []) (rest := [.int x3]) C.1 (mtX9_places (l := l) (D := D) (sz := H.size) h) (cwV 0 hts gX9_wordOf_X9_places rfl rfl rfl nyX9_places ⟨Nat.le_of_ble_eq_true rfl, Nat.le_of_ble_eq_true rfl⟩) (wx_pv C hP hD hS (q := 0) (ci := 9) (Nat.le_of_ble_eq_true rfl) (eM_0 cI ad _) rfl) rfl rfl hl.1 rfl (lv_room (Nat.le_of_ble_eq_true rfl)) dX9_wordOf_6 ⟨Nat.zero_le _, Nat.zero_le _⟩) (fun r6 σ6 H locs h hP hD hS => ?_)
    refine lv_icmp_ge (tgt := 35) hx hb dX9_wordOf_9 (by decide) (fun c9 => ?_) (fun c9 => ?_)
    · have h := h.1 c9
      refine lv_iload_n hx hb dX9_wordOf_35 rfl (lv_at hl 2 rfl) ?_
      exact Rt _ _ _ _ _ _ h hP hD hS dX9_wordOf_36
    · have h := h.2 c9
      refine lv_iload_n hx hb dX9_wordOf_12 rfl (lv_at hl 2 rfl) ?_
      refine lv_iload_n hx hb dX9_wordOf_13 rfl (lv_at hl 3 rfl) ?_
      refine lv_iload_n hx hb dX9_wordOf_14 rfl (lv_at hl 1 rfl) ?_
      refine lv_iand hx hb dX9_wordOf_15 ?_
      refine lv_iload_n hx hb dX9_wordOf_16 rfl (lv_at hl 1 rfl) ?_
      refine lv_icmp_ne (tgt := 26) hx hb dX9_wordOf_17 (by decide) (fun c17 => ?_) (fun c17 => ?_)
      · have h := h.1 c17
        refine lv_iconst (v := 0) hx hb dX9_wordOf_26 (by decide) ?_
        refine lv_ior hx hb dX9_wordOf_27 ?_
        refine lv_topi (fun t28 e_t28 => ?_)
        have h := h t28 e_t28
        refine lv_istore_n (lv' := [(2, .int t28), (0, .ref (ad 0)), (1, .int x1), (3, .int x3)]) hx hb dX9_wordOf_28 rfl hl (by decide) rfl (fun ls hl => ?_)
        obtain ⟨t29, e_t29⟩ : ∃ y : Int32, y = x3 + 1 := ⟨_, rfl⟩
        have h := h t29 e_t29
        refine lv_iinc (v := t29) (lv' := [(3, .int t29), (2, .int t28), (0, .ref (ad 0)), (1, .int x1)]) hx hb dX9_wordOf_29 hl (k := 3) rfl (by rw [e_t29]; rfl) (by decide) rfl (fun ls hl => ?_)
        refine lv_goto (tgt := 4) hx hb dX9_wordOf_32 (by decide) ?_
        exact ih σ6 x1 t28 t29  h _ _ _ hP hD hS (lv_sub hl [2, 3, 1, 0] rfl)
      · have h := h.2 c17
        refine lv_iconst (v := 1) hx hb dX9_wordOf_20 (by decide) ?_
        refine lv_iload_n hx hb dX9_wordOf_21 rfl (lv_at hl 3 rfl) ?_
        refine lv_ishl hx hb dX9_wordOf_22 ?_
        refine lv_goto (tgt := 27) hx hb dX9_wordOf_23 (by decide) ?_
        refine lv_ior hx hb dX9_wordOf_27 ?_
        refine lv_topi (fun t28_1 e_t28_1 => ?_)
        have h := h t28_1 e_t28_1
        refine lv_istore_n (lv' := [(2, .int t28_1), (0, .ref (ad 0)), (1, .int x1), (3, .int x3)]) hx hb dX9_wordOf_28 rfl hl (by decide) rfl (fun ls hl => ?_)
        obtain ⟨t29_1, e_t29_1⟩ : ∃ y : Int32, y = x3 + 1 := ⟨_, rfl⟩
        have h := h t29_1 e_t29_1
        refine lv_iinc (v := t29_1) (lv' := [(3, .int t29_1), (2, .int t28_1), (0, .ref (ad 0)), (1, .int x1)]) hx hb dX9_wordOf_29 hl (k := 3) rfl (by rw [e_t29_1]; rfl) (by decide) rfl (fun ls hl => ?_)
        refine lv_goto (tgt := 4) hx hb dX9_wordOf_32 (by decide) ?_
        exact ih σ6 x1 t28_1 t29_1  h _ _ _ hP hD hS (lv_sub hl [2, 3, 1, 0] rfl)
set_option maxRecDepth 100000 in
set_option maxHeartbeats 4000000 in
theorem mtX9_wordOf {l : Launch} {D : va_G} {cI : ClassId} {ad : Nat → Nat} {sz : Nat} {σ : wx_Z} {x1 : Int32} {K : Int32 → wx_Z → Prop} (h : wpX9_wordOf σ x1 K) : Met l yX9_wordOf wsX9_wordOf rmX9_wordOf (wx_Pre D [(cI, .int)] wx_T0 14 (wM_E cI ad) ad σ sz [.ref (ad 0), .int x1]) (va_Qi K (wx_B D [(cI, .int)] 14 (wM_E cI ad) ad (va_A (wx_w 14 (wM_E cI ad) ad σ) sz)) (va_A (wx_w 14 (wM_E cI ad) ad σ) sz)) 0 0 (va_A (wx_w 14 (wM_E cI ad) ad σ) sz) := by
  unfold wpX9_wordOf at h
  refine wx_meti (cc := cX9_wordOf) (maxL := 4) (own := RX9) rfl (by decide) rfl (Nat.le_of_ble_eq_true rfl) wx_T0_ok ?_
  intro p e s m args below meth c A Q ls C Rt hP hD hS hl
  obtain ⟨⟨hx, hb, hml, hown, hts⟩, hA, hK, hRO, hro⟩ := id C
  have hl : lv_has ls 4 [(0, .ref (ad 0)), (1, .int x1)] := hl
  obtain ⟨H, eH⟩ : ∃ z, z = s.heap := ⟨_, rfl⟩
  obtain ⟨locs, eL⟩ : ∃ z : List Loc, z = [] := ⟨_, rfl⟩
  rw [← eH] at hP
  have hS : va_S A s.heap H locs := by rw [eH, eL]; exact hS
  have goal : W p l e rmX9_wordOf s m args below meth c H locs 0 0 Q (F0 m 0 ls []) := by
    refine lv_iconst (v := 0) hx hb dX9_wordOf_0 (by decide) ?_
    refine lv_istore_n (lv' := [(2, .int 0), (0, .ref (ad 0)), (1, .int x1)]) hx hb dX9_wordOf_1 rfl hl (by decide) rfl (fun ls hl => ?_)
    refine lv_iconst (v := 0) hx hb dX9_wordOf_2 (by decide) ?_
    refine lv_istore_n (lv' := [(3, .int 0), (2, .int 0), (0, .ref (ad 0)), (1, .int x1)]) hx hb dX9_wordOf_3 rfl hl (by decide) rfl (fun ls hl => ?_)
    obtain ⟨n4, h⟩ := h
    exact bX9_wordOf_4 C Rt n4 σ x1 0 0  h _ _ _ hP hD hS (lv_sub hl [2, 3, 1, 0] rfl)
  rw [eH, eL] at goal
  exact goal
abbrev rmX9_sumOf : Room := { frames := 4, cells := 0, slots := 0, locals := 103 }
set_option maxRecDepth 20000 in
theorem inX9_sumOf_X9 : ∀ w ∈ u_ws RX9 TX9 27, w ∈ wsX9_sumOf := by decide +kernel
theorem nyX9_has : yX9_has.cls = RX9 ∧ yX9_has.cls ≠ "java/lang/invoke/MethodHandle" ∧ yX9_has.cls ≠ "java/lang/invoke/VarHandle" ∧ (parseMethodDescriptor yX9_has.desc).map (fun d => d.parameters.length) = some 2 := by decide +kernel
theorem nyX9_wordOf : yX9_wordOf.cls = RX9 ∧ yX9_wordOf.cls ≠ "java/lang/invoke/MethodHandle" ∧ yX9_wordOf.cls ≠ "java/lang/invoke/VarHandle" ∧ (parseMethodDescriptor yX9_wordOf.desc).map (fun d => d.parameters.length) = some 1 := by decide +kernel
set_option maxRecDepth 100000 in
set_option maxHeartbeats 4000000 in
theorem bX9_sumOf_5 {p : Program} {l : Launch} {e : Env} {s : State} {m : MethodId} {args : Array Value} {below : List Frame} {meth : Method} {c : Code} {A : Nat → Prop} {Q : State → Prop} {D : va_G} {cI : ClassId} {ad : Nat → Nat} {K : Int32 → wx_Z → Prop} (C : wx_C p s m args c cX9_sumOf 5 RX9 wsX9_sumOf D [(cI, .int)] wx_T0 A) (Rt : wx_Ri p l e rmX9_sumOf s m args below meth c cX9_sumOf D 14 (wM_E cI ad) ad A K Q) : ∀ (n : Nat) (σ : wx_Z) (x1 : Int32) (x2 : Int32) (x3 : Int32) (x4 : Int32), wpX9_sumOf_5 K n σ x1 x2 x3 x4 → ∀ (H : Heap) (locs : List Loc) (ls : Array Slot), va_P D vwCl (wx_w 14 (wM_E cI ad) ad σ) H → va_D A (wx_w 14 (wM_E cI ad) ad σ) → va_S A s.heap H locs → lv_has ls 5 [(0, .ref (ad 0)), (1, .int x1), (2, .int x2), (3, .int x3), (4, .int x4)] → W p l e rmX9_sumOf s m args below meth c H locs 0 0 Q (F0 m 5 ls []) := by
  obtain ⟨⟨hx, hb, hml, hown, hts⟩, hA, hK, hRO, hro⟩ := id C
  intro n
  induction n with
  | zero => intro σ x1 x2 x3 x4 h; exact h.elim
  | succ n ih =>
    intro σ x1 x2 x3 x4 h H locs ls hP hD hS hl
    unfold wpX9_sumOf_5 at h
    refine lv_iload hx hb dX9_sumOf_5 (lv_at hl 4 rfl) ?_
    refine lv_iload_n hx hb dX9_sumOf_7 rfl (lv_at hl 2 rfl) ?_
    refine lv_icmp_ge (tgt := 44) hx hb dX9_sumOf_8 (by decide) (fun c8 => ?_) (fun c8 => ?_)
    · have h := h.1 c8
      refine lv_iload_n hx hb dX9_sumOf_44 rfl (lv_at hl 3 rfl) ?_
      exact Rt _ _ _ _ _ _ h hP hD hS dX9_sumOf_45
    · have h := h.2 c8
      refine lv_iload_n hx hb dX9_sumOf_11 rfl (lv_at hl 3 rfl) ?_
      refine lv_iload_n hx hb dX9_sumOf_12 rfl (lv_at hl 1 rfl) ?_
      refine lv_iload hx hb dX9_sumOf_13 (lv_at hl 4 rfl) ?_
      refine wx_ci C hD hS (va_runS (As := [.int x1, .int x4]) (rest := [.int x3]) C.1 (mtX9_has (l := l) (D := D) (sz := H.size) h) (va_cwS 2 hts gX9_sumOf_X9_has rfl rfl rfl nyX9_has.2 ⟨Nat.le_of_ble_eq_true rfl, Nat.le_of_ble_eq_true rfl⟩) (wx_ps C hP hD hS) rfl rfl hl.1 rfl (lv_room (Nat.le_of_ble_eq_true rfl)) dX9_sumOf_15 ⟨Nat.zero_le _, Nat.zero_le _⟩) (fun r15 σ15 H locs h hP hD hS => ?_)
      refine lv_if_eq (tgt := 35) hx hb dX9_sumOf_18 (by decide) (fun c18 => ?_) (fun c18 => ?_)
      · have h := h.1 c18
        refine lv_iconst (v := 0) hx hb dX9_sumOf_35 (by decide) ?_
        refine lv_ixor hx hb dX9_sumOf_36 ?_
        refine lv_topi (fun t37 e_t37 => ?_)
        have h := h t37 e_t37
        refine lv_istore_n (lv' := [(3, .int t37), (0, .ref (ad 0)), (1, .int x1), (2, .int x2), (4, .int x4)]) hx hb dX9_sumOf_37 rfl hl (by decide) rfl (fun ls hl => ?_)
        obtain ⟨t38, e_t38⟩ : ∃ y : Int32, y = x4 + 1 := ⟨_, rfl⟩
        have h := h t38 e_t38
        refine lv_iinc (v := t38) (lv' := [(4, .int t38), (3, .int t37), (0, .ref (ad 0)), (1, .int x1), (2, .int x2)]) hx hb dX9_sumOf_38 hl (k := 4) rfl (by rw [e_t38]; rfl) (by decide) rfl (fun ls hl => ?_)
        refine lv_goto (tgt := 5) hx hb dX9_sumOf_41 (by decide) ?_
        exact ih σ15 x1 x2 t37 t38  h _ _ _ hP hD hS (lv_sub hl [2, 3, 4, 1, 0] rfl)
      · have h := h.2 c18
        refine lv_aload_n hx hb dX9_sumOf_21 rfl (lv_at hl 0 rfl) ?_
        refine lv_aload_n hx hb dX9_sumOf_22 rfl (lv_at hl 0 rfl) ?_
        refine wx_get C hP (q := 0) (ci := 9) (Nat.le_of_ble_eq_true rfl) (eM_0 cI ad _) (Cn := RX9) (T := TX9) (Nf := 27) rfl inX9_sumOf_X9 4 (by decide) (List.mem_of_getElem? (i := 1) rfl) (v := .ref (ad 4)) rfl dX9_sumOf_23 ?_
        refine lv_iload hx hb dX9_sumOf_26 (lv_at hl 4 rfl) ?_
        refine wx_ild C hP (q := 4) (Nat.le_of_ble_eq_true rfl) (fun _ => rfl) 0 rfl h.1 dX9_sumOf_28 ?_
        have h := h.2
        refine wx_ci C hD hS (va_runV (As := [.int (σ15 4 (Int32.toNatClampNeg x4))]) (rest := [.int x3]) C.1 (mtX9_wordOf (l := l) (D := D) (sz := H.size) h) (cwV 1 hts gX9_sumOf_X9_wordOf rfl rfl rfl nyX9_wordOf ⟨Nat.le_of_ble_eq_true rfl, Nat.le_of_ble_eq_true rfl⟩) (wx_pv C hP hD hS (q := 0) (ci := 9) (Nat.le_of_ble_eq_true rfl) (eM_0 cI ad _) rfl) rfl rfl hl.1 rfl (lv_room (Nat.le_of_ble_eq_true rfl)) dX9_sumOf_29 ⟨Nat.zero_le _, Nat.zero_le _⟩) (fun r29 σ29 H locs h hP hD hS => ?_)
        refine lv_goto (tgt := 36) hx hb dX9_sumOf_32 (by decide) ?_
        refine lv_ixor hx hb dX9_sumOf_36 ?_
        refine lv_topi (fun t37_1 e_t37_1 => ?_)
        have h := h t37_1 e_t37_1
        refine lv_istore_n (lv' := [(3, .int t37_1), (0, .ref (ad 0)), (1, .int x1), (2, .int x2), (4, .int x4)]) hx hb dX9_sumOf_37 rfl hl (by decide) rfl (fun ls hl => ?_)
        obtain ⟨t38_1, e_t38_1⟩ : ∃ y : Int32, y = x4 + 1 := ⟨_, rfl⟩
        have h := h t38_1 e_t38_1
        refine lv_iinc (v := t38_1) (lv' := [(4, .int t38_1), (3, .int t37_1), (0, .ref (ad 0)), (1, .int x1), (2, .int x2)]) hx hb dX9_sumOf_38 hl (k := 4) rfl (by rw [e_t38_1]; rfl) (by decide) rfl (fun ls hl => ?_)
        refine lv_goto (tgt := 5) hx hb dX9_sumOf_41 (by decide) ?_
        exact ih σ29 x1 x2 t37_1 t38_1  h _ _ _ hP hD hS (lv_sub hl [2, 3, 4, 1, 0] rfl)
set_option maxRecDepth 100000 in
set_option maxHeartbeats 4000000 in
theorem mtX9_sumOf {l : Launch} {D : va_G} {cI : ClassId} {ad : Nat → Nat} {sz : Nat} {σ : wx_Z} {x1 : Int32} {x2 : Int32} {K : Int32 → wx_Z → Prop} (h : wpX9_sumOf σ x1 x2 K) : Met l yX9_sumOf wsX9_sumOf rmX9_sumOf (wx_Pre D [(cI, .int)] wx_T0 14 (wM_E cI ad) ad σ sz [.ref (ad 0), .int x1, .int x2]) (va_Qi K (wx_B D [(cI, .int)] 14 (wM_E cI ad) ad (va_A (wx_w 14 (wM_E cI ad) ad σ) sz)) (va_A (wx_w 14 (wM_E cI ad) ad σ) sz)) 0 0 (va_A (wx_w 14 (wM_E cI ad) ad σ) sz) := by
  unfold wpX9_sumOf at h
  refine wx_meti (cc := cX9_sumOf) (maxL := 5) (own := RX9) rfl (by decide) rfl (Nat.le_of_ble_eq_true rfl) wx_T0_ok ?_
  intro p e s m args below meth c A Q ls C Rt hP hD hS hl
  obtain ⟨⟨hx, hb, hml, hown, hts⟩, hA, hK, hRO, hro⟩ := id C
  have hl : lv_has ls 5 [(0, .ref (ad 0)), (1, .int x1), (2, .int x2)] := hl
  obtain ⟨H, eH⟩ : ∃ z, z = s.heap := ⟨_, rfl⟩
  obtain ⟨locs, eL⟩ : ∃ z : List Loc, z = [] := ⟨_, rfl⟩
  rw [← eH] at hP
  have hS : va_S A s.heap H locs := by rw [eH, eL]; exact hS
  have goal : W p l e rmX9_sumOf s m args below meth c H locs 0 0 Q (F0 m 0 ls []) := by
    refine lv_iconst (v := 0) hx hb dX9_sumOf_0 (by decide) ?_
    refine lv_istore_n (lv' := [(3, .int 0), (0, .ref (ad 0)), (1, .int x1), (2, .int x2)]) hx hb dX9_sumOf_1 rfl hl (by decide) rfl (fun ls hl => ?_)
    refine lv_iconst (v := 0) hx hb dX9_sumOf_2 (by decide) ?_
    refine lv_istore (lv' := [(4, .int 0), (3, .int 0), (0, .ref (ad 0)), (1, .int x1), (2, .int x2)]) hx hb dX9_sumOf_3 hl (by decide) rfl (fun ls hl => ?_)
    obtain ⟨n5, h⟩ := h
    exact bX9_sumOf_5 C Rt n5 σ x1 x2 0 0  h _ _ _ hP hD hS (lv_sub hl [2, 3, 4, 1, 0] rfl)
  rw [eH, eL] at goal
  exact goal
abbrev rmX9_isCode : Room := { frames := 2, cells := 0, slots := 0, locals := 65 }
theorem nyX9_in : yX9_in.cls = RX9 ∧ yX9_in.cls ≠ "java/lang/invoke/MethodHandle" ∧ yX9_in.cls ≠ "java/lang/invoke/VarHandle" ∧ (parseMethodDescriptor yX9_in.desc).map (fun d => d.parameters.length) = some 3 := by decide +kernel
set_option maxRecDepth 100000 in
set_option maxHeartbeats 4000000 in
theorem mtX9_isCode {l : Launch} {D : va_G} {cI : ClassId} {ad : Nat → Nat} {sz : Nat} {σ : wx_Z} {x1 : Int32} {x2 : Int32} {K : Int32 → wx_Z → Prop} (h : wpX9_isCode σ x1 x2 K) : Met l yX9_isCode wsX9_isCode rmX9_isCode (wx_Pre D [(cI, .int)] wx_T0 14 (wM_E cI ad) ad σ sz [.ref (ad 0), .int x1, .int x2]) (va_Qi K (wx_B D [(cI, .int)] 14 (wM_E cI ad) ad (va_A (wx_w 14 (wM_E cI ad) ad σ) sz)) (va_A (wx_w 14 (wM_E cI ad) ad σ) sz)) 0 0 (va_A (wx_w 14 (wM_E cI ad) ad σ) sz) := by
  unfold wpX9_isCode at h
  refine wx_metz (cc := cX9_isCode) (maxL := 3) (own := RX9) rfl (by decide) rfl (Nat.le_of_ble_eq_true rfl) wx_T0_ok ?_
  intro p e s m args below meth c A Q ls C Rt hP hD hS hl
  obtain ⟨⟨hx, hb, hml, hown, hts⟩, hA, hK, hRO, hro⟩ := id C
  have hl : lv_has ls 3 [(0, .ref (ad 0)), (1, .int x1), (2, .int x2)] := hl
  obtain ⟨H, eH⟩ : ∃ z, z = s.heap := ⟨_, rfl⟩
  obtain ⟨locs, eL⟩ : ∃ z : List Loc, z = [] := ⟨_, rfl⟩
  rw [← eH] at hP
  have hS : va_S A s.heap H locs := by rw [eH, eL]; exact hS
  have goal : W p l e rmX9_isCode s m args below meth c H locs 0 0 Q (F0 m 0 ls []) := by
    refine lv_iload_n hx hb dX9_isCode_0 rfl (lv_at hl 2 rfl) ?_
    refine lv_i2l (v := Int32.toInt64 x2) hx hb dX9_isCode_1 rfl ?_
    refine lv_lconst (v := 0) hx hb dX9_isCode_2 (by decide) ?_
    refine lv_ldc2 hx hb hown (hts _ (List.mem_of_getElem? (i := 1) rfl)) dX9_isCode_3 ?_
    refine wx_ci C hD hS (va_runS (As := [.long (Int32.toInt64 x2), .long 0, .long 5]) (rest := []) C.1 (mtX9_in (l := l) (D := D) (sz := H.size) h) (va_cwS 3 hts gX9_isCode_X9_in rfl rfl rfl nyX9_in.2 ⟨Nat.le_of_ble_eq_true rfl, Nat.le_of_ble_eq_true rfl⟩) (wx_ps C hP hD hS) rfl rfl hl.1 rfl (lv_room (Nat.le_of_ble_eq_true rfl)) dX9_isCode_6 ⟨Nat.zero_le _, Nat.zero_le _⟩) (fun r6 σ6 H locs h hP hD hS => ?_)
    refine lv_if_eq (tgt := 27) hx hb dX9_isCode_9 (by decide) (fun c9 => ?_) (fun c9 => ?_)
    · have h := h.1 c9
      refine lv_iconst (v := 0) hx hb dX9_isCode_27 (by decide) ?_
      exact Rt _ _ _ _ _ _ rfl h hP hD hS dX9_isCode_28
    · have h := h.2 c9
      refine lv_iload_n hx hb dX9_isCode_12 rfl (lv_at hl 1 rfl) ?_
      refine lv_i2l (v := Int32.toInt64 x1) hx hb dX9_isCode_13 rfl ?_
      refine lv_lconst (v := 0) hx hb dX9_isCode_14 (by decide) ?_
      refine lv_iload_n hx hb dX9_isCode_15 rfl (lv_at hl 2 rfl) ?_
      refine lv_i2l (v := Int32.toInt64 x2) hx hb dX9_isCode_16 rfl ?_
      refine wx_ci C hD hS (va_runS (As := [.long (Int32.toInt64 x1), .long 0, .long (Int32.toInt64 x2)]) (rest := []) C.1 (mtX9_in (l := l) (D := D) (sz := H.size) h) (va_cwS 3 hts gX9_isCode_X9_in rfl rfl rfl nyX9_in.2 ⟨Nat.le_of_ble_eq_true rfl, Nat.le_of_ble_eq_true rfl⟩) (wx_ps C hP hD hS) rfl rfl hl.1 rfl (lv_room (Nat.le_of_ble_eq_true rfl)) dX9_isCode_17 ⟨Nat.zero_le _, Nat.zero_le _⟩) (fun r17 σ17 H locs h hP hD hS => ?_)
      refine lv_if_eq (tgt := 27) hx hb dX9_isCode_20 (by decide) (fun c20 => ?_) (fun c20 => ?_)
      · have h := h.1 c20
        refine lv_iconst (v := 0) hx hb dX9_isCode_27 (by decide) ?_
        exact Rt _ _ _ _ _ _ rfl h hP hD hS dX9_isCode_28
      · have h := h.2 c20
        refine lv_iconst (v := 1) hx hb dX9_isCode_23 (by decide) ?_
        refine lv_goto (tgt := 28) hx hb dX9_isCode_24 (by decide) ?_
        exact Rt _ _ _ _ _ _ rfl h hP hD hS dX9_isCode_28
  rw [eH, eL] at goal
  exact goal
abbrev rmX9_becomesCode : Room := { frames := 1, cells := 0, slots := 0, locals := 40 }
set_option maxRecDepth 20000 in
theorem inX9_becomesCode_X9 : ∀ w ∈ u_ws RX9 TX9 27, w ∈ wsX9_becomesCode := by decide +kernel
set_option maxRecDepth 100000 in
set_option maxHeartbeats 4000000 in
theorem bX9_becomesCode_2 {p : Program} {l : Launch} {e : Env} {s : State} {m : MethodId} {args : Array Value} {below : List Frame} {meth : Method} {c : Code} {A : Nat → Prop} {Q : State → Prop} {D : va_G} {cI : ClassId} {ad : Nat → Nat} {K : wx_Z → Prop} (C : wx_C p s m args c cX9_becomesCode 4 RX9 wsX9_becomesCode D [(cI, .int)] wx_T0 A) (Rt : wx_Rv p l e rmX9_becomesCode s m args below meth c cX9_becomesCode D 14 (wM_E cI ad) ad A K Q) : ∀ (n : Nat) (σ : wx_Z) (x1 : Int32) (x2 : Int32) (x3 : Int32), wpX9_becomesCode_2 K n σ x1 x2 x3 → ∀ (H : Heap) (locs : List Loc) (ls : Array Slot), va_P D vwCl (wx_w 14 (wM_E cI ad) ad σ) H → va_D A (wx_w 14 (wM_E cI ad) ad σ) → va_S A s.heap H locs → lv_has ls 4 [(0, .ref (ad 0)), (1, .int x1), (2, .int x2), (3, .int x3)] → W p l e rmX9_becomesCode s m args below meth c H locs 0 0 Q (F0 m 2 ls []) := by
  obtain ⟨⟨hx, hb, hml, hown, hts⟩, hA, hK, hRO, hro⟩ := id C
  intro n
  induction n with
  | zero => intro σ x1 x2 x3 h; exact h.elim
  | succ n ih =>
    intro σ x1 x2 x3 h H locs ls hP hD hS hl
    unfold wpX9_becomesCode_2 at h
    refine lv_iload_n hx hb dX9_becomesCode_2 rfl (lv_at hl 3 rfl) ?_
    refine lv_bipush (v := 35) hx hb dX9_becomesCode_3 (by decide) ?_
    refine lv_icmp_ge (tgt := 21) hx hb dX9_becomesCode_5 (by decide) (fun c5 => ?_) (fun c5 => ?_)
    · have h := h.1 c5
      refine lv_aload_n hx hb dX9_becomesCode_21 rfl (lv_at hl 0 rfl) ?_
      refine wx_get C hP (q := 0) (ci := 9) (Nat.le_of_ble_eq_true rfl) (eM_0 cI ad _) (Cn := RX9) (T := TX9) (Nf := 27) rfl inX9_becomesCode_X9 0 (by decide) (List.mem_of_getElem? (i := 1) rfl) (v := .ref (ad 1)) rfl dX9_becomesCode_22 ?_
      refine lv_iconst (v := 0) hx hb dX9_becomesCode_25 (by decide) ?_
      refine lv_iload_n hx hb dX9_becomesCode_26 rfl (lv_at hl 1 rfl) ?_
      refine wx_ist C hP hD hS (q := 1) (Nat.le_of_ble_eq_true rfl) (fun _ => rfl) 0 rfl h.1 dX9_becomesCode_27 (fun H locs hP hD hS => ?_)
      generalize e_σ27 : wx_up σ 1 (Int32.toNatClampNeg 0) x1 = σ27 at hP hD
      have h := h.2 σ27 e_σ27.symm
      refine lv_aload_n hx hb dX9_becomesCode_28 rfl (lv_at hl 0 rfl) ?_
      refine wx_get C hP (q := 0) (ci := 9) (Nat.le_of_ble_eq_true rfl) (eM_0 cI ad _) (Cn := RX9) (T := TX9) (Nf := 27) rfl inX9_becomesCode_X9 0 (by decide) (List.mem_of_getElem? (i := 1) rfl) (v := .ref (ad 1)) rfl dX9_becomesCode_29 ?_
      refine lv_iconst (v := 1) hx hb dX9_becomesCode_32 (by decide) ?_
      refine lv_iload_n hx hb dX9_becomesCode_33 rfl (lv_at hl 2 rfl) ?_
      refine wx_ist C hP hD hS (q := 1) (Nat.le_of_ble_eq_true rfl) (fun _ => rfl) 0 rfl h.1 dX9_becomesCode_34 (fun H locs hP hD hS => ?_)
      generalize e_σ34 : wx_up σ27 1 (Int32.toNatClampNeg 1) x2 = σ34 at hP hD
      have h := h.2 σ34 e_σ34.symm
      exact Rt _ _ _ _ _ h hP hD hS dX9_becomesCode_35
    · have h := h.2 c5
      refine lv_aload_n hx hb dX9_becomesCode_8 rfl (lv_at hl 0 rfl) ?_
      refine wx_get C hP (q := 0) (ci := 9) (Nat.le_of_ble_eq_true rfl) (eM_0 cI ad _) (Cn := RX9) (T := TX9) (Nf := 27) rfl inX9_becomesCode_X9 0 (by decide) (List.mem_of_getElem? (i := 1) rfl) (v := .ref (ad 1)) rfl dX9_becomesCode_9 ?_
      refine lv_iload_n hx hb dX9_becomesCode_12 rfl (lv_at hl 3 rfl) ?_
      refine lv_iconst (v := 0) hx hb dX9_becomesCode_13 (by decide) ?_
      refine wx_ist C hP hD hS (q := 1) (Nat.le_of_ble_eq_true rfl) (fun _ => rfl) 0 rfl h.1 dX9_becomesCode_14 (fun H locs hP hD hS => ?_)
      generalize e_σ14 : wx_up σ 1 (Int32.toNatClampNeg x3) 0 = σ14 at hP hD
      have h := h.2 σ14 e_σ14.symm
      obtain ⟨t15, e_t15⟩ : ∃ y : Int32, y = x3 + 1 := ⟨_, rfl⟩
      have h := h t15 e_t15
      refine lv_iinc (v := t15) (lv' := [(3, .int t15), (0, .ref (ad 0)), (1, .int x1), (2, .int x2)]) hx hb dX9_becomesCode_15 hl (k := 3) rfl (by rw [e_t15]; rfl) (by decide) rfl (fun ls hl => ?_)
      refine lv_goto (tgt := 2) hx hb dX9_becomesCode_18 (by decide) ?_
      exact ih σ14 x1 x2 t15  h _ _ _ hP hD hS (lv_sub hl [1, 2, 3, 0] rfl)
set_option maxRecDepth 100000 in
set_option maxHeartbeats 4000000 in
theorem mtX9_becomesCode {l : Launch} {D : va_G} {cI : ClassId} {ad : Nat → Nat} {sz : Nat} {σ : wx_Z} {x1 : Int32} {x2 : Int32} {K : wx_Z → Prop} (h : wpX9_becomesCode σ x1 x2 K) : Met l yX9_becomesCode wsX9_becomesCode rmX9_becomesCode (wx_Pre D [(cI, .int)] wx_T0 14 (wM_E cI ad) ad σ sz [.ref (ad 0), .int x1, .int x2]) (va_Qv K (wx_B D [(cI, .int)] 14 (wM_E cI ad) ad (va_A (wx_w 14 (wM_E cI ad) ad σ) sz)) (va_A (wx_w 14 (wM_E cI ad) ad σ) sz)) 0 0 (va_A (wx_w 14 (wM_E cI ad) ad σ) sz) := by
  unfold wpX9_becomesCode at h
  refine wx_metv (cc := cX9_becomesCode) (maxL := 4) (own := RX9) rfl (by decide) rfl (Nat.le_of_ble_eq_true rfl) wx_T0_ok ?_
  intro p e s m args below meth c A Q ls C Rt hP hD hS hl
  obtain ⟨⟨hx, hb, hml, hown, hts⟩, hA, hK, hRO, hro⟩ := id C
  have hl : lv_has ls 4 [(0, .ref (ad 0)), (1, .int x1), (2, .int x2)] := hl
  obtain ⟨H, eH⟩ : ∃ z, z = s.heap := ⟨_, rfl⟩
  obtain ⟨locs, eL⟩ : ∃ z : List Loc, z = [] := ⟨_, rfl⟩
  rw [← eH] at hP
  have hS : va_S A s.heap H locs := by rw [eH, eL]; exact hS
  have goal : W p l e rmX9_becomesCode s m args below meth c H locs 0 0 Q (F0 m 0 ls []) := by
    refine lv_iconst (v := 0) hx hb dX9_becomesCode_0 (by decide) ?_
    refine lv_istore_n (lv' := [(3, .int 0), (0, .ref (ad 0)), (1, .int x1), (2, .int x2)]) hx hb dX9_becomesCode_1 rfl hl (by decide) rfl (fun ls hl => ?_)
    obtain ⟨n2, h⟩ := h
    exact bX9_becomesCode_2 C Rt n2 σ x1 x2 0  h _ _ _ hP hD hS (lv_sub hl [1, 2, 3, 0] rfl)
  rw [eH, eL] at goal
  exact goal
abbrev rmX9_code : Room := { frames := 5, cells := 0, slots := 0, locals := 123 }
theorem nyX9_bad : yX9_bad.cls = RX9 ∧ yX9_bad.cls ≠ "java/lang/invoke/MethodHandle" ∧ yX9_bad.cls ≠ "java/lang/invoke/VarHandle" ∧ (parseMethodDescriptor yX9_bad.desc).map (fun d => d.parameters.length) = some 1 := by decide +kernel
theorem nyX9_becomesCode : yX9_becomesCode.cls = RX9 ∧ yX9_becomesCode.cls ≠ "java/lang/invoke/MethodHandle" ∧ yX9_becomesCode.cls ≠ "java/lang/invoke/VarHandle" ∧ (parseMethodDescriptor yX9_becomesCode.desc).map (fun d => d.parameters.length) = some 2 := by decide +kernel
theorem nyX9_isCode : yX9_isCode.cls = RX9 ∧ yX9_isCode.cls ≠ "java/lang/invoke/MethodHandle" ∧ yX9_isCode.cls ≠ "java/lang/invoke/VarHandle" ∧ (parseMethodDescriptor yX9_isCode.desc).map (fun d => d.parameters.length) = some 2 := by decide +kernel
theorem nyX9_keep : yX9_keep.cls = RX9 ∧ yX9_keep.cls ≠ "java/lang/invoke/MethodHandle" ∧ yX9_keep.cls ≠ "java/lang/invoke/VarHandle" ∧ (parseMethodDescriptor yX9_keep.desc).map (fun d => d.parameters.length) = some 0 := by decide +kernel
theorem nyX9_many : yX9_many.cls = RX9 ∧ yX9_many.cls ≠ "java/lang/invoke/MethodHandle" ∧ yX9_many.cls ≠ "java/lang/invoke/VarHandle" ∧ (parseMethodDescriptor yX9_many.desc).map (fun d => d.parameters.length) = some 0 := by decide +kernel
set_option maxRecDepth 100000 in
set_option maxHeartbeats 4000000 in
theorem mtX9_code {l : Launch} {D : va_G} {cI : ClassId} {ad : Nat → Nat} {sz : Nat} {σ : wx_Z} {x1 : Int32} {x2 : Int32} {K : Int32 → wx_Z → Prop} (h : wpX9_code σ x1 x2 K) : Met l yX9_code wsX9_code rmX9_code (wx_Pre D [(cI, .int)] wx_T0 14 (wM_E cI ad) ad σ sz [.ref (ad 0), .int x1, .int x2]) (va_Qi K (wx_B D [(cI, .int)] 14 (wM_E cI ad) ad (va_A (wx_w 14 (wM_E cI ad) ad σ) sz)) (va_A (wx_w 14 (wM_E cI ad) ad σ) sz)) 0 0 (va_A (wx_w 14 (wM_E cI ad) ad σ) sz) := by
  unfold wpX9_code at h
  refine wx_meti (cc := cX9_code) (maxL := 3) (own := RX9) rfl (by decide) rfl (Nat.le_of_ble_eq_true rfl) wx_T0_ok ?_
  intro p e s m args below meth c A Q ls C Rt hP hD hS hl
  obtain ⟨⟨hx, hb, hml, hown, hts⟩, hA, hK, hRO, hro⟩ := id C
  have hl : lv_has ls 3 [(0, .ref (ad 0)), (1, .int x1), (2, .int x2)] := hl
  obtain ⟨H, eH⟩ : ∃ z, z = s.heap := ⟨_, rfl⟩
  obtain ⟨locs, eL⟩ : ∃ z : List Loc, z = [] := ⟨_, rfl⟩
  rw [← eH] at hP
  have hS : va_S A s.heap H locs := by rw [eH, eL]; exact hS
  have goal : W p l e rmX9_code s m args below meth c H locs 0 0 Q (F0 m 0 ls []) := by
    refine lv_aload_n hx hb dX9_code_0 rfl (lv_at hl 0 rfl) ?_
    refine lv_iload_n hx hb dX9_code_1 rfl (lv_at hl 1 rfl) ?_
    refine lv_iload_n hx hb dX9_code_2 rfl (lv_at hl 2 rfl) ?_
    refine wx_ci C hD hS (va_runV (As := [.int x1, .int x2]) (rest := []) C.1 (mtX9_isCode (l := l) (D := D) (sz := H.size) h) (cwV 2 hts gX9_code_X9_isCode rfl rfl rfl nyX9_isCode ⟨Nat.le_of_ble_eq_true rfl, Nat.le_of_ble_eq_true rfl⟩) (wx_pv C hP hD hS (q := 0) (ci := 9) (Nat.le_of_ble_eq_true rfl) (eM_0 cI ad _) rfl) rfl rfl hl.1 rfl (lv_room (Nat.le_of_ble_eq_true rfl)) dX9_code_3 ⟨Nat.zero_le _, Nat.zero_le _⟩) (fun r3 σ3 H locs h hP hD hS => ?_)
    refine lv_if_ne (tgt := 16) hx hb dX9_code_6 (by decide) (fun c6 => ?_) (fun c6 => ?_)
    · have h := h.1 c6
      refine lv_aload_n hx hb dX9_code_16 rfl (lv_at hl 0 rfl) ?_
      refine wx_cv C hD hS (va_runV (As := []) (rest := []) C.1 (mtX9_keep (l := l) (D := D) (sz := H.size) h) (cwV 0 hts gX9_code_X9_keep rfl rfl rfl nyX9_keep ⟨Nat.le_of_ble_eq_true rfl, Nat.le_of_ble_eq_true rfl⟩) (wx_pv C hP hD hS (q := 0) (ci := 9) (Nat.le_of_ble_eq_true rfl) (eM_0 cI ad _) rfl) rfl rfl hl.1 rfl (lv_room (Nat.le_of_ble_eq_true rfl)) dX9_code_17 ⟨Nat.zero_le _, Nat.zero_le _⟩) (fun σ17 H locs h hP hD hS => ?_)
      refine lv_aload_n hx hb dX9_code_20 rfl (lv_at hl 0 rfl) ?_
      refine lv_iload_n hx hb dX9_code_21 rfl (lv_at hl 1 rfl) ?_
      refine lv_iload_n hx hb dX9_code_22 rfl (lv_at hl 2 rfl) ?_
      refine wx_cv C hD hS (va_runV (As := [.int x1, .int x2]) (rest := []) C.1 (mtX9_becomesCode (l := l) (D := D) (sz := H.size) h) (cwV 2 hts gX9_code_X9_becomesCode rfl rfl rfl nyX9_becomesCode ⟨Nat.le_of_ble_eq_true rfl, Nat.le_of_ble_eq_true rfl⟩) (wx_pv C hP hD hS (q := 0) (ci := 9) (Nat.le_of_ble_eq_true rfl) (eM_0 cI ad _) rfl) rfl rfl hl.1 rfl (lv_room (Nat.le_of_ble_eq_true rfl)) dX9_code_23 ⟨Nat.zero_le _, Nat.zero_le _⟩) (fun σ23 H locs h hP hD hS => ?_)
      refine lv_aload_n hx hb dX9_code_26 rfl (lv_at hl 0 rfl) ?_
      refine wx_ci C hD hS (va_runV (As := []) (rest := []) C.1 (mtX9_many (l := l) (D := D) (sz := H.size) h) (cwV 0 hts gX9_code_X9_many rfl rfl rfl nyX9_many ⟨Nat.le_of_ble_eq_true rfl, Nat.le_of_ble_eq_true rfl⟩) (wx_pv C hP hD hS (q := 0) (ci := 9) (Nat.le_of_ble_eq_true rfl) (eM_0 cI ad _) rfl) rfl rfl hl.1 rfl (lv_room (Nat.le_of_ble_eq_true rfl)) dX9_code_27 ⟨Nat.zero_le _, Nat.zero_le _⟩) (fun r27 σ27 H locs h hP hD hS => ?_)
      exact Rt _ _ _ _ _ _ h hP hD hS dX9_code_30
    · have h := h.2 c6
      refine lv_aload_n hx hb dX9_code_9 rfl (lv_at hl 0 rfl) ?_
      refine lv_bipush (v := (-2)) hx hb dX9_code_10 (by decide) ?_
      refine wx_ci C hD hS (va_runV (As := [.int (-2)]) (rest := []) C.1 (mtX9_bad (l := l) (D := D) (sz := H.size) h) (cwV 1 hts gX9_code_X9_bad rfl rfl rfl nyX9_bad ⟨Nat.le_of_ble_eq_true rfl, Nat.le_of_ble_eq_true rfl⟩) (wx_pv C hP hD hS (q := 0) (ci := 9) (Nat.le_of_ble_eq_true rfl) (eM_0 cI ad _) rfl) rfl rfl hl.1 rfl (lv_room (Nat.le_of_ble_eq_true rfl)) dX9_code_12 ⟨Nat.zero_le _, Nat.zero_le _⟩) (fun r12 σ12 H locs h hP hD hS => ?_)
      exact Rt _ _ _ _ _ _ h hP hD hS dX9_code_15
  rw [eH, eL] at goal
  exact goal
abbrev rmX9_distance : Room := { frames := 2, cells := 0, slots := 0, locals := 60 }
set_option maxRecDepth 100000 in
set_option maxHeartbeats 4000000 in
theorem mtX9_distance {l : Launch} {D : va_G} {cI : ClassId} {ad : Nat → Nat} {sz : Nat} {σ : wx_Z} {K : Int32 → wx_Z → Prop} (h : wpX9_distance σ K) : Met l yX9_distance wsX9_distance rmX9_distance (wx_Pre D [(cI, .int)] wx_T0 14 (wM_E cI ad) ad σ sz [.ref (ad 0)]) (va_Qi K (wx_B D [(cI, .int)] 14 (wM_E cI ad) ad (va_A (wx_w 14 (wM_E cI ad) ad σ) sz)) (va_A (wx_w 14 (wM_E cI ad) ad σ) sz)) 0 0 (va_A (wx_w 14 (wM_E cI ad) ad σ) sz) := by
  unfold wpX9_distance at h
  refine wx_meti (cc := cX9_distance) (maxL := 1) (own := RX9) rfl (by decide) rfl (Nat.le_of_ble_eq_true rfl) wx_T0_ok ?_
  intro p e s m args below meth c A Q ls C Rt hP hD hS hl
  obtain ⟨⟨hx, hb, hml, hown, hts⟩, hA, hK, hRO, hro⟩ := id C
  have hl : lv_has ls 1 [(0, .ref (ad 0))] := hl
  obtain ⟨H, eH⟩ : ∃ z, z = s.heap := ⟨_, rfl⟩
  obtain ⟨locs, eL⟩ : ∃ z : List Loc, z = [] := ⟨_, rfl⟩
  rw [← eH] at hP
  have hS : va_S A s.heap H locs := by rw [eH, eL]; exact hS
  have goal : W p l e rmX9_distance s m args below meth c H locs 0 0 Q (F0 m 0 ls []) := by
    refine lv_iconst (v := 1) hx hb dX9_distance_0 (by decide) ?_
    refine lv_aload_n hx hb dX9_distance_1 rfl (lv_at hl 0 rfl) ?_
    refine wx_ci C hD hS (va_runV (As := []) (rest := [.int 1]) C.1 (mtX9_length (l := l) (D := D) (sz := H.size) h) (cwV 0 hts gX9_distance_X9_length rfl rfl rfl nyX9_length ⟨Nat.le_of_ble_eq_true rfl, Nat.le_of_ble_eq_true rfl⟩) (wx_pv C hP hD hS (q := 0) (ci := 9) (Nat.le_of_ble_eq_true rfl) (eM_0 cI ad _) rfl) rfl rfl hl.1 rfl (lv_room (Nat.le_of_ble_eq_true rfl)) dX9_distance_2 ⟨Nat.zero_le _, Nat.zero_le _⟩) (fun r2 σ2 H locs h hP hD hS => ?_)
    refine lv_aload_n hx hb dX9_distance_5 rfl (lv_at hl 0 rfl) ?_
    refine wx_ci C hD hS (va_runV (As := []) (rest := [.int r2, .int 1]) C.1 (mtX9_order (l := l) (D := D) (sz := H.size) h) (cwV 0 hts gX9_distance_X9_order rfl rfl rfl nyX9_order ⟨Nat.le_of_ble_eq_true rfl, Nat.le_of_ble_eq_true rfl⟩) (wx_pv C hP hD hS (q := 0) (ci := 9) (Nat.le_of_ble_eq_true rfl) (eM_0 cI ad _) rfl) rfl rfl hl.1 rfl (lv_room (Nat.le_of_ble_eq_true rfl)) dX9_distance_6 ⟨Nat.zero_le _, Nat.zero_le _⟩) (fun r6 σ6 H locs h hP hD hS => ?_)
    refine lv_isub hx hb dX9_distance_9 ?_
    refine lv_ishl hx hb dX9_distance_10 ?_
    exact Rt _ _ _ _ _ _ h hP hD hS dX9_distance_11
  rw [eH, eL] at goal
  exact goal
abbrev rmX9_of : Room := { frames := 5, cells := 0, slots := 0, locals := 123 }
theorem nyX9_distance : yX9_distance.cls = RX9 ∧ yX9_distance.cls ≠ "java/lang/invoke/MethodHandle" ∧ yX9_distance.cls ≠ "java/lang/invoke/VarHandle" ∧ (parseMethodDescriptor yX9_distance.desc).map (fun d => d.parameters.length) = some 0 := by decide +kernel
set_option maxRecDepth 100000 in
set_option maxHeartbeats 4000000 in
theorem mtX9_of {l : Launch} {D : va_G} {cI : ClassId} {ad : Nat → Nat} {sz : Nat} {σ : wx_Z} {x1 : Int32} {K : Int32 → wx_Z → Prop} (h : wpX9_of σ x1 K) : Met l yX9_of wsX9_of rmX9_of (wx_Pre D [(cI, .int)] wx_T0 14 (wM_E cI ad) ad σ sz [.ref (ad 0), .int x1]) (va_Qi K (wx_B D [(cI, .int)] 14 (wM_E cI ad) ad (va_A (wx_w 14 (wM_E cI ad) ad σ) sz)) (va_A (wx_w 14 (wM_E cI ad) ad σ) sz)) 0 0 (va_A (wx_w 14 (wM_E cI ad) ad σ) sz) := by
  unfold wpX9_of at h
  refine wx_meti (cc := cX9_of) (maxL := 2) (own := RX9) rfl (by decide) rfl (Nat.le_of_ble_eq_true rfl) wx_T0_ok ?_
  intro p e s m args below meth c A Q ls C Rt hP hD hS hl
  obtain ⟨⟨hx, hb, hml, hown, hts⟩, hA, hK, hRO, hro⟩ := id C
  have hl : lv_has ls 2 [(0, .ref (ad 0)), (1, .int x1)] := hl
  obtain ⟨H, eH⟩ : ∃ z, z = s.heap := ⟨_, rfl⟩
  obtain ⟨locs, eL⟩ : ∃ z : List Loc, z = [] := ⟨_, rfl⟩
  rw [← eH] at hP
  have hS : va_S A s.heap H locs := by rw [eH, eL]; exact hS
  have goal : W p l e rmX9_of s m args below meth c H locs 0 0 Q (F0 m 0 ls []) := by
    refine lv_iload_n hx hb dX9_of_0 rfl (lv_at hl 1 rfl) ?_
    refine lv_i2l (v := Int32.toInt64 x1) hx hb dX9_of_1 rfl ?_
    refine lv_lconst (v := 0) hx hb dX9_of_2 (by decide) ?_
    refine lv_ldc2 hx hb hown (hts _ (List.mem_of_getElem? (i := 1) rfl)) dX9_of_3 ?_
    refine wx_ci C hD hS (va_runS (As := [.long (Int32.toInt64 x1), .long 0, .long 5]) (rest := []) C.1 (mtX9_in (l := l) (D := D) (sz := H.size) h) (va_cwS 3 hts gX9_of_X9_in rfl rfl rfl nyX9_in.2 ⟨Nat.le_of_ble_eq_true rfl, Nat.le_of_ble_eq_true rfl⟩) (wx_ps C hP hD hS) rfl rfl hl.1 rfl (lv_room (Nat.le_of_ble_eq_true rfl)) dX9_of_6 ⟨Nat.zero_le _, Nat.zero_le _⟩) (fun r6 σ6 H locs h hP hD hS => ?_)
    refine lv_if_ne (tgt := 19) hx hb dX9_of_9 (by decide) (fun c9 => ?_) (fun c9 => ?_)
    · have h := h.1 c9
      refine lv_iload_n hx hb dX9_of_19 rfl (lv_at hl 1 rfl) ?_
      refine lv_if_ne (tgt := 30) hx hb dX9_of_20 (by decide) (fun c20 => ?_) (fun c20 => ?_)
      · have h := h.1 c20
        refine lv_iload_n hx hb dX9_of_30 rfl (lv_at hl 1 rfl) ?_
        refine lv_iconst (v := 1) hx hb dX9_of_31 (by decide) ?_
        refine lv_icmp_ne (tgt := 42) hx hb dX9_of_32 (by decide) (fun c32 => ?_) (fun c32 => ?_)
        · have h := h.1 c32
          refine lv_iload_n hx hb dX9_of_42 rfl (lv_at hl 1 rfl) ?_
          refine lv_iconst (v := 2) hx hb dX9_of_43 (by decide) ?_
          refine lv_icmp_ne (tgt := 54) hx hb dX9_of_44 (by decide) (fun c44 => ?_) (fun c44 => ?_)
          · have h := h.1 c44
            refine lv_iload_n hx hb dX9_of_54 rfl (lv_at hl 1 rfl) ?_
            refine lv_iconst (v := 3) hx hb dX9_of_55 (by decide) ?_
            refine lv_icmp_ne (tgt := 66) hx hb dX9_of_56 (by decide) (fun c56 => ?_) (fun c56 => ?_)
            · have h := h.1 c56
              refine lv_iload_n hx hb dX9_of_66 rfl (lv_at hl 1 rfl) ?_
              refine lv_iconst (v := 4) hx hb dX9_of_67 (by decide) ?_
              refine lv_icmp_ne (tgt := 78) hx hb dX9_of_68 (by decide) (fun c68 => ?_) (fun c68 => ?_)
              · have h := h.1 c68
                refine lv_aload_n hx hb dX9_of_78 rfl (lv_at hl 0 rfl) ?_
                refine wx_ci C hD hS (va_runV (As := []) (rest := []) C.1 (mtX9_distance (l := l) (D := D) (sz := H.size) h) (cwV 0 hts gX9_of_X9_distance rfl rfl rfl nyX9_distance ⟨Nat.le_of_ble_eq_true rfl, Nat.le_of_ble_eq_true rfl⟩) (wx_pv C hP hD hS (q := 0) (ci := 9) (Nat.le_of_ble_eq_true rfl) (eM_0 cI ad _) rfl) rfl rfl hl.1 rfl (lv_room (Nat.le_of_ble_eq_true rfl)) dX9_of_79 ⟨Nat.zero_le _, Nat.zero_le _⟩) (fun r79 σ79 H locs h hP hD hS => ?_)
                refine lv_iconst (v := 1) hx hb dX9_of_82 (by decide) ?_
                refine lv_isub hx hb dX9_of_83 ?_
                refine lv_iconst (v := 2) hx hb dX9_of_84 (by decide) ?_
                refine lv_idiv hx hb dX9_of_85 h.1 ?_
                have h := h.2
                exact Rt _ _ _ _ _ _ h hP hD hS dX9_of_86
              · have h := h.2 c68
                refine lv_aload_n hx hb dX9_of_71 rfl (lv_at hl 0 rfl) ?_
                refine wx_ci C hD hS (va_runV (As := []) (rest := []) C.1 (mtX9_places (l := l) (D := D) (sz := H.size) h) (cwV 0 hts gX9_of_X9_places rfl rfl rfl nyX9_places ⟨Nat.le_of_ble_eq_true rfl, Nat.le_of_ble_eq_true rfl⟩) (wx_pv C hP hD hS (q := 0) (ci := 9) (Nat.le_of_ble_eq_true rfl) (eM_0 cI ad _) rfl) rfl rfl hl.1 rfl (lv_room (Nat.le_of_ble_eq_true rfl)) dX9_of_72 ⟨Nat.zero_le _, Nat.zero_le _⟩) (fun r72 σ72 H locs h hP hD hS => ?_)
                refine lv_goto (tgt := 86) hx hb dX9_of_75 (by decide) ?_
                exact Rt _ _ _ _ _ _ h hP hD hS dX9_of_86
            · have h := h.2 c56
              refine lv_aload_n hx hb dX9_of_59 rfl (lv_at hl 0 rfl) ?_
              refine wx_ci C hD hS (va_runV (As := []) (rest := []) C.1 (mtX9_distance (l := l) (D := D) (sz := H.size) h) (cwV 0 hts gX9_of_X9_distance rfl rfl rfl nyX9_distance ⟨Nat.le_of_ble_eq_true rfl, Nat.le_of_ble_eq_true rfl⟩) (wx_pv C hP hD hS (q := 0) (ci := 9) (Nat.le_of_ble_eq_true rfl) (eM_0 cI ad _) rfl) rfl rfl hl.1 rfl (lv_room (Nat.le_of_ble_eq_true rfl)) dX9_of_60 ⟨Nat.zero_le _, Nat.zero_le _⟩) (fun r60 σ60 H locs h hP hD hS => ?_)
              refine lv_goto (tgt := 86) hx hb dX9_of_63 (by decide) ?_
              exact Rt _ _ _ _ _ _ h hP hD hS dX9_of_86
          · have h := h.2 c44
            refine lv_aload_n hx hb dX9_of_47 rfl (lv_at hl 0 rfl) ?_
            refine wx_ci C hD hS (va_runV (As := []) (rest := []) C.1 (mtX9_many (l := l) (D := D) (sz := H.size) h) (cwV 0 hts gX9_of_X9_many rfl rfl rfl nyX9_many ⟨Nat.le_of_ble_eq_true rfl, Nat.le_of_ble_eq_true rfl⟩) (wx_pv C hP hD hS (q := 0) (ci := 9) (Nat.le_of_ble_eq_true rfl) (eM_0 cI ad _) rfl) rfl rfl hl.1 rfl (lv_room (Nat.le_of_ble_eq_true rfl)) dX9_of_48 ⟨Nat.zero_le _, Nat.zero_le _⟩) (fun r48 σ48 H locs h hP hD hS => ?_)
            refine lv_goto (tgt := 86) hx hb dX9_of_51 (by decide) ?_
            exact Rt _ _ _ _ _ _ h hP hD hS dX9_of_86
        · have h := h.2 c32
          refine lv_aload_n hx hb dX9_of_35 rfl (lv_at hl 0 rfl) ?_
          refine wx_ci C hD hS (va_runV (As := []) (rest := []) C.1 (mtX9_length (l := l) (D := D) (sz := H.size) h) (cwV 0 hts gX9_of_X9_length rfl rfl rfl nyX9_length ⟨Nat.le_of_ble_eq_true rfl, Nat.le_of_ble_eq_true rfl⟩) (wx_pv C hP hD hS (q := 0) (ci := 9) (Nat.le_of_ble_eq_true rfl) (eM_0 cI ad _) rfl) rfl rfl hl.1 rfl (lv_room (Nat.le_of_ble_eq_true rfl)) dX9_of_36 ⟨Nat.zero_le _, Nat.zero_le _⟩) (fun r36 σ36 H locs h hP hD hS => ?_)
          refine lv_goto (tgt := 86) hx hb dX9_of_39 (by decide) ?_
          exact Rt _ _ _ _ _ _ h hP hD hS dX9_of_86
      · have h := h.2 c20
        refine lv_aload_n hx hb dX9_of_23 rfl (lv_at hl 0 rfl) ?_
        refine wx_ci C hD hS (va_runV (As := []) (rest := []) C.1 (mtX9_order (l := l) (D := D) (sz := H.size) h) (cwV 0 hts gX9_of_X9_order rfl rfl rfl nyX9_order ⟨Nat.le_of_ble_eq_true rfl, Nat.le_of_ble_eq_true rfl⟩) (wx_pv C hP hD hS (q := 0) (ci := 9) (Nat.le_of_ble_eq_true rfl) (eM_0 cI ad _) rfl) rfl rfl hl.1 rfl (lv_room (Nat.le_of_ble_eq_true rfl)) dX9_of_24 ⟨Nat.zero_le _, Nat.zero_le _⟩) (fun r24 σ24 H locs h hP hD hS => ?_)
        refine lv_goto (tgt := 86) hx hb dX9_of_27 (by decide) ?_
        exact Rt _ _ _ _ _ _ h hP hD hS dX9_of_86
    · have h := h.2 c9
      refine lv_aload_n hx hb dX9_of_12 rfl (lv_at hl 0 rfl) ?_
      refine lv_bipush (v := (-2)) hx hb dX9_of_13 (by decide) ?_
      refine wx_ci C hD hS (va_runV (As := [.int (-2)]) (rest := []) C.1 (mtX9_bad (l := l) (D := D) (sz := H.size) h) (cwV 1 hts gX9_of_X9_bad rfl rfl rfl nyX9_bad ⟨Nat.le_of_ble_eq_true rfl, Nat.le_of_ble_eq_true rfl⟩) (wx_pv C hP hD hS (q := 0) (ci := 9) (Nat.le_of_ble_eq_true rfl) (eM_0 cI ad _) rfl) rfl rfl hl.1 rfl (lv_room (Nat.le_of_ble_eq_true rfl)) dX9_of_15 ⟨Nat.zero_le _, Nat.zero_le _⟩) (fun r15 σ15 H locs h hP hD hS => ?_)
      exact Rt _ _ _ _ _ _ h hP hD hS dX9_of_18
  rw [eH, eL] at goal
  exact goal
